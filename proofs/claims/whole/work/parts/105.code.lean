-- X9_digest
theorem mw_X9_264 : Cond.methodLink RX9 264 yX9_withDraft ∈ WT := WT_of 930 (by decide +kernel) (by decide +kernel)
theorem mw_X9_268 : Cond.methodLink RX9 268 yX9_withGroup ∈ WT := WT_of 934 (by decide +kernel) (by decide +kernel)
theorem mw_X9_272 : Cond.methodLink RX9 272 yX9_withEvents ∈ WT := WT_of 938 (by decide +kernel) (by decide +kernel)
theorem dX9_digest_0 : decode cX9_digest 0 = .ok (.ldc2_w 258, 3) := by decide +kernel
theorem dX9_digest_3 : decode cX9_digest 3 = .ok (.aload_n 0, 1) := by decide +kernel
theorem dX9_digest_4 : decode cX9_digest 4 = .ok (.getfield 19, 3) := by decide +kernel
theorem dX9_digest_7 : decode cX9_digest 7 = .ok (.getfield 132, 3) := by decide +kernel
theorem dX9_digest_10 : decode cX9_digest 10 = .ok (.i2l, 1) := by decide +kernel
theorem dX9_digest_11 : decode cX9_digest 11 = .ok (.invokestatic 260, 3) := by decide +kernel
theorem dX9_digest_14 : decode cX9_digest 14 = .ok (.lstore_n 1, 1) := by decide +kernel
theorem dX9_digest_15 : decode cX9_digest 15 = .ok (.lload_n 1, 1) := by decide +kernel
theorem dX9_digest_16 : decode cX9_digest 16 = .ok (.aload_n 0, 1) := by decide +kernel
theorem dX9_digest_17 : decode cX9_digest 17 = .ok (.getfield 19, 3) := by decide +kernel
theorem dX9_digest_20 : decode cX9_digest 20 = .ok (.getfield 109, 3) := by decide +kernel
theorem dX9_digest_23 : decode cX9_digest 23 = .ok (.i2l, 1) := by decide +kernel
theorem dX9_digest_24 : decode cX9_digest 24 = .ok (.invokestatic 260, 3) := by decide +kernel
theorem dX9_digest_27 : decode cX9_digest 27 = .ok (.lstore_n 1, 1) := by decide +kernel
theorem dX9_digest_28 : decode cX9_digest 28 = .ok (.lload_n 1, 1) := by decide +kernel
theorem dX9_digest_29 : decode cX9_digest 29 = .ok (.aload_n 0, 1) := by decide +kernel
theorem dX9_digest_30 : decode cX9_digest 30 = .ok (.getfield 19, 3) := by decide +kernel
theorem dX9_digest_33 : decode cX9_digest 33 = .ok (.getfield 112, 3) := by decide +kernel
theorem dX9_digest_36 : decode cX9_digest 36 = .ok (.ifCond .eq 7, 3) := by decide +kernel
theorem dX9_digest_39 : decode cX9_digest 39 = .ok (.lconst 1, 1) := by decide +kernel
theorem dX9_digest_40 : decode cX9_digest 40 = .ok (.goto 4, 3) := by decide +kernel
theorem dX9_digest_43 : decode cX9_digest 43 = .ok (.lconst 0, 1) := by decide +kernel
theorem dX9_digest_44 : decode cX9_digest 44 = .ok (.invokestatic 260, 3) := by decide +kernel
theorem dX9_digest_47 : decode cX9_digest 47 = .ok (.lstore_n 1, 1) := by decide +kernel
theorem dX9_digest_48 : decode cX9_digest 48 = .ok (.lload_n 1, 1) := by decide +kernel
theorem dX9_digest_49 : decode cX9_digest 49 = .ok (.aload_n 0, 1) := by decide +kernel
theorem dX9_digest_50 : decode cX9_digest 50 = .ok (.getfield 19, 3) := by decide +kernel
theorem dX9_digest_53 : decode cX9_digest 53 = .ok (.getfield 93, 3) := by decide +kernel
theorem dX9_digest_56 : decode cX9_digest 56 = .ok (.ifCond .eq 7, 3) := by decide +kernel
theorem dX9_digest_59 : decode cX9_digest 59 = .ok (.lconst 1, 1) := by decide +kernel
theorem dX9_digest_60 : decode cX9_digest 60 = .ok (.goto 4, 3) := by decide +kernel
theorem dX9_digest_63 : decode cX9_digest 63 = .ok (.lconst 0, 1) := by decide +kernel
theorem dX9_digest_64 : decode cX9_digest 64 = .ok (.invokestatic 260, 3) := by decide +kernel
theorem dX9_digest_67 : decode cX9_digest 67 = .ok (.lstore_n 1, 1) := by decide +kernel
theorem dX9_digest_68 : decode cX9_digest 68 = .ok (.lload_n 1, 1) := by decide +kernel
theorem dX9_digest_69 : decode cX9_digest 69 = .ok (.aload_n 0, 1) := by decide +kernel
theorem dX9_digest_70 : decode cX9_digest 70 = .ok (.getfield 19, 3) := by decide +kernel
theorem dX9_digest_73 : decode cX9_digest 73 = .ok (.getfield 237, 3) := by decide +kernel
theorem dX9_digest_76 : decode cX9_digest 76 = .ok (.i2l, 1) := by decide +kernel
theorem dX9_digest_77 : decode cX9_digest 77 = .ok (.invokestatic 260, 3) := by decide +kernel
theorem dX9_digest_80 : decode cX9_digest 80 = .ok (.lstore_n 1, 1) := by decide +kernel
theorem dX9_digest_81 : decode cX9_digest 81 = .ok (.iconst 0, 1) := by decide +kernel
theorem dX9_digest_82 : decode cX9_digest 82 = .ok (.istore_n 3, 1) := by decide +kernel
theorem dX9_digest_83 : decode cX9_digest 83 = .ok (.iload_n 3, 1) := by decide +kernel
theorem dX9_digest_84 : decode cX9_digest 84 = .ok (.bipush 16, 2) := by decide +kernel
theorem dX9_digest_86 : decode cX9_digest 86 = .ok (.if_icmp .ge 39, 3) := by decide +kernel
theorem dX9_digest_89 : decode cX9_digest 89 = .ok (.lload_n 1, 1) := by decide +kernel
theorem dX9_digest_90 : decode cX9_digest 90 = .ok (.aload_n 0, 1) := by decide +kernel
theorem dX9_digest_91 : decode cX9_digest 91 = .ok (.getfield 19, 3) := by decide +kernel
theorem dX9_digest_94 : decode cX9_digest 94 = .ok (.getfield 105, 3) := by decide +kernel
theorem dX9_digest_97 : decode cX9_digest 97 = .ok (.iload_n 3, 1) := by decide +kernel
theorem dX9_digest_98 : decode cX9_digest 98 = .ok (.iaload, 1) := by decide +kernel
theorem dX9_digest_99 : decode cX9_digest 99 = .ok (.i2l, 1) := by decide +kernel
theorem dX9_digest_100 : decode cX9_digest 100 = .ok (.invokestatic 260, 3) := by decide +kernel
theorem dX9_digest_103 : decode cX9_digest 103 = .ok (.lstore_n 1, 1) := by decide +kernel
theorem dX9_digest_104 : decode cX9_digest 104 = .ok (.lload_n 1, 1) := by decide +kernel
theorem dX9_digest_105 : decode cX9_digest 105 = .ok (.aload_n 0, 1) := by decide +kernel
theorem dX9_digest_106 : decode cX9_digest 106 = .ok (.getfield 19, 3) := by decide +kernel
theorem dX9_digest_109 : decode cX9_digest 109 = .ok (.getfield 234, 3) := by decide +kernel
theorem dX9_digest_112 : decode cX9_digest 112 = .ok (.iload_n 3, 1) := by decide +kernel
theorem dX9_digest_113 : decode cX9_digest 113 = .ok (.iaload, 1) := by decide +kernel
theorem dX9_digest_114 : decode cX9_digest 114 = .ok (.i2l, 1) := by decide +kernel
theorem dX9_digest_115 : decode cX9_digest 115 = .ok (.invokestatic 260, 3) := by decide +kernel
theorem dX9_digest_118 : decode cX9_digest 118 = .ok (.lstore_n 1, 1) := by decide +kernel
theorem dX9_digest_119 : decode cX9_digest 119 = .ok (.iinc 3 1, 3) := by decide +kernel
theorem dX9_digest_122 : decode cX9_digest 122 = .ok (.goto (-39), 3) := by decide +kernel
theorem dX9_digest_125 : decode cX9_digest 125 = .ok (.aload_n 0, 1) := by decide +kernel
theorem dX9_digest_126 : decode cX9_digest 126 = .ok (.lload_n 1, 1) := by decide +kernel
theorem dX9_digest_127 : decode cX9_digest 127 = .ok (.invokevirtual 264, 3) := by decide +kernel
theorem dX9_digest_130 : decode cX9_digest 130 = .ok (.lstore_n 1, 1) := by decide +kernel
theorem dX9_digest_131 : decode cX9_digest 131 = .ok (.iconst 0, 1) := by decide +kernel
theorem dX9_digest_132 : decode cX9_digest 132 = .ok (.istore_n 3, 1) := by decide +kernel
theorem dX9_digest_133 : decode cX9_digest 133 = .ok (.iload_n 3, 1) := by decide +kernel
theorem dX9_digest_134 : decode cX9_digest 134 = .ok (.aload_n 0, 1) := by decide +kernel
theorem dX9_digest_135 : decode cX9_digest 135 = .ok (.getfield 19, 3) := by decide +kernel
theorem dX9_digest_138 : decode cX9_digest 138 = .ok (.getfield 90, 3) := by decide +kernel
theorem dX9_digest_141 : decode cX9_digest 141 = .ok (.if_icmp .ge 24, 3) := by decide +kernel
theorem dX9_digest_144 : decode cX9_digest 144 = .ok (.aload_n 0, 1) := by decide +kernel
theorem dX9_digest_145 : decode cX9_digest 145 = .ok (.lload_n 1, 1) := by decide +kernel
theorem dX9_digest_146 : decode cX9_digest 146 = .ok (.aload_n 0, 1) := by decide +kernel
theorem dX9_digest_147 : decode cX9_digest 147 = .ok (.getfield 19, 3) := by decide +kernel
theorem dX9_digest_150 : decode cX9_digest 150 = .ok (.getfield 138, 3) := by decide +kernel
theorem dX9_digest_153 : decode cX9_digest 153 = .ok (.iload_n 3, 1) := by decide +kernel
theorem dX9_digest_154 : decode cX9_digest 154 = .ok (.aaload, 1) := by decide +kernel
theorem dX9_digest_155 : decode cX9_digest 155 = .ok (.invokevirtual 268, 3) := by decide +kernel
theorem dX9_digest_158 : decode cX9_digest 158 = .ok (.lstore_n 1, 1) := by decide +kernel
theorem dX9_digest_159 : decode cX9_digest 159 = .ok (.iinc 3 1, 3) := by decide +kernel
theorem dX9_digest_162 : decode cX9_digest 162 = .ok (.goto (-29), 3) := by decide +kernel
theorem dX9_digest_165 : decode cX9_digest 165 = .ok (.aload_n 0, 1) := by decide +kernel
theorem dX9_digest_166 : decode cX9_digest 166 = .ok (.lload_n 1, 1) := by decide +kernel
theorem dX9_digest_167 : decode cX9_digest 167 = .ok (.invokevirtual 272, 3) := by decide +kernel
theorem dX9_digest_170 : decode cX9_digest 170 = .ok (.lreturn, 1) := by decide +kernel
def rm_X9_digest : Room := { frames := 3, cells := 0, slots := 0, locals := 70 }
section
variable {p : Program} {l : Launch} {e : Env} {s : State} {m : MethodId} {args : Array Value} {below : List Frame} {meth : Method} {c : Code} {Q : State → Prop} {G : va_G} {aC : Nat → ClassId} {t b0 : Nat}
def f_X9_digest_L83 (v0 : Nat) (k125 : Int64 → AH → Option (Int64 × AH)) : Nat → Int64 → Int32 → AH → Option (Int64 × AH)
  | 0, _, _, _ => none
  | n + 1, v1, v3, N => if (16 : Int32) ≤ v3 then k125 v1 N else ob (hR N v0 9 1) (fun x24 => ob (hR N x24 7 7) (fun x25 => ob (aI N x25 v3) (fun x26 => ob2 (f_X9_mixed v1 (Int32.toInt64 x26) N) (fun x28 N27 => ob (hR N27 v0 9 1) (fun x29 => ob (hR N27 x29 7 8) (fun x30 => ob (aI N27 x30 v3) (fun x31 => ob2 (f_X9_mixed x28 (Int32.toInt64 x31) N27) (fun x33 N32 => f_X9_digest_L83 v0 k125 n x33 (v3 + 1) N32))))))))
set_option maxHeartbeats 4000000 in
set_option maxRecDepth 100000 in
theorem w_X9_digest_L83 {P : Int64 × AH → Prop} (X : CX cX9_digest RX9 4 G aC t b0 p s m args c) (hr : RtJ p l e rm_X9_digest s m args below meth c 0 0 Q cX9_digest G aC b0 P) (v0 : Nat) {k125 : Int64 → AH → Option (Int64 × AH)}
    (hk125 : ∀ (v1 : Int64) (N : AH) (H : Heap) (locs : List Loc) (ls : Array Slot), Rp G aC b0 N H → va_S (fun q => b0 ≤ q) s.heap H locs → lv_has ls 4 [(0, .ref v0), (1, .long v1)] → owp (k125 v1 N) P → W p l e rm_X9_digest s m args below meth c H locs 0 0 Q (F0 m 125 ls [])) :
    ∀ (n : Nat) (v1 : Int64) (v3 : Int32) (N : AH) (H : Heap) (locs : List Loc) (ls : Array Slot), Rp G aC b0 N H → va_S (fun q => b0 ≤ q) s.heap H locs → lv_has ls 4 [(0, .ref v0), (1, .long v1), (3, .int v3)] → owp (f_X9_digest_L83 v0 k125 n v1 v3 N) P → W p l e rm_X9_digest s m args below meth c H locs 0 0 Q (F0 m 83 ls []) := by
  have hx := X.1.1
  have hb := X.1.2.1
  intro n
  induction n with
  | zero =>
    intro v1 v3 N H locs ls hR hS hl hp
    exact (show False from hp).elim
  | succ n ih =>
    intro v1 v3 N H locs ls hR hS hl hp
    rw [f_X9_digest_L83] at hp
    refine lv_iload_n hx hb dX9_digest_83 rfl (lv_at hl 2 rfl) ?_
    refine lv_bipush (v := (16)) hx hb dX9_digest_84 (by decide) ?_
    refine lv_icmp_ge (tgt := 125) hx hb dX9_digest_86 (by decide) (fun k23 => ?_) (fun k23 => ?_)
    · have hp := owp_t k23 hp
      exact hk125 _ _ _ _ _ hR hS (lv_sub hl [0, 1] rfl) hp
    · have hp := owp_f k23 hp
      refine lv_lload_n hx hb dX9_digest_89 rfl (lv_at hl 1 rfl) ?_
      refine lv_aload_n hx hb dX9_digest_90 rfl (lv_at hl 0 rfl) ?_
      obtain ⟨x24, e_x24, hp⟩ := owp_ob hp
      refine gf_X9_19 X hR e_x24 dX9_digest_91 ?_
      obtain ⟨x25, e_x25, hp⟩ := owp_ob hp
      refine gf_X9_105 X hR e_x25 dX9_digest_94 ?_
      refine lv_iload_n hx hb dX9_digest_97 rfl (lv_at hl 2 rfl) ?_
      obtain ⟨x26, e_x26, hp⟩ := owp_ob hp
      refine ab_iald X hR e_x26 dX9_digest_98 ?_
      refine lv_i2l (v := Int32.toInt64 x26) hx hb dX9_digest_99 rfl ?_
      obtain ⟨x28, N27, e_N27, hp⟩ := owp_ob2 hp
      refine iv_X9_mixed (rest := []) mw_X9_260 X hR hS e_N27 hl.1 (Nat.le_of_ble_eq_true rfl) ⟨Nat.le_of_ble_eq_true rfl, Nat.le_of_ble_eq_true rfl⟩ ⟨Nat.le_of_ble_eq_true rfl, Nat.le_of_ble_eq_true rfl⟩ dX9_digest_100 (fun H locs hR hS => ?_)
      refine lv_lstore_n (lv' := [(1, .long x28), (0, .ref v0), (3, .int v3)]) hx hb dX9_digest_103 rfl hl (by decide) rfl (fun ls hl => ?_)
      refine lv_lload_n hx hb dX9_digest_104 rfl (lv_at hl 0 rfl) ?_
      refine lv_aload_n hx hb dX9_digest_105 rfl (lv_at hl 1 rfl) ?_
      obtain ⟨x29, e_x29, hp⟩ := owp_ob hp
      refine gf_X9_19 X hR e_x29 dX9_digest_106 ?_
      obtain ⟨x30, e_x30, hp⟩ := owp_ob hp
      refine gf_X9_234 X hR e_x30 dX9_digest_109 ?_
      refine lv_iload_n hx hb dX9_digest_112 rfl (lv_at hl 2 rfl) ?_
      obtain ⟨x31, e_x31, hp⟩ := owp_ob hp
      refine ab_iald X hR e_x31 dX9_digest_113 ?_
      refine lv_i2l (v := Int32.toInt64 x31) hx hb dX9_digest_114 rfl ?_
      obtain ⟨x33, N32, e_N32, hp⟩ := owp_ob2 hp
      refine iv_X9_mixed (rest := []) mw_X9_260 X hR hS e_N32 hl.1 (Nat.le_of_ble_eq_true rfl) ⟨Nat.le_of_ble_eq_true rfl, Nat.le_of_ble_eq_true rfl⟩ ⟨Nat.le_of_ble_eq_true rfl, Nat.le_of_ble_eq_true rfl⟩ dX9_digest_115 (fun H locs hR hS => ?_)
      refine lv_lstore_n (lv' := [(1, .long x33), (0, .ref v0), (3, .int v3)]) hx hb dX9_digest_118 rfl hl (by decide) rfl (fun ls hl => ?_)
      refine lv_iinc (v := v3 + 1) (lv' := [(3, .int (v3 + 1)), (1, .long x33), (0, .ref v0)]) hx hb dX9_digest_119 hl (k := 2) rfl rfl (by decide) rfl (fun ls hl => ?_)
      refine lv_goto (tgt := 83) hx hb dX9_digest_122 (by decide) ?_
      exact ih _ _ _ _ _ _ hR hS (lv_sub hl [2, 1, 0] rfl) hp
def f_X9_digest_L133 (v0 : Nat) (k165 : Int64 → AH → Option (Int64 × AH)) : Nat → Int64 → Int32 → AH → Option (Int64 × AH)
  | 0, _, _, _ => none
  | n + 1, v1, v3, N => ob (hR N v0 9 1) (fun x38 => ob (hI N x38 7 6) (fun x39 => if x39 ≤ v3 then k165 v1 N else ob (hR N v0 9 1) (fun x41 => ob (hR N x41 7 10) (fun x42 => ob (aR N 2 x42 v3) (fun x43 => ob2 (f_X9_withGroup v0 v1 x43 N) (fun x45 N44 => f_X9_digest_L133 v0 k165 n x45 (v3 + 1) N44))))))
set_option maxHeartbeats 4000000 in
set_option maxRecDepth 100000 in
theorem w_X9_digest_L133 {P : Int64 × AH → Prop} (X : CX cX9_digest RX9 4 G aC t b0 p s m args c) (hr : RtJ p l e rm_X9_digest s m args below meth c 0 0 Q cX9_digest G aC b0 P) (v0 : Nat) {k165 : Int64 → AH → Option (Int64 × AH)}
    (hk165 : ∀ (v1 : Int64) (N : AH) (H : Heap) (locs : List Loc) (ls : Array Slot), Rp G aC b0 N H → va_S (fun q => b0 ≤ q) s.heap H locs → lv_has ls 4 [(0, .ref v0), (1, .long v1)] → owp (k165 v1 N) P → W p l e rm_X9_digest s m args below meth c H locs 0 0 Q (F0 m 165 ls [])) :
    ∀ (n : Nat) (v1 : Int64) (v3 : Int32) (N : AH) (H : Heap) (locs : List Loc) (ls : Array Slot), Rp G aC b0 N H → va_S (fun q => b0 ≤ q) s.heap H locs → lv_has ls 4 [(0, .ref v0), (1, .long v1), (3, .int v3)] → owp (f_X9_digest_L133 v0 k165 n v1 v3 N) P → W p l e rm_X9_digest s m args below meth c H locs 0 0 Q (F0 m 133 ls []) := by
  have hx := X.1.1
  have hb := X.1.2.1
  intro n
  induction n with
  | zero =>
    intro v1 v3 N H locs ls hR hS hl hp
    exact (show False from hp).elim
  | succ n ih =>
    intro v1 v3 N H locs ls hR hS hl hp
    rw [f_X9_digest_L133] at hp
    refine lv_iload_n hx hb dX9_digest_133 rfl (lv_at hl 2 rfl) ?_
    refine lv_aload_n hx hb dX9_digest_134 rfl (lv_at hl 0 rfl) ?_
    obtain ⟨x38, e_x38, hp⟩ := owp_ob hp
    refine gf_X9_19 X hR e_x38 dX9_digest_135 ?_
    obtain ⟨x39, e_x39, hp⟩ := owp_ob hp
    refine gf_X9_90 X hR e_x39 dX9_digest_138 ?_
    refine lv_icmp_ge (tgt := 165) hx hb dX9_digest_141 (by decide) (fun k40 => ?_) (fun k40 => ?_)
    · have hp := owp_t k40 hp
      exact hk165 _ _ _ _ _ hR hS (lv_sub hl [0, 1] rfl) hp
    · have hp := owp_f k40 hp
      refine lv_aload_n hx hb dX9_digest_144 rfl (lv_at hl 0 rfl) ?_
      refine lv_lload_n hx hb dX9_digest_145 rfl (lv_at hl 1 rfl) ?_
      refine lv_aload_n hx hb dX9_digest_146 rfl (lv_at hl 0 rfl) ?_
      obtain ⟨x41, e_x41, hp⟩ := owp_ob hp
      refine gf_X9_19 X hR e_x41 dX9_digest_147 ?_
      obtain ⟨x42, e_x42, hp⟩ := owp_ob hp
      refine gf_X9_138 X hR e_x42 dX9_digest_150 ?_
      refine lv_iload_n hx hb dX9_digest_153 rfl (lv_at hl 2 rfl) ?_
      obtain ⟨x43, e_x43, hp⟩ := owp_ob hp
      refine ab_aald X hR (kd := 2) rfl e_x43 dX9_digest_154 ?_
      obtain ⟨x45, N44, e_N44, hp⟩ := owp_ob2 hp
      refine iv_X9_withGroup (rest := []) mw_X9_268 X hR hS e_N44 hl.1 (Nat.le_of_ble_eq_true rfl) ⟨Nat.le_of_ble_eq_true rfl, Nat.le_of_ble_eq_true rfl⟩ ⟨Nat.le_of_ble_eq_true rfl, Nat.le_of_ble_eq_true rfl⟩ dX9_digest_155 (fun H locs hR hS => ?_)
      refine lv_lstore_n (lv' := [(1, .long x45), (0, .ref v0), (3, .int v3)]) hx hb dX9_digest_158 rfl hl (by decide) rfl (fun ls hl => ?_)
      refine lv_iinc (v := v3 + 1) (lv' := [(3, .int (v3 + 1)), (1, .long x45), (0, .ref v0)]) hx hb dX9_digest_159 hl (k := 2) rfl rfl (by decide) rfl (fun ls hl => ?_)
      refine lv_goto (tgt := 133) hx hb dX9_digest_162 (by decide) ?_
      exact ih _ _ _ _ _ _ hR hS (lv_sub hl [2, 1, 0] rfl) hp
def f_X9_digest_J64 (v0 : Nat) (w0 : Int64) (w1 : Int64) (N : AH) : Option (Int64 × AH) := ob2 (f_X9_mixed w0 w1 N) (fun x18 N17 => ob (hR N17 v0 9 1) (fun x19 => ob (hI N17 x19 7 4) (fun x20 => ob2 (f_X9_mixed x18 (Int32.toInt64 x20) N17) (fun x22 N21 => f_X9_digest_L83 v0 (fun v34 N35 => ob2 (f_X9_withDraft v0 v34 N35) (fun x37 N36 => f_X9_digest_L133 v0 (fun v46 N47 => ob2 (f_X9_withEvents v0 v46 N47) (fun x49 N48 => some (x49, N48))) FU x37 (0 : Int32) N36)) FU x22 (0 : Int32) N21))))
set_option maxHeartbeats 4000000 in
set_option maxRecDepth 100000 in
theorem w_X9_digest_J64 {P : Int64 × AH → Prop} (X : CX cX9_digest RX9 4 G aC t b0 p s m args c) (hr : RtJ p l e rm_X9_digest s m args below meth c 0 0 Q cX9_digest G aC b0 P) (v0 : Nat) (w0 : Int64) (w1 : Int64) (N : AH) (H : Heap) (locs : List Loc) (ls : Array Slot) (hR : Rp G aC b0 N H) (hS : va_S (fun q => b0 ≤ q) s.heap H locs) (hl : lv_has ls 4 [(0, .ref v0)]) (hp : owp (f_X9_digest_J64 v0 w0 w1 N) P) : W p l e rm_X9_digest s m args below meth c H locs 0 0 Q (F0 m 64 ls [.long w1, .long w0]) := by
  have hx := X.1.1
  have hb := X.1.2.1
  unfold f_X9_digest_J64 at hp
  obtain ⟨x18, N17, e_N17, hp⟩ := owp_ob2 hp
  refine iv_X9_mixed (rest := []) mw_X9_260 X hR hS e_N17 hl.1 (Nat.le_of_ble_eq_true rfl) ⟨Nat.le_of_ble_eq_true rfl, Nat.le_of_ble_eq_true rfl⟩ ⟨Nat.le_of_ble_eq_true rfl, Nat.le_of_ble_eq_true rfl⟩ dX9_digest_64 (fun H locs hR hS => ?_)
  refine lv_lstore_n (lv' := [(1, .long x18), (0, .ref v0)]) hx hb dX9_digest_67 rfl hl (by decide) rfl (fun ls hl => ?_)
  refine lv_lload_n hx hb dX9_digest_68 rfl (lv_at hl 0 rfl) ?_
  refine lv_aload_n hx hb dX9_digest_69 rfl (lv_at hl 1 rfl) ?_
  obtain ⟨x19, e_x19, hp⟩ := owp_ob hp
  refine gf_X9_19 X hR e_x19 dX9_digest_70 ?_
  obtain ⟨x20, e_x20, hp⟩ := owp_ob hp
  refine gf_X9_237 X hR e_x20 dX9_digest_73 ?_
  refine lv_i2l (v := Int32.toInt64 x20) hx hb dX9_digest_76 rfl ?_
  obtain ⟨x22, N21, e_N21, hp⟩ := owp_ob2 hp
  refine iv_X9_mixed (rest := []) mw_X9_260 X hR hS e_N21 hl.1 (Nat.le_of_ble_eq_true rfl) ⟨Nat.le_of_ble_eq_true rfl, Nat.le_of_ble_eq_true rfl⟩ ⟨Nat.le_of_ble_eq_true rfl, Nat.le_of_ble_eq_true rfl⟩ dX9_digest_77 (fun H locs hR hS => ?_)
  refine lv_lstore_n (lv' := [(1, .long x22), (0, .ref v0)]) hx hb dX9_digest_80 rfl hl (by decide) rfl (fun ls hl => ?_)
  refine lv_iconst (v := (0)) hx hb dX9_digest_81 (by decide) ?_
  refine lv_istore_n (lv' := [(3, .int (0 : Int32)), (1, .long x22), (0, .ref v0)]) hx hb dX9_digest_82 rfl hl (by decide) rfl (fun ls hl => ?_)
  refine w_X9_digest_L83 X hr _ (fun v34 N35 H locs ls hR hS hl hp => ?_) _ _ _ _ _ _ _ hR hS (lv_sub hl [2, 1, 0] rfl) hp
  refine lv_aload_n hx hb dX9_digest_125 rfl (lv_at hl 0 rfl) ?_
  refine lv_lload_n hx hb dX9_digest_126 rfl (lv_at hl 1 rfl) ?_
  obtain ⟨x37, N36, e_N36, hp⟩ := owp_ob2 hp
  refine iv_X9_withDraft (rest := []) mw_X9_264 X hR hS e_N36 hl.1 (Nat.le_of_ble_eq_true rfl) ⟨Nat.le_of_ble_eq_true rfl, Nat.le_of_ble_eq_true rfl⟩ ⟨Nat.le_of_ble_eq_true rfl, Nat.le_of_ble_eq_true rfl⟩ dX9_digest_127 (fun H locs hR hS => ?_)
  refine lv_lstore_n (lv' := [(1, .long x37), (0, .ref v0)]) hx hb dX9_digest_130 rfl hl (by decide) rfl (fun ls hl => ?_)
  refine lv_iconst (v := (0)) hx hb dX9_digest_131 (by decide) ?_
  refine lv_istore_n (lv' := [(3, .int (0 : Int32)), (1, .long x37), (0, .ref v0)]) hx hb dX9_digest_132 rfl hl (by decide) rfl (fun ls hl => ?_)
  refine w_X9_digest_L133 X hr _ (fun v46 N47 H locs ls hR hS hl hp => ?_) _ _ _ _ _ _ _ hR hS (lv_sub hl [2, 1, 0] rfl) hp
  refine lv_aload_n hx hb dX9_digest_165 rfl (lv_at hl 0 rfl) ?_
  refine lv_lload_n hx hb dX9_digest_166 rfl (lv_at hl 1 rfl) ?_
  obtain ⟨x49, N48, e_N48, hp⟩ := owp_ob2 hp
  refine iv_X9_withEvents (rest := []) mw_X9_272 X hR hS e_N48 hl.1 (Nat.le_of_ble_eq_true rfl) ⟨Nat.le_of_ble_eq_true rfl, Nat.le_of_ble_eq_true rfl⟩ ⟨Nat.le_of_ble_eq_true rfl, Nat.le_of_ble_eq_true rfl⟩ dX9_digest_167 (fun H locs hR hS => ?_)
  exact hr _ _ _ _ _ _ hR hS dX9_digest_170 hp
def f_X9_digest_J44 (v0 : Nat) (w0 : Int64) (w1 : Int64) (N : AH) : Option (Int64 × AH) := ob2 (f_X9_mixed w0 w1 N) (fun x13 N12 => ob (hR N12 v0 9 1) (fun x14 => ob (hI N12 x14 7 3) (fun x15 => if x15 = 0 then f_X9_digest_J64 v0 x13 (0 : Int64) N12 else f_X9_digest_J64 v0 x13 (1 : Int64) N12)))
set_option maxHeartbeats 4000000 in
set_option maxRecDepth 100000 in
theorem w_X9_digest_J44 {P : Int64 × AH → Prop} (X : CX cX9_digest RX9 4 G aC t b0 p s m args c) (hr : RtJ p l e rm_X9_digest s m args below meth c 0 0 Q cX9_digest G aC b0 P) (v0 : Nat) (w0 : Int64) (w1 : Int64) (N : AH) (H : Heap) (locs : List Loc) (ls : Array Slot) (hR : Rp G aC b0 N H) (hS : va_S (fun q => b0 ≤ q) s.heap H locs) (hl : lv_has ls 4 [(0, .ref v0)]) (hp : owp (f_X9_digest_J44 v0 w0 w1 N) P) : W p l e rm_X9_digest s m args below meth c H locs 0 0 Q (F0 m 44 ls [.long w1, .long w0]) := by
  have hx := X.1.1
  have hb := X.1.2.1
  unfold f_X9_digest_J44 at hp
  obtain ⟨x13, N12, e_N12, hp⟩ := owp_ob2 hp
  refine iv_X9_mixed (rest := []) mw_X9_260 X hR hS e_N12 hl.1 (Nat.le_of_ble_eq_true rfl) ⟨Nat.le_of_ble_eq_true rfl, Nat.le_of_ble_eq_true rfl⟩ ⟨Nat.le_of_ble_eq_true rfl, Nat.le_of_ble_eq_true rfl⟩ dX9_digest_44 (fun H locs hR hS => ?_)
  refine lv_lstore_n (lv' := [(1, .long x13), (0, .ref v0)]) hx hb dX9_digest_47 rfl hl (by decide) rfl (fun ls hl => ?_)
  refine lv_lload_n hx hb dX9_digest_48 rfl (lv_at hl 0 rfl) ?_
  refine lv_aload_n hx hb dX9_digest_49 rfl (lv_at hl 1 rfl) ?_
  obtain ⟨x14, e_x14, hp⟩ := owp_ob hp
  refine gf_X9_19 X hR e_x14 dX9_digest_50 ?_
  obtain ⟨x15, e_x15, hp⟩ := owp_ob hp
  refine gf_X9_93 X hR e_x15 dX9_digest_53 ?_
  refine lv_if_eq (tgt := 63) hx hb dX9_digest_56 (by decide) (fun k16 => ?_) (fun k16 => ?_)
  · have hp := owp_t k16 hp
    refine lv_lconst (v := 0) hx hb dX9_digest_63 (by decide) ?_
    exact w_X9_digest_J64 X hr _ _ _ _ _ _ _ hR hS (lv_sub hl [1] rfl) hp
  · have hp := owp_f k16 hp
    refine lv_lconst (v := 1) hx hb dX9_digest_59 (by decide) ?_
    refine lv_goto (tgt := 64) hx hb dX9_digest_60 (by decide) ?_
    exact w_X9_digest_J64 X hr _ _ _ _ _ _ _ hR hS (lv_sub hl [1] rfl) hp
def f_X9_digest (v0 : Nat) (N : AH) : Option (Int64 × AH) := ob (iO N v0 9) (fun _ => ob (hR N v0 9 1) (fun x1 => ob (hI N x1 7 0) (fun x2 => ob2 (f_X9_mixed (17 : Int64) (Int32.toInt64 x2) N) (fun x4 N3 => ob (hR N3 v0 9 1) (fun x5 => ob (hI N3 x5 7 1) (fun x6 => ob2 (f_X9_mixed x4 (Int32.toInt64 x6) N3) (fun x8 N7 => ob (hR N7 v0 9 1) (fun x9 => ob (hI N7 x9 7 2) (fun x10 => if x10 = 0 then f_X9_digest_J44 v0 x8 (0 : Int64) N7 else f_X9_digest_J44 v0 x8 (1 : Int64) N7)))))))))
set_option maxHeartbeats 4000000 in
set_option maxRecDepth 100000 in
theorem wk_X9_digest {P : Int64 × AH → Prop} (X : CX cX9_digest RX9 4 G aC t b0 p s m args c) (hr : RtJ p l e rm_X9_digest s m args below meth c 0 0 Q cX9_digest G aC b0 P) (v0 : Nat) (N : AH) (H : Heap) (locs : List Loc) (ls : Array Slot) (hR : Rp G aC b0 N H) (hS : va_S (fun q => b0 ≤ q) s.heap H locs) (hl : lv_has ls 4 [(0, .ref v0)]) (hp : owp (f_X9_digest v0 N) P) : W p l e rm_X9_digest s m args below meth c H locs 0 0 Q (F0 m 0 ls []) := by
  have hx := X.1.1
  have hb := X.1.2.1
  unfold f_X9_digest at hp
  obtain ⟨_, _, hp⟩ := owp_ob hp
  refine lv_ldc2 (own := RX9) (v := 17) hx hb X.1.2.2.2.1 (X.1.2.2.2.2 _ (WT_of 925 (by decide +kernel) (by decide +kernel))) dX9_digest_0 ?_
  refine lv_aload_n hx hb dX9_digest_3 rfl (lv_at hl 0 rfl) ?_
  obtain ⟨x1, e_x1, hp⟩ := owp_ob hp
  refine gf_X9_19 X hR e_x1 dX9_digest_4 ?_
  obtain ⟨x2, e_x2, hp⟩ := owp_ob hp
  refine gf_X9_132 X hR e_x2 dX9_digest_7 ?_
  refine lv_i2l (v := Int32.toInt64 x2) hx hb dX9_digest_10 rfl ?_
  obtain ⟨x4, N3, e_N3, hp⟩ := owp_ob2 hp
  refine iv_X9_mixed (rest := []) mw_X9_260 X hR hS e_N3 hl.1 (Nat.le_of_ble_eq_true rfl) ⟨Nat.le_of_ble_eq_true rfl, Nat.le_of_ble_eq_true rfl⟩ ⟨Nat.le_of_ble_eq_true rfl, Nat.le_of_ble_eq_true rfl⟩ dX9_digest_11 (fun H locs hR hS => ?_)
  refine lv_lstore_n (lv' := [(1, .long x4), (0, .ref v0)]) hx hb dX9_digest_14 rfl hl (by decide) rfl (fun ls hl => ?_)
  refine lv_lload_n hx hb dX9_digest_15 rfl (lv_at hl 0 rfl) ?_
  refine lv_aload_n hx hb dX9_digest_16 rfl (lv_at hl 1 rfl) ?_
  obtain ⟨x5, e_x5, hp⟩ := owp_ob hp
  refine gf_X9_19 X hR e_x5 dX9_digest_17 ?_
  obtain ⟨x6, e_x6, hp⟩ := owp_ob hp
  refine gf_X9_109 X hR e_x6 dX9_digest_20 ?_
  refine lv_i2l (v := Int32.toInt64 x6) hx hb dX9_digest_23 rfl ?_
  obtain ⟨x8, N7, e_N7, hp⟩ := owp_ob2 hp
  refine iv_X9_mixed (rest := []) mw_X9_260 X hR hS e_N7 hl.1 (Nat.le_of_ble_eq_true rfl) ⟨Nat.le_of_ble_eq_true rfl, Nat.le_of_ble_eq_true rfl⟩ ⟨Nat.le_of_ble_eq_true rfl, Nat.le_of_ble_eq_true rfl⟩ dX9_digest_24 (fun H locs hR hS => ?_)
  refine lv_lstore_n (lv' := [(1, .long x8), (0, .ref v0)]) hx hb dX9_digest_27 rfl hl (by decide) rfl (fun ls hl => ?_)
  refine lv_lload_n hx hb dX9_digest_28 rfl (lv_at hl 0 rfl) ?_
  refine lv_aload_n hx hb dX9_digest_29 rfl (lv_at hl 1 rfl) ?_
  obtain ⟨x9, e_x9, hp⟩ := owp_ob hp
  refine gf_X9_19 X hR e_x9 dX9_digest_30 ?_
  obtain ⟨x10, e_x10, hp⟩ := owp_ob hp
  refine gf_X9_112 X hR e_x10 dX9_digest_33 ?_
  refine lv_if_eq (tgt := 43) hx hb dX9_digest_36 (by decide) (fun k11 => ?_) (fun k11 => ?_)
  · have hp := owp_t k11 hp
    refine lv_lconst (v := 0) hx hb dX9_digest_43 (by decide) ?_
    exact w_X9_digest_J44 X hr _ _ _ _ _ _ _ hR hS (lv_sub hl [1] rfl) hp
  · have hp := owp_f k11 hp
    refine lv_lconst (v := 1) hx hb dX9_digest_39 (by decide) ?_
    refine lv_goto (tgt := 44) hx hb dX9_digest_40 (by decide) ?_
    exact w_X9_digest_J44 X hr _ _ _ _ _ _ _ hR hS (lv_sub hl [1] rfl) hp
end
theorem ct_X9_digest {v0 : Nat} {N N1 : AH} {r : Int64} (h : f_X9_digest v0 N = some (r, N1)) : Ct yX9_digest cX9_digest 4 (some .long) rm_X9_digest [.ref v0] N (some (.long r)) N1 :=
  ab_met (own := RX9) (by decide +kernel) rfl (Nat.le_of_ble_eq_true rfl) (fun l G aC t b0 p e s m below meth c ls X hr hlk hnm hR hS hl => wk_X9_digest X (RtJ_met X.1.1 X.1.2.1 hr hlk) _ _ _ _ _ hR hS hl (owp_of h))
theorem cw_X9_digest : Cond.code yX9_digest cX9_digest 4 (some .long) ∈ WT := WT_of 924 (by decide +kernel) (by decide +kernel)
theorem iv_X9_digest {p : Program} {l : Launch} {e : Env} {R : Room} {s : State} {m : MethodId} {args : Array Value} {below : List Frame} {meth : Method} {c : Code} {H : Heap} {locs : List Loc} {cells slots : Nat} {Q : State → Prop} {cc : ByteArray} {own : String} {nL : Nat} {G : va_G} {aC : Nat → ClassId} {t b0 : Nat} {N N1 : AH} {pc index : Nat} {ls : Array Slot} {rest : List Value} {v0 : Nat} {r : Int64} (w1 : Cond.methodLink own index yX9_digest ∈ WT) (X : CX cc own nL G aC t b0 p s m args c) (hR : Rp G aC b0 N H) (hS : va_S (fun q => b0 ≤ q) s.heap H locs) (h : f_X9_digest v0 N = some (r, N1)) (hls : ls.size = nL) (hW : (rest.map fun v => v.category).sum ≤ 8) (hR1 : 4 ≤ R.frames ∧ 93 ≤ R.locals) (hcs : cells + 0 ≤ R.cells ∧ slots + 0 ≤ R.slots) (hdg : decode cc pc = .ok (.invokevirtual index, 3)) (kk : ∀ (H1 : Heap) (locs1 : List Loc), Rp G aC b0 N1 H1 → va_S (fun q => b0 ≤ q) s.heap H1 locs1 → W p l e R s m args below meth c H1 locs1 cells slots Q (F0 m (pc + 3) ls (.long r :: rest))) : W p l e R s m args below meth c H locs cells slots Q (F0 m pc ls (.ref v0 :: rest)) :=
  ab_callV (n := 0) (As := []) X hR hS (ct_X9_digest h) (ob_rc (c := 9) (N := N) (a := v0) h) (T := TX9) (k := 6) (C := RX9) rfl w1 (WT_of 922 (by decide +kernel) (by decide +kernel)) (WT_of 923 (by decide +kernel) (by decide +kernel)) (WT_of 81 (by decide +kernel) (by decide +kernel)) cw_X9_digest ⟨rfl, by decide +kernel, by decide +kernel, by decide +kernel⟩ rfl hls hW hR1 hcs rfl hdg kk
-- X10_init
theorem gf_X10_7 {p : Program} {l : Launch} {e : Env} {R : Room} {s : State} {m : MethodId} {args : Array Value} {below : List Frame} {meth : Method} {c : Code} {H : Heap} {locs : List Loc} {cells slots : Nat} {Q : State → Prop} {cc : ByteArray} {nL : Nat} {G : va_G} {aC : Nat → ClassId} {t b0 : Nat} {N : AH} {pc : Nat} {ls : Array Slot} {rest : List Value} {a : Nat} {v : Nat} (X : CX cc RX10 nL G aC t b0 p s m args c) (hR0 : Rp G aC b0 N H) (hv : hR N a 10 0 = some v) (hdg : decode cc pc = .ok (.getfield 7, 3)) (kk : W p l e R s m args below meth c H locs cells slots Q (F0 m (pc + 3) ls (.ref v :: rest))) : W p l e R s m args below meth c H locs cells slots Q (F0 m pc ls (.ref a :: rest)) := by
  obtain ⟨fs, h1, h2⟩ := hR_ok hv
  exact ab_get (C := RX10) (T := TX10) (n := 20) X hR0 h1 h2 rfl inX10 (by decide) (WT_of 948 (by decide +kernel) (by decide +kernel)) hdg kk
theorem pf_X10_7 {p : Program} {l : Launch} {e : Env} {R : Room} {s : State} {m : MethodId} {args : Array Value} {below : List Frame} {meth : Method} {c : Code} {H : Heap} {locs : List Loc} {cells slots : Nat} {Q : State → Prop} {cc : ByteArray} {nL : Nat} {G : va_G} {aC : Nat → ClassId} {t b0 : Nat} {N : AH} {pc : Nat} {ls : Array Slot} {rest : List Value} {N1 : AH} {a : Nat} {v : Nat} (X : CX cc RX10 nL G aC t b0 p s m args c) (hR0 : Rp G aC b0 N H) (hS : va_S (fun q => b0 ≤ q) s.heap H locs) (hmn : meth.name = "<init>") (hv : pR N a 10 0 v = some N1) (hdg : decode cc pc = .ok (.putfield 7, 3)) (kk : ∀ (H1 : Heap) (locs1 : List Loc), Rp G aC b0 N1 H1 → va_S (fun q => b0 ≤ q) s.heap H1 locs1 → W p l e R s m args below meth c H1 locs1 cells slots Q (F0 m (pc + 3) ls rest)) : W p l e R s m args below meth c H locs cells slots Q (F0 m pc ls (.ref v :: .ref a :: rest)) := by
  obtain ⟨fs, h1, h2, h3⟩ := pV_ok hv
  subst h3
  exact ab_putF (C := RX10) (T := TX10) (n := 20) X hR0 hS hmn h1 h2 rfl inX10 tyX10 tyX10_ok nmX10 (by decide) (WT_of 948 (by decide +kernel) (by decide +kernel)) rfl rfl rfl rfl hdg kk
theorem pf_X10_13 {p : Program} {l : Launch} {e : Env} {R : Room} {s : State} {m : MethodId} {args : Array Value} {below : List Frame} {meth : Method} {c : Code} {H : Heap} {locs : List Loc} {cells slots : Nat} {Q : State → Prop} {cc : ByteArray} {nL : Nat} {G : va_G} {aC : Nat → ClassId} {t b0 : Nat} {N : AH} {pc : Nat} {ls : Array Slot} {rest : List Value} {N1 : AH} {a : Nat} {v : Nat} (X : CX cc RX10 nL G aC t b0 p s m args c) (hR0 : Rp G aC b0 N H) (hS : va_S (fun q => b0 ≤ q) s.heap H locs) (hmn : meth.name = "<init>") (hv : pR N a 10 2 v = some N1) (hdg : decode cc pc = .ok (.putfield 13, 3)) (kk : ∀ (H1 : Heap) (locs1 : List Loc), Rp G aC b0 N1 H1 → va_S (fun q => b0 ≤ q) s.heap H1 locs1 → W p l e R s m args below meth c H1 locs1 cells slots Q (F0 m (pc + 3) ls rest)) : W p l e R s m args below meth c H locs cells slots Q (F0 m pc ls (.ref v :: .ref a :: rest)) := by
  obtain ⟨fs, h1, h2, h3⟩ := pV_ok hv
  subst h3
  exact ab_putF (C := RX10) (T := TX10) (n := 20) X hR0 hS hmn h1 h2 rfl inX10 tyX10 tyX10_ok nmX10 (by decide) (WT_of 950 (by decide +kernel) (by decide +kernel)) rfl rfl rfl rfl hdg kk
theorem pf_X10_16 {p : Program} {l : Launch} {e : Env} {R : Room} {s : State} {m : MethodId} {args : Array Value} {below : List Frame} {meth : Method} {c : Code} {H : Heap} {locs : List Loc} {cells slots : Nat} {Q : State → Prop} {cc : ByteArray} {nL : Nat} {G : va_G} {aC : Nat → ClassId} {t b0 : Nat} {N : AH} {pc : Nat} {ls : Array Slot} {rest : List Value} {N1 : AH} {a : Nat} {v : Nat} (X : CX cc RX10 nL G aC t b0 p s m args c) (hR0 : Rp G aC b0 N H) (hS : va_S (fun q => b0 ≤ q) s.heap H locs) (hmn : meth.name = "<init>") (hv : pR N a 10 4 v = some N1) (hdg : decode cc pc = .ok (.putfield 16, 3)) (kk : ∀ (H1 : Heap) (locs1 : List Loc), Rp G aC b0 N1 H1 → va_S (fun q => b0 ≤ q) s.heap H1 locs1 → W p l e R s m args below meth c H1 locs1 cells slots Q (F0 m (pc + 3) ls rest)) : W p l e R s m args below meth c H locs cells slots Q (F0 m pc ls (.ref v :: .ref a :: rest)) := by
  obtain ⟨fs, h1, h2, h3⟩ := pV_ok hv
  subst h3
  exact ab_putF (C := RX10) (T := TX10) (n := 20) X hR0 hS hmn h1 h2 rfl inX10 tyX10 tyX10_ok nmX10 (by decide) (WT_of 952 (by decide +kernel) (by decide +kernel)) rfl rfl rfl rfl hdg kk
theorem pf_X10_19 {p : Program} {l : Launch} {e : Env} {R : Room} {s : State} {m : MethodId} {args : Array Value} {below : List Frame} {meth : Method} {c : Code} {H : Heap} {locs : List Loc} {cells slots : Nat} {Q : State → Prop} {cc : ByteArray} {nL : Nat} {G : va_G} {aC : Nat → ClassId} {t b0 : Nat} {N : AH} {pc : Nat} {ls : Array Slot} {rest : List Value} {N1 : AH} {a : Nat} {v : Nat} (X : CX cc RX10 nL G aC t b0 p s m args c) (hR0 : Rp G aC b0 N H) (hS : va_S (fun q => b0 ≤ q) s.heap H locs) (hmn : meth.name = "<init>") (hv : pR N a 10 5 v = some N1) (hdg : decode cc pc = .ok (.putfield 19, 3)) (kk : ∀ (H1 : Heap) (locs1 : List Loc), Rp G aC b0 N1 H1 → va_S (fun q => b0 ≤ q) s.heap H1 locs1 → W p l e R s m args below meth c H1 locs1 cells slots Q (F0 m (pc + 3) ls rest)) : W p l e R s m args below meth c H locs cells slots Q (F0 m pc ls (.ref v :: .ref a :: rest)) := by
  obtain ⟨fs, h1, h2, h3⟩ := pV_ok hv
  subst h3
  exact ab_putF (C := RX10) (T := TX10) (n := 20) X hR0 hS hmn h1 h2 rfl inX10 tyX10 tyX10_ok nmX10 (by decide) (WT_of 953 (by decide +kernel) (by decide +kernel)) rfl rfl rfl rfl hdg kk
theorem pf_X10_22 {p : Program} {l : Launch} {e : Env} {R : Room} {s : State} {m : MethodId} {args : Array Value} {below : List Frame} {meth : Method} {c : Code} {H : Heap} {locs : List Loc} {cells slots : Nat} {Q : State → Prop} {cc : ByteArray} {nL : Nat} {G : va_G} {aC : Nat → ClassId} {t b0 : Nat} {N : AH} {pc : Nat} {ls : Array Slot} {rest : List Value} {N1 : AH} {a : Nat} {v : Nat} (X : CX cc RX10 nL G aC t b0 p s m args c) (hR0 : Rp G aC b0 N H) (hS : va_S (fun q => b0 ≤ q) s.heap H locs) (hmn : meth.name = "<init>") (hv : pR N a 10 6 v = some N1) (hdg : decode cc pc = .ok (.putfield 22, 3)) (kk : ∀ (H1 : Heap) (locs1 : List Loc), Rp G aC b0 N1 H1 → va_S (fun q => b0 ≤ q) s.heap H1 locs1 → W p l e R s m args below meth c H1 locs1 cells slots Q (F0 m (pc + 3) ls rest)) : W p l e R s m args below meth c H locs cells slots Q (F0 m pc ls (.ref v :: .ref a :: rest)) := by
  obtain ⟨fs, h1, h2, h3⟩ := pV_ok hv
  subst h3
  exact ab_putF (C := RX10) (T := TX10) (n := 20) X hR0 hS hmn h1 h2 rfl inX10 tyX10 tyX10_ok nmX10 (by decide) (WT_of 954 (by decide +kernel) (by decide +kernel)) rfl rfl rfl rfl hdg kk
theorem pf_X10_25 {p : Program} {l : Launch} {e : Env} {R : Room} {s : State} {m : MethodId} {args : Array Value} {below : List Frame} {meth : Method} {c : Code} {H : Heap} {locs : List Loc} {cells slots : Nat} {Q : State → Prop} {cc : ByteArray} {nL : Nat} {G : va_G} {aC : Nat → ClassId} {t b0 : Nat} {N : AH} {pc : Nat} {ls : Array Slot} {rest : List Value} {N1 : AH} {a : Nat} {v : Nat} (X : CX cc RX10 nL G aC t b0 p s m args c) (hR0 : Rp G aC b0 N H) (hS : va_S (fun q => b0 ≤ q) s.heap H locs) (hmn : meth.name = "<init>") (hv : pR N a 10 9 v = some N1) (hdg : decode cc pc = .ok (.putfield 25, 3)) (kk : ∀ (H1 : Heap) (locs1 : List Loc), Rp G aC b0 N1 H1 → va_S (fun q => b0 ≤ q) s.heap H1 locs1 → W p l e R s m args below meth c H1 locs1 cells slots Q (F0 m (pc + 3) ls rest)) : W p l e R s m args below meth c H locs cells slots Q (F0 m pc ls (.ref v :: .ref a :: rest)) := by
  obtain ⟨fs, h1, h2, h3⟩ := pV_ok hv
  subst h3
  exact ab_putF (C := RX10) (T := TX10) (n := 20) X hR0 hS hmn h1 h2 rfl inX10 tyX10 tyX10_ok nmX10 (by decide) (WT_of 957 (by decide +kernel) (by decide +kernel)) rfl rfl rfl rfl hdg kk
theorem pf_X10_28 {p : Program} {l : Launch} {e : Env} {R : Room} {s : State} {m : MethodId} {args : Array Value} {below : List Frame} {meth : Method} {c : Code} {H : Heap} {locs : List Loc} {cells slots : Nat} {Q : State → Prop} {cc : ByteArray} {nL : Nat} {G : va_G} {aC : Nat → ClassId} {t b0 : Nat} {N : AH} {pc : Nat} {ls : Array Slot} {rest : List Value} {N1 : AH} {a : Nat} {v : Nat} (X : CX cc RX10 nL G aC t b0 p s m args c) (hR0 : Rp G aC b0 N H) (hS : va_S (fun q => b0 ≤ q) s.heap H locs) (hmn : meth.name = "<init>") (hv : pR N a 10 11 v = some N1) (hdg : decode cc pc = .ok (.putfield 28, 3)) (kk : ∀ (H1 : Heap) (locs1 : List Loc), Rp G aC b0 N1 H1 → va_S (fun q => b0 ≤ q) s.heap H1 locs1 → W p l e R s m args below meth c H1 locs1 cells slots Q (F0 m (pc + 3) ls rest)) : W p l e R s m args below meth c H locs cells slots Q (F0 m pc ls (.ref v :: .ref a :: rest)) := by
  obtain ⟨fs, h1, h2, h3⟩ := pV_ok hv
  subst h3
  exact ab_putF (C := RX10) (T := TX10) (n := 20) X hR0 hS hmn h1 h2 rfl inX10 tyX10 tyX10_ok nmX10 (by decide) (WT_of 959 (by decide +kernel) (by decide +kernel)) rfl rfl rfl rfl hdg kk
theorem pf_X10_32 {p : Program} {l : Launch} {e : Env} {R : Room} {s : State} {m : MethodId} {args : Array Value} {below : List Frame} {meth : Method} {c : Code} {H : Heap} {locs : List Loc} {cells slots : Nat} {Q : State → Prop} {cc : ByteArray} {nL : Nat} {G : va_G} {aC : Nat → ClassId} {t b0 : Nat} {N : AH} {pc : Nat} {ls : Array Slot} {rest : List Value} {N1 : AH} {a : Nat} {v : Nat} (X : CX cc RX10 nL G aC t b0 p s m args c) (hR0 : Rp G aC b0 N H) (hS : va_S (fun q => b0 ≤ q) s.heap H locs) (hmn : meth.name = "<init>") (hv : pR N a 10 12 v = some N1) (hdg : decode cc pc = .ok (.putfield 32, 3)) (kk : ∀ (H1 : Heap) (locs1 : List Loc), Rp G aC b0 N1 H1 → va_S (fun q => b0 ≤ q) s.heap H1 locs1 → W p l e R s m args below meth c H1 locs1 cells slots Q (F0 m (pc + 3) ls rest)) : W p l e R s m args below meth c H locs cells slots Q (F0 m pc ls (.ref v :: .ref a :: rest)) := by
  obtain ⟨fs, h1, h2, h3⟩ := pV_ok hv
  subst h3
  exact ab_putF (C := RX10) (T := TX10) (n := 20) X hR0 hS hmn h1 h2 rfl inX10 tyX10 tyX10_ok nmX10 (by decide) (WT_of 960 (by decide +kernel) (by decide +kernel)) rfl rfl rfl rfl hdg kk
theorem pf_X10_35 {p : Program} {l : Launch} {e : Env} {R : Room} {s : State} {m : MethodId} {args : Array Value} {below : List Frame} {meth : Method} {c : Code} {H : Heap} {locs : List Loc} {cells slots : Nat} {Q : State → Prop} {cc : ByteArray} {nL : Nat} {G : va_G} {aC : Nat → ClassId} {t b0 : Nat} {N : AH} {pc : Nat} {ls : Array Slot} {rest : List Value} {N1 : AH} {a : Nat} {v : Nat} (X : CX cc RX10 nL G aC t b0 p s m args c) (hR0 : Rp G aC b0 N H) (hS : va_S (fun q => b0 ≤ q) s.heap H locs) (hmn : meth.name = "<init>") (hv : pR N a 10 13 v = some N1) (hdg : decode cc pc = .ok (.putfield 35, 3)) (kk : ∀ (H1 : Heap) (locs1 : List Loc), Rp G aC b0 N1 H1 → va_S (fun q => b0 ≤ q) s.heap H1 locs1 → W p l e R s m args below meth c H1 locs1 cells slots Q (F0 m (pc + 3) ls rest)) : W p l e R s m args below meth c H locs cells slots Q (F0 m pc ls (.ref v :: .ref a :: rest)) := by
  obtain ⟨fs, h1, h2, h3⟩ := pV_ok hv
  subst h3
  exact ab_putF (C := RX10) (T := TX10) (n := 20) X hR0 hS hmn h1 h2 rfl inX10 tyX10 tyX10_ok nmX10 (by decide) (WT_of 961 (by decide +kernel) (by decide +kernel)) rfl rfl rfl rfl hdg kk
theorem pf_X10_38 {p : Program} {l : Launch} {e : Env} {R : Room} {s : State} {m : MethodId} {args : Array Value} {below : List Frame} {meth : Method} {c : Code} {H : Heap} {locs : List Loc} {cells slots : Nat} {Q : State → Prop} {cc : ByteArray} {nL : Nat} {G : va_G} {aC : Nat → ClassId} {t b0 : Nat} {N : AH} {pc : Nat} {ls : Array Slot} {rest : List Value} {N1 : AH} {a : Nat} {v : Nat} (X : CX cc RX10 nL G aC t b0 p s m args c) (hR0 : Rp G aC b0 N H) (hS : va_S (fun q => b0 ≤ q) s.heap H locs) (hmn : meth.name = "<init>") (hv : pR N a 10 14 v = some N1) (hdg : decode cc pc = .ok (.putfield 38, 3)) (kk : ∀ (H1 : Heap) (locs1 : List Loc), Rp G aC b0 N1 H1 → va_S (fun q => b0 ≤ q) s.heap H1 locs1 → W p l e R s m args below meth c H1 locs1 cells slots Q (F0 m (pc + 3) ls rest)) : W p l e R s m args below meth c H locs cells slots Q (F0 m pc ls (.ref v :: .ref a :: rest)) := by
  obtain ⟨fs, h1, h2, h3⟩ := pV_ok hv
  subst h3
  exact ab_putF (C := RX10) (T := TX10) (n := 20) X hR0 hS hmn h1 h2 rfl inX10 tyX10 tyX10_ok nmX10 (by decide) (WT_of 962 (by decide +kernel) (by decide +kernel)) rfl rfl rfl rfl hdg kk
theorem pf_X10_41 {p : Program} {l : Launch} {e : Env} {R : Room} {s : State} {m : MethodId} {args : Array Value} {below : List Frame} {meth : Method} {c : Code} {H : Heap} {locs : List Loc} {cells slots : Nat} {Q : State → Prop} {cc : ByteArray} {nL : Nat} {G : va_G} {aC : Nat → ClassId} {t b0 : Nat} {N : AH} {pc : Nat} {ls : Array Slot} {rest : List Value} {N1 : AH} {a : Nat} {v : Nat} (X : CX cc RX10 nL G aC t b0 p s m args c) (hR0 : Rp G aC b0 N H) (hS : va_S (fun q => b0 ≤ q) s.heap H locs) (hmn : meth.name = "<init>") (hv : pR N a 10 18 v = some N1) (hdg : decode cc pc = .ok (.putfield 41, 3)) (kk : ∀ (H1 : Heap) (locs1 : List Loc), Rp G aC b0 N1 H1 → va_S (fun q => b0 ≤ q) s.heap H1 locs1 → W p l e R s m args below meth c H1 locs1 cells slots Q (F0 m (pc + 3) ls rest)) : W p l e R s m args below meth c H locs cells slots Q (F0 m pc ls (.ref v :: .ref a :: rest)) := by
  obtain ⟨fs, h1, h2, h3⟩ := pV_ok hv
  subst h3
  exact ab_putF (C := RX10) (T := TX10) (n := 20) X hR0 hS hmn h1 h2 rfl inX10 tyX10 tyX10_ok nmX10 (by decide) (WT_of 966 (by decide +kernel) (by decide +kernel)) rfl rfl rfl rfl hdg kk
theorem dX10_init_0 : decode cX10_init 0 = .ok (.aload_n 0, 1) := by decide +kernel
theorem dX10_init_1 : decode cX10_init 1 = .ok (.invokespecial 1, 3) := by decide +kernel
theorem dX10_init_4 : decode cX10_init 4 = .ok (.aload_n 0, 1) := by decide +kernel
theorem dX10_init_5 : decode cX10_init 5 = .ok (.sipush 9456, 3) := by decide +kernel
theorem dX10_init_8 : decode cX10_init 8 = .ok (.newarray .int, 2) := by decide +kernel
theorem dX10_init_10 : decode cX10_init 10 = .ok (.putfield 7, 3) := by decide +kernel
theorem dX10_init_13 : decode cX10_init 13 = .ok (.aload_n 0, 1) := by decide +kernel
theorem dX10_init_14 : decode cX10_init 14 = .ok (.bipush 120, 2) := by decide +kernel
theorem dX10_init_16 : decode cX10_init 16 = .ok (.newarray .int, 2) := by decide +kernel
theorem dX10_init_18 : decode cX10_init 18 = .ok (.putfield 13, 3) := by decide +kernel
theorem dX10_init_21 : decode cX10_init 21 = .ok (.aload_n 0, 1) := by decide +kernel
theorem dX10_init_22 : decode cX10_init 22 = .ok (.bipush 16, 2) := by decide +kernel
theorem dX10_init_24 : decode cX10_init 24 = .ok (.newarray .int, 2) := by decide +kernel
theorem dX10_init_26 : decode cX10_init 26 = .ok (.putfield 16, 3) := by decide +kernel
theorem dX10_init_29 : decode cX10_init 29 = .ok (.aload_n 0, 1) := by decide +kernel
theorem dX10_init_30 : decode cX10_init 30 = .ok (.bipush 16, 2) := by decide +kernel
theorem dX10_init_32 : decode cX10_init 32 = .ok (.newarray .int, 2) := by decide +kernel
theorem dX10_init_34 : decode cX10_init 34 = .ok (.putfield 19, 3) := by decide +kernel
theorem dX10_init_37 : decode cX10_init 37 = .ok (.aload_n 0, 1) := by decide +kernel
theorem dX10_init_38 : decode cX10_init 38 = .ok (.bipush 12, 2) := by decide +kernel
theorem dX10_init_40 : decode cX10_init 40 = .ok (.newarray .int, 2) := by decide +kernel
theorem dX10_init_42 : decode cX10_init 42 = .ok (.putfield 22, 3) := by decide +kernel
theorem dX10_init_45 : decode cX10_init 45 = .ok (.aload_n 0, 1) := by decide +kernel
theorem dX10_init_46 : decode cX10_init 46 = .ok (.iconst 4, 1) := by decide +kernel
theorem dX10_init_47 : decode cX10_init 47 = .ok (.newarray .int, 2) := by decide +kernel
theorem dX10_init_49 : decode cX10_init 49 = .ok (.putfield 25, 3) := by decide +kernel
theorem dX10_init_52 : decode cX10_init 52 = .ok (.aload_n 0, 1) := by decide +kernel
theorem dX10_init_53 : decode cX10_init 53 = .ok (.bipush 12, 2) := by decide +kernel
theorem dX10_init_55 : decode cX10_init 55 = .ok (.newarray .long, 2) := by decide +kernel
theorem dX10_init_57 : decode cX10_init 57 = .ok (.putfield 28, 3) := by decide +kernel
theorem dX10_init_60 : decode cX10_init 60 = .ok (.aload_n 0, 1) := by decide +kernel
theorem dX10_init_61 : decode cX10_init 61 = .ok (.bipush 12, 2) := by decide +kernel
theorem dX10_init_63 : decode cX10_init 63 = .ok (.newarray .long, 2) := by decide +kernel
theorem dX10_init_65 : decode cX10_init 65 = .ok (.putfield 32, 3) := by decide +kernel
theorem dX10_init_68 : decode cX10_init 68 = .ok (.aload_n 0, 1) := by decide +kernel
theorem dX10_init_69 : decode cX10_init 69 = .ok (.bipush 12, 2) := by decide +kernel
theorem dX10_init_71 : decode cX10_init 71 = .ok (.newarray .int, 2) := by decide +kernel
theorem dX10_init_73 : decode cX10_init 73 = .ok (.putfield 35, 3) := by decide +kernel
theorem dX10_init_76 : decode cX10_init 76 = .ok (.aload_n 0, 1) := by decide +kernel
theorem dX10_init_77 : decode cX10_init 77 = .ok (.sipush 192, 3) := by decide +kernel
theorem dX10_init_80 : decode cX10_init 80 = .ok (.newarray .int, 2) := by decide +kernel
theorem dX10_init_82 : decode cX10_init 82 = .ok (.putfield 38, 3) := by decide +kernel
theorem dX10_init_85 : decode cX10_init 85 = .ok (.aload_n 0, 1) := by decide +kernel
theorem dX10_init_86 : decode cX10_init 86 = .ok (.iconst 4, 1) := by decide +kernel
theorem dX10_init_87 : decode cX10_init 87 = .ok (.newarray .int, 2) := by decide +kernel
theorem dX10_init_89 : decode cX10_init 89 = .ok (.putfield 41, 3) := by decide +kernel
theorem dX10_init_92 : decode cX10_init 92 = .ok (.aload_n 0, 1) := by decide +kernel
theorem dX10_init_93 : decode cX10_init 93 = .ok (.getfield 7, 3) := by decide +kernel
theorem dX10_init_96 : decode cX10_init 96 = .ok (.iconst 2, 1) := by decide +kernel
theorem dX10_init_97 : decode cX10_init 97 = .ok (.iconst 1, 1) := by decide +kernel
theorem dX10_init_98 : decode cX10_init 98 = .ok (.iastore, 1) := by decide +kernel
theorem dX10_init_99 : decode cX10_init 99 = .ok (.aload_n 0, 1) := by decide +kernel
theorem dX10_init_100 : decode cX10_init 100 = .ok (.getfield 7, 3) := by decide +kernel
theorem dX10_init_103 : decode cX10_init 103 = .ok (.iconst 5, 1) := by decide +kernel
theorem dX10_init_104 : decode cX10_init 104 = .ok (.iconst (-1), 1) := by decide +kernel
theorem dX10_init_105 : decode cX10_init 105 = .ok (.iastore, 1) := by decide +kernel
theorem dX10_init_106 : decode cX10_init 106 = .ok (.iconst 0, 1) := by decide +kernel
theorem dX10_init_107 : decode cX10_init 107 = .ok (.istore_n 1, 1) := by decide +kernel
theorem dX10_init_108 : decode cX10_init 108 = .ok (.iload_n 1, 1) := by decide +kernel
theorem dX10_init_109 : decode cX10_init 109 = .ok (.bipush 16, 2) := by decide +kernel
theorem dX10_init_111 : decode cX10_init 111 = .ok (.if_icmp .ge 20, 3) := by decide +kernel
theorem dX10_init_114 : decode cX10_init 114 = .ok (.aload_n 0, 1) := by decide +kernel
theorem dX10_init_115 : decode cX10_init 115 = .ok (.getfield 7, 3) := by decide +kernel
theorem dX10_init_118 : decode cX10_init 118 = .ok (.bipush 10, 2) := by decide +kernel
theorem dX10_init_120 : decode cX10_init 120 = .ok (.iload_n 1, 1) := by decide +kernel
theorem dX10_init_121 : decode cX10_init 121 = .ok (.iadd, 1) := by decide +kernel
theorem dX10_init_122 : decode cX10_init 122 = .ok (.bipush 100, 2) := by decide +kernel
theorem dX10_init_124 : decode cX10_init 124 = .ok (.iastore, 1) := by decide +kernel
theorem dX10_init_125 : decode cX10_init 125 = .ok (.iinc 1 1, 3) := by decide +kernel
theorem dX10_init_128 : decode cX10_init 128 = .ok (.goto (-20), 3) := by decide +kernel
theorem dX10_init_131 : decode cX10_init 131 = .ok (.return_, 1) := by decide +kernel
def rm_X10_init : Room := { frames := 1, cells := 11, slots := 9856, locals := 12 }
section
variable {p : Program} {l : Launch} {e : Env} {s : State} {m : MethodId} {args : Array Value} {below : List Frame} {meth : Method} {c : Code} {Q : State → Prop} {G : va_G} {aC : Nat → ClassId} {t b0 : Nat}
def f_X10_init_L108 (v0 : Nat) (k131 : AH → Option (Unit × AH)) : Nat → Int32 → AH → Option (Unit × AH)
  | 0, _, _ => none
  | n + 1, v1, N => if (16 : Int32) ≤ v1 then k131 N else ob (hR N v0 10 0) (fun x17 => ob (sI N x17 ((10 : Int32) + v1) (100 : Int32)) (fun N18 => f_X10_init_L108 v0 k131 n (v1 + 1) N18))
set_option maxHeartbeats 4000000 in
set_option maxRecDepth 100000 in
theorem w_X10_init_L108 {P : Unit × AH → Prop} (X : CX cX10_init RX10 2 G aC t b0 p s m args c) (hr : RtV p l e rm_X10_init s m args below meth c 11 9856 Q cX10_init G aC b0 P) (hmn : meth.name = "<init>") (v0 : Nat) {k131 : AH → Option (Unit × AH)}
    (hk131 : ∀ (N : AH) (H : Heap) (locs : List Loc) (ls : Array Slot), Rp G aC b0 N H → va_S (fun q => b0 ≤ q) s.heap H locs → lv_has ls 2 [] → owp (k131 N) P → W p l e rm_X10_init s m args below meth c H locs 11 9856 Q (F0 m 131 ls [])) :
    ∀ (n : Nat) (v1 : Int32) (N : AH) (H : Heap) (locs : List Loc) (ls : Array Slot), Rp G aC b0 N H → va_S (fun q => b0 ≤ q) s.heap H locs → lv_has ls 2 [(0, .ref v0), (1, .int v1)] → owp (f_X10_init_L108 v0 k131 n v1 N) P → W p l e rm_X10_init s m args below meth c H locs 11 9856 Q (F0 m 108 ls []) := by
  have hx := X.1.1
  have hb := X.1.2.1
  intro n
  induction n with
  | zero =>
    intro v1 N H locs ls hR hS hl hp
    exact (show False from hp).elim
  | succ n ih =>
    intro v1 N H locs ls hR hS hl hp
    rw [f_X10_init_L108] at hp
    refine lv_iload_n hx hb dX10_init_108 rfl (lv_at hl 1 rfl) ?_
    refine lv_bipush (v := (16)) hx hb dX10_init_109 (by decide) ?_
    refine lv_icmp_ge (tgt := 131) hx hb dX10_init_111 (by decide) (fun k16 => ?_) (fun k16 => ?_)
    · have hp := owp_t k16 hp
      exact hk131 _ _ _ _ hR hS (lv_sub hl [] rfl) hp
    · have hp := owp_f k16 hp
      refine lv_aload_n hx hb dX10_init_114 rfl (lv_at hl 0 rfl) ?_
      obtain ⟨x17, e_x17, hp⟩ := owp_ob hp
      refine gf_X10_7 X hR e_x17 dX10_init_115 ?_
      refine lv_bipush (v := (10)) hx hb dX10_init_118 (by decide) ?_
      refine lv_iload_n hx hb dX10_init_120 rfl (lv_at hl 1 rfl) ?_
      refine lv_iadd hx hb dX10_init_121 ?_
      refine lv_bipush (v := (100)) hx hb dX10_init_122 (by decide) ?_
      obtain ⟨N18, e_N18, hp⟩ := owp_ob hp
      refine ab_iast X hR hS e_N18 dX10_init_124 (fun H locs hR hS => ?_)
      refine lv_iinc (v := v1 + 1) (lv' := [(1, .int (v1 + 1)), (0, .ref v0)]) hx hb dX10_init_125 hl (k := 1) rfl rfl (by decide) rfl (fun ls hl => ?_)
      refine lv_goto (tgt := 108) hx hb dX10_init_128 (by decide) ?_
      exact ih _ _ _ _ _ hR hS (lv_sub hl [1, 0] rfl) hp
def f_X10_init (v0 : Nat) (N : AH) : Option (Unit × AH) := ob (pR (nI0 N 9456) v0 10 0 N.1) (fun N1 => ob (pR (nI0 N1 120) v0 10 2 N1.1) (fun N2 => ob (pR (nI0 N2 16) v0 10 4 N2.1) (fun N3 => ob (pR (nI0 N3 16) v0 10 5 N3.1) (fun N4 => ob (pR (nI0 N4 12) v0 10 6 N4.1) (fun N5 => ob (pR (nI0 N5 4) v0 10 9 N5.1) (fun N6 => ob (pR (nJ0 N6 12) v0 10 11 N6.1) (fun N7 => ob (pR (nJ0 N7 12) v0 10 12 N7.1) (fun N8 => ob (pR (nI0 N8 12) v0 10 13 N8.1) (fun N9 => ob (pR (nI0 N9 192) v0 10 14 N9.1) (fun N10 => ob (pR (nI0 N10 4) v0 10 18 N10.1) (fun N11 => ob (hR N11 v0 10 0) (fun x12 => ob (sI N11 x12 (2 : Int32) (1 : Int32)) (fun N13 => ob (hR N13 v0 10 0) (fun x14 => ob (sI N13 x14 (5 : Int32) (-1 : Int32)) (fun N15 => f_X10_init_L108 v0 (fun N19 => some ((), N19)) FU (0 : Int32) N15)))))))))))))))
set_option maxHeartbeats 4000000 in
set_option maxRecDepth 100000 in
theorem wk_X10_init {P : Unit × AH → Prop} (X : CX cX10_init RX10 2 G aC t b0 p s m args c) (hr : RtV p l e rm_X10_init s m args below meth c 11 9856 Q cX10_init G aC b0 P) (hmn : meth.name = "<init>") (v0 : Nat) (N : AH) (H : Heap) (locs : List Loc) (ls : Array Slot) (hR : Rp G aC b0 N H) (hS : va_S (fun q => b0 ≤ q) s.heap H locs) (hl : lv_has ls 2 [(0, .ref v0)]) (hp : owp (f_X10_init v0 N) P) : W p l e rm_X10_init s m args below meth c H locs 0 0 Q (F0 m 0 ls []) := by
  have hx := X.1.1
  have hb := X.1.2.1
  unfold f_X10_init at hp
  refine lv_aload_n hx hb dX10_init_0 rfl (lv_at hl 0 rfl) ?_
  refine ab_objI X (WT_of 947 (by decide +kernel) (by decide +kernel)) w_objI w_objC hl.1 (Nat.le_of_ble_eq_true rfl) (Nat.le_of_ble_eq_true rfl) dX10_init_1 ?_
  refine lv_aload_n hx hb dX10_init_4 rfl (lv_at hl 0 rfl) ?_
  refine lv_sipush (v := (9456)) hx hb dX10_init_5 (by decide) ?_
  refine ab_newI (k := 9456) X hR hS (WT_of 152 (by decide +kernel) (by decide +kernel)) (by decide) rfl (Nat.le_of_ble_eq_true rfl) (Nat.le_of_ble_eq_true rfl) (Nat.le_of_ble_eq_true rfl) dX10_init_8 (fun H hR hS => ?_)
  refine W.widen (k := 1) (n := 9456) (Nat.le_of_ble_eq_true rfl) (Nat.le_of_ble_eq_true rfl) ?_
  obtain ⟨N1, e_N1, hp⟩ := owp_ob hp
  refine pf_X10_7 X hR hS hmn e_N1 dX10_init_10 (fun H locs hR hS => ?_)
  refine lv_aload_n hx hb dX10_init_13 rfl (lv_at hl 0 rfl) ?_
  refine lv_bipush (v := (120)) hx hb dX10_init_14 (by decide) ?_
  refine ab_newI (k := 120) X hR hS (WT_of 152 (by decide +kernel) (by decide +kernel)) (by decide) rfl (Nat.le_of_ble_eq_true rfl) (Nat.le_of_ble_eq_true rfl) (Nat.le_of_ble_eq_true rfl) dX10_init_16 (fun H hR hS => ?_)
  refine W.widen (k := 2) (n := 9576) (Nat.le_of_ble_eq_true rfl) (Nat.le_of_ble_eq_true rfl) ?_
  obtain ⟨N2, e_N2, hp⟩ := owp_ob hp
  refine pf_X10_13 X hR hS hmn e_N2 dX10_init_18 (fun H locs hR hS => ?_)
  refine lv_aload_n hx hb dX10_init_21 rfl (lv_at hl 0 rfl) ?_
  refine lv_bipush (v := (16)) hx hb dX10_init_22 (by decide) ?_
  refine ab_newI (k := 16) X hR hS (WT_of 152 (by decide +kernel) (by decide +kernel)) (by decide) rfl (Nat.le_of_ble_eq_true rfl) (Nat.le_of_ble_eq_true rfl) (Nat.le_of_ble_eq_true rfl) dX10_init_24 (fun H hR hS => ?_)
  refine W.widen (k := 3) (n := 9592) (Nat.le_of_ble_eq_true rfl) (Nat.le_of_ble_eq_true rfl) ?_
  obtain ⟨N3, e_N3, hp⟩ := owp_ob hp
  refine pf_X10_16 X hR hS hmn e_N3 dX10_init_26 (fun H locs hR hS => ?_)
  refine lv_aload_n hx hb dX10_init_29 rfl (lv_at hl 0 rfl) ?_
  refine lv_bipush (v := (16)) hx hb dX10_init_30 (by decide) ?_
  refine ab_newI (k := 16) X hR hS (WT_of 152 (by decide +kernel) (by decide +kernel)) (by decide) rfl (Nat.le_of_ble_eq_true rfl) (Nat.le_of_ble_eq_true rfl) (Nat.le_of_ble_eq_true rfl) dX10_init_32 (fun H hR hS => ?_)
  refine W.widen (k := 4) (n := 9608) (Nat.le_of_ble_eq_true rfl) (Nat.le_of_ble_eq_true rfl) ?_
  obtain ⟨N4, e_N4, hp⟩ := owp_ob hp
  refine pf_X10_19 X hR hS hmn e_N4 dX10_init_34 (fun H locs hR hS => ?_)
  refine lv_aload_n hx hb dX10_init_37 rfl (lv_at hl 0 rfl) ?_
  refine lv_bipush (v := (12)) hx hb dX10_init_38 (by decide) ?_
  refine ab_newI (k := 12) X hR hS (WT_of 152 (by decide +kernel) (by decide +kernel)) (by decide) rfl (Nat.le_of_ble_eq_true rfl) (Nat.le_of_ble_eq_true rfl) (Nat.le_of_ble_eq_true rfl) dX10_init_40 (fun H hR hS => ?_)
  refine W.widen (k := 5) (n := 9620) (Nat.le_of_ble_eq_true rfl) (Nat.le_of_ble_eq_true rfl) ?_
  obtain ⟨N5, e_N5, hp⟩ := owp_ob hp
  refine pf_X10_22 X hR hS hmn e_N5 dX10_init_42 (fun H locs hR hS => ?_)
  refine lv_aload_n hx hb dX10_init_45 rfl (lv_at hl 0 rfl) ?_
  refine lv_iconst (v := (4)) hx hb dX10_init_46 (by decide) ?_
  refine ab_newI (k := 4) X hR hS (WT_of 152 (by decide +kernel) (by decide +kernel)) (by decide) rfl (Nat.le_of_ble_eq_true rfl) (Nat.le_of_ble_eq_true rfl) (Nat.le_of_ble_eq_true rfl) dX10_init_47 (fun H hR hS => ?_)
  refine W.widen (k := 6) (n := 9624) (Nat.le_of_ble_eq_true rfl) (Nat.le_of_ble_eq_true rfl) ?_
  obtain ⟨N6, e_N6, hp⟩ := owp_ob hp
  refine pf_X10_25 X hR hS hmn e_N6 dX10_init_49 (fun H locs hR hS => ?_)
  refine lv_aload_n hx hb dX10_init_52 rfl (lv_at hl 0 rfl) ?_
  refine lv_bipush (v := (12)) hx hb dX10_init_53 (by decide) ?_
  refine ab_newJ (k := 12) X hR hS (WT_of 384 (by decide +kernel) (by decide +kernel)) (by decide) rfl (Nat.le_of_ble_eq_true rfl) (Nat.le_of_ble_eq_true rfl) (Nat.le_of_ble_eq_true rfl) dX10_init_55 (fun H hR hS => ?_)
  refine W.widen (k := 7) (n := 9636) (Nat.le_of_ble_eq_true rfl) (Nat.le_of_ble_eq_true rfl) ?_
  obtain ⟨N7, e_N7, hp⟩ := owp_ob hp
  refine pf_X10_28 X hR hS hmn e_N7 dX10_init_57 (fun H locs hR hS => ?_)
  refine lv_aload_n hx hb dX10_init_60 rfl (lv_at hl 0 rfl) ?_
  refine lv_bipush (v := (12)) hx hb dX10_init_61 (by decide) ?_
  refine ab_newJ (k := 12) X hR hS (WT_of 384 (by decide +kernel) (by decide +kernel)) (by decide) rfl (Nat.le_of_ble_eq_true rfl) (Nat.le_of_ble_eq_true rfl) (Nat.le_of_ble_eq_true rfl) dX10_init_63 (fun H hR hS => ?_)
  refine W.widen (k := 8) (n := 9648) (Nat.le_of_ble_eq_true rfl) (Nat.le_of_ble_eq_true rfl) ?_
  obtain ⟨N8, e_N8, hp⟩ := owp_ob hp
  refine pf_X10_32 X hR hS hmn e_N8 dX10_init_65 (fun H locs hR hS => ?_)
  refine lv_aload_n hx hb dX10_init_68 rfl (lv_at hl 0 rfl) ?_
  refine lv_bipush (v := (12)) hx hb dX10_init_69 (by decide) ?_
  refine ab_newI (k := 12) X hR hS (WT_of 152 (by decide +kernel) (by decide +kernel)) (by decide) rfl (Nat.le_of_ble_eq_true rfl) (Nat.le_of_ble_eq_true rfl) (Nat.le_of_ble_eq_true rfl) dX10_init_71 (fun H hR hS => ?_)
  refine W.widen (k := 9) (n := 9660) (Nat.le_of_ble_eq_true rfl) (Nat.le_of_ble_eq_true rfl) ?_
  obtain ⟨N9, e_N9, hp⟩ := owp_ob hp
  refine pf_X10_35 X hR hS hmn e_N9 dX10_init_73 (fun H locs hR hS => ?_)
  refine lv_aload_n hx hb dX10_init_76 rfl (lv_at hl 0 rfl) ?_
  refine lv_sipush (v := (192)) hx hb dX10_init_77 (by decide) ?_
  refine ab_newI (k := 192) X hR hS (WT_of 152 (by decide +kernel) (by decide +kernel)) (by decide) rfl (Nat.le_of_ble_eq_true rfl) (Nat.le_of_ble_eq_true rfl) (Nat.le_of_ble_eq_true rfl) dX10_init_80 (fun H hR hS => ?_)
  refine W.widen (k := 10) (n := 9852) (Nat.le_of_ble_eq_true rfl) (Nat.le_of_ble_eq_true rfl) ?_
  obtain ⟨N10, e_N10, hp⟩ := owp_ob hp
  refine pf_X10_38 X hR hS hmn e_N10 dX10_init_82 (fun H locs hR hS => ?_)
  refine lv_aload_n hx hb dX10_init_85 rfl (lv_at hl 0 rfl) ?_
  refine lv_iconst (v := (4)) hx hb dX10_init_86 (by decide) ?_
  refine ab_newI (k := 4) X hR hS (WT_of 152 (by decide +kernel) (by decide +kernel)) (by decide) rfl (Nat.le_of_ble_eq_true rfl) (Nat.le_of_ble_eq_true rfl) (Nat.le_of_ble_eq_true rfl) dX10_init_87 (fun H hR hS => ?_)
  refine W.widen (k := 11) (n := 9856) (Nat.le_of_ble_eq_true rfl) (Nat.le_of_ble_eq_true rfl) ?_
  obtain ⟨N11, e_N11, hp⟩ := owp_ob hp
  refine pf_X10_41 X hR hS hmn e_N11 dX10_init_89 (fun H locs hR hS => ?_)
  refine lv_aload_n hx hb dX10_init_92 rfl (lv_at hl 0 rfl) ?_
  obtain ⟨x12, e_x12, hp⟩ := owp_ob hp
  refine gf_X10_7 X hR e_x12 dX10_init_93 ?_
  refine lv_iconst (v := (2)) hx hb dX10_init_96 (by decide) ?_
  refine lv_iconst (v := (1)) hx hb dX10_init_97 (by decide) ?_
  obtain ⟨N13, e_N13, hp⟩ := owp_ob hp
  refine ab_iast X hR hS e_N13 dX10_init_98 (fun H locs hR hS => ?_)
  refine lv_aload_n hx hb dX10_init_99 rfl (lv_at hl 0 rfl) ?_
  obtain ⟨x14, e_x14, hp⟩ := owp_ob hp
  refine gf_X10_7 X hR e_x14 dX10_init_100 ?_
  refine lv_iconst (v := (5)) hx hb dX10_init_103 (by decide) ?_
  refine lv_iconst (v := (-1)) hx hb dX10_init_104 (by decide) ?_
  obtain ⟨N15, e_N15, hp⟩ := owp_ob hp
  refine ab_iast X hR hS e_N15 dX10_init_105 (fun H locs hR hS => ?_)
  refine lv_iconst (v := (0)) hx hb dX10_init_106 (by decide) ?_
  refine lv_istore_n (lv' := [(1, .int (0 : Int32)), (0, .ref v0)]) hx hb dX10_init_107 rfl hl (by decide) rfl (fun ls hl => ?_)
  refine w_X10_init_L108 X hr hmn _ (fun N19 H locs ls hR hS hl hp => ?_) _ _ _ _ _ _ hR hS (lv_sub hl [1, 0] rfl) hp
  exact hr _ _ _ _ _ hR hS dX10_init_131 hp
end
theorem ct_X10_init {v0 : Nat} {N N1 : AH} {r : Unit} (h : f_X10_init v0 N = some (r, N1)) : Ct yX10_init cX10_init 2 none rm_X10_init [.ref v0] N none N1 :=
  ab_met (own := RX10) (by decide +kernel) rfl (Nat.le_of_ble_eq_true rfl) (fun l G aC t b0 p e s m below meth c ls X hr hlk hnm hR hS hl => wk_X10_init X (RtV_met X.1.1 X.1.2.1 hr hlk) hnm _ _ _ _ _ hR hS hl (owp_of h))
theorem cw_X10_init : Cond.code yX10_init cX10_init 2 none ∈ WT := WT_of 946 (by decide +kernel) (by decide +kernel)
theorem iv_X10_init {p : Program} {l : Launch} {e : Env} {R : Room} {s : State} {m : MethodId} {args : Array Value} {below : List Frame} {meth : Method} {c : Code} {H : Heap} {locs : List Loc} {cells slots : Nat} {Q : State → Prop} {cc : ByteArray} {own : String} {nL : Nat} {G : va_G} {aC : Nat → ClassId} {t b0 : Nat} {N N1 : AH} {pc index : Nat} {ls : Array Slot} {rest : List Value} {v0 : Nat} {r : Unit} (w1 : Cond.methodLink own index yX10_init ∈ WT) (X : CX cc own nL G aC t b0 p s m args c) (hR : Rp G aC b0 N H) (hS : va_S (fun q => b0 ≤ q) s.heap H locs) (h : f_X10_init v0 N = some (r, N1)) (hls : ls.size = nL) (hW : (rest.map fun v => v.category).sum ≤ 8) (hR1 : 2 ≤ R.frames ∧ 33 ≤ R.locals) (hcs : cells + 11 ≤ R.cells ∧ slots + 9856 ≤ R.slots) (hdg : decode cc pc = .ok (.invokespecial index, 3)) (kk : ∀ (H1 : Heap) (locs1 : List Loc), Rp G aC b0 N1 H1 → va_S (fun q => b0 ≤ q) s.heap H1 locs1 → W p l e R s m args below meth c H1 locs1 (cells + 11) (slots + 9856) Q (F0 m (pc + 3) ls rest)) : W p l e R s m args below meth c H locs cells slots Q (F0 m pc ls (.ref v0 :: rest)) :=
  ab_callI (n := 0) (As := []) X hR hS (ct_X10_init h) w1 (WT_of 945 (by decide +kernel) (by decide +kernel)) (WT_of 92 (by decide +kernel) (by decide +kernel)) cw_X10_init rfl ⟨by decide +kernel, by decide +kernel, by decide +kernel⟩ rfl hls hW hR1 hcs rfl hdg kk
-- X10_in
theorem dX10_in_0 : decode cX10_in 0 = .ok (.lload_n 0, 1) := by decide +kernel
theorem dX10_in_1 : decode cX10_in 1 = .ok (.lload_n 2, 1) := by decide +kernel
theorem dX10_in_2 : decode cX10_in 2 = .ok (.lcmp, 1) := by decide +kernel
theorem dX10_in_3 : decode cX10_in 3 = .ok (.ifCond .lt 14, 3) := by decide +kernel
theorem dX10_in_6 : decode cX10_in 6 = .ok (.lload_n 0, 1) := by decide +kernel
theorem dX10_in_7 : decode cX10_in 7 = .ok (.lload 4, 2) := by decide +kernel
theorem dX10_in_9 : decode cX10_in 9 = .ok (.lcmp, 1) := by decide +kernel
theorem dX10_in_10 : decode cX10_in 10 = .ok (.ifCond .gt 7, 3) := by decide +kernel
theorem dX10_in_13 : decode cX10_in 13 = .ok (.iconst 1, 1) := by decide +kernel
theorem dX10_in_14 : decode cX10_in 14 = .ok (.goto 4, 3) := by decide +kernel
theorem dX10_in_17 : decode cX10_in 17 = .ok (.iconst 0, 1) := by decide +kernel
theorem dX10_in_18 : decode cX10_in 18 = .ok (.ireturn, 1) := by decide +kernel
def rm_X10_in : Room := { frames := 0, cells := 0, slots := 0, locals := 0 }
section
variable {p : Program} {l : Launch} {e : Env} {s : State} {m : MethodId} {args : Array Value} {below : List Frame} {meth : Method} {c : Code} {Q : State → Prop} {G : va_G} {aC : Nat → ClassId} {t b0 : Nat}
def f_X10_in (v0 : Int64) (v2 : Int64) (v4 : Int64) (N : AH) : Option (Int32 × AH) := if (lg_cmp v0 v2) < 0 then some ((0 : Int32), N) else if 0 < (lg_cmp v0 v4) then some ((0 : Int32), N) else some ((1 : Int32), N)
set_option maxHeartbeats 4000000 in
set_option maxRecDepth 100000 in
theorem wk_X10_in {P : Int32 × AH → Prop} (X : CX cX10_in RX10 6 G aC t b0 p s m args c) (hr : RtZ p l e rm_X10_in s m args below meth c 0 0 Q cX10_in G aC b0 P) (v0 : Int64) (v2 : Int64) (v4 : Int64) (N : AH) (H : Heap) (locs : List Loc) (ls : Array Slot) (hR : Rp G aC b0 N H) (hS : va_S (fun q => b0 ≤ q) s.heap H locs) (hl : lv_has ls 6 [(0, .long v0), (2, .long v2), (4, .long v4)]) (hp : owp (f_X10_in v0 v2 v4 N) P) : W p l e rm_X10_in s m args below meth c H locs 0 0 Q (F0 m 0 ls []) := by
  have hx := X.1.1
  have hb := X.1.2.1
  unfold f_X10_in at hp
  refine lv_lload_n hx hb dX10_in_0 rfl (lv_at hl 0 rfl) ?_
  refine lv_lload_n hx hb dX10_in_1 rfl (lv_at hl 1 rfl) ?_
  refine W.lcmp hx hb dX10_in_2 ?_
  refine lv_if_lt (tgt := 17) hx hb dX10_in_3 (by decide) (fun k1 => ?_) (fun k1 => ?_)
  · have hp := owp_t k1 hp
    refine lv_iconst (v := (0)) hx hb dX10_in_17 (by decide) ?_
    exact hr _ _ _ _ _ _ hR hS dX10_in_18 (rZ_0 hp)
  · have hp := owp_f k1 hp
    refine lv_lload_n hx hb dX10_in_6 rfl (lv_at hl 0 rfl) ?_
    refine lv_lload hx hb dX10_in_7 (lv_at hl 2 rfl) ?_
    refine W.lcmp hx hb dX10_in_9 ?_
    refine lv_if_gt (tgt := 17) hx hb dX10_in_10 (by decide) (fun k2 => ?_) (fun k2 => ?_)
    · have hp := owp_t k2 hp
      refine lv_iconst (v := (0)) hx hb dX10_in_17 (by decide) ?_
      exact hr _ _ _ _ _ _ hR hS dX10_in_18 (rZ_0 hp)
    · have hp := owp_f k2 hp
      refine lv_iconst (v := (1)) hx hb dX10_in_13 (by decide) ?_
      refine lv_goto (tgt := 18) hx hb dX10_in_14 (by decide) ?_
      exact hr _ _ _ _ _ _ hR hS dX10_in_18 (rZ_1 hp)
end
theorem ct_X10_in {v0 : Int64} {v2 : Int64} {v4 : Int64} {N N1 : AH} {r : Int32} (h : f_X10_in v0 v2 v4 N = some (r, N1)) : Ct yX10_in cX10_in 6 (some .boolean) rm_X10_in [.long v0, .long v2, .long v4] N (some (.int r)) N1 :=
  ab_met (own := RX10) (by decide +kernel) rfl (Nat.le_of_ble_eq_true rfl) (fun l G aC t b0 p e s m below meth c ls X hr hlk hnm hR hS hl => wk_X10_in X (RtZ_met X.1.1 X.1.2.1 hr hlk) _ _ _ _ _ _ _ hR hS hl (owp_of h))
theorem cw_X10_in : Cond.code yX10_in cX10_in 6 (some .boolean) ∈ WT := WT_of 1016 (by decide +kernel) (by decide +kernel)
theorem iv_X10_in {p : Program} {l : Launch} {e : Env} {R : Room} {s : State} {m : MethodId} {args : Array Value} {below : List Frame} {meth : Method} {c : Code} {H : Heap} {locs : List Loc} {cells slots : Nat} {Q : State → Prop} {cc : ByteArray} {own : String} {nL : Nat} {G : va_G} {aC : Nat → ClassId} {t b0 : Nat} {N N1 : AH} {pc index : Nat} {ls : Array Slot} {rest : List Value} {v0 : Int64} {v2 : Int64} {v4 : Int64} {r : Int32} (w1 : Cond.methodLink own index yX10_in ∈ WT) (X : CX cc own nL G aC t b0 p s m args c) (hR : Rp G aC b0 N H) (hS : va_S (fun q => b0 ≤ q) s.heap H locs) (h : f_X10_in v0 v2 v4 N = some (r, N1)) (hls : ls.size = nL) (hW : (rest.map fun v => v.category).sum ≤ 8) (hR1 : 1 ≤ R.frames ∧ 25 ≤ R.locals) (hcs : cells + 0 ≤ R.cells ∧ slots + 0 ≤ R.slots) (hdg : decode cc pc = .ok (.invokestatic index, 3)) (kk : ∀ (H1 : Heap) (locs1 : List Loc), Rp G aC b0 N1 H1 → va_S (fun q => b0 ≤ q) s.heap H1 locs1 → W p l e R s m args below meth c H1 locs1 cells slots Q (F0 m (pc + 3) ls (.int r :: rest))) : W p l e R s m args below meth c H locs cells slots Q (F0 m pc ls (.long v4 :: .long v2 :: .long v0 :: rest)) :=
  ab_callS (n := 3) (As := [.long v0, .long v2, .long v4]) X hR hS (ct_X10_in h) w1 (WT_of 1015 (by decide +kernel) (by decide +kernel)) (WT_of 92 (by decide +kernel) (by decide +kernel)) cw_X10_in ⟨by decide +kernel, by decide +kernel, by decide +kernel⟩ rfl hls hW hR1 hcs rfl hdg kk
-- X10_copies
theorem dX10_copies_0 : decode cX10_copies 0 = .ok (.iconst 0, 1) := by decide +kernel
theorem dX10_copies_1 : decode cX10_copies 1 = .ok (.istore_n 3, 1) := by decide +kernel
theorem dX10_copies_2 : decode cX10_copies 2 = .ok (.iload_n 3, 1) := by decide +kernel
theorem dX10_copies_3 : decode cX10_copies 3 = .ok (.sipush 1182, 3) := by decide +kernel
theorem dX10_copies_6 : decode cX10_copies 6 = .ok (.if_icmp .ge 25, 3) := by decide +kernel
theorem dX10_copies_9 : decode cX10_copies 9 = .ok (.aload_n 0, 1) := by decide +kernel
theorem dX10_copies_10 : decode cX10_copies 10 = .ok (.getfield 7, 3) := by decide +kernel
theorem dX10_copies_13 : decode cX10_copies 13 = .ok (.iload_n 2, 1) := by decide +kernel
theorem dX10_copies_14 : decode cX10_copies 14 = .ok (.iload_n 3, 1) := by decide +kernel
theorem dX10_copies_15 : decode cX10_copies 15 = .ok (.iadd, 1) := by decide +kernel
theorem dX10_copies_16 : decode cX10_copies 16 = .ok (.aload_n 0, 1) := by decide +kernel
theorem dX10_copies_17 : decode cX10_copies 17 = .ok (.getfield 7, 3) := by decide +kernel
theorem dX10_copies_20 : decode cX10_copies 20 = .ok (.iload_n 1, 1) := by decide +kernel
theorem dX10_copies_21 : decode cX10_copies 21 = .ok (.iload_n 3, 1) := by decide +kernel
theorem dX10_copies_22 : decode cX10_copies 22 = .ok (.iadd, 1) := by decide +kernel
theorem dX10_copies_23 : decode cX10_copies 23 = .ok (.iaload, 1) := by decide +kernel
theorem dX10_copies_24 : decode cX10_copies 24 = .ok (.iastore, 1) := by decide +kernel
theorem dX10_copies_25 : decode cX10_copies 25 = .ok (.iinc 3 1, 3) := by decide +kernel
theorem dX10_copies_28 : decode cX10_copies 28 = .ok (.goto (-26), 3) := by decide +kernel
theorem dX10_copies_31 : decode cX10_copies 31 = .ok (.return_, 1) := by decide +kernel
def rm_X10_copies : Room := { frames := 0, cells := 0, slots := 0, locals := 0 }
section
variable {p : Program} {l : Launch} {e : Env} {s : State} {m : MethodId} {args : Array Value} {below : List Frame} {meth : Method} {c : Code} {Q : State → Prop} {G : va_G} {aC : Nat → ClassId} {t b0 : Nat}
def f_X10_copies_L2 (v0 : Nat) (v1 : Int32) (v2 : Int32) (k31 : AH → Option (Unit × AH)) : Nat → Int32 → AH → Option (Unit × AH)
  | 0, _, _ => none
  | n + 1, v3, N => if (1182 : Int32) ≤ v3 then k31 N else ob (hR N v0 10 0) (fun x2 => ob (hR N v0 10 0) (fun x3 => ob (aI N x3 (v1 + v3)) (fun x4 => ob (sI N x2 (v2 + v3) x4) (fun N5 => f_X10_copies_L2 v0 v1 v2 k31 n (v3 + 1) N5))))
set_option maxHeartbeats 4000000 in
set_option maxRecDepth 100000 in
theorem w_X10_copies_L2 {P : Unit × AH → Prop} (X : CX cX10_copies RX10 4 G aC t b0 p s m args c) (hr : RtV p l e rm_X10_copies s m args below meth c 0 0 Q cX10_copies G aC b0 P) (v0 : Nat) (v1 : Int32) (v2 : Int32) {k31 : AH → Option (Unit × AH)}
    (hk31 : ∀ (N : AH) (H : Heap) (locs : List Loc) (ls : Array Slot), Rp G aC b0 N H → va_S (fun q => b0 ≤ q) s.heap H locs → lv_has ls 4 [] → owp (k31 N) P → W p l e rm_X10_copies s m args below meth c H locs 0 0 Q (F0 m 31 ls [])) :
    ∀ (n : Nat) (v3 : Int32) (N : AH) (H : Heap) (locs : List Loc) (ls : Array Slot), Rp G aC b0 N H → va_S (fun q => b0 ≤ q) s.heap H locs → lv_has ls 4 [(0, .ref v0), (1, .int v1), (2, .int v2), (3, .int v3)] → owp (f_X10_copies_L2 v0 v1 v2 k31 n v3 N) P → W p l e rm_X10_copies s m args below meth c H locs 0 0 Q (F0 m 2 ls []) := by
  have hx := X.1.1
  have hb := X.1.2.1
  intro n
  induction n with
  | zero =>
    intro v3 N H locs ls hR hS hl hp
    exact (show False from hp).elim
  | succ n ih =>
    intro v3 N H locs ls hR hS hl hp
    rw [f_X10_copies_L2] at hp
    refine lv_iload_n hx hb dX10_copies_2 rfl (lv_at hl 3 rfl) ?_
    refine lv_sipush (v := (1182)) hx hb dX10_copies_3 (by decide) ?_
    refine lv_icmp_ge (tgt := 31) hx hb dX10_copies_6 (by decide) (fun k1 => ?_) (fun k1 => ?_)
    · have hp := owp_t k1 hp
      exact hk31 _ _ _ _ hR hS (lv_sub hl [] rfl) hp
    · have hp := owp_f k1 hp
      refine lv_aload_n hx hb dX10_copies_9 rfl (lv_at hl 0 rfl) ?_
      obtain ⟨x2, e_x2, hp⟩ := owp_ob hp
      refine gf_X10_7 X hR e_x2 dX10_copies_10 ?_
      refine lv_iload_n hx hb dX10_copies_13 rfl (lv_at hl 2 rfl) ?_
      refine lv_iload_n hx hb dX10_copies_14 rfl (lv_at hl 3 rfl) ?_
      refine lv_iadd hx hb dX10_copies_15 ?_
      refine lv_aload_n hx hb dX10_copies_16 rfl (lv_at hl 0 rfl) ?_
      obtain ⟨x3, e_x3, hp⟩ := owp_ob hp
      refine gf_X10_7 X hR e_x3 dX10_copies_17 ?_
      refine lv_iload_n hx hb dX10_copies_20 rfl (lv_at hl 1 rfl) ?_
      refine lv_iload_n hx hb dX10_copies_21 rfl (lv_at hl 3 rfl) ?_
      refine lv_iadd hx hb dX10_copies_22 ?_
      obtain ⟨x4, e_x4, hp⟩ := owp_ob hp
      refine ab_iald X hR e_x4 dX10_copies_23 ?_
      obtain ⟨N5, e_N5, hp⟩ := owp_ob hp
      refine ab_iast X hR hS e_N5 dX10_copies_24 (fun H locs hR hS => ?_)
      refine lv_iinc (v := v3 + 1) (lv' := [(3, .int (v3 + 1)), (0, .ref v0), (1, .int v1), (2, .int v2)]) hx hb dX10_copies_25 hl (k := 3) rfl rfl (by decide) rfl (fun ls hl => ?_)
      refine lv_goto (tgt := 2) hx hb dX10_copies_28 (by decide) ?_
      exact ih _ _ _ _ _ hR hS (lv_sub hl [1, 2, 3, 0] rfl) hp
def f_X10_copies (v0 : Nat) (v1 : Int32) (v2 : Int32) (N : AH) : Option (Unit × AH) := ob (iO N v0 10) (fun _ => f_X10_copies_L2 v0 v1 v2 (fun N6 => some ((), N6)) FU (0 : Int32) N)
set_option maxHeartbeats 4000000 in
set_option maxRecDepth 100000 in
theorem wk_X10_copies {P : Unit × AH → Prop} (X : CX cX10_copies RX10 4 G aC t b0 p s m args c) (hr : RtV p l e rm_X10_copies s m args below meth c 0 0 Q cX10_copies G aC b0 P) (v0 : Nat) (v1 : Int32) (v2 : Int32) (N : AH) (H : Heap) (locs : List Loc) (ls : Array Slot) (hR : Rp G aC b0 N H) (hS : va_S (fun q => b0 ≤ q) s.heap H locs) (hl : lv_has ls 4 [(0, .ref v0), (1, .int v1), (2, .int v2)]) (hp : owp (f_X10_copies v0 v1 v2 N) P) : W p l e rm_X10_copies s m args below meth c H locs 0 0 Q (F0 m 0 ls []) := by
  have hx := X.1.1
  have hb := X.1.2.1
  unfold f_X10_copies at hp
  obtain ⟨_, _, hp⟩ := owp_ob hp
  refine lv_iconst (v := (0)) hx hb dX10_copies_0 (by decide) ?_
  refine lv_istore_n (lv' := [(3, .int (0 : Int32)), (0, .ref v0), (1, .int v1), (2, .int v2)]) hx hb dX10_copies_1 rfl hl (by decide) rfl (fun ls hl => ?_)
  refine w_X10_copies_L2 X hr _ _ _ (fun N6 H locs ls hR hS hl hp => ?_) _ _ _ _ _ _ hR hS (lv_sub hl [1, 2, 3, 0] rfl) hp
  exact hr _ _ _ _ _ hR hS dX10_copies_31 hp
end
theorem ct_X10_copies {v0 : Nat} {v1 : Int32} {v2 : Int32} {N N1 : AH} {r : Unit} (h : f_X10_copies v0 v1 v2 N = some (r, N1)) : Ct yX10_copies cX10_copies 4 none rm_X10_copies [.ref v0, .int v1, .int v2] N none N1 :=
  ab_met (own := RX10) (by decide +kernel) rfl (Nat.le_of_ble_eq_true rfl) (fun l G aC t b0 p e s m below meth c ls X hr hlk hnm hR hS hl => wk_X10_copies X (RtV_met X.1.1 X.1.2.1 hr hlk) _ _ _ _ _ _ _ hR hS hl (owp_of h))
theorem cw_X10_copies : Cond.code yX10_copies cX10_copies 4 none ∈ WT := WT_of 1070 (by decide +kernel) (by decide +kernel)
theorem iv_X10_copies {p : Program} {l : Launch} {e : Env} {R : Room} {s : State} {m : MethodId} {args : Array Value} {below : List Frame} {meth : Method} {c : Code} {H : Heap} {locs : List Loc} {cells slots : Nat} {Q : State → Prop} {cc : ByteArray} {own : String} {nL : Nat} {G : va_G} {aC : Nat → ClassId} {t b0 : Nat} {N N1 : AH} {pc index : Nat} {ls : Array Slot} {rest : List Value} {v0 : Nat} {v1 : Int32} {v2 : Int32} {r : Unit} (w1 : Cond.methodLink own index yX10_copies ∈ WT) (X : CX cc own nL G aC t b0 p s m args c) (hR : Rp G aC b0 N H) (hS : va_S (fun q => b0 ≤ q) s.heap H locs) (h : f_X10_copies v0 v1 v2 N = some (r, N1)) (hls : ls.size = nL) (hW : (rest.map fun v => v.category).sum ≤ 8) (hR1 : 1 ≤ R.frames ∧ 23 ≤ R.locals) (hcs : cells + 0 ≤ R.cells ∧ slots + 0 ≤ R.slots) (hdg : decode cc pc = .ok (.invokevirtual index, 3)) (kk : ∀ (H1 : Heap) (locs1 : List Loc), Rp G aC b0 N1 H1 → va_S (fun q => b0 ≤ q) s.heap H1 locs1 → W p l e R s m args below meth c H1 locs1 cells slots Q (F0 m (pc + 3) ls rest)) : W p l e R s m args below meth c H locs cells slots Q (F0 m pc ls (.int v2 :: .int v1 :: .ref v0 :: rest)) :=
  ab_callV (n := 2) (As := [.int v1, .int v2]) X hR hS (ct_X10_copies h) (ob_rc (c := 10) (N := N) (a := v0) h) (T := TX10) (k := 20) (C := RX10) rfl w1 (WT_of 1069 (by decide +kernel) (by decide +kernel)) (WT_of 41 (by decide +kernel) (by decide +kernel)) (WT_of 92 (by decide +kernel) (by decide +kernel)) cw_X10_copies ⟨rfl, by decide +kernel, by decide +kernel, by decide +kernel⟩ rfl hls hW hR1 hcs rfl hdg kk
-- X10_saves
theorem gf_X10_44 {p : Program} {l : Launch} {e : Env} {R : Room} {s : State} {m : MethodId} {args : Array Value} {below : List Frame} {meth : Method} {c : Code} {H : Heap} {locs : List Loc} {cells slots : Nat} {Q : State → Prop} {cc : ByteArray} {nL : Nat} {G : va_G} {aC : Nat → ClassId} {t b0 : Nat} {N : AH} {pc : Nat} {ls : Array Slot} {rest : List Value} {a : Nat} {v : Int32} (X : CX cc RX10 nL G aC t b0 p s m args c) (hR0 : Rp G aC b0 N H) (hv : hI N a 10 1 = some v) (hdg : decode cc pc = .ok (.getfield 44, 3)) (kk : W p l e R s m args below meth c H locs cells slots Q (F0 m (pc + 3) ls (.int v :: rest))) : W p l e R s m args below meth c H locs cells slots Q (F0 m pc ls (.ref a :: rest)) := by
  obtain ⟨fs, h1, h2⟩ := hI_ok hv
  exact ab_get (C := RX10) (T := TX10) (n := 20) X hR0 h1 h2 rfl inX10 (by decide) (WT_of 949 (by decide +kernel) (by decide +kernel)) hdg kk
theorem mw_X10_48 : Cond.methodLink RX10 48 yX10_copies ∈ WT := WT_of 1067 (by decide +kernel) (by decide +kernel)
theorem pf_X10_44 {p : Program} {l : Launch} {e : Env} {R : Room} {s : State} {m : MethodId} {args : Array Value} {below : List Frame} {meth : Method} {c : Code} {H : Heap} {locs : List Loc} {cells slots : Nat} {Q : State → Prop} {cc : ByteArray} {nL : Nat} {G : va_G} {aC : Nat → ClassId} {t b0 : Nat} {N : AH} {pc : Nat} {ls : Array Slot} {rest : List Value} {N1 : AH} {a : Nat} {v : Int32} (X : CX cc RX10 nL G aC t b0 p s m args c) (hR0 : Rp G aC b0 N H) (hS : va_S (fun q => b0 ≤ q) s.heap H locs) (hv : pI N a 10 1 v = some N1) (hdg : decode cc pc = .ok (.putfield 44, 3)) (kk : ∀ (H1 : Heap) (locs1 : List Loc), Rp G aC b0 N1 H1 → va_S (fun q => b0 ≤ q) s.heap H1 locs1 → W p l e R s m args below meth c H1 locs1 cells slots Q (F0 m (pc + 3) ls rest)) : W p l e R s m args below meth c H locs cells slots Q (F0 m pc ls (.int v :: .ref a :: rest)) := by
  obtain ⟨fs, h1, h2, h3⟩ := pV_ok hv
  subst h3
  exact ab_put (C := RX10) (T := TX10) (n := 20) X hR0 hS h1 h2 rfl inX10 tyX10 tyX10_ok nmX10 (by decide) (WT_of 949 (by decide +kernel) (by decide +kernel)) rfl rfl rfl hdg kk
theorem dX10_saves_0 : decode cX10_saves 0 = .ok (.iconst 1, 1) := by decide +kernel
theorem dX10_saves_1 : decode cX10_saves 1 = .ok (.istore_n 1, 1) := by decide +kernel
theorem dX10_saves_2 : decode cX10_saves 2 = .ok (.iload_n 1, 1) := by decide +kernel
theorem dX10_saves_3 : decode cX10_saves 3 = .ok (.bipush 6, 2) := by decide +kernel
theorem dX10_saves_5 : decode cX10_saves 5 = .ok (.if_icmp .ge 34, 3) := by decide +kernel
theorem dX10_saves_8 : decode cX10_saves 8 = .ok (.aload_n 0, 1) := by decide +kernel
theorem dX10_saves_9 : decode cX10_saves 9 = .ok (.getfield 44, 3) := by decide +kernel
theorem dX10_saves_12 : decode cX10_saves 12 = .ok (.bipush 6, 2) := by decide +kernel
theorem dX10_saves_14 : decode cX10_saves 14 = .ok (.if_icmp .ne 25, 3) := by decide +kernel
theorem dX10_saves_17 : decode cX10_saves 17 = .ok (.aload_n 0, 1) := by decide +kernel
theorem dX10_saves_18 : decode cX10_saves 18 = .ok (.sipush 1182, 3) := by decide +kernel
theorem dX10_saves_21 : decode cX10_saves 21 = .ok (.iload_n 1, 1) := by decide +kernel
theorem dX10_saves_22 : decode cX10_saves 22 = .ok (.iconst 1, 1) := by decide +kernel
theorem dX10_saves_23 : decode cX10_saves 23 = .ok (.iadd, 1) := by decide +kernel
theorem dX10_saves_24 : decode cX10_saves 24 = .ok (.imul, 1) := by decide +kernel
theorem dX10_saves_25 : decode cX10_saves 25 = .ok (.sipush 1182, 3) := by decide +kernel
theorem dX10_saves_28 : decode cX10_saves 28 = .ok (.iload_n 1, 1) := by decide +kernel
theorem dX10_saves_29 : decode cX10_saves 29 = .ok (.imul, 1) := by decide +kernel
theorem dX10_saves_30 : decode cX10_saves 30 = .ok (.invokevirtual 48, 3) := by decide +kernel
theorem dX10_saves_33 : decode cX10_saves 33 = .ok (.iinc 1 1, 3) := by decide +kernel
theorem dX10_saves_36 : decode cX10_saves 36 = .ok (.goto (-34), 3) := by decide +kernel
theorem dX10_saves_39 : decode cX10_saves 39 = .ok (.aload_n 0, 1) := by decide +kernel
theorem dX10_saves_40 : decode cX10_saves 40 = .ok (.dup, 1) := by decide +kernel
theorem dX10_saves_41 : decode cX10_saves 41 = .ok (.getfield 44, 3) := by decide +kernel
theorem dX10_saves_44 : decode cX10_saves 44 = .ok (.aload_n 0, 1) := by decide +kernel
theorem dX10_saves_45 : decode cX10_saves 45 = .ok (.getfield 44, 3) := by decide +kernel
theorem dX10_saves_48 : decode cX10_saves 48 = .ok (.bipush 6, 2) := by decide +kernel
theorem dX10_saves_50 : decode cX10_saves 50 = .ok (.if_icmp .ne 7, 3) := by decide +kernel
theorem dX10_saves_53 : decode cX10_saves 53 = .ok (.iconst 1, 1) := by decide +kernel
theorem dX10_saves_54 : decode cX10_saves 54 = .ok (.goto 4, 3) := by decide +kernel
theorem dX10_saves_57 : decode cX10_saves 57 = .ok (.iconst 0, 1) := by decide +kernel
theorem dX10_saves_58 : decode cX10_saves 58 = .ok (.isub, 1) := by decide +kernel
theorem dX10_saves_59 : decode cX10_saves 59 = .ok (.putfield 44, 3) := by decide +kernel
theorem dX10_saves_62 : decode cX10_saves 62 = .ok (.aload_n 0, 1) := by decide +kernel
theorem dX10_saves_63 : decode cX10_saves 63 = .ok (.dup, 1) := by decide +kernel
theorem dX10_saves_64 : decode cX10_saves 64 = .ok (.getfield 44, 3) := by decide +kernel
theorem dX10_saves_67 : decode cX10_saves 67 = .ok (.iconst 1, 1) := by decide +kernel
theorem dX10_saves_68 : decode cX10_saves 68 = .ok (.iadd, 1) := by decide +kernel
theorem dX10_saves_69 : decode cX10_saves 69 = .ok (.putfield 44, 3) := by decide +kernel
theorem dX10_saves_72 : decode cX10_saves 72 = .ok (.aload_n 0, 1) := by decide +kernel
theorem dX10_saves_73 : decode cX10_saves 73 = .ok (.iconst 0, 1) := by decide +kernel
theorem dX10_saves_74 : decode cX10_saves 74 = .ok (.sipush 1182, 3) := by decide +kernel
theorem dX10_saves_77 : decode cX10_saves 77 = .ok (.aload_n 0, 1) := by decide +kernel
theorem dX10_saves_78 : decode cX10_saves 78 = .ok (.getfield 44, 3) := by decide +kernel
theorem dX10_saves_81 : decode cX10_saves 81 = .ok (.imul, 1) := by decide +kernel
theorem dX10_saves_82 : decode cX10_saves 82 = .ok (.invokevirtual 48, 3) := by decide +kernel
theorem dX10_saves_85 : decode cX10_saves 85 = .ok (.return_, 1) := by decide +kernel
def rm_X10_saves : Room := { frames := 1, cells := 0, slots := 0, locals := 23 }
section
variable {p : Program} {l : Launch} {e : Env} {s : State} {m : MethodId} {args : Array Value} {below : List Frame} {meth : Method} {c : Code} {Q : State → Prop} {G : va_G} {aC : Nat → ClassId} {t b0 : Nat}
def f_X10_saves_L2 (v0 : Nat) (k39 : AH → Option (Unit × AH)) : Nat → Int32 → AH → Option (Unit × AH)
  | 0, _, _ => none
  | n + 1, v1, N => if (6 : Int32) ≤ v1 then k39 N else ob (hI N v0 10 1) (fun x2 => if ¬ x2 = (6 : Int32) then k39 N else ob2 (f_X10_copies v0 ((1182 : Int32) * (v1 + (1 : Int32))) ((1182 : Int32) * v1) N) (fun _ N4 => f_X10_saves_L2 v0 k39 n (v1 + 1) N4))
set_option maxHeartbeats 4000000 in
set_option maxRecDepth 100000 in
theorem w_X10_saves_L2 {P : Unit × AH → Prop} (X : CX cX10_saves RX10 2 G aC t b0 p s m args c) (hr : RtV p l e rm_X10_saves s m args below meth c 0 0 Q cX10_saves G aC b0 P) (v0 : Nat) {k39 : AH → Option (Unit × AH)}
    (hk39 : ∀ (N : AH) (H : Heap) (locs : List Loc) (ls : Array Slot), Rp G aC b0 N H → va_S (fun q => b0 ≤ q) s.heap H locs → lv_has ls 2 [(0, .ref v0)] → owp (k39 N) P → W p l e rm_X10_saves s m args below meth c H locs 0 0 Q (F0 m 39 ls [])) :
    ∀ (n : Nat) (v1 : Int32) (N : AH) (H : Heap) (locs : List Loc) (ls : Array Slot), Rp G aC b0 N H → va_S (fun q => b0 ≤ q) s.heap H locs → lv_has ls 2 [(0, .ref v0), (1, .int v1)] → owp (f_X10_saves_L2 v0 k39 n v1 N) P → W p l e rm_X10_saves s m args below meth c H locs 0 0 Q (F0 m 2 ls []) := by
  have hx := X.1.1
  have hb := X.1.2.1
  intro n
  induction n with
  | zero =>
    intro v1 N H locs ls hR hS hl hp
    exact (show False from hp).elim
  | succ n ih =>
    intro v1 N H locs ls hR hS hl hp
    rw [f_X10_saves_L2] at hp
    refine lv_iload_n hx hb dX10_saves_2 rfl (lv_at hl 1 rfl) ?_
    refine lv_bipush (v := (6)) hx hb dX10_saves_3 (by decide) ?_
    refine lv_icmp_ge (tgt := 39) hx hb dX10_saves_5 (by decide) (fun k1 => ?_) (fun k1 => ?_)
    · have hp := owp_t k1 hp
      exact hk39 _ _ _ _ hR hS (lv_sub hl [0] rfl) hp
    · have hp := owp_f k1 hp
      refine lv_aload_n hx hb dX10_saves_8 rfl (lv_at hl 0 rfl) ?_
      obtain ⟨x2, e_x2, hp⟩ := owp_ob hp
      refine gf_X10_44 X hR e_x2 dX10_saves_9 ?_
      refine lv_bipush (v := (6)) hx hb dX10_saves_12 (by decide) ?_
      refine lv_icmp_ne (tgt := 39) hx hb dX10_saves_14 (by decide) (fun k3 => ?_) (fun k3 => ?_)
      · have hp := owp_t k3 hp
        exact hk39 _ _ _ _ hR hS (lv_sub hl [0] rfl) hp
      · have hp := owp_f (fun q => q k3) hp
        refine lv_aload_n hx hb dX10_saves_17 rfl (lv_at hl 0 rfl) ?_
        refine lv_sipush (v := (1182)) hx hb dX10_saves_18 (by decide) ?_
        refine lv_iload_n hx hb dX10_saves_21 rfl (lv_at hl 1 rfl) ?_
        refine lv_iconst (v := (1)) hx hb dX10_saves_22 (by decide) ?_
        refine lv_iadd hx hb dX10_saves_23 ?_
        refine lv_imul hx hb dX10_saves_24 ?_
        refine lv_sipush (v := (1182)) hx hb dX10_saves_25 (by decide) ?_
        refine lv_iload_n hx hb dX10_saves_28 rfl (lv_at hl 1 rfl) ?_
        refine lv_imul hx hb dX10_saves_29 ?_
        obtain ⟨_, N4, e_N4, hp⟩ := owp_ob2 hp
        refine iv_X10_copies (rest := []) mw_X10_48 X hR hS e_N4 hl.1 (Nat.le_of_ble_eq_true rfl) ⟨Nat.le_of_ble_eq_true rfl, Nat.le_of_ble_eq_true rfl⟩ ⟨Nat.le_of_ble_eq_true rfl, Nat.le_of_ble_eq_true rfl⟩ dX10_saves_30 (fun H locs hR hS => ?_)
        refine lv_iinc (v := v1 + 1) (lv' := [(1, .int (v1 + 1)), (0, .ref v0)]) hx hb dX10_saves_33 hl (k := 1) rfl rfl (by decide) rfl (fun ls hl => ?_)
        refine lv_goto (tgt := 2) hx hb dX10_saves_36 (by decide) ?_
        exact ih _ _ _ _ _ hR hS (lv_sub hl [1, 0] rfl) hp
def f_X10_saves_J58 (v0 : Nat) (w0 : Nat) (w1 : Int32) (w2 : Int32) (N : AH) : Option (Unit × AH) := ob (pI N w0 10 1 (w1 - w2)) (fun N9 => ob (hI N9 v0 10 1) (fun x10 => ob (pI N9 v0 10 1 (x10 + (1 : Int32))) (fun N11 => ob (hI N11 v0 10 1) (fun x12 => ob2 (f_X10_copies v0 (0 : Int32) ((1182 : Int32) * x12) N11) (fun _ N13 => some ((), N13))))))
set_option maxHeartbeats 4000000 in
set_option maxRecDepth 100000 in
theorem w_X10_saves_J58 {P : Unit × AH → Prop} (X : CX cX10_saves RX10 2 G aC t b0 p s m args c) (hr : RtV p l e rm_X10_saves s m args below meth c 0 0 Q cX10_saves G aC b0 P) (v0 : Nat) (w0 : Nat) (w1 : Int32) (w2 : Int32) (N : AH) (H : Heap) (locs : List Loc) (ls : Array Slot) (hR : Rp G aC b0 N H) (hS : va_S (fun q => b0 ≤ q) s.heap H locs) (hl : lv_has ls 2 [(0, .ref v0)]) (hp : owp (f_X10_saves_J58 v0 w0 w1 w2 N) P) : W p l e rm_X10_saves s m args below meth c H locs 0 0 Q (F0 m 58 ls [.int w2, .int w1, .ref w0]) := by
  have hx := X.1.1
  have hb := X.1.2.1
  unfold f_X10_saves_J58 at hp
  refine lv_isub hx hb dX10_saves_58 ?_
  obtain ⟨N9, e_N9, hp⟩ := owp_ob hp
  refine pf_X10_44 X hR hS e_N9 dX10_saves_59 (fun H locs hR hS => ?_)
  refine lv_aload_n hx hb dX10_saves_62 rfl (lv_at hl 0 rfl) ?_
  refine lv_dup hx hb dX10_saves_63 rfl ?_
  obtain ⟨x10, e_x10, hp⟩ := owp_ob hp
  refine gf_X10_44 X hR e_x10 dX10_saves_64 ?_
  refine lv_iconst (v := (1)) hx hb dX10_saves_67 (by decide) ?_
  refine lv_iadd hx hb dX10_saves_68 ?_
  obtain ⟨N11, e_N11, hp⟩ := owp_ob hp
  refine pf_X10_44 X hR hS e_N11 dX10_saves_69 (fun H locs hR hS => ?_)
  refine lv_aload_n hx hb dX10_saves_72 rfl (lv_at hl 0 rfl) ?_
  refine lv_iconst (v := (0)) hx hb dX10_saves_73 (by decide) ?_
  refine lv_sipush (v := (1182)) hx hb dX10_saves_74 (by decide) ?_
  refine lv_aload_n hx hb dX10_saves_77 rfl (lv_at hl 0 rfl) ?_
  obtain ⟨x12, e_x12, hp⟩ := owp_ob hp
  refine gf_X10_44 X hR e_x12 dX10_saves_78 ?_
  refine lv_imul hx hb dX10_saves_81 ?_
  obtain ⟨_, N13, e_N13, hp⟩ := owp_ob2 hp
  refine iv_X10_copies (rest := []) mw_X10_48 X hR hS e_N13 hl.1 (Nat.le_of_ble_eq_true rfl) ⟨Nat.le_of_ble_eq_true rfl, Nat.le_of_ble_eq_true rfl⟩ ⟨Nat.le_of_ble_eq_true rfl, Nat.le_of_ble_eq_true rfl⟩ dX10_saves_82 (fun H locs hR hS => ?_)
  exact hr _ _ _ _ _ hR hS dX10_saves_85 hp
def f_X10_saves_J39 (v0 : Nat) (N : AH) : Option (Unit × AH) := ob (hI N v0 10 1) (fun x6 => ob (hI N v0 10 1) (fun x7 => if ¬ x7 = (6 : Int32) then f_X10_saves_J58 v0 v0 x6 (0 : Int32) N else f_X10_saves_J58 v0 v0 x6 (1 : Int32) N))
set_option maxHeartbeats 4000000 in
set_option maxRecDepth 100000 in
theorem w_X10_saves_J39 {P : Unit × AH → Prop} (X : CX cX10_saves RX10 2 G aC t b0 p s m args c) (hr : RtV p l e rm_X10_saves s m args below meth c 0 0 Q cX10_saves G aC b0 P) (v0 : Nat) (N : AH) (H : Heap) (locs : List Loc) (ls : Array Slot) (hR : Rp G aC b0 N H) (hS : va_S (fun q => b0 ≤ q) s.heap H locs) (hl : lv_has ls 2 [(0, .ref v0)]) (hp : owp (f_X10_saves_J39 v0 N) P) : W p l e rm_X10_saves s m args below meth c H locs 0 0 Q (F0 m 39 ls []) := by
  have hx := X.1.1
  have hb := X.1.2.1
  unfold f_X10_saves_J39 at hp
  refine lv_aload_n hx hb dX10_saves_39 rfl (lv_at hl 0 rfl) ?_
  refine lv_dup hx hb dX10_saves_40 rfl ?_
  obtain ⟨x6, e_x6, hp⟩ := owp_ob hp
  refine gf_X10_44 X hR e_x6 dX10_saves_41 ?_
  refine lv_aload_n hx hb dX10_saves_44 rfl (lv_at hl 0 rfl) ?_
  obtain ⟨x7, e_x7, hp⟩ := owp_ob hp
  refine gf_X10_44 X hR e_x7 dX10_saves_45 ?_
  refine lv_bipush (v := (6)) hx hb dX10_saves_48 (by decide) ?_
  refine lv_icmp_ne (tgt := 57) hx hb dX10_saves_50 (by decide) (fun k8 => ?_) (fun k8 => ?_)
  · have hp := owp_t k8 hp
    refine lv_iconst (v := (0)) hx hb dX10_saves_57 (by decide) ?_
    exact w_X10_saves_J58 X hr _ _ _ _ _ _ _ _ hR hS hl hp
  · have hp := owp_f (fun q => q k8) hp
    refine lv_iconst (v := (1)) hx hb dX10_saves_53 (by decide) ?_
    refine lv_goto (tgt := 58) hx hb dX10_saves_54 (by decide) ?_
    exact w_X10_saves_J58 X hr _ _ _ _ _ _ _ _ hR hS hl hp
def f_X10_saves (v0 : Nat) (N : AH) : Option (Unit × AH) := ob (iO N v0 10) (fun _ => f_X10_saves_L2 v0 (fun N5 => f_X10_saves_J39 v0 N5) FU (1 : Int32) N)
set_option maxHeartbeats 4000000 in
set_option maxRecDepth 100000 in
theorem wk_X10_saves {P : Unit × AH → Prop} (X : CX cX10_saves RX10 2 G aC t b0 p s m args c) (hr : RtV p l e rm_X10_saves s m args below meth c 0 0 Q cX10_saves G aC b0 P) (v0 : Nat) (N : AH) (H : Heap) (locs : List Loc) (ls : Array Slot) (hR : Rp G aC b0 N H) (hS : va_S (fun q => b0 ≤ q) s.heap H locs) (hl : lv_has ls 2 [(0, .ref v0)]) (hp : owp (f_X10_saves v0 N) P) : W p l e rm_X10_saves s m args below meth c H locs 0 0 Q (F0 m 0 ls []) := by
  have hx := X.1.1
  have hb := X.1.2.1
  unfold f_X10_saves at hp
  obtain ⟨_, _, hp⟩ := owp_ob hp
  refine lv_iconst (v := (1)) hx hb dX10_saves_0 (by decide) ?_
  refine lv_istore_n (lv' := [(1, .int (1 : Int32)), (0, .ref v0)]) hx hb dX10_saves_1 rfl hl (by decide) rfl (fun ls hl => ?_)
  refine w_X10_saves_L2 X hr _ (fun N5 H locs ls hR hS hl hp => ?_) _ _ _ _ _ _ hR hS (lv_sub hl [1, 0] rfl) hp
  exact w_X10_saves_J39 X hr _ _ _ _ _ hR hS hl hp
end
theorem ct_X10_saves {v0 : Nat} {N N1 : AH} {r : Unit} (h : f_X10_saves v0 N = some (r, N1)) : Ct yX10_saves cX10_saves 2 none rm_X10_saves [.ref v0] N none N1 :=
  ab_met (own := RX10) (by decide +kernel) rfl (Nat.le_of_ble_eq_true rfl) (fun l G aC t b0 p e s m below meth c ls X hr hlk hnm hR hS hl => wk_X10_saves X (RtV_met X.1.1 X.1.2.1 hr hlk) _ _ _ _ _ hR hS hl (owp_of h))
theorem cw_X10_saves : Cond.code yX10_saves cX10_saves 2 none ∈ WT := WT_of 1066 (by decide +kernel) (by decide +kernel)
theorem iv_X10_saves {p : Program} {l : Launch} {e : Env} {R : Room} {s : State} {m : MethodId} {args : Array Value} {below : List Frame} {meth : Method} {c : Code} {H : Heap} {locs : List Loc} {cells slots : Nat} {Q : State → Prop} {cc : ByteArray} {own : String} {nL : Nat} {G : va_G} {aC : Nat → ClassId} {t b0 : Nat} {N N1 : AH} {pc index : Nat} {ls : Array Slot} {rest : List Value} {v0 : Nat} {r : Unit} (w1 : Cond.methodLink own index yX10_saves ∈ WT) (X : CX cc own nL G aC t b0 p s m args c) (hR : Rp G aC b0 N H) (hS : va_S (fun q => b0 ≤ q) s.heap H locs) (h : f_X10_saves v0 N = some (r, N1)) (hls : ls.size = nL) (hW : (rest.map fun v => v.category).sum ≤ 8) (hR1 : 2 ≤ R.frames ∧ 44 ≤ R.locals) (hcs : cells + 0 ≤ R.cells ∧ slots + 0 ≤ R.slots) (hdg : decode cc pc = .ok (.invokevirtual index, 3)) (kk : ∀ (H1 : Heap) (locs1 : List Loc), Rp G aC b0 N1 H1 → va_S (fun q => b0 ≤ q) s.heap H1 locs1 → W p l e R s m args below meth c H1 locs1 cells slots Q (F0 m (pc + 3) ls rest)) : W p l e R s m args below meth c H locs cells slots Q (F0 m pc ls (.ref v0 :: rest)) :=
  ab_callV (n := 0) (As := []) X hR hS (ct_X10_saves h) (ob_rc (c := 10) (N := N) (a := v0) h) (T := TX10) (k := 20) (C := RX10) rfl w1 (WT_of 1065 (by decide +kernel) (by decide +kernel)) (WT_of 40 (by decide +kernel) (by decide +kernel)) (WT_of 92 (by decide +kernel) (by decide +kernel)) cw_X10_saves ⟨rfl, by decide +kernel, by decide +kernel, by decide +kernel⟩ rfl hls hW hR1 hcs rfl hdg kk
-- X10_of
theorem dX10_of_0 : decode cX10_of 0 = .ok (.aload_n 0, 1) := by decide +kernel
theorem dX10_of_1 : decode cX10_of 1 = .ok (.getfield 7, 3) := by decide +kernel
theorem dX10_of_4 : decode cX10_of 4 = .ok (.bipush 90, 2) := by decide +kernel
theorem dX10_of_6 : decode cX10_of 6 = .ok (.bipush 86, 2) := by decide +kernel
theorem dX10_of_8 : decode cX10_of 8 = .ok (.iload_n 1, 1) := by decide +kernel
theorem dX10_of_9 : decode cX10_of 9 = .ok (.imul, 1) := by decide +kernel
theorem dX10_of_10 : decode cX10_of 10 = .ok (.iadd, 1) := by decide +kernel
theorem dX10_of_11 : decode cX10_of 11 = .ok (.iload_n 2, 1) := by decide +kernel
theorem dX10_of_12 : decode cX10_of 12 = .ok (.iadd, 1) := by decide +kernel
theorem dX10_of_13 : decode cX10_of 13 = .ok (.iaload, 1) := by decide +kernel
theorem dX10_of_14 : decode cX10_of 14 = .ok (.ireturn, 1) := by decide +kernel
def rm_X10_of : Room := { frames := 0, cells := 0, slots := 0, locals := 0 }
section
variable {p : Program} {l : Launch} {e : Env} {s : State} {m : MethodId} {args : Array Value} {below : List Frame} {meth : Method} {c : Code} {Q : State → Prop} {G : va_G} {aC : Nat → ClassId} {t b0 : Nat}
def f_X10_of (v0 : Nat) (v1 : Int32) (v2 : Int32) (N : AH) : Option (Int32 × AH) := ob (iO N v0 10) (fun _ => ob (hR N v0 10 0) (fun x1 => ob (aI N x1 (((90 : Int32) + ((86 : Int32) * v1)) + v2)) (fun x2 => some (x2, N))))
set_option maxHeartbeats 4000000 in
set_option maxRecDepth 100000 in
theorem wk_X10_of {P : Int32 × AH → Prop} (X : CX cX10_of RX10 3 G aC t b0 p s m args c) (hr : RtI p l e rm_X10_of s m args below meth c 0 0 Q cX10_of G aC b0 P) (v0 : Nat) (v1 : Int32) (v2 : Int32) (N : AH) (H : Heap) (locs : List Loc) (ls : Array Slot) (hR : Rp G aC b0 N H) (hS : va_S (fun q => b0 ≤ q) s.heap H locs) (hl : lv_has ls 3 [(0, .ref v0), (1, .int v1), (2, .int v2)]) (hp : owp (f_X10_of v0 v1 v2 N) P) : W p l e rm_X10_of s m args below meth c H locs 0 0 Q (F0 m 0 ls []) := by
  have hx := X.1.1
  have hb := X.1.2.1
  unfold f_X10_of at hp
  obtain ⟨_, _, hp⟩ := owp_ob hp
  refine lv_aload_n hx hb dX10_of_0 rfl (lv_at hl 0 rfl) ?_
  obtain ⟨x1, e_x1, hp⟩ := owp_ob hp
  refine gf_X10_7 X hR e_x1 dX10_of_1 ?_
  refine lv_bipush (v := (90)) hx hb dX10_of_4 (by decide) ?_
  refine lv_bipush (v := (86)) hx hb dX10_of_6 (by decide) ?_
  refine lv_iload_n hx hb dX10_of_8 rfl (lv_at hl 1 rfl) ?_
  refine lv_imul hx hb dX10_of_9 ?_
  refine lv_iadd hx hb dX10_of_10 ?_
  refine lv_iload_n hx hb dX10_of_11 rfl (lv_at hl 2 rfl) ?_
  refine lv_iadd hx hb dX10_of_12 ?_
  obtain ⟨x2, e_x2, hp⟩ := owp_ob hp
  refine ab_iald X hR e_x2 dX10_of_13 ?_
  exact hr _ _ _ _ _ _ hR hS dX10_of_14 hp
end
theorem ct_X10_of {v0 : Nat} {v1 : Int32} {v2 : Int32} {N N1 : AH} {r : Int32} (h : f_X10_of v0 v1 v2 N = some (r, N1)) : Ct yX10_of cX10_of 3 (some .int) rm_X10_of [.ref v0, .int v1, .int v2] N (some (.int r)) N1 :=
  ab_met (own := RX10) (by decide +kernel) rfl (Nat.le_of_ble_eq_true rfl) (fun l G aC t b0 p e s m below meth c ls X hr hlk hnm hR hS hl => wk_X10_of X (RtI_met X.1.1 X.1.2.1 hr hlk) _ _ _ _ _ _ _ hR hS hl (owp_of h))
theorem cw_X10_of : Cond.code yX10_of cX10_of 3 (some .int) ∈ WT := WT_of 1101 (by decide +kernel) (by decide +kernel)
theorem iv_X10_of {p : Program} {l : Launch} {e : Env} {R : Room} {s : State} {m : MethodId} {args : Array Value} {below : List Frame} {meth : Method} {c : Code} {H : Heap} {locs : List Loc} {cells slots : Nat} {Q : State → Prop} {cc : ByteArray} {own : String} {nL : Nat} {G : va_G} {aC : Nat → ClassId} {t b0 : Nat} {N N1 : AH} {pc index : Nat} {ls : Array Slot} {rest : List Value} {v0 : Nat} {v1 : Int32} {v2 : Int32} {r : Int32} (w1 : Cond.methodLink own index yX10_of ∈ WT) (X : CX cc own nL G aC t b0 p s m args c) (hR : Rp G aC b0 N H) (hS : va_S (fun q => b0 ≤ q) s.heap H locs) (h : f_X10_of v0 v1 v2 N = some (r, N1)) (hls : ls.size = nL) (hW : (rest.map fun v => v.category).sum ≤ 8) (hR1 : 1 ≤ R.frames ∧ 22 ≤ R.locals) (hcs : cells + 0 ≤ R.cells ∧ slots + 0 ≤ R.slots) (hdg : decode cc pc = .ok (.invokevirtual index, 3)) (kk : ∀ (H1 : Heap) (locs1 : List Loc), Rp G aC b0 N1 H1 → va_S (fun q => b0 ≤ q) s.heap H1 locs1 → W p l e R s m args below meth c H1 locs1 cells slots Q (F0 m (pc + 3) ls (.int r :: rest))) : W p l e R s m args below meth c H locs cells slots Q (F0 m pc ls (.int v2 :: .int v1 :: .ref v0 :: rest)) :=
  ab_callV (n := 2) (As := [.int v1, .int v2]) X hR hS (ct_X10_of h) (ob_rc (c := 10) (N := N) (a := v0) h) (T := TX10) (k := 20) (C := RX10) rfl w1 (WT_of 1100 (by decide +kernel) (by decide +kernel)) (WT_of 45 (by decide +kernel) (by decide +kernel)) (WT_of 92 (by decide +kernel) (by decide +kernel)) cw_X10_of ⟨rfl, by decide +kernel, by decide +kernel, by decide +kernel⟩ rfl hls hW hR1 hcs rfl hdg kk
-- X10_sets
theorem dX10_sets_0 : decode cX10_sets 0 = .ok (.aload_n 0, 1) := by decide +kernel
theorem dX10_sets_1 : decode cX10_sets 1 = .ok (.getfield 7, 3) := by decide +kernel
theorem dX10_sets_4 : decode cX10_sets 4 = .ok (.bipush 90, 2) := by decide +kernel
theorem dX10_sets_6 : decode cX10_sets 6 = .ok (.bipush 86, 2) := by decide +kernel
theorem dX10_sets_8 : decode cX10_sets 8 = .ok (.iload_n 1, 1) := by decide +kernel
theorem dX10_sets_9 : decode cX10_sets 9 = .ok (.imul, 1) := by decide +kernel
theorem dX10_sets_10 : decode cX10_sets 10 = .ok (.iadd, 1) := by decide +kernel
theorem dX10_sets_11 : decode cX10_sets 11 = .ok (.iload_n 2, 1) := by decide +kernel
theorem dX10_sets_12 : decode cX10_sets 12 = .ok (.iadd, 1) := by decide +kernel
theorem dX10_sets_13 : decode cX10_sets 13 = .ok (.iload_n 3, 1) := by decide +kernel
theorem dX10_sets_14 : decode cX10_sets 14 = .ok (.iastore, 1) := by decide +kernel
theorem dX10_sets_15 : decode cX10_sets 15 = .ok (.return_, 1) := by decide +kernel
def rm_X10_sets : Room := { frames := 0, cells := 0, slots := 0, locals := 0 }
section
variable {p : Program} {l : Launch} {e : Env} {s : State} {m : MethodId} {args : Array Value} {below : List Frame} {meth : Method} {c : Code} {Q : State → Prop} {G : va_G} {aC : Nat → ClassId} {t b0 : Nat}
def f_X10_sets (v0 : Nat) (v1 : Int32) (v2 : Int32) (v3 : Int32) (N : AH) : Option (Unit × AH) := ob (iO N v0 10) (fun _ => ob (hR N v0 10 0) (fun x1 => ob (sI N x1 (((90 : Int32) + ((86 : Int32) * v1)) + v2) v3) (fun N2 => some ((), N2))))
set_option maxHeartbeats 4000000 in
set_option maxRecDepth 100000 in
theorem wk_X10_sets {P : Unit × AH → Prop} (X : CX cX10_sets RX10 4 G aC t b0 p s m args c) (hr : RtV p l e rm_X10_sets s m args below meth c 0 0 Q cX10_sets G aC b0 P) (v0 : Nat) (v1 : Int32) (v2 : Int32) (v3 : Int32) (N : AH) (H : Heap) (locs : List Loc) (ls : Array Slot) (hR : Rp G aC b0 N H) (hS : va_S (fun q => b0 ≤ q) s.heap H locs) (hl : lv_has ls 4 [(0, .ref v0), (1, .int v1), (2, .int v2), (3, .int v3)]) (hp : owp (f_X10_sets v0 v1 v2 v3 N) P) : W p l e rm_X10_sets s m args below meth c H locs 0 0 Q (F0 m 0 ls []) := by
  have hx := X.1.1
  have hb := X.1.2.1
  unfold f_X10_sets at hp
  obtain ⟨_, _, hp⟩ := owp_ob hp
  refine lv_aload_n hx hb dX10_sets_0 rfl (lv_at hl 0 rfl) ?_
  obtain ⟨x1, e_x1, hp⟩ := owp_ob hp
  refine gf_X10_7 X hR e_x1 dX10_sets_1 ?_
  refine lv_bipush (v := (90)) hx hb dX10_sets_4 (by decide) ?_
  refine lv_bipush (v := (86)) hx hb dX10_sets_6 (by decide) ?_
  refine lv_iload_n hx hb dX10_sets_8 rfl (lv_at hl 1 rfl) ?_
  refine lv_imul hx hb dX10_sets_9 ?_
  refine lv_iadd hx hb dX10_sets_10 ?_
  refine lv_iload_n hx hb dX10_sets_11 rfl (lv_at hl 2 rfl) ?_
  refine lv_iadd hx hb dX10_sets_12 ?_
  refine lv_iload_n hx hb dX10_sets_13 rfl (lv_at hl 3 rfl) ?_
  obtain ⟨N2, e_N2, hp⟩ := owp_ob hp
  refine ab_iast X hR hS e_N2 dX10_sets_14 (fun H locs hR hS => ?_)
  exact hr _ _ _ _ _ hR hS dX10_sets_15 hp
end
theorem ct_X10_sets {v0 : Nat} {v1 : Int32} {v2 : Int32} {v3 : Int32} {N N1 : AH} {r : Unit} (h : f_X10_sets v0 v1 v2 v3 N = some (r, N1)) : Ct yX10_sets cX10_sets 4 none rm_X10_sets [.ref v0, .int v1, .int v2, .int v3] N none N1 :=
  ab_met (own := RX10) (by decide +kernel) rfl (Nat.le_of_ble_eq_true rfl) (fun l G aC t b0 p e s m below meth c ls X hr hlk hnm hR hS hl => wk_X10_sets X (RtV_met X.1.1 X.1.2.1 hr hlk) _ _ _ _ _ _ _ _ hR hS hl (owp_of h))
theorem cw_X10_sets : Cond.code yX10_sets cX10_sets 4 none ∈ WT := WT_of 1089 (by decide +kernel) (by decide +kernel)
theorem iv_X10_sets {p : Program} {l : Launch} {e : Env} {R : Room} {s : State} {m : MethodId} {args : Array Value} {below : List Frame} {meth : Method} {c : Code} {H : Heap} {locs : List Loc} {cells slots : Nat} {Q : State → Prop} {cc : ByteArray} {own : String} {nL : Nat} {G : va_G} {aC : Nat → ClassId} {t b0 : Nat} {N N1 : AH} {pc index : Nat} {ls : Array Slot} {rest : List Value} {v0 : Nat} {v1 : Int32} {v2 : Int32} {v3 : Int32} {r : Unit} (w1 : Cond.methodLink own index yX10_sets ∈ WT) (X : CX cc own nL G aC t b0 p s m args c) (hR : Rp G aC b0 N H) (hS : va_S (fun q => b0 ≤ q) s.heap H locs) (h : f_X10_sets v0 v1 v2 v3 N = some (r, N1)) (hls : ls.size = nL) (hW : (rest.map fun v => v.category).sum ≤ 8) (hR1 : 1 ≤ R.frames ∧ 23 ≤ R.locals) (hcs : cells + 0 ≤ R.cells ∧ slots + 0 ≤ R.slots) (hdg : decode cc pc = .ok (.invokevirtual index, 3)) (kk : ∀ (H1 : Heap) (locs1 : List Loc), Rp G aC b0 N1 H1 → va_S (fun q => b0 ≤ q) s.heap H1 locs1 → W p l e R s m args below meth c H1 locs1 cells slots Q (F0 m (pc + 3) ls rest)) : W p l e R s m args below meth c H locs cells slots Q (F0 m pc ls (.int v3 :: .int v2 :: .int v1 :: .ref v0 :: rest)) :=
  ab_callV (n := 3) (As := [.int v1, .int v2, .int v3]) X hR hS (ct_X10_sets h) (ob_rc (c := 10) (N := N) (a := v0) h) (T := TX10) (k := 20) (C := RX10) rfl w1 (WT_of 1088 (by decide +kernel) (by decide +kernel)) (WT_of 42 (by decide +kernel) (by decide +kernel)) (WT_of 92 (by decide +kernel) (by decide +kernel)) cw_X10_sets ⟨rfl, by decide +kernel, by decide +kernel, by decide +kernel⟩ rfl hls hW hR1 hcs rfl hdg kk
-- X10_flowOf
theorem mw_X10_52 : Cond.methodLink RX10 52 yX10_of ∈ WT := WT_of 1098 (by decide +kernel) (by decide +kernel)
theorem dX10_flowOf_0 : decode cX10_flowOf 0 = .ok (.aload_n 0, 1) := by decide +kernel
theorem dX10_flowOf_1 : decode cX10_flowOf 1 = .ok (.iload_n 1, 1) := by decide +kernel
theorem dX10_flowOf_2 : decode cX10_flowOf 2 = .ok (.bipush 6, 2) := by decide +kernel
theorem dX10_flowOf_4 : decode cX10_flowOf 4 = .ok (.iconst 5, 1) := by decide +kernel
theorem dX10_flowOf_5 : decode cX10_flowOf 5 = .ok (.iload_n 2, 1) := by decide +kernel
theorem dX10_flowOf_6 : decode cX10_flowOf 6 = .ok (.imul, 1) := by decide +kernel
theorem dX10_flowOf_7 : decode cX10_flowOf 7 = .ok (.iadd, 1) := by decide +kernel
theorem dX10_flowOf_8 : decode cX10_flowOf 8 = .ok (.iload_n 3, 1) := by decide +kernel
theorem dX10_flowOf_9 : decode cX10_flowOf 9 = .ok (.iadd, 1) := by decide +kernel
theorem dX10_flowOf_10 : decode cX10_flowOf 10 = .ok (.invokevirtual 52, 3) := by decide +kernel
theorem dX10_flowOf_13 : decode cX10_flowOf 13 = .ok (.ireturn, 1) := by decide +kernel
def rm_X10_flowOf : Room := { frames := 1, cells := 0, slots := 0, locals := 22 }
section
variable {p : Program} {l : Launch} {e : Env} {s : State} {m : MethodId} {args : Array Value} {below : List Frame} {meth : Method} {c : Code} {Q : State → Prop} {G : va_G} {aC : Nat → ClassId} {t b0 : Nat}
def f_X10_flowOf (v0 : Nat) (v1 : Int32) (v2 : Int32) (v3 : Int32) (N : AH) : Option (Int32 × AH) := ob (iO N v0 10) (fun _ => ob2 (f_X10_of v0 v1 (((6 : Int32) + ((5 : Int32) * v2)) + v3) N) (fun x2 N1 => some (x2, N1)))
set_option maxHeartbeats 4000000 in
set_option maxRecDepth 100000 in
theorem wk_X10_flowOf {P : Int32 × AH → Prop} (X : CX cX10_flowOf RX10 4 G aC t b0 p s m args c) (hr : RtI p l e rm_X10_flowOf s m args below meth c 0 0 Q cX10_flowOf G aC b0 P) (v0 : Nat) (v1 : Int32) (v2 : Int32) (v3 : Int32) (N : AH) (H : Heap) (locs : List Loc) (ls : Array Slot) (hR : Rp G aC b0 N H) (hS : va_S (fun q => b0 ≤ q) s.heap H locs) (hl : lv_has ls 4 [(0, .ref v0), (1, .int v1), (2, .int v2), (3, .int v3)]) (hp : owp (f_X10_flowOf v0 v1 v2 v3 N) P) : W p l e rm_X10_flowOf s m args below meth c H locs 0 0 Q (F0 m 0 ls []) := by
  have hx := X.1.1
  have hb := X.1.2.1
  unfold f_X10_flowOf at hp
  obtain ⟨_, _, hp⟩ := owp_ob hp
  refine lv_aload_n hx hb dX10_flowOf_0 rfl (lv_at hl 0 rfl) ?_
  refine lv_iload_n hx hb dX10_flowOf_1 rfl (lv_at hl 1 rfl) ?_
  refine lv_bipush (v := (6)) hx hb dX10_flowOf_2 (by decide) ?_
  refine lv_iconst (v := (5)) hx hb dX10_flowOf_4 (by decide) ?_
  refine lv_iload_n hx hb dX10_flowOf_5 rfl (lv_at hl 2 rfl) ?_
  refine lv_imul hx hb dX10_flowOf_6 ?_
  refine lv_iadd hx hb dX10_flowOf_7 ?_
  refine lv_iload_n hx hb dX10_flowOf_8 rfl (lv_at hl 3 rfl) ?_
  refine lv_iadd hx hb dX10_flowOf_9 ?_
  obtain ⟨x2, N1, e_N1, hp⟩ := owp_ob2 hp
  refine iv_X10_of (rest := []) mw_X10_52 X hR hS e_N1 hl.1 (Nat.le_of_ble_eq_true rfl) ⟨Nat.le_of_ble_eq_true rfl, Nat.le_of_ble_eq_true rfl⟩ ⟨Nat.le_of_ble_eq_true rfl, Nat.le_of_ble_eq_true rfl⟩ dX10_flowOf_10 (fun H locs hR hS => ?_)
  exact hr _ _ _ _ _ _ hR hS dX10_flowOf_13 hp
end
theorem ct_X10_flowOf {v0 : Nat} {v1 : Int32} {v2 : Int32} {v3 : Int32} {N N1 : AH} {r : Int32} (h : f_X10_flowOf v0 v1 v2 v3 N = some (r, N1)) : Ct yX10_flowOf cX10_flowOf 4 (some .int) rm_X10_flowOf [.ref v0, .int v1, .int v2, .int v3] N (some (.int r)) N1 :=
  ab_met (own := RX10) (by decide +kernel) rfl (Nat.le_of_ble_eq_true rfl) (fun l G aC t b0 p e s m below meth c ls X hr hlk hnm hR hS hl => wk_X10_flowOf X (RtI_met X.1.1 X.1.2.1 hr hlk) _ _ _ _ _ _ _ _ hR hS hl (owp_of h))
theorem cw_X10_flowOf : Cond.code yX10_flowOf cX10_flowOf 4 (some .int) ∈ WT := WT_of 1117 (by decide +kernel) (by decide +kernel)
theorem iv_X10_flowOf {p : Program} {l : Launch} {e : Env} {R : Room} {s : State} {m : MethodId} {args : Array Value} {below : List Frame} {meth : Method} {c : Code} {H : Heap} {locs : List Loc} {cells slots : Nat} {Q : State → Prop} {cc : ByteArray} {own : String} {nL : Nat} {G : va_G} {aC : Nat → ClassId} {t b0 : Nat} {N N1 : AH} {pc index : Nat} {ls : Array Slot} {rest : List Value} {v0 : Nat} {v1 : Int32} {v2 : Int32} {v3 : Int32} {r : Int32} (w1 : Cond.methodLink own index yX10_flowOf ∈ WT) (X : CX cc own nL G aC t b0 p s m args c) (hR : Rp G aC b0 N H) (hS : va_S (fun q => b0 ≤ q) s.heap H locs) (h : f_X10_flowOf v0 v1 v2 v3 N = some (r, N1)) (hls : ls.size = nL) (hW : (rest.map fun v => v.category).sum ≤ 8) (hR1 : 2 ≤ R.frames ∧ 45 ≤ R.locals) (hcs : cells + 0 ≤ R.cells ∧ slots + 0 ≤ R.slots) (hdg : decode cc pc = .ok (.invokevirtual index, 3)) (kk : ∀ (H1 : Heap) (locs1 : List Loc), Rp G aC b0 N1 H1 → va_S (fun q => b0 ≤ q) s.heap H1 locs1 → W p l e R s m args below meth c H1 locs1 cells slots Q (F0 m (pc + 3) ls (.int r :: rest))) : W p l e R s m args below meth c H locs cells slots Q (F0 m pc ls (.int v3 :: .int v2 :: .int v1 :: .ref v0 :: rest)) :=
  ab_callV (n := 3) (As := [.int v1, .int v2, .int v3]) X hR hS (ct_X10_flowOf h) (ob_rc (c := 10) (N := N) (a := v0) h) (T := TX10) (k := 20) (C := RX10) rfl w1 (WT_of 1116 (by decide +kernel) (by decide +kernel)) (WT_of 49 (by decide +kernel) (by decide +kernel)) (WT_of 92 (by decide +kernel) (by decide +kernel)) cw_X10_flowOf ⟨rfl, by decide +kernel, by decide +kernel, by decide +kernel⟩ rfl hls hW hR1 hcs rfl hdg kk
-- X10_setsFlow
theorem mw_X10_56 : Cond.methodLink RX10 56 yX10_sets ∈ WT := WT_of 1086 (by decide +kernel) (by decide +kernel)
theorem dX10_setsFlow_0 : decode cX10_setsFlow 0 = .ok (.aload_n 0, 1) := by decide +kernel
theorem dX10_setsFlow_1 : decode cX10_setsFlow 1 = .ok (.iload_n 1, 1) := by decide +kernel
theorem dX10_setsFlow_2 : decode cX10_setsFlow 2 = .ok (.bipush 6, 2) := by decide +kernel
theorem dX10_setsFlow_4 : decode cX10_setsFlow 4 = .ok (.iconst 5, 1) := by decide +kernel
theorem dX10_setsFlow_5 : decode cX10_setsFlow 5 = .ok (.iload_n 2, 1) := by decide +kernel
theorem dX10_setsFlow_6 : decode cX10_setsFlow 6 = .ok (.imul, 1) := by decide +kernel
theorem dX10_setsFlow_7 : decode cX10_setsFlow 7 = .ok (.iadd, 1) := by decide +kernel
theorem dX10_setsFlow_8 : decode cX10_setsFlow 8 = .ok (.iload_n 3, 1) := by decide +kernel
theorem dX10_setsFlow_9 : decode cX10_setsFlow 9 = .ok (.iadd, 1) := by decide +kernel
theorem dX10_setsFlow_10 : decode cX10_setsFlow 10 = .ok (.iload 4, 2) := by decide +kernel
theorem dX10_setsFlow_12 : decode cX10_setsFlow 12 = .ok (.invokevirtual 56, 3) := by decide +kernel
theorem dX10_setsFlow_15 : decode cX10_setsFlow 15 = .ok (.return_, 1) := by decide +kernel
def rm_X10_setsFlow : Room := { frames := 1, cells := 0, slots := 0, locals := 23 }
section
variable {p : Program} {l : Launch} {e : Env} {s : State} {m : MethodId} {args : Array Value} {below : List Frame} {meth : Method} {c : Code} {Q : State → Prop} {G : va_G} {aC : Nat → ClassId} {t b0 : Nat}
def f_X10_setsFlow (v0 : Nat) (v1 : Int32) (v2 : Int32) (v3 : Int32) (v4 : Int32) (N : AH) : Option (Unit × AH) := ob (iO N v0 10) (fun _ => ob2 (f_X10_sets v0 v1 (((6 : Int32) + ((5 : Int32) * v2)) + v3) v4 N) (fun _ N1 => some ((), N1)))
set_option maxHeartbeats 4000000 in
set_option maxRecDepth 100000 in
theorem wk_X10_setsFlow {P : Unit × AH → Prop} (X : CX cX10_setsFlow RX10 5 G aC t b0 p s m args c) (hr : RtV p l e rm_X10_setsFlow s m args below meth c 0 0 Q cX10_setsFlow G aC b0 P) (v0 : Nat) (v1 : Int32) (v2 : Int32) (v3 : Int32) (v4 : Int32) (N : AH) (H : Heap) (locs : List Loc) (ls : Array Slot) (hR : Rp G aC b0 N H) (hS : va_S (fun q => b0 ≤ q) s.heap H locs) (hl : lv_has ls 5 [(0, .ref v0), (1, .int v1), (2, .int v2), (3, .int v3), (4, .int v4)]) (hp : owp (f_X10_setsFlow v0 v1 v2 v3 v4 N) P) : W p l e rm_X10_setsFlow s m args below meth c H locs 0 0 Q (F0 m 0 ls []) := by
  have hx := X.1.1
  have hb := X.1.2.1
  unfold f_X10_setsFlow at hp
  obtain ⟨_, _, hp⟩ := owp_ob hp
  refine lv_aload_n hx hb dX10_setsFlow_0 rfl (lv_at hl 0 rfl) ?_
  refine lv_iload_n hx hb dX10_setsFlow_1 rfl (lv_at hl 1 rfl) ?_
  refine lv_bipush (v := (6)) hx hb dX10_setsFlow_2 (by decide) ?_
  refine lv_iconst (v := (5)) hx hb dX10_setsFlow_4 (by decide) ?_
  refine lv_iload_n hx hb dX10_setsFlow_5 rfl (lv_at hl 2 rfl) ?_
  refine lv_imul hx hb dX10_setsFlow_6 ?_
  refine lv_iadd hx hb dX10_setsFlow_7 ?_
  refine lv_iload_n hx hb dX10_setsFlow_8 rfl (lv_at hl 3 rfl) ?_
  refine lv_iadd hx hb dX10_setsFlow_9 ?_
  refine lv_iload hx hb dX10_setsFlow_10 (lv_at hl 4 rfl) ?_
  obtain ⟨_, N1, e_N1, hp⟩ := owp_ob2 hp
  refine iv_X10_sets (rest := []) mw_X10_56 X hR hS e_N1 hl.1 (Nat.le_of_ble_eq_true rfl) ⟨Nat.le_of_ble_eq_true rfl, Nat.le_of_ble_eq_true rfl⟩ ⟨Nat.le_of_ble_eq_true rfl, Nat.le_of_ble_eq_true rfl⟩ dX10_setsFlow_12 (fun H locs hR hS => ?_)
  exact hr _ _ _ _ _ hR hS dX10_setsFlow_15 hp
end
theorem ct_X10_setsFlow {v0 : Nat} {v1 : Int32} {v2 : Int32} {v3 : Int32} {v4 : Int32} {N N1 : AH} {r : Unit} (h : f_X10_setsFlow v0 v1 v2 v3 v4 N = some (r, N1)) : Ct yX10_setsFlow cX10_setsFlow 5 none rm_X10_setsFlow [.ref v0, .int v1, .int v2, .int v3, .int v4] N none N1 :=
  ab_met (own := RX10) (by decide +kernel) rfl (Nat.le_of_ble_eq_true rfl) (fun l G aC t b0 p e s m below meth c ls X hr hlk hnm hR hS hl => wk_X10_setsFlow X (RtV_met X.1.1 X.1.2.1 hr hlk) _ _ _ _ _ _ _ _ _ hR hS hl (owp_of h))
theorem cw_X10_setsFlow : Cond.code yX10_setsFlow cX10_setsFlow 5 none ∈ WT := WT_of 1093 (by decide +kernel) (by decide +kernel)
theorem iv_X10_setsFlow {p : Program} {l : Launch} {e : Env} {R : Room} {s : State} {m : MethodId} {args : Array Value} {below : List Frame} {meth : Method} {c : Code} {H : Heap} {locs : List Loc} {cells slots : Nat} {Q : State → Prop} {cc : ByteArray} {own : String} {nL : Nat} {G : va_G} {aC : Nat → ClassId} {t b0 : Nat} {N N1 : AH} {pc index : Nat} {ls : Array Slot} {rest : List Value} {v0 : Nat} {v1 : Int32} {v2 : Int32} {v3 : Int32} {v4 : Int32} {r : Unit} (w1 : Cond.methodLink own index yX10_setsFlow ∈ WT) (X : CX cc own nL G aC t b0 p s m args c) (hR : Rp G aC b0 N H) (hS : va_S (fun q => b0 ≤ q) s.heap H locs) (h : f_X10_setsFlow v0 v1 v2 v3 v4 N = some (r, N1)) (hls : ls.size = nL) (hW : (rest.map fun v => v.category).sum ≤ 8) (hR1 : 2 ≤ R.frames ∧ 47 ≤ R.locals) (hcs : cells + 0 ≤ R.cells ∧ slots + 0 ≤ R.slots) (hdg : decode cc pc = .ok (.invokevirtual index, 3)) (kk : ∀ (H1 : Heap) (locs1 : List Loc), Rp G aC b0 N1 H1 → va_S (fun q => b0 ≤ q) s.heap H1 locs1 → W p l e R s m args below meth c H1 locs1 cells slots Q (F0 m (pc + 3) ls rest)) : W p l e R s m args below meth c H locs cells slots Q (F0 m pc ls (.int v4 :: .int v3 :: .int v2 :: .int v1 :: .ref v0 :: rest)) :=
  ab_callV (n := 4) (As := [.int v1, .int v2, .int v3, .int v4]) X hR hS (ct_X10_setsFlow h) (ob_rc (c := 10) (N := N) (a := v0) h) (T := TX10) (k := 20) (C := RX10) rfl w1 (WT_of 1092 (by decide +kernel) (by decide +kernel)) (WT_of 43 (by decide +kernel) (by decide +kernel)) (WT_of 92 (by decide +kernel) (by decide +kernel)) cw_X10_setsFlow ⟨rfl, by decide +kernel, by decide +kernel, by decide +kernel⟩ rfl hls hW hR1 hcs rfl hdg kk
-- X10_isGroup
theorem mw_X10_60 : Cond.methodLink RX10 60 yX10_in ∈ WT := WT_of 1014 (by decide +kernel) (by decide +kernel)
theorem dX10_isGroup_0 : decode cX10_isGroup 0 = .ok (.iload_n 1, 1) := by decide +kernel
theorem dX10_isGroup_1 : decode cX10_isGroup 1 = .ok (.i2l, 1) := by decide +kernel
theorem dX10_isGroup_2 : decode cX10_isGroup 2 = .ok (.lconst 0, 1) := by decide +kernel
theorem dX10_isGroup_3 : decode cX10_isGroup 3 = .ok (.aload_n 0, 1) := by decide +kernel
theorem dX10_isGroup_4 : decode cX10_isGroup 4 = .ok (.getfield 7, 3) := by decide +kernel
theorem dX10_isGroup_7 : decode cX10_isGroup 7 = .ok (.bipush 6, 2) := by decide +kernel
theorem dX10_isGroup_9 : decode cX10_isGroup 9 = .ok (.iaload, 1) := by decide +kernel
theorem dX10_isGroup_10 : decode cX10_isGroup 10 = .ok (.iconst 1, 1) := by decide +kernel
theorem dX10_isGroup_11 : decode cX10_isGroup 11 = .ok (.isub, 1) := by decide +kernel
theorem dX10_isGroup_12 : decode cX10_isGroup 12 = .ok (.i2l, 1) := by decide +kernel
theorem dX10_isGroup_13 : decode cX10_isGroup 13 = .ok (.invokestatic 60, 3) := by decide +kernel
theorem dX10_isGroup_16 : decode cX10_isGroup 16 = .ok (.ireturn, 1) := by decide +kernel
def rm_X10_isGroup : Room := { frames := 1, cells := 0, slots := 0, locals := 25 }
section
variable {p : Program} {l : Launch} {e : Env} {s : State} {m : MethodId} {args : Array Value} {below : List Frame} {meth : Method} {c : Code} {Q : State → Prop} {G : va_G} {aC : Nat → ClassId} {t b0 : Nat}
def f_X10_isGroup (v0 : Nat) (v1 : Int32) (N : AH) : Option (Int32 × AH) := ob (iO N v0 10) (fun _ => ob (hR N v0 10 0) (fun x1 => ob (aI N x1 (6 : Int32)) (fun x2 => ob2 (f_X10_in (Int32.toInt64 v1) (0 : Int64) (Int32.toInt64 (x2 - (1 : Int32))) N) (fun x4 N3 => rZ x4 N3))))
set_option maxHeartbeats 4000000 in
set_option maxRecDepth 100000 in
theorem wk_X10_isGroup {P : Int32 × AH → Prop} (X : CX cX10_isGroup RX10 2 G aC t b0 p s m args c) (hr : RtZ p l e rm_X10_isGroup s m args below meth c 0 0 Q cX10_isGroup G aC b0 P) (v0 : Nat) (v1 : Int32) (N : AH) (H : Heap) (locs : List Loc) (ls : Array Slot) (hR : Rp G aC b0 N H) (hS : va_S (fun q => b0 ≤ q) s.heap H locs) (hl : lv_has ls 2 [(0, .ref v0), (1, .int v1)]) (hp : owp (f_X10_isGroup v0 v1 N) P) : W p l e rm_X10_isGroup s m args below meth c H locs 0 0 Q (F0 m 0 ls []) := by
  have hx := X.1.1
  have hb := X.1.2.1
  unfold f_X10_isGroup at hp
  obtain ⟨_, _, hp⟩ := owp_ob hp
  refine lv_iload_n hx hb dX10_isGroup_0 rfl (lv_at hl 1 rfl) ?_
  refine lv_i2l (v := Int32.toInt64 v1) hx hb dX10_isGroup_1 rfl ?_
  refine lv_lconst (v := 0) hx hb dX10_isGroup_2 (by decide) ?_
  refine lv_aload_n hx hb dX10_isGroup_3 rfl (lv_at hl 0 rfl) ?_
  obtain ⟨x1, e_x1, hp⟩ := owp_ob hp
  refine gf_X10_7 X hR e_x1 dX10_isGroup_4 ?_
  refine lv_bipush (v := (6)) hx hb dX10_isGroup_7 (by decide) ?_
  obtain ⟨x2, e_x2, hp⟩ := owp_ob hp
  refine ab_iald X hR e_x2 dX10_isGroup_9 ?_
  refine lv_iconst (v := (1)) hx hb dX10_isGroup_10 (by decide) ?_
  refine lv_isub hx hb dX10_isGroup_11 ?_
  refine lv_i2l (v := Int32.toInt64 (x2 - (1 : Int32))) hx hb dX10_isGroup_12 rfl ?_
  obtain ⟨x4, N3, e_N3, hp⟩ := owp_ob2 hp
  refine iv_X10_in (rest := []) mw_X10_60 X hR hS e_N3 hl.1 (Nat.le_of_ble_eq_true rfl) ⟨Nat.le_of_ble_eq_true rfl, Nat.le_of_ble_eq_true rfl⟩ ⟨Nat.le_of_ble_eq_true rfl, Nat.le_of_ble_eq_true rfl⟩ dX10_isGroup_13 (fun H locs hR hS => ?_)
  exact hr _ _ _ _ _ _ hR hS dX10_isGroup_16 hp
end
theorem ct_X10_isGroup {v0 : Nat} {v1 : Int32} {N N1 : AH} {r : Int32} (h : f_X10_isGroup v0 v1 N = some (r, N1)) : Ct yX10_isGroup cX10_isGroup 2 (some .boolean) rm_X10_isGroup [.ref v0, .int v1] N (some (.int r)) N1 :=
  ab_met (own := RX10) (by decide +kernel) rfl (Nat.le_of_ble_eq_true rfl) (fun l G aC t b0 p e s m below meth c ls X hr hlk hnm hR hS hl => wk_X10_isGroup X (RtZ_met X.1.1 X.1.2.1 hr hlk) _ _ _ _ _ _ hR hS hl (owp_of h))
theorem cw_X10_isGroup : Cond.code yX10_isGroup cX10_isGroup 2 (some .boolean) ∈ WT := WT_of 1241 (by decide +kernel) (by decide +kernel)
theorem iv_X10_isGroup {p : Program} {l : Launch} {e : Env} {R : Room} {s : State} {m : MethodId} {args : Array Value} {below : List Frame} {meth : Method} {c : Code} {H : Heap} {locs : List Loc} {cells slots : Nat} {Q : State → Prop} {cc : ByteArray} {own : String} {nL : Nat} {G : va_G} {aC : Nat → ClassId} {t b0 : Nat} {N N1 : AH} {pc index : Nat} {ls : Array Slot} {rest : List Value} {v0 : Nat} {v1 : Int32} {r : Int32} (w1 : Cond.methodLink own index yX10_isGroup ∈ WT) (X : CX cc own nL G aC t b0 p s m args c) (hR : Rp G aC b0 N H) (hS : va_S (fun q => b0 ≤ q) s.heap H locs) (h : f_X10_isGroup v0 v1 N = some (r, N1)) (hls : ls.size = nL) (hW : (rest.map fun v => v.category).sum ≤ 8) (hR1 : 2 ≤ R.frames ∧ 46 ≤ R.locals) (hcs : cells + 0 ≤ R.cells ∧ slots + 0 ≤ R.slots) (hdg : decode cc pc = .ok (.invokevirtual index, 3)) (kk : ∀ (H1 : Heap) (locs1 : List Loc), Rp G aC b0 N1 H1 → va_S (fun q => b0 ≤ q) s.heap H1 locs1 → W p l e R s m args below meth c H1 locs1 cells slots Q (F0 m (pc + 3) ls (.int r :: rest))) : W p l e R s m args below meth c H locs cells slots Q (F0 m pc ls (.int v1 :: .ref v0 :: rest)) :=
  ab_callV (n := 1) (As := [.int v1]) X hR hS (ct_X10_isGroup h) (ob_rc (c := 10) (N := N) (a := v0) h) (T := TX10) (k := 20) (C := RX10) rfl w1 (WT_of 1240 (by decide +kernel) (by decide +kernel)) (WT_of 70 (by decide +kernel) (by decide +kernel)) (WT_of 92 (by decide +kernel) (by decide +kernel)) cw_X10_isGroup ⟨rfl, by decide +kernel, by decide +kernel, by decide +kernel⟩ rfl hls hW hR1 hcs rfl hdg kk
-- X10_stateOf
theorem dX10_stateOf_0 : decode cX10_stateOf 0 = .ok (.aload_n 0, 1) := by decide +kernel
theorem dX10_stateOf_1 : decode cX10_stateOf 1 = .ok (.iload_n 1, 1) := by decide +kernel
theorem dX10_stateOf_2 : decode cX10_stateOf 2 = .ok (.iconst 4, 1) := by decide +kernel
theorem dX10_stateOf_3 : decode cX10_stateOf 3 = .ok (.invokevirtual 52, 3) := by decide +kernel
theorem dX10_stateOf_6 : decode cX10_stateOf 6 = .ok (.iconst 1, 1) := by decide +kernel
theorem dX10_stateOf_7 : decode cX10_stateOf 7 = .ok (.if_icmp .ne 7, 3) := by decide +kernel
theorem dX10_stateOf_10 : decode cX10_stateOf 10 = .ok (.iconst 3, 1) := by decide +kernel
theorem dX10_stateOf_11 : decode cX10_stateOf 11 = .ok (.goto 37, 3) := by decide +kernel
theorem dX10_stateOf_14 : decode cX10_stateOf 14 = .ok (.aload_n 0, 1) := by decide +kernel
theorem dX10_stateOf_15 : decode cX10_stateOf 15 = .ok (.iload_n 1, 1) := by decide +kernel
theorem dX10_stateOf_16 : decode cX10_stateOf 16 = .ok (.iconst 3, 1) := by decide +kernel
theorem dX10_stateOf_17 : decode cX10_stateOf 17 = .ok (.invokevirtual 52, 3) := by decide +kernel
theorem dX10_stateOf_20 : decode cX10_stateOf 20 = .ok (.iconst (-1), 1) := by decide +kernel
theorem dX10_stateOf_21 : decode cX10_stateOf 21 = .ok (.if_icmp .eq 7, 3) := by decide +kernel
theorem dX10_stateOf_24 : decode cX10_stateOf 24 = .ok (.iconst 2, 1) := by decide +kernel
theorem dX10_stateOf_25 : decode cX10_stateOf 25 = .ok (.goto 23, 3) := by decide +kernel
theorem dX10_stateOf_28 : decode cX10_stateOf 28 = .ok (.aload_n 0, 1) := by decide +kernel
theorem dX10_stateOf_29 : decode cX10_stateOf 29 = .ok (.getfield 7, 3) := by decide +kernel
theorem dX10_stateOf_32 : decode cX10_stateOf 32 = .ok (.iconst 0, 1) := by decide +kernel
theorem dX10_stateOf_33 : decode cX10_stateOf 33 = .ok (.iaload, 1) := by decide +kernel
theorem dX10_stateOf_34 : decode cX10_stateOf 34 = .ok (.aload_n 0, 1) := by decide +kernel
theorem dX10_stateOf_35 : decode cX10_stateOf 35 = .ok (.iload_n 1, 1) := by decide +kernel
theorem dX10_stateOf_36 : decode cX10_stateOf 36 = .ok (.iconst 0, 1) := by decide +kernel
theorem dX10_stateOf_37 : decode cX10_stateOf 37 = .ok (.invokevirtual 52, 3) := by decide +kernel
theorem dX10_stateOf_40 : decode cX10_stateOf 40 = .ok (.if_icmp .ge 7, 3) := by decide +kernel
theorem dX10_stateOf_43 : decode cX10_stateOf 43 = .ok (.iconst 0, 1) := by decide +kernel
theorem dX10_stateOf_44 : decode cX10_stateOf 44 = .ok (.goto 4, 3) := by decide +kernel
theorem dX10_stateOf_47 : decode cX10_stateOf 47 = .ok (.iconst 1, 1) := by decide +kernel
theorem dX10_stateOf_48 : decode cX10_stateOf 48 = .ok (.ireturn, 1) := by decide +kernel
def rm_X10_stateOf : Room := { frames := 1, cells := 0, slots := 0, locals := 22 }
section
variable {p : Program} {l : Launch} {e : Env} {s : State} {m : MethodId} {args : Array Value} {below : List Frame} {meth : Method} {c : Code} {Q : State → Prop} {G : va_G} {aC : Nat → ClassId} {t b0 : Nat}
def f_X10_stateOf (v0 : Nat) (v1 : Int32) (N : AH) : Option (Int32 × AH) := ob (iO N v0 10) (fun _ => ob2 (f_X10_of v0 v1 (4 : Int32) N) (fun x2 N1 => if ¬ x2 = (1 : Int32) then ob2 (f_X10_of v0 v1 (3 : Int32) N1) (fun x5 N4 => if x5 = (-1 : Int32) then ob (hR N4 v0 10 0) (fun x7 => ob (aI N4 x7 (0 : Int32)) (fun x8 => ob2 (f_X10_of v0 v1 (0 : Int32) N4) (fun x10 N9 => if x10 ≤ x8 then some ((1 : Int32), N9) else some ((0 : Int32), N9)))) else some ((2 : Int32), N4)) else some ((3 : Int32), N1)))
set_option maxHeartbeats 4000000 in
set_option maxRecDepth 100000 in
theorem wk_X10_stateOf {P : Int32 × AH → Prop} (X : CX cX10_stateOf RX10 2 G aC t b0 p s m args c) (hr : RtI p l e rm_X10_stateOf s m args below meth c 0 0 Q cX10_stateOf G aC b0 P) (v0 : Nat) (v1 : Int32) (N : AH) (H : Heap) (locs : List Loc) (ls : Array Slot) (hR : Rp G aC b0 N H) (hS : va_S (fun q => b0 ≤ q) s.heap H locs) (hl : lv_has ls 2 [(0, .ref v0), (1, .int v1)]) (hp : owp (f_X10_stateOf v0 v1 N) P) : W p l e rm_X10_stateOf s m args below meth c H locs 0 0 Q (F0 m 0 ls []) := by
  have hx := X.1.1
  have hb := X.1.2.1
  unfold f_X10_stateOf at hp
  obtain ⟨_, _, hp⟩ := owp_ob hp
  refine lv_aload_n hx hb dX10_stateOf_0 rfl (lv_at hl 0 rfl) ?_
  refine lv_iload_n hx hb dX10_stateOf_1 rfl (lv_at hl 1 rfl) ?_
  refine lv_iconst (v := (4)) hx hb dX10_stateOf_2 (by decide) ?_
  obtain ⟨x2, N1, e_N1, hp⟩ := owp_ob2 hp
  refine iv_X10_of (rest := []) mw_X10_52 X hR hS e_N1 hl.1 (Nat.le_of_ble_eq_true rfl) ⟨Nat.le_of_ble_eq_true rfl, Nat.le_of_ble_eq_true rfl⟩ ⟨Nat.le_of_ble_eq_true rfl, Nat.le_of_ble_eq_true rfl⟩ dX10_stateOf_3 (fun H locs hR hS => ?_)
  refine lv_iconst (v := (1)) hx hb dX10_stateOf_6 (by decide) ?_
  refine lv_icmp_ne (tgt := 14) hx hb dX10_stateOf_7 (by decide) (fun k3 => ?_) (fun k3 => ?_)
  · have hp := owp_t k3 hp
    refine lv_aload_n hx hb dX10_stateOf_14 rfl (lv_at hl 0 rfl) ?_
    refine lv_iload_n hx hb dX10_stateOf_15 rfl (lv_at hl 1 rfl) ?_
    refine lv_iconst (v := (3)) hx hb dX10_stateOf_16 (by decide) ?_
    obtain ⟨x5, N4, e_N4, hp⟩ := owp_ob2 hp
    refine iv_X10_of (rest := []) mw_X10_52 X hR hS e_N4 hl.1 (Nat.le_of_ble_eq_true rfl) ⟨Nat.le_of_ble_eq_true rfl, Nat.le_of_ble_eq_true rfl⟩ ⟨Nat.le_of_ble_eq_true rfl, Nat.le_of_ble_eq_true rfl⟩ dX10_stateOf_17 (fun H locs hR hS => ?_)
    refine lv_iconst (v := (-1)) hx hb dX10_stateOf_20 (by decide) ?_
    refine lv_icmp_eq (tgt := 28) hx hb dX10_stateOf_21 (by decide) (fun k6 => ?_) (fun k6 => ?_)
    · have hp := owp_t k6 hp
      refine lv_aload_n hx hb dX10_stateOf_28 rfl (lv_at hl 0 rfl) ?_
      obtain ⟨x7, e_x7, hp⟩ := owp_ob hp
      refine gf_X10_7 X hR e_x7 dX10_stateOf_29 ?_
      refine lv_iconst (v := (0)) hx hb dX10_stateOf_32 (by decide) ?_
      obtain ⟨x8, e_x8, hp⟩ := owp_ob hp
      refine ab_iald X hR e_x8 dX10_stateOf_33 ?_
      refine lv_aload_n hx hb dX10_stateOf_34 rfl (lv_at hl 0 rfl) ?_
      refine lv_iload_n hx hb dX10_stateOf_35 rfl (lv_at hl 1 rfl) ?_
      refine lv_iconst (v := (0)) hx hb dX10_stateOf_36 (by decide) ?_
      obtain ⟨x10, N9, e_N9, hp⟩ := owp_ob2 hp
      refine iv_X10_of (rest := [.int x8]) mw_X10_52 X hR hS e_N9 hl.1 (Nat.le_of_ble_eq_true rfl) ⟨Nat.le_of_ble_eq_true rfl, Nat.le_of_ble_eq_true rfl⟩ ⟨Nat.le_of_ble_eq_true rfl, Nat.le_of_ble_eq_true rfl⟩ dX10_stateOf_37 (fun H locs hR hS => ?_)
      refine lv_icmp_ge (tgt := 47) hx hb dX10_stateOf_40 (by decide) (fun k11 => ?_) (fun k11 => ?_)
      · have hp := owp_t k11 hp
        refine lv_iconst (v := (1)) hx hb dX10_stateOf_47 (by decide) ?_
        exact hr _ _ _ _ _ _ hR hS dX10_stateOf_48 hp
      · have hp := owp_f k11 hp
        refine lv_iconst (v := (0)) hx hb dX10_stateOf_43 (by decide) ?_
        refine lv_goto (tgt := 48) hx hb dX10_stateOf_44 (by decide) ?_
        exact hr _ _ _ _ _ _ hR hS dX10_stateOf_48 hp
    · have hp := owp_f k6 hp
      refine lv_iconst (v := (2)) hx hb dX10_stateOf_24 (by decide) ?_
      refine lv_goto (tgt := 48) hx hb dX10_stateOf_25 (by decide) ?_
      exact hr _ _ _ _ _ _ hR hS dX10_stateOf_48 hp
  · have hp := owp_f (fun q => q k3) hp
    refine lv_iconst (v := (3)) hx hb dX10_stateOf_10 (by decide) ?_
    refine lv_goto (tgt := 48) hx hb dX10_stateOf_11 (by decide) ?_
    exact hr _ _ _ _ _ _ hR hS dX10_stateOf_48 hp
end
theorem ct_X10_stateOf {v0 : Nat} {v1 : Int32} {N N1 : AH} {r : Int32} (h : f_X10_stateOf v0 v1 N = some (r, N1)) : Ct yX10_stateOf cX10_stateOf 2 (some .int) rm_X10_stateOf [.ref v0, .int v1] N (some (.int r)) N1 :=
  ab_met (own := RX10) (by decide +kernel) rfl (Nat.le_of_ble_eq_true rfl) (fun l G aC t b0 p e s m below meth c ls X hr hlk hnm hR hS hl => wk_X10_stateOf X (RtI_met X.1.1 X.1.2.1 hr hlk) _ _ _ _ _ _ hR hS hl (owp_of h))
theorem cw_X10_stateOf : Cond.code yX10_stateOf cX10_stateOf 2 (some .int) ∈ WT := WT_of 1109 (by decide +kernel) (by decide +kernel)
theorem iv_X10_stateOf {p : Program} {l : Launch} {e : Env} {R : Room} {s : State} {m : MethodId} {args : Array Value} {below : List Frame} {meth : Method} {c : Code} {H : Heap} {locs : List Loc} {cells slots : Nat} {Q : State → Prop} {cc : ByteArray} {own : String} {nL : Nat} {G : va_G} {aC : Nat → ClassId} {t b0 : Nat} {N N1 : AH} {pc index : Nat} {ls : Array Slot} {rest : List Value} {v0 : Nat} {v1 : Int32} {r : Int32} (w1 : Cond.methodLink own index yX10_stateOf ∈ WT) (X : CX cc own nL G aC t b0 p s m args c) (hR : Rp G aC b0 N H) (hS : va_S (fun q => b0 ≤ q) s.heap H locs) (h : f_X10_stateOf v0 v1 N = some (r, N1)) (hls : ls.size = nL) (hW : (rest.map fun v => v.category).sum ≤ 8) (hR1 : 2 ≤ R.frames ∧ 43 ≤ R.locals) (hcs : cells + 0 ≤ R.cells ∧ slots + 0 ≤ R.slots) (hdg : decode cc pc = .ok (.invokevirtual index, 3)) (kk : ∀ (H1 : Heap) (locs1 : List Loc), Rp G aC b0 N1 H1 → va_S (fun q => b0 ≤ q) s.heap H1 locs1 → W p l e R s m args below meth c H1 locs1 cells slots Q (F0 m (pc + 3) ls (.int r :: rest))) : W p l e R s m args below meth c H locs cells slots Q (F0 m pc ls (.int v1 :: .ref v0 :: rest)) :=
  ab_callV (n := 1) (As := [.int v1]) X hR hS (ct_X10_stateOf h) (ob_rc (c := 10) (N := N) (a := v0) h) (T := TX10) (k := 20) (C := RX10) rfl w1 (WT_of 1108 (by decide +kernel) (by decide +kernel)) (WT_of 47 (by decide +kernel) (by decide +kernel)) (WT_of 92 (by decide +kernel) (by decide +kernel)) cw_X10_stateOf ⟨rfl, by decide +kernel, by decide +kernel, by decide +kernel⟩ rfl hls hW hR1 hcs rfl hdg kk
-- X10_restOf
theorem mw_X10_64 : Cond.methodLink RX10 64 yX10_flowOf ∈ WT := WT_of 1114 (by decide +kernel) (by decide +kernel)
theorem dX10_restOf_0 : decode cX10_restOf 0 = .ok (.iconst 0, 1) := by decide +kernel
theorem dX10_restOf_1 : decode cX10_restOf 1 = .ok (.istore_n 2, 1) := by decide +kernel
theorem dX10_restOf_2 : decode cX10_restOf 2 = .ok (.iconst 0, 1) := by decide +kernel
theorem dX10_restOf_3 : decode cX10_restOf 3 = .ok (.istore_n 3, 1) := by decide +kernel
theorem dX10_restOf_4 : decode cX10_restOf 4 = .ok (.iload_n 3, 1) := by decide +kernel
theorem dX10_restOf_5 : decode cX10_restOf 5 = .ok (.aload_n 0, 1) := by decide +kernel
theorem dX10_restOf_6 : decode cX10_restOf 6 = .ok (.iload_n 1, 1) := by decide +kernel
theorem dX10_restOf_7 : decode cX10_restOf 7 = .ok (.iconst 5, 1) := by decide +kernel
theorem dX10_restOf_8 : decode cX10_restOf 8 = .ok (.invokevirtual 52, 3) := by decide +kernel
theorem dX10_restOf_11 : decode cX10_restOf 11 = .ok (.if_icmp .ge 19, 3) := by decide +kernel
theorem dX10_restOf_14 : decode cX10_restOf 14 = .ok (.iload_n 2, 1) := by decide +kernel
theorem dX10_restOf_15 : decode cX10_restOf 15 = .ok (.aload_n 0, 1) := by decide +kernel
theorem dX10_restOf_16 : decode cX10_restOf 16 = .ok (.iload_n 1, 1) := by decide +kernel
theorem dX10_restOf_17 : decode cX10_restOf 17 = .ok (.iload_n 3, 1) := by decide +kernel
theorem dX10_restOf_18 : decode cX10_restOf 18 = .ok (.iconst 3, 1) := by decide +kernel
theorem dX10_restOf_19 : decode cX10_restOf 19 = .ok (.invokevirtual 64, 3) := by decide +kernel
theorem dX10_restOf_22 : decode cX10_restOf 22 = .ok (.iadd, 1) := by decide +kernel
theorem dX10_restOf_23 : decode cX10_restOf 23 = .ok (.istore_n 2, 1) := by decide +kernel
theorem dX10_restOf_24 : decode cX10_restOf 24 = .ok (.iinc 3 1, 3) := by decide +kernel
theorem dX10_restOf_27 : decode cX10_restOf 27 = .ok (.goto (-23), 3) := by decide +kernel
theorem dX10_restOf_30 : decode cX10_restOf 30 = .ok (.iload_n 2, 1) := by decide +kernel
theorem dX10_restOf_31 : decode cX10_restOf 31 = .ok (.ireturn, 1) := by decide +kernel
def rm_X10_restOf : Room := { frames := 2, cells := 0, slots := 0, locals := 45 }
section
variable {p : Program} {l : Launch} {e : Env} {s : State} {m : MethodId} {args : Array Value} {below : List Frame} {meth : Method} {c : Code} {Q : State → Prop} {G : va_G} {aC : Nat → ClassId} {t b0 : Nat}
def f_X10_restOf_L4 (v0 : Nat) (v1 : Int32) (k30 : Int32 → AH → Option (Int32 × AH)) : Nat → Int32 → Int32 → AH → Option (Int32 × AH)
  | 0, _, _, _ => none
  | n + 1, v2, v3, N => ob2 (f_X10_of v0 v1 (5 : Int32) N) (fun x2 N1 => if x2 ≤ v3 then k30 v2 N1 else ob2 (f_X10_flowOf v0 v1 v3 (3 : Int32) N1) (fun x5 N4 => f_X10_restOf_L4 v0 v1 k30 n (v2 + x5) (v3 + 1) N4))
set_option maxHeartbeats 4000000 in
set_option maxRecDepth 100000 in
theorem w_X10_restOf_L4 {P : Int32 × AH → Prop} (X : CX cX10_restOf RX10 4 G aC t b0 p s m args c) (hr : RtI p l e rm_X10_restOf s m args below meth c 0 0 Q cX10_restOf G aC b0 P) (v0 : Nat) (v1 : Int32) {k30 : Int32 → AH → Option (Int32 × AH)}
    (hk30 : ∀ (v2 : Int32) (N : AH) (H : Heap) (locs : List Loc) (ls : Array Slot), Rp G aC b0 N H → va_S (fun q => b0 ≤ q) s.heap H locs → lv_has ls 4 [(2, .int v2)] → owp (k30 v2 N) P → W p l e rm_X10_restOf s m args below meth c H locs 0 0 Q (F0 m 30 ls [])) :
    ∀ (n : Nat) (v2 : Int32) (v3 : Int32) (N : AH) (H : Heap) (locs : List Loc) (ls : Array Slot), Rp G aC b0 N H → va_S (fun q => b0 ≤ q) s.heap H locs → lv_has ls 4 [(0, .ref v0), (1, .int v1), (2, .int v2), (3, .int v3)] → owp (f_X10_restOf_L4 v0 v1 k30 n v2 v3 N) P → W p l e rm_X10_restOf s m args below meth c H locs 0 0 Q (F0 m 4 ls []) := by
  have hx := X.1.1
  have hb := X.1.2.1
  intro n
  induction n with
  | zero =>
    intro v2 v3 N H locs ls hR hS hl hp
    exact (show False from hp).elim
  | succ n ih =>
    intro v2 v3 N H locs ls hR hS hl hp
    rw [f_X10_restOf_L4] at hp
    refine lv_iload_n hx hb dX10_restOf_4 rfl (lv_at hl 3 rfl) ?_
    refine lv_aload_n hx hb dX10_restOf_5 rfl (lv_at hl 0 rfl) ?_
    refine lv_iload_n hx hb dX10_restOf_6 rfl (lv_at hl 1 rfl) ?_
    refine lv_iconst (v := (5)) hx hb dX10_restOf_7 (by decide) ?_
    obtain ⟨x2, N1, e_N1, hp⟩ := owp_ob2 hp
    refine iv_X10_of (rest := [.int v3]) mw_X10_52 X hR hS e_N1 hl.1 (Nat.le_of_ble_eq_true rfl) ⟨Nat.le_of_ble_eq_true rfl, Nat.le_of_ble_eq_true rfl⟩ ⟨Nat.le_of_ble_eq_true rfl, Nat.le_of_ble_eq_true rfl⟩ dX10_restOf_8 (fun H locs hR hS => ?_)
    refine lv_icmp_ge (tgt := 30) hx hb dX10_restOf_11 (by decide) (fun k3 => ?_) (fun k3 => ?_)
    · have hp := owp_t k3 hp
      exact hk30 _ _ _ _ _ hR hS (lv_sub hl [2] rfl) hp
    · have hp := owp_f k3 hp
      refine lv_iload_n hx hb dX10_restOf_14 rfl (lv_at hl 2 rfl) ?_
      refine lv_aload_n hx hb dX10_restOf_15 rfl (lv_at hl 0 rfl) ?_
      refine lv_iload_n hx hb dX10_restOf_16 rfl (lv_at hl 1 rfl) ?_
      refine lv_iload_n hx hb dX10_restOf_17 rfl (lv_at hl 3 rfl) ?_
      refine lv_iconst (v := (3)) hx hb dX10_restOf_18 (by decide) ?_
      obtain ⟨x5, N4, e_N4, hp⟩ := owp_ob2 hp
      refine iv_X10_flowOf (rest := [.int v2]) mw_X10_64 X hR hS e_N4 hl.1 (Nat.le_of_ble_eq_true rfl) ⟨Nat.le_of_ble_eq_true rfl, Nat.le_of_ble_eq_true rfl⟩ ⟨Nat.le_of_ble_eq_true rfl, Nat.le_of_ble_eq_true rfl⟩ dX10_restOf_19 (fun H locs hR hS => ?_)
      refine lv_iadd hx hb dX10_restOf_22 ?_
      refine lv_istore_n (lv' := [(2, .int (v2 + x5)), (0, .ref v0), (1, .int v1), (3, .int v3)]) hx hb dX10_restOf_23 rfl hl (by decide) rfl (fun ls hl => ?_)
      refine lv_iinc (v := v3 + 1) (lv' := [(3, .int (v3 + 1)), (2, .int (v2 + x5)), (0, .ref v0), (1, .int v1)]) hx hb dX10_restOf_24 hl (k := 3) rfl rfl (by decide) rfl (fun ls hl => ?_)
      refine lv_goto (tgt := 4) hx hb dX10_restOf_27 (by decide) ?_
      exact ih _ _ _ _ _ _ hR hS (lv_sub hl [2, 3, 1, 0] rfl) hp
def f_X10_restOf (v0 : Nat) (v1 : Int32) (N : AH) : Option (Int32 × AH) := ob (iO N v0 10) (fun _ => f_X10_restOf_L4 v0 v1 (fun v6 N7 => some (v6, N7)) FU (0 : Int32) (0 : Int32) N)
set_option maxHeartbeats 4000000 in
set_option maxRecDepth 100000 in
theorem wk_X10_restOf {P : Int32 × AH → Prop} (X : CX cX10_restOf RX10 4 G aC t b0 p s m args c) (hr : RtI p l e rm_X10_restOf s m args below meth c 0 0 Q cX10_restOf G aC b0 P) (v0 : Nat) (v1 : Int32) (N : AH) (H : Heap) (locs : List Loc) (ls : Array Slot) (hR : Rp G aC b0 N H) (hS : va_S (fun q => b0 ≤ q) s.heap H locs) (hl : lv_has ls 4 [(0, .ref v0), (1, .int v1)]) (hp : owp (f_X10_restOf v0 v1 N) P) : W p l e rm_X10_restOf s m args below meth c H locs 0 0 Q (F0 m 0 ls []) := by
  have hx := X.1.1
  have hb := X.1.2.1
  unfold f_X10_restOf at hp
  obtain ⟨_, _, hp⟩ := owp_ob hp
  refine lv_iconst (v := (0)) hx hb dX10_restOf_0 (by decide) ?_
  refine lv_istore_n (lv' := [(2, .int (0 : Int32)), (0, .ref v0), (1, .int v1)]) hx hb dX10_restOf_1 rfl hl (by decide) rfl (fun ls hl => ?_)
  refine lv_iconst (v := (0)) hx hb dX10_restOf_2 (by decide) ?_
  refine lv_istore_n (lv' := [(3, .int (0 : Int32)), (2, .int (0 : Int32)), (0, .ref v0), (1, .int v1)]) hx hb dX10_restOf_3 rfl hl (by decide) rfl (fun ls hl => ?_)
  refine w_X10_restOf_L4 X hr _ _ (fun v6 N7 H locs ls hR hS hl hp => ?_) _ _ _ _ _ _ _ hR hS (lv_sub hl [2, 3, 1, 0] rfl) hp
  refine lv_iload_n hx hb dX10_restOf_30 rfl (lv_at hl 0 rfl) ?_
  exact hr _ _ _ _ _ _ hR hS dX10_restOf_31 hp
end
theorem ct_X10_restOf {v0 : Nat} {v1 : Int32} {N N1 : AH} {r : Int32} (h : f_X10_restOf v0 v1 N = some (r, N1)) : Ct yX10_restOf cX10_restOf 4 (some .int) rm_X10_restOf [.ref v0, .int v1] N (some (.int r)) N1 :=
  ab_met (own := RX10) (by decide +kernel) rfl (Nat.le_of_ble_eq_true rfl) (fun l G aC t b0 p e s m below meth c ls X hr hlk hnm hR hS hl => wk_X10_restOf X (RtI_met X.1.1 X.1.2.1 hr hlk) _ _ _ _ _ _ hR hS hl (owp_of h))
theorem cw_X10_restOf : Cond.code yX10_restOf cX10_restOf 4 (some .int) ∈ WT := WT_of 1189 (by decide +kernel) (by decide +kernel)
theorem iv_X10_restOf {p : Program} {l : Launch} {e : Env} {R : Room} {s : State} {m : MethodId} {args : Array Value} {below : List Frame} {meth : Method} {c : Code} {H : Heap} {locs : List Loc} {cells slots : Nat} {Q : State → Prop} {cc : ByteArray} {own : String} {nL : Nat} {G : va_G} {aC : Nat → ClassId} {t b0 : Nat} {N N1 : AH} {pc index : Nat} {ls : Array Slot} {rest : List Value} {v0 : Nat} {v1 : Int32} {r : Int32} (w1 : Cond.methodLink own index yX10_restOf ∈ WT) (X : CX cc own nL G aC t b0 p s m args c) (hR : Rp G aC b0 N H) (hS : va_S (fun q => b0 ≤ q) s.heap H locs) (h : f_X10_restOf v0 v1 N = some (r, N1)) (hls : ls.size = nL) (hW : (rest.map fun v => v.category).sum ≤ 8) (hR1 : 3 ≤ R.frames ∧ 68 ≤ R.locals) (hcs : cells + 0 ≤ R.cells ∧ slots + 0 ≤ R.slots) (hdg : decode cc pc = .ok (.invokevirtual index, 3)) (kk : ∀ (H1 : Heap) (locs1 : List Loc), Rp G aC b0 N1 H1 → va_S (fun q => b0 ≤ q) s.heap H1 locs1 → W p l e R s m args below meth c H1 locs1 cells slots Q (F0 m (pc + 3) ls (.int r :: rest))) : W p l e R s m args below meth c H locs cells slots Q (F0 m pc ls (.int v1 :: .ref v0 :: rest)) :=
  ab_callV (n := 1) (As := [.int v1]) X hR hS (ct_X10_restOf h) (ob_rc (c := 10) (N := N) (a := v0) h) (T := TX10) (k := 20) (C := RX10) rfl w1 (WT_of 1188 (by decide +kernel) (by decide +kernel)) (WT_of 61 (by decide +kernel) (by decide +kernel)) (WT_of 92 (by decide +kernel) (by decide +kernel)) cw_X10_restOf ⟨rfl, by decide +kernel, by decide +kernel, by decide +kernel⟩ rfl hls hW hR1 hcs rfl hdg kk
-- X10_up
theorem dX10_up_0 : decode cX10_up 0 = .ok (.iload_n 0, 1) := by decide +kernel
theorem dX10_up_1 : decode cX10_up 1 = .ok (.iload_n 1, 1) := by decide +kernel
theorem dX10_up_2 : decode cX10_up 2 = .ok (.iadd, 1) := by decide +kernel
theorem dX10_up_3 : decode cX10_up 3 = .ok (.iconst 1, 1) := by decide +kernel
theorem dX10_up_4 : decode cX10_up 4 = .ok (.isub, 1) := by decide +kernel
theorem dX10_up_5 : decode cX10_up 5 = .ok (.iload_n 1, 1) := by decide +kernel
theorem dX10_up_6 : decode cX10_up 6 = .ok (.idiv, 1) := by decide +kernel
theorem dX10_up_7 : decode cX10_up 7 = .ok (.ireturn, 1) := by decide +kernel
def rm_X10_up : Room := { frames := 0, cells := 0, slots := 0, locals := 0 }
section
variable {p : Program} {l : Launch} {e : Env} {s : State} {m : MethodId} {args : Array Value} {below : List Frame} {meth : Method} {c : Code} {Q : State → Prop} {G : va_G} {aC : Nat → ClassId} {t b0 : Nat}
def f_X10_up (v0 : Int32) (v1 : Int32) (N : AH) : Option (Int32 × AH) := ob (dV ((v0 + v1) - (1 : Int32)) v1) (fun x1 => some (x1, N))
set_option maxHeartbeats 4000000 in
set_option maxRecDepth 100000 in
theorem wk_X10_up {P : Int32 × AH → Prop} (X : CX cX10_up RX10 2 G aC t b0 p s m args c) (hr : RtI p l e rm_X10_up s m args below meth c 0 0 Q cX10_up G aC b0 P) (v0 : Int32) (v1 : Int32) (N : AH) (H : Heap) (locs : List Loc) (ls : Array Slot) (hR : Rp G aC b0 N H) (hS : va_S (fun q => b0 ≤ q) s.heap H locs) (hl : lv_has ls 2 [(0, .int v0), (1, .int v1)]) (hp : owp (f_X10_up v0 v1 N) P) : W p l e rm_X10_up s m args below meth c H locs 0 0 Q (F0 m 0 ls []) := by
  have hx := X.1.1
  have hb := X.1.2.1
  unfold f_X10_up at hp
  refine lv_iload_n hx hb dX10_up_0 rfl (lv_at hl 0 rfl) ?_
  refine lv_iload_n hx hb dX10_up_1 rfl (lv_at hl 1 rfl) ?_
  refine lv_iadd hx hb dX10_up_2 ?_
  refine lv_iconst (v := (1)) hx hb dX10_up_3 (by decide) ?_
  refine lv_isub hx hb dX10_up_4 ?_
  refine lv_iload_n hx hb dX10_up_5 rfl (lv_at hl 1 rfl) ?_
  obtain ⟨x1, e_x1, hp⟩ := owp_ob hp
  refine ab_idiv X e_x1 dX10_up_6 ?_
  exact hr _ _ _ _ _ _ hR hS dX10_up_7 hp
end
theorem ct_X10_up {v0 : Int32} {v1 : Int32} {N N1 : AH} {r : Int32} (h : f_X10_up v0 v1 N = some (r, N1)) : Ct yX10_up cX10_up 2 (some .int) rm_X10_up [.int v0, .int v1] N (some (.int r)) N1 :=
  ab_met (own := RX10) (by decide +kernel) rfl (Nat.le_of_ble_eq_true rfl) (fun l G aC t b0 p e s m below meth c ls X hr hlk hnm hR hS hl => wk_X10_up X (RtI_met X.1.1 X.1.2.1 hr hlk) _ _ _ _ _ _ hR hS hl (owp_of h))
theorem cw_X10_up : Cond.code yX10_up cX10_up 2 (some .int) ∈ WT := WT_of 1120 (by decide +kernel) (by decide +kernel)
theorem iv_X10_up {p : Program} {l : Launch} {e : Env} {R : Room} {s : State} {m : MethodId} {args : Array Value} {below : List Frame} {meth : Method} {c : Code} {H : Heap} {locs : List Loc} {cells slots : Nat} {Q : State → Prop} {cc : ByteArray} {own : String} {nL : Nat} {G : va_G} {aC : Nat → ClassId} {t b0 : Nat} {N N1 : AH} {pc index : Nat} {ls : Array Slot} {rest : List Value} {v0 : Int32} {v1 : Int32} {r : Int32} (w1 : Cond.methodLink own index yX10_up ∈ WT) (X : CX cc own nL G aC t b0 p s m args c) (hR : Rp G aC b0 N H) (hS : va_S (fun q => b0 ≤ q) s.heap H locs) (h : f_X10_up v0 v1 N = some (r, N1)) (hls : ls.size = nL) (hW : (rest.map fun v => v.category).sum ≤ 8) (hR1 : 1 ≤ R.frames ∧ 21 ≤ R.locals) (hcs : cells + 0 ≤ R.cells ∧ slots + 0 ≤ R.slots) (hdg : decode cc pc = .ok (.invokestatic index, 3)) (kk : ∀ (H1 : Heap) (locs1 : List Loc), Rp G aC b0 N1 H1 → va_S (fun q => b0 ≤ q) s.heap H1 locs1 → W p l e R s m args below meth c H1 locs1 cells slots Q (F0 m (pc + 3) ls (.int r :: rest))) : W p l e R s m args below meth c H locs cells slots Q (F0 m pc ls (.int v1 :: .int v0 :: rest)) :=
  ab_callS (n := 2) (As := [.int v0, .int v1]) X hR hS (ct_X10_up h) w1 (WT_of 1119 (by decide +kernel) (by decide +kernel)) (WT_of 92 (by decide +kernel) (by decide +kernel)) cw_X10_up ⟨by decide +kernel, by decide +kernel, by decide +kernel⟩ rfl hls hW hR1 hcs rfl hdg kk
-- X10_allAvailable
theorem gf_X10_16 {p : Program} {l : Launch} {e : Env} {R : Room} {s : State} {m : MethodId} {args : Array Value} {below : List Frame} {meth : Method} {c : Code} {H : Heap} {locs : List Loc} {cells slots : Nat} {Q : State → Prop} {cc : ByteArray} {nL : Nat} {G : va_G} {aC : Nat → ClassId} {t b0 : Nat} {N : AH} {pc : Nat} {ls : Array Slot} {rest : List Value} {a : Nat} {v : Nat} (X : CX cc RX10 nL G aC t b0 p s m args c) (hR0 : Rp G aC b0 N H) (hv : hR N a 10 4 = some v) (hdg : decode cc pc = .ok (.getfield 16, 3)) (kk : W p l e R s m args below meth c H locs cells slots Q (F0 m (pc + 3) ls (.ref v :: rest))) : W p l e R s m args below meth c H locs cells slots Q (F0 m pc ls (.ref a :: rest)) := by
  obtain ⟨fs, h1, h2⟩ := hR_ok hv
  exact ab_get (C := RX10) (T := TX10) (n := 20) X hR0 h1 h2 rfl inX10 (by decide) (WT_of 952 (by decide +kernel) (by decide +kernel)) hdg kk
theorem dX10_allAvailable_0 : decode cX10_allAvailable 0 = .ok (.iconst 0, 1) := by decide +kernel
theorem dX10_allAvailable_1 : decode cX10_allAvailable 1 = .ok (.istore_n 1, 1) := by decide +kernel
theorem dX10_allAvailable_2 : decode cX10_allAvailable 2 = .ok (.iload_n 1, 1) := by decide +kernel
theorem dX10_allAvailable_3 : decode cX10_allAvailable 3 = .ok (.bipush 16, 2) := by decide +kernel
theorem dX10_allAvailable_5 : decode cX10_allAvailable 5 = .ok (.if_icmp .ge 24, 3) := by decide +kernel
theorem dX10_allAvailable_8 : decode cX10_allAvailable 8 = .ok (.aload_n 0, 1) := by decide +kernel
theorem dX10_allAvailable_9 : decode cX10_allAvailable 9 = .ok (.getfield 16, 3) := by decide +kernel
theorem dX10_allAvailable_12 : decode cX10_allAvailable 12 = .ok (.iload_n 1, 1) := by decide +kernel
theorem dX10_allAvailable_13 : decode cX10_allAvailable 13 = .ok (.aload_n 0, 1) := by decide +kernel
theorem dX10_allAvailable_14 : decode cX10_allAvailable 14 = .ok (.getfield 7, 3) := by decide +kernel
theorem dX10_allAvailable_17 : decode cX10_allAvailable 17 = .ok (.bipush 10, 2) := by decide +kernel
theorem dX10_allAvailable_19 : decode cX10_allAvailable 19 = .ok (.iload_n 1, 1) := by decide +kernel
theorem dX10_allAvailable_20 : decode cX10_allAvailable 20 = .ok (.iadd, 1) := by decide +kernel
theorem dX10_allAvailable_21 : decode cX10_allAvailable 21 = .ok (.iaload, 1) := by decide +kernel
theorem dX10_allAvailable_22 : decode cX10_allAvailable 22 = .ok (.iastore, 1) := by decide +kernel
theorem dX10_allAvailable_23 : decode cX10_allAvailable 23 = .ok (.iinc 1 1, 3) := by decide +kernel
theorem dX10_allAvailable_26 : decode cX10_allAvailable 26 = .ok (.goto (-24), 3) := by decide +kernel
theorem dX10_allAvailable_29 : decode cX10_allAvailable 29 = .ok (.return_, 1) := by decide +kernel
def rm_X10_allAvailable : Room := { frames := 0, cells := 0, slots := 0, locals := 0 }
section
variable {p : Program} {l : Launch} {e : Env} {s : State} {m : MethodId} {args : Array Value} {below : List Frame} {meth : Method} {c : Code} {Q : State → Prop} {G : va_G} {aC : Nat → ClassId} {t b0 : Nat}
def f_X10_allAvailable_L2 (v0 : Nat) (k29 : AH → Option (Unit × AH)) : Nat → Int32 → AH → Option (Unit × AH)
  | 0, _, _ => none
  | n + 1, v1, N => if (16 : Int32) ≤ v1 then k29 N else ob (hR N v0 10 4) (fun x2 => ob (hR N v0 10 0) (fun x3 => ob (aI N x3 ((10 : Int32) + v1)) (fun x4 => ob (sI N x2 v1 x4) (fun N5 => f_X10_allAvailable_L2 v0 k29 n (v1 + 1) N5))))
set_option maxHeartbeats 4000000 in
set_option maxRecDepth 100000 in
theorem w_X10_allAvailable_L2 {P : Unit × AH → Prop} (X : CX cX10_allAvailable RX10 2 G aC t b0 p s m args c) (hr : RtV p l e rm_X10_allAvailable s m args below meth c 0 0 Q cX10_allAvailable G aC b0 P) (v0 : Nat) {k29 : AH → Option (Unit × AH)}
    (hk29 : ∀ (N : AH) (H : Heap) (locs : List Loc) (ls : Array Slot), Rp G aC b0 N H → va_S (fun q => b0 ≤ q) s.heap H locs → lv_has ls 2 [] → owp (k29 N) P → W p l e rm_X10_allAvailable s m args below meth c H locs 0 0 Q (F0 m 29 ls [])) :
    ∀ (n : Nat) (v1 : Int32) (N : AH) (H : Heap) (locs : List Loc) (ls : Array Slot), Rp G aC b0 N H → va_S (fun q => b0 ≤ q) s.heap H locs → lv_has ls 2 [(0, .ref v0), (1, .int v1)] → owp (f_X10_allAvailable_L2 v0 k29 n v1 N) P → W p l e rm_X10_allAvailable s m args below meth c H locs 0 0 Q (F0 m 2 ls []) := by
  have hx := X.1.1
  have hb := X.1.2.1
  intro n
  induction n with
  | zero =>
    intro v1 N H locs ls hR hS hl hp
    exact (show False from hp).elim
  | succ n ih =>
    intro v1 N H locs ls hR hS hl hp
    rw [f_X10_allAvailable_L2] at hp
    refine lv_iload_n hx hb dX10_allAvailable_2 rfl (lv_at hl 1 rfl) ?_
    refine lv_bipush (v := (16)) hx hb dX10_allAvailable_3 (by decide) ?_
    refine lv_icmp_ge (tgt := 29) hx hb dX10_allAvailable_5 (by decide) (fun k1 => ?_) (fun k1 => ?_)
    · have hp := owp_t k1 hp
      exact hk29 _ _ _ _ hR hS (lv_sub hl [] rfl) hp
    · have hp := owp_f k1 hp
      refine lv_aload_n hx hb dX10_allAvailable_8 rfl (lv_at hl 0 rfl) ?_
      obtain ⟨x2, e_x2, hp⟩ := owp_ob hp
      refine gf_X10_16 X hR e_x2 dX10_allAvailable_9 ?_
      refine lv_iload_n hx hb dX10_allAvailable_12 rfl (lv_at hl 1 rfl) ?_
      refine lv_aload_n hx hb dX10_allAvailable_13 rfl (lv_at hl 0 rfl) ?_
      obtain ⟨x3, e_x3, hp⟩ := owp_ob hp
      refine gf_X10_7 X hR e_x3 dX10_allAvailable_14 ?_
      refine lv_bipush (v := (10)) hx hb dX10_allAvailable_17 (by decide) ?_
      refine lv_iload_n hx hb dX10_allAvailable_19 rfl (lv_at hl 1 rfl) ?_
      refine lv_iadd hx hb dX10_allAvailable_20 ?_
      obtain ⟨x4, e_x4, hp⟩ := owp_ob hp
      refine ab_iald X hR e_x4 dX10_allAvailable_21 ?_
      obtain ⟨N5, e_N5, hp⟩ := owp_ob hp
      refine ab_iast X hR hS e_N5 dX10_allAvailable_22 (fun H locs hR hS => ?_)
      refine lv_iinc (v := v1 + 1) (lv' := [(1, .int (v1 + 1)), (0, .ref v0)]) hx hb dX10_allAvailable_23 hl (k := 1) rfl rfl (by decide) rfl (fun ls hl => ?_)
      refine lv_goto (tgt := 2) hx hb dX10_allAvailable_26 (by decide) ?_
      exact ih _ _ _ _ _ hR hS (lv_sub hl [1, 0] rfl) hp
def f_X10_allAvailable (v0 : Nat) (N : AH) : Option (Unit × AH) := ob (iO N v0 10) (fun _ => f_X10_allAvailable_L2 v0 (fun N6 => some ((), N6)) FU (0 : Int32) N)
set_option maxHeartbeats 4000000 in
set_option maxRecDepth 100000 in
theorem wk_X10_allAvailable {P : Unit × AH → Prop} (X : CX cX10_allAvailable RX10 2 G aC t b0 p s m args c) (hr : RtV p l e rm_X10_allAvailable s m args below meth c 0 0 Q cX10_allAvailable G aC b0 P) (v0 : Nat) (N : AH) (H : Heap) (locs : List Loc) (ls : Array Slot) (hR : Rp G aC b0 N H) (hS : va_S (fun q => b0 ≤ q) s.heap H locs) (hl : lv_has ls 2 [(0, .ref v0)]) (hp : owp (f_X10_allAvailable v0 N) P) : W p l e rm_X10_allAvailable s m args below meth c H locs 0 0 Q (F0 m 0 ls []) := by
  have hx := X.1.1
  have hb := X.1.2.1
  unfold f_X10_allAvailable at hp
  obtain ⟨_, _, hp⟩ := owp_ob hp
  refine lv_iconst (v := (0)) hx hb dX10_allAvailable_0 (by decide) ?_
  refine lv_istore_n (lv' := [(1, .int (0 : Int32)), (0, .ref v0)]) hx hb dX10_allAvailable_1 rfl hl (by decide) rfl (fun ls hl => ?_)
  refine w_X10_allAvailable_L2 X hr _ (fun N6 H locs ls hR hS hl hp => ?_) _ _ _ _ _ _ hR hS (lv_sub hl [1, 0] rfl) hp
  exact hr _ _ _ _ _ hR hS dX10_allAvailable_29 hp
end
theorem ct_X10_allAvailable {v0 : Nat} {N N1 : AH} {r : Unit} (h : f_X10_allAvailable v0 N = some (r, N1)) : Ct yX10_allAvailable cX10_allAvailable 2 none rm_X10_allAvailable [.ref v0] N none N1 :=
  ab_met (own := RX10) (by decide +kernel) rfl (Nat.le_of_ble_eq_true rfl) (fun l G aC t b0 p e s m below meth c ls X hr hlk hnm hR hS hl => wk_X10_allAvailable X (RtV_met X.1.1 X.1.2.1 hr hlk) _ _ _ _ _ hR hS hl (owp_of h))
theorem cw_X10_allAvailable : Cond.code yX10_allAvailable cX10_allAvailable 2 none ∈ WT := WT_of 1175 (by decide +kernel) (by decide +kernel)
theorem iv_X10_allAvailable {p : Program} {l : Launch} {e : Env} {R : Room} {s : State} {m : MethodId} {args : Array Value} {below : List Frame} {meth : Method} {c : Code} {H : Heap} {locs : List Loc} {cells slots : Nat} {Q : State → Prop} {cc : ByteArray} {own : String} {nL : Nat} {G : va_G} {aC : Nat → ClassId} {t b0 : Nat} {N N1 : AH} {pc index : Nat} {ls : Array Slot} {rest : List Value} {v0 : Nat} {r : Unit} (w1 : Cond.methodLink own index yX10_allAvailable ∈ WT) (X : CX cc own nL G aC t b0 p s m args c) (hR : Rp G aC b0 N H) (hS : va_S (fun q => b0 ≤ q) s.heap H locs) (h : f_X10_allAvailable v0 N = some (r, N1)) (hls : ls.size = nL) (hW : (rest.map fun v => v.category).sum ≤ 8) (hR1 : 1 ≤ R.frames ∧ 21 ≤ R.locals) (hcs : cells + 0 ≤ R.cells ∧ slots + 0 ≤ R.slots) (hdg : decode cc pc = .ok (.invokevirtual index, 3)) (kk : ∀ (H1 : Heap) (locs1 : List Loc), Rp G aC b0 N1 H1 → va_S (fun q => b0 ≤ q) s.heap H1 locs1 → W p l e R s m args below meth c H1 locs1 cells slots Q (F0 m (pc + 3) ls rest)) : W p l e R s m args below meth c H locs cells slots Q (F0 m pc ls (.ref v0 :: rest)) :=
  ab_callV (n := 0) (As := []) X hR hS (ct_X10_allAvailable h) (ob_rc (c := 10) (N := N) (a := v0) h) (T := TX10) (k := 20) (C := RX10) rfl w1 (WT_of 1174 (by decide +kernel) (by decide +kernel)) (WT_of 58 (by decide +kernel) (by decide +kernel)) (WT_of 92 (by decide +kernel) (by decide +kernel)) cw_X10_allAvailable ⟨rfl, by decide +kernel, by decide +kernel, by decide +kernel⟩ rfl hls hW hR1 hcs rfl hdg kk
-- X10_fits
theorem gf_X10_19 {p : Program} {l : Launch} {e : Env} {R : Room} {s : State} {m : MethodId} {args : Array Value} {below : List Frame} {meth : Method} {c : Code} {H : Heap} {locs : List Loc} {cells slots : Nat} {Q : State → Prop} {cc : ByteArray} {nL : Nat} {G : va_G} {aC : Nat → ClassId} {t b0 : Nat} {N : AH} {pc : Nat} {ls : Array Slot} {rest : List Value} {a : Nat} {v : Nat} (X : CX cc RX10 nL G aC t b0 p s m args c) (hR0 : Rp G aC b0 N H) (hv : hR N a 10 5 = some v) (hdg : decode cc pc = .ok (.getfield 19, 3)) (kk : W p l e R s m args below meth c H locs cells slots Q (F0 m (pc + 3) ls (.ref v :: rest))) : W p l e R s m args below meth c H locs cells slots Q (F0 m pc ls (.ref a :: rest)) := by
  obtain ⟨fs, h1, h2⟩ := hR_ok hv
  exact ab_get (C := RX10) (T := TX10) (n := 20) X hR0 h1 h2 rfl inX10 (by decide) (WT_of 953 (by decide +kernel) (by decide +kernel)) hdg kk
theorem mw_X10_68 : Cond.methodLink RX10 68 yX10_up ∈ WT := WT_of 1118 (by decide +kernel) (by decide +kernel)
theorem dX10_fits_0 : decode cX10_fits 0 = .ok (.iconst 0, 1) := by decide +kernel
theorem dX10_fits_1 : decode cX10_fits 1 = .ok (.istore_n 3, 1) := by decide +kernel
theorem dX10_fits_2 : decode cX10_fits 2 = .ok (.iload_n 3, 1) := by decide +kernel
theorem dX10_fits_3 : decode cX10_fits 3 = .ok (.bipush 16, 2) := by decide +kernel
theorem dX10_fits_5 : decode cX10_fits 5 = .ok (.if_icmp .ge 16, 3) := by decide +kernel
theorem dX10_fits_8 : decode cX10_fits 8 = .ok (.aload_n 0, 1) := by decide +kernel
theorem dX10_fits_9 : decode cX10_fits 9 = .ok (.getfield 19, 3) := by decide +kernel
theorem dX10_fits_12 : decode cX10_fits 12 = .ok (.iload_n 3, 1) := by decide +kernel
theorem dX10_fits_13 : decode cX10_fits 13 = .ok (.iconst 0, 1) := by decide +kernel
theorem dX10_fits_14 : decode cX10_fits 14 = .ok (.iastore, 1) := by decide +kernel
theorem dX10_fits_15 : decode cX10_fits 15 = .ok (.iinc 3 1, 3) := by decide +kernel
theorem dX10_fits_18 : decode cX10_fits 18 = .ok (.goto (-16), 3) := by decide +kernel
theorem dX10_fits_21 : decode cX10_fits 21 = .ok (.iconst 0, 1) := by decide +kernel
theorem dX10_fits_22 : decode cX10_fits 22 = .ok (.istore_n 3, 1) := by decide +kernel
theorem dX10_fits_23 : decode cX10_fits 23 = .ok (.iload_n 3, 1) := by decide +kernel
theorem dX10_fits_24 : decode cX10_fits 24 = .ok (.aload_n 0, 1) := by decide +kernel
theorem dX10_fits_25 : decode cX10_fits 25 = .ok (.iload_n 1, 1) := by decide +kernel
theorem dX10_fits_26 : decode cX10_fits 26 = .ok (.iconst 5, 1) := by decide +kernel
theorem dX10_fits_27 : decode cX10_fits 27 = .ok (.invokevirtual 52, 3) := by decide +kernel
theorem dX10_fits_30 : decode cX10_fits 30 = .ok (.if_icmp .ge 59, 3) := by decide +kernel
theorem dX10_fits_33 : decode cX10_fits 33 = .ok (.aload_n 0, 1) := by decide +kernel
theorem dX10_fits_34 : decode cX10_fits 34 = .ok (.iload_n 1, 1) := by decide +kernel
theorem dX10_fits_35 : decode cX10_fits 35 = .ok (.iload_n 3, 1) := by decide +kernel
theorem dX10_fits_36 : decode cX10_fits 36 = .ok (.iconst 3, 1) := by decide +kernel
theorem dX10_fits_37 : decode cX10_fits 37 = .ok (.invokevirtual 64, 3) := by decide +kernel
theorem dX10_fits_40 : decode cX10_fits 40 = .ok (.iload_n 2, 1) := by decide +kernel
theorem dX10_fits_41 : decode cX10_fits 41 = .ok (.invokestatic 68, 3) := by decide +kernel
theorem dX10_fits_44 : decode cX10_fits 44 = .ok (.istore 4, 2) := by decide +kernel
theorem dX10_fits_46 : decode cX10_fits 46 = .ok (.aload_n 0, 1) := by decide +kernel
theorem dX10_fits_47 : decode cX10_fits 47 = .ok (.getfield 19, 3) := by decide +kernel
theorem dX10_fits_50 : decode cX10_fits 50 = .ok (.aload_n 0, 1) := by decide +kernel
theorem dX10_fits_51 : decode cX10_fits 51 = .ok (.iload_n 1, 1) := by decide +kernel
theorem dX10_fits_52 : decode cX10_fits 52 = .ok (.iload_n 3, 1) := by decide +kernel
theorem dX10_fits_53 : decode cX10_fits 53 = .ok (.iconst 0, 1) := by decide +kernel
theorem dX10_fits_54 : decode cX10_fits 54 = .ok (.invokevirtual 64, 3) := by decide +kernel
theorem dX10_fits_57 : decode cX10_fits 57 = .ok (.dup2, 1) := by decide +kernel
theorem dX10_fits_58 : decode cX10_fits 58 = .ok (.iaload, 1) := by decide +kernel
theorem dX10_fits_59 : decode cX10_fits 59 = .ok (.iload 4, 2) := by decide +kernel
theorem dX10_fits_61 : decode cX10_fits 61 = .ok (.iadd, 1) := by decide +kernel
theorem dX10_fits_62 : decode cX10_fits 62 = .ok (.iastore, 1) := by decide +kernel
theorem dX10_fits_63 : decode cX10_fits 63 = .ok (.aload_n 0, 1) := by decide +kernel
theorem dX10_fits_64 : decode cX10_fits 64 = .ok (.getfield 19, 3) := by decide +kernel
theorem dX10_fits_67 : decode cX10_fits 67 = .ok (.bipush 8, 2) := by decide +kernel
theorem dX10_fits_69 : decode cX10_fits 69 = .ok (.aload_n 0, 1) := by decide +kernel
theorem dX10_fits_70 : decode cX10_fits 70 = .ok (.iload_n 1, 1) := by decide +kernel
theorem dX10_fits_71 : decode cX10_fits 71 = .ok (.iload_n 3, 1) := by decide +kernel
theorem dX10_fits_72 : decode cX10_fits 72 = .ok (.iconst 1, 1) := by decide +kernel
theorem dX10_fits_73 : decode cX10_fits 73 = .ok (.invokevirtual 64, 3) := by decide +kernel
theorem dX10_fits_76 : decode cX10_fits 76 = .ok (.iadd, 1) := by decide +kernel
theorem dX10_fits_77 : decode cX10_fits 77 = .ok (.dup2, 1) := by decide +kernel
theorem dX10_fits_78 : decode cX10_fits 78 = .ok (.iaload, 1) := by decide +kernel
theorem dX10_fits_79 : decode cX10_fits 79 = .ok (.iload 4, 2) := by decide +kernel
theorem dX10_fits_81 : decode cX10_fits 81 = .ok (.iadd, 1) := by decide +kernel
theorem dX10_fits_82 : decode cX10_fits 82 = .ok (.iastore, 1) := by decide +kernel
theorem dX10_fits_83 : decode cX10_fits 83 = .ok (.iinc 3 1, 3) := by decide +kernel
theorem dX10_fits_86 : decode cX10_fits 86 = .ok (.goto (-63), 3) := by decide +kernel
theorem dX10_fits_89 : decode cX10_fits 89 = .ok (.iconst 1, 1) := by decide +kernel
theorem dX10_fits_90 : decode cX10_fits 90 = .ok (.istore_n 3, 1) := by decide +kernel
theorem dX10_fits_91 : decode cX10_fits 91 = .ok (.iconst 0, 1) := by decide +kernel
theorem dX10_fits_92 : decode cX10_fits 92 = .ok (.istore 4, 2) := by decide +kernel
theorem dX10_fits_94 : decode cX10_fits 94 = .ok (.iload 4, 2) := by decide +kernel
theorem dX10_fits_96 : decode cX10_fits 96 = .ok (.bipush 16, 2) := by decide +kernel
theorem dX10_fits_98 : decode cX10_fits 98 = .ok (.if_icmp .ge 36, 3) := by decide +kernel
theorem dX10_fits_101 : decode cX10_fits 101 = .ok (.iload_n 3, 1) := by decide +kernel
theorem dX10_fits_102 : decode cX10_fits 102 = .ok (.ifCond .eq 24, 3) := by decide +kernel
theorem dX10_fits_105 : decode cX10_fits 105 = .ok (.aload_n 0, 1) := by decide +kernel
theorem dX10_fits_106 : decode cX10_fits 106 = .ok (.getfield 19, 3) := by decide +kernel
theorem dX10_fits_109 : decode cX10_fits 109 = .ok (.iload 4, 2) := by decide +kernel
theorem dX10_fits_111 : decode cX10_fits 111 = .ok (.iaload, 1) := by decide +kernel
theorem dX10_fits_112 : decode cX10_fits 112 = .ok (.aload_n 0, 1) := by decide +kernel
theorem dX10_fits_113 : decode cX10_fits 113 = .ok (.getfield 16, 3) := by decide +kernel
theorem dX10_fits_116 : decode cX10_fits 116 = .ok (.iload 4, 2) := by decide +kernel
theorem dX10_fits_118 : decode cX10_fits 118 = .ok (.iaload, 1) := by decide +kernel
theorem dX10_fits_119 : decode cX10_fits 119 = .ok (.if_icmp .gt 7, 3) := by decide +kernel
theorem dX10_fits_122 : decode cX10_fits 122 = .ok (.iconst 1, 1) := by decide +kernel
theorem dX10_fits_123 : decode cX10_fits 123 = .ok (.goto 4, 3) := by decide +kernel
theorem dX10_fits_126 : decode cX10_fits 126 = .ok (.iconst 0, 1) := by decide +kernel
theorem dX10_fits_127 : decode cX10_fits 127 = .ok (.istore_n 3, 1) := by decide +kernel
theorem dX10_fits_128 : decode cX10_fits 128 = .ok (.iinc 4 1, 3) := by decide +kernel
theorem dX10_fits_131 : decode cX10_fits 131 = .ok (.goto (-37), 3) := by decide +kernel
theorem dX10_fits_134 : decode cX10_fits 134 = .ok (.iload_n 3, 1) := by decide +kernel
theorem dX10_fits_135 : decode cX10_fits 135 = .ok (.ireturn, 1) := by decide +kernel
def rm_X10_fits : Room := { frames := 2, cells := 0, slots := 0, locals := 45 }
section
variable {p : Program} {l : Launch} {e : Env} {s : State} {m : MethodId} {args : Array Value} {below : List Frame} {meth : Method} {c : Code} {Q : State → Prop} {G : va_G} {aC : Nat → ClassId} {t b0 : Nat}
def f_X10_fits_L2 (v0 : Nat) (v1 : Int32) (v2 : Int32) (k21 : AH → Option (Int32 × AH)) : Nat → Int32 → AH → Option (Int32 × AH)
  | 0, _, _ => none
  | n + 1, v3, N => if (16 : Int32) ≤ v3 then k21 N else ob (hR N v0 10 5) (fun x2 => ob (sI N x2 v3 (0 : Int32)) (fun N3 => f_X10_fits_L2 v0 v1 v2 k21 n (v3 + 1) N3))
set_option maxHeartbeats 4000000 in
set_option maxRecDepth 100000 in
theorem w_X10_fits_L2 {P : Int32 × AH → Prop} (X : CX cX10_fits RX10 5 G aC t b0 p s m args c) (hr : RtZ p l e rm_X10_fits s m args below meth c 0 0 Q cX10_fits G aC b0 P) (v0 : Nat) (v1 : Int32) (v2 : Int32) {k21 : AH → Option (Int32 × AH)}
    (hk21 : ∀ (N : AH) (H : Heap) (locs : List Loc) (ls : Array Slot), Rp G aC b0 N H → va_S (fun q => b0 ≤ q) s.heap H locs → lv_has ls 5 [(0, .ref v0), (1, .int v1), (2, .int v2)] → owp (k21 N) P → W p l e rm_X10_fits s m args below meth c H locs 0 0 Q (F0 m 21 ls [])) :
    ∀ (n : Nat) (v3 : Int32) (N : AH) (H : Heap) (locs : List Loc) (ls : Array Slot), Rp G aC b0 N H → va_S (fun q => b0 ≤ q) s.heap H locs → lv_has ls 5 [(0, .ref v0), (1, .int v1), (2, .int v2), (3, .int v3)] → owp (f_X10_fits_L2 v0 v1 v2 k21 n v3 N) P → W p l e rm_X10_fits s m args below meth c H locs 0 0 Q (F0 m 2 ls []) := by
  have hx := X.1.1
  have hb := X.1.2.1
  intro n
  induction n with
  | zero =>
    intro v3 N H locs ls hR hS hl hp
    exact (show False from hp).elim
  | succ n ih =>
    intro v3 N H locs ls hR hS hl hp
    rw [f_X10_fits_L2] at hp
    refine lv_iload_n hx hb dX10_fits_2 rfl (lv_at hl 3 rfl) ?_
    refine lv_bipush (v := (16)) hx hb dX10_fits_3 (by decide) ?_
    refine lv_icmp_ge (tgt := 21) hx hb dX10_fits_5 (by decide) (fun k1 => ?_) (fun k1 => ?_)
    · have hp := owp_t k1 hp
      exact hk21 _ _ _ _ hR hS (lv_sub hl [0, 1, 2] rfl) hp
    · have hp := owp_f k1 hp
      refine lv_aload_n hx hb dX10_fits_8 rfl (lv_at hl 0 rfl) ?_
      obtain ⟨x2, e_x2, hp⟩ := owp_ob hp
      refine gf_X10_19 X hR e_x2 dX10_fits_9 ?_
      refine lv_iload_n hx hb dX10_fits_12 rfl (lv_at hl 3 rfl) ?_
      refine lv_iconst (v := (0)) hx hb dX10_fits_13 (by decide) ?_
      obtain ⟨N3, e_N3, hp⟩ := owp_ob hp
      refine ab_iast X hR hS e_N3 dX10_fits_14 (fun H locs hR hS => ?_)
      refine lv_iinc (v := v3 + 1) (lv' := [(3, .int (v3 + 1)), (0, .ref v0), (1, .int v1), (2, .int v2)]) hx hb dX10_fits_15 hl (k := 3) rfl rfl (by decide) rfl (fun ls hl => ?_)
      refine lv_goto (tgt := 2) hx hb dX10_fits_18 (by decide) ?_
      exact ih _ _ _ _ _ hR hS (lv_sub hl [1, 2, 3, 0] rfl) hp
def f_X10_fits_L23 (v0 : Nat) (v1 : Int32) (v2 : Int32) (k89 : AH → Option (Int32 × AH)) : Nat → Int32 → AH → Option (Int32 × AH)
  | 0, _, _ => none
  | n + 1, v3, N => ob2 (f_X10_of v0 v1 (5 : Int32) N) (fun x6 N5 => if x6 ≤ v3 then k89 N5 else ob2 (f_X10_flowOf v0 v1 v3 (3 : Int32) N5) (fun x9 N8 => ob2 (f_X10_up x9 v2 N8) (fun x11 N10 => ob (hR N10 v0 10 5) (fun x12 => ob2 (f_X10_flowOf v0 v1 v3 (0 : Int32) N10) (fun x14 N13 => ob (aI N13 x12 x14) (fun x15 => ob (sI N13 x12 x14 (x15 + x11)) (fun N16 => ob (hR N16 v0 10 5) (fun x17 => ob2 (f_X10_flowOf v0 v1 v3 (1 : Int32) N16) (fun x19 N18 => ob (aI N18 x17 ((8 : Int32) + x19)) (fun x20 => ob (sI N18 x17 ((8 : Int32) + x19) (x20 + x11)) (fun N21 => f_X10_fits_L23 v0 v1 v2 k89 n (v3 + 1) N21)))))))))))
set_option maxHeartbeats 4000000 in
set_option maxRecDepth 100000 in
theorem w_X10_fits_L23 {P : Int32 × AH → Prop} (X : CX cX10_fits RX10 5 G aC t b0 p s m args c) (hr : RtZ p l e rm_X10_fits s m args below meth c 0 0 Q cX10_fits G aC b0 P) (v0 : Nat) (v1 : Int32) (v2 : Int32) {k89 : AH → Option (Int32 × AH)}
    (hk89 : ∀ (N : AH) (H : Heap) (locs : List Loc) (ls : Array Slot), Rp G aC b0 N H → va_S (fun q => b0 ≤ q) s.heap H locs → lv_has ls 5 [(0, .ref v0)] → owp (k89 N) P → W p l e rm_X10_fits s m args below meth c H locs 0 0 Q (F0 m 89 ls [])) :
    ∀ (n : Nat) (v3 : Int32) (N : AH) (H : Heap) (locs : List Loc) (ls : Array Slot), Rp G aC b0 N H → va_S (fun q => b0 ≤ q) s.heap H locs → lv_has ls 5 [(0, .ref v0), (1, .int v1), (2, .int v2), (3, .int v3)] → owp (f_X10_fits_L23 v0 v1 v2 k89 n v3 N) P → W p l e rm_X10_fits s m args below meth c H locs 0 0 Q (F0 m 23 ls []) := by
  have hx := X.1.1
  have hb := X.1.2.1
  intro n
  induction n with
  | zero =>
    intro v3 N H locs ls hR hS hl hp
    exact (show False from hp).elim
  | succ n ih =>
    intro v3 N H locs ls hR hS hl hp
    rw [f_X10_fits_L23] at hp
    refine lv_iload_n hx hb dX10_fits_23 rfl (lv_at hl 3 rfl) ?_
    refine lv_aload_n hx hb dX10_fits_24 rfl (lv_at hl 0 rfl) ?_
    refine lv_iload_n hx hb dX10_fits_25 rfl (lv_at hl 1 rfl) ?_
    refine lv_iconst (v := (5)) hx hb dX10_fits_26 (by decide) ?_
    obtain ⟨x6, N5, e_N5, hp⟩ := owp_ob2 hp
    refine iv_X10_of (rest := [.int v3]) mw_X10_52 X hR hS e_N5 hl.1 (Nat.le_of_ble_eq_true rfl) ⟨Nat.le_of_ble_eq_true rfl, Nat.le_of_ble_eq_true rfl⟩ ⟨Nat.le_of_ble_eq_true rfl, Nat.le_of_ble_eq_true rfl⟩ dX10_fits_27 (fun H locs hR hS => ?_)
    refine lv_icmp_ge (tgt := 89) hx hb dX10_fits_30 (by decide) (fun k7 => ?_) (fun k7 => ?_)
    · have hp := owp_t k7 hp
      exact hk89 _ _ _ _ hR hS (lv_sub hl [0] rfl) hp
    · have hp := owp_f k7 hp
      refine lv_aload_n hx hb dX10_fits_33 rfl (lv_at hl 0 rfl) ?_
      refine lv_iload_n hx hb dX10_fits_34 rfl (lv_at hl 1 rfl) ?_
      refine lv_iload_n hx hb dX10_fits_35 rfl (lv_at hl 3 rfl) ?_
      refine lv_iconst (v := (3)) hx hb dX10_fits_36 (by decide) ?_
      obtain ⟨x9, N8, e_N8, hp⟩ := owp_ob2 hp
      refine iv_X10_flowOf (rest := []) mw_X10_64 X hR hS e_N8 hl.1 (Nat.le_of_ble_eq_true rfl) ⟨Nat.le_of_ble_eq_true rfl, Nat.le_of_ble_eq_true rfl⟩ ⟨Nat.le_of_ble_eq_true rfl, Nat.le_of_ble_eq_true rfl⟩ dX10_fits_37 (fun H locs hR hS => ?_)
      refine lv_iload_n hx hb dX10_fits_40 rfl (lv_at hl 2 rfl) ?_
      obtain ⟨x11, N10, e_N10, hp⟩ := owp_ob2 hp
      refine iv_X10_up (rest := []) mw_X10_68 X hR hS e_N10 hl.1 (Nat.le_of_ble_eq_true rfl) ⟨Nat.le_of_ble_eq_true rfl, Nat.le_of_ble_eq_true rfl⟩ ⟨Nat.le_of_ble_eq_true rfl, Nat.le_of_ble_eq_true rfl⟩ dX10_fits_41 (fun H locs hR hS => ?_)
      refine lv_istore (lv' := [(4, .int x11), (0, .ref v0), (1, .int v1), (2, .int v2), (3, .int v3)]) hx hb dX10_fits_44 hl (by decide) rfl (fun ls hl => ?_)
      refine lv_aload_n hx hb dX10_fits_46 rfl (lv_at hl 1 rfl) ?_
      obtain ⟨x12, e_x12, hp⟩ := owp_ob hp
      refine gf_X10_19 X hR e_x12 dX10_fits_47 ?_
      refine lv_aload_n hx hb dX10_fits_50 rfl (lv_at hl 1 rfl) ?_
      refine lv_iload_n hx hb dX10_fits_51 rfl (lv_at hl 2 rfl) ?_
      refine lv_iload_n hx hb dX10_fits_52 rfl (lv_at hl 4 rfl) ?_
      refine lv_iconst (v := (0)) hx hb dX10_fits_53 (by decide) ?_
      obtain ⟨x14, N13, e_N13, hp⟩ := owp_ob2 hp
      refine iv_X10_flowOf (rest := [.ref x12]) mw_X10_64 X hR hS e_N13 hl.1 (Nat.le_of_ble_eq_true rfl) ⟨Nat.le_of_ble_eq_true rfl, Nat.le_of_ble_eq_true rfl⟩ ⟨Nat.le_of_ble_eq_true rfl, Nat.le_of_ble_eq_true rfl⟩ dX10_fits_54 (fun H locs hR hS => ?_)
      refine lv_dup2_11 hx hb dX10_fits_57 rfl rfl ?_
      obtain ⟨x15, e_x15, hp⟩ := owp_ob hp
      refine ab_iald X hR e_x15 dX10_fits_58 ?_
      refine lv_iload hx hb dX10_fits_59 (lv_at hl 0 rfl) ?_
      refine lv_iadd hx hb dX10_fits_61 ?_
      obtain ⟨N16, e_N16, hp⟩ := owp_ob hp
      refine ab_iast X hR hS e_N16 dX10_fits_62 (fun H locs hR hS => ?_)
      refine lv_aload_n hx hb dX10_fits_63 rfl (lv_at hl 1 rfl) ?_
      obtain ⟨x17, e_x17, hp⟩ := owp_ob hp
      refine gf_X10_19 X hR e_x17 dX10_fits_64 ?_
      refine lv_bipush (v := (8)) hx hb dX10_fits_67 (by decide) ?_
      refine lv_aload_n hx hb dX10_fits_69 rfl (lv_at hl 1 rfl) ?_
      refine lv_iload_n hx hb dX10_fits_70 rfl (lv_at hl 2 rfl) ?_
      refine lv_iload_n hx hb dX10_fits_71 rfl (lv_at hl 4 rfl) ?_
      refine lv_iconst (v := (1)) hx hb dX10_fits_72 (by decide) ?_
      obtain ⟨x19, N18, e_N18, hp⟩ := owp_ob2 hp
      refine iv_X10_flowOf (rest := [.int (8 : Int32), .ref x17]) mw_X10_64 X hR hS e_N18 hl.1 (Nat.le_of_ble_eq_true rfl) ⟨Nat.le_of_ble_eq_true rfl, Nat.le_of_ble_eq_true rfl⟩ ⟨Nat.le_of_ble_eq_true rfl, Nat.le_of_ble_eq_true rfl⟩ dX10_fits_73 (fun H locs hR hS => ?_)
      refine lv_iadd hx hb dX10_fits_76 ?_
      refine lv_dup2_11 hx hb dX10_fits_77 rfl rfl ?_
      obtain ⟨x20, e_x20, hp⟩ := owp_ob hp
      refine ab_iald X hR e_x20 dX10_fits_78 ?_
      refine lv_iload hx hb dX10_fits_79 (lv_at hl 0 rfl) ?_
      refine lv_iadd hx hb dX10_fits_81 ?_
      obtain ⟨N21, e_N21, hp⟩ := owp_ob hp
      refine ab_iast X hR hS e_N21 dX10_fits_82 (fun H locs hR hS => ?_)
      refine lv_iinc (v := v3 + 1) (lv' := [(3, .int (v3 + 1)), (4, .int x11), (0, .ref v0), (1, .int v1), (2, .int v2)]) hx hb dX10_fits_83 hl (k := 4) rfl rfl (by decide) rfl (fun ls hl => ?_)
      refine lv_goto (tgt := 23) hx hb dX10_fits_86 (by decide) ?_
      exact ih _ _ _ _ _ hR hS (lv_sub hl [2, 3, 4, 0] rfl) hp
def f_X10_fits_L94 (v0 : Nat) (k134 : Int32 → AH → Option (Int32 × AH)) : Nat → Int32 → Int32 → AH → Option (Int32 × AH)
  | 0, _, _, _ => none
  | n + 1, v3, v4, N => if (16 : Int32) ≤ v4 then k134 v3 N else if v3 = 0 then f_X10_fits_L94 v0 k134 n (0 : Int32) (v4 + 1) N else ob (hR N v0 10 5) (fun x25 => ob (aI N x25 v4) (fun x26 => ob (hR N v0 10 4) (fun x27 => ob (aI N x27 v4) (fun x28 => if x28 < x26 then f_X10_fits_L94 v0 k134 n (0 : Int32) (v4 + 1) N else f_X10_fits_L94 v0 k134 n (1 : Int32) (v4 + 1) N))))
set_option maxHeartbeats 4000000 in
set_option maxRecDepth 100000 in
theorem w_X10_fits_L94 {P : Int32 × AH → Prop} (X : CX cX10_fits RX10 5 G aC t b0 p s m args c) (hr : RtZ p l e rm_X10_fits s m args below meth c 0 0 Q cX10_fits G aC b0 P) (v0 : Nat) {k134 : Int32 → AH → Option (Int32 × AH)}
    (hk134 : ∀ (v3 : Int32) (N : AH) (H : Heap) (locs : List Loc) (ls : Array Slot), Rp G aC b0 N H → va_S (fun q => b0 ≤ q) s.heap H locs → lv_has ls 5 [(3, .int v3)] → owp (k134 v3 N) P → W p l e rm_X10_fits s m args below meth c H locs 0 0 Q (F0 m 134 ls [])) :
    ∀ (n : Nat) (v3 : Int32) (v4 : Int32) (N : AH) (H : Heap) (locs : List Loc) (ls : Array Slot), Rp G aC b0 N H → va_S (fun q => b0 ≤ q) s.heap H locs → lv_has ls 5 [(0, .ref v0), (3, .int v3), (4, .int v4)] → owp (f_X10_fits_L94 v0 k134 n v3 v4 N) P → W p l e rm_X10_fits s m args below meth c H locs 0 0 Q (F0 m 94 ls []) := by
  have hx := X.1.1
  have hb := X.1.2.1
  intro n
  induction n with
  | zero =>
    intro v3 v4 N H locs ls hR hS hl hp
    exact (show False from hp).elim
  | succ n ih =>
    intro v3 v4 N H locs ls hR hS hl hp
    rw [f_X10_fits_L94] at hp
    refine lv_iload hx hb dX10_fits_94 (lv_at hl 2 rfl) ?_
    refine lv_bipush (v := (16)) hx hb dX10_fits_96 (by decide) ?_
    refine lv_icmp_ge (tgt := 134) hx hb dX10_fits_98 (by decide) (fun k23 => ?_) (fun k23 => ?_)
    · have hp := owp_t k23 hp
      exact hk134 _ _ _ _ _ hR hS (lv_sub hl [1] rfl) hp
    · have hp := owp_f k23 hp
      refine lv_iload_n hx hb dX10_fits_101 rfl (lv_at hl 1 rfl) ?_
      refine lv_if_eq (tgt := 126) hx hb dX10_fits_102 (by decide) (fun k24 => ?_) (fun k24 => ?_)
      · have hp := owp_t k24 hp
        refine lv_iconst (v := (0)) hx hb dX10_fits_126 (by decide) ?_
        refine lv_istore_n (lv' := [(3, .int (0 : Int32)), (0, .ref v0), (4, .int v4)]) hx hb dX10_fits_127 rfl hl (by decide) rfl (fun ls hl => ?_)
        refine lv_iinc (v := v4 + 1) (lv' := [(4, .int (v4 + 1)), (3, .int (0 : Int32)), (0, .ref v0)]) hx hb dX10_fits_128 hl (k := 2) rfl rfl (by decide) rfl (fun ls hl => ?_)
        refine lv_goto (tgt := 94) hx hb dX10_fits_131 (by decide) ?_
        exact ih _ _ _ _ _ _ hR hS (lv_sub hl [2, 1, 0] rfl) hp
      · have hp := owp_f k24 hp
        refine lv_aload_n hx hb dX10_fits_105 rfl (lv_at hl 0 rfl) ?_
        obtain ⟨x25, e_x25, hp⟩ := owp_ob hp
        refine gf_X10_19 X hR e_x25 dX10_fits_106 ?_
        refine lv_iload hx hb dX10_fits_109 (lv_at hl 2 rfl) ?_
        obtain ⟨x26, e_x26, hp⟩ := owp_ob hp
        refine ab_iald X hR e_x26 dX10_fits_111 ?_
        refine lv_aload_n hx hb dX10_fits_112 rfl (lv_at hl 0 rfl) ?_
        obtain ⟨x27, e_x27, hp⟩ := owp_ob hp
        refine gf_X10_16 X hR e_x27 dX10_fits_113 ?_
        refine lv_iload hx hb dX10_fits_116 (lv_at hl 2 rfl) ?_
        obtain ⟨x28, e_x28, hp⟩ := owp_ob hp
        refine ab_iald X hR e_x28 dX10_fits_118 ?_
        refine lv_icmp_gt (tgt := 126) hx hb dX10_fits_119 (by decide) (fun k29 => ?_) (fun k29 => ?_)
        · have hp := owp_t k29 hp
          refine lv_iconst (v := (0)) hx hb dX10_fits_126 (by decide) ?_
          refine lv_istore_n (lv' := [(3, .int (0 : Int32)), (0, .ref v0), (4, .int v4)]) hx hb dX10_fits_127 rfl hl (by decide) rfl (fun ls hl => ?_)
          refine lv_iinc (v := v4 + 1) (lv' := [(4, .int (v4 + 1)), (3, .int (0 : Int32)), (0, .ref v0)]) hx hb dX10_fits_128 hl (k := 2) rfl rfl (by decide) rfl (fun ls hl => ?_)
          refine lv_goto (tgt := 94) hx hb dX10_fits_131 (by decide) ?_
          exact ih _ _ _ _ _ _ hR hS (lv_sub hl [2, 1, 0] rfl) hp
        · have hp := owp_f k29 hp
          refine lv_iconst (v := (1)) hx hb dX10_fits_122 (by decide) ?_
          refine lv_goto (tgt := 127) hx hb dX10_fits_123 (by decide) ?_
          refine lv_istore_n (lv' := [(3, .int (1 : Int32)), (0, .ref v0), (4, .int v4)]) hx hb dX10_fits_127 rfl hl (by decide) rfl (fun ls hl => ?_)
          refine lv_iinc (v := v4 + 1) (lv' := [(4, .int (v4 + 1)), (3, .int (1 : Int32)), (0, .ref v0)]) hx hb dX10_fits_128 hl (k := 2) rfl rfl (by decide) rfl (fun ls hl => ?_)
          refine lv_goto (tgt := 94) hx hb dX10_fits_131 (by decide) ?_
          exact ih _ _ _ _ _ _ hR hS (lv_sub hl [2, 1, 0] rfl) hp
def f_X10_fits (v0 : Nat) (v1 : Int32) (v2 : Int32) (N : AH) : Option (Int32 × AH) := ob (iO N v0 10) (fun _ => f_X10_fits_L2 v0 v1 v2 (fun N4 => f_X10_fits_L23 v0 v1 v2 (fun N22 => f_X10_fits_L94 v0 (fun v30 N31 => rZ v30 N31) FU (1 : Int32) (0 : Int32) N22) FU (0 : Int32) N4) FU (0 : Int32) N)
set_option maxHeartbeats 4000000 in
set_option maxRecDepth 100000 in
theorem wk_X10_fits {P : Int32 × AH → Prop} (X : CX cX10_fits RX10 5 G aC t b0 p s m args c) (hr : RtZ p l e rm_X10_fits s m args below meth c 0 0 Q cX10_fits G aC b0 P) (v0 : Nat) (v1 : Int32) (v2 : Int32) (N : AH) (H : Heap) (locs : List Loc) (ls : Array Slot) (hR : Rp G aC b0 N H) (hS : va_S (fun q => b0 ≤ q) s.heap H locs) (hl : lv_has ls 5 [(0, .ref v0), (1, .int v1), (2, .int v2)]) (hp : owp (f_X10_fits v0 v1 v2 N) P) : W p l e rm_X10_fits s m args below meth c H locs 0 0 Q (F0 m 0 ls []) := by
  have hx := X.1.1
  have hb := X.1.2.1
  unfold f_X10_fits at hp
  obtain ⟨_, _, hp⟩ := owp_ob hp
  refine lv_iconst (v := (0)) hx hb dX10_fits_0 (by decide) ?_
  refine lv_istore_n (lv' := [(3, .int (0 : Int32)), (0, .ref v0), (1, .int v1), (2, .int v2)]) hx hb dX10_fits_1 rfl hl (by decide) rfl (fun ls hl => ?_)
  refine w_X10_fits_L2 X hr _ _ _ (fun N4 H locs ls hR hS hl hp => ?_) _ _ _ _ _ _ hR hS (lv_sub hl [1, 2, 3, 0] rfl) hp
  refine lv_iconst (v := (0)) hx hb dX10_fits_21 (by decide) ?_
  refine lv_istore_n (lv' := [(3, .int (0 : Int32)), (0, .ref v0), (1, .int v1), (2, .int v2)]) hx hb dX10_fits_22 rfl hl (by decide) rfl (fun ls hl => ?_)
  refine w_X10_fits_L23 X hr _ _ _ (fun N22 H locs ls hR hS hl hp => ?_) _ _ _ _ _ _ hR hS (lv_sub hl [1, 2, 3, 0] rfl) hp
  refine lv_iconst (v := (1)) hx hb dX10_fits_89 (by decide) ?_
  refine lv_istore_n (lv' := [(3, .int (1 : Int32)), (0, .ref v0)]) hx hb dX10_fits_90 rfl hl (by decide) rfl (fun ls hl => ?_)
  refine lv_iconst (v := (0)) hx hb dX10_fits_91 (by decide) ?_
  refine lv_istore (lv' := [(4, .int (0 : Int32)), (3, .int (1 : Int32)), (0, .ref v0)]) hx hb dX10_fits_92 hl (by decide) rfl (fun ls hl => ?_)
  refine w_X10_fits_L94 X hr _ (fun v30 N31 H locs ls hR hS hl hp => ?_) _ _ _ _ _ _ _ hR hS (lv_sub hl [2, 1, 0] rfl) hp
  refine lv_iload_n hx hb dX10_fits_134 rfl (lv_at hl 0 rfl) ?_
  exact hr _ _ _ _ _ _ hR hS dX10_fits_135 hp
end
theorem ct_X10_fits {v0 : Nat} {v1 : Int32} {v2 : Int32} {N N1 : AH} {r : Int32} (h : f_X10_fits v0 v1 v2 N = some (r, N1)) : Ct yX10_fits cX10_fits 5 (some .boolean) rm_X10_fits [.ref v0, .int v1, .int v2] N (some (.int r)) N1 :=
  ab_met (own := RX10) (by decide +kernel) rfl (Nat.le_of_ble_eq_true rfl) (fun l G aC t b0 p e s m below meth c ls X hr hlk hnm hR hS hl => wk_X10_fits X (RtZ_met X.1.1 X.1.2.1 hr hlk) _ _ _ _ _ _ _ hR hS hl (owp_of h))
theorem cw_X10_fits : Cond.code yX10_fits cX10_fits 5 (some .boolean) ∈ WT := WT_of 1184 (by decide +kernel) (by decide +kernel)
theorem iv_X10_fits {p : Program} {l : Launch} {e : Env} {R : Room} {s : State} {m : MethodId} {args : Array Value} {below : List Frame} {meth : Method} {c : Code} {H : Heap} {locs : List Loc} {cells slots : Nat} {Q : State → Prop} {cc : ByteArray} {own : String} {nL : Nat} {G : va_G} {aC : Nat → ClassId} {t b0 : Nat} {N N1 : AH} {pc index : Nat} {ls : Array Slot} {rest : List Value} {v0 : Nat} {v1 : Int32} {v2 : Int32} {r : Int32} (w1 : Cond.methodLink own index yX10_fits ∈ WT) (X : CX cc own nL G aC t b0 p s m args c) (hR : Rp G aC b0 N H) (hS : va_S (fun q => b0 ≤ q) s.heap H locs) (h : f_X10_fits v0 v1 v2 N = some (r, N1)) (hls : ls.size = nL) (hW : (rest.map fun v => v.category).sum ≤ 8) (hR1 : 3 ≤ R.frames ∧ 69 ≤ R.locals) (hcs : cells + 0 ≤ R.cells ∧ slots + 0 ≤ R.slots) (hdg : decode cc pc = .ok (.invokevirtual index, 3)) (kk : ∀ (H1 : Heap) (locs1 : List Loc), Rp G aC b0 N1 H1 → va_S (fun q => b0 ≤ q) s.heap H1 locs1 → W p l e R s m args below meth c H1 locs1 cells slots Q (F0 m (pc + 3) ls (.int r :: rest))) : W p l e R s m args below meth c H locs cells slots Q (F0 m pc ls (.int v2 :: .int v1 :: .ref v0 :: rest)) :=
  ab_callV (n := 2) (As := [.int v1, .int v2]) X hR hS (ct_X10_fits h) (ob_rc (c := 10) (N := N) (a := v0) h) (T := TX10) (k := 20) (C := RX10) rfl w1 (WT_of 1183 (by decide +kernel) (by decide +kernel)) (WT_of 60 (by decide +kernel) (by decide +kernel)) (WT_of 92 (by decide +kernel) (by decide +kernel)) cw_X10_fits ⟨rfl, by decide +kernel, by decide +kernel, by decide +kernel⟩ rfl hls hW hR1 hcs rfl hdg kk
-- X10_spanOf
theorem mw_X10_72 : Cond.methodLink RX10 72 yX10_fits ∈ WT := WT_of 1181 (by decide +kernel) (by decide +kernel)
theorem dX10_spanOf_0 : decode cX10_spanOf 0 = .ok (.aload_n 0, 1) := by decide +kernel
theorem dX10_spanOf_1 : decode cX10_spanOf 1 = .ok (.iload_n 1, 1) := by decide +kernel
theorem dX10_spanOf_2 : decode cX10_spanOf 2 = .ok (.ldc 71, 2) := by decide +kernel
theorem dX10_spanOf_4 : decode cX10_spanOf 4 = .ok (.invokevirtual 72, 3) := by decide +kernel
theorem dX10_spanOf_7 : decode cX10_spanOf 7 = .ok (.ifCond .ne 5, 3) := by decide +kernel
theorem dX10_spanOf_10 : decode cX10_spanOf 10 = .ok (.iconst (-1), 1) := by decide +kernel
theorem dX10_spanOf_11 : decode cX10_spanOf 11 = .ok (.ireturn, 1) := by decide +kernel
theorem dX10_spanOf_12 : decode cX10_spanOf 12 = .ok (.iconst 0, 1) := by decide +kernel
theorem dX10_spanOf_13 : decode cX10_spanOf 13 = .ok (.istore_n 2, 1) := by decide +kernel
theorem dX10_spanOf_14 : decode cX10_spanOf 14 = .ok (.ldc 71, 2) := by decide +kernel
theorem dX10_spanOf_16 : decode cX10_spanOf 16 = .ok (.istore_n 3, 1) := by decide +kernel
theorem dX10_spanOf_17 : decode cX10_spanOf 17 = .ok (.iload_n 3, 1) := by decide +kernel
theorem dX10_spanOf_18 : decode cX10_spanOf 18 = .ok (.iload_n 2, 1) := by decide +kernel
theorem dX10_spanOf_19 : decode cX10_spanOf 19 = .ok (.isub, 1) := by decide +kernel
theorem dX10_spanOf_20 : decode cX10_spanOf 20 = .ok (.iconst 1, 1) := by decide +kernel
theorem dX10_spanOf_21 : decode cX10_spanOf 21 = .ok (.if_icmp .le 32, 3) := by decide +kernel
theorem dX10_spanOf_24 : decode cX10_spanOf 24 = .ok (.iload_n 2, 1) := by decide +kernel
theorem dX10_spanOf_25 : decode cX10_spanOf 25 = .ok (.iload_n 3, 1) := by decide +kernel
theorem dX10_spanOf_26 : decode cX10_spanOf 26 = .ok (.iadd, 1) := by decide +kernel
theorem dX10_spanOf_27 : decode cX10_spanOf 27 = .ok (.iconst 2, 1) := by decide +kernel
theorem dX10_spanOf_28 : decode cX10_spanOf 28 = .ok (.idiv, 1) := by decide +kernel
theorem dX10_spanOf_29 : decode cX10_spanOf 29 = .ok (.istore 4, 2) := by decide +kernel
theorem dX10_spanOf_31 : decode cX10_spanOf 31 = .ok (.aload_n 0, 1) := by decide +kernel
theorem dX10_spanOf_32 : decode cX10_spanOf 32 = .ok (.iload_n 1, 1) := by decide +kernel
theorem dX10_spanOf_33 : decode cX10_spanOf 33 = .ok (.iload 4, 2) := by decide +kernel
theorem dX10_spanOf_35 : decode cX10_spanOf 35 = .ok (.invokevirtual 72, 3) := by decide +kernel
theorem dX10_spanOf_38 : decode cX10_spanOf 38 = .ok (.ifCond .eq 9, 3) := by decide +kernel
theorem dX10_spanOf_41 : decode cX10_spanOf 41 = .ok (.iload 4, 2) := by decide +kernel
theorem dX10_spanOf_43 : decode cX10_spanOf 43 = .ok (.istore_n 3, 1) := by decide +kernel
theorem dX10_spanOf_44 : decode cX10_spanOf 44 = .ok (.goto 6, 3) := by decide +kernel
theorem dX10_spanOf_47 : decode cX10_spanOf 47 = .ok (.iload 4, 2) := by decide +kernel
theorem dX10_spanOf_49 : decode cX10_spanOf 49 = .ok (.istore_n 2, 1) := by decide +kernel
theorem dX10_spanOf_50 : decode cX10_spanOf 50 = .ok (.goto (-33), 3) := by decide +kernel
theorem dX10_spanOf_53 : decode cX10_spanOf 53 = .ok (.iload_n 3, 1) := by decide +kernel
theorem dX10_spanOf_54 : decode cX10_spanOf 54 = .ok (.ireturn, 1) := by decide +kernel
def rm_X10_spanOf : Room := { frames := 3, cells := 0, slots := 0, locals := 69 }
section
variable {p : Program} {l : Launch} {e : Env} {s : State} {m : MethodId} {args : Array Value} {below : List Frame} {meth : Method} {c : Code} {Q : State → Prop} {G : va_G} {aC : Nat → ClassId} {t b0 : Nat}
def f_X10_spanOf_L17 (v0 : Nat) (v1 : Int32) (k53 : Int32 → AH → Option (Int32 × AH)) : Nat → Int32 → Int32 → AH → Option (Int32 × AH)
  | 0, _, _, _ => none
  | n + 1, v2, v3, N => if (v3 - v2) ≤ (1 : Int32) then k53 v3 N else ob (dV (v2 + v3) (2 : Int32)) (fun x5 => ob2 (f_X10_fits v0 v1 x5 N) (fun x7 N6 => if x7 = 0 then f_X10_spanOf_L17 v0 v1 k53 n x5 v3 N6 else f_X10_spanOf_L17 v0 v1 k53 n v2 x5 N6))
set_option maxHeartbeats 4000000 in
set_option maxRecDepth 100000 in
theorem w_X10_spanOf_L17 {P : Int32 × AH → Prop} (X : CX cX10_spanOf RX10 5 G aC t b0 p s m args c) (hr : RtI p l e rm_X10_spanOf s m args below meth c 0 0 Q cX10_spanOf G aC b0 P) (v0 : Nat) (v1 : Int32) {k53 : Int32 → AH → Option (Int32 × AH)}
    (hk53 : ∀ (v3 : Int32) (N : AH) (H : Heap) (locs : List Loc) (ls : Array Slot), Rp G aC b0 N H → va_S (fun q => b0 ≤ q) s.heap H locs → lv_has ls 5 [(3, .int v3)] → owp (k53 v3 N) P → W p l e rm_X10_spanOf s m args below meth c H locs 0 0 Q (F0 m 53 ls [])) :
    ∀ (n : Nat) (v2 : Int32) (v3 : Int32) (N : AH) (H : Heap) (locs : List Loc) (ls : Array Slot), Rp G aC b0 N H → va_S (fun q => b0 ≤ q) s.heap H locs → lv_has ls 5 [(0, .ref v0), (1, .int v1), (2, .int v2), (3, .int v3)] → owp (f_X10_spanOf_L17 v0 v1 k53 n v2 v3 N) P → W p l e rm_X10_spanOf s m args below meth c H locs 0 0 Q (F0 m 17 ls []) := by
  have hx := X.1.1
  have hb := X.1.2.1
  intro n
  induction n with
  | zero =>
    intro v2 v3 N H locs ls hR hS hl hp
    exact (show False from hp).elim
  | succ n ih =>
    intro v2 v3 N H locs ls hR hS hl hp
    rw [f_X10_spanOf_L17] at hp
    refine lv_iload_n hx hb dX10_spanOf_17 rfl (lv_at hl 3 rfl) ?_
    refine lv_iload_n hx hb dX10_spanOf_18 rfl (lv_at hl 2 rfl) ?_
    refine lv_isub hx hb dX10_spanOf_19 ?_
    refine lv_iconst (v := (1)) hx hb dX10_spanOf_20 (by decide) ?_
    refine lv_icmp_le (tgt := 53) hx hb dX10_spanOf_21 (by decide) (fun k4 => ?_) (fun k4 => ?_)
    · have hp := owp_t k4 hp
      exact hk53 _ _ _ _ _ hR hS (lv_sub hl [3] rfl) hp
    · have hp := owp_f k4 hp
      refine lv_iload_n hx hb dX10_spanOf_24 rfl (lv_at hl 2 rfl) ?_
      refine lv_iload_n hx hb dX10_spanOf_25 rfl (lv_at hl 3 rfl) ?_
      refine lv_iadd hx hb dX10_spanOf_26 ?_
      refine lv_iconst (v := (2)) hx hb dX10_spanOf_27 (by decide) ?_
      obtain ⟨x5, e_x5, hp⟩ := owp_ob hp
      refine ab_idiv X e_x5 dX10_spanOf_28 ?_
      refine lv_istore (lv' := [(4, .int x5), (0, .ref v0), (1, .int v1), (2, .int v2), (3, .int v3)]) hx hb dX10_spanOf_29 hl (by decide) rfl (fun ls hl => ?_)
      refine lv_aload_n hx hb dX10_spanOf_31 rfl (lv_at hl 1 rfl) ?_
      refine lv_iload_n hx hb dX10_spanOf_32 rfl (lv_at hl 2 rfl) ?_
      refine lv_iload hx hb dX10_spanOf_33 (lv_at hl 0 rfl) ?_
      obtain ⟨x7, N6, e_N6, hp⟩ := owp_ob2 hp
      refine iv_X10_fits (rest := []) mw_X10_72 X hR hS e_N6 hl.1 (Nat.le_of_ble_eq_true rfl) ⟨Nat.le_of_ble_eq_true rfl, Nat.le_of_ble_eq_true rfl⟩ ⟨Nat.le_of_ble_eq_true rfl, Nat.le_of_ble_eq_true rfl⟩ dX10_spanOf_35 (fun H locs hR hS => ?_)
      refine lv_if_eq (tgt := 47) hx hb dX10_spanOf_38 (by decide) (fun k8 => ?_) (fun k8 => ?_)
      · have hp := owp_t k8 hp
        refine lv_iload hx hb dX10_spanOf_47 (lv_at hl 0 rfl) ?_
        refine lv_istore_n (lv' := [(2, .int x5), (4, .int x5), (0, .ref v0), (1, .int v1), (3, .int v3)]) hx hb dX10_spanOf_49 rfl hl (by decide) rfl (fun ls hl => ?_)
        refine lv_goto (tgt := 17) hx hb dX10_spanOf_50 (by decide) ?_
        exact ih _ _ _ _ _ _ hR hS (lv_sub hl [2, 3, 0, 4] rfl) hp
      · have hp := owp_f k8 hp
        refine lv_iload hx hb dX10_spanOf_41 (lv_at hl 0 rfl) ?_
        refine lv_istore_n (lv' := [(3, .int x5), (4, .int x5), (0, .ref v0), (1, .int v1), (2, .int v2)]) hx hb dX10_spanOf_43 rfl hl (by decide) rfl (fun ls hl => ?_)
        refine lv_goto (tgt := 50) hx hb dX10_spanOf_44 (by decide) ?_
        refine lv_goto (tgt := 17) hx hb dX10_spanOf_50 (by decide) ?_
        exact ih _ _ _ _ _ _ hR hS (lv_sub hl [2, 3, 4, 0] rfl) hp
def f_X10_spanOf (v0 : Nat) (v1 : Int32) (N : AH) : Option (Int32 × AH) := ob (iO N v0 10) (fun _ => ob2 (f_X10_fits v0 v1 (100000 : Int32) N) (fun x2 N1 => if ¬ x2 = 0 then f_X10_spanOf_L17 v0 v1 (fun v9 N10 => some (v9, N10)) FU (0 : Int32) (100000 : Int32) N1 else some ((-1 : Int32), N1)))
set_option maxHeartbeats 4000000 in
set_option maxRecDepth 100000 in
theorem wk_X10_spanOf {P : Int32 × AH → Prop} (X : CX cX10_spanOf RX10 5 G aC t b0 p s m args c) (hr : RtI p l e rm_X10_spanOf s m args below meth c 0 0 Q cX10_spanOf G aC b0 P) (v0 : Nat) (v1 : Int32) (N : AH) (H : Heap) (locs : List Loc) (ls : Array Slot) (hR : Rp G aC b0 N H) (hS : va_S (fun q => b0 ≤ q) s.heap H locs) (hl : lv_has ls 5 [(0, .ref v0), (1, .int v1)]) (hp : owp (f_X10_spanOf v0 v1 N) P) : W p l e rm_X10_spanOf s m args below meth c H locs 0 0 Q (F0 m 0 ls []) := by
  have hx := X.1.1
  have hb := X.1.2.1
  unfold f_X10_spanOf at hp
  obtain ⟨_, _, hp⟩ := owp_ob hp
  refine lv_aload_n hx hb dX10_spanOf_0 rfl (lv_at hl 0 rfl) ?_
  refine lv_iload_n hx hb dX10_spanOf_1 rfl (lv_at hl 1 rfl) ?_
  refine lv_ldc (own := RX10) (v := 100000) hx hb X.1.2.2.2.1 (X.1.2.2.2.2 _ (WT_of 1180 (by decide +kernel) (by decide +kernel))) dX10_spanOf_2 ?_
  obtain ⟨x2, N1, e_N1, hp⟩ := owp_ob2 hp
  refine iv_X10_fits (rest := []) mw_X10_72 X hR hS e_N1 hl.1 (Nat.le_of_ble_eq_true rfl) ⟨Nat.le_of_ble_eq_true rfl, Nat.le_of_ble_eq_true rfl⟩ ⟨Nat.le_of_ble_eq_true rfl, Nat.le_of_ble_eq_true rfl⟩ dX10_spanOf_4 (fun H locs hR hS => ?_)
  refine lv_if_ne (tgt := 12) hx hb dX10_spanOf_7 (by decide) (fun k3 => ?_) (fun k3 => ?_)
  · have hp := owp_t k3 hp
    refine lv_iconst (v := (0)) hx hb dX10_spanOf_12 (by decide) ?_
    refine lv_istore_n (lv' := [(2, .int (0 : Int32)), (0, .ref v0), (1, .int v1)]) hx hb dX10_spanOf_13 rfl hl (by decide) rfl (fun ls hl => ?_)
    refine lv_ldc (own := RX10) (v := 100000) hx hb X.1.2.2.2.1 (X.1.2.2.2.2 _ (WT_of 1180 (by decide +kernel) (by decide +kernel))) dX10_spanOf_14 ?_
    refine lv_istore_n (lv' := [(3, .int (100000 : Int32)), (2, .int (0 : Int32)), (0, .ref v0), (1, .int v1)]) hx hb dX10_spanOf_16 rfl hl (by decide) rfl (fun ls hl => ?_)
    refine w_X10_spanOf_L17 X hr _ _ (fun v9 N10 H locs ls hR hS hl hp => ?_) _ _ _ _ _ _ _ hR hS (lv_sub hl [2, 3, 1, 0] rfl) hp
    refine lv_iload_n hx hb dX10_spanOf_53 rfl (lv_at hl 0 rfl) ?_
    exact hr _ _ _ _ _ _ hR hS dX10_spanOf_54 hp
  · have hp := owp_f (fun q => q k3) hp
    refine lv_iconst (v := (-1)) hx hb dX10_spanOf_10 (by decide) ?_
    exact hr _ _ _ _ _ _ hR hS dX10_spanOf_11 hp
end
theorem ct_X10_spanOf {v0 : Nat} {v1 : Int32} {N N1 : AH} {r : Int32} (h : f_X10_spanOf v0 v1 N = some (r, N1)) : Ct yX10_spanOf cX10_spanOf 5 (some .int) rm_X10_spanOf [.ref v0, .int v1] N (some (.int r)) N1 :=
  ab_met (own := RX10) (by decide +kernel) rfl (Nat.le_of_ble_eq_true rfl) (fun l G aC t b0 p e s m below meth c ls X hr hlk hnm hR hS hl => wk_X10_spanOf X (RtI_met X.1.1 X.1.2.1 hr hlk) _ _ _ _ _ _ hR hS hl (owp_of h))
theorem cw_X10_spanOf : Cond.code yX10_spanOf cX10_spanOf 5 (some .int) ∈ WT := WT_of 1179 (by decide +kernel) (by decide +kernel)
theorem iv_X10_spanOf {p : Program} {l : Launch} {e : Env} {R : Room} {s : State} {m : MethodId} {args : Array Value} {below : List Frame} {meth : Method} {c : Code} {H : Heap} {locs : List Loc} {cells slots : Nat} {Q : State → Prop} {cc : ByteArray} {own : String} {nL : Nat} {G : va_G} {aC : Nat → ClassId} {t b0 : Nat} {N N1 : AH} {pc index : Nat} {ls : Array Slot} {rest : List Value} {v0 : Nat} {v1 : Int32} {r : Int32} (w1 : Cond.methodLink own index yX10_spanOf ∈ WT) (X : CX cc own nL G aC t b0 p s m args c) (hR : Rp G aC b0 N H) (hS : va_S (fun q => b0 ≤ q) s.heap H locs) (h : f_X10_spanOf v0 v1 N = some (r, N1)) (hls : ls.size = nL) (hW : (rest.map fun v => v.category).sum ≤ 8) (hR1 : 4 ≤ R.frames ∧ 93 ≤ R.locals) (hcs : cells + 0 ≤ R.cells ∧ slots + 0 ≤ R.slots) (hdg : decode cc pc = .ok (.invokevirtual index, 3)) (kk : ∀ (H1 : Heap) (locs1 : List Loc), Rp G aC b0 N1 H1 → va_S (fun q => b0 ≤ q) s.heap H1 locs1 → W p l e R s m args below meth c H1 locs1 cells slots Q (F0 m (pc + 3) ls (.int r :: rest))) : W p l e R s m args below meth c H locs cells slots Q (F0 m pc ls (.int v1 :: .ref v0 :: rest)) :=
  ab_callV (n := 1) (As := [.int v1]) X hR hS (ct_X10_spanOf h) (ob_rc (c := 10) (N := N) (a := v0) h) (T := TX10) (k := 20) (C := RX10) rfl w1 (WT_of 1178 (by decide +kernel) (by decide +kernel)) (WT_of 59 (by decide +kernel) (by decide +kernel)) (WT_of 92 (by decide +kernel) (by decide +kernel)) cw_X10_spanOf ⟨rfl, by decide +kernel, by decide +kernel, by decide +kernel⟩ rfl hls hW hR1 hcs rfl hdg kk
-- X10_loneSpanOf
theorem mw_X10_76 : Cond.methodLink RX10 76 yX10_allAvailable ∈ WT := WT_of 1172 (by decide +kernel) (by decide +kernel)
theorem mw_X10_79 : Cond.methodLink RX10 79 yX10_spanOf ∈ WT := WT_of 1176 (by decide +kernel) (by decide +kernel)
theorem dX10_loneSpanOf_0 : decode cX10_loneSpanOf 0 = .ok (.aload_n 0, 1) := by decide +kernel
theorem dX10_loneSpanOf_1 : decode cX10_loneSpanOf 1 = .ok (.invokevirtual 76, 3) := by decide +kernel
theorem dX10_loneSpanOf_4 : decode cX10_loneSpanOf 4 = .ok (.aload_n 0, 1) := by decide +kernel
theorem dX10_loneSpanOf_5 : decode cX10_loneSpanOf 5 = .ok (.iload_n 1, 1) := by decide +kernel
theorem dX10_loneSpanOf_6 : decode cX10_loneSpanOf 6 = .ok (.invokevirtual 79, 3) := by decide +kernel
theorem dX10_loneSpanOf_9 : decode cX10_loneSpanOf 9 = .ok (.ireturn, 1) := by decide +kernel
def rm_X10_loneSpanOf : Room := { frames := 4, cells := 0, slots := 0, locals := 93 }
section
variable {p : Program} {l : Launch} {e : Env} {s : State} {m : MethodId} {args : Array Value} {below : List Frame} {meth : Method} {c : Code} {Q : State → Prop} {G : va_G} {aC : Nat → ClassId} {t b0 : Nat}
def f_X10_loneSpanOf (v0 : Nat) (v1 : Int32) (N : AH) : Option (Int32 × AH) := ob (iO N v0 10) (fun _ => ob2 (f_X10_allAvailable v0 N) (fun _ N1 => ob2 (f_X10_spanOf v0 v1 N1) (fun x3 N2 => some (x3, N2))))
set_option maxHeartbeats 4000000 in
set_option maxRecDepth 100000 in
theorem wk_X10_loneSpanOf {P : Int32 × AH → Prop} (X : CX cX10_loneSpanOf RX10 2 G aC t b0 p s m args c) (hr : RtI p l e rm_X10_loneSpanOf s m args below meth c 0 0 Q cX10_loneSpanOf G aC b0 P) (v0 : Nat) (v1 : Int32) (N : AH) (H : Heap) (locs : List Loc) (ls : Array Slot) (hR : Rp G aC b0 N H) (hS : va_S (fun q => b0 ≤ q) s.heap H locs) (hl : lv_has ls 2 [(0, .ref v0), (1, .int v1)]) (hp : owp (f_X10_loneSpanOf v0 v1 N) P) : W p l e rm_X10_loneSpanOf s m args below meth c H locs 0 0 Q (F0 m 0 ls []) := by
  have hx := X.1.1
  have hb := X.1.2.1
  unfold f_X10_loneSpanOf at hp
  obtain ⟨_, _, hp⟩ := owp_ob hp
  refine lv_aload_n hx hb dX10_loneSpanOf_0 rfl (lv_at hl 0 rfl) ?_
  obtain ⟨_, N1, e_N1, hp⟩ := owp_ob2 hp
  refine iv_X10_allAvailable (rest := []) mw_X10_76 X hR hS e_N1 hl.1 (Nat.le_of_ble_eq_true rfl) ⟨Nat.le_of_ble_eq_true rfl, Nat.le_of_ble_eq_true rfl⟩ ⟨Nat.le_of_ble_eq_true rfl, Nat.le_of_ble_eq_true rfl⟩ dX10_loneSpanOf_1 (fun H locs hR hS => ?_)
  refine lv_aload_n hx hb dX10_loneSpanOf_4 rfl (lv_at hl 0 rfl) ?_
  refine lv_iload_n hx hb dX10_loneSpanOf_5 rfl (lv_at hl 1 rfl) ?_
  obtain ⟨x3, N2, e_N2, hp⟩ := owp_ob2 hp
  refine iv_X10_spanOf (rest := []) mw_X10_79 X hR hS e_N2 hl.1 (Nat.le_of_ble_eq_true rfl) ⟨Nat.le_of_ble_eq_true rfl, Nat.le_of_ble_eq_true rfl⟩ ⟨Nat.le_of_ble_eq_true rfl, Nat.le_of_ble_eq_true rfl⟩ dX10_loneSpanOf_6 (fun H locs hR hS => ?_)
  exact hr _ _ _ _ _ _ hR hS dX10_loneSpanOf_9 hp
end
theorem ct_X10_loneSpanOf {v0 : Nat} {v1 : Int32} {N N1 : AH} {r : Int32} (h : f_X10_loneSpanOf v0 v1 N = some (r, N1)) : Ct yX10_loneSpanOf cX10_loneSpanOf 2 (some .int) rm_X10_loneSpanOf [.ref v0, .int v1] N (some (.int r)) N1 :=
  ab_met (own := RX10) (by decide +kernel) rfl (Nat.le_of_ble_eq_true rfl) (fun l G aC t b0 p e s m below meth c ls X hr hlk hnm hR hS hl => wk_X10_loneSpanOf X (RtI_met X.1.1 X.1.2.1 hr hlk) _ _ _ _ _ _ hR hS hl (owp_of h))
theorem cw_X10_loneSpanOf : Cond.code yX10_loneSpanOf cX10_loneSpanOf 2 (some .int) ∈ WT := WT_of 1171 (by decide +kernel) (by decide +kernel)
theorem iv_X10_loneSpanOf {p : Program} {l : Launch} {e : Env} {R : Room} {s : State} {m : MethodId} {args : Array Value} {below : List Frame} {meth : Method} {c : Code} {H : Heap} {locs : List Loc} {cells slots : Nat} {Q : State → Prop} {cc : ByteArray} {own : String} {nL : Nat} {G : va_G} {aC : Nat → ClassId} {t b0 : Nat} {N N1 : AH} {pc index : Nat} {ls : Array Slot} {rest : List Value} {v0 : Nat} {v1 : Int32} {r : Int32} (w1 : Cond.methodLink own index yX10_loneSpanOf ∈ WT) (X : CX cc own nL G aC t b0 p s m args c) (hR : Rp G aC b0 N H) (hS : va_S (fun q => b0 ≤ q) s.heap H locs) (h : f_X10_loneSpanOf v0 v1 N = some (r, N1)) (hls : ls.size = nL) (hW : (rest.map fun v => v.category).sum ≤ 8) (hR1 : 5 ≤ R.frames ∧ 114 ≤ R.locals) (hcs : cells + 0 ≤ R.cells ∧ slots + 0 ≤ R.slots) (hdg : decode cc pc = .ok (.invokevirtual index, 3)) (kk : ∀ (H1 : Heap) (locs1 : List Loc), Rp G aC b0 N1 H1 → va_S (fun q => b0 ≤ q) s.heap H1 locs1 → W p l e R s m args below meth c H1 locs1 cells slots Q (F0 m (pc + 3) ls (.int r :: rest))) : W p l e R s m args below meth c H locs cells slots Q (F0 m pc ls (.int v1 :: .ref v0 :: rest)) :=
  ab_callV (n := 1) (As := [.int v1]) X hR hS (ct_X10_loneSpanOf h) (ob_rc (c := 10) (N := N) (a := v0) h) (T := TX10) (k := 20) (C := RX10) rfl w1 (WT_of 1170 (by decide +kernel) (by decide +kernel)) (WT_of 57 (by decide +kernel) (by decide +kernel)) (WT_of 92 (by decide +kernel) (by decide +kernel)) cw_X10_loneSpanOf ⟨rfl, by decide +kernel, by decide +kernel, by decide +kernel⟩ rfl hls hW hR1 hcs rfl hdg kk
-- X10_levelOf
theorem dX10_levelOf_0 : decode cX10_levelOf 0 = .ok (.iconst 0, 1) := by decide +kernel
theorem dX10_levelOf_1 : decode cX10_levelOf 1 = .ok (.istore_n 2, 1) := by decide +kernel
theorem dX10_levelOf_2 : decode cX10_levelOf 2 = .ok (.iconst 0, 1) := by decide +kernel
theorem dX10_levelOf_3 : decode cX10_levelOf 3 = .ok (.istore_n 3, 1) := by decide +kernel
theorem dX10_levelOf_4 : decode cX10_levelOf 4 = .ok (.iload_n 3, 1) := by decide +kernel
theorem dX10_levelOf_5 : decode cX10_levelOf 5 = .ok (.aload_n 0, 1) := by decide +kernel
theorem dX10_levelOf_6 : decode cX10_levelOf 6 = .ok (.iload_n 1, 1) := by decide +kernel
theorem dX10_levelOf_7 : decode cX10_levelOf 7 = .ok (.iconst 5, 1) := by decide +kernel
theorem dX10_levelOf_8 : decode cX10_levelOf 8 = .ok (.invokevirtual 52, 3) := by decide +kernel
theorem dX10_levelOf_11 : decode cX10_levelOf 11 = .ok (.if_icmp .ge 27, 3) := by decide +kernel
theorem dX10_levelOf_14 : decode cX10_levelOf 14 = .ok (.iload_n 2, 1) := by decide +kernel
theorem dX10_levelOf_15 : decode cX10_levelOf 15 = .ok (.aload_n 0, 1) := by decide +kernel
theorem dX10_levelOf_16 : decode cX10_levelOf 16 = .ok (.iload_n 1, 1) := by decide +kernel
theorem dX10_levelOf_17 : decode cX10_levelOf 17 = .ok (.iload_n 3, 1) := by decide +kernel
theorem dX10_levelOf_18 : decode cX10_levelOf 18 = .ok (.iconst 2, 1) := by decide +kernel
theorem dX10_levelOf_19 : decode cX10_levelOf 19 = .ok (.invokevirtual 64, 3) := by decide +kernel
theorem dX10_levelOf_22 : decode cX10_levelOf 22 = .ok (.aload_n 0, 1) := by decide +kernel
theorem dX10_levelOf_23 : decode cX10_levelOf 23 = .ok (.iload_n 1, 1) := by decide +kernel
theorem dX10_levelOf_24 : decode cX10_levelOf 24 = .ok (.iload_n 3, 1) := by decide +kernel
theorem dX10_levelOf_25 : decode cX10_levelOf 25 = .ok (.iconst 3, 1) := by decide +kernel
theorem dX10_levelOf_26 : decode cX10_levelOf 26 = .ok (.invokevirtual 64, 3) := by decide +kernel
theorem dX10_levelOf_29 : decode cX10_levelOf 29 = .ok (.isub, 1) := by decide +kernel
theorem dX10_levelOf_30 : decode cX10_levelOf 30 = .ok (.iadd, 1) := by decide +kernel
theorem dX10_levelOf_31 : decode cX10_levelOf 31 = .ok (.istore_n 2, 1) := by decide +kernel
theorem dX10_levelOf_32 : decode cX10_levelOf 32 = .ok (.iinc 3 1, 3) := by decide +kernel
theorem dX10_levelOf_35 : decode cX10_levelOf 35 = .ok (.goto (-31), 3) := by decide +kernel
theorem dX10_levelOf_38 : decode cX10_levelOf 38 = .ok (.iload_n 2, 1) := by decide +kernel
theorem dX10_levelOf_39 : decode cX10_levelOf 39 = .ok (.ldc 71, 2) := by decide +kernel
theorem dX10_levelOf_41 : decode cX10_levelOf 41 = .ok (.if_icmp .lt 7, 3) := by decide +kernel
theorem dX10_levelOf_44 : decode cX10_levelOf 44 = .ok (.iconst 4, 1) := by decide +kernel
theorem dX10_levelOf_45 : decode cX10_levelOf 45 = .ok (.goto 36, 3) := by decide +kernel
theorem dX10_levelOf_48 : decode cX10_levelOf 48 = .ok (.iload_n 2, 1) := by decide +kernel
theorem dX10_levelOf_49 : decode cX10_levelOf 49 = .ok (.sipush 10000, 3) := by decide +kernel
theorem dX10_levelOf_52 : decode cX10_levelOf 52 = .ok (.if_icmp .lt 7, 3) := by decide +kernel
theorem dX10_levelOf_55 : decode cX10_levelOf 55 = .ok (.iconst 3, 1) := by decide +kernel
theorem dX10_levelOf_56 : decode cX10_levelOf 56 = .ok (.goto 25, 3) := by decide +kernel
theorem dX10_levelOf_59 : decode cX10_levelOf 59 = .ok (.iload_n 2, 1) := by decide +kernel
theorem dX10_levelOf_60 : decode cX10_levelOf 60 = .ok (.sipush 1000, 3) := by decide +kernel
theorem dX10_levelOf_63 : decode cX10_levelOf 63 = .ok (.if_icmp .lt 7, 3) := by decide +kernel
theorem dX10_levelOf_66 : decode cX10_levelOf 66 = .ok (.iconst 2, 1) := by decide +kernel
theorem dX10_levelOf_67 : decode cX10_levelOf 67 = .ok (.goto 14, 3) := by decide +kernel
theorem dX10_levelOf_70 : decode cX10_levelOf 70 = .ok (.iload_n 2, 1) := by decide +kernel
theorem dX10_levelOf_71 : decode cX10_levelOf 71 = .ok (.bipush 100, 2) := by decide +kernel
theorem dX10_levelOf_73 : decode cX10_levelOf 73 = .ok (.if_icmp .lt 7, 3) := by decide +kernel
theorem dX10_levelOf_76 : decode cX10_levelOf 76 = .ok (.iconst 1, 1) := by decide +kernel
theorem dX10_levelOf_77 : decode cX10_levelOf 77 = .ok (.goto 4, 3) := by decide +kernel
theorem dX10_levelOf_80 : decode cX10_levelOf 80 = .ok (.iconst 0, 1) := by decide +kernel
theorem dX10_levelOf_81 : decode cX10_levelOf 81 = .ok (.ireturn, 1) := by decide +kernel
def rm_X10_levelOf : Room := { frames := 2, cells := 0, slots := 0, locals := 45 }
section
variable {p : Program} {l : Launch} {e : Env} {s : State} {m : MethodId} {args : Array Value} {below : List Frame} {meth : Method} {c : Code} {Q : State → Prop} {G : va_G} {aC : Nat → ClassId} {t b0 : Nat}
def f_X10_levelOf_L4 (v0 : Nat) (v1 : Int32) (k38 : Int32 → AH → Option (Int32 × AH)) : Nat → Int32 → Int32 → AH → Option (Int32 × AH)
  | 0, _, _, _ => none
  | n + 1, v2, v3, N => ob2 (f_X10_of v0 v1 (5 : Int32) N) (fun x2 N1 => if x2 ≤ v3 then k38 v2 N1 else ob2 (f_X10_flowOf v0 v1 v3 (2 : Int32) N1) (fun x5 N4 => ob2 (f_X10_flowOf v0 v1 v3 (3 : Int32) N4) (fun x7 N6 => f_X10_levelOf_L4 v0 v1 k38 n (v2 + (x5 - x7)) (v3 + 1) N6)))
set_option maxHeartbeats 4000000 in
set_option maxRecDepth 100000 in
theorem w_X10_levelOf_L4 {P : Int32 × AH → Prop} (X : CX cX10_levelOf RX10 4 G aC t b0 p s m args c) (hr : RtI p l e rm_X10_levelOf s m args below meth c 0 0 Q cX10_levelOf G aC b0 P) (v0 : Nat) (v1 : Int32) {k38 : Int32 → AH → Option (Int32 × AH)}
    (hk38 : ∀ (v2 : Int32) (N : AH) (H : Heap) (locs : List Loc) (ls : Array Slot), Rp G aC b0 N H → va_S (fun q => b0 ≤ q) s.heap H locs → lv_has ls 4 [(2, .int v2)] → owp (k38 v2 N) P → W p l e rm_X10_levelOf s m args below meth c H locs 0 0 Q (F0 m 38 ls [])) :
    ∀ (n : Nat) (v2 : Int32) (v3 : Int32) (N : AH) (H : Heap) (locs : List Loc) (ls : Array Slot), Rp G aC b0 N H → va_S (fun q => b0 ≤ q) s.heap H locs → lv_has ls 4 [(0, .ref v0), (1, .int v1), (2, .int v2), (3, .int v3)] → owp (f_X10_levelOf_L4 v0 v1 k38 n v2 v3 N) P → W p l e rm_X10_levelOf s m args below meth c H locs 0 0 Q (F0 m 4 ls []) := by
  have hx := X.1.1
  have hb := X.1.2.1
  intro n
  induction n with
  | zero =>
    intro v2 v3 N H locs ls hR hS hl hp
    exact (show False from hp).elim
  | succ n ih =>
    intro v2 v3 N H locs ls hR hS hl hp
    rw [f_X10_levelOf_L4] at hp
    refine lv_iload_n hx hb dX10_levelOf_4 rfl (lv_at hl 3 rfl) ?_
    refine lv_aload_n hx hb dX10_levelOf_5 rfl (lv_at hl 0 rfl) ?_
    refine lv_iload_n hx hb dX10_levelOf_6 rfl (lv_at hl 1 rfl) ?_
    refine lv_iconst (v := (5)) hx hb dX10_levelOf_7 (by decide) ?_
    obtain ⟨x2, N1, e_N1, hp⟩ := owp_ob2 hp
    refine iv_X10_of (rest := [.int v3]) mw_X10_52 X hR hS e_N1 hl.1 (Nat.le_of_ble_eq_true rfl) ⟨Nat.le_of_ble_eq_true rfl, Nat.le_of_ble_eq_true rfl⟩ ⟨Nat.le_of_ble_eq_true rfl, Nat.le_of_ble_eq_true rfl⟩ dX10_levelOf_8 (fun H locs hR hS => ?_)
    refine lv_icmp_ge (tgt := 38) hx hb dX10_levelOf_11 (by decide) (fun k3 => ?_) (fun k3 => ?_)
    · have hp := owp_t k3 hp
      exact hk38 _ _ _ _ _ hR hS (lv_sub hl [2] rfl) hp
    · have hp := owp_f k3 hp
      refine lv_iload_n hx hb dX10_levelOf_14 rfl (lv_at hl 2 rfl) ?_
      refine lv_aload_n hx hb dX10_levelOf_15 rfl (lv_at hl 0 rfl) ?_
      refine lv_iload_n hx hb dX10_levelOf_16 rfl (lv_at hl 1 rfl) ?_
      refine lv_iload_n hx hb dX10_levelOf_17 rfl (lv_at hl 3 rfl) ?_
      refine lv_iconst (v := (2)) hx hb dX10_levelOf_18 (by decide) ?_
      obtain ⟨x5, N4, e_N4, hp⟩ := owp_ob2 hp
      refine iv_X10_flowOf (rest := [.int v2]) mw_X10_64 X hR hS e_N4 hl.1 (Nat.le_of_ble_eq_true rfl) ⟨Nat.le_of_ble_eq_true rfl, Nat.le_of_ble_eq_true rfl⟩ ⟨Nat.le_of_ble_eq_true rfl, Nat.le_of_ble_eq_true rfl⟩ dX10_levelOf_19 (fun H locs hR hS => ?_)
      refine lv_aload_n hx hb dX10_levelOf_22 rfl (lv_at hl 0 rfl) ?_
      refine lv_iload_n hx hb dX10_levelOf_23 rfl (lv_at hl 1 rfl) ?_
      refine lv_iload_n hx hb dX10_levelOf_24 rfl (lv_at hl 3 rfl) ?_
      refine lv_iconst (v := (3)) hx hb dX10_levelOf_25 (by decide) ?_
      obtain ⟨x7, N6, e_N6, hp⟩ := owp_ob2 hp
      refine iv_X10_flowOf (rest := [.int x5, .int v2]) mw_X10_64 X hR hS e_N6 hl.1 (Nat.le_of_ble_eq_true rfl) ⟨Nat.le_of_ble_eq_true rfl, Nat.le_of_ble_eq_true rfl⟩ ⟨Nat.le_of_ble_eq_true rfl, Nat.le_of_ble_eq_true rfl⟩ dX10_levelOf_26 (fun H locs hR hS => ?_)
      refine lv_isub hx hb dX10_levelOf_29 ?_
      refine lv_iadd hx hb dX10_levelOf_30 ?_
      refine lv_istore_n (lv' := [(2, .int (v2 + (x5 - x7))), (0, .ref v0), (1, .int v1), (3, .int v3)]) hx hb dX10_levelOf_31 rfl hl (by decide) rfl (fun ls hl => ?_)
      refine lv_iinc (v := v3 + 1) (lv' := [(3, .int (v3 + 1)), (2, .int (v2 + (x5 - x7))), (0, .ref v0), (1, .int v1)]) hx hb dX10_levelOf_32 hl (k := 3) rfl rfl (by decide) rfl (fun ls hl => ?_)
      refine lv_goto (tgt := 4) hx hb dX10_levelOf_35 (by decide) ?_
      exact ih _ _ _ _ _ _ hR hS (lv_sub hl [2, 3, 1, 0] rfl) hp
def f_X10_levelOf (v0 : Nat) (v1 : Int32) (N : AH) : Option (Int32 × AH) := ob (iO N v0 10) (fun _ => f_X10_levelOf_L4 v0 v1 (fun v8 N9 => if v8 < (100000 : Int32) then if v8 < (10000 : Int32) then if v8 < (1000 : Int32) then if v8 < (100 : Int32) then some ((0 : Int32), N9) else some ((1 : Int32), N9) else some ((2 : Int32), N9) else some ((3 : Int32), N9) else some ((4 : Int32), N9)) FU (0 : Int32) (0 : Int32) N)
set_option maxHeartbeats 4000000 in
set_option maxRecDepth 100000 in
theorem wk_X10_levelOf {P : Int32 × AH → Prop} (X : CX cX10_levelOf RX10 4 G aC t b0 p s m args c) (hr : RtI p l e rm_X10_levelOf s m args below meth c 0 0 Q cX10_levelOf G aC b0 P) (v0 : Nat) (v1 : Int32) (N : AH) (H : Heap) (locs : List Loc) (ls : Array Slot) (hR : Rp G aC b0 N H) (hS : va_S (fun q => b0 ≤ q) s.heap H locs) (hl : lv_has ls 4 [(0, .ref v0), (1, .int v1)]) (hp : owp (f_X10_levelOf v0 v1 N) P) : W p l e rm_X10_levelOf s m args below meth c H locs 0 0 Q (F0 m 0 ls []) := by
  have hx := X.1.1
  have hb := X.1.2.1
  unfold f_X10_levelOf at hp
  obtain ⟨_, _, hp⟩ := owp_ob hp
  refine lv_iconst (v := (0)) hx hb dX10_levelOf_0 (by decide) ?_
  refine lv_istore_n (lv' := [(2, .int (0 : Int32)), (0, .ref v0), (1, .int v1)]) hx hb dX10_levelOf_1 rfl hl (by decide) rfl (fun ls hl => ?_)
  refine lv_iconst (v := (0)) hx hb dX10_levelOf_2 (by decide) ?_
  refine lv_istore_n (lv' := [(3, .int (0 : Int32)), (2, .int (0 : Int32)), (0, .ref v0), (1, .int v1)]) hx hb dX10_levelOf_3 rfl hl (by decide) rfl (fun ls hl => ?_)
  refine w_X10_levelOf_L4 X hr _ _ (fun v8 N9 H locs ls hR hS hl hp => ?_) _ _ _ _ _ _ _ hR hS (lv_sub hl [2, 3, 1, 0] rfl) hp
  refine lv_iload_n hx hb dX10_levelOf_38 rfl (lv_at hl 0 rfl) ?_
  refine lv_ldc (own := RX10) (v := 100000) hx hb X.1.2.2.2.1 (X.1.2.2.2.2 _ (WT_of 1180 (by decide +kernel) (by decide +kernel))) dX10_levelOf_39 ?_
  refine lv_icmp_lt (tgt := 48) hx hb dX10_levelOf_41 (by decide) (fun k10 => ?_) (fun k10 => ?_)
  · have hp := owp_t k10 hp
    refine lv_iload_n hx hb dX10_levelOf_48 rfl (lv_at hl 0 rfl) ?_
    refine lv_sipush (v := (10000)) hx hb dX10_levelOf_49 (by decide) ?_
    refine lv_icmp_lt (tgt := 59) hx hb dX10_levelOf_52 (by decide) (fun k11 => ?_) (fun k11 => ?_)
    · have hp := owp_t k11 hp
      refine lv_iload_n hx hb dX10_levelOf_59 rfl (lv_at hl 0 rfl) ?_
      refine lv_sipush (v := (1000)) hx hb dX10_levelOf_60 (by decide) ?_
      refine lv_icmp_lt (tgt := 70) hx hb dX10_levelOf_63 (by decide) (fun k12 => ?_) (fun k12 => ?_)
      · have hp := owp_t k12 hp
        refine lv_iload_n hx hb dX10_levelOf_70 rfl (lv_at hl 0 rfl) ?_
        refine lv_bipush (v := (100)) hx hb dX10_levelOf_71 (by decide) ?_
        refine lv_icmp_lt (tgt := 80) hx hb dX10_levelOf_73 (by decide) (fun k13 => ?_) (fun k13 => ?_)
        · have hp := owp_t k13 hp
          refine lv_iconst (v := (0)) hx hb dX10_levelOf_80 (by decide) ?_
          exact hr _ _ _ _ _ _ hR hS dX10_levelOf_81 hp
        · have hp := owp_f k13 hp
          refine lv_iconst (v := (1)) hx hb dX10_levelOf_76 (by decide) ?_
          refine lv_goto (tgt := 81) hx hb dX10_levelOf_77 (by decide) ?_
          exact hr _ _ _ _ _ _ hR hS dX10_levelOf_81 hp
      · have hp := owp_f k12 hp
        refine lv_iconst (v := (2)) hx hb dX10_levelOf_66 (by decide) ?_
        refine lv_goto (tgt := 81) hx hb dX10_levelOf_67 (by decide) ?_
        exact hr _ _ _ _ _ _ hR hS dX10_levelOf_81 hp
    · have hp := owp_f k11 hp
      refine lv_iconst (v := (3)) hx hb dX10_levelOf_55 (by decide) ?_
      refine lv_goto (tgt := 81) hx hb dX10_levelOf_56 (by decide) ?_
      exact hr _ _ _ _ _ _ hR hS dX10_levelOf_81 hp
  · have hp := owp_f k10 hp
    refine lv_iconst (v := (4)) hx hb dX10_levelOf_44 (by decide) ?_
    refine lv_goto (tgt := 81) hx hb dX10_levelOf_45 (by decide) ?_
    exact hr _ _ _ _ _ _ hR hS dX10_levelOf_81 hp
end
theorem ct_X10_levelOf {v0 : Nat} {v1 : Int32} {N N1 : AH} {r : Int32} (h : f_X10_levelOf v0 v1 N = some (r, N1)) : Ct yX10_levelOf cX10_levelOf 4 (some .int) rm_X10_levelOf [.ref v0, .int v1] N (some (.int r)) N1 :=
  ab_met (own := RX10) (by decide +kernel) rfl (Nat.le_of_ble_eq_true rfl) (fun l G aC t b0 p e s m below meth c ls X hr hlk hnm hR hS hl => wk_X10_levelOf X (RtI_met X.1.1 X.1.2.1 hr hlk) _ _ _ _ _ _ hR hS hl (owp_of h))
theorem cw_X10_levelOf : Cond.code yX10_levelOf cX10_levelOf 4 (some .int) ∈ WT := WT_of 1197 (by decide +kernel) (by decide +kernel)
theorem iv_X10_levelOf {p : Program} {l : Launch} {e : Env} {R : Room} {s : State} {m : MethodId} {args : Array Value} {below : List Frame} {meth : Method} {c : Code} {H : Heap} {locs : List Loc} {cells slots : Nat} {Q : State → Prop} {cc : ByteArray} {own : String} {nL : Nat} {G : va_G} {aC : Nat → ClassId} {t b0 : Nat} {N N1 : AH} {pc index : Nat} {ls : Array Slot} {rest : List Value} {v0 : Nat} {v1 : Int32} {r : Int32} (w1 : Cond.methodLink own index yX10_levelOf ∈ WT) (X : CX cc own nL G aC t b0 p s m args c) (hR : Rp G aC b0 N H) (hS : va_S (fun q => b0 ≤ q) s.heap H locs) (h : f_X10_levelOf v0 v1 N = some (r, N1)) (hls : ls.size = nL) (hW : (rest.map fun v => v.category).sum ≤ 8) (hR1 : 3 ≤ R.frames ∧ 68 ≤ R.locals) (hcs : cells + 0 ≤ R.cells ∧ slots + 0 ≤ R.slots) (hdg : decode cc pc = .ok (.invokevirtual index, 3)) (kk : ∀ (H1 : Heap) (locs1 : List Loc), Rp G aC b0 N1 H1 → va_S (fun q => b0 ≤ q) s.heap H1 locs1 → W p l e R s m args below meth c H1 locs1 cells slots Q (F0 m (pc + 3) ls (.int r :: rest))) : W p l e R s m args below meth c H locs cells slots Q (F0 m pc ls (.int v1 :: .ref v0 :: rest)) :=
  ab_callV (n := 1) (As := [.int v1]) X hR hS (ct_X10_levelOf h) (ob_rc (c := 10) (N := N) (a := v0) h) (T := TX10) (k := 20) (C := RX10) rfl w1 (WT_of 1196 (by decide +kernel) (by decide +kernel)) (WT_of 63 (by decide +kernel) (by decide +kernel)) (WT_of 92 (by decide +kernel) (by decide +kernel)) cw_X10_levelOf ⟨rfl, by decide +kernel, by decide +kernel, by decide +kernel⟩ rfl hls hW hR1 hcs rfl hdg kk
-- X10_undone
theorem dX10_undone_0 : decode cX10_undone 0 = .ok (.iconst 0, 1) := by decide +kernel
theorem dX10_undone_1 : decode cX10_undone 1 = .ok (.istore_n 2, 1) := by decide +kernel
theorem dX10_undone_2 : decode cX10_undone 2 = .ok (.iconst 0, 1) := by decide +kernel
theorem dX10_undone_3 : decode cX10_undone 3 = .ok (.istore_n 3, 1) := by decide +kernel
theorem dX10_undone_4 : decode cX10_undone 4 = .ok (.iload_n 3, 1) := by decide +kernel
theorem dX10_undone_5 : decode cX10_undone 5 = .ok (.aload_n 0, 1) := by decide +kernel
theorem dX10_undone_6 : decode cX10_undone 6 = .ok (.iload_n 1, 1) := by decide +kernel
theorem dX10_undone_7 : decode cX10_undone 7 = .ok (.iconst 5, 1) := by decide +kernel
theorem dX10_undone_8 : decode cX10_undone 8 = .ok (.invokevirtual 52, 3) := by decide +kernel
theorem dX10_undone_11 : decode cX10_undone 11 = .ok (.if_icmp .ge 27, 3) := by decide +kernel
theorem dX10_undone_14 : decode cX10_undone 14 = .ok (.iload_n 2, 1) := by decide +kernel
theorem dX10_undone_15 : decode cX10_undone 15 = .ok (.aload_n 0, 1) := by decide +kernel
theorem dX10_undone_16 : decode cX10_undone 16 = .ok (.iload_n 1, 1) := by decide +kernel
theorem dX10_undone_17 : decode cX10_undone 17 = .ok (.iload_n 3, 1) := by decide +kernel
theorem dX10_undone_18 : decode cX10_undone 18 = .ok (.iconst 3, 1) := by decide +kernel
theorem dX10_undone_19 : decode cX10_undone 19 = .ok (.invokevirtual 64, 3) := by decide +kernel
theorem dX10_undone_22 : decode cX10_undone 22 = .ok (.ifCond .le 7, 3) := by decide +kernel
theorem dX10_undone_25 : decode cX10_undone 25 = .ok (.iconst 1, 1) := by decide +kernel
theorem dX10_undone_26 : decode cX10_undone 26 = .ok (.goto 4, 3) := by decide +kernel
theorem dX10_undone_29 : decode cX10_undone 29 = .ok (.iconst 0, 1) := by decide +kernel
theorem dX10_undone_30 : decode cX10_undone 30 = .ok (.iadd, 1) := by decide +kernel
theorem dX10_undone_31 : decode cX10_undone 31 = .ok (.istore_n 2, 1) := by decide +kernel
theorem dX10_undone_32 : decode cX10_undone 32 = .ok (.iinc 3 1, 3) := by decide +kernel
theorem dX10_undone_35 : decode cX10_undone 35 = .ok (.goto (-31), 3) := by decide +kernel
theorem dX10_undone_38 : decode cX10_undone 38 = .ok (.iload_n 2, 1) := by decide +kernel
theorem dX10_undone_39 : decode cX10_undone 39 = .ok (.ireturn, 1) := by decide +kernel
def rm_X10_undone : Room := { frames := 2, cells := 0, slots := 0, locals := 45 }
section
variable {p : Program} {l : Launch} {e : Env} {s : State} {m : MethodId} {args : Array Value} {below : List Frame} {meth : Method} {c : Code} {Q : State → Prop} {G : va_G} {aC : Nat → ClassId} {t b0 : Nat}
def f_X10_undone_L4 (v0 : Nat) (v1 : Int32) (k38 : Int32 → AH → Option (Int32 × AH)) : Nat → Int32 → Int32 → AH → Option (Int32 × AH)
  | 0, _, _, _ => none
  | n + 1, v2, v3, N => ob2 (f_X10_of v0 v1 (5 : Int32) N) (fun x2 N1 => if x2 ≤ v3 then k38 v2 N1 else ob2 (f_X10_flowOf v0 v1 v3 (3 : Int32) N1) (fun x5 N4 => if x5 ≤ 0 then f_X10_undone_L4 v0 v1 k38 n (v2 + (0 : Int32)) (v3 + 1) N4 else f_X10_undone_L4 v0 v1 k38 n (v2 + (1 : Int32)) (v3 + 1) N4))
set_option maxHeartbeats 4000000 in
set_option maxRecDepth 100000 in
theorem w_X10_undone_L4 {P : Int32 × AH → Prop} (X : CX cX10_undone RX10 4 G aC t b0 p s m args c) (hr : RtI p l e rm_X10_undone s m args below meth c 0 0 Q cX10_undone G aC b0 P) (v0 : Nat) (v1 : Int32) {k38 : Int32 → AH → Option (Int32 × AH)}
    (hk38 : ∀ (v2 : Int32) (N : AH) (H : Heap) (locs : List Loc) (ls : Array Slot), Rp G aC b0 N H → va_S (fun q => b0 ≤ q) s.heap H locs → lv_has ls 4 [(2, .int v2)] → owp (k38 v2 N) P → W p l e rm_X10_undone s m args below meth c H locs 0 0 Q (F0 m 38 ls [])) :
    ∀ (n : Nat) (v2 : Int32) (v3 : Int32) (N : AH) (H : Heap) (locs : List Loc) (ls : Array Slot), Rp G aC b0 N H → va_S (fun q => b0 ≤ q) s.heap H locs → lv_has ls 4 [(0, .ref v0), (1, .int v1), (2, .int v2), (3, .int v3)] → owp (f_X10_undone_L4 v0 v1 k38 n v2 v3 N) P → W p l e rm_X10_undone s m args below meth c H locs 0 0 Q (F0 m 4 ls []) := by
  have hx := X.1.1
  have hb := X.1.2.1
  intro n
  induction n with
  | zero =>
    intro v2 v3 N H locs ls hR hS hl hp
    exact (show False from hp).elim
  | succ n ih =>
    intro v2 v3 N H locs ls hR hS hl hp
    rw [f_X10_undone_L4] at hp
    refine lv_iload_n hx hb dX10_undone_4 rfl (lv_at hl 3 rfl) ?_
    refine lv_aload_n hx hb dX10_undone_5 rfl (lv_at hl 0 rfl) ?_
    refine lv_iload_n hx hb dX10_undone_6 rfl (lv_at hl 1 rfl) ?_
    refine lv_iconst (v := (5)) hx hb dX10_undone_7 (by decide) ?_
    obtain ⟨x2, N1, e_N1, hp⟩ := owp_ob2 hp
    refine iv_X10_of (rest := [.int v3]) mw_X10_52 X hR hS e_N1 hl.1 (Nat.le_of_ble_eq_true rfl) ⟨Nat.le_of_ble_eq_true rfl, Nat.le_of_ble_eq_true rfl⟩ ⟨Nat.le_of_ble_eq_true rfl, Nat.le_of_ble_eq_true rfl⟩ dX10_undone_8 (fun H locs hR hS => ?_)
    refine lv_icmp_ge (tgt := 38) hx hb dX10_undone_11 (by decide) (fun k3 => ?_) (fun k3 => ?_)
    · have hp := owp_t k3 hp
      exact hk38 _ _ _ _ _ hR hS (lv_sub hl [2] rfl) hp
    · have hp := owp_f k3 hp
      refine lv_iload_n hx hb dX10_undone_14 rfl (lv_at hl 2 rfl) ?_
      refine lv_aload_n hx hb dX10_undone_15 rfl (lv_at hl 0 rfl) ?_
      refine lv_iload_n hx hb dX10_undone_16 rfl (lv_at hl 1 rfl) ?_
      refine lv_iload_n hx hb dX10_undone_17 rfl (lv_at hl 3 rfl) ?_
      refine lv_iconst (v := (3)) hx hb dX10_undone_18 (by decide) ?_
      obtain ⟨x5, N4, e_N4, hp⟩ := owp_ob2 hp
      refine iv_X10_flowOf (rest := [.int v2]) mw_X10_64 X hR hS e_N4 hl.1 (Nat.le_of_ble_eq_true rfl) ⟨Nat.le_of_ble_eq_true rfl, Nat.le_of_ble_eq_true rfl⟩ ⟨Nat.le_of_ble_eq_true rfl, Nat.le_of_ble_eq_true rfl⟩ dX10_undone_19 (fun H locs hR hS => ?_)
      refine lv_if_le (tgt := 29) hx hb dX10_undone_22 (by decide) (fun k6 => ?_) (fun k6 => ?_)
      · have hp := owp_t k6 hp
        refine lv_iconst (v := (0)) hx hb dX10_undone_29 (by decide) ?_
        refine lv_iadd hx hb dX10_undone_30 ?_
        refine lv_istore_n (lv' := [(2, .int (v2 + (0 : Int32))), (0, .ref v0), (1, .int v1), (3, .int v3)]) hx hb dX10_undone_31 rfl hl (by decide) rfl (fun ls hl => ?_)
        refine lv_iinc (v := v3 + 1) (lv' := [(3, .int (v3 + 1)), (2, .int (v2 + (0 : Int32))), (0, .ref v0), (1, .int v1)]) hx hb dX10_undone_32 hl (k := 3) rfl rfl (by decide) rfl (fun ls hl => ?_)
        refine lv_goto (tgt := 4) hx hb dX10_undone_35 (by decide) ?_
        exact ih _ _ _ _ _ _ hR hS (lv_sub hl [2, 3, 1, 0] rfl) hp
      · have hp := owp_f k6 hp
        refine lv_iconst (v := (1)) hx hb dX10_undone_25 (by decide) ?_
        refine lv_goto (tgt := 30) hx hb dX10_undone_26 (by decide) ?_
        refine lv_iadd hx hb dX10_undone_30 ?_
        refine lv_istore_n (lv' := [(2, .int (v2 + (1 : Int32))), (0, .ref v0), (1, .int v1), (3, .int v3)]) hx hb dX10_undone_31 rfl hl (by decide) rfl (fun ls hl => ?_)
        refine lv_iinc (v := v3 + 1) (lv' := [(3, .int (v3 + 1)), (2, .int (v2 + (1 : Int32))), (0, .ref v0), (1, .int v1)]) hx hb dX10_undone_32 hl (k := 3) rfl rfl (by decide) rfl (fun ls hl => ?_)
        refine lv_goto (tgt := 4) hx hb dX10_undone_35 (by decide) ?_
        exact ih _ _ _ _ _ _ hR hS (lv_sub hl [2, 3, 1, 0] rfl) hp
def f_X10_undone (v0 : Nat) (v1 : Int32) (N : AH) : Option (Int32 × AH) := ob (iO N v0 10) (fun _ => f_X10_undone_L4 v0 v1 (fun v7 N8 => some (v7, N8)) FU (0 : Int32) (0 : Int32) N)
set_option maxHeartbeats 4000000 in
set_option maxRecDepth 100000 in
theorem wk_X10_undone {P : Int32 × AH → Prop} (X : CX cX10_undone RX10 4 G aC t b0 p s m args c) (hr : RtI p l e rm_X10_undone s m args below meth c 0 0 Q cX10_undone G aC b0 P) (v0 : Nat) (v1 : Int32) (N : AH) (H : Heap) (locs : List Loc) (ls : Array Slot) (hR : Rp G aC b0 N H) (hS : va_S (fun q => b0 ≤ q) s.heap H locs) (hl : lv_has ls 4 [(0, .ref v0), (1, .int v1)]) (hp : owp (f_X10_undone v0 v1 N) P) : W p l e rm_X10_undone s m args below meth c H locs 0 0 Q (F0 m 0 ls []) := by
  have hx := X.1.1
  have hb := X.1.2.1
  unfold f_X10_undone at hp
  obtain ⟨_, _, hp⟩ := owp_ob hp
  refine lv_iconst (v := (0)) hx hb dX10_undone_0 (by decide) ?_
  refine lv_istore_n (lv' := [(2, .int (0 : Int32)), (0, .ref v0), (1, .int v1)]) hx hb dX10_undone_1 rfl hl (by decide) rfl (fun ls hl => ?_)
  refine lv_iconst (v := (0)) hx hb dX10_undone_2 (by decide) ?_
  refine lv_istore_n (lv' := [(3, .int (0 : Int32)), (2, .int (0 : Int32)), (0, .ref v0), (1, .int v1)]) hx hb dX10_undone_3 rfl hl (by decide) rfl (fun ls hl => ?_)
  refine w_X10_undone_L4 X hr _ _ (fun v7 N8 H locs ls hR hS hl hp => ?_) _ _ _ _ _ _ _ hR hS (lv_sub hl [2, 3, 1, 0] rfl) hp
  refine lv_iload_n hx hb dX10_undone_38 rfl (lv_at hl 0 rfl) ?_
  exact hr _ _ _ _ _ _ hR hS dX10_undone_39 hp
end
theorem ct_X10_undone {v0 : Nat} {v1 : Int32} {N N1 : AH} {r : Int32} (h : f_X10_undone v0 v1 N = some (r, N1)) : Ct yX10_undone cX10_undone 4 (some .int) rm_X10_undone [.ref v0, .int v1] N (some (.int r)) N1 :=
  ab_met (own := RX10) (by decide +kernel) rfl (Nat.le_of_ble_eq_true rfl) (fun l G aC t b0 p e s m below meth c ls X hr hlk hnm hR hS hl => wk_X10_undone X (RtI_met X.1.1 X.1.2.1 hr hlk) _ _ _ _ _ _ hR hS hl (owp_of h))
theorem cw_X10_undone : Cond.code yX10_undone cX10_undone 4 (some .int) ∈ WT := WT_of 1193 (by decide +kernel) (by decide +kernel)
theorem iv_X10_undone {p : Program} {l : Launch} {e : Env} {R : Room} {s : State} {m : MethodId} {args : Array Value} {below : List Frame} {meth : Method} {c : Code} {H : Heap} {locs : List Loc} {cells slots : Nat} {Q : State → Prop} {cc : ByteArray} {own : String} {nL : Nat} {G : va_G} {aC : Nat → ClassId} {t b0 : Nat} {N N1 : AH} {pc index : Nat} {ls : Array Slot} {rest : List Value} {v0 : Nat} {v1 : Int32} {r : Int32} (w1 : Cond.methodLink own index yX10_undone ∈ WT) (X : CX cc own nL G aC t b0 p s m args c) (hR : Rp G aC b0 N H) (hS : va_S (fun q => b0 ≤ q) s.heap H locs) (h : f_X10_undone v0 v1 N = some (r, N1)) (hls : ls.size = nL) (hW : (rest.map fun v => v.category).sum ≤ 8) (hR1 : 3 ≤ R.frames ∧ 68 ≤ R.locals) (hcs : cells + 0 ≤ R.cells ∧ slots + 0 ≤ R.slots) (hdg : decode cc pc = .ok (.invokevirtual index, 3)) (kk : ∀ (H1 : Heap) (locs1 : List Loc), Rp G aC b0 N1 H1 → va_S (fun q => b0 ≤ q) s.heap H1 locs1 → W p l e R s m args below meth c H1 locs1 cells slots Q (F0 m (pc + 3) ls (.int r :: rest))) : W p l e R s m args below meth c H locs cells slots Q (F0 m pc ls (.int v1 :: .ref v0 :: rest)) :=
  ab_callV (n := 1) (As := [.int v1]) X hR hS (ct_X10_undone h) (ob_rc (c := 10) (N := N) (a := v0) h) (T := TX10) (k := 20) (C := RX10) rfl w1 (WT_of 1192 (by decide +kernel) (by decide +kernel)) (WT_of 62 (by decide +kernel) (by decide +kernel)) (WT_of 92 (by decide +kernel) (by decide +kernel)) cw_X10_undone ⟨rfl, by decide +kernel, by decide +kernel, by decide +kernel⟩ rfl hls hW hR1 hcs rfl hdg kk
-- X10_keyOf
theorem mw_X10_83 : Cond.methodLink RX10 83 yX10_loneSpanOf ∈ WT := WT_of 1168 (by decide +kernel) (by decide +kernel)
theorem mw_X10_88 : Cond.methodLink RX10 88 yX10_restOf ∈ WT := WT_of 1186 (by decide +kernel) (by decide +kernel)
theorem mw_X10_91 : Cond.methodLink RX10 91 yX10_undone ∈ WT := WT_of 1190 (by decide +kernel) (by decide +kernel)
theorem mw_X10_94 : Cond.methodLink RX10 94 yX10_levelOf ∈ WT := WT_of 1194 (by decide +kernel) (by decide +kernel)
theorem dX10_keyOf_0 : decode cX10_keyOf 0 = .ok (.aload_n 0, 1) := by decide +kernel
theorem dX10_keyOf_1 : decode cX10_keyOf 1 = .ok (.getfield 7, 3) := by decide +kernel
theorem dX10_keyOf_4 : decode cX10_keyOf 4 = .ok (.iconst 1, 1) := by decide +kernel
theorem dX10_keyOf_5 : decode cX10_keyOf 5 = .ok (.iaload, 1) := by decide +kernel
theorem dX10_keyOf_6 : decode cX10_keyOf 6 = .ok (.istore_n 2, 1) := by decide +kernel
theorem dX10_keyOf_7 : decode cX10_keyOf 7 = .ok (.iload_n 2, 1) := by decide +kernel
theorem dX10_keyOf_8 : decode cX10_keyOf 8 = .ok (.ifCond .eq 8, 3) := by decide +kernel
theorem dX10_keyOf_11 : decode cX10_keyOf 11 = .ok (.iload_n 2, 1) := by decide +kernel
theorem dX10_keyOf_12 : decode cX10_keyOf 12 = .ok (.iconst 5, 1) := by decide +kernel
theorem dX10_keyOf_13 : decode cX10_keyOf 13 = .ok (.if_icmp .ne 23, 3) := by decide +kernel
theorem dX10_keyOf_16 : decode cX10_keyOf 16 = .ok (.aload_n 0, 1) := by decide +kernel
theorem dX10_keyOf_17 : decode cX10_keyOf 17 = .ok (.iload_n 1, 1) := by decide +kernel
theorem dX10_keyOf_18 : decode cX10_keyOf 18 = .ok (.invokevirtual 83, 3) := by decide +kernel
theorem dX10_keyOf_21 : decode cX10_keyOf 21 = .ok (.istore_n 3, 1) := by decide +kernel
theorem dX10_keyOf_22 : decode cX10_keyOf 22 = .ok (.iload_n 3, 1) := by decide +kernel
theorem dX10_keyOf_23 : decode cX10_keyOf 23 = .ok (.iconst (-1), 1) := by decide +kernel
theorem dX10_keyOf_24 : decode cX10_keyOf 24 = .ok (.if_icmp .ne 9, 3) := by decide +kernel
theorem dX10_keyOf_27 : decode cX10_keyOf 27 = .ok (.ldc2_w 86, 3) := by decide +kernel
theorem dX10_keyOf_30 : decode cX10_keyOf 30 = .ok (.goto 5, 3) := by decide +kernel
theorem dX10_keyOf_33 : decode cX10_keyOf 33 = .ok (.iload_n 3, 1) := by decide +kernel
theorem dX10_keyOf_34 : decode cX10_keyOf 34 = .ok (.i2l, 1) := by decide +kernel
theorem dX10_keyOf_35 : decode cX10_keyOf 35 = .ok (.lreturn, 1) := by decide +kernel
theorem dX10_keyOf_36 : decode cX10_keyOf 36 = .ok (.iload_n 2, 1) := by decide +kernel
theorem dX10_keyOf_37 : decode cX10_keyOf 37 = .ok (.iconst 1, 1) := by decide +kernel
theorem dX10_keyOf_38 : decode cX10_keyOf 38 = .ok (.if_icmp .ne 13, 3) := by decide +kernel
theorem dX10_keyOf_41 : decode cX10_keyOf 41 = .ok (.aload_n 0, 1) := by decide +kernel
theorem dX10_keyOf_42 : decode cX10_keyOf 42 = .ok (.iload_n 1, 1) := by decide +kernel
theorem dX10_keyOf_43 : decode cX10_keyOf 43 = .ok (.iconst 0, 1) := by decide +kernel
theorem dX10_keyOf_44 : decode cX10_keyOf 44 = .ok (.invokevirtual 52, 3) := by decide +kernel
theorem dX10_keyOf_47 : decode cX10_keyOf 47 = .ok (.i2l, 1) := by decide +kernel
theorem dX10_keyOf_48 : decode cX10_keyOf 48 = .ok (.goto 37, 3) := by decide +kernel
theorem dX10_keyOf_51 : decode cX10_keyOf 51 = .ok (.iload_n 2, 1) := by decide +kernel
theorem dX10_keyOf_52 : decode cX10_keyOf 52 = .ok (.iconst 2, 1) := by decide +kernel
theorem dX10_keyOf_53 : decode cX10_keyOf 53 = .ok (.if_icmp .ne 12, 3) := by decide +kernel
theorem dX10_keyOf_56 : decode cX10_keyOf 56 = .ok (.aload_n 0, 1) := by decide +kernel
theorem dX10_keyOf_57 : decode cX10_keyOf 57 = .ok (.iload_n 1, 1) := by decide +kernel
theorem dX10_keyOf_58 : decode cX10_keyOf 58 = .ok (.invokevirtual 88, 3) := by decide +kernel
theorem dX10_keyOf_61 : decode cX10_keyOf 61 = .ok (.i2l, 1) := by decide +kernel
theorem dX10_keyOf_62 : decode cX10_keyOf 62 = .ok (.goto 23, 3) := by decide +kernel
theorem dX10_keyOf_65 : decode cX10_keyOf 65 = .ok (.iload_n 2, 1) := by decide +kernel
theorem dX10_keyOf_66 : decode cX10_keyOf 66 = .ok (.iconst 3, 1) := by decide +kernel
theorem dX10_keyOf_67 : decode cX10_keyOf 67 = .ok (.if_icmp .ne 12, 3) := by decide +kernel
theorem dX10_keyOf_70 : decode cX10_keyOf 70 = .ok (.aload_n 0, 1) := by decide +kernel
theorem dX10_keyOf_71 : decode cX10_keyOf 71 = .ok (.iload_n 1, 1) := by decide +kernel
theorem dX10_keyOf_72 : decode cX10_keyOf 72 = .ok (.invokevirtual 91, 3) := by decide +kernel
theorem dX10_keyOf_75 : decode cX10_keyOf 75 = .ok (.i2l, 1) := by decide +kernel
theorem dX10_keyOf_76 : decode cX10_keyOf 76 = .ok (.goto 9, 3) := by decide +kernel
theorem dX10_keyOf_79 : decode cX10_keyOf 79 = .ok (.aload_n 0, 1) := by decide +kernel
theorem dX10_keyOf_80 : decode cX10_keyOf 80 = .ok (.iload_n 1, 1) := by decide +kernel
theorem dX10_keyOf_81 : decode cX10_keyOf 81 = .ok (.invokevirtual 94, 3) := by decide +kernel
theorem dX10_keyOf_84 : decode cX10_keyOf 84 = .ok (.i2l, 1) := by decide +kernel
theorem dX10_keyOf_85 : decode cX10_keyOf 85 = .ok (.lreturn, 1) := by decide +kernel
def rm_X10_keyOf : Room := { frames := 5, cells := 0, slots := 0, locals := 114 }
section
variable {p : Program} {l : Launch} {e : Env} {s : State} {m : MethodId} {args : Array Value} {below : List Frame} {meth : Method} {c : Code} {Q : State → Prop} {G : va_G} {aC : Nat → ClassId} {t b0 : Nat}
def f_X10_keyOf_J16 (v0 : Nat) (v1 : Int32) (N : AH) : Option (Int64 × AH) := ob2 (f_X10_loneSpanOf v0 v1 N) (fun x5 N4 => if ¬ x5 = (-1 : Int32) then some (Int32.toInt64 x5, N4) else some ((1000000000 : Int64), N4))
set_option maxHeartbeats 4000000 in
set_option maxRecDepth 100000 in
theorem w_X10_keyOf_J16 {P : Int64 × AH → Prop} (X : CX cX10_keyOf RX10 4 G aC t b0 p s m args c) (hr : RtJ p l e rm_X10_keyOf s m args below meth c 0 0 Q cX10_keyOf G aC b0 P) (v0 : Nat) (v1 : Int32) (N : AH) (H : Heap) (locs : List Loc) (ls : Array Slot) (hR : Rp G aC b0 N H) (hS : va_S (fun q => b0 ≤ q) s.heap H locs) (hl : lv_has ls 4 [(0, .ref v0), (1, .int v1)]) (hp : owp (f_X10_keyOf_J16 v0 v1 N) P) : W p l e rm_X10_keyOf s m args below meth c H locs 0 0 Q (F0 m 16 ls []) := by
  have hx := X.1.1
  have hb := X.1.2.1
  unfold f_X10_keyOf_J16 at hp
  refine lv_aload_n hx hb dX10_keyOf_16 rfl (lv_at hl 0 rfl) ?_
  refine lv_iload_n hx hb dX10_keyOf_17 rfl (lv_at hl 1 rfl) ?_
  obtain ⟨x5, N4, e_N4, hp⟩ := owp_ob2 hp
  refine iv_X10_loneSpanOf (rest := []) mw_X10_83 X hR hS e_N4 hl.1 (Nat.le_of_ble_eq_true rfl) ⟨Nat.le_of_ble_eq_true rfl, Nat.le_of_ble_eq_true rfl⟩ ⟨Nat.le_of_ble_eq_true rfl, Nat.le_of_ble_eq_true rfl⟩ dX10_keyOf_18 (fun H locs hR hS => ?_)
  refine lv_istore_n (lv' := [(3, .int x5), (0, .ref v0), (1, .int v1)]) hx hb dX10_keyOf_21 rfl hl (by decide) rfl (fun ls hl => ?_)
  refine lv_iload_n hx hb dX10_keyOf_22 rfl (lv_at hl 0 rfl) ?_
  refine lv_iconst (v := (-1)) hx hb dX10_keyOf_23 (by decide) ?_
  refine lv_icmp_ne (tgt := 33) hx hb dX10_keyOf_24 (by decide) (fun k6 => ?_) (fun k6 => ?_)
  · have hp := owp_t k6 hp
    refine lv_iload_n hx hb dX10_keyOf_33 rfl (lv_at hl 0 rfl) ?_
    refine lv_i2l (v := Int32.toInt64 x5) hx hb dX10_keyOf_34 rfl ?_
    exact hr _ _ _ _ _ _ hR hS dX10_keyOf_35 hp
  · have hp := owp_f (fun q => q k6) hp
    refine lv_ldc2 (own := RX10) (v := 1000000000) hx hb X.1.2.2.2.1 (X.1.2.2.2.2 _ (WT_of 1185 (by decide +kernel) (by decide +kernel))) dX10_keyOf_27 ?_
    refine lv_goto (tgt := 35) hx hb dX10_keyOf_30 (by decide) ?_
    exact hr _ _ _ _ _ _ hR hS dX10_keyOf_35 hp
def f_X10_keyOf (v0 : Nat) (v1 : Int32) (N : AH) : Option (Int64 × AH) := ob (iO N v0 10) (fun _ => ob (hR N v0 10 0) (fun x1 => ob (aI N x1 (1 : Int32)) (fun x2 => if x2 = 0 then f_X10_keyOf_J16 v0 v1 N else if ¬ x2 = (5 : Int32) then if ¬ x2 = (1 : Int32) then if ¬ x2 = (2 : Int32) then if ¬ x2 = (3 : Int32) then ob2 (f_X10_levelOf v0 v1 N) (fun x12 N11 => some (Int32.toInt64 x12, N11)) else ob2 (f_X10_undone v0 v1 N) (fun x14 N13 => some (Int32.toInt64 x14, N13)) else ob2 (f_X10_restOf v0 v1 N) (fun x16 N15 => some (Int32.toInt64 x16, N15)) else ob2 (f_X10_of v0 v1 (0 : Int32) N) (fun x18 N17 => some (Int32.toInt64 x18, N17)) else f_X10_keyOf_J16 v0 v1 N)))
set_option maxHeartbeats 4000000 in
set_option maxRecDepth 100000 in
theorem wk_X10_keyOf {P : Int64 × AH → Prop} (X : CX cX10_keyOf RX10 4 G aC t b0 p s m args c) (hr : RtJ p l e rm_X10_keyOf s m args below meth c 0 0 Q cX10_keyOf G aC b0 P) (v0 : Nat) (v1 : Int32) (N : AH) (H : Heap) (locs : List Loc) (ls : Array Slot) (hR : Rp G aC b0 N H) (hS : va_S (fun q => b0 ≤ q) s.heap H locs) (hl : lv_has ls 4 [(0, .ref v0), (1, .int v1)]) (hp : owp (f_X10_keyOf v0 v1 N) P) : W p l e rm_X10_keyOf s m args below meth c H locs 0 0 Q (F0 m 0 ls []) := by
  have hx := X.1.1
  have hb := X.1.2.1
  unfold f_X10_keyOf at hp
  obtain ⟨_, _, hp⟩ := owp_ob hp
  refine lv_aload_n hx hb dX10_keyOf_0 rfl (lv_at hl 0 rfl) ?_
  obtain ⟨x1, e_x1, hp⟩ := owp_ob hp
  refine gf_X10_7 X hR e_x1 dX10_keyOf_1 ?_
  refine lv_iconst (v := (1)) hx hb dX10_keyOf_4 (by decide) ?_
  obtain ⟨x2, e_x2, hp⟩ := owp_ob hp
  refine ab_iald X hR e_x2 dX10_keyOf_5 ?_
  refine lv_istore_n (lv' := [(2, .int x2), (0, .ref v0), (1, .int v1)]) hx hb dX10_keyOf_6 rfl hl (by decide) rfl (fun ls hl => ?_)
  refine lv_iload_n hx hb dX10_keyOf_7 rfl (lv_at hl 0 rfl) ?_
  refine lv_if_eq (tgt := 16) hx hb dX10_keyOf_8 (by decide) (fun k3 => ?_) (fun k3 => ?_)
  · have hp := owp_t k3 hp
    exact w_X10_keyOf_J16 X hr _ _ _ _ _ _ hR hS (lv_sub hl [1, 2] rfl) hp
  · have hp := owp_f k3 hp
    refine lv_iload_n hx hb dX10_keyOf_11 rfl (lv_at hl 0 rfl) ?_
    refine lv_iconst (v := (5)) hx hb dX10_keyOf_12 (by decide) ?_
    refine lv_icmp_ne (tgt := 36) hx hb dX10_keyOf_13 (by decide) (fun k7 => ?_) (fun k7 => ?_)
    · have hp := owp_t k7 hp
      refine lv_iload_n hx hb dX10_keyOf_36 rfl (lv_at hl 0 rfl) ?_
      refine lv_iconst (v := (1)) hx hb dX10_keyOf_37 (by decide) ?_
      refine lv_icmp_ne (tgt := 51) hx hb dX10_keyOf_38 (by decide) (fun k8 => ?_) (fun k8 => ?_)
      · have hp := owp_t k8 hp
        refine lv_iload_n hx hb dX10_keyOf_51 rfl (lv_at hl 0 rfl) ?_
        refine lv_iconst (v := (2)) hx hb dX10_keyOf_52 (by decide) ?_
        refine lv_icmp_ne (tgt := 65) hx hb dX10_keyOf_53 (by decide) (fun k9 => ?_) (fun k9 => ?_)
        · have hp := owp_t k9 hp
          refine lv_iload_n hx hb dX10_keyOf_65 rfl (lv_at hl 0 rfl) ?_
          refine lv_iconst (v := (3)) hx hb dX10_keyOf_66 (by decide) ?_
          refine lv_icmp_ne (tgt := 79) hx hb dX10_keyOf_67 (by decide) (fun k10 => ?_) (fun k10 => ?_)
          · have hp := owp_t k10 hp
            refine lv_aload_n hx hb dX10_keyOf_79 rfl (lv_at hl 1 rfl) ?_
            refine lv_iload_n hx hb dX10_keyOf_80 rfl (lv_at hl 2 rfl) ?_
            obtain ⟨x12, N11, e_N11, hp⟩ := owp_ob2 hp
            refine iv_X10_levelOf (rest := []) mw_X10_94 X hR hS e_N11 hl.1 (Nat.le_of_ble_eq_true rfl) ⟨Nat.le_of_ble_eq_true rfl, Nat.le_of_ble_eq_true rfl⟩ ⟨Nat.le_of_ble_eq_true rfl, Nat.le_of_ble_eq_true rfl⟩ dX10_keyOf_81 (fun H locs hR hS => ?_)
            refine lv_i2l (v := Int32.toInt64 x12) hx hb dX10_keyOf_84 rfl ?_
            exact hr _ _ _ _ _ _ hR hS dX10_keyOf_85 hp
          · have hp := owp_f (fun q => q k10) hp
            refine lv_aload_n hx hb dX10_keyOf_70 rfl (lv_at hl 1 rfl) ?_
            refine lv_iload_n hx hb dX10_keyOf_71 rfl (lv_at hl 2 rfl) ?_
            obtain ⟨x14, N13, e_N13, hp⟩ := owp_ob2 hp
            refine iv_X10_undone (rest := []) mw_X10_91 X hR hS e_N13 hl.1 (Nat.le_of_ble_eq_true rfl) ⟨Nat.le_of_ble_eq_true rfl, Nat.le_of_ble_eq_true rfl⟩ ⟨Nat.le_of_ble_eq_true rfl, Nat.le_of_ble_eq_true rfl⟩ dX10_keyOf_72 (fun H locs hR hS => ?_)
            refine lv_i2l (v := Int32.toInt64 x14) hx hb dX10_keyOf_75 rfl ?_
            refine lv_goto (tgt := 85) hx hb dX10_keyOf_76 (by decide) ?_
            exact hr _ _ _ _ _ _ hR hS dX10_keyOf_85 hp
        · have hp := owp_f (fun q => q k9) hp
          refine lv_aload_n hx hb dX10_keyOf_56 rfl (lv_at hl 1 rfl) ?_
          refine lv_iload_n hx hb dX10_keyOf_57 rfl (lv_at hl 2 rfl) ?_
          obtain ⟨x16, N15, e_N15, hp⟩ := owp_ob2 hp
          refine iv_X10_restOf (rest := []) mw_X10_88 X hR hS e_N15 hl.1 (Nat.le_of_ble_eq_true rfl) ⟨Nat.le_of_ble_eq_true rfl, Nat.le_of_ble_eq_true rfl⟩ ⟨Nat.le_of_ble_eq_true rfl, Nat.le_of_ble_eq_true rfl⟩ dX10_keyOf_58 (fun H locs hR hS => ?_)
          refine lv_i2l (v := Int32.toInt64 x16) hx hb dX10_keyOf_61 rfl ?_
          refine lv_goto (tgt := 85) hx hb dX10_keyOf_62 (by decide) ?_
          exact hr _ _ _ _ _ _ hR hS dX10_keyOf_85 hp
      · have hp := owp_f (fun q => q k8) hp
        refine lv_aload_n hx hb dX10_keyOf_41 rfl (lv_at hl 1 rfl) ?_
        refine lv_iload_n hx hb dX10_keyOf_42 rfl (lv_at hl 2 rfl) ?_
        refine lv_iconst (v := (0)) hx hb dX10_keyOf_43 (by decide) ?_
        obtain ⟨x18, N17, e_N17, hp⟩ := owp_ob2 hp
        refine iv_X10_of (rest := []) mw_X10_52 X hR hS e_N17 hl.1 (Nat.le_of_ble_eq_true rfl) ⟨Nat.le_of_ble_eq_true rfl, Nat.le_of_ble_eq_true rfl⟩ ⟨Nat.le_of_ble_eq_true rfl, Nat.le_of_ble_eq_true rfl⟩ dX10_keyOf_44 (fun H locs hR hS => ?_)
        refine lv_i2l (v := Int32.toInt64 x18) hx hb dX10_keyOf_47 rfl ?_
        refine lv_goto (tgt := 85) hx hb dX10_keyOf_48 (by decide) ?_
        exact hr _ _ _ _ _ _ hR hS dX10_keyOf_85 hp
    · have hp := owp_f (fun q => q k7) hp
      exact w_X10_keyOf_J16 X hr _ _ _ _ _ _ hR hS (lv_sub hl [1, 2] rfl) hp
end
theorem ct_X10_keyOf {v0 : Nat} {v1 : Int32} {N N1 : AH} {r : Int64} (h : f_X10_keyOf v0 v1 N = some (r, N1)) : Ct yX10_keyOf cX10_keyOf 4 (some .long) rm_X10_keyOf [.ref v0, .int v1] N (some (.long r)) N1 :=
  ab_met (own := RX10) (by decide +kernel) rfl (Nat.le_of_ble_eq_true rfl) (fun l G aC t b0 p e s m below meth c ls X hr hlk hnm hR hS hl => wk_X10_keyOf X (RtJ_met X.1.1 X.1.2.1 hr hlk) _ _ _ _ _ _ hR hS hl (owp_of h))
theorem cw_X10_keyOf : Cond.code yX10_keyOf cX10_keyOf 4 (some .long) ∈ WT := WT_of 1167 (by decide +kernel) (by decide +kernel)
theorem iv_X10_keyOf {p : Program} {l : Launch} {e : Env} {R : Room} {s : State} {m : MethodId} {args : Array Value} {below : List Frame} {meth : Method} {c : Code} {H : Heap} {locs : List Loc} {cells slots : Nat} {Q : State → Prop} {cc : ByteArray} {own : String} {nL : Nat} {G : va_G} {aC : Nat → ClassId} {t b0 : Nat} {N N1 : AH} {pc index : Nat} {ls : Array Slot} {rest : List Value} {v0 : Nat} {v1 : Int32} {r : Int64} (w1 : Cond.methodLink own index yX10_keyOf ∈ WT) (X : CX cc own nL G aC t b0 p s m args c) (hR : Rp G aC b0 N H) (hS : va_S (fun q => b0 ≤ q) s.heap H locs) (h : f_X10_keyOf v0 v1 N = some (r, N1)) (hls : ls.size = nL) (hW : (rest.map fun v => v.category).sum ≤ 8) (hR1 : 6 ≤ R.frames ∧ 137 ≤ R.locals) (hcs : cells + 0 ≤ R.cells ∧ slots + 0 ≤ R.slots) (hdg : decode cc pc = .ok (.invokevirtual index, 3)) (kk : ∀ (H1 : Heap) (locs1 : List Loc), Rp G aC b0 N1 H1 → va_S (fun q => b0 ≤ q) s.heap H1 locs1 → W p l e R s m args below meth c H1 locs1 cells slots Q (F0 m (pc + 3) ls (.long r :: rest))) : W p l e R s m args below meth c H locs cells slots Q (F0 m pc ls (.int v1 :: .ref v0 :: rest)) :=
  ab_callV (n := 1) (As := [.int v1]) X hR hS (ct_X10_keyOf h) (ob_rc (c := 10) (N := N) (a := v0) h) (T := TX10) (k := 20) (C := RX10) rfl w1 (WT_of 1166 (by decide +kernel) (by decide +kernel)) (WT_of 56 (by decide +kernel) (by decide +kernel)) (WT_of 92 (by decide +kernel) (by decide +kernel)) cw_X10_keyOf ⟨rfl, by decide +kernel, by decide +kernel, by decide +kernel⟩ rfl hls hW hR1 hcs rfl hdg kk
-- X10_hasDeadline
theorem dX10_hasDeadline_0 : decode cX10_hasDeadline 0 = .ok (.aload_n 0, 1) := by decide +kernel
theorem dX10_hasDeadline_1 : decode cX10_hasDeadline 1 = .ok (.getfield 7, 3) := by decide +kernel
theorem dX10_hasDeadline_4 : decode cX10_hasDeadline 4 = .ok (.iconst 3, 1) := by decide +kernel
theorem dX10_hasDeadline_5 : decode cX10_hasDeadline 5 = .ok (.iaload, 1) := by decide +kernel
theorem dX10_hasDeadline_6 : decode cX10_hasDeadline 6 = .ok (.iconst 1, 1) := by decide +kernel
theorem dX10_hasDeadline_7 : decode cX10_hasDeadline 7 = .ok (.if_icmp .ne 16, 3) := by decide +kernel
theorem dX10_hasDeadline_10 : decode cX10_hasDeadline 10 = .ok (.aload_n 0, 1) := by decide +kernel
theorem dX10_hasDeadline_11 : decode cX10_hasDeadline 11 = .ok (.iload_n 1, 1) := by decide +kernel
theorem dX10_hasDeadline_12 : decode cX10_hasDeadline 12 = .ok (.iconst 2, 1) := by decide +kernel
theorem dX10_hasDeadline_13 : decode cX10_hasDeadline 13 = .ok (.invokevirtual 52, 3) := by decide +kernel
theorem dX10_hasDeadline_16 : decode cX10_hasDeadline 16 = .ok (.ifCond .le 7, 3) := by decide +kernel
theorem dX10_hasDeadline_19 : decode cX10_hasDeadline 19 = .ok (.iconst 1, 1) := by decide +kernel
theorem dX10_hasDeadline_20 : decode cX10_hasDeadline 20 = .ok (.goto 4, 3) := by decide +kernel
theorem dX10_hasDeadline_23 : decode cX10_hasDeadline 23 = .ok (.iconst 0, 1) := by decide +kernel
theorem dX10_hasDeadline_24 : decode cX10_hasDeadline 24 = .ok (.ireturn, 1) := by decide +kernel
def rm_X10_hasDeadline : Room := { frames := 1, cells := 0, slots := 0, locals := 22 }
section
variable {p : Program} {l : Launch} {e : Env} {s : State} {m : MethodId} {args : Array Value} {below : List Frame} {meth : Method} {c : Code} {Q : State → Prop} {G : va_G} {aC : Nat → ClassId} {t b0 : Nat}
def f_X10_hasDeadline (v0 : Nat) (v1 : Int32) (N : AH) : Option (Int32 × AH) := ob (iO N v0 10) (fun _ => ob (hR N v0 10 0) (fun x1 => ob (aI N x1 (3 : Int32)) (fun x2 => if ¬ x2 = (1 : Int32) then some ((0 : Int32), N) else ob2 (f_X10_of v0 v1 (2 : Int32) N) (fun x5 N4 => if x5 ≤ 0 then some ((0 : Int32), N4) else some ((1 : Int32), N4)))))
set_option maxHeartbeats 4000000 in
set_option maxRecDepth 100000 in
theorem wk_X10_hasDeadline {P : Int32 × AH → Prop} (X : CX cX10_hasDeadline RX10 2 G aC t b0 p s m args c) (hr : RtZ p l e rm_X10_hasDeadline s m args below meth c 0 0 Q cX10_hasDeadline G aC b0 P) (v0 : Nat) (v1 : Int32) (N : AH) (H : Heap) (locs : List Loc) (ls : Array Slot) (hR : Rp G aC b0 N H) (hS : va_S (fun q => b0 ≤ q) s.heap H locs) (hl : lv_has ls 2 [(0, .ref v0), (1, .int v1)]) (hp : owp (f_X10_hasDeadline v0 v1 N) P) : W p l e rm_X10_hasDeadline s m args below meth c H locs 0 0 Q (F0 m 0 ls []) := by
  have hx := X.1.1
  have hb := X.1.2.1
  unfold f_X10_hasDeadline at hp
  obtain ⟨_, _, hp⟩ := owp_ob hp
  refine lv_aload_n hx hb dX10_hasDeadline_0 rfl (lv_at hl 0 rfl) ?_
  obtain ⟨x1, e_x1, hp⟩ := owp_ob hp
  refine gf_X10_7 X hR e_x1 dX10_hasDeadline_1 ?_
  refine lv_iconst (v := (3)) hx hb dX10_hasDeadline_4 (by decide) ?_
  obtain ⟨x2, e_x2, hp⟩ := owp_ob hp
  refine ab_iald X hR e_x2 dX10_hasDeadline_5 ?_
  refine lv_iconst (v := (1)) hx hb dX10_hasDeadline_6 (by decide) ?_
  refine lv_icmp_ne (tgt := 23) hx hb dX10_hasDeadline_7 (by decide) (fun k3 => ?_) (fun k3 => ?_)
  · have hp := owp_t k3 hp
    refine lv_iconst (v := (0)) hx hb dX10_hasDeadline_23 (by decide) ?_
    exact hr _ _ _ _ _ _ hR hS dX10_hasDeadline_24 (rZ_0 hp)
  · have hp := owp_f (fun q => q k3) hp
    refine lv_aload_n hx hb dX10_hasDeadline_10 rfl (lv_at hl 0 rfl) ?_
    refine lv_iload_n hx hb dX10_hasDeadline_11 rfl (lv_at hl 1 rfl) ?_
    refine lv_iconst (v := (2)) hx hb dX10_hasDeadline_12 (by decide) ?_
    obtain ⟨x5, N4, e_N4, hp⟩ := owp_ob2 hp
    refine iv_X10_of (rest := []) mw_X10_52 X hR hS e_N4 hl.1 (Nat.le_of_ble_eq_true rfl) ⟨Nat.le_of_ble_eq_true rfl, Nat.le_of_ble_eq_true rfl⟩ ⟨Nat.le_of_ble_eq_true rfl, Nat.le_of_ble_eq_true rfl⟩ dX10_hasDeadline_13 (fun H locs hR hS => ?_)
    refine lv_if_le (tgt := 23) hx hb dX10_hasDeadline_16 (by decide) (fun k6 => ?_) (fun k6 => ?_)
    · have hp := owp_t k6 hp
      refine lv_iconst (v := (0)) hx hb dX10_hasDeadline_23 (by decide) ?_
      exact hr _ _ _ _ _ _ hR hS dX10_hasDeadline_24 (rZ_0 hp)
    · have hp := owp_f k6 hp
      refine lv_iconst (v := (1)) hx hb dX10_hasDeadline_19 (by decide) ?_
      refine lv_goto (tgt := 24) hx hb dX10_hasDeadline_20 (by decide) ?_
      exact hr _ _ _ _ _ _ hR hS dX10_hasDeadline_24 (rZ_1 hp)
end
theorem ct_X10_hasDeadline {v0 : Nat} {v1 : Int32} {N N1 : AH} {r : Int32} (h : f_X10_hasDeadline v0 v1 N = some (r, N1)) : Ct yX10_hasDeadline cX10_hasDeadline 2 (some .boolean) rm_X10_hasDeadline [.ref v0, .int v1] N (some (.int r)) N1 :=
  ab_met (own := RX10) (by decide +kernel) rfl (Nat.le_of_ble_eq_true rfl) (fun l G aC t b0 p e s m below meth c ls X hr hlk hnm hR hS hl => wk_X10_hasDeadline X (RtZ_met X.1.1 X.1.2.1 hr hlk) _ _ _ _ _ _ hR hS hl (owp_of h))
theorem cw_X10_hasDeadline : Cond.code yX10_hasDeadline cX10_hasDeadline 2 (some .boolean) ∈ WT := WT_of 1097 (by decide +kernel) (by decide +kernel)
theorem iv_X10_hasDeadline {p : Program} {l : Launch} {e : Env} {R : Room} {s : State} {m : MethodId} {args : Array Value} {below : List Frame} {meth : Method} {c : Code} {H : Heap} {locs : List Loc} {cells slots : Nat} {Q : State → Prop} {cc : ByteArray} {own : String} {nL : Nat} {G : va_G} {aC : Nat → ClassId} {t b0 : Nat} {N N1 : AH} {pc index : Nat} {ls : Array Slot} {rest : List Value} {v0 : Nat} {v1 : Int32} {r : Int32} (w1 : Cond.methodLink own index yX10_hasDeadline ∈ WT) (X : CX cc own nL G aC t b0 p s m args c) (hR : Rp G aC b0 N H) (hS : va_S (fun q => b0 ≤ q) s.heap H locs) (h : f_X10_hasDeadline v0 v1 N = some (r, N1)) (hls : ls.size = nL) (hW : (rest.map fun v => v.category).sum ≤ 8) (hR1 : 2 ≤ R.frames ∧ 43 ≤ R.locals) (hcs : cells + 0 ≤ R.cells ∧ slots + 0 ≤ R.slots) (hdg : decode cc pc = .ok (.invokevirtual index, 3)) (kk : ∀ (H1 : Heap) (locs1 : List Loc), Rp G aC b0 N1 H1 → va_S (fun q => b0 ≤ q) s.heap H1 locs1 → W p l e R s m args below meth c H1 locs1 cells slots Q (F0 m (pc + 3) ls (.int r :: rest))) : W p l e R s m args below meth c H locs cells slots Q (F0 m pc ls (.int v1 :: .ref v0 :: rest)) :=
  ab_callV (n := 1) (As := [.int v1]) X hR hS (ct_X10_hasDeadline h) (ob_rc (c := 10) (N := N) (a := v0) h) (T := TX10) (k := 20) (C := RX10) rfl w1 (WT_of 1096 (by decide +kernel) (by decide +kernel)) (WT_of 44 (by decide +kernel) (by decide +kernel)) (WT_of 92 (by decide +kernel) (by decide +kernel)) cw_X10_hasDeadline ⟨rfl, by decide +kernel, by decide +kernel, by decide +kernel⟩ rfl hls hW hR1 hcs rfl hdg kk
-- X10_isBefore
theorem gf_X10_28 {p : Program} {l : Launch} {e : Env} {R : Room} {s : State} {m : MethodId} {args : Array Value} {below : List Frame} {meth : Method} {c : Code} {H : Heap} {locs : List Loc} {cells slots : Nat} {Q : State → Prop} {cc : ByteArray} {nL : Nat} {G : va_G} {aC : Nat → ClassId} {t b0 : Nat} {N : AH} {pc : Nat} {ls : Array Slot} {rest : List Value} {a : Nat} {v : Nat} (X : CX cc RX10 nL G aC t b0 p s m args c) (hR0 : Rp G aC b0 N H) (hv : hR N a 10 11 = some v) (hdg : decode cc pc = .ok (.getfield 28, 3)) (kk : W p l e R s m args below meth c H locs cells slots Q (F0 m (pc + 3) ls (.ref v :: rest))) : W p l e R s m args below meth c H locs cells slots Q (F0 m pc ls (.ref a :: rest)) := by
  obtain ⟨fs, h1, h2⟩ := hR_ok hv
  exact ab_get (C := RX10) (T := TX10) (n := 20) X hR0 h1 h2 rfl inX10 (by decide) (WT_of 959 (by decide +kernel) (by decide +kernel)) hdg kk
theorem gf_X10_32 {p : Program} {l : Launch} {e : Env} {R : Room} {s : State} {m : MethodId} {args : Array Value} {below : List Frame} {meth : Method} {c : Code} {H : Heap} {locs : List Loc} {cells slots : Nat} {Q : State → Prop} {cc : ByteArray} {nL : Nat} {G : va_G} {aC : Nat → ClassId} {t b0 : Nat} {N : AH} {pc : Nat} {ls : Array Slot} {rest : List Value} {a : Nat} {v : Nat} (X : CX cc RX10 nL G aC t b0 p s m args c) (hR0 : Rp G aC b0 N H) (hv : hR N a 10 12 = some v) (hdg : decode cc pc = .ok (.getfield 32, 3)) (kk : W p l e R s m args below meth c H locs cells slots Q (F0 m (pc + 3) ls (.ref v :: rest))) : W p l e R s m args below meth c H locs cells slots Q (F0 m pc ls (.ref a :: rest)) := by
  obtain ⟨fs, h1, h2⟩ := hR_ok hv
  exact ab_get (C := RX10) (T := TX10) (n := 20) X hR0 h1 h2 rfl inX10 (by decide) (WT_of 960 (by decide +kernel) (by decide +kernel)) hdg kk
theorem mw_X10_97 : Cond.methodLink RX10 97 yX10_hasDeadline ∈ WT := WT_of 1094 (by decide +kernel) (by decide +kernel)
theorem dX10_isBefore_0 : decode cX10_isBefore 0 = .ok (.aload_n 0, 1) := by decide +kernel
theorem dX10_isBefore_1 : decode cX10_isBefore 1 = .ok (.iload_n 1, 1) := by decide +kernel
theorem dX10_isBefore_2 : decode cX10_isBefore 2 = .ok (.invokevirtual 97, 3) := by decide +kernel
theorem dX10_isBefore_5 : decode cX10_isBefore 5 = .ok (.ifCond .ne 11, 3) := by decide +kernel
theorem dX10_isBefore_8 : decode cX10_isBefore 8 = .ok (.aload_n 0, 1) := by decide +kernel
theorem dX10_isBefore_9 : decode cX10_isBefore 9 = .ok (.iload_n 2, 1) := by decide +kernel
theorem dX10_isBefore_10 : decode cX10_isBefore 10 = .ok (.invokevirtual 97, 3) := by decide +kernel
theorem dX10_isBefore_13 : decode cX10_isBefore 13 = .ok (.ifCond .eq 72, 3) := by decide +kernel
theorem dX10_isBefore_16 : decode cX10_isBefore 16 = .ok (.aload_n 0, 1) := by decide +kernel
theorem dX10_isBefore_17 : decode cX10_isBefore 17 = .ok (.iload_n 1, 1) := by decide +kernel
theorem dX10_isBefore_18 : decode cX10_isBefore 18 = .ok (.invokevirtual 97, 3) := by decide +kernel
theorem dX10_isBefore_21 : decode cX10_isBefore 21 = .ok (.ifCond .eq 15, 3) := by decide +kernel
theorem dX10_isBefore_24 : decode cX10_isBefore 24 = .ok (.aload_n 0, 1) := by decide +kernel
theorem dX10_isBefore_25 : decode cX10_isBefore 25 = .ok (.iload_n 2, 1) := by decide +kernel
theorem dX10_isBefore_26 : decode cX10_isBefore 26 = .ok (.invokevirtual 97, 3) := by decide +kernel
theorem dX10_isBefore_29 : decode cX10_isBefore 29 = .ok (.ifCond .eq 7, 3) := by decide +kernel
theorem dX10_isBefore_32 : decode cX10_isBefore 32 = .ok (.iconst 1, 1) := by decide +kernel
theorem dX10_isBefore_33 : decode cX10_isBefore 33 = .ok (.goto 4, 3) := by decide +kernel
theorem dX10_isBefore_36 : decode cX10_isBefore 36 = .ok (.iconst 0, 1) := by decide +kernel
theorem dX10_isBefore_37 : decode cX10_isBefore 37 = .ok (.istore_n 3, 1) := by decide +kernel
theorem dX10_isBefore_38 : decode cX10_isBefore 38 = .ok (.iload_n 3, 1) := by decide +kernel
theorem dX10_isBefore_39 : decode cX10_isBefore 39 = .ok (.ifCond .eq 40, 3) := by decide +kernel
theorem dX10_isBefore_42 : decode cX10_isBefore 42 = .ok (.aload_n 0, 1) := by decide +kernel
theorem dX10_isBefore_43 : decode cX10_isBefore 43 = .ok (.iload_n 1, 1) := by decide +kernel
theorem dX10_isBefore_44 : decode cX10_isBefore 44 = .ok (.iconst 0, 1) := by decide +kernel
theorem dX10_isBefore_45 : decode cX10_isBefore 45 = .ok (.invokevirtual 52, 3) := by decide +kernel
theorem dX10_isBefore_48 : decode cX10_isBefore 48 = .ok (.aload_n 0, 1) := by decide +kernel
theorem dX10_isBefore_49 : decode cX10_isBefore 49 = .ok (.iload_n 1, 1) := by decide +kernel
theorem dX10_isBefore_50 : decode cX10_isBefore 50 = .ok (.iconst 2, 1) := by decide +kernel
theorem dX10_isBefore_51 : decode cX10_isBefore 51 = .ok (.invokevirtual 52, 3) := by decide +kernel
theorem dX10_isBefore_54 : decode cX10_isBefore 54 = .ok (.iadd, 1) := by decide +kernel
theorem dX10_isBefore_55 : decode cX10_isBefore 55 = .ok (.aload_n 0, 1) := by decide +kernel
theorem dX10_isBefore_56 : decode cX10_isBefore 56 = .ok (.iload_n 2, 1) := by decide +kernel
theorem dX10_isBefore_57 : decode cX10_isBefore 57 = .ok (.iconst 0, 1) := by decide +kernel
theorem dX10_isBefore_58 : decode cX10_isBefore 58 = .ok (.invokevirtual 52, 3) := by decide +kernel
theorem dX10_isBefore_61 : decode cX10_isBefore 61 = .ok (.aload_n 0, 1) := by decide +kernel
theorem dX10_isBefore_62 : decode cX10_isBefore 62 = .ok (.iload_n 2, 1) := by decide +kernel
theorem dX10_isBefore_63 : decode cX10_isBefore 63 = .ok (.iconst 2, 1) := by decide +kernel
theorem dX10_isBefore_64 : decode cX10_isBefore 64 = .ok (.invokevirtual 52, 3) := by decide +kernel
theorem dX10_isBefore_67 : decode cX10_isBefore 67 = .ok (.iadd, 1) := by decide +kernel
theorem dX10_isBefore_68 : decode cX10_isBefore 68 = .ok (.if_icmp .gt 7, 3) := by decide +kernel
theorem dX10_isBefore_71 : decode cX10_isBefore 71 = .ok (.iconst 1, 1) := by decide +kernel
theorem dX10_isBefore_72 : decode cX10_isBefore 72 = .ok (.goto 12, 3) := by decide +kernel
theorem dX10_isBefore_75 : decode cX10_isBefore 75 = .ok (.iconst 0, 1) := by decide +kernel
theorem dX10_isBefore_76 : decode cX10_isBefore 76 = .ok (.goto 8, 3) := by decide +kernel
theorem dX10_isBefore_79 : decode cX10_isBefore 79 = .ok (.aload_n 0, 1) := by decide +kernel
theorem dX10_isBefore_80 : decode cX10_isBefore 80 = .ok (.iload_n 1, 1) := by decide +kernel
theorem dX10_isBefore_81 : decode cX10_isBefore 81 = .ok (.invokevirtual 97, 3) := by decide +kernel
theorem dX10_isBefore_84 : decode cX10_isBefore 84 = .ok (.ireturn, 1) := by decide +kernel
theorem dX10_isBefore_85 : decode cX10_isBefore 85 = .ok (.aload_n 0, 1) := by decide +kernel
theorem dX10_isBefore_86 : decode cX10_isBefore 86 = .ok (.getfield 7, 3) := by decide +kernel
theorem dX10_isBefore_89 : decode cX10_isBefore 89 = .ok (.iconst 1, 1) := by decide +kernel
theorem dX10_isBefore_90 : decode cX10_isBefore 90 = .ok (.iaload, 1) := by decide +kernel
theorem dX10_isBefore_91 : decode cX10_isBefore 91 = .ok (.iconst 5, 1) := by decide +kernel
theorem dX10_isBefore_92 : decode cX10_isBefore 92 = .ok (.if_icmp .ne 67, 3) := by decide +kernel
theorem dX10_isBefore_95 : decode cX10_isBefore 95 = .ok (.aload_n 0, 1) := by decide +kernel
theorem dX10_isBefore_96 : decode cX10_isBefore 96 = .ok (.getfield 28, 3) := by decide +kernel
theorem dX10_isBefore_99 : decode cX10_isBefore 99 = .ok (.iload_n 1, 1) := by decide +kernel
theorem dX10_isBefore_100 : decode cX10_isBefore 100 = .ok (.laload, 1) := by decide +kernel
theorem dX10_isBefore_101 : decode cX10_isBefore 101 = .ok (.ldc2_w 86, 3) := by decide +kernel
theorem dX10_isBefore_104 : decode cX10_isBefore 104 = .ok (.lcmp, 1) := by decide +kernel
theorem dX10_isBefore_105 : decode cX10_isBefore 105 = .ok (.ifCond .ge 54, 3) := by decide +kernel
theorem dX10_isBefore_108 : decode cX10_isBefore 108 = .ok (.aload_n 0, 1) := by decide +kernel
theorem dX10_isBefore_109 : decode cX10_isBefore 109 = .ok (.getfield 28, 3) := by decide +kernel
theorem dX10_isBefore_112 : decode cX10_isBefore 112 = .ok (.iload_n 2, 1) := by decide +kernel
theorem dX10_isBefore_113 : decode cX10_isBefore 113 = .ok (.laload, 1) := by decide +kernel
theorem dX10_isBefore_114 : decode cX10_isBefore 114 = .ok (.ldc2_w 86, 3) := by decide +kernel
theorem dX10_isBefore_117 : decode cX10_isBefore 117 = .ok (.lcmp, 1) := by decide +kernel
theorem dX10_isBefore_118 : decode cX10_isBefore 118 = .ok (.ifCond .ge 41, 3) := by decide +kernel
theorem dX10_isBefore_121 : decode cX10_isBefore 121 = .ok (.aload_n 0, 1) := by decide +kernel
theorem dX10_isBefore_122 : decode cX10_isBefore 122 = .ok (.getfield 28, 3) := by decide +kernel
theorem dX10_isBefore_125 : decode cX10_isBefore 125 = .ok (.iload_n 1, 1) := by decide +kernel
theorem dX10_isBefore_126 : decode cX10_isBefore 126 = .ok (.laload, 1) := by decide +kernel
theorem dX10_isBefore_127 : decode cX10_isBefore 127 = .ok (.aload_n 0, 1) := by decide +kernel
theorem dX10_isBefore_128 : decode cX10_isBefore 128 = .ok (.iload_n 2, 1) := by decide +kernel
theorem dX10_isBefore_129 : decode cX10_isBefore 129 = .ok (.iconst 1, 1) := by decide +kernel
theorem dX10_isBefore_130 : decode cX10_isBefore 130 = .ok (.invokevirtual 52, 3) := by decide +kernel
theorem dX10_isBefore_133 : decode cX10_isBefore 133 = .ok (.i2l, 1) := by decide +kernel
theorem dX10_isBefore_134 : decode cX10_isBefore 134 = .ok (.lmul, 1) := by decide +kernel
theorem dX10_isBefore_135 : decode cX10_isBefore 135 = .ok (.aload_n 0, 1) := by decide +kernel
theorem dX10_isBefore_136 : decode cX10_isBefore 136 = .ok (.getfield 28, 3) := by decide +kernel
theorem dX10_isBefore_139 : decode cX10_isBefore 139 = .ok (.iload_n 2, 1) := by decide +kernel
theorem dX10_isBefore_140 : decode cX10_isBefore 140 = .ok (.laload, 1) := by decide +kernel
theorem dX10_isBefore_141 : decode cX10_isBefore 141 = .ok (.aload_n 0, 1) := by decide +kernel
theorem dX10_isBefore_142 : decode cX10_isBefore 142 = .ok (.iload_n 1, 1) := by decide +kernel
theorem dX10_isBefore_143 : decode cX10_isBefore 143 = .ok (.iconst 1, 1) := by decide +kernel
theorem dX10_isBefore_144 : decode cX10_isBefore 144 = .ok (.invokevirtual 52, 3) := by decide +kernel
theorem dX10_isBefore_147 : decode cX10_isBefore 147 = .ok (.i2l, 1) := by decide +kernel
theorem dX10_isBefore_148 : decode cX10_isBefore 148 = .ok (.lmul, 1) := by decide +kernel
theorem dX10_isBefore_149 : decode cX10_isBefore 149 = .ok (.lcmp, 1) := by decide +kernel
theorem dX10_isBefore_150 : decode cX10_isBefore 150 = .ok (.ifCond .gt 7, 3) := by decide +kernel
theorem dX10_isBefore_153 : decode cX10_isBefore 153 = .ok (.iconst 1, 1) := by decide +kernel
theorem dX10_isBefore_154 : decode cX10_isBefore 154 = .ok (.goto 4, 3) := by decide +kernel
theorem dX10_isBefore_157 : decode cX10_isBefore 157 = .ok (.iconst 0, 1) := by decide +kernel
theorem dX10_isBefore_158 : decode cX10_isBefore 158 = .ok (.ireturn, 1) := by decide +kernel
theorem dX10_isBefore_159 : decode cX10_isBefore 159 = .ok (.aload_n 0, 1) := by decide +kernel
theorem dX10_isBefore_160 : decode cX10_isBefore 160 = .ok (.getfield 28, 3) := by decide +kernel
theorem dX10_isBefore_163 : decode cX10_isBefore 163 = .ok (.iload_n 1, 1) := by decide +kernel
theorem dX10_isBefore_164 : decode cX10_isBefore 164 = .ok (.laload, 1) := by decide +kernel
theorem dX10_isBefore_165 : decode cX10_isBefore 165 = .ok (.aload_n 0, 1) := by decide +kernel
theorem dX10_isBefore_166 : decode cX10_isBefore 166 = .ok (.getfield 28, 3) := by decide +kernel
theorem dX10_isBefore_169 : decode cX10_isBefore 169 = .ok (.iload_n 2, 1) := by decide +kernel
theorem dX10_isBefore_170 : decode cX10_isBefore 170 = .ok (.laload, 1) := by decide +kernel
theorem dX10_isBefore_171 : decode cX10_isBefore 171 = .ok (.lcmp, 1) := by decide +kernel
theorem dX10_isBefore_172 : decode cX10_isBefore 172 = .ok (.ifCond .eq 27, 3) := by decide +kernel
theorem dX10_isBefore_175 : decode cX10_isBefore 175 = .ok (.aload_n 0, 1) := by decide +kernel
theorem dX10_isBefore_176 : decode cX10_isBefore 176 = .ok (.getfield 28, 3) := by decide +kernel
theorem dX10_isBefore_179 : decode cX10_isBefore 179 = .ok (.iload_n 1, 1) := by decide +kernel
theorem dX10_isBefore_180 : decode cX10_isBefore 180 = .ok (.laload, 1) := by decide +kernel
theorem dX10_isBefore_181 : decode cX10_isBefore 181 = .ok (.aload_n 0, 1) := by decide +kernel
theorem dX10_isBefore_182 : decode cX10_isBefore 182 = .ok (.getfield 28, 3) := by decide +kernel
theorem dX10_isBefore_185 : decode cX10_isBefore 185 = .ok (.iload_n 2, 1) := by decide +kernel
theorem dX10_isBefore_186 : decode cX10_isBefore 186 = .ok (.laload, 1) := by decide +kernel
theorem dX10_isBefore_187 : decode cX10_isBefore 187 = .ok (.lcmp, 1) := by decide +kernel
theorem dX10_isBefore_188 : decode cX10_isBefore 188 = .ok (.ifCond .ge 7, 3) := by decide +kernel
theorem dX10_isBefore_191 : decode cX10_isBefore 191 = .ok (.iconst 1, 1) := by decide +kernel
theorem dX10_isBefore_192 : decode cX10_isBefore 192 = .ok (.goto 28, 3) := by decide +kernel
theorem dX10_isBefore_195 : decode cX10_isBefore 195 = .ok (.iconst 0, 1) := by decide +kernel
theorem dX10_isBefore_196 : decode cX10_isBefore 196 = .ok (.goto 24, 3) := by decide +kernel
theorem dX10_isBefore_199 : decode cX10_isBefore 199 = .ok (.aload_n 0, 1) := by decide +kernel
theorem dX10_isBefore_200 : decode cX10_isBefore 200 = .ok (.getfield 32, 3) := by decide +kernel
theorem dX10_isBefore_203 : decode cX10_isBefore 203 = .ok (.iload_n 1, 1) := by decide +kernel
theorem dX10_isBefore_204 : decode cX10_isBefore 204 = .ok (.laload, 1) := by decide +kernel
theorem dX10_isBefore_205 : decode cX10_isBefore 205 = .ok (.aload_n 0, 1) := by decide +kernel
theorem dX10_isBefore_206 : decode cX10_isBefore 206 = .ok (.getfield 32, 3) := by decide +kernel
theorem dX10_isBefore_209 : decode cX10_isBefore 209 = .ok (.iload_n 2, 1) := by decide +kernel
theorem dX10_isBefore_210 : decode cX10_isBefore 210 = .ok (.laload, 1) := by decide +kernel
theorem dX10_isBefore_211 : decode cX10_isBefore 211 = .ok (.lcmp, 1) := by decide +kernel
theorem dX10_isBefore_212 : decode cX10_isBefore 212 = .ok (.ifCond .gt 7, 3) := by decide +kernel
theorem dX10_isBefore_215 : decode cX10_isBefore 215 = .ok (.iconst 1, 1) := by decide +kernel
theorem dX10_isBefore_216 : decode cX10_isBefore 216 = .ok (.goto 4, 3) := by decide +kernel
theorem dX10_isBefore_219 : decode cX10_isBefore 219 = .ok (.iconst 0, 1) := by decide +kernel
theorem dX10_isBefore_220 : decode cX10_isBefore 220 = .ok (.ireturn, 1) := by decide +kernel
def rm_X10_isBefore : Room := { frames := 2, cells := 0, slots := 0, locals := 43 }
section
variable {p : Program} {l : Launch} {e : Env} {s : State} {m : MethodId} {args : Array Value} {below : List Frame} {meth : Method} {c : Code} {Q : State → Prop} {G : va_G} {aC : Nat → ClassId} {t b0 : Nat}
def f_X10_isBefore_J37 (v0 : Nat) (v1 : Int32) (v2 : Int32) (w0 : Int32) (N : AH) : Option (Int32 × AH) := if w0 = 0 then ob2 (f_X10_hasDeadline v0 v1 N) (fun x9 N8 => rZ x9 N8) else ob2 (f_X10_of v0 v1 (0 : Int32) N) (fun x11 N10 => ob2 (f_X10_of v0 v1 (2 : Int32) N10) (fun x13 N12 => ob2 (f_X10_of v0 v2 (0 : Int32) N12) (fun x15 N14 => ob2 (f_X10_of v0 v2 (2 : Int32) N14) (fun x17 N16 => if (x15 + x17) < (x11 + x13) then some ((0 : Int32), N16) else some ((1 : Int32), N16)))))
set_option maxHeartbeats 4000000 in
set_option maxRecDepth 100000 in
theorem w_X10_isBefore_J37 {P : Int32 × AH → Prop} (X : CX cX10_isBefore RX10 4 G aC t b0 p s m args c) (hr : RtZ p l e rm_X10_isBefore s m args below meth c 0 0 Q cX10_isBefore G aC b0 P) (v0 : Nat) (v1 : Int32) (v2 : Int32) (w0 : Int32) (N : AH) (H : Heap) (locs : List Loc) (ls : Array Slot) (hR : Rp G aC b0 N H) (hS : va_S (fun q => b0 ≤ q) s.heap H locs) (hl : lv_has ls 4 [(0, .ref v0), (1, .int v1), (2, .int v2)]) (hp : owp (f_X10_isBefore_J37 v0 v1 v2 w0 N) P) : W p l e rm_X10_isBefore s m args below meth c H locs 0 0 Q (F0 m 37 ls [.int w0]) := by
  have hx := X.1.1
  have hb := X.1.2.1
  unfold f_X10_isBefore_J37 at hp
  refine lv_istore_n (lv' := [(3, .int w0), (0, .ref v0), (1, .int v1), (2, .int v2)]) hx hb dX10_isBefore_37 rfl hl (by decide) rfl (fun ls hl => ?_)
  refine lv_iload_n hx hb dX10_isBefore_38 rfl (lv_at hl 0 rfl) ?_
  refine lv_if_eq (tgt := 79) hx hb dX10_isBefore_39 (by decide) (fun k7 => ?_) (fun k7 => ?_)
  · have hp := owp_t k7 hp
    refine lv_aload_n hx hb dX10_isBefore_79 rfl (lv_at hl 1 rfl) ?_
    refine lv_iload_n hx hb dX10_isBefore_80 rfl (lv_at hl 2 rfl) ?_
    obtain ⟨x9, N8, e_N8, hp⟩ := owp_ob2 hp
    refine iv_X10_hasDeadline (rest := []) mw_X10_97 X hR hS e_N8 hl.1 (Nat.le_of_ble_eq_true rfl) ⟨Nat.le_of_ble_eq_true rfl, Nat.le_of_ble_eq_true rfl⟩ ⟨Nat.le_of_ble_eq_true rfl, Nat.le_of_ble_eq_true rfl⟩ dX10_isBefore_81 (fun H locs hR hS => ?_)
    exact hr _ _ _ _ _ _ hR hS dX10_isBefore_84 hp
  · have hp := owp_f k7 hp
    refine lv_aload_n hx hb dX10_isBefore_42 rfl (lv_at hl 1 rfl) ?_
    refine lv_iload_n hx hb dX10_isBefore_43 rfl (lv_at hl 2 rfl) ?_
    refine lv_iconst (v := (0)) hx hb dX10_isBefore_44 (by decide) ?_
    obtain ⟨x11, N10, e_N10, hp⟩ := owp_ob2 hp
    refine iv_X10_of (rest := []) mw_X10_52 X hR hS e_N10 hl.1 (Nat.le_of_ble_eq_true rfl) ⟨Nat.le_of_ble_eq_true rfl, Nat.le_of_ble_eq_true rfl⟩ ⟨Nat.le_of_ble_eq_true rfl, Nat.le_of_ble_eq_true rfl⟩ dX10_isBefore_45 (fun H locs hR hS => ?_)
    refine lv_aload_n hx hb dX10_isBefore_48 rfl (lv_at hl 1 rfl) ?_
    refine lv_iload_n hx hb dX10_isBefore_49 rfl (lv_at hl 2 rfl) ?_
    refine lv_iconst (v := (2)) hx hb dX10_isBefore_50 (by decide) ?_
    obtain ⟨x13, N12, e_N12, hp⟩ := owp_ob2 hp
    refine iv_X10_of (rest := [.int x11]) mw_X10_52 X hR hS e_N12 hl.1 (Nat.le_of_ble_eq_true rfl) ⟨Nat.le_of_ble_eq_true rfl, Nat.le_of_ble_eq_true rfl⟩ ⟨Nat.le_of_ble_eq_true rfl, Nat.le_of_ble_eq_true rfl⟩ dX10_isBefore_51 (fun H locs hR hS => ?_)
    refine lv_iadd hx hb dX10_isBefore_54 ?_
    refine lv_aload_n hx hb dX10_isBefore_55 rfl (lv_at hl 1 rfl) ?_
    refine lv_iload_n hx hb dX10_isBefore_56 rfl (lv_at hl 3 rfl) ?_
    refine lv_iconst (v := (0)) hx hb dX10_isBefore_57 (by decide) ?_
    obtain ⟨x15, N14, e_N14, hp⟩ := owp_ob2 hp
    refine iv_X10_of (rest := [.int (x11 + x13)]) mw_X10_52 X hR hS e_N14 hl.1 (Nat.le_of_ble_eq_true rfl) ⟨Nat.le_of_ble_eq_true rfl, Nat.le_of_ble_eq_true rfl⟩ ⟨Nat.le_of_ble_eq_true rfl, Nat.le_of_ble_eq_true rfl⟩ dX10_isBefore_58 (fun H locs hR hS => ?_)
    refine lv_aload_n hx hb dX10_isBefore_61 rfl (lv_at hl 1 rfl) ?_
    refine lv_iload_n hx hb dX10_isBefore_62 rfl (lv_at hl 3 rfl) ?_
    refine lv_iconst (v := (2)) hx hb dX10_isBefore_63 (by decide) ?_
    obtain ⟨x17, N16, e_N16, hp⟩ := owp_ob2 hp
    refine iv_X10_of (rest := [.int x15, .int (x11 + x13)]) mw_X10_52 X hR hS e_N16 hl.1 (Nat.le_of_ble_eq_true rfl) ⟨Nat.le_of_ble_eq_true rfl, Nat.le_of_ble_eq_true rfl⟩ ⟨Nat.le_of_ble_eq_true rfl, Nat.le_of_ble_eq_true rfl⟩ dX10_isBefore_64 (fun H locs hR hS => ?_)
    refine lv_iadd hx hb dX10_isBefore_67 ?_
    refine lv_icmp_gt (tgt := 75) hx hb dX10_isBefore_68 (by decide) (fun k18 => ?_) (fun k18 => ?_)
    · have hp := owp_t k18 hp
      refine lv_iconst (v := (0)) hx hb dX10_isBefore_75 (by decide) ?_
      refine lv_goto (tgt := 84) hx hb dX10_isBefore_76 (by decide) ?_
      exact hr _ _ _ _ _ _ hR hS dX10_isBefore_84 (rZ_0 hp)
    · have hp := owp_f k18 hp
      refine lv_iconst (v := (1)) hx hb dX10_isBefore_71 (by decide) ?_
      refine lv_goto (tgt := 84) hx hb dX10_isBefore_72 (by decide) ?_
      exact hr _ _ _ _ _ _ hR hS dX10_isBefore_84 (rZ_1 hp)
def f_X10_isBefore_J36 (v0 : Nat) (v1 : Int32) (v2 : Int32) (N : AH) : Option (Int32 × AH) := f_X10_isBefore_J37 v0 v1 v2 (0 : Int32) N
set_option maxHeartbeats 4000000 in
set_option maxRecDepth 100000 in
theorem w_X10_isBefore_J36 {P : Int32 × AH → Prop} (X : CX cX10_isBefore RX10 4 G aC t b0 p s m args c) (hr : RtZ p l e rm_X10_isBefore s m args below meth c 0 0 Q cX10_isBefore G aC b0 P) (v0 : Nat) (v1 : Int32) (v2 : Int32) (N : AH) (H : Heap) (locs : List Loc) (ls : Array Slot) (hR : Rp G aC b0 N H) (hS : va_S (fun q => b0 ≤ q) s.heap H locs) (hl : lv_has ls 4 [(0, .ref v0), (1, .int v1), (2, .int v2)]) (hp : owp (f_X10_isBefore_J36 v0 v1 v2 N) P) : W p l e rm_X10_isBefore s m args below meth c H locs 0 0 Q (F0 m 36 ls []) := by
  have hx := X.1.1
  have hb := X.1.2.1
  unfold f_X10_isBefore_J36 at hp
  refine lv_iconst (v := (0)) hx hb dX10_isBefore_36 (by decide) ?_
  exact w_X10_isBefore_J37 X hr _ _ _ _ _ _ _ _ hR hS hl hp
def f_X10_isBefore_J16 (v0 : Nat) (v1 : Int32) (v2 : Int32) (N : AH) : Option (Int32 × AH) := ob2 (f_X10_hasDeadline v0 v1 N) (fun x5 N4 => if x5 = 0 then f_X10_isBefore_J36 v0 v1 v2 N4 else ob2 (f_X10_hasDeadline v0 v2 N4) (fun x20 N19 => if x20 = 0 then f_X10_isBefore_J36 v0 v1 v2 N19 else f_X10_isBefore_J37 v0 v1 v2 (1 : Int32) N19))
set_option maxHeartbeats 4000000 in
set_option maxRecDepth 100000 in
theorem w_X10_isBefore_J16 {P : Int32 × AH → Prop} (X : CX cX10_isBefore RX10 4 G aC t b0 p s m args c) (hr : RtZ p l e rm_X10_isBefore s m args below meth c 0 0 Q cX10_isBefore G aC b0 P) (v0 : Nat) (v1 : Int32) (v2 : Int32) (N : AH) (H : Heap) (locs : List Loc) (ls : Array Slot) (hR : Rp G aC b0 N H) (hS : va_S (fun q => b0 ≤ q) s.heap H locs) (hl : lv_has ls 4 [(0, .ref v0), (1, .int v1), (2, .int v2)]) (hp : owp (f_X10_isBefore_J16 v0 v1 v2 N) P) : W p l e rm_X10_isBefore s m args below meth c H locs 0 0 Q (F0 m 16 ls []) := by
  have hx := X.1.1
  have hb := X.1.2.1
  unfold f_X10_isBefore_J16 at hp
  refine lv_aload_n hx hb dX10_isBefore_16 rfl (lv_at hl 0 rfl) ?_
  refine lv_iload_n hx hb dX10_isBefore_17 rfl (lv_at hl 1 rfl) ?_
  obtain ⟨x5, N4, e_N4, hp⟩ := owp_ob2 hp
  refine iv_X10_hasDeadline (rest := []) mw_X10_97 X hR hS e_N4 hl.1 (Nat.le_of_ble_eq_true rfl) ⟨Nat.le_of_ble_eq_true rfl, Nat.le_of_ble_eq_true rfl⟩ ⟨Nat.le_of_ble_eq_true rfl, Nat.le_of_ble_eq_true rfl⟩ dX10_isBefore_18 (fun H locs hR hS => ?_)
  refine lv_if_eq (tgt := 36) hx hb dX10_isBefore_21 (by decide) (fun k6 => ?_) (fun k6 => ?_)
  · have hp := owp_t k6 hp
    exact w_X10_isBefore_J36 X hr _ _ _ _ _ _ _ hR hS hl hp
  · have hp := owp_f k6 hp
    refine lv_aload_n hx hb dX10_isBefore_24 rfl (lv_at hl 0 rfl) ?_
    refine lv_iload_n hx hb dX10_isBefore_25 rfl (lv_at hl 2 rfl) ?_
    obtain ⟨x20, N19, e_N19, hp⟩ := owp_ob2 hp
    refine iv_X10_hasDeadline (rest := []) mw_X10_97 X hR hS e_N19 hl.1 (Nat.le_of_ble_eq_true rfl) ⟨Nat.le_of_ble_eq_true rfl, Nat.le_of_ble_eq_true rfl⟩ ⟨Nat.le_of_ble_eq_true rfl, Nat.le_of_ble_eq_true rfl⟩ dX10_isBefore_26 (fun H locs hR hS => ?_)
    refine lv_if_eq (tgt := 36) hx hb dX10_isBefore_29 (by decide) (fun k21 => ?_) (fun k21 => ?_)
    · have hp := owp_t k21 hp
      exact w_X10_isBefore_J36 X hr _ _ _ _ _ _ _ hR hS hl hp
    · have hp := owp_f k21 hp
      refine lv_iconst (v := (1)) hx hb dX10_isBefore_32 (by decide) ?_
      refine lv_goto (tgt := 37) hx hb dX10_isBefore_33 (by decide) ?_
      exact w_X10_isBefore_J37 X hr _ _ _ _ _ _ _ _ hR hS hl hp
def f_X10_isBefore_J159 (v0 : Nat) (v1 : Int32) (v2 : Int32) (N : AH) : Option (Int32 × AH) := ob (hR N v0 10 11) (fun x28 => ob (aJ N x28 v1) (fun x29 => ob (hR N v0 10 11) (fun x30 => ob (aJ N x30 v2) (fun x31 => if (lg_cmp x29 x31) = 0 then ob (hR N v0 10 12) (fun x33 => ob (aJ N x33 v1) (fun x34 => ob (hR N v0 10 12) (fun x35 => ob (aJ N x35 v2) (fun x36 => if 0 < (lg_cmp x34 x36) then some ((0 : Int32), N) else some ((1 : Int32), N))))) else ob (hR N v0 10 11) (fun x38 => ob (aJ N x38 v1) (fun x39 => ob (hR N v0 10 11) (fun x40 => ob (aJ N x40 v2) (fun x41 => if 0 ≤ (lg_cmp x39 x41) then some ((0 : Int32), N) else some ((1 : Int32), N)))))))))
set_option maxHeartbeats 4000000 in
set_option maxRecDepth 100000 in
theorem w_X10_isBefore_J159 {P : Int32 × AH → Prop} (X : CX cX10_isBefore RX10 4 G aC t b0 p s m args c) (hr : RtZ p l e rm_X10_isBefore s m args below meth c 0 0 Q cX10_isBefore G aC b0 P) (v0 : Nat) (v1 : Int32) (v2 : Int32) (N : AH) (H : Heap) (locs : List Loc) (ls : Array Slot) (hR : Rp G aC b0 N H) (hS : va_S (fun q => b0 ≤ q) s.heap H locs) (hl : lv_has ls 4 [(0, .ref v0), (1, .int v1), (2, .int v2)]) (hp : owp (f_X10_isBefore_J159 v0 v1 v2 N) P) : W p l e rm_X10_isBefore s m args below meth c H locs 0 0 Q (F0 m 159 ls []) := by
  have hx := X.1.1
  have hb := X.1.2.1
  unfold f_X10_isBefore_J159 at hp
  refine lv_aload_n hx hb dX10_isBefore_159 rfl (lv_at hl 0 rfl) ?_
  obtain ⟨x28, e_x28, hp⟩ := owp_ob hp
  refine gf_X10_28 X hR e_x28 dX10_isBefore_160 ?_
  refine lv_iload_n hx hb dX10_isBefore_163 rfl (lv_at hl 1 rfl) ?_
  obtain ⟨x29, e_x29, hp⟩ := owp_ob hp
  refine ab_lald X hR e_x29 dX10_isBefore_164 ?_
  refine lv_aload_n hx hb dX10_isBefore_165 rfl (lv_at hl 0 rfl) ?_
  obtain ⟨x30, e_x30, hp⟩ := owp_ob hp
  refine gf_X10_28 X hR e_x30 dX10_isBefore_166 ?_
  refine lv_iload_n hx hb dX10_isBefore_169 rfl (lv_at hl 2 rfl) ?_
  obtain ⟨x31, e_x31, hp⟩ := owp_ob hp
  refine ab_lald X hR e_x31 dX10_isBefore_170 ?_
  refine W.lcmp hx hb dX10_isBefore_171 ?_
  refine lv_if_eq (tgt := 199) hx hb dX10_isBefore_172 (by decide) (fun k32 => ?_) (fun k32 => ?_)
  · have hp := owp_t k32 hp
    refine lv_aload_n hx hb dX10_isBefore_199 rfl (lv_at hl 0 rfl) ?_
    obtain ⟨x33, e_x33, hp⟩ := owp_ob hp
    refine gf_X10_32 X hR e_x33 dX10_isBefore_200 ?_
    refine lv_iload_n hx hb dX10_isBefore_203 rfl (lv_at hl 1 rfl) ?_
    obtain ⟨x34, e_x34, hp⟩ := owp_ob hp
    refine ab_lald X hR e_x34 dX10_isBefore_204 ?_
    refine lv_aload_n hx hb dX10_isBefore_205 rfl (lv_at hl 0 rfl) ?_
    obtain ⟨x35, e_x35, hp⟩ := owp_ob hp
    refine gf_X10_32 X hR e_x35 dX10_isBefore_206 ?_
    refine lv_iload_n hx hb dX10_isBefore_209 rfl (lv_at hl 2 rfl) ?_
    obtain ⟨x36, e_x36, hp⟩ := owp_ob hp
    refine ab_lald X hR e_x36 dX10_isBefore_210 ?_
    refine W.lcmp hx hb dX10_isBefore_211 ?_
    refine lv_if_gt (tgt := 219) hx hb dX10_isBefore_212 (by decide) (fun k37 => ?_) (fun k37 => ?_)
    · have hp := owp_t k37 hp
      refine lv_iconst (v := (0)) hx hb dX10_isBefore_219 (by decide) ?_
      exact hr _ _ _ _ _ _ hR hS dX10_isBefore_220 (rZ_0 hp)
    · have hp := owp_f k37 hp
      refine lv_iconst (v := (1)) hx hb dX10_isBefore_215 (by decide) ?_
      refine lv_goto (tgt := 220) hx hb dX10_isBefore_216 (by decide) ?_
      exact hr _ _ _ _ _ _ hR hS dX10_isBefore_220 (rZ_1 hp)
  · have hp := owp_f k32 hp
    refine lv_aload_n hx hb dX10_isBefore_175 rfl (lv_at hl 0 rfl) ?_
    obtain ⟨x38, e_x38, hp⟩ := owp_ob hp
    refine gf_X10_28 X hR e_x38 dX10_isBefore_176 ?_
    refine lv_iload_n hx hb dX10_isBefore_179 rfl (lv_at hl 1 rfl) ?_
    obtain ⟨x39, e_x39, hp⟩ := owp_ob hp
    refine ab_lald X hR e_x39 dX10_isBefore_180 ?_
    refine lv_aload_n hx hb dX10_isBefore_181 rfl (lv_at hl 0 rfl) ?_
    obtain ⟨x40, e_x40, hp⟩ := owp_ob hp
    refine gf_X10_28 X hR e_x40 dX10_isBefore_182 ?_
    refine lv_iload_n hx hb dX10_isBefore_185 rfl (lv_at hl 2 rfl) ?_
    obtain ⟨x41, e_x41, hp⟩ := owp_ob hp
    refine ab_lald X hR e_x41 dX10_isBefore_186 ?_
    refine W.lcmp hx hb dX10_isBefore_187 ?_
    refine lv_if_ge (tgt := 195) hx hb dX10_isBefore_188 (by decide) (fun k42 => ?_) (fun k42 => ?_)
    · have hp := owp_t k42 hp
      refine lv_iconst (v := (0)) hx hb dX10_isBefore_195 (by decide) ?_
      refine lv_goto (tgt := 220) hx hb dX10_isBefore_196 (by decide) ?_
      exact hr _ _ _ _ _ _ hR hS dX10_isBefore_220 (rZ_0 hp)
    · have hp := owp_f k42 hp
      refine lv_iconst (v := (1)) hx hb dX10_isBefore_191 (by decide) ?_
      refine lv_goto (tgt := 220) hx hb dX10_isBefore_192 (by decide) ?_
      exact hr _ _ _ _ _ _ hR hS dX10_isBefore_220 (rZ_1 hp)
def f_X10_isBefore (v0 : Nat) (v1 : Int32) (v2 : Int32) (N : AH) : Option (Int32 × AH) := ob (iO N v0 10) (fun _ => ob2 (f_X10_hasDeadline v0 v1 N) (fun x2 N1 => if ¬ x2 = 0 then f_X10_isBefore_J16 v0 v1 v2 N1 else ob2 (f_X10_hasDeadline v0 v2 N1) (fun x23 N22 => if x23 = 0 then ob (hR N22 v0 10 0) (fun x25 => ob (aI N22 x25 (1 : Int32)) (fun x26 => if ¬ x26 = (5 : Int32) then f_X10_isBefore_J159 v0 v1 v2 N22 else ob (hR N22 v0 10 11) (fun x43 => ob (aJ N22 x43 v1) (fun x44 => if 0 ≤ (lg_cmp x44 (1000000000 : Int64)) then f_X10_isBefore_J159 v0 v1 v2 N22 else ob (hR N22 v0 10 11) (fun x46 => ob (aJ N22 x46 v2) (fun x47 => if 0 ≤ (lg_cmp x47 (1000000000 : Int64)) then f_X10_isBefore_J159 v0 v1 v2 N22 else ob (hR N22 v0 10 11) (fun x49 => ob (aJ N22 x49 v1) (fun x50 => ob2 (f_X10_of v0 v2 (1 : Int32) N22) (fun x52 N51 => ob (hR N51 v0 10 11) (fun x53 => ob (aJ N51 x53 v2) (fun x54 => ob2 (f_X10_of v0 v1 (1 : Int32) N51) (fun x56 N55 => if 0 < (lg_cmp (x50 * (Int32.toInt64 x52)) (x54 * (Int32.toInt64 x56))) then some ((0 : Int32), N55) else some ((1 : Int32), N55))))))))))))) else f_X10_isBefore_J16 v0 v1 v2 N22)))
set_option maxHeartbeats 4000000 in
set_option maxRecDepth 100000 in
theorem wk_X10_isBefore {P : Int32 × AH → Prop} (X : CX cX10_isBefore RX10 4 G aC t b0 p s m args c) (hr : RtZ p l e rm_X10_isBefore s m args below meth c 0 0 Q cX10_isBefore G aC b0 P) (v0 : Nat) (v1 : Int32) (v2 : Int32) (N : AH) (H : Heap) (locs : List Loc) (ls : Array Slot) (hR : Rp G aC b0 N H) (hS : va_S (fun q => b0 ≤ q) s.heap H locs) (hl : lv_has ls 4 [(0, .ref v0), (1, .int v1), (2, .int v2)]) (hp : owp (f_X10_isBefore v0 v1 v2 N) P) : W p l e rm_X10_isBefore s m args below meth c H locs 0 0 Q (F0 m 0 ls []) := by
  have hx := X.1.1
  have hb := X.1.2.1
  unfold f_X10_isBefore at hp
  obtain ⟨_, _, hp⟩ := owp_ob hp
  refine lv_aload_n hx hb dX10_isBefore_0 rfl (lv_at hl 0 rfl) ?_
  refine lv_iload_n hx hb dX10_isBefore_1 rfl (lv_at hl 1 rfl) ?_
  obtain ⟨x2, N1, e_N1, hp⟩ := owp_ob2 hp
  refine iv_X10_hasDeadline (rest := []) mw_X10_97 X hR hS e_N1 hl.1 (Nat.le_of_ble_eq_true rfl) ⟨Nat.le_of_ble_eq_true rfl, Nat.le_of_ble_eq_true rfl⟩ ⟨Nat.le_of_ble_eq_true rfl, Nat.le_of_ble_eq_true rfl⟩ dX10_isBefore_2 (fun H locs hR hS => ?_)
  refine lv_if_ne (tgt := 16) hx hb dX10_isBefore_5 (by decide) (fun k3 => ?_) (fun k3 => ?_)
  · have hp := owp_t k3 hp
    exact w_X10_isBefore_J16 X hr _ _ _ _ _ _ _ hR hS hl hp
  · have hp := owp_f (fun q => q k3) hp
    refine lv_aload_n hx hb dX10_isBefore_8 rfl (lv_at hl 0 rfl) ?_
    refine lv_iload_n hx hb dX10_isBefore_9 rfl (lv_at hl 2 rfl) ?_
    obtain ⟨x23, N22, e_N22, hp⟩ := owp_ob2 hp
    refine iv_X10_hasDeadline (rest := []) mw_X10_97 X hR hS e_N22 hl.1 (Nat.le_of_ble_eq_true rfl) ⟨Nat.le_of_ble_eq_true rfl, Nat.le_of_ble_eq_true rfl⟩ ⟨Nat.le_of_ble_eq_true rfl, Nat.le_of_ble_eq_true rfl⟩ dX10_isBefore_10 (fun H locs hR hS => ?_)
    refine lv_if_eq (tgt := 85) hx hb dX10_isBefore_13 (by decide) (fun k24 => ?_) (fun k24 => ?_)
    · have hp := owp_t k24 hp
      refine lv_aload_n hx hb dX10_isBefore_85 rfl (lv_at hl 0 rfl) ?_
      obtain ⟨x25, e_x25, hp⟩ := owp_ob hp
      refine gf_X10_7 X hR e_x25 dX10_isBefore_86 ?_
      refine lv_iconst (v := (1)) hx hb dX10_isBefore_89 (by decide) ?_
      obtain ⟨x26, e_x26, hp⟩ := owp_ob hp
      refine ab_iald X hR e_x26 dX10_isBefore_90 ?_
      refine lv_iconst (v := (5)) hx hb dX10_isBefore_91 (by decide) ?_
      refine lv_icmp_ne (tgt := 159) hx hb dX10_isBefore_92 (by decide) (fun k27 => ?_) (fun k27 => ?_)
      · have hp := owp_t k27 hp
        exact w_X10_isBefore_J159 X hr _ _ _ _ _ _ _ hR hS hl hp
      · have hp := owp_f (fun q => q k27) hp
        refine lv_aload_n hx hb dX10_isBefore_95 rfl (lv_at hl 0 rfl) ?_
        obtain ⟨x43, e_x43, hp⟩ := owp_ob hp
        refine gf_X10_28 X hR e_x43 dX10_isBefore_96 ?_
        refine lv_iload_n hx hb dX10_isBefore_99 rfl (lv_at hl 1 rfl) ?_
        obtain ⟨x44, e_x44, hp⟩ := owp_ob hp
        refine ab_lald X hR e_x44 dX10_isBefore_100 ?_
        refine lv_ldc2 (own := RX10) (v := 1000000000) hx hb X.1.2.2.2.1 (X.1.2.2.2.2 _ (WT_of 1185 (by decide +kernel) (by decide +kernel))) dX10_isBefore_101 ?_
        refine W.lcmp hx hb dX10_isBefore_104 ?_
        refine lv_if_ge (tgt := 159) hx hb dX10_isBefore_105 (by decide) (fun k45 => ?_) (fun k45 => ?_)
        · have hp := owp_t k45 hp
          exact w_X10_isBefore_J159 X hr _ _ _ _ _ _ _ hR hS hl hp
        · have hp := owp_f k45 hp
          refine lv_aload_n hx hb dX10_isBefore_108 rfl (lv_at hl 0 rfl) ?_
          obtain ⟨x46, e_x46, hp⟩ := owp_ob hp
          refine gf_X10_28 X hR e_x46 dX10_isBefore_109 ?_
          refine lv_iload_n hx hb dX10_isBefore_112 rfl (lv_at hl 2 rfl) ?_
          obtain ⟨x47, e_x47, hp⟩ := owp_ob hp
          refine ab_lald X hR e_x47 dX10_isBefore_113 ?_
          refine lv_ldc2 (own := RX10) (v := 1000000000) hx hb X.1.2.2.2.1 (X.1.2.2.2.2 _ (WT_of 1185 (by decide +kernel) (by decide +kernel))) dX10_isBefore_114 ?_
          refine W.lcmp hx hb dX10_isBefore_117 ?_
          refine lv_if_ge (tgt := 159) hx hb dX10_isBefore_118 (by decide) (fun k48 => ?_) (fun k48 => ?_)
          · have hp := owp_t k48 hp
            exact w_X10_isBefore_J159 X hr _ _ _ _ _ _ _ hR hS hl hp
          · have hp := owp_f k48 hp
            refine lv_aload_n hx hb dX10_isBefore_121 rfl (lv_at hl 0 rfl) ?_
            obtain ⟨x49, e_x49, hp⟩ := owp_ob hp
            refine gf_X10_28 X hR e_x49 dX10_isBefore_122 ?_
            refine lv_iload_n hx hb dX10_isBefore_125 rfl (lv_at hl 1 rfl) ?_
            obtain ⟨x50, e_x50, hp⟩ := owp_ob hp
            refine ab_lald X hR e_x50 dX10_isBefore_126 ?_
            refine lv_aload_n hx hb dX10_isBefore_127 rfl (lv_at hl 0 rfl) ?_
            refine lv_iload_n hx hb dX10_isBefore_128 rfl (lv_at hl 2 rfl) ?_
            refine lv_iconst (v := (1)) hx hb dX10_isBefore_129 (by decide) ?_
            obtain ⟨x52, N51, e_N51, hp⟩ := owp_ob2 hp
            refine iv_X10_of (rest := [.long x50]) mw_X10_52 X hR hS e_N51 hl.1 (Nat.le_of_ble_eq_true rfl) ⟨Nat.le_of_ble_eq_true rfl, Nat.le_of_ble_eq_true rfl⟩ ⟨Nat.le_of_ble_eq_true rfl, Nat.le_of_ble_eq_true rfl⟩ dX10_isBefore_130 (fun H locs hR hS => ?_)
            refine lv_i2l (v := Int32.toInt64 x52) hx hb dX10_isBefore_133 rfl ?_
            refine lv_lmul hx hb dX10_isBefore_134 ?_
            refine lv_aload_n hx hb dX10_isBefore_135 rfl (lv_at hl 0 rfl) ?_
            obtain ⟨x53, e_x53, hp⟩ := owp_ob hp
            refine gf_X10_28 X hR e_x53 dX10_isBefore_136 ?_
            refine lv_iload_n hx hb dX10_isBefore_139 rfl (lv_at hl 2 rfl) ?_
            obtain ⟨x54, e_x54, hp⟩ := owp_ob hp
            refine ab_lald X hR e_x54 dX10_isBefore_140 ?_
            refine lv_aload_n hx hb dX10_isBefore_141 rfl (lv_at hl 0 rfl) ?_
            refine lv_iload_n hx hb dX10_isBefore_142 rfl (lv_at hl 1 rfl) ?_
            refine lv_iconst (v := (1)) hx hb dX10_isBefore_143 (by decide) ?_
            obtain ⟨x56, N55, e_N55, hp⟩ := owp_ob2 hp
            refine iv_X10_of (rest := [.long x54, .long (x50 * (Int32.toInt64 x52))]) mw_X10_52 X hR hS e_N55 hl.1 (Nat.le_of_ble_eq_true rfl) ⟨Nat.le_of_ble_eq_true rfl, Nat.le_of_ble_eq_true rfl⟩ ⟨Nat.le_of_ble_eq_true rfl, Nat.le_of_ble_eq_true rfl⟩ dX10_isBefore_144 (fun H locs hR hS => ?_)
            refine lv_i2l (v := Int32.toInt64 x56) hx hb dX10_isBefore_147 rfl ?_
            refine lv_lmul hx hb dX10_isBefore_148 ?_
            refine W.lcmp hx hb dX10_isBefore_149 ?_
            refine lv_if_gt (tgt := 157) hx hb dX10_isBefore_150 (by decide) (fun k57 => ?_) (fun k57 => ?_)
            · have hp := owp_t k57 hp
              refine lv_iconst (v := (0)) hx hb dX10_isBefore_157 (by decide) ?_
              exact hr _ _ _ _ _ _ hR hS dX10_isBefore_158 (rZ_0 hp)
            · have hp := owp_f k57 hp
              refine lv_iconst (v := (1)) hx hb dX10_isBefore_153 (by decide) ?_
              refine lv_goto (tgt := 158) hx hb dX10_isBefore_154 (by decide) ?_
              exact hr _ _ _ _ _ _ hR hS dX10_isBefore_158 (rZ_1 hp)
    · have hp := owp_f k24 hp
      exact w_X10_isBefore_J16 X hr _ _ _ _ _ _ _ hR hS hl hp
end
theorem ct_X10_isBefore {v0 : Nat} {v1 : Int32} {v2 : Int32} {N N1 : AH} {r : Int32} (h : f_X10_isBefore v0 v1 v2 N = some (r, N1)) : Ct yX10_isBefore cX10_isBefore 4 (some .boolean) rm_X10_isBefore [.ref v0, .int v1, .int v2] N (some (.int r)) N1 :=
  ab_met (own := RX10) (by decide +kernel) rfl (Nat.le_of_ble_eq_true rfl) (fun l G aC t b0 p e s m below meth c ls X hr hlk hnm hR hS hl => wk_X10_isBefore X (RtZ_met X.1.1 X.1.2.1 hr hlk) _ _ _ _ _ _ _ hR hS hl (owp_of h))
theorem cw_X10_isBefore : Cond.code yX10_isBefore cX10_isBefore 4 (some .boolean) ∈ WT := WT_of 1201 (by decide +kernel) (by decide +kernel)
theorem iv_X10_isBefore {p : Program} {l : Launch} {e : Env} {R : Room} {s : State} {m : MethodId} {args : Array Value} {below : List Frame} {meth : Method} {c : Code} {H : Heap} {locs : List Loc} {cells slots : Nat} {Q : State → Prop} {cc : ByteArray} {own : String} {nL : Nat} {G : va_G} {aC : Nat → ClassId} {t b0 : Nat} {N N1 : AH} {pc index : Nat} {ls : Array Slot} {rest : List Value} {v0 : Nat} {v1 : Int32} {v2 : Int32} {r : Int32} (w1 : Cond.methodLink own index yX10_isBefore ∈ WT) (X : CX cc own nL G aC t b0 p s m args c) (hR : Rp G aC b0 N H) (hS : va_S (fun q => b0 ≤ q) s.heap H locs) (h : f_X10_isBefore v0 v1 v2 N = some (r, N1)) (hls : ls.size = nL) (hW : (rest.map fun v => v.category).sum ≤ 8) (hR1 : 3 ≤ R.frames ∧ 66 ≤ R.locals) (hcs : cells + 0 ≤ R.cells ∧ slots + 0 ≤ R.slots) (hdg : decode cc pc = .ok (.invokevirtual index, 3)) (kk : ∀ (H1 : Heap) (locs1 : List Loc), Rp G aC b0 N1 H1 → va_S (fun q => b0 ≤ q) s.heap H1 locs1 → W p l e R s m args below meth c H1 locs1 cells slots Q (F0 m (pc + 3) ls (.int r :: rest))) : W p l e R s m args below meth c H locs cells slots Q (F0 m pc ls (.int v2 :: .int v1 :: .ref v0 :: rest)) :=
  ab_callV (n := 2) (As := [.int v1, .int v2]) X hR hS (ct_X10_isBefore h) (ob_rc (c := 10) (N := N) (a := v0) h) (T := TX10) (k := 20) (C := RX10) rfl w1 (WT_of 1200 (by decide +kernel) (by decide +kernel)) (WT_of 64 (by decide +kernel) (by decide +kernel)) (WT_of 92 (by decide +kernel) (by decide +kernel)) cw_X10_isBefore ⟨rfl, by decide +kernel, by decide +kernel, by decide +kernel⟩ rfl hls hW hR1 hcs rfl hdg kk
