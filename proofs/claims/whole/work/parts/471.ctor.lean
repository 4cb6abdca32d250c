/-! the constructors: history, foretelling, the whole object, the reference -/
def hR6 (a j : Nat) : AE := .inr (3, 6, .inr (.inr (.inr (.inr (fun x => if x < j then some (a + (2 + 98 * x)) else none)))))
def A5 (a j u : Nat) : AE := if u = 1 then hR6 a j else sF (a + (2 + 98 * ((u - 2) / 98))) ((u - 2) % 98)
theorem st_h {N : AH} {m j : Nat} {fs : List Value} {α : Type} {f : AH → Option α} {x : Int32} (hm : m = 2 + 98 * j) (hj : j < 6) (hx : x = nI j) (hfs : fs[2]? = some (.ref (N.1 + 1))) : ob (hR (bk N m (Dob 5 fs (A5 N.1 j))) N.1 5 2) (fun x11 => ob2 (f_X7_init (bk N m (Dob 5 fs (A5 N.1 j))).1 (nO (bk N m (Dob 5 fs (A5 N.1 j))) 7 zX7)) (fun _ N12 => ob (sR N12 3 7 x11 x (bk N m (Dob 5 fs (A5 N.1 j))).1) f)) = f (bk N (m + 98) (Dob 5 fs (A5 N.1 (j + 1)))) := by
  rw [st_hR (by omega) hfs, ob2_i (i_7 _), bk_bk]
  have e9 : (bk N (m + 98) (fun u => if u < m then Dob 5 fs (A5 N.1 j) u else sF (bk N m (Dob 5 fs (A5 N.1 j))).1 (u - m))).2 (N.1 + 1) = some (hR6 N.1 j) := by
    rw [bk_at (by omega), if_pos (by omega)]
    rfl
  have em : (bk N (m + 98) (fun u => if u < m then Dob 5 fs (A5 N.1 j) u else sF (bk N m (Dob 5 fs (A5 N.1 j))).1 (u - m))).2 (bk N m (Dob 5 fs (A5 N.1 j))).1 = some (.inl (7, s7 (N.1 + m))) := by
    show (bk N (m + 98) (fun u => if u < m then Dob 5 fs (A5 N.1 j) u else sF (bk N m (Dob 5 fs (A5 N.1 j))).1 (u - m))).2 (N.1 + m) = _
    rw [bk_at (by omega), if_neg (by omega), Nat.sub_self]
    rfl
  have es : sR (bk N (m + 98) (fun u => if u < m then Dob 5 fs (A5 N.1 j) u else sF (bk N m (Dob 5 fs (A5 N.1 j))).1 (u - m))) 3 7 (N.1 + 1) x (bk N m (Dob 5 fs (A5 N.1 j))).1 = some (ab_up (bk N (m + 98) (fun u => if u < m then Dob 5 fs (A5 N.1 j) u else sF (bk N m (Dob 5 fs (A5 N.1 j))).1 (u - m))) (N.1 + 1) (.inr (3, 6, .inr (.inr (.inr (.inr (va_up (fun x => if x < j then some (N.1 + (2 + 98 * x)) else none) j (some (N.1 + m))))))))) := by
    have h1 : ¬ (nI j < 0 ∨ 6 ≤ (nI j).toNatClampNeg) := nI_in hj (by omega)
    have h2 : (nI j).toNatClampNeg = j := nI_clamp (by omega)
    unfold sR
    rw [e9, em, hx]
    show (if (3 : Nat) = 3 ∧ (7 : Nat) = 7 then (if nI j < 0 ∨ 6 ≤ (nI j).toNatClampNeg then none else some (ab_up _ (N.1 + 1) (.inr (3, 6, .inr (.inr (.inr (.inr (va_up (fun x => if x < j then some (N.1 + (2 + 98 * x)) else none) (nI j).toNatClampNeg (some (N.1 + m)))))))))) else none) = _
    rw [if_pos ⟨rfl, rfl⟩, if_neg h1, h2]
  rw [ob_i es, bk_up (by omega)]
  refine congrArg f (bk_ext (fun u hu => ?_))
  by_cases h9 : u = 1
  · rw [if_pos h9, h9]
    show _ = hR6 N.1 (j + 1)
    unfold hR6
    refine congrArg (fun g => (Sum.inr (3, 6, .inr (.inr (.inr (.inr g)))) : AE)) (funext fun y => ?_)
    unfold va_up
    by_cases q1 : y = j
    · rw [if_pos q1, if_pos (by omega), q1, hm]
    · rw [if_neg q1]
      dsimp only
      by_cases q2 : y < j
      · rw [if_pos q2, if_pos (by omega)]
      · rw [if_neg q2, if_neg (by omega)]
  · rw [if_neg h9]
    by_cases h0 : u < m
    · rw [if_pos h0]
      by_cases hu0 : u = 0
      · rw [hu0]; rfl
      · rw [Dob_s (by omega), Dob_s (by omega)]
        unfold A5
        rw [if_neg h9, if_neg h9]
    · rw [if_neg h0, Dob_s (by omega)]
      unfold A5
      rw [if_neg h9, show (u - 2) / 98 = j by omega, show (u - 2) % 98 = u - m by omega, ← hm]
      rfl
def k5 (a : Nat) : Nat → AE := Dob 5 [.int 0, .int 0, .ref (a + 1)] (A5 a 6)
theorem i_5 (N : AH) : f_X5_init N.1 (nO N 5 zX5) = some ((), bk N 590 (k5 N.1)) := by
  unfold f_X5_init
  rw [nO_b (A := A5 N.1 0), stR0 (by omega) (by simp) (by
    show hR6 N.1 0 = _
    unfold hR6
    refine congrArg (fun g => (Sum.inr (3, 6, .inr (.inr (.inr (.inr g)))) : AE)) (funext fun y => ?_)
    rw [if_neg (by omega)])]
  rw [st_h (j := 0) (by rfl) (by omega) (by rfl) (by rfl), st_h (j := 1) (by rfl) (by omega) (by rfl) (by rfl), st_h (j := 2) (by rfl) (by omega) (by rfl) (by rfl), st_h (j := 3) (by rfl) (by omega) (by rfl) (by rfl), st_h (j := 4) (by rfl) (by omega) (by rfl) (by rfl), st_h (j := 5) (by rfl) (by omega) (by rfl) (by rfl)]
  rfl
def A3 (a u : Nat) : AE := if u < 99 then sF (a + 1) (u - 1) else if u < 110 then k8 (a + 99) (u - 99) else if u < 112 then k6 (a + 110) (u - 110) else aZ 4
theorem A3_a {a u : Nat} (hu : u < 98) : sF (a + 1) u = A3 a (1 + u) := by
  unfold A3
  rw [if_pos (by omega), Nat.add_sub_cancel_left]
theorem A3_b {a u : Nat} (hu : u < 11) : k8 (a + 99) u = A3 a (99 + u) := by
  unfold A3
  rw [if_neg (by omega), if_pos (by omega), Nat.add_sub_cancel_left]
theorem A3_c {a u : Nat} (hu : u < 2) : k6 (a + 110) u = A3 a (110 + u) := by
  unfold A3
  rw [if_neg (by omega), if_neg (by omega), if_pos (by omega), Nat.add_sub_cancel_left]
def k3 (a : Nat) : Nat → AE := Dob 3 [.ref (a + 1), .ref (a + 99), .ref (a + 110), .int 0, .ref (a + 112), .int 0, .ref (a + 113)] (A3 a)
theorem i_3 (N : AH) : f_X3_init N.1 (nO N 3 zX3) = some ((), bk N 114 (k3 N.1)) := by
  unfold f_X3_init
  rw [nO_b (A := A3 N.1), ob2_i (i_7 _), stB (by omega) (fun u hu => by exact A3_a hu), stp (by omega) (by simp), ob2_i (i_8 _), stB (by omega) (fun u hu => by exact A3_b hu), stp (by omega) (by simp), ob2_i (i_6 _), stB (by omega) (fun u hu => by exact A3_c hu), stp (by omega) (by simp), stI (by omega) (by simp) (by rfl), stI (by omega) (by simp) (by rfl)]
  rfl
def A9 (a u : Nat) : AE := if u < 9 then k2 (a + 1) (u - 1) else if u < 107 then sF (a + 9) (u - 9) else if u < 697 then k5 (a + 107) (u - 107) else if u < 708 then k8 (a + 697) (u - 697) else if u < 710 then k6 (a + 708) (u - 708) else k3 (a + 710) (u - 710)
theorem A9_a {a u : Nat} (hu : u < 8) : k2 (a + 1) u = A9 a (1 + u) := by
  unfold A9
  rw [if_pos (by omega), Nat.add_sub_cancel_left]
theorem A9_b {a u : Nat} (hu : u < 98) : sF (a + 9) u = A9 a (9 + u) := by
  unfold A9
  rw [if_neg (by omega), if_pos (by omega), Nat.add_sub_cancel_left]
theorem A9_c {a u : Nat} (hu : u < 590) : k5 (a + 107) u = A9 a (107 + u) := by
  unfold A9
  rw [if_neg (by omega), if_neg (by omega), if_pos (by omega), Nat.add_sub_cancel_left]
theorem A9_d {a u : Nat} (hu : u < 11) : k8 (a + 697) u = A9 a (697 + u) := by
  unfold A9
  rw [if_neg (by omega), if_neg (by omega), if_neg (by omega), if_pos (by omega), Nat.add_sub_cancel_left]
theorem A9_e {a u : Nat} (hu : u < 2) : k6 (a + 708) u = A9 a (708 + u) := by
  unfold A9
  rw [if_neg (by omega), if_neg (by omega), if_neg (by omega), if_neg (by omega), if_pos (by omega), Nat.add_sub_cancel_left]
theorem A9_f {a u : Nat} (hu : u < 114) : k3 (a + 710) u = A9 a (710 + u) := by
  unfold A9
  rw [if_neg (by omega), if_neg (by omega), if_neg (by omega), if_neg (by omega), if_neg (by omega), Nat.add_sub_cancel_left]
def k9 (a : Nat) : Nat → AE := Dob 9 [.ref (a + 1), .ref (a + 9), .ref (a + 107), .ref (a + 697), .ref (a + 708), .ref (a + 710)] (A9 a)
theorem i_9 (N : AH) : f_X9_init N.1 (nO N 9 zX9) = some ((), bk N 824 (k9 N.1)) := by
  unfold f_X9_init
  rw [nO_b (A := A9 N.1), ob2_i (i_2 _), stB (by omega) (fun u hu => by exact A9_a hu), stp (by omega) (by simp), ob2_i (i_7 _), stB (by omega) (fun u hu => by exact A9_b hu), stp (by omega) (by simp), ob2_i (i_5 _), stB (by omega) (fun u hu => by exact A9_c hu), stp (by omega) (by simp), ob2_i (i_8 _), stB (by omega) (fun u hu => by exact A9_d hu), stp (by omega) (by simp), ob2_i (i_6 _), stB (by omega) (fun u hu => by exact A9_e hu), stp (by omega) (by simp), ob2_i (i_3 _), stB (by omega) (fun u hu => by exact A9_f hu), stp (by omega) (by simp)]
  rfl
def A10 (row : Nat → Int32) (u : Nat) : AE := if u = 1 then .inr (0, 9456, .inl row) else if u = 2 then aZ 120 else if u = 3 then aZ 16 else if u = 4 then aZ 16 else if u = 5 then aZ 12 else if u = 6 then aZ 4 else if u = 7 then .inr (1, 12, .inr (.inl (fun _ => 0))) else if u = 8 then .inr (1, 12, .inr (.inl (fun _ => 0))) else if u = 9 then aZ 12 else if u = 10 then aZ 192 else aZ 4
theorem st_row {N : AH} {fs : List Value} {row : Nat → Int32} {x : Nat} {v : Int32} {α : Type} {f : AH → Option α} {y : Int32} (hy : y = nI x) (hx : x < 9456) : ob (sI (bk N 12 (Dob 10 fs (A10 row))) (N.1 + 1) y v) f = f (bk N 12 (Dob 10 fs (A10 (upd row x v)))) := by
  refine ob_i ?_
  have e1 : (nI x).toNatClampNeg = x := nI_clamp (by omega)
  have e2 : ¬ (nI x < 0 ∨ 9456 ≤ (nI x).toNatClampNeg) := nI_in hx (by omega)
  have e0 : (bk N 12 (Dob 10 fs (A10 row))).2 (N.1 + 1) = some (.inr (0, 9456, .inl row)) := by rw [bk_at (by omega)]; rfl
  rw [e1] at e2
  rw [hy]
  simp only [sI, e0, if_neg e2, e1]
  rw [bk_up (by omega)]
  refine congrArg some (bk_ext (fun w hw => ?_))
  by_cases h0 : w = 1
  · rw [if_pos h0, h0]; rfl
  · rw [if_neg h0]
    unfold Dob A10
    rw [if_neg h0, if_neg h0]
def rowJ (j : Nat) : Nat → Int32 := fun q => if 10 ≤ q ∧ q < 10 + j then 100 else upd (upd (fun _ => 0) 2 1) 5 (-1) q
theorem rowJ_s (j : Nat) : upd (rowJ j) (10 + j) 100 = rowJ (j + 1) := by
  funext q
  by_cases h : q = 10 + j
  · rw [h, pk_us]
    unfold rowJ
    rw [if_pos (by omega)]
  · rw [pk_un h]
    unfold rowJ
    by_cases h2 : 10 ≤ q ∧ q < 10 + j
    · rw [if_pos h2, if_pos (by omega)]
    · rw [if_neg h2, if_neg (by omega)]
theorem rowJ_0 : rowJ 0 = upd (upd (fun _ => 0) 2 1) 5 (-1) := by
  funext q
  unfold rowJ
  rw [if_neg (by omega)]
def s10 (a : Nat) : List Value := [.ref (a + 1), .int 0, .ref (a + 2), .int 0, .ref (a + 3), .ref (a + 4), .ref (a + 5), .int 0, .int 0, .ref (a + 6), .int 0, .ref (a + 7), .ref (a + 8), .ref (a + 9), .ref (a + 10), .int 0, .int 0, .int 0, .ref (a + 11), .long 0]
def k10 (a : Nat) : Nat → AE := Dob 10 (s10 a) (A10 (rowJ 16))
theorem i_10 (N : AH) : f_X10_init N.1 (nO N 10 zX10) = some ((), bk N 12 (k10 N.1)) := by
  have hl : ∀ fs : List Value, fs[0]? = some (.ref (N.1 + 1)) → f_X10_init_L108 N.1 (fun N19 => some ((), N19)) FU (0 : Int32) (bk N 12 (Dob 10 fs (A10 (rowJ 0)))) = some ((), bk N 12 (Dob 10 fs (A10 (rowJ 16)))) := by
    intro fs hfs
    refine loopN (fun m j => f_X10_init_L108 N.1 (fun N19 => some ((), N19)) m (nI j) (bk N 12 (Dob 10 fs (A10 (rowJ j))))) 16 ?_ ?_ FU 0 (by omega) (by have := FUgt; omega)
    · intro m j hj
      try dsimp only
      rw [f_X10_init_L108, if_neg (show ¬ (16 : Int32) ≤ nI j from le_n (a := 16) hj (by omega)), st_hR (by omega) hfs, li 10, nI_add, st_row rfl (by omega), rowJ_s, nI_1]
    · intro m
      try dsimp only
      rw [f_X10_init_L108, if_pos (by decide)]
  unfold f_X10_init
  rw [nO_b (A := A10 (fun _ => 0)), stI (by omega) (by simp) (by rfl), stI (by omega) (by simp) (by rfl), stI (by omega) (by simp) (by rfl), stI (by omega) (by simp) (by rfl), stI (by omega) (by simp) (by rfl), stI (by omega) (by simp) (by rfl), stJ (by omega) (by simp) (by rfl), stJ (by omega) (by simp) (by rfl), stI (by omega) (by simp) (by rfl), stI (by omega) (by simp) (by rfl), stI (by omega) (by simp) (by rfl), st_hR (v := N.1 + 1) (by omega) (by rfl)]
  refine (st_row (N := N) (x := 2) rfl (by omega)).trans ?_
  rw [st_hR (v := N.1 + 1) (by omega) (by rfl)]
  refine (st_row (N := N) (x := 5) rfl (by omega)).trans ?_
  rw [← rowJ_0]
  exact hl _ rfl
/-! the first world -/
def W0 : WD := (fun c _ _ k => if c = 7 ∧ k = 2 then 1 else if c = 7 ∧ k = 5 then -1 else 0, fun c _ _ k => if c = 7 ∧ k = 7 then c100 else if c = 10 ∧ k = 0 then rowJ 16 else fun _ => 0, fun _ _ _ _ _ => 0)
theorem sF_cel {b i : Nat} : ∀ u, u < 98 → sF (b + sA i) u = cel b W0 (dS i u) := by
  intro u hu
  by_cases h0 : u < 10
  · have : u = 0 ∨ u = 1 ∨ u = 2 ∨ u = 3 ∨ u = 4 ∨ u = 5 ∨ u = 6 ∨ u = 7 ∨ u = 8 ∨ u = 9 := by omega
    rcases this with rfl | rfl | rfl | rfl | rfl | rfl | rfl | rfl | rfl | rfl
    · rfl
    · rfl
    · rfl
    · rfl
    · rfl
    · rfl
    · rfl
    · rfl
    · rfl
    · show gR (b + sA i) 12 = .inr (2, 12, .inr (.inr (.inr (.inr (fun x => if x < 12 then some (b + ad 4 i x) else none)))))
      unfold gR
      refine congrArg (fun g => (Sum.inr (2, 12, .inr (.inr (.inr (.inr g)))) : AE)) (funext fun y => ?_)
      by_cases hy : y < 12
      · rw [if_pos hy, if_pos hy]
        congr 1
        show b + sA i + (10 + 7 * y) = b + (sA i + 10 + 7 * y)
        omega
      · rw [if_neg hy, if_neg hy]
  · by_cases h94 : u < 94
    · have hd : dS i u = (if (u - 10) % 7 = 0 then (4, i, (u - 10) / 7, 0) else if (u - 10) % 7 = 1 then (1, i, (u - 10) / 7, 0) else (1, i, (u - 10) / 7, (u - 10) % 7)) := by
        unfold dS
        rw [if_neg (by omega), if_neg (by omega), if_neg (by omega), if_neg (by omega), if_neg (by omega), if_neg (by omega), if_pos h94]
      have hs : sF (b + sA i) u = k4 (b + sA i + (10 + 7 * ((u - 10) / 7))) ((u - 10) % 7) := by
        unfold sF
        rw [Dob_s (by omega)]
        unfold A7
        rw [if_neg (by omega), if_neg (by omega), if_neg (by omega), if_neg (by omega), if_pos h94]
      rw [hd, hs]
      have ht : (u - 10) % 7 < 7 := Nat.mod_lt _ (by omega)
      generalize (u - 10) % 7 = t at *
      generalize (u - 10) / 7 = g at *
      have e4 : b + sA i + (10 + 7 * g) = b + ad 4 i g := by
        show b + sA i + (10 + 7 * g) = b + (sA i + 10 + 7 * g)
        omega
      have e1 : b + ad 4 i g + 1 = b + ad 1 i g := by
        show b + (sA i + 10 + 7 * g) + 1 = b + (sA i + 11 + 7 * g)
        omega
      rw [e4]
      have : t = 0 ∨ t = 1 ∨ t = 2 ∨ t = 3 ∨ t = 4 ∨ t = 5 ∨ t = 6 := by omega
      rcases this with rfl | rfl | rfl | rfl | rfl | rfl | rfl
      · show (Sum.inl (4, [.int 0, .int 0, .int 0, .int 0, .int 0, .ref (b + ad 4 i g + 1)]) : AE) = _
        rw [e1]
        rfl
      · show k1 (b + ad 4 i g + 1) 0 = _
        rw [e1]
        rfl
      · rfl
      · rfl
      · rfl
      · rfl
      · rfl
    · have : u = 94 ∨ u = 95 ∨ u = 96 ∨ u = 97 := by omega
      rcases this with rfl | rfl | rfl | rfl
      · rfl
      · rfl
      · rfl
      · rfl
theorem k8_cel {b i : Nat} (hi : i = 0 ∨ i = 1) : ∀ u, u < 11 → k8 (b + ad 8 i 0) u = cel b W0 (dT i u) := by
  intro u hu
  have : u = 0 ∨ u = 1 ∨ u = 2 ∨ u = 3 ∨ u = 4 ∨ u = 5 ∨ u = 6 ∨ u = 7 ∨ u = 8 ∨ u = 9 ∨ u = 10 := by omega
  rcases this with rfl | rfl | rfl | rfl | rfl | rfl | rfl | rfl | rfl | rfl | rfl <;> rcases hi with rfl | rfl <;> rfl
