/-! the constructors: cells laid behind a heap -/
def bk (N : AH) (m : Nat) (d : Nat → AE) : AH := (N.1 + m, fun q => if N.1 ≤ q ∧ q < N.1 + m then some (d (q - N.1)) else N.2 q)
theorem bk_at {N : AH} {m u : Nat} {d : Nat → AE} (h : u < m) : (bk N m d).2 (N.1 + u) = some (d u) := by
  show (if N.1 ≤ N.1 + u ∧ N.1 + u < N.1 + m then some (d (N.1 + u - N.1)) else N.2 (N.1 + u)) = some (d u)
  rw [if_pos ⟨by omega, by omega⟩, Nat.add_sub_cancel_left]
theorem bk_ext {N : AH} {m : Nat} {d d' : Nat → AE} (h : ∀ u, u < m → d u = d' u) : bk N m d = bk N m d' := by
  refine Prod.ext rfl (funext fun q => ?_)
  show (if N.1 ≤ q ∧ q < N.1 + m then some (d (q - N.1)) else N.2 q) = (if N.1 ≤ q ∧ q < N.1 + m then some (d' (q - N.1)) else N.2 q)
  by_cases hq : N.1 ≤ q ∧ q < N.1 + m
  · rw [if_pos hq, if_pos hq, h _ (by omega)]
  · rw [if_neg hq, if_neg hq]
theorem bk_n1 {N : AH} {e : AE} : ab_new N e = bk N 1 (fun _ => e) := by
  refine Prod.ext rfl (funext fun q => ?_)
  show (if q = N.1 then some e else N.2 q) = (if N.1 ≤ q ∧ q < N.1 + 1 then some e else N.2 q)
  by_cases hq : q = N.1
  · rw [if_pos hq, if_pos (by omega)]
  · rw [if_neg hq, if_neg (by omega)]
theorem bk_new {N : AH} {m : Nat} {d : Nat → AE} {e : AE} : ab_new (bk N m d) e = bk N (m + 1) (fun u => if u = m then e else d u) := by
  refine Prod.ext rfl (funext fun q => ?_)
  show (if q = N.1 + m then some e else if N.1 ≤ q ∧ q < N.1 + m then some (d (q - N.1)) else N.2 q) = (if N.1 ≤ q ∧ q < N.1 + (m + 1) then some (if q - N.1 = m then e else d (q - N.1)) else N.2 q)
  by_cases hq : q = N.1 + m
  · rw [if_pos hq, if_pos (by omega), if_pos (by omega)]
  · rw [if_neg hq]
    by_cases hb : N.1 ≤ q ∧ q < N.1 + m
    · rw [if_pos hb, if_pos (by omega), if_neg (by omega)]
    · rw [if_neg hb, if_neg (by omega)]
theorem bk_up {N : AH} {m u : Nat} {d : Nat → AE} {e : AE} (h : u < m) : ab_up (bk N m d) (N.1 + u) e = bk N m (fun v => if v = u then e else d v) := by
  refine Prod.ext rfl (funext fun q => ?_)
  show (if q = N.1 + u then some e else if N.1 ≤ q ∧ q < N.1 + m then some (d (q - N.1)) else N.2 q) = (if N.1 ≤ q ∧ q < N.1 + m then some (if q - N.1 = u then e else d (q - N.1)) else N.2 q)
  by_cases hq : q = N.1 + u
  · rw [if_pos hq, if_pos (by omega), if_pos (by omega)]
  · rw [if_neg hq]
    by_cases hb : N.1 ≤ q ∧ q < N.1 + m
    · rw [if_pos hb, if_pos hb, if_neg (by omega)]
    · rw [if_neg hb, if_neg hb]
theorem bk_bk {N : AH} {m k : Nat} {d e : Nat → AE} : bk (bk N m d) k e = bk N (m + k) (fun u => if u < m then d u else e (u - m)) := by
  refine Prod.ext (Nat.add_assoc _ _ _) (funext fun q => ?_)
  show (if N.1 + m ≤ q ∧ q < N.1 + m + k then some (e (q - (N.1 + m))) else if N.1 ≤ q ∧ q < N.1 + m then some (d (q - N.1)) else N.2 q) = (if N.1 ≤ q ∧ q < N.1 + (m + k) then some (if q - N.1 < m then d (q - N.1) else e (q - N.1 - m)) else N.2 q)
  by_cases hq : N.1 + m ≤ q ∧ q < N.1 + m + k
  · rw [if_pos hq, if_pos (by omega), if_neg (by omega), Nat.sub_sub]
  · rw [if_neg hq]
    by_cases hb : N.1 ≤ q ∧ q < N.1 + m
    · rw [if_pos hb, if_pos (by omega), if_pos (by omega)]
    · rw [if_neg hb, if_neg (by omega)]
/-- an object, then other cells -/
def Dob (c : Nat) (fs : List Value) (A : Nat → AE) : Nat → AE := fun u => if u = 0 then .inl (c, fs) else A u
section
variable {N : AH} {m c j : Nat} {fs : List Value} {A : Nat → AE}
theorem Dob_s {u : Nat} (h : 1 ≤ u) : Dob c fs A u = A u := if_neg (by omega)
theorem nO_b : nO N c fs = bk N 1 (Dob c fs A) := by
  unfold nO
  rw [bk_n1]
  exact bk_ext (fun u hu => by rw [show u = 0 by omega]; rfl)
theorem b_obj (hm : 1 ≤ m) : (bk N m (Dob c fs A)).2 N.1 = some (.inl (c, fs)) := by
  have e := bk_at (N := N) (m := m) (d := Dob c fs A) (u := 0) (by omega)
  exact e
theorem st_V {v : Value} (hm : 1 ≤ m) (hj : j < fs.length) : pV (bk N m (Dob c fs A)) N.1 c j v = some (bk N m (Dob c (fs.set j v) A)) := by
  have e1 : pV (bk N m (Dob c fs A)) N.1 c j v = some (ab_up (bk N m (Dob c fs A)) (N.1 + 0) (.inl (c, fs.set j v))) := by
    simp only [pV, b_obj hm]
    rw [if_pos ⟨trivial, hj⟩]
    rfl
  rw [e1, bk_up (by omega)]
  refine congrArg some (bk_ext (fun u hu => ?_))
  unfold Dob
  by_cases h0 : u = 0
  · rw [if_pos h0, if_pos h0]
  · rw [if_neg h0, if_neg h0, if_neg h0]
theorem st_new {e : AE} (hm : 1 ≤ m) (hA : A m = e) : ab_new (bk N m (Dob c fs A)) e = bk N (m + 1) (Dob c fs A) := by
  rw [bk_new]
  refine bk_ext (fun u hu => ?_)
  by_cases h0 : u = m
  · rw [if_pos h0, h0, Dob_s hm, hA]
  · rw [if_neg h0]
theorem stB {k : Nat} {K : Nat → AE} (hm : 1 ≤ m) (hK : ∀ u, u < k → K u = A (m + u)) : bk (bk N m (Dob c fs A)) k K = bk N (m + k) (Dob c fs A) := by
  rw [bk_bk]
  refine bk_ext (fun u hu => ?_)
  by_cases h0 : u < m
  · rw [if_pos h0]
  · rw [if_neg h0, Dob_s (by omega), hK _ (by omega), show m + (u - m) = u by omega]
variable {α : Type}
theorem stI {n : Nat} {f : AH → Option α} (hm : 1 ≤ m) (hj : j < fs.length) (hA : A m = .inr (0, n, .inl (fun _ => 0))) : ob (pR (nI0 (bk N m (Dob c fs A)) n) N.1 c j (bk N m (Dob c fs A)).1) f = f (bk N (m + 1) (Dob c (fs.set j (.ref (N.1 + m))) A)) := by
  unfold nI0 pR
  rw [st_new hm hA, ob_i (st_V (by omega) hj)]
  rfl
theorem stJ {n : Nat} {f : AH → Option α} (hm : 1 ≤ m) (hj : j < fs.length) (hA : A m = .inr (1, n, .inr (.inl (fun _ => 0)))) : ob (pR (nJ0 (bk N m (Dob c fs A)) n) N.1 c j (bk N m (Dob c fs A)).1) f = f (bk N (m + 1) (Dob c (fs.set j (.ref (N.1 + m))) A)) := by
  unfold nJ0 pR
  rw [st_new hm hA, ob_i (st_V (by omega) hj)]
  rfl
theorem stR0 {kd n : Nat} {f : AH → Option α} (hm : 1 ≤ m) (hj : j < fs.length) (hA : A m = .inr (kd, n, .inr (.inr (.inr (.inr (fun _ => none)))))) : ob (pR (nR0 (bk N m (Dob c fs A)) kd n) N.1 c j (bk N m (Dob c fs A)).1) f = f (bk N (m + 1) (Dob c (fs.set j (.ref (N.1 + m))) A)) := by
  unfold nR0 pR
  rw [st_new hm hA, ob_i (st_V (by omega) hj)]
  rfl
theorem stp {v : Nat} {f : AH → Option α} (hm : 1 ≤ m) (hj : j < fs.length) : ob (pR (bk N m (Dob c fs A)) N.1 c j v) f = f (bk N m (Dob c (fs.set j (.ref v)) A)) := by
  unfold pR
  rw [ob_i (st_V hm hj)]
theorem stpI {v : Int32} {f : AH → Option α} (hm : 1 ≤ m) (hj : j < fs.length) : ob (pI (bk N m (Dob c fs A)) N.1 c j v) f = f (bk N m (Dob c (fs.set j (.int v)) A)) := by
  unfold pI
  rw [ob_i (st_V hm hj)]
theorem stpZ {f : AH → Option α} (hm : 1 ≤ m) (hj : j < fs.length) : ob (pZ (bk N m (Dob c fs A)) N.1 c j 1) f = f (bk N m (Dob c (fs.set j (.int 1)) A)) := by
  unfold pZ
  rw [if_pos (Or.inr rfl), ob_i (st_V hm hj)]
theorem st_hR {v : Nat} {f : Nat → Option α} (hm : 1 ≤ m) (hv : fs[j]? = some (.ref v)) : ob (hR (bk N m (Dob c fs A)) N.1 c j) f = f v := by
  refine ob_i ?_
  simp only [hR, b_obj hm]
  rw [if_pos trivial, hv]
end
/-! the classes one by one -/
def aZ (n : Nat) : AE := .inr (0, n, .inl (fun _ => 0))
def k1 (a : Nat) : Nat → AE := Dob 1 [.int 0, .ref (a + 1), .ref (a + 2), .ref (a + 3), .ref (a + 4), .ref (a + 5)] (fun _ => aZ 16)
theorem i_1 (N : AH) : f_X1_init N.1 (nO N 1 zX1) = some ((), bk N 6 (k1 N.1)) := by
  unfold f_X1_init
  rw [nO_b (A := fun _ => aZ 16), stI (by omega) (by simp) (by rfl), stI (by omega) (by simp) (by rfl), stI (by omega) (by simp) (by rfl), stI (by omega) (by simp) (by rfl), stI (by omega) (by simp) (by rfl)]
  rfl
def k0 (a : Nat) : Nat → AE := Dob 0 [.int 0, .int 0, .ref (a + 1), .ref (a + 2), .ref (a + 3)] (fun _ => aZ 20)
theorem i_0 (N : AH) : f_X0_init N.1 (nO N 0 zX0) = some ((), bk N 4 (k0 N.1)) := by
  unfold f_X0_init
  rw [nO_b (A := fun _ => aZ 20), stI (by omega) (by simp) (by rfl), stI (by omega) (by simp) (by rfl), stI (by omega) (by simp) (by rfl)]
  rfl
def k6 (a : Nat) : Nat → AE := Dob 6 [.ref (a + 1)] (fun _ => aZ 16)
theorem i_6 (N : AH) : f_X6_init N.1 (nO N 6 zX6) = some ((), bk N 2 (k6 N.1)) := by
  unfold f_X6_init
  rw [nO_b (A := fun _ => aZ 16), stI (by omega) (by simp) (by rfl)]
  rfl
def A8 (u : Nat) : AE := if u = 6 then .inr (1, 12, .inr (.inl (fun _ => 0))) else if u = 3 then aZ 16 else if 8 ≤ u then aZ 16 else aZ 12
def k8 (a : Nat) : Nat → AE := Dob 8 [.int 0, .ref (a + 1), .ref (a + 2), .ref (a + 3), .ref (a + 4), .ref (a + 5), .ref (a + 6), .ref (a + 7), .ref (a + 8), .ref (a + 9), .ref (a + 10)] A8
theorem i_8 (N : AH) : f_X8_init N.1 (nO N 8 zX8) = some ((), bk N 11 (k8 N.1)) := by
  unfold f_X8_init
  rw [nO_b (A := A8), stI (by omega) (by simp) (by rfl), stI (by omega) (by simp) (by rfl), stI (by omega) (by simp) (by rfl), stI (by omega) (by simp) (by rfl), stI (by omega) (by simp) (by rfl), stJ (by omega) (by simp) (by rfl), stI (by omega) (by simp) (by rfl), stI (by omega) (by simp) (by rfl), stI (by omega) (by simp) (by rfl), stI (by omega) (by simp) (by rfl)]
  rfl
def A4 (a u : Nat) : AE := k1 (a + 1) (u - 1)
def k4 (a : Nat) : Nat → AE := Dob 4 [.int 0, .int 0, .int 0, .int 0, .int 0, .ref (a + 1)] (A4 a)
theorem i_4 (N : AH) : f_X4_init N.1 (nO N 4 zX4) = some ((), bk N 7 (k4 N.1)) := by
  unfold f_X4_init
  rw [nO_b (A := A4 N.1), ob2_i (i_1 _), stB (by omega) (fun u hu => by unfold A4; rw [Nat.add_sub_cancel_left]; rfl), stp (by omega) (by simp)]
  rfl
def A2t (a u : Nat) : AE := if u = 1 then aZ 120 else k1 (a + 2) (u - 2)
def k2 (a : Nat) : Nat → AE := Dob 2 [.int 0, .int 0, .ref (a + 1), .ref (a + 2)] (A2t a)
theorem i_2 (N : AH) : f_X2_init N.1 (nO N 2 zX2) = some ((), bk N 8 (k2 N.1)) := by
  unfold f_X2_init
  rw [nO_b (A := A2t N.1), stI (by omega) (by simp) (by rfl), ob2_i (i_1 _), stB (by omega) (fun u hu => by unfold A2t; rw [if_neg (by omega), show 1 + 1 + u - 2 = u by omega]; rfl), stp (by omega) (by simp)]
  rfl
def gR (a j : Nat) : AE := .inr (2, 12, .inr (.inr (.inr (.inr (fun x => if x < j then some (a + (10 + 7 * x)) else none)))))
def A7 (a : Nat) (cap : Nat → Int32) (j u : Nat) : AE := if u = 1 then .inr (0, 16, .inl cap) else if u = 2 then aZ 16 else if u < 9 then k1 (a + 3) (u - 3) else if u = 9 then gR a j else if u < 94 then k4 (a + (10 + 7 * ((u - 10) / 7))) ((u - 10) % 7) else k0 (a + 94) (u - 94)
theorem A7_j {a j j' u : Nat} {cap : Nat → Int32} (h : u ≠ 9) : A7 a cap j u = A7 a cap j' u := by
  unfold A7
  rw [if_neg h, if_neg h]
theorem A7_94 {a j u : Nat} {cap : Nat → Int32} : A7 a cap j (94 + u) = k0 (a + 94) u := by
  unfold A7
  rw [if_neg (by omega), if_neg (by omega), if_neg (by omega), if_neg (by omega), if_neg (by omega), Nat.add_sub_cancel_left]
theorem st_g {N : AH} {m j : Nat} {fs : List Value} {cap : Nat → Int32} {α : Type} {f : AH → Option α} {x : Int32} (hm : m = 10 + 7 * j) (hj : j < 12) (hx : x = nI j) (hfs : fs[10]? = some (.ref (N.1 + 9))) : ob (hR (bk N m (Dob 7 fs (A7 N.1 cap j))) N.1 7 10) (fun x11 => ob2 (f_X4_init (bk N m (Dob 7 fs (A7 N.1 cap j))).1 (nO (bk N m (Dob 7 fs (A7 N.1 cap j))) 4 zX4)) (fun _ N12 => ob (sR N12 2 4 x11 x (bk N m (Dob 7 fs (A7 N.1 cap j))).1) f)) = f (bk N (m + 7) (Dob 7 fs (A7 N.1 cap (j + 1)))) := by
  rw [st_hR (by omega) hfs, ob2_i (i_4 _), bk_bk]
  have e9 : (bk N (m + 7) (fun u => if u < m then Dob 7 fs (A7 N.1 cap j) u else k4 (bk N m (Dob 7 fs (A7 N.1 cap j))).1 (u - m))).2 (N.1 + 9) = some (gR N.1 j) := by
    rw [bk_at (by omega), if_pos (by omega)]
    rfl
  have em : (bk N (m + 7) (fun u => if u < m then Dob 7 fs (A7 N.1 cap j) u else k4 (bk N m (Dob 7 fs (A7 N.1 cap j))).1 (u - m))).2 (bk N m (Dob 7 fs (A7 N.1 cap j))).1 = some (.inl (4, [.int 0, .int 0, .int 0, .int 0, .int 0, .ref (N.1 + m + 1)])) := by
    show (bk N (m + 7) (fun u => if u < m then Dob 7 fs (A7 N.1 cap j) u else k4 (bk N m (Dob 7 fs (A7 N.1 cap j))).1 (u - m))).2 (N.1 + m) = _
    rw [bk_at (by omega), if_neg (by omega), Nat.sub_self]
    rfl
  have es : sR (bk N (m + 7) (fun u => if u < m then Dob 7 fs (A7 N.1 cap j) u else k4 (bk N m (Dob 7 fs (A7 N.1 cap j))).1 (u - m))) 2 4 (N.1 + 9) x (bk N m (Dob 7 fs (A7 N.1 cap j))).1 = some (ab_up (bk N (m + 7) (fun u => if u < m then Dob 7 fs (A7 N.1 cap j) u else k4 (bk N m (Dob 7 fs (A7 N.1 cap j))).1 (u - m))) (N.1 + 9) (.inr (2, 12, .inr (.inr (.inr (.inr (va_up (fun x => if x < j then some (N.1 + (10 + 7 * x)) else none) j (some (N.1 + m))))))))) := by
    have h1 : ¬ (nI j < 0 ∨ 12 ≤ (nI j).toNatClampNeg) := nI_in hj (by omega)
    have h2 : (nI j).toNatClampNeg = j := nI_clamp (by omega)
    unfold sR
    rw [e9, em, hx]
    show (if (2 : Nat) = 2 ∧ (4 : Nat) = 4 then (if nI j < 0 ∨ 12 ≤ (nI j).toNatClampNeg then none else some (ab_up _ (N.1 + 9) (.inr (2, 12, .inr (.inr (.inr (.inr (va_up (fun x => if x < j then some (N.1 + (10 + 7 * x)) else none) (nI j).toNatClampNeg (some (N.1 + m)))))))))) else none) = _
    rw [if_pos ⟨rfl, rfl⟩, if_neg h1, h2]
  rw [ob_i es, bk_up (by omega)]
  refine congrArg f (bk_ext (fun u hu => ?_))
  by_cases h9 : u = 9
  · rw [if_pos h9, h9]
    show _ = gR N.1 (j + 1)
    unfold gR
    refine congrArg (fun g => (Sum.inr (2, 12, .inr (.inr (.inr (.inr g)))) : AE)) (funext fun y => ?_)
    unfold va_up
    by_cases q1 : y = j
    · rw [if_pos q1, if_pos (by omega), q1, hm]
    · rw [if_neg q1]
      dsimp only
      by_cases q2 : y < j
      · rw [if_pos q2, if_pos (by omega)]
      · rw [if_neg q2, if_neg (by omega)]
  · rw [if_neg h9]
    by_cases h0 : u < m
    · rw [if_pos h0]
      by_cases hu0 : u = 0
      · rw [hu0]; rfl
      · rw [Dob_s (by omega), Dob_s (by omega), A7_j h9]
    · rw [if_neg h0, Dob_s (by omega)]
      unfold A7
      rw [if_neg (by omega), if_neg (by omega), if_neg (by omega), if_neg (by omega), if_pos (by omega), show (u - 10) / 7 = j by omega, show (u - 10) % 7 = u - m by omega, ← hm]
      rfl
theorem st_fill {N : AH} {m u n : Nat} {d : Nat → AE} {F : Nat → Int32} {v : Int32} (hu : u < m) (hn : n < 4000) (hd : d u = .inr (0, n, .inl F)) : f_J7_fill_53178 (N.1 + u) v (bk N m d) = some ((), bk N m (fun w => if w = u then .inr (0, n, .inl (filI F n (fun _ => v))) else d w)) := by
  have hS : ∀ (G : Nat → Int32) (x : Nat), x < n → sI (bk N m (fun w => if w = u then .inr (0, n, .inl G) else d w)) (N.1 + u) (nI x) v = some (bk N m (fun w => if w = u then .inr (0, n, .inl (upd G x v)) else d w)) := by
    intro G x hx
    have e1 : (nI x).toNatClampNeg = x := nI_clamp (by omega)
    have e2 : ¬ (nI x < 0 ∨ n ≤ (nI x).toNatClampNeg) := nI_in hx (by omega)
    have e0 : (bk N m (fun w => if w = u then .inr (0, n, .inl G) else d w)).2 (N.1 + u) = some (.inr (0, n, .inl G)) := by rw [bk_at hu, if_pos rfl]
    rw [e1] at e2
    simp only [sI, e0, if_neg e2, e1]
    rw [bk_up hu]
    refine congrArg some (bk_ext (fun w hw => ?_))
    by_cases h0 : w = u
    · rw [if_pos h0, if_pos h0]
    · rw [if_neg h0, if_neg h0, if_neg h0]
  have hb : bk N m d = bk N m (fun w => if w = u then .inr (0, n, .inl F) else d w) := bk_ext (fun w hw => by
    by_cases h0 : w = u
    · rw [if_pos h0, h0, hd]
    · rw [if_neg h0])
  have hLen : aL (bk N m d) (N.1 + u) = some (nI n) := by
    simp only [aL, bk_at hu, hd]
    rfl
  unfold f_J7_fill_53178
  rw [ob_i hLen, hb]
  have e := loopN (fun k j => f_J7_fill_53178_L5 (N.1 + u) v (nI n) (fun N4 => some ((), N4)) k (nI j) (bk N m (fun w => if w = u then .inr (0, n, .inl (filI F j (fun _ => v))) else d w))) n (y := some ((), bk N m (fun w => if w = u then .inr (0, n, .inl (filI F n (fun _ => v))) else d w))) ?_ ?_ FU 0 (by omega) (by have := FUgt; omega)
  · rw [filI_0] at e
    exact e
  · intro k j hj
    try dsimp only
    rw [f_J7_fill_53178_L5, if_neg (le_n hj (by omega)), ob_i (hS _ j hj), nI_1, filI_s _ (fun _ => v)]
  · intro k
    try dsimp only
    rw [f_J7_fill_53178_L5, if_pos (le_p (Nat.le_refl _) (by omega))]
def c100 : Nat → Int32 := filI (fun _ => 0) 16 (fun _ => 100)
theorem st_cap {N : AH} {fs : List Value} {x : Nat} (hx : x = N.1 + 1) : f_J7_fill_53178 x 100 (bk N 2 (Dob 7 fs (A7 N.1 (fun _ => 0) 0))) = some ((), bk N 2 (Dob 7 fs (A7 N.1 c100 0))) := by
  rw [hx, st_fill (n := 16) (F := fun _ => 0) (by omega) (by omega) rfl]
  refine congrArg (fun h => some ((), h)) (bk_ext (fun u hu => ?_))
  by_cases h1 : u = 1
  · rw [if_pos h1, h1]; rfl
  · rw [if_neg h1, show u = 0 by omega]; rfl
def s7 (a : Nat) : List Value := [.int 0, .int 0, .int 1, .int 0, .int 0, .int (-1), .int 0, .ref (a + 1), .ref (a + 2), .ref (a + 3), .ref (a + 9), .ref (a + 94)]
def sF (a : Nat) : Nat → AE := Dob 7 (s7 a) (A7 a c100 12)
theorem i_7 (N : AH) : f_X7_init N.1 (nO N 7 zX7) = some ((), bk N 98 (sF N.1)) := by
  unfold f_X7_init
  rw [nO_b (A := A7 N.1 (fun _ => 0) 0), stpZ (by omega) (by simp), stpI (by omega) (by simp), stI (by omega) (by simp) (by rfl), st_hR (v := N.1 + 1) (by omega) (by rfl), ob2_i (st_cap rfl), stI (by omega) (by simp) (by rfl), ob2_i (i_1 _), stB (by omega) (fun u hu => by unfold A7; rw [if_neg (by omega), if_neg (by omega), if_pos (by omega), show 2 + 1 + u - 3 = u by omega]; rfl), stp (by omega) (by simp), stR0 (by omega) (by simp) (by
    show gR N.1 0 = _
    unfold gR
    refine congrArg (fun g => (Sum.inr (2, 12, .inr (.inr (.inr (.inr g)))) : AE)) (funext fun y => ?_)
    rw [if_neg (by omega)])]
  rw [st_g (j := 0) (by rfl) (by omega) (by rfl) (by rfl), st_g (j := 1) (by rfl) (by omega) (by rfl) (by rfl), st_g (j := 2) (by rfl) (by omega) (by rfl) (by rfl), st_g (j := 3) (by rfl) (by omega) (by rfl) (by rfl), st_g (j := 4) (by rfl) (by omega) (by rfl) (by rfl), st_g (j := 5) (by rfl) (by omega) (by rfl) (by rfl), st_g (j := 6) (by rfl) (by omega) (by rfl) (by rfl), st_g (j := 7) (by rfl) (by omega) (by rfl) (by rfl), st_g (j := 8) (by rfl) (by omega) (by rfl) (by rfl), st_g (j := 9) (by rfl) (by omega) (by rfl) (by rfl), st_g (j := 10) (by rfl) (by omega) (by rfl) (by rfl), st_g (j := 11) (by rfl) (by omega) (by rfl) (by rfl)]
  rw [ob2_i (i_0 _), stB (by omega) (fun u hu => by exact A7_94.symm), stp (by omega) (by simp)]
  rfl
