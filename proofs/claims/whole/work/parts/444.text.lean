/-! the class and the reference read the text -/
def tx2 (W : WD) (t : Nat → Int32) (ℓ : Nat) : Prop := tK t ℓ ∧ W.1 2 0 0 0 = nI ℓ ∧ ∀ p, p < ℓ → W.2.1 2 0 0 2 p = t p
def A2 (W : WD) (p : Nat) : WD := wsI W 2 0 0 1 (nI p)
def txM (W : WD) (t : Nat → Int32) (ℓ : Nat) : Prop := tK t ℓ ∧ W.1 10 0 0 3 = nI ℓ ∧ ∀ p, p < ℓ → W.2.1 10 0 0 2 p = t p
def M2 (W : WD) (p : Nat) : WD := wsI W 10 0 0 15 (nI p)
theorem A2_e {W : WD} {p : Nat} (h : W.1 2 0 0 1 = nI p) : A2 W p = W := by unfold A2; rw [← h, wsI_s]
theorem M2_e {W : WD} {p : Nat} (h : W.1 10 0 0 15 = nI p) : M2 W p = W := by unfold M2; rw [← h, wsI_s]
section
variable {b : Nat} {W : WD} {t : Nat → Int32} {ℓ p : Nat}
theorem A2_1 : (A2 W p).1 2 0 0 1 = nI p := wsI_r _ _ _ _ _ _
theorem A2_0 (h : tx2 W t ℓ) : (A2 W p).1 2 0 0 0 = nI ℓ := by unfold A2; rw [wsI_k _ (by decide)]; exact h.2.1
theorem A2_t (h : tx2 W t ℓ) {q : Nat} (hq : q < ℓ) : (A2 W p).2.1 2 0 0 2 q = t q := by unfold A2; rw [wsI_A]; exact h.2.2 q hq
theorem A2_w {α : Type} {q : Nat} (f : AH → Option α) : ob (pI (wd b (A2 W p)) (b + ad 2 0 0) 2 1 (nI q)) f = f (wd b (A2 W q)) := by
  rw [p2_1 h20]
  unfold A2
  rw [wsI_2]
theorem M2_1 : (M2 W p).1 10 0 0 15 = nI p := wsI_r _ _ _ _ _ _
theorem M2_0 (h : txM W t ℓ) : (M2 W p).1 10 0 0 3 = nI ℓ := by unfold M2; rw [wsI_k _ (by decide)]; exact h.2.1
theorem M2_t (h : txM W t ℓ) {q : Nat} (hq : q < ℓ) : (M2 W p).2.1 10 0 0 2 q = t q := by unfold M2; rw [wsI_A]; exact h.2.2 q hq
theorem M2_w {α : Type} {q : Nat} (f : AH → Option α) : ob (pI (wd b (M2 W p)) (b + ad 10 0 0) 10 15 (nI q)) f = f (wd b (M2 W q)) := by
  rw [p10_15 h10]
  unfold M2
  rw [wsI_2]
theorem c_skL (h : tx2 W t ℓ) {k : AH → Option (Unit × AH)} : ∀ d m p, ℓ - p = d → p ≤ ℓ → d < m → f_X2_skipBlanks_L0 (b + ad 2 0 0) k m (wd b (A2 W p)) = k (wd b (A2 W (skp t ℓ p))) := by
  have h120 := h.1.1
  intro d
  induction d with
  | zero =>
    intro m p hd hp hm
    obtain ⟨m, rfl⟩ : ∃ q, m = q + 1 := ⟨m - 1, by omega⟩
    rw [f_X2_skipBlanks_L0, o2_1 h20, A2_1, o2_0 h20, A2_0 h, if_pos (le_p (by omega) (by omega)), skp_f (by omega)]
  | succ d ih =>
    intro m p hd hp hm
    obtain ⟨m, rfl⟩ : ∃ q, m = q + 1 := ⟨m - 1, by omega⟩
    have hl : p < ℓ := by omega
    rw [f_X2_skipBlanks_L0, o2_1 h20, A2_1, o2_0 h20, A2_0 h, if_neg (le_n hl (by omega)), o2_2 h20, o2_1 h20, A2_1, oa2_2 h20 (by omega), A2_t h hl]
    by_cases q : t p = 32
    · rw [if_neg (fun z => z q), o2_1 h20, A2_1, nI_1, A2_w, ih m (p + 1) (by omega) (by omega) (by omega), skp_t h.1 hl q]
    · rw [if_pos q, skp_f (fun z => q z.2)]
theorem c_skip (h : tx2 W t ℓ) (hp : p ≤ ℓ) : f_X2_skipBlanks (b + ad 2 0 0) (wd b (A2 W p)) = some ((), wd b (A2 W (skp t ℓ p))) := by
  have h120 := h.1.1
  unfold f_X2_skipBlanks
  rw [oO_2 h20, o2_1 h20, A2_1, o2_0 h20, A2_0 h]
  rcases Nat.lt_or_ge p ℓ with hl | hl
  · rw [if_neg (le_n hl (by omega)), o2_2 h20, o2_1 h20, A2_1, oa2_2 h20 (by omega), A2_t h hl]
    by_cases q : t p = 32
    · rw [if_neg (fun z => z q), o2_1 h20, A2_1, nI_1, A2_w, c_skL h (ℓ - (p + 1)) FU (p + 1) rfl (by omega) (by have := FUgt; omega), skp_t h.1 hl q]
    · rw [if_pos q, skp_f (fun z => q z.2)]
  · rw [if_pos (le_p hl (by omega)), skp_f (by omega)]
theorem c_tport (h : tx2 W t ℓ) (hp : p ≤ ℓ) : f_X2_takePort (b + ad 2 0 0) (wd b (A2 W p)) = some (oN (gP t ℓ p).1, wd b (A2 W (gP t ℓ p).2)) := by
  have h120 := h.1.1
  have hs := skp_le h.1 hp
  unfold f_X2_takePort gP
  rw [oO_2 h20, ob2_i (c_skip h hp), o2_1 h20, A2_1, o2_0 h20, A2_0 h]
  generalize skp t ℓ p = q at *
  rcases Nat.lt_or_ge q ℓ with hl | hl
  · rw [if_neg (le_n hl (by omega)), o2_2 h20, o2_1 h20, A2_1, oa2_2 h20 (by omega), A2_t h hl]
    by_cases z1 : t q < 48
    · rw [if_pos z1, if_neg (fun w => w.2.1 z1)]
      rfl
    · rw [if_neg z1, o2_2 h20, o2_1 h20, A2_1, oa2_2 h20 (by omega), A2_t h hl]
      by_cases z2 : t q ≤ 55
      · rw [if_pos z2, o2_2 h20, o2_1 h20, A2_1, oa2_2 h20 (by omega), A2_t h hl, o2_1 h20, A2_1, nI_1, A2_w, if_pos ⟨hl, z1, Int32.not_lt.mpr z2⟩, (t48 (h.1.2 q hl).1 z1).1]
        rfl
      · rw [if_neg z2, if_neg (fun w => w.2.2 (Int32.not_le.mp z2))]
        rfl
  · rw [if_pos (le_p hl (by omega)), if_neg (fun w => by omega)]
    rfl
theorem c_tsign (h : tx2 W t ℓ) (hp : p ≤ ℓ) {c : Int32} : f_X2_takeSign (b + ad 2 0 0) c (wd b (A2 W p)) = some (bI (gS t ℓ p c).1, wd b (A2 W (gS t ℓ p c).2)) := by
  have h120 := h.1.1
  have hs := skp_le h.1 hp
  unfold f_X2_takeSign gS
  rw [oO_2 h20, ob2_i (c_skip h hp), o2_1 h20, A2_1, o2_0 h20, A2_0 h]
  generalize skp t ℓ p = q at *
  rcases Nat.lt_or_ge q ℓ with hl | hl
  · rw [if_neg (le_n hl (by omega)), o2_2 h20, o2_1 h20, A2_1, oa2_2 h20 (by omega), A2_t h hl]
    by_cases z : t q = c
    · rw [if_pos z, o2_1 h20, A2_1, nI_1, A2_w, if_pos ⟨hl, z⟩]
      rfl
    · rw [if_neg z, if_neg (fun w => z w.2)]
      rfl
  · rw [if_pos (le_p hl (by omega)), if_neg (fun w => by omega)]
    rfl
theorem dig_s (h : tK t ℓ) {q v : Nat} (hl : q < ℓ) (h48 : ¬ t q < 48) : (((10 : Int32) * nI v) + t q) - (48 : Int32) = nI (10 * v + (vN (t q) - 48)) := by
  obtain ⟨-, a2⟩ := t48 (h.2 q hl).1 h48
  have e := (h.2 q hl).1
  generalize vN (t q) = c at *
  rw [e, li 10, pk_mul, nI_add, li 48, pk_sub (by omega)]
  congr 1
  omega
theorem c_tsize (h : tx2 W t ℓ) (hp : p ≤ ℓ) : f_X2_takeSize (b + ad 2 0 0) (wd b (A2 W p)) = some (oN (gN t ℓ p).1, wd b (A2 W (gN t ℓ p).2)) := by
  have h120 := h.1.1
  have hs := skp_le h.1 hp
  unfold f_X2_takeSize gN
  rw [oO_2 h20, ob2_i (c_skip h hp), o2_1 h20, A2_1]
  generalize skp t ℓ p = q at *
  have hge := dgp_ge (t := t) (ℓ := ℓ) (p := q)
  have hle := dgp_le h.1 hs
  have hend := dgp_end h.1 (p := q)
  have hvl := vl_lt h.1 (q := q)
  have hin := fun x h1 h2 => dgp_in (t := t) (ℓ := ℓ) (p := q) (q := x) h1 h2
  generalize hN : dgp t ℓ q - q = n
  have e1 : dgp t ℓ q = q + n := by omega
  rw [e1] at hle hend hvl hin ⊢
  have key : f_X2_takeSize_L11 (b + ad 2 0 0) (nI q) (fun v23 N24 => f_X2_takeSize_J92 (b + ad 2 0 0) (nI q) v23 N24) FU (0 : Int32) (wd b (A2 W q)) = f_X2_takeSize_J92 (b + ad 2 0 0) (nI q) (nI (vl t q (min n 6))) (wd b (A2 W (q + n))) := by
    refine loopN (fun m j => f_X2_takeSize_L11 (b + ad 2 0 0) (nI q) (fun v23 N24 => f_X2_takeSize_J92 (b + ad 2 0 0) (nI q) v23 N24) m (nI (vl t q (min j 6))) (wd b (A2 W (q + j)))) n ?_ ?_ FU 0 (by omega) (by have := FUgt; omega)
    · intro m j hj
      obtain ⟨a1, a2, a3⟩ := hin (q + j) (by omega) (by omega)
      try dsimp only
      rw [f_X2_takeSize_L11, o2_1 h20, A2_1, o2_0 h20, A2_0 h, if_neg (le_n a1 (by omega)), o2_2 h20, o2_1 h20, A2_1, oa2_2 h20 (by omega), A2_t h a1, if_neg a2, o2_2 h20, o2_1 h20, A2_1, oa2_2 h20 (by omega), A2_t h a1, if_neg a3, o2_1 h20, A2_1, pk_sub (by omega), show q + j - q = j by omega]
      rcases Nat.lt_or_ge j 6 with w | w
      · rw [if_neg (show ¬ (6 : Int32) ≤ nI j from le_n (a := 6) w (by omega)), o2_2 h20, o2_1 h20, A2_1, oa2_2 h20 (by omega), A2_t h a1, o2_1 h20, A2_1, nI_1, A2_w, dig_s h.1 a1 a2, show min j 6 = j by omega, show min (j + 1) 6 = j + 1 by omega]
        rfl
      · rw [if_pos (show (6 : Int32) ≤ nI j from le_p (a := 6) w (by omega)), o2_1 h20, A2_1, nI_1, A2_w, show min j 6 = 6 by omega, show min (j + 1) 6 = 6 by omega]
        rfl
    · intro m
      try dsimp only
      rw [f_X2_takeSize_L11, o2_1 h20, A2_1, o2_0 h20, A2_0 h]
      rcases Nat.lt_or_ge (q + n) ℓ with w | w
      · rw [if_neg (le_n w (by omega)), o2_2 h20, o2_1 h20, A2_1, oa2_2 h20 (by omega), A2_t h w]
        by_cases z1 : t (q + n) < 48
        · rw [if_pos z1]
        · rw [if_neg z1, o2_2 h20, o2_1 h20, A2_1, oa2_2 h20 (by omega), A2_t h w]
          by_cases z2 : 57 < t (q + n)
          · rw [if_pos z2]
          · exact absurd ⟨w, z1, z2⟩ hend
      · rw [if_pos (le_p w (by omega))]
  refine key.trans ?_
  unfold f_X2_takeSize_J92
  rw [o2_1 h20, A2_1, pk_sub (by omega), show q + n - q = n by omega]
  rcases Nat.lt_or_ge 6 n with w | w
  · rw [if_pos (show (6 : Int32) < nI n from lt_p (a := 6) w (by omega)), A2_w, if_neg (fun z => by omega)]
    rfl
  · have hb := hvl n (by omega)
    have hp6 : 10 ^ n ≤ 10 ^ 6 := Nat.pow_le_pow_right (by omega) w
    rw [if_neg (show ¬ (6 : Int32) < nI n from lt_n (a := 6) w (by omega)), show min n 6 = n by omega]
    generalize vl t q n = v at *
    rcases Nat.lt_or_ge v 1 with y | y
    · rw [if_pos (show nI v < 1 from lt_p (b := 1) y (by omega)), A2_w, if_neg (fun z => by omega)]
      rfl
    · rw [if_neg (show ¬ nI v < 1 from lt_n (b := 1) y (by omega))]
      rcases Nat.lt_or_ge 100000 v with x | x
      · rw [if_neg (show ¬ nI v ≤ 100000 from le_n (b := 100000) x (by omega)), A2_w, if_neg (fun z => by omega)]
        rfl
      · rw [if_pos (show nI v ≤ 100000 from le_p (b := 100000) x (by omega)), if_pos ⟨w, y, x⟩]
        rfl
/-! the reference -/
theorem m_hJ (h : txM W t ℓ) {q : Nat} (hq : q ≤ ℓ) {c : Int32} : f_X10_here_J38 (b + ad 10 0 0) c (wd b (M2 W q)) = some (bI (decide (q < ℓ ∧ t q = c)), wd b (M2 W q)) := by
  have h120 := h.1.1
  unfold f_X10_here_J38
  rw [o10_15 h10, M2_1, o10_3 h10, M2_0 h]
  rcases Nat.lt_or_ge q ℓ with hl | hl
  · rw [if_neg (le_n hl (by omega)), o10_2 h10, o10_15 h10, M2_1, oa10_2 h10 (by omega), M2_t h hl]
    by_cases z : t q = c
    · rw [if_neg (fun w => w z), show decide (q < ℓ ∧ t q = c) = true by rw [decide_eq_true_eq]; exact ⟨hl, z⟩]
      rfl
    · rw [if_pos z, show decide (q < ℓ ∧ t q = c) = false by rw [decide_eq_false_iff_not]; exact fun w => z w.2]
      rfl
  · rw [if_pos (le_p hl (by omega)), show decide (q < ℓ ∧ t q = c) = false by rw [decide_eq_false_iff_not]; exact fun w => by omega]
    rfl
theorem m_hL (h : txM W t ℓ) {c : Int32} {k : AH → Option (Int32 × AH)} : ∀ d m p, ℓ - p = d → p ≤ ℓ → d < m → f_X10_here_L0 (b + ad 10 0 0) c k m (wd b (M2 W p)) = k (wd b (M2 W (skp t ℓ p))) := by
  have h120 := h.1.1
  intro d
  induction d with
  | zero =>
    intro m p hd hp hm
    obtain ⟨m, rfl⟩ : ∃ q, m = q + 1 := ⟨m - 1, by omega⟩
    rw [f_X10_here_L0, o10_15 h10, M2_1, o10_3 h10, M2_0 h, if_pos (le_p (by omega) (by omega)), skp_f (by omega)]
  | succ d ih =>
    intro m p hd hp hm
    obtain ⟨m, rfl⟩ : ∃ q, m = q + 1 := ⟨m - 1, by omega⟩
    have hl : p < ℓ := by omega
    rw [f_X10_here_L0, o10_15 h10, M2_1, o10_3 h10, M2_0 h, if_neg (le_n hl (by omega)), o10_2 h10, o10_15 h10, M2_1, oa10_2 h10 (by omega), M2_t h hl]
    by_cases q : t p = 32
    · rw [if_neg (fun z => z q), o10_15 h10, M2_1, nI_1, M2_w, ih m (p + 1) (by omega) (by omega) (by omega), skp_t h.1 hl q]
    · rw [if_pos q, skp_f (fun z => q z.2)]
theorem m_here (h : txM W t ℓ) (hp : p ≤ ℓ) {c : Int32} : f_X10_here (b + ad 10 0 0) c (wd b (M2 W p)) = some (bI (decide (skp t ℓ p < ℓ ∧ t (skp t ℓ p) = c)), wd b (M2 W (skp t ℓ p))) := by
  have h120 := h.1.1
  have hs := skp_le h.1 hp
  unfold f_X10_here
  rw [oO_10 h10, o10_15 h10, M2_1, o10_3 h10, M2_0 h]
  rcases Nat.lt_or_ge p ℓ with hl | hl
  · rw [if_neg (le_n hl (by omega)), o10_2 h10, o10_15 h10, M2_1, oa10_2 h10 (by omega), M2_t h hl]
    by_cases q : t p = 32
    · rw [if_neg (fun z => z q), o10_15 h10, M2_1, nI_1, M2_w, m_hL h (ℓ - (p + 1)) FU (p + 1) rfl (by omega) (by have := FUgt; omega), ← skp_t h.1 hl q, m_hJ h hs]
    · rw [if_pos q, skp_f (fun z => q z.2), m_hJ h hp]
  · rw [if_pos (le_p hl (by omega)), skp_f (by omega), m_hJ h hp]
theorem m_port (h : txM W t ℓ) (hp : p ≤ ℓ) : f_X10_port (b + ad 10 0 0) (wd b (M2 W p)) = some (oN (gP t ℓ p).1, wd b (M2 W (gP t ℓ p).2)) := by
  have h120 := h.1.1
  have hs := skp_le h.1 hp
  unfold f_X10_port gP
  rw [oO_10 h10, ob2_i (m_here h hp), o10_15 h10, M2_1, o10_3 h10, M2_0 h]
  generalize skp t ℓ p = q at *
  rcases Nat.lt_or_ge q ℓ with hl | hl
  · have mi : ∀ V : WD, f_X10_in (t q).toInt64 (48 : Int64) (55 : Int64) (wd b V) = some (if t q < 48 then 0 else if 55 < t q then 0 else 1, wd b V) := fun V => m_in32 (lo := 48) (hi := 55)
    rw [if_neg (ne_p (by omega) (by omega) (by omega)), o10_2 h10, o10_15 h10, M2_1, oa10_2 h10 (by omega), M2_t h hl, ob2_i (mi _)]
    by_cases z1 : t q < 48
    · rw [if_pos z1, if_neg (by decide), if_neg (fun w => w.2.1 z1)]
      rfl
    · rw [if_neg z1]
      by_cases z2 : 55 < t q
      · rw [if_pos z2, if_neg (by decide), if_neg (fun w => w.2.2 z2)]
        rfl
      · rw [if_neg z2, if_pos (by decide), o10_15 h10, M2_1, nI_1, M2_w, o10_2 h10, o10_15 h10, M2_1, sub1s, oa10_2 h10 (by omega), M2_t h hl, if_pos ⟨hl, z1, z2⟩, (t48 (h.1.2 q hl).1 z1).1]
        rfl
  · rw [if_pos (by rw [show q = ℓ by omega]), if_neg (fun w => by omega)]
    rfl
theorem m_sign (h : txM W t ℓ) (hp : p ≤ ℓ) {c : Int32} : f_X10_sign (b + ad 10 0 0) c (wd b (M2 W p)) = some (bI (gS t ℓ p c).1, wd b (M2 W (gS t ℓ p c).2)) := by
  unfold f_X10_sign gS
  rw [oO_10 h10, ob2_i (m_here h hp), o10_15 h10, M2_1]
  generalize skp t ℓ p = q at *
  by_cases z : q < ℓ ∧ t q = c
  · rw [show decide (q < ℓ ∧ t q = c) = true by rw [decide_eq_true_eq]; exact z, if_neg (show ¬ bI true = 0 by decide), nI_1, M2_w, rZ_bI, if_pos z]
  · rw [show decide (q < ℓ ∧ t q = c) = false by rw [decide_eq_false_iff_not]; exact z, if_pos (show bI false = 0 by decide), Int32.add_zero, M2_w, rZ_bI, if_neg z]
theorem dig_l (h : tK t ℓ) {q v : Nat} (hl : q < ℓ) (h48 : ¬ t q < 48) : (((10 : Int64) * lN v) + (t q).toInt64) - (48 : Int64) = lN (10 * v + (vN (t q) - 48)) := by
  obtain ⟨-, a2⟩ := t48 (h.2 q hl).1 h48
  have e := (h.2 q hl).1
  have e2 := (h.2 q hl).2
  generalize vN (t q) = c at *
  rw [e, nI_l (by omega), show (10 : Int64) = lN 10 from rfl, lN_mul, lN_add, show (48 : Int64) = lN 48 from rfl, lN_sub (by omega)]
  congr 1
  omega
theorem m_number (h : txM W t ℓ) (hp : p ≤ ℓ) : f_X10_number (b + ad 10 0 0) (wd b (M2 W p)) = some (oN (gN t ℓ p).1, wd b (M2 W (gN t ℓ p).2)) := by
  have h120 := h.1.1
  have hs := skp_le h.1 hp
  unfold f_X10_number gN
  rw [oO_10 h10, ob2_i (m_here h hp), o10_15 h10, M2_1]
  generalize skp t ℓ p = q at *
  have hge := dgp_ge (t := t) (ℓ := ℓ) (p := q)
  have hle := dgp_le h.1 hs
  have hend := dgp_end h.1 (p := q)
  have hvl := vl_lt h.1 (q := q)
  have hin := fun x h1 h2 => dgp_in (t := t) (ℓ := ℓ) (p := q) (q := x) h1 h2
  generalize hN : dgp t ℓ q - q = n
  have e1 : dgp t ℓ q = q + n := by omega
  rw [e1] at hle hend hvl hin ⊢
  have mi : ∀ x, f_X10_in (t x).toInt64 (48 : Int64) (57 : Int64) (wd b (M2 W q)) = some (if t x < 48 then 0 else if 57 < t x then 0 else 1, wd b (M2 W q)) := fun x => m_in32 (lo := 48) (hi := 57)
  have key : f_X10_number_L13 (b + ad 10 0 0) (fun v15 v16 N17 => f_X10_number_J79 (b + ad 10 0 0) v15 v16 N17) FU (nI q) (0 : Int64) (wd b (M2 W q)) = f_X10_number_J79 (b + ad 10 0 0) (nI (q + n)) (lN (vl t q (min n 7))) (wd b (M2 W q)) := by
    refine loopN (fun m j => f_X10_number_L13 (b + ad 10 0 0) (fun v15 v16 N17 => f_X10_number_J79 (b + ad 10 0 0) v15 v16 N17) m (nI (q + j)) (lN (vl t q (min j 7))) (wd b (M2 W q))) n ?_ ?_ FU 0 (by omega) (by have := FUgt; omega)
    · intro m j hj
      obtain ⟨a1, a2, a3⟩ := hin (q + j) (by omega) (by omega)
      have e := mi (q + j)
      rw [if_neg a2, if_neg a3] at e
      try dsimp only
      rw [f_X10_number_L13, o10_3 h10, M2_0 h, if_neg (le_n a1 (by omega)), o10_2 h10, oa10_2 h10 (by omega), M2_t h a1, ob2_i e, if_neg (by decide), o10_15 h10, M2_1, pk_sub (by omega), show q + j - q = j by omega, nI_1]
      rcases Nat.lt_or_ge j 7 with w | w
      · rw [if_neg (show ¬ (7 : Int32) ≤ nI j from le_n (a := 7) w (by omega)), o10_2 h10, oa10_2 h10 (by omega), M2_t h a1, dig_l h.1 a1 a2, show min j 7 = j by omega, show min (j + 1) 7 = j + 1 by omega]
        rfl
      · rw [if_pos (show (7 : Int32) ≤ nI j from le_p (a := 7) w (by omega)), show min j 7 = 7 by omega, show min (j + 1) 7 = 7 by omega]
        rfl
    · intro m
      try dsimp only
      rw [f_X10_number_L13, o10_3 h10, M2_0 h]
      rcases Nat.lt_or_ge (q + n) ℓ with w | w
      · have e := mi (q + n)
        rw [if_neg (le_n w (by omega)), o10_2 h10, oa10_2 h10 (by omega), M2_t h w]
        by_cases z1 : t (q + n) < 48
        · rw [if_pos z1] at e
          rw [ob2_i e, if_pos rfl]
        · by_cases z2 : 57 < t (q + n)
          · rw [if_neg z1, if_pos z2] at e
            rw [ob2_i e, if_pos rfl]
          · exact absurd ⟨w, z1, z2⟩ hend
      · rw [if_pos (le_p w (by omega))]
  refine key.trans ?_
  unfold f_X10_number_J79
  rw [o10_15 h10, M2_1]
  rcases Nat.eq_zero_or_pos n with hz | hz
  · rw [if_pos (by rw [hz]; rfl), if_neg (fun w => ?_)]
    · rfl
    · rw [hz] at w
      have : vl t q 0 = 0 := rfl
      omega
  · rw [if_neg (ne_p (by omega) (by omega) (by omega)), o10_15 h10, M2_1, pk_sub (by omega), show q + n - q = n by omega]
    rcases Nat.lt_or_ge 6 n with w | w
    · rw [if_pos (show (6 : Int32) < nI n from lt_p (a := 6) w (by omega)), if_neg (fun z => by omega)]
      rfl
    · have hb := hvl n (by omega)
      have hp6 : 10 ^ n ≤ 10 ^ 6 := Nat.pow_le_pow_right (by omega) w
      rw [if_neg (show ¬ (6 : Int32) < nI n from lt_n (a := 6) w (by omega)), show min n 7 = n by omega]
      generalize vl t q n = v at *
      have e : f_X10_in (lN v) (1 : Int64) (100000 : Int64) (wd b (M2 W q)) = some (if nI v < 1 then 0 else if 100000 < nI v then 0 else 1, wd b (M2 W q)) := by
        rw [← nI_l (show v < 2 ^ 31 by omega)]
        exact m_in32 (lo := 1) (hi := 100000)
      rcases Nat.lt_or_ge v 1 with y | y
      · rw [if_pos (show nI v < 1 from lt_p (b := 1) y (by omega))] at e
        rw [ob2_i e, if_neg (by decide), if_neg (fun z => by omega)]
        rfl
      · rw [if_neg (show ¬ nI v < 1 from lt_n (b := 1) y (by omega))] at e
        rcases Nat.lt_or_ge 100000 v with x | x
        · rw [if_pos (show (100000 : Int32) < nI v from lt_p (a := 100000) x (by omega))] at e
          rw [ob2_i e, if_neg (by decide), if_neg (fun z => by omega)]
          rfl
        · rw [if_neg (show ¬ (100000 : Int32) < nI v from lt_n (a := 100000) x (by omega))] at e
          rw [ob2_i e, if_pos (by decide), M2_w, if_pos ⟨w, y, x⟩, lN_i]
          rfl
end
