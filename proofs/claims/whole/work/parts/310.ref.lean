/-! numbers -/
theorem li (n : Nat) : (OfNat.ofNat n : Int32) = nI n := rfl
theorem h10 : vo 10 0 0 = true := rfl
theorem le_p {a b : Nat} (h : a ≤ b) (hb : b < 2147483648) : nI a ≤ nI b := (nI_leI (by omega) (by omega)).mpr h
theorem le_n {a b : Nat} (h : b < a) (ha : a < 2147483648) : ¬ nI a ≤ nI b := fun q => absurd ((nI_leI (by omega) (by omega)).mp q) (by omega)
theorem lt_p {a b : Nat} (h : a < b) (hb : b < 2147483648) : nI a < nI b := (nI_ltI (by omega) (by omega)).mpr h
theorem lt_n {a b : Nat} (h : b ≤ a) (ha : a < 2147483648) : ¬ nI a < nI b := fun q => absurd ((nI_ltI (by omega) (by omega)).mp q) (by omega)
theorem ne_p {a b : Nat} (h : a ≠ b) (ha : a < 2147483648) (hb : b < 2147483648) : ¬ nI a = nI b := fun q => h ((nI_eq (by omega) (by omega)).mp q)
theorem i1 (a : Nat) : nI a + nI 1 = nI (a + 1) := nI_1 a
theorem wsA_2 (W : WD) (c i g k : Nat) (f f' : Nat → Int32) : wsA (wsA W c i g k f) c i g k f' = wsA W c i g k f' := by
  refine Prod.ext rfl (Prod.ext ?_ rfl)
  funext c' i' g' k'
  simp only [wsA]
  split <;> rfl
theorem wsI_2 (W : WD) (c i g k : Nat) (f f' : Int32) : wsI (wsI W c i g k f) c i g k f' = wsI W c i g k f' := by
  refine Prod.ext ?_ rfl
  funext c' i' g' k'
  simp only [wsI]
  split <;> rfl
theorem wsL_2 (W : WD) (c i g k : Nat) (f f' : Nat → Int64) : wsL (wsL W c i g k f) c i g k f' = wsL W c i g k f' := by
  refine Prod.ext rfl (Prod.ext rfl ?_)
  funext c' i' g' k'
  simp only [wsL]
  split <;> rfl
theorem wsA_s (W : WD) (c i g k : Nat) : wsA W c i g k (W.2.1 c i g k) = W := by
  refine Prod.ext rfl (Prod.ext ?_ rfl)
  funext c' i' g' k'
  simp only [wsA]
  split
  · rename_i h
    obtain ⟨rfl, rfl, rfl, rfl⟩ := h
    rfl
  · rfl
theorem wsI_s (W : WD) (c i g k : Nat) : wsI W c i g k (W.1 c i g k) = W := by
  refine Prod.ext ?_ rfl
  funext c' i' g' k'
  simp only [wsI]
  split
  · rename_i h
    obtain ⟨rfl, rfl, rfl, rfl⟩ := h
    rfl
  · rfl
theorem wsA_r (W : WD) (c i g k : Nat) (f : Nat → Int32) : (wsA W c i g k f).2.1 c i g k = f := by simp [wsA]
theorem wsI_r (W : WD) (c i g k : Nat) (v : Int32) : (wsI W c i g k v).1 c i g k = v := by simp [wsI]
theorem wsL_r (W : WD) (c i g k : Nat) (f : Nat → Int64) : (wsL W c i g k f).2.2 c i g k = f := by simp [wsL]
theorem wsA_k (W : WD) {c i g k k' : Nat} {f : Nat → Int32} (h : k' ≠ k) : (wsA W c i g k f).2.1 c i g k' = W.2.1 c i g k' := by simp [wsA, h]
theorem wsI_k (W : WD) {c i g k k' : Nat} {v : Int32} (h : k' ≠ k) : (wsI W c i g k v).1 c i g k' = W.1 c i g k' := by simp [wsI, h]
theorem wsL_k (W : WD) {c i g k k' : Nat} {f : Nat → Int64} (h : k' ≠ k) : (wsL W c i g k f).2.2 c i g k' = W.2.2 c i g k' := by simp [wsL, h]
/-- sums -/
def sumI (f : Nat → Int32) : Nat → Int32
  | 0 => 0
  | n + 1 => sumI f n + f n
def gO (r : Nat → Int32) (g k : Nat) : Int32 := r (90 + 86 * g + k)
def fO (r : Nat → Int32) (g f k : Nat) : Int32 := r (90 + 86 * g + (6 + 5 * f + k))
def stO (r : Nat → Int32) (g : Nat) : Int32 := if gO r g 4 = 1 then 3 else if gO r g 3 = -1 then (if gO r g 0 ≤ r 0 then 1 else 0) else 2
theorem lg_lt {x y : Int64} : lg_cmp x y < 0 ↔ x < y := by
  unfold lg_cmp
  by_cases h1 : y < x
  · have h2 : ¬ x < y := fun q => absurd (Int64.lt_trans h1 q) (Int64.lt_irrefl)
    simp [h1, h2]
  · by_cases h2 : x = y
    · subst h2
      simp [Int64.lt_irrefl]
    · have h3 : x < y := by
        rw [Int64.lt_iff_toInt_lt] at h1 ⊢
        have : x.toInt ≠ y.toInt := fun q => h2 (Int64.toInt_inj.mp q)
        omega
      simp [h1, h2, h3]
theorem lg_gt {x y : Int64} : 0 < lg_cmp x y ↔ y < x := by
  unfold lg_cmp
  by_cases h1 : y < x
  · simp [h1]
  · by_cases h2 : x = y
    · subst h2
      simp [Int64.lt_irrefl]
    · simp [h1, h2]
theorem lg_eq {x y : Int64} : lg_cmp x y = 0 ↔ x = y := by
  unfold lg_cmp
  by_cases h1 : y < x
  · have h2 : ¬ x = y := fun q => by subst q; exact Int64.lt_irrefl h1
    simp [h1, h2]
  · by_cases h2 : x = y
    · simp [h1, h2]
    · simp [h1, h2]
theorem lg_ge {x y : Int64} : 0 ≤ lg_cmp x y ↔ ¬ x < y := by rw [← lg_lt, Int32.not_lt]
section
variable {b : Nat} {W : WD} {α : Type}
theorem m_of {g k : Nat} (h : 90 + 86 * g + k < 9456) : f_X10_of (b + ad 10 0 0) (nI g) (nI k) (wd b W) = some (gO (W.2.1 10 0 0 0) g k, wd b W) := by
  unfold f_X10_of
  rw [oO_10 h10, o10_0 h10, li 90, li 86, pk_mul, nI_add, nI_add, oa10_0 h10 h]
  rfl
theorem m_flowOf {g f k : Nat} (h : 90 + 86 * g + (6 + 5 * f + k) < 9456) : f_X10_flowOf (b + ad 10 0 0) (nI g) (nI f) (nI k) (wd b W) = some (fO (W.2.1 10 0 0 0) g f k, wd b W) := by
  unfold f_X10_flowOf
  rw [oO_10 h10, li 6, li 5, pk_mul, nI_add, nI_add, ob2_i (m_of h)]
  rfl
theorem m_sets {g k : Nat} {v : Int32} (h : 90 + 86 * g + k < 9456) : f_X10_sets (b + ad 10 0 0) (nI g) (nI k) v (wd b W) = some ((), wd b (wsA W 10 0 0 0 (upd (W.2.1 10 0 0 0) (90 + 86 * g + k) v))) := by
  unfold f_X10_sets
  rw [oO_10 h10, o10_0 h10, li 90, li 86, pk_mul, nI_add, nI_add, ot10_0 h10 h]
theorem m_setsFlow {g f k : Nat} {v : Int32} (h : 90 + 86 * g + (6 + 5 * f + k) < 9456) : f_X10_setsFlow (b + ad 10 0 0) (nI g) (nI f) (nI k) v (wd b W) = some ((), wd b (wsA W 10 0 0 0 (upd (W.2.1 10 0 0 0) (90 + 86 * g + (6 + 5 * f + k)) v))) := by
  unfold f_X10_setsFlow
  rw [oO_10 h10, li 6, li 5, pk_mul, nI_add, nI_add, ob2_i (m_sets h)]
theorem m_ofk (kk : Int32) (k : Nat) (hk : kk = nI k) {g : Nat} (h : 90 + 86 * g + k < 9456) : f_X10_of (b + ad 10 0 0) (nI g) kk (wd b W) = some (gO (W.2.1 10 0 0 0) g k, wd b W) := by rw [hk]; exact m_of h
theorem m_flowOfk (kk : Int32) (k : Nat) (hk : kk = nI k) {g f : Nat} (h : 90 + 86 * g + (6 + 5 * f + k) < 9456) : f_X10_flowOf (b + ad 10 0 0) (nI g) (nI f) kk (wd b W) = some (fO (W.2.1 10 0 0 0) g f k, wd b W) := by rw [hk]; exact m_flowOf h
theorem oR0 (kk : Int32) (k : Nat) (hk : kk = nI k) (h : k < 9456) (f : Int32 → Option α) : ob (aI (wd b W) (b + aa 10 0 0 0) kk) f = f (W.2.1 10 0 0 0 k) := by rw [hk]; exact oa10_0 h10 h f
theorem oS0 (kk : Int32) (k : Nat) (hk : kk = nI k) (h : k < 9456) {v : Int32} (f : AH → Option α) : ob (sI (wd b W) (b + aa 10 0 0 0) kk v) f = f (wd b (wsA W 10 0 0 0 (upd (W.2.1 10 0 0 0) k v))) := by rw [hk]; exact ot10_0 h10 h f
theorem m_in {x lo hi : Int64} : f_X10_in x lo hi (wd b W) = some (if x < lo then 0 else if hi < x then 0 else 1, wd b W) := by
  unfold f_X10_in
  simp only [lg_lt, lg_gt]
  split
  · rfl
  · split <;> rfl
theorem m_stateOf {g : Nat} (h : g < 12) : f_X10_stateOf (b + ad 10 0 0) (nI g) (wd b W) = some (stO (W.2.1 10 0 0 0) g, wd b W) := by
  unfold f_X10_stateOf stO
  rw [oO_10 h10, li 4, ob2_i (m_of (by omega))]
  by_cases h4 : gO (W.2.1 10 0 0 0) g 4 = 1
  · rw [if_neg (fun q => q h4), if_pos h4]
  · rw [if_pos h4, if_neg h4, li 3, ob2_i (m_of (by omega))]
    by_cases h3 : gO (W.2.1 10 0 0 0) g 3 = -1
    · rw [if_pos h3, if_pos h3, o10_0 h10, li 0, oa10_0 h10 (by omega), ob2_i (m_of (by omega))]
      split <;> rfl
    · rw [if_neg h3, if_neg h3]
theorem m_restOf_L {g n : Nat} (hg : g < 12) (hn : n ≤ 16) (hc : gO (W.2.1 10 0 0 0) g 5 = nI n) {k : Int32 → AH → Option (Int32 × AH)} : ∀ (j m i : Nat), n - i = j → i ≤ n → n - i < m → f_X10_restOf_L4 (b + ad 10 0 0) (nI g) k m (sumI (fun f => fO (W.2.1 10 0 0 0) g f 3) i) (nI i) (wd b W) = k (sumI (fun f => fO (W.2.1 10 0 0 0) g f 3) n) (wd b W) := by
  intro j
  induction j with
  | zero =>
    intro m i h1 h2 h3
    obtain ⟨m, rfl⟩ : ∃ q, m = q + 1 := ⟨m - 1, by omega⟩
    rw [f_X10_restOf_L4, li 5, ob2_i (m_of (by omega)), hc, if_pos (le_p (by omega) (by omega)), show i = n by omega]
  | succ j ih =>
    intro m i h1 h2 h3
    obtain ⟨m, rfl⟩ : ∃ q, m = q + 1 := ⟨m - 1, by omega⟩
    rw [f_X10_restOf_L4, li 5, ob2_i (m_of (by omega)), hc, if_neg (le_n (by omega) (by omega)), li 3, ob2_i (m_flowOf (by omega)), nI_1]
    exact ih m (i + 1) (by omega) (by omega) (by omega)
theorem m_restOf {g n : Nat} (hg : g < 12) (hn : n ≤ 16) (hc : gO (W.2.1 10 0 0 0) g 5 = nI n) : f_X10_restOf (b + ad 10 0 0) (nI g) (wd b W) = some (sumI (fun f => fO (W.2.1 10 0 0 0) g f 3) n, wd b W) := by
  unfold f_X10_restOf
  rw [oO_10 h10]
  exact m_restOf_L hg hn hc _ FU 0 rfl (by omega) (by unfold FU; omega)
theorem m_undone_L {g n : Nat} (hg : g < 12) (hn : n ≤ 16) (hc : gO (W.2.1 10 0 0 0) g 5 = nI n) {k : Int32 → AH → Option (Int32 × AH)} : ∀ (j m i : Nat), n - i = j → i ≤ n → n - i < m → f_X10_undone_L4 (b + ad 10 0 0) (nI g) k m (sumI (fun f => if fO (W.2.1 10 0 0 0) g f 3 ≤ 0 then 0 else 1) i) (nI i) (wd b W) = k (sumI (fun f => if fO (W.2.1 10 0 0 0) g f 3 ≤ 0 then 0 else 1) n) (wd b W) := by
  intro j
  induction j with
  | zero =>
    intro m i h1 h2 h3
    obtain ⟨m, rfl⟩ : ∃ q, m = q + 1 := ⟨m - 1, by omega⟩
    rw [f_X10_undone_L4, li 5, ob2_i (m_of (by omega)), hc, if_pos (le_p (by omega) (by omega)), show i = n by omega]
  | succ j ih =>
    intro m i h1 h2 h3
    obtain ⟨m, rfl⟩ : ∃ q, m = q + 1 := ⟨m - 1, by omega⟩
    have e := ih m (i + 1) (by omega) (by omega) (by omega)
    rw [f_X10_undone_L4, li 5, ob2_i (m_of (by omega)), hc, if_neg (le_n (by omega) (by omega)), li 3, ob2_i (m_flowOf (by omega)), nI_1]
    rw [← e, show sumI (fun f => if fO (W.2.1 10 0 0 0) g f 3 ≤ 0 then (0 : Int32) else 1) (i + 1) = sumI (fun f => if fO (W.2.1 10 0 0 0) g f 3 ≤ 0 then (0 : Int32) else 1) i + (if fO (W.2.1 10 0 0 0) g i 3 ≤ 0 then 0 else 1) from rfl]
    split <;> rfl
theorem m_undone {g n : Nat} (hg : g < 12) (hn : n ≤ 16) (hc : gO (W.2.1 10 0 0 0) g 5 = nI n) : f_X10_undone (b + ad 10 0 0) (nI g) (wd b W) = some (sumI (fun f => if fO (W.2.1 10 0 0 0) g f 3 ≤ 0 then 0 else 1) n, wd b W) := by
  unfold f_X10_undone
  rw [oO_10 h10]
  exact m_undone_L hg hn hc _ FU 0 rfl (by omega) (by unfold FU; omega)
/-- a state copied within the row -/
theorem m_copies_L {f t : Nat} (hf : f + 1182 ≤ 9456) (ht : t + 1182 ≤ 9456) (hd : f + 1182 ≤ t ∨ t + 1182 ≤ f) (r : Nat → Int32) {k : AH → Option (Unit × AH)} : ∀ (j m i : Nat), 1182 - i = j → i ≤ 1182 → 1182 - i < m → f_X10_copies_L2 (b + ad 10 0 0) (nI f) (nI t) k m (nI i) (wd b (wsA W 10 0 0 0 (va_cpy r r f t i))) = k (wd b (wsA W 10 0 0 0 (va_cpy r r f t 1182))) := by
  intro j
  induction j with
  | zero =>
    intro m i h1 h2 h3
    obtain ⟨m, rfl⟩ : ∃ q, m = q + 1 := ⟨m - 1, by omega⟩
    rw [f_X10_copies_L2, li 1182, if_pos (le_p (by omega) (by omega)), show i = 1182 by omega]
  | succ j ih =>
    intro m i h1 h2 h3
    obtain ⟨m, rfl⟩ : ∃ q, m = q + 1 := ⟨m - 1, by omega⟩
    rw [f_X10_copies_L2, li 1182, if_neg (le_n (by omega) (by omega)), o10_0 h10, o10_0 h10, nI_add, nI_add, oa10_0 h10 (by omega), ot10_0 h10 (by omega), nI_1, wsA_r, wsA_2]
    rw [← ih m (i + 1) (by omega) (by omega) (by omega)]
    congr 3
    funext q
    by_cases hq : q = t + i
    · subst hq
      rw [pk_us, pk_cpy_out (by omega), pk_cpy_in (by omega) (by omega), Nat.add_sub_cancel_left]
    · rw [pk_un hq]
      by_cases hi : t ≤ q ∧ q < t + i
      · rw [pk_cpy_in hi.1 hi.2, pk_cpy_in hi.1 (by omega)]
      · rw [pk_cpy_out (by omega), pk_cpy_out (by omega)]
theorem cpy_0 (r : Nat → Int32) (f t : Nat) : va_cpy r r f t 0 = r := by
  funext q
  exact pk_cpy_out (by omega)
theorem m_copies {f t : Nat} (hf : f + 1182 ≤ 9456) (ht : t + 1182 ≤ 9456) (hd : f + 1182 ≤ t ∨ t + 1182 ≤ f) : f_X10_copies (b + ad 10 0 0) (nI f) (nI t) (wd b W) = some ((), wd b (wsA W 10 0 0 0 (va_cpy (W.2.1 10 0 0 0) (W.2.1 10 0 0 0) f t 1182))) := by
  unfold f_X10_copies
  rw [oO_10 h10]
  have e := m_copies_L (b := b) (W := W) hf ht hd (W.2.1 10 0 0 0) (k := fun N6 => some ((), N6)) _ FU 0 rfl (by omega) (by unfold FU; omega)
  rw [cpy_0, wsA_s] at e
  exact e
end
