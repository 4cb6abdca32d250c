/-! loops that count; rows that are written -/
theorem loopN {β : Type} (F : Nat → Nat → Option β) (n : Nat) {y : Option β} (hs : ∀ m i, i < n → F (m + 1) i = F m (i + 1)) (he : ∀ m, F (m + 1) n = y) : ∀ m i, i ≤ n → n - i < m → F m i = y := by
  intro m
  induction m with
  | zero => intro i h1 h2; exact absurd h2 (by omega)
  | succ m ih =>
    intro i h1 h2
    rcases Nat.lt_or_ge i n with h | h
    · rw [hs m i h]
      exact ih (i + 1) (by omega) (by omega)
    · rw [show i = n by omega]
      exact he m
theorem FUgt : 4000 < FU := by decide
theorem upd_add2 {F : Nat → Int32} {s t : Nat} {x : Int32} (h : s ≠ t) : upd (upd F s (F s + x)) t (upd F s (F s + x) t + x) = fun p => F p + if s = p ∨ t = p then x else 0 := by
  funext p
  by_cases h1 : p = t
  · subst h1
    rw [pk_us, pk_un (Ne.symm h), if_pos (Or.inr rfl)]
  · rw [pk_un h1]
    by_cases h2 : p = s
    · subst h2
      rw [pk_us, if_pos (Or.inl rfl)]
    · rw [pk_un h2, if_neg (by rintro (q | q) <;> simp_all), Int32.add_zero]
theorem upd_sub2 {F : Nat → Int32} {s t : Nat} {x : Int32} (h : s ≠ t) : upd (upd F s (F s - x)) t (upd F s (F s - x) t - x) = fun p => F p - if s = p ∨ t = p then x else 0 := by
  funext p
  by_cases h1 : p = t
  · subst h1
    rw [pk_us, pk_un (Ne.symm h), if_pos (Or.inr rfl)]
  · rw [pk_un h1]
    by_cases h2 : p = s
    · subst h2
      rw [pk_us, if_pos (Or.inl rfl)]
    · rw [pk_un h2, if_neg (by rintro (q | q) <;> simp_all), Int32.sub_zero]
/-- filling the first n places -/
def filI (F : Nat → Int32) (n : Nat) (v : Nat → Int32) : Nat → Int32 := fun p => if p < n then v p else F p
theorem filI_0 (F v : Nat → Int32) : filI F 0 v = F := by funext p; simp [filI]
theorem filI_s (F v : Nat → Int32) (n : Nat) : upd (filI F n v) n (v n) = filI F (n + 1) v := by
  funext p
  by_cases h : p = n
  · subst h
    rw [pk_us]
    simp [filI]
  · rw [pk_un h]
    simp only [filI]
    by_cases h2 : p < n
    · rw [if_pos h2, if_pos (by omega)]
    · rw [if_neg h2, if_neg (by omega)]
theorem filI_lt {F v : Nat → Int32} {n p : Nat} (h : p < n) : filI F n v p = v p := if_pos h
theorem filI_ge {F v : Nat → Int32} {n p : Nat} (h : n ≤ p) : filI F n v p = F p := if_neg (by omega)
def allB (f : Nat → Bool) : Nat → Bool
  | 0 => true
  | n + 1 => allB f n && f n
theorem allB_iff {f : Nat → Bool} : ∀ {n : Nat}, allB f n = true ↔ ∀ i, i < n → f i = true
  | 0 => ⟨fun _ i hi => absurd hi (Nat.not_lt_zero i), fun _ => rfl⟩
  | n + 1 => by
    rw [allB, Bool.and_eq_true, allB_iff]
    constructor
    · rintro ⟨h1, h2⟩ i hi
      rcases Nat.lt_or_ge i n with h | h
      · exact h1 i h
      · rw [show i = n by omega]; exact h2
    · intro h
      exact ⟨fun i hi => h i (by omega), h n (by omega)⟩
def bI (c : Bool) : Int32 := if c = true then 1 else 0
def vN (x : Int32) : Nat := x.toNatClampNeg
theorem vN_nI {n : Nat} (h : n < 2147483648) : vN (nI n) = n := nI_clamp (by omega)
/-- the flow f of the group g uses the port p -/
def us (r : Nat → Int32) (g f p : Nat) : Prop := vN (fO r g f 0) = p ∨ 8 + vN (fO r g f 1) = p
def upI (x y : Int32) : Int32 := (x + y - 1) / y
def usB (r : Nat → Int32) (g f p : Nat) : Bool := vN (fO r g f 0) == p || 8 + vN (fO r g f 1) == p
theorem usB_iff {r : Nat → Int32} {g f p : Nat} : (vN (fO r g f 0) = p ∨ 8 + vN (fO r g f 1) = p) ↔ usB r g f p = true := by simp [usB]
/-- what of x goes through the port p, if the flow f of the group g gets it -/
def thr1 (r : Nat → Int32) (g f p : Nat) (x : Int32) : Int32 := if vN (fO r g f 0) = p ∨ 8 + vN (fO r g f 1) = p then x else 0
/-- the flows of a group as numbers -/
def flK (r : Nat → Int32) (g n : Nat) : Prop := gO r g 5 = nI n ∧ n ≤ 16 ∧ ∀ f, f < n → (fO r g f 0 = nI (vN (fO r g f 0)) ∧ vN (fO r g f 0) < 8) ∧ (fO r g f 1 = nI (vN (fO r g f 1)) ∧ vN (fO r g f 1) < 8) ∧ (fO r g f 3 = nI (vN (fO r g f 3)) ∧ vN (fO r g f 3) ≤ 100000)
def cdiv (a n : Nat) : Nat := (a + n - 1) / n
def sumN (f : Nat → Nat) : Nat → Nat
  | 0 => 0
  | n + 1 => sumN f n + f n
theorem sumI_nI (f : Nat → Nat) : ∀ n, sumI (fun i => nI (f i)) n = nI (sumN f n)
  | 0 => rfl
  | n + 1 => by rw [sumI, sumI_nI f n, nI_add, sumN]
theorem sumI_cg {f g : Nat → Int32} : ∀ {n : Nat}, (∀ i, i < n → f i = g i) → sumI f n = sumI g n
  | 0, _ => rfl
  | n + 1, h => by rw [sumI, sumI, sumI_cg (fun i hi => h i (by omega)), h n (by omega)]
theorem sumN_cg {f g : Nat → Nat} : ∀ {n : Nat}, (∀ i, i < n → f i = g i) → sumN f n = sumN g n
  | 0, _ => rfl
  | n + 1, h => by rw [sumN, sumN, sumN_cg (fun i hi => h i (by omega)), h n (by omega)]
theorem sumN_le {f : Nat → Nat} {B : Nat} : ∀ {n : Nat}, (∀ i, i < n → f i ≤ B) → sumN f n ≤ n * B
  | 0, _ => by simp [sumN]
  | n + 1, h => by
    have h1 := sumN_le (n := n) (fun i hi => h i (by omega))
    have h2 := h n (by omega)
    rw [sumN, Nat.succ_mul]
    omega
theorem upI_nI {a n : Nat} (h0 : 0 < n) (h : a + n < 2147483648) : upI (nI a) (nI n) = nI (cdiv a n) := by
  unfold upI cdiv
  rw [nI_add, li 1, pk_sub (by omega), pk_div (by omega) h0 (by omega)]

theorem cdiv_le {a n : Nat} (h : 0 < n) : cdiv a n ≤ a := by
  unfold cdiv
  rcases Nat.eq_zero_or_pos a with h0 | h0
  · subst h0
    rw [Nat.zero_add, Nat.div_eq_of_lt (by omega)]
    exact Nat.zero_le _
  · refine (Nat.div_le_iff_le_mul_add_pred h).mpr ?_
    have := Nat.le_mul_of_pos_left a h
    omega
section
variable {b : Nat} {W : WD}
theorem m_up {x y : Int32} (h : ¬ y = 0) : f_X10_up x y (wd b W) = some (upI x y, wd b W) := by
  unfold f_X10_up
  have e : dV (x + y - 1) y = some (upI x y) := by unfold dV; rw [if_neg h]; rfl
  rw [ob_i e]
theorem m_allAv : f_X10_allAvailable (b + ad 10 0 0) (wd b W) = some ((), wd b (wsA W 10 0 0 4 (filI (W.2.1 10 0 0 4) 16 (fun p => W.2.1 10 0 0 0 (10 + p))))) := by
  unfold f_X10_allAvailable
  rw [oO_10 h10]
  have e := loopN (fun m i => f_X10_allAvailable_L2 (b + ad 10 0 0) (fun N6 => some ((), N6)) m (nI i) (wd b (wsA W 10 0 0 4 (filI (W.2.1 10 0 0 4) i (fun p => W.2.1 10 0 0 0 (10 + p)))))) 16 (y := some ((), wd b (wsA W 10 0 0 4 (filI (W.2.1 10 0 0 4) 16 (fun p => W.2.1 10 0 0 0 (10 + p)))))) ?_ ?_ FU 0 (by omega) (by have := FUgt; omega)
  · try dsimp only at e
    rw [filI_0, wsA_s] at e
    exact e
  · intro m i hi
    try dsimp only
    rw [f_X10_allAvailable_L2, li 16, if_neg (le_n hi (by omega)), o10_4 h10, o10_0 h10, li 10, nI_add, oa10_0 h10 (by omega), ot10_4 h10 hi, nI_1, wsA_r, wsA_2, wsA_k _ (by decide), filI_s]
  · intro m
    try dsimp only
    rw [f_X10_allAvailable_L2, li 16, if_pos (le_p (Nat.le_refl _) (by omega))]
/-- what the flows of the group g need at the port p for the span y, the first i of them -/
def needI (r : Nat → Int32) (g : Nat) (y : Int32) (i p : Nat) : Int32 := sumI (fun f => thr1 r g f p (upI (fO r g f 3) y)) i
theorem m_fits {g n : Nat} (hg : g < 12) (hk : flK (W.2.1 10 0 0 0) g n) {y : Int32} (hy : ¬ y = 0) : f_X10_fits (b + ad 10 0 0) (nI g) y (wd b W) = some (bI (allB (fun p => !decide (W.2.1 10 0 0 4 p < needI (W.2.1 10 0 0 0) g y n p)) 16), wd b (wsA W 10 0 0 5 (filI (W.2.1 10 0 0 5) 16 (needI (W.2.1 10 0 0 0) g y n)))) := by
  obtain ⟨hc, hn, hfl⟩ := hk
  unfold f_X10_fits
  rw [oO_10 h10]
  generalize hr : W.2.1 10 0 0 0 = r at *
  -- zeros
  have e1 : ∀ k, f_X10_fits_L2 (b + ad 10 0 0) (nI g) y k FU (nI 0) (wd b W) = k (wd b (wsA W 10 0 0 5 (filI (W.2.1 10 0 0 5) 16 (fun _ => 0)))) := by
    intro k
    have e := loopN (fun m i => f_X10_fits_L2 (b + ad 10 0 0) (nI g) y k m (nI i) (wd b (wsA W 10 0 0 5 (filI (W.2.1 10 0 0 5) i (fun _ => 0))))) 16 (y := k (wd b (wsA W 10 0 0 5 (filI (W.2.1 10 0 0 5) 16 (fun _ => 0))))) ?_ ?_ FU 0 (by omega) (by have := FUgt; omega)
    · try dsimp only at e
      rw [filI_0, wsA_s] at e
      exact e
    · intro m i hi
      try dsimp only
      rw [f_X10_fits_L2, li 16, if_neg (le_n hi (by omega)), o10_5 h10, ot10_5 h10 hi, nI_1, wsA_r, wsA_2, filI_s _ (fun _ => 0)]
    · intro m
      try dsimp only
      rw [f_X10_fits_L2, li 16, if_pos (le_p (Nat.le_refl _) (by omega))]
  refine (e1 _).trans ?_
  -- the sums
  have e2 : ∀ k, f_X10_fits_L23 (b + ad 10 0 0) (nI g) y k FU (nI 0) (wd b (wsA W 10 0 0 5 (filI (W.2.1 10 0 0 5) 16 (fun _ => 0)))) = k (wd b (wsA W 10 0 0 5 (filI (W.2.1 10 0 0 5) 16 (needI r g y n)))) := by
    intro k
    refine loopN (fun m i => f_X10_fits_L23 (b + ad 10 0 0) (nI g) y k m (nI i) (wd b (wsA W 10 0 0 5 (filI (W.2.1 10 0 0 5) 16 (needI r g y i))))) n ?_ ?_ FU 0 (by omega) (by have := FUgt; omega)
    · intro m i hi
      obtain ⟨⟨a1, a2⟩, ⟨a3, a4⟩, -⟩ := hfl i hi
      try dsimp only
      have hr' : (wsA W 10 0 0 5 (filI (W.2.1 10 0 0 5) 16 (needI r g y i))).2.1 10 0 0 0 = r := by rw [wsA_k _ (by decide), hr]
      rw [f_X10_fits_L23, li 5, ob2_i (m_of (by omega)), hr', hc, if_neg (le_n hi (by omega)), li 3, ob2_i (m_flowOf (by omega)), hr', ob2_i (m_up hy), o10_5 h10, li 0, ob2_i (m_flowOf (by omega)), hr', a1, oa10_5 h10 (by omega), ot10_5 h10 (by omega), wsA_r, wsA_2, o10_5 h10, li 1, ob2_i (m_flowOf (by omega)), wsA_k _ (by decide), hr, a3, li 8, nI_add, oa10_5 h10 (by omega), ot10_5 h10 (by omega), wsA_r, wsA_2, i1, upd_add2 (by omega)]
      congr 3
      funext p
      simp only [filI]
      split
      · rfl
      · rename_i hp
        rw [if_neg (by omega), Int32.add_zero]
    · intro m
      try dsimp only
      rw [f_X10_fits_L23, li 5, ob2_i (m_of (by omega)), wsA_k _ (by decide), hr, hc, if_pos (le_p (Nat.le_refl _) (by omega))]
  refine (e2 _).trans ?_
  -- the comparison
  generalize hN : filI (W.2.1 10 0 0 5) 16 (needI r g y n) = F
  have hF : ∀ p, p < 16 → F p = needI r g y n p := fun p hp => by rw [← hN]; exact filI_lt hp
  have hA : (wsA W 10 0 0 5 F).2.1 10 0 0 4 = W.2.1 10 0 0 4 := by rw [wsA_k _ (by decide)]
  refine loopN (fun m i => f_X10_fits_L94 (b + ad 10 0 0) (fun v30 N31 => rZ v30 N31) m (bI (allB (fun p => !decide (W.2.1 10 0 0 4 p < needI r g y n p)) i)) (nI i) (wd b (wsA W 10 0 0 5 F))) 16 ?_ ?_ FU 0 (by omega) (by have := FUgt; omega)
  · intro m i hi
    try dsimp only
    rw [f_X10_fits_L94, li 16, if_neg (le_n hi (by omega))]
    cases hall : allB (fun p => !decide (W.2.1 10 0 0 4 p < needI r g y n p)) i with
    | true =>
      rw [if_neg (by decide), o10_5 h10, oa10_5 h10 hi, o10_4 h10, oa10_4 h10 hi, wsA_r, hA, hF i hi, nI_1]
      by_cases hl : W.2.1 10 0 0 4 i < needI r g y n i
      · rw [if_pos hl]
        simp [allB, hall, hl, bI]
      · rw [if_neg hl]
        simp [allB, hall, hl, bI]
    | false =>
      rw [if_pos (show bI false = 0 from rfl), nI_1]
      simp [allB, hall, bI]
  · intro m
    try dsimp only
    rw [f_X10_fits_L94, li 16, if_pos (le_p (Nat.le_refl _) (by omega))]
    cases allB (fun p => !decide (W.2.1 10 0 0 4 p < needI r g y n p)) 16 <;> rfl
end
