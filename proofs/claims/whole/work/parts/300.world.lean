/-! THE WORLD: what the 836 cells behind the two constructors hold. A cell is named by its role c (a class's number; 1 the flows of a group, 11 a draft, 12 the flows found in the text), the state i, the group g. W.1: int fields; W.2.1: int arrays; W.2.2: long arrays and fields -/
abbrev WD : Type := (Nat → Nat → Nat → Nat → Int32) × (Nat → Nat → Nat → Nat → Nat → Int32) × (Nat → Nat → Nat → Nat → Nat → Int64)
def wsI (W : WD) (c i g k : Nat) (v : Int32) : WD := (fun c' i' g' k' => if c' = c ∧ i' = i ∧ g' = g ∧ k' = k then v else W.1 c' i' g' k', W.2.1, W.2.2)
def wsA (W : WD) (c i g k : Nat) (f : Nat → Int32) : WD := (W.1, fun c' i' g' k' => if c' = c ∧ i' = i ∧ g' = g ∧ k' = k then f else W.2.1 c' i' g' k', W.2.2)
def wsL (W : WD) (c i g k : Nat) (f : Nat → Int64) : WD := (W.1, W.2.1, fun c' i' g' k' => if c' = c ∧ i' = i ∧ g' = g ∧ k' = k then f else W.2.2 c' i' g' k')
theorem wsI_1 (W : WD) (c i g k : Nat) (v : Int32) (c' i' g' k' : Nat) : (wsI W c i g k v).1 c' i' g' k' = if c' = c ∧ i' = i ∧ g' = g ∧ k' = k then v else W.1 c' i' g' k' := rfl
theorem wsI_A (W : WD) (c i g k : Nat) (v : Int32) : (wsI W c i g k v).2.1 = W.2.1 := rfl
theorem wsI_L (W : WD) (c i g k : Nat) (v : Int32) : (wsI W c i g k v).2.2 = W.2.2 := rfl
theorem wsA_1 (W : WD) (c i g k : Nat) (f : Nat → Int32) : (wsA W c i g k f).1 = W.1 := rfl
theorem wsA_A (W : WD) (c i g k : Nat) (f : Nat → Int32) (c' i' g' k' : Nat) : (wsA W c i g k f).2.1 c' i' g' k' = if c' = c ∧ i' = i ∧ g' = g ∧ k' = k then f else W.2.1 c' i' g' k' := rfl
theorem wsA_L (W : WD) (c i g k : Nat) (f : Nat → Int32) : (wsA W c i g k f).2.2 = W.2.2 := rfl
theorem wsL_1 (W : WD) (c i g k : Nat) (f : Nat → Int64) : (wsL W c i g k f).1 = W.1 := rfl
theorem wsL_A (W : WD) (c i g k : Nat) (f : Nat → Int64) : (wsL W c i g k f).2.1 = W.2.1 := rfl
theorem wsL_L (W : WD) (c i g k : Nat) (f : Nat → Int64) (c' i' g' k' : Nat) : (wsL W c i g k f).2.2 c' i' g' k' = if c' = c ∧ i' = i ∧ g' = g ∧ k' = k then f else W.2.2 c' i' g' k' := rfl
def sA (i : Nat) : Nat := if i = 0 then 9 else if i = 7 then 711 else 11 + 98 * i
def ad (c i g : Nat) : Nat := match c with
  | 0 => sA i + 94
  | 1 => sA i + 11 + 7 * g
  | 2 => 1
  | 3 => 710
  | 4 => sA i + 10 + 7 * g
  | 5 => 107
  | 6 => if i = 0 then 708 else 820
  | 7 => sA i
  | 8 => if i = 0 then 697 else 809
  | 9 => 0
  | 10 => 824
  | 11 => sA i + 3
  | _ => 3
def aa (c i g k : Nat) : Nat := ad c i g + (match c, k with
  | 0, 2 => 1
  | 0, 3 => 2
  | 0, 4 => 3
  | 1, 1 => 1
  | 1, 2 => 2
  | 1, 3 => 3
  | 1, 4 => 4
  | 1, 5 => 5
  | 2, 2 => 1
  | 3, 4 => 112
  | 3, 6 => 113
  | 5, 2 => 1
  | 6, 0 => 1
  | 7, 7 => 1
  | 7, 8 => 2
  | 7, 10 => 9
  | 8, 1 => 1
  | 8, 2 => 2
  | 8, 3 => 3
  | 8, 4 => 4
  | 8, 5 => 5
  | 8, 6 => 6
  | 8, 7 => 7
  | 8, 8 => 8
  | 8, 9 => 9
  | 8, 10 => 10
  | 10, 0 => 1
  | 10, 2 => 2
  | 10, 4 => 3
  | 10, 5 => 4
  | 10, 6 => 5
  | 10, 9 => 6
  | 10, 11 => 7
  | 10, 12 => 8
  | 10, 13 => 9
  | 10, 14 => 10
  | 10, 18 => 11
  | 11, 1 => 1
  | 11, 2 => 2
  | 11, 3 => 3
  | 11, 4 => 4
  | 11, 5 => 5
  | 12, 1 => 1
  | 12, 2 => 2
  | 12, 3 => 3
  | 12, 4 => 4
  | 12, 5 => 5
  | _, _ => 0)
def arr (b : Nat) (W : WD) (c i g k : Nat) : AE := match c, k with
  | 0, 2 => .inr (0, 20, .inl (W.2.1 0 i g 2))
  | 0, 3 => .inr (0, 20, .inl (W.2.1 0 i g 3))
  | 0, 4 => .inr (0, 20, .inl (W.2.1 0 i g 4))
  | 1, 1 => .inr (0, 16, .inl (W.2.1 1 i g 1))
  | 1, 2 => .inr (0, 16, .inl (W.2.1 1 i g 2))
  | 1, 3 => .inr (0, 16, .inl (W.2.1 1 i g 3))
  | 1, 4 => .inr (0, 16, .inl (W.2.1 1 i g 4))
  | 1, 5 => .inr (0, 16, .inl (W.2.1 1 i g 5))
  | 2, 2 => .inr (0, 120, .inl (W.2.1 2 i g 2))
  | 3, 4 => .inr (0, 4, .inl (W.2.1 3 i g 4))
  | 3, 6 => .inr (0, 4, .inl (W.2.1 3 i g 6))
  | 6, 0 => .inr (0, 16, .inl (W.2.1 6 i g 0))
  | 7, 7 => .inr (0, 16, .inl (W.2.1 7 i g 7))
  | 7, 8 => .inr (0, 16, .inl (W.2.1 7 i g 8))
  | 8, 1 => .inr (0, 12, .inl (W.2.1 8 i g 1))
  | 8, 2 => .inr (0, 12, .inl (W.2.1 8 i g 2))
  | 8, 3 => .inr (0, 16, .inl (W.2.1 8 i g 3))
  | 8, 4 => .inr (0, 12, .inl (W.2.1 8 i g 4))
  | 8, 5 => .inr (0, 12, .inl (W.2.1 8 i g 5))
  | 8, 6 => .inr (1, 12, .inr (.inl (W.2.2 8 i g 6)))
  | 8, 7 => .inr (0, 12, .inl (W.2.1 8 i g 7))
  | 8, 8 => .inr (0, 16, .inl (W.2.1 8 i g 8))
  | 8, 9 => .inr (0, 16, .inl (W.2.1 8 i g 9))
  | 8, 10 => .inr (0, 16, .inl (W.2.1 8 i g 10))
  | 10, 0 => .inr (0, 9456, .inl (W.2.1 10 i g 0))
  | 10, 2 => .inr (0, 120, .inl (W.2.1 10 i g 2))
  | 10, 4 => .inr (0, 16, .inl (W.2.1 10 i g 4))
  | 10, 5 => .inr (0, 16, .inl (W.2.1 10 i g 5))
  | 10, 6 => .inr (0, 12, .inl (W.2.1 10 i g 6))
  | 10, 9 => .inr (0, 4, .inl (W.2.1 10 i g 9))
  | 10, 11 => .inr (1, 12, .inr (.inl (W.2.2 10 i g 11)))
  | 10, 12 => .inr (1, 12, .inr (.inl (W.2.2 10 i g 12)))
  | 10, 13 => .inr (0, 12, .inl (W.2.1 10 i g 13))
  | 10, 14 => .inr (0, 192, .inl (W.2.1 10 i g 14))
  | 10, 18 => .inr (0, 4, .inl (W.2.1 10 i g 18))
  | 11, 1 => .inr (0, 16, .inl (W.2.1 11 i g 1))
  | 11, 2 => .inr (0, 16, .inl (W.2.1 11 i g 2))
  | 11, 3 => .inr (0, 16, .inl (W.2.1 11 i g 3))
  | 11, 4 => .inr (0, 16, .inl (W.2.1 11 i g 4))
  | 11, 5 => .inr (0, 16, .inl (W.2.1 11 i g 5))
  | 12, 1 => .inr (0, 16, .inl (W.2.1 12 i g 1))
  | 12, 2 => .inr (0, 16, .inl (W.2.1 12 i g 2))
  | 12, 3 => .inr (0, 16, .inl (W.2.1 12 i g 3))
  | 12, 4 => .inr (0, 16, .inl (W.2.1 12 i g 4))
  | 12, 5 => .inr (0, 16, .inl (W.2.1 12 i g 5))
  | 7, 10 => .inr (2, 12, .inr (.inr (.inr (.inr (fun x => if x < 12 then some (b + ad 4 i x) else none)))))
  | 5, 2 => .inr (3, 6, .inr (.inr (.inr (.inr (fun x => if x < 6 then some (b + ad 7 (x + 1) 0) else none)))))
  | _, _ => .inl (0, [])
def fd (b : Nat) (W : WD) (c i g : Nat) : Nat × List Value := match c with
  | 0 => (0, [.int (W.1 0 i g 0), .int (W.1 0 i g 1), .ref (b + aa 0 i g 2), .ref (b + aa 0 i g 3), .ref (b + aa 0 i g 4)])
  | 1 => (1, [.int (W.1 1 i g 0), .ref (b + aa 1 i g 1), .ref (b + aa 1 i g 2), .ref (b + aa 1 i g 3), .ref (b + aa 1 i g 4), .ref (b + aa 1 i g 5)])
  | 2 => (2, [.int (W.1 2 i g 0), .int (W.1 2 i g 1), .ref (b + aa 2 i g 2), .ref (b + ad 12 0 0)])
  | 3 => (3, [.ref (b + ad 7 7 0), .ref (b + ad 8 1 0), .ref (b + ad 6 1 0), .int (W.1 3 i g 3), .ref (b + aa 3 i g 4), .int (W.1 3 i g 5), .ref (b + aa 3 i g 6)])
  | 4 => (4, [.int (W.1 4 i g 0), .int (W.1 4 i g 1), .int (W.1 4 i g 2), .int (W.1 4 i g 3), .int (W.1 4 i g 4), .ref (b + ad 1 i g)])
  | 5 => (5, [.int (W.1 5 i g 0), .int (W.1 5 i g 1), .ref (b + aa 5 i g 2)])
  | 6 => (6, [.ref (b + aa 6 i g 0)])
  | 7 => (7, [.int (W.1 7 i g 0), .int (W.1 7 i g 1), .int (W.1 7 i g 2), .int (W.1 7 i g 3), .int (W.1 7 i g 4), .int (W.1 7 i g 5), .int (W.1 7 i g 6), .ref (b + aa 7 i g 7), .ref (b + aa 7 i g 8), .ref (b + ad 11 i 0), .ref (b + aa 7 i g 10), .ref (b + ad 0 i 0)])
  | 8 => (8, [.int (W.1 8 i g 0), .ref (b + aa 8 i g 1), .ref (b + aa 8 i g 2), .ref (b + aa 8 i g 3), .ref (b + aa 8 i g 4), .ref (b + aa 8 i g 5), .ref (b + aa 8 i g 6), .ref (b + aa 8 i g 7), .ref (b + aa 8 i g 8), .ref (b + aa 8 i g 9), .ref (b + aa 8 i g 10)])
  | 9 => (9, [.ref (b + ad 2 0 0), .ref (b + ad 7 0 0), .ref (b + ad 5 0 0), .ref (b + ad 8 0 0), .ref (b + ad 6 0 0), .ref (b + ad 3 0 0)])
  | 10 => (10, [.ref (b + aa 10 i g 0), .int (W.1 10 i g 1), .ref (b + aa 10 i g 2), .int (W.1 10 i g 3), .ref (b + aa 10 i g 4), .ref (b + aa 10 i g 5), .ref (b + aa 10 i g 6), .int (W.1 10 i g 7), .int (W.1 10 i g 8), .ref (b + aa 10 i g 9), .int (W.1 10 i g 10), .ref (b + aa 10 i g 11), .ref (b + aa 10 i g 12), .ref (b + aa 10 i g 13), .ref (b + aa 10 i g 14), .int (W.1 10 i g 15), .int (W.1 10 i g 16), .int (W.1 10 i g 17), .ref (b + aa 10 i g 18), .long (W.2.2 10 i g 19 0)])
  | 11 => (1, [.int (W.1 11 i g 0), .ref (b + aa 11 i g 1), .ref (b + aa 11 i g 2), .ref (b + aa 11 i g 3), .ref (b + aa 11 i g 4), .ref (b + aa 11 i g 5)])
  | 12 => (1, [.int (W.1 12 i g 0), .ref (b + aa 12 i g 1), .ref (b + aa 12 i g 2), .ref (b + aa 12 i g 3), .ref (b + aa 12 i g 4), .ref (b + aa 12 i g 5)])
  | _ => (0, [])
def cel (b : Nat) (W : WD) (d : Nat × Nat × Nat × Nat) : AE := if d.2.2.2 = 0 then .inl (fd b W d.1 d.2.1 d.2.2.1) else arr b W d.1 d.2.1 d.2.2.1 (d.2.2.2 - 1)
def dS (i u : Nat) : Nat × Nat × Nat × Nat := if u = 0 then (7, i, 0, 0) else if u = 1 then (7, i, 0, 8) else if u = 2 then (7, i, 0, 9) else if u = 3 then (11, i, 0, 0) else if u < 9 then (11, i, 0, u - 2) else if u = 9 then (7, i, 0, 11) else if u < 94 then (if (u - 10) % 7 = 0 then (4, i, (u - 10) / 7, 0) else if (u - 10) % 7 = 1 then (1, i, (u - 10) / 7, 0) else (1, i, (u - 10) / 7, (u - 10) % 7)) else if u = 94 then (0, i, 0, 0) else (0, i, 0, u - 92)
def dT (i u : Nat) : Nat × Nat × Nat × Nat := if u = 0 then (8, i, 0, 0) else (8, i, 0, u + 1)
def dM10 (u : Nat) : Nat := match u with
  | 0 => 0
  | 1 => 1
  | 2 => 3
  | 3 => 5
  | 4 => 6
  | 5 => 7
  | 6 => 10
  | 7 => 12
  | 8 => 13
  | 9 => 14
  | 10 => 15
  | _ => 19
def dc (r : Nat) : Nat × Nat × Nat × Nat := if r = 0 then (9, 0, 0, 0) else if r = 1 then (2, 0, 0, 0) else if r = 2 then (2, 0, 0, 3) else if r = 3 then (12, 0, 0, 0) else if r < 9 then (12, 0, 0, r - 2) else if r < 107 then dS 0 (r - 9) else if r = 107 then (5, 0, 0, 0) else if r = 108 then (5, 0, 0, 3) else if r < 697 then dS (1 + (r - 109) / 98) ((r - 109) % 98) else if r < 708 then dT 0 (r - 697) else if r = 708 then (6, 0, 0, 0) else if r = 709 then (6, 0, 0, 1) else if r = 710 then (3, 0, 0, 0) else if r < 809 then dS 7 (r - 711) else if r < 820 then dT 1 (r - 809) else if r = 820 then (6, 1, 0, 0) else if r = 821 then (6, 1, 0, 1) else if r = 822 then (3, 0, 0, 5) else if r = 823 then (3, 0, 0, 7) else (10, 0, 0, dM10 (r - 824))
def en (d : Nat × Nat × Nat × Nat) : Nat := if d.2.2.2 = 0 then ad d.1 d.2.1 d.2.2.1 else aa d.1 d.2.1 d.2.2.1 (d.2.2.2 - 1)
def vo (c i g : Nat) : Bool := match c with
  | 0 => i < 8 && g == 0
  | 1 => i < 8 && g < 12
  | 4 => i < 8 && g < 12
  | 6 => i < 2 && g == 0
  | 7 => i < 8 && g == 0
  | 8 => i < 2 && g == 0
  | 11 => i < 8 && g == 0
  | c => c < 13 && (i == 0 && g == 0)
theorem dc_en : ∀ r, r < 836 → en (dc r) = r := by decide +kernel
def ckA (c : Nat) (x : Nat → Nat → Nat) (k : Nat) : Bool := (List.range 8).all fun i => (List.range 12).all fun g => !(vo c i g) || (decide (x i g < 836) && decide (dc (x i g) = (c, i, g, k)))
theorem ckA_ok {c : Nat} {x : Nat → Nat → Nat} {k : Nat} (hc : ckA c x k = true) {i g : Nat} (h2 : i < 8) (h3 : g < 12) (h : vo c i g = true) : x i g < 836 ∧ dc (x i g) = (c, i, g, k) := by
  have h4 := List.all_eq_true.mp (List.all_eq_true.mp hc i (List.mem_range.mpr h2)) g (List.mem_range.mpr h3)
  rw [h] at h4
  simpa using h4
theorem ad_lt : ∀ c, c < 13 → ckA c (ad c) 0 = true := by decide +kernel
theorem vo_lt {c i g : Nat} (h : vo c i g = true) : c < 13 ∧ i < 8 ∧ g < 12 := by
  unfold vo at h
  split at h <;> simp at h <;> omega
theorem ad_ok {c i g : Nat} (h : vo c i g = true) : ad c i g < 836 ∧ dc (ad c i g) = (c, i, g, 0) := by
  obtain ⟨h1, h2, h3⟩ := vo_lt h
  exact ckA_ok (ad_lt c h1) h2 h3 h
def wd (b : Nat) (W : WD) : AH := (b + 836, fun q => if b ≤ q ∧ q < b + 836 then some (cel b W (dc (q - b))) else none)
theorem wd_at {b : Nat} {W : WD} {r : Nat} (h : r < 836) : (wd b W).2 (b + r) = some (cel b W (dc r)) := by
  show (if b ≤ b + r ∧ b + r < b + 836 then some (cel b W (dc (b + r - b))) else none) = _
  rw [if_pos ⟨by omega, by omega⟩, Nat.add_sub_cancel_left]
theorem wd_up {b : Nat} {W W' : WD} {r : Nat} {e : AE} (hr : r < 836) (h1 : cel b W' (dc r) = e) (h2 : ∀ d, d ≠ dc r → cel b W' d = cel b W d) : ab_up (wd b W) (b + r) e = wd b W' := by
  refine Prod.ext rfl (funext fun q => ?_)
  show (if q = b + r then some e else if b ≤ q ∧ q < b + 836 then some (cel b W (dc (q - b))) else none) = if b ≤ q ∧ q < b + 836 then some (cel b W' (dc (q - b))) else none
  by_cases hq : q = b + r
  · subst hq
    rw [if_pos rfl, if_pos ⟨by omega, by omega⟩, Nat.add_sub_cancel_left, h1]
  · rw [if_neg hq]
    by_cases hb : b ≤ q ∧ q < b + 836
    · rw [if_pos hb, if_pos hb, h2]
      intro he
      have e1 := dc_en (q - b) (by omega)
      have e2 := dc_en r hr
      rw [he, e2] at e1
      omega
    · rw [if_neg hb, if_neg hb]
theorem fd_congr {b : Nat} {W W' : WD} {c i g : Nat} (h : ∀ k, W'.1 c i g k = W.1 c i g k) (hl : ∀ k, W'.2.2 c i g k = W.2.2 c i g k) : fd b W' c i g = fd b W c i g := by
  unfold fd
  split <;> simp only [h, hl]
theorem arr_congr {b : Nat} {W W' : WD} {c i g : Nat} {k : Nat} (h : W'.2.1 c i g k = W.2.1 c i g k) (hl : W'.2.2 c i g k = W.2.2 c i g k) : arr b W' c i g k = arr b W c i g k := by
  unfold arr
  split <;> first | rfl | (rw [h]) | (rw [hl])
theorem cel_wsI {b : Nat} {W : WD} {c i g k : Nat} {v : Int32} : ∀ d, d ≠ (c, i, g, 0) → cel b (wsI W c i g k v) d = cel b W d := by
  intro d hd
  obtain ⟨c', i', g', k'⟩ := d
  unfold cel
  by_cases h0 : k' = 0
  · subst h0
    rw [if_pos rfl, if_pos rfl]
    refine congrArg Sum.inl (fd_congr (fun q => ?_) (fun q => rfl))
    rw [wsI_1, if_neg]
    rintro ⟨rfl, rfl, rfl, -⟩
    exact hd rfl
  · rw [if_neg h0, if_neg h0]
    exact arr_congr rfl rfl
theorem cel_wsA {b : Nat} {W : WD} {c i g k : Nat} {f : Nat → Int32} : ∀ d, d ≠ (c, i, g, k + 1) → cel b (wsA W c i g k f) d = cel b W d := by
  intro d hd
  obtain ⟨c', i', g', k'⟩ := d
  unfold cel
  by_cases h0 : k' = 0
  · subst h0
    rw [if_pos rfl, if_pos rfl]
    exact congrArg Sum.inl (fd_congr (fun q => rfl) (fun q => rfl))
  · rw [if_neg h0, if_neg h0]
    refine arr_congr ?_ rfl
    rw [wsA_A, if_neg]
    rintro ⟨rfl, rfl, rfl, h⟩
    refine hd ?_
    show (c', i', g', k') = (c', i', g', k + 1)
    rw [show k' = k + 1 by simp only at h0 h; omega]
theorem cel_wsL {b : Nat} {W : WD} {c i g k : Nat} {f : Nat → Int64} : ∀ d, d ≠ (c, i, g, k + 1) → (d ≠ (c, i, g, 0)) → cel b (wsL W c i g k f) d = cel b W d := by
  intro d hd hd0
  obtain ⟨c', i', g', k'⟩ := d
  unfold cel
  by_cases h0 : k' = 0
  · subst h0
    rw [if_pos rfl, if_pos rfl]
    refine congrArg Sum.inl (fd_congr (fun q => rfl) (fun q => ?_))
    rw [wsL_L, if_neg]
    rintro ⟨rfl, rfl, rfl, -⟩
    exact hd0 rfl
  · rw [if_neg h0, if_neg h0]
    refine arr_congr rfl ?_
    rw [wsL_L, if_neg]
    rintro ⟨rfl, rfl, rfl, h⟩
    refine hd ?_
    show (c', i', g', k') = (c', i', g', k + 1)
    rw [show k' = k + 1 by simp only at h0 h; omega]
theorem aa_0_2 {i g : Nat} (h : vo 0 i g = true) : aa 0 i g 2 < 836 ∧ dc (aa 0 i g 2) = (0, i, g, 3) := by
  obtain ⟨-, h2, h3⟩ := vo_lt h
  exact ckA_ok (x := fun i g => aa 0 i g 2) (by decide +kernel) h2 h3 h
theorem aa_0_3 {i g : Nat} (h : vo 0 i g = true) : aa 0 i g 3 < 836 ∧ dc (aa 0 i g 3) = (0, i, g, 4) := by
  obtain ⟨-, h2, h3⟩ := vo_lt h
  exact ckA_ok (x := fun i g => aa 0 i g 3) (by decide +kernel) h2 h3 h
theorem aa_0_4 {i g : Nat} (h : vo 0 i g = true) : aa 0 i g 4 < 836 ∧ dc (aa 0 i g 4) = (0, i, g, 5) := by
  obtain ⟨-, h2, h3⟩ := vo_lt h
  exact ckA_ok (x := fun i g => aa 0 i g 4) (by decide +kernel) h2 h3 h
theorem aa_1_1 {i g : Nat} (h : vo 1 i g = true) : aa 1 i g 1 < 836 ∧ dc (aa 1 i g 1) = (1, i, g, 2) := by
  obtain ⟨-, h2, h3⟩ := vo_lt h
  exact ckA_ok (x := fun i g => aa 1 i g 1) (by decide +kernel) h2 h3 h
theorem aa_1_2 {i g : Nat} (h : vo 1 i g = true) : aa 1 i g 2 < 836 ∧ dc (aa 1 i g 2) = (1, i, g, 3) := by
  obtain ⟨-, h2, h3⟩ := vo_lt h
  exact ckA_ok (x := fun i g => aa 1 i g 2) (by decide +kernel) h2 h3 h
theorem aa_1_3 {i g : Nat} (h : vo 1 i g = true) : aa 1 i g 3 < 836 ∧ dc (aa 1 i g 3) = (1, i, g, 4) := by
  obtain ⟨-, h2, h3⟩ := vo_lt h
  exact ckA_ok (x := fun i g => aa 1 i g 3) (by decide +kernel) h2 h3 h
theorem aa_1_4 {i g : Nat} (h : vo 1 i g = true) : aa 1 i g 4 < 836 ∧ dc (aa 1 i g 4) = (1, i, g, 5) := by
  obtain ⟨-, h2, h3⟩ := vo_lt h
  exact ckA_ok (x := fun i g => aa 1 i g 4) (by decide +kernel) h2 h3 h
theorem aa_1_5 {i g : Nat} (h : vo 1 i g = true) : aa 1 i g 5 < 836 ∧ dc (aa 1 i g 5) = (1, i, g, 6) := by
  obtain ⟨-, h2, h3⟩ := vo_lt h
  exact ckA_ok (x := fun i g => aa 1 i g 5) (by decide +kernel) h2 h3 h
theorem aa_2_2 {i g : Nat} (h : vo 2 i g = true) : aa 2 i g 2 < 836 ∧ dc (aa 2 i g 2) = (2, i, g, 3) := by
  obtain ⟨-, h2, h3⟩ := vo_lt h
  exact ckA_ok (x := fun i g => aa 2 i g 2) (by decide +kernel) h2 h3 h
theorem aa_3_4 {i g : Nat} (h : vo 3 i g = true) : aa 3 i g 4 < 836 ∧ dc (aa 3 i g 4) = (3, i, g, 5) := by
  obtain ⟨-, h2, h3⟩ := vo_lt h
  exact ckA_ok (x := fun i g => aa 3 i g 4) (by decide +kernel) h2 h3 h
theorem aa_3_6 {i g : Nat} (h : vo 3 i g = true) : aa 3 i g 6 < 836 ∧ dc (aa 3 i g 6) = (3, i, g, 7) := by
  obtain ⟨-, h2, h3⟩ := vo_lt h
  exact ckA_ok (x := fun i g => aa 3 i g 6) (by decide +kernel) h2 h3 h
theorem aa_5_2 {i g : Nat} (h : vo 5 i g = true) : aa 5 i g 2 < 836 ∧ dc (aa 5 i g 2) = (5, i, g, 3) := by
  obtain ⟨-, h2, h3⟩ := vo_lt h
  exact ckA_ok (x := fun i g => aa 5 i g 2) (by decide +kernel) h2 h3 h
theorem aa_6_0 {i g : Nat} (h : vo 6 i g = true) : aa 6 i g 0 < 836 ∧ dc (aa 6 i g 0) = (6, i, g, 1) := by
  obtain ⟨-, h2, h3⟩ := vo_lt h
  exact ckA_ok (x := fun i g => aa 6 i g 0) (by decide +kernel) h2 h3 h
theorem aa_7_7 {i g : Nat} (h : vo 7 i g = true) : aa 7 i g 7 < 836 ∧ dc (aa 7 i g 7) = (7, i, g, 8) := by
  obtain ⟨-, h2, h3⟩ := vo_lt h
  exact ckA_ok (x := fun i g => aa 7 i g 7) (by decide +kernel) h2 h3 h
theorem aa_7_8 {i g : Nat} (h : vo 7 i g = true) : aa 7 i g 8 < 836 ∧ dc (aa 7 i g 8) = (7, i, g, 9) := by
  obtain ⟨-, h2, h3⟩ := vo_lt h
  exact ckA_ok (x := fun i g => aa 7 i g 8) (by decide +kernel) h2 h3 h
theorem aa_7_10 {i g : Nat} (h : vo 7 i g = true) : aa 7 i g 10 < 836 ∧ dc (aa 7 i g 10) = (7, i, g, 11) := by
  obtain ⟨-, h2, h3⟩ := vo_lt h
  exact ckA_ok (x := fun i g => aa 7 i g 10) (by decide +kernel) h2 h3 h
theorem aa_8_1 {i g : Nat} (h : vo 8 i g = true) : aa 8 i g 1 < 836 ∧ dc (aa 8 i g 1) = (8, i, g, 2) := by
  obtain ⟨-, h2, h3⟩ := vo_lt h
  exact ckA_ok (x := fun i g => aa 8 i g 1) (by decide +kernel) h2 h3 h
theorem aa_8_2 {i g : Nat} (h : vo 8 i g = true) : aa 8 i g 2 < 836 ∧ dc (aa 8 i g 2) = (8, i, g, 3) := by
  obtain ⟨-, h2, h3⟩ := vo_lt h
  exact ckA_ok (x := fun i g => aa 8 i g 2) (by decide +kernel) h2 h3 h
theorem aa_8_3 {i g : Nat} (h : vo 8 i g = true) : aa 8 i g 3 < 836 ∧ dc (aa 8 i g 3) = (8, i, g, 4) := by
  obtain ⟨-, h2, h3⟩ := vo_lt h
  exact ckA_ok (x := fun i g => aa 8 i g 3) (by decide +kernel) h2 h3 h
theorem aa_8_4 {i g : Nat} (h : vo 8 i g = true) : aa 8 i g 4 < 836 ∧ dc (aa 8 i g 4) = (8, i, g, 5) := by
  obtain ⟨-, h2, h3⟩ := vo_lt h
  exact ckA_ok (x := fun i g => aa 8 i g 4) (by decide +kernel) h2 h3 h
theorem aa_8_5 {i g : Nat} (h : vo 8 i g = true) : aa 8 i g 5 < 836 ∧ dc (aa 8 i g 5) = (8, i, g, 6) := by
  obtain ⟨-, h2, h3⟩ := vo_lt h
  exact ckA_ok (x := fun i g => aa 8 i g 5) (by decide +kernel) h2 h3 h
theorem aa_8_6 {i g : Nat} (h : vo 8 i g = true) : aa 8 i g 6 < 836 ∧ dc (aa 8 i g 6) = (8, i, g, 7) := by
  obtain ⟨-, h2, h3⟩ := vo_lt h
  exact ckA_ok (x := fun i g => aa 8 i g 6) (by decide +kernel) h2 h3 h
theorem aa_8_7 {i g : Nat} (h : vo 8 i g = true) : aa 8 i g 7 < 836 ∧ dc (aa 8 i g 7) = (8, i, g, 8) := by
  obtain ⟨-, h2, h3⟩ := vo_lt h
  exact ckA_ok (x := fun i g => aa 8 i g 7) (by decide +kernel) h2 h3 h
theorem aa_8_8 {i g : Nat} (h : vo 8 i g = true) : aa 8 i g 8 < 836 ∧ dc (aa 8 i g 8) = (8, i, g, 9) := by
  obtain ⟨-, h2, h3⟩ := vo_lt h
  exact ckA_ok (x := fun i g => aa 8 i g 8) (by decide +kernel) h2 h3 h
theorem aa_8_9 {i g : Nat} (h : vo 8 i g = true) : aa 8 i g 9 < 836 ∧ dc (aa 8 i g 9) = (8, i, g, 10) := by
  obtain ⟨-, h2, h3⟩ := vo_lt h
  exact ckA_ok (x := fun i g => aa 8 i g 9) (by decide +kernel) h2 h3 h
theorem aa_8_10 {i g : Nat} (h : vo 8 i g = true) : aa 8 i g 10 < 836 ∧ dc (aa 8 i g 10) = (8, i, g, 11) := by
  obtain ⟨-, h2, h3⟩ := vo_lt h
  exact ckA_ok (x := fun i g => aa 8 i g 10) (by decide +kernel) h2 h3 h
theorem aa_10_0 {i g : Nat} (h : vo 10 i g = true) : aa 10 i g 0 < 836 ∧ dc (aa 10 i g 0) = (10, i, g, 1) := by
  obtain ⟨-, h2, h3⟩ := vo_lt h
  exact ckA_ok (x := fun i g => aa 10 i g 0) (by decide +kernel) h2 h3 h
theorem aa_10_2 {i g : Nat} (h : vo 10 i g = true) : aa 10 i g 2 < 836 ∧ dc (aa 10 i g 2) = (10, i, g, 3) := by
  obtain ⟨-, h2, h3⟩ := vo_lt h
  exact ckA_ok (x := fun i g => aa 10 i g 2) (by decide +kernel) h2 h3 h
theorem aa_10_4 {i g : Nat} (h : vo 10 i g = true) : aa 10 i g 4 < 836 ∧ dc (aa 10 i g 4) = (10, i, g, 5) := by
  obtain ⟨-, h2, h3⟩ := vo_lt h
  exact ckA_ok (x := fun i g => aa 10 i g 4) (by decide +kernel) h2 h3 h
theorem aa_10_5 {i g : Nat} (h : vo 10 i g = true) : aa 10 i g 5 < 836 ∧ dc (aa 10 i g 5) = (10, i, g, 6) := by
  obtain ⟨-, h2, h3⟩ := vo_lt h
  exact ckA_ok (x := fun i g => aa 10 i g 5) (by decide +kernel) h2 h3 h
theorem aa_10_6 {i g : Nat} (h : vo 10 i g = true) : aa 10 i g 6 < 836 ∧ dc (aa 10 i g 6) = (10, i, g, 7) := by
  obtain ⟨-, h2, h3⟩ := vo_lt h
  exact ckA_ok (x := fun i g => aa 10 i g 6) (by decide +kernel) h2 h3 h
theorem aa_10_9 {i g : Nat} (h : vo 10 i g = true) : aa 10 i g 9 < 836 ∧ dc (aa 10 i g 9) = (10, i, g, 10) := by
  obtain ⟨-, h2, h3⟩ := vo_lt h
  exact ckA_ok (x := fun i g => aa 10 i g 9) (by decide +kernel) h2 h3 h
theorem aa_10_11 {i g : Nat} (h : vo 10 i g = true) : aa 10 i g 11 < 836 ∧ dc (aa 10 i g 11) = (10, i, g, 12) := by
  obtain ⟨-, h2, h3⟩ := vo_lt h
  exact ckA_ok (x := fun i g => aa 10 i g 11) (by decide +kernel) h2 h3 h
theorem aa_10_12 {i g : Nat} (h : vo 10 i g = true) : aa 10 i g 12 < 836 ∧ dc (aa 10 i g 12) = (10, i, g, 13) := by
  obtain ⟨-, h2, h3⟩ := vo_lt h
  exact ckA_ok (x := fun i g => aa 10 i g 12) (by decide +kernel) h2 h3 h
theorem aa_10_13 {i g : Nat} (h : vo 10 i g = true) : aa 10 i g 13 < 836 ∧ dc (aa 10 i g 13) = (10, i, g, 14) := by
  obtain ⟨-, h2, h3⟩ := vo_lt h
  exact ckA_ok (x := fun i g => aa 10 i g 13) (by decide +kernel) h2 h3 h
theorem aa_10_14 {i g : Nat} (h : vo 10 i g = true) : aa 10 i g 14 < 836 ∧ dc (aa 10 i g 14) = (10, i, g, 15) := by
  obtain ⟨-, h2, h3⟩ := vo_lt h
  exact ckA_ok (x := fun i g => aa 10 i g 14) (by decide +kernel) h2 h3 h
theorem aa_10_18 {i g : Nat} (h : vo 10 i g = true) : aa 10 i g 18 < 836 ∧ dc (aa 10 i g 18) = (10, i, g, 19) := by
  obtain ⟨-, h2, h3⟩ := vo_lt h
  exact ckA_ok (x := fun i g => aa 10 i g 18) (by decide +kernel) h2 h3 h
theorem aa_11_1 {i g : Nat} (h : vo 11 i g = true) : aa 11 i g 1 < 836 ∧ dc (aa 11 i g 1) = (11, i, g, 2) := by
  obtain ⟨-, h2, h3⟩ := vo_lt h
  exact ckA_ok (x := fun i g => aa 11 i g 1) (by decide +kernel) h2 h3 h
theorem aa_11_2 {i g : Nat} (h : vo 11 i g = true) : aa 11 i g 2 < 836 ∧ dc (aa 11 i g 2) = (11, i, g, 3) := by
  obtain ⟨-, h2, h3⟩ := vo_lt h
  exact ckA_ok (x := fun i g => aa 11 i g 2) (by decide +kernel) h2 h3 h
theorem aa_11_3 {i g : Nat} (h : vo 11 i g = true) : aa 11 i g 3 < 836 ∧ dc (aa 11 i g 3) = (11, i, g, 4) := by
  obtain ⟨-, h2, h3⟩ := vo_lt h
  exact ckA_ok (x := fun i g => aa 11 i g 3) (by decide +kernel) h2 h3 h
theorem aa_11_4 {i g : Nat} (h : vo 11 i g = true) : aa 11 i g 4 < 836 ∧ dc (aa 11 i g 4) = (11, i, g, 5) := by
  obtain ⟨-, h2, h3⟩ := vo_lt h
  exact ckA_ok (x := fun i g => aa 11 i g 4) (by decide +kernel) h2 h3 h
theorem aa_11_5 {i g : Nat} (h : vo 11 i g = true) : aa 11 i g 5 < 836 ∧ dc (aa 11 i g 5) = (11, i, g, 6) := by
  obtain ⟨-, h2, h3⟩ := vo_lt h
  exact ckA_ok (x := fun i g => aa 11 i g 5) (by decide +kernel) h2 h3 h
theorem aa_12_1 {i g : Nat} (h : vo 12 i g = true) : aa 12 i g 1 < 836 ∧ dc (aa 12 i g 1) = (12, i, g, 2) := by
  obtain ⟨-, h2, h3⟩ := vo_lt h
  exact ckA_ok (x := fun i g => aa 12 i g 1) (by decide +kernel) h2 h3 h
theorem aa_12_2 {i g : Nat} (h : vo 12 i g = true) : aa 12 i g 2 < 836 ∧ dc (aa 12 i g 2) = (12, i, g, 3) := by
  obtain ⟨-, h2, h3⟩ := vo_lt h
  exact ckA_ok (x := fun i g => aa 12 i g 2) (by decide +kernel) h2 h3 h
theorem aa_12_3 {i g : Nat} (h : vo 12 i g = true) : aa 12 i g 3 < 836 ∧ dc (aa 12 i g 3) = (12, i, g, 4) := by
  obtain ⟨-, h2, h3⟩ := vo_lt h
  exact ckA_ok (x := fun i g => aa 12 i g 3) (by decide +kernel) h2 h3 h
theorem aa_12_4 {i g : Nat} (h : vo 12 i g = true) : aa 12 i g 4 < 836 ∧ dc (aa 12 i g 4) = (12, i, g, 5) := by
  obtain ⟨-, h2, h3⟩ := vo_lt h
  exact ckA_ok (x := fun i g => aa 12 i g 4) (by decide +kernel) h2 h3 h
theorem aa_12_5 {i g : Nat} (h : vo 12 i g = true) : aa 12 i g 5 < 836 ∧ dc (aa 12 i g 5) = (12, i, g, 6) := by
  obtain ⟨-, h2, h3⟩ := vo_lt h
  exact ckA_ok (x := fun i g => aa 12 i g 5) (by decide +kernel) h2 h3 h
section
variable {b : Nat} {W : WD} {i g : Nat} {α : Type}
theorem ob_i {x : Option α} {β : Type} {f : α → Option β} {a : α} (h : x = some a) : ob x f = f a := by rw [h]; rfl
theorem ob2_i {x : Option (α × AH)} {β : Type} {f : α → AH → Option β} {a : α} {N : AH} (h : x = some (a, N)) : ob2 x f = f a N := by rw [h]; rfl
theorem at_0 (h : vo 0 i g = true) : (wd b W).2 (b + ad 0 i g) = some (.inl (fd b W 0 i g)) := by rw [wd_at (ad_ok h).1, (ad_ok h).2]; rfl
theorem iO_0 (h : vo 0 i g = true) : iO (wd b W) (b + ad 0 i g) 0 = some () := by simp only [iO, at_0 h]; rfl
theorem oO_0 (h : vo 0 i g = true) (f : Unit → Option α) : ob (iO (wd b W) (b + ad 0 i g) 0) f = f () := ob_i (iO_0 h)
theorem r0_0 (h : vo 0 i g = true) : hI (wd b W) (b + ad 0 i g) 0 0 = some (W.1 0 i g 0) := by simp only [hI, at_0 h]; rfl
theorem o0_0 (h : vo 0 i g = true) (f : Int32 → Option α) : ob (hI (wd b W) (b + ad 0 i g) 0 0) f = f (W.1 0 i g 0) := ob_i (r0_0 h)
theorem s0_0 (h : vo 0 i g = true) {v : Int32} : pI (wd b W) (b + ad 0 i g) 0 0 v = some (wd b (wsI W 0 i g 0 v)) := by
  unfold pI
  simp only [pV, at_0 h]
  rw [if_pos ⟨rfl, Nat.le_of_ble_eq_true rfl⟩]
  refine congrArg some (wd_up (ad_ok h).1 ?_ (by rw [(ad_ok h).2]; exact cel_wsI))
  rw [(ad_ok h).2]
  simp [cel, fd, wsI]
theorem p0_0 (h : vo 0 i g = true) {v : Int32} (f : AH → Option α) : ob (pI (wd b W) (b + ad 0 i g) 0 0 v) f = f (wd b (wsI W 0 i g 0 v)) := ob_i (s0_0 h)
theorem r0_1 (h : vo 0 i g = true) : hI (wd b W) (b + ad 0 i g) 0 1 = some (W.1 0 i g 1) := by simp only [hI, at_0 h]; rfl
theorem o0_1 (h : vo 0 i g = true) (f : Int32 → Option α) : ob (hI (wd b W) (b + ad 0 i g) 0 1) f = f (W.1 0 i g 1) := ob_i (r0_1 h)
theorem s0_1 (h : vo 0 i g = true) {v : Int32} : pI (wd b W) (b + ad 0 i g) 0 1 v = some (wd b (wsI W 0 i g 1 v)) := by
  unfold pI
  simp only [pV, at_0 h]
  rw [if_pos ⟨rfl, Nat.le_of_ble_eq_true rfl⟩]
  refine congrArg some (wd_up (ad_ok h).1 ?_ (by rw [(ad_ok h).2]; exact cel_wsI))
  rw [(ad_ok h).2]
  simp [cel, fd, wsI]
theorem p0_1 (h : vo 0 i g = true) {v : Int32} (f : AH → Option α) : ob (pI (wd b W) (b + ad 0 i g) 0 1 v) f = f (wd b (wsI W 0 i g 1 v)) := ob_i (s0_1 h)
theorem r0_2 (h : vo 0 i g = true) : hR (wd b W) (b + ad 0 i g) 0 2 = some (b + aa 0 i g 2) := by simp only [hR, at_0 h]; rfl
theorem o0_2 (h : vo 0 i g = true) (f : Nat → Option α) : ob (hR (wd b W) (b + ad 0 i g) 0 2) f = f (b + aa 0 i g 2) := ob_i (r0_2 h)
theorem r0_3 (h : vo 0 i g = true) : hR (wd b W) (b + ad 0 i g) 0 3 = some (b + aa 0 i g 3) := by simp only [hR, at_0 h]; rfl
theorem o0_3 (h : vo 0 i g = true) (f : Nat → Option α) : ob (hR (wd b W) (b + ad 0 i g) 0 3) f = f (b + aa 0 i g 3) := ob_i (r0_3 h)
theorem r0_4 (h : vo 0 i g = true) : hR (wd b W) (b + ad 0 i g) 0 4 = some (b + aa 0 i g 4) := by simp only [hR, at_0 h]; rfl
theorem o0_4 (h : vo 0 i g = true) (f : Nat → Option α) : ob (hR (wd b W) (b + ad 0 i g) 0 4) f = f (b + aa 0 i g 4) := ob_i (r0_4 h)
theorem q0_2 (h : vo 0 i g = true) : (wd b W).2 (b + aa 0 i g 2) = some (arr b W 0 i g 2) := by rw [wd_at (aa_0_2 h).1, (aa_0_2 h).2]; rfl
theorem a0_2 (h : vo 0 i g = true) {x : Nat} (hx : x < 20) : aI (wd b W) (b + aa 0 i g 2) (nI x) = some (W.2.1 0 i g 2 x) := by
  have e1 : (nI x).toNatClampNeg = x := nI_clamp (by omega)
  have e2 : ¬ (nI x < 0 ∨ 20 ≤ (nI x).toNatClampNeg) := nI_in hx (by omega)
  rw [e1] at e2
  simp only [aI, q0_2 h, arr, if_neg e2, e1]
theorem oa0_2 (h : vo 0 i g = true) {x : Nat} (hx : x < 20) (f : Int32 → Option α) : ob (aI (wd b W) (b + aa 0 i g 2) (nI x)) f = f (W.2.1 0 i g 2 x) := ob_i (a0_2 h hx)
theorem t0_2 (h : vo 0 i g = true) {x : Nat} (hx : x < 20) {v : Int32} : sI (wd b W) (b + aa 0 i g 2) (nI x) v = some (wd b (wsA W 0 i g 2 (upd (W.2.1 0 i g 2) x v))) := by
  have e1 : (nI x).toNatClampNeg = x := nI_clamp (by omega)
  have e2 : ¬ (nI x < 0 ∨ 20 ≤ (nI x).toNatClampNeg) := nI_in hx (by omega)
  rw [e1] at e2
  simp only [sI, q0_2 h, arr, if_neg e2, e1]
  refine congrArg some (wd_up (aa_0_2 h).1 ?_ (by rw [(aa_0_2 h).2]; exact cel_wsA))
  rw [(aa_0_2 h).2]
  simp [cel, arr, wsA]
theorem ot0_2 (h : vo 0 i g = true) {x : Nat} (hx : x < 20) {v : Int32} (f : AH → Option α) : ob (sI (wd b W) (b + aa 0 i g 2) (nI x) v) f = f (wd b (wsA W 0 i g 2 (upd (W.2.1 0 i g 2) x v))) := ob_i (t0_2 h hx)
theorem q0_3 (h : vo 0 i g = true) : (wd b W).2 (b + aa 0 i g 3) = some (arr b W 0 i g 3) := by rw [wd_at (aa_0_3 h).1, (aa_0_3 h).2]; rfl
theorem a0_3 (h : vo 0 i g = true) {x : Nat} (hx : x < 20) : aI (wd b W) (b + aa 0 i g 3) (nI x) = some (W.2.1 0 i g 3 x) := by
  have e1 : (nI x).toNatClampNeg = x := nI_clamp (by omega)
  have e2 : ¬ (nI x < 0 ∨ 20 ≤ (nI x).toNatClampNeg) := nI_in hx (by omega)
  rw [e1] at e2
  simp only [aI, q0_3 h, arr, if_neg e2, e1]
theorem oa0_3 (h : vo 0 i g = true) {x : Nat} (hx : x < 20) (f : Int32 → Option α) : ob (aI (wd b W) (b + aa 0 i g 3) (nI x)) f = f (W.2.1 0 i g 3 x) := ob_i (a0_3 h hx)
theorem t0_3 (h : vo 0 i g = true) {x : Nat} (hx : x < 20) {v : Int32} : sI (wd b W) (b + aa 0 i g 3) (nI x) v = some (wd b (wsA W 0 i g 3 (upd (W.2.1 0 i g 3) x v))) := by
  have e1 : (nI x).toNatClampNeg = x := nI_clamp (by omega)
  have e2 : ¬ (nI x < 0 ∨ 20 ≤ (nI x).toNatClampNeg) := nI_in hx (by omega)
  rw [e1] at e2
  simp only [sI, q0_3 h, arr, if_neg e2, e1]
  refine congrArg some (wd_up (aa_0_3 h).1 ?_ (by rw [(aa_0_3 h).2]; exact cel_wsA))
  rw [(aa_0_3 h).2]
  simp [cel, arr, wsA]
theorem ot0_3 (h : vo 0 i g = true) {x : Nat} (hx : x < 20) {v : Int32} (f : AH → Option α) : ob (sI (wd b W) (b + aa 0 i g 3) (nI x) v) f = f (wd b (wsA W 0 i g 3 (upd (W.2.1 0 i g 3) x v))) := ob_i (t0_3 h hx)
theorem q0_4 (h : vo 0 i g = true) : (wd b W).2 (b + aa 0 i g 4) = some (arr b W 0 i g 4) := by rw [wd_at (aa_0_4 h).1, (aa_0_4 h).2]; rfl
theorem a0_4 (h : vo 0 i g = true) {x : Nat} (hx : x < 20) : aI (wd b W) (b + aa 0 i g 4) (nI x) = some (W.2.1 0 i g 4 x) := by
  have e1 : (nI x).toNatClampNeg = x := nI_clamp (by omega)
  have e2 : ¬ (nI x < 0 ∨ 20 ≤ (nI x).toNatClampNeg) := nI_in hx (by omega)
  rw [e1] at e2
  simp only [aI, q0_4 h, arr, if_neg e2, e1]
theorem oa0_4 (h : vo 0 i g = true) {x : Nat} (hx : x < 20) (f : Int32 → Option α) : ob (aI (wd b W) (b + aa 0 i g 4) (nI x)) f = f (W.2.1 0 i g 4 x) := ob_i (a0_4 h hx)
theorem t0_4 (h : vo 0 i g = true) {x : Nat} (hx : x < 20) {v : Int32} : sI (wd b W) (b + aa 0 i g 4) (nI x) v = some (wd b (wsA W 0 i g 4 (upd (W.2.1 0 i g 4) x v))) := by
  have e1 : (nI x).toNatClampNeg = x := nI_clamp (by omega)
  have e2 : ¬ (nI x < 0 ∨ 20 ≤ (nI x).toNatClampNeg) := nI_in hx (by omega)
  rw [e1] at e2
  simp only [sI, q0_4 h, arr, if_neg e2, e1]
  refine congrArg some (wd_up (aa_0_4 h).1 ?_ (by rw [(aa_0_4 h).2]; exact cel_wsA))
  rw [(aa_0_4 h).2]
  simp [cel, arr, wsA]
theorem ot0_4 (h : vo 0 i g = true) {x : Nat} (hx : x < 20) {v : Int32} (f : AH → Option α) : ob (sI (wd b W) (b + aa 0 i g 4) (nI x) v) f = f (wd b (wsA W 0 i g 4 (upd (W.2.1 0 i g 4) x v))) := ob_i (t0_4 h hx)
theorem at_1 (h : vo 1 i g = true) : (wd b W).2 (b + ad 1 i g) = some (.inl (fd b W 1 i g)) := by rw [wd_at (ad_ok h).1, (ad_ok h).2]; rfl
theorem iO_1 (h : vo 1 i g = true) : iO (wd b W) (b + ad 1 i g) 1 = some () := by simp only [iO, at_1 h]; rfl
theorem oO_1 (h : vo 1 i g = true) (f : Unit → Option α) : ob (iO (wd b W) (b + ad 1 i g) 1) f = f () := ob_i (iO_1 h)
theorem r1_0 (h : vo 1 i g = true) : hI (wd b W) (b + ad 1 i g) 1 0 = some (W.1 1 i g 0) := by simp only [hI, at_1 h]; rfl
theorem o1_0 (h : vo 1 i g = true) (f : Int32 → Option α) : ob (hI (wd b W) (b + ad 1 i g) 1 0) f = f (W.1 1 i g 0) := ob_i (r1_0 h)
theorem s1_0 (h : vo 1 i g = true) {v : Int32} : pI (wd b W) (b + ad 1 i g) 1 0 v = some (wd b (wsI W 1 i g 0 v)) := by
  unfold pI
  simp only [pV, at_1 h]
  rw [if_pos ⟨rfl, Nat.le_of_ble_eq_true rfl⟩]
  refine congrArg some (wd_up (ad_ok h).1 ?_ (by rw [(ad_ok h).2]; exact cel_wsI))
  rw [(ad_ok h).2]
  simp [cel, fd, wsI]
theorem p1_0 (h : vo 1 i g = true) {v : Int32} (f : AH → Option α) : ob (pI (wd b W) (b + ad 1 i g) 1 0 v) f = f (wd b (wsI W 1 i g 0 v)) := ob_i (s1_0 h)
theorem r1_1 (h : vo 1 i g = true) : hR (wd b W) (b + ad 1 i g) 1 1 = some (b + aa 1 i g 1) := by simp only [hR, at_1 h]; rfl
theorem o1_1 (h : vo 1 i g = true) (f : Nat → Option α) : ob (hR (wd b W) (b + ad 1 i g) 1 1) f = f (b + aa 1 i g 1) := ob_i (r1_1 h)
theorem r1_2 (h : vo 1 i g = true) : hR (wd b W) (b + ad 1 i g) 1 2 = some (b + aa 1 i g 2) := by simp only [hR, at_1 h]; rfl
theorem o1_2 (h : vo 1 i g = true) (f : Nat → Option α) : ob (hR (wd b W) (b + ad 1 i g) 1 2) f = f (b + aa 1 i g 2) := ob_i (r1_2 h)
theorem r1_3 (h : vo 1 i g = true) : hR (wd b W) (b + ad 1 i g) 1 3 = some (b + aa 1 i g 3) := by simp only [hR, at_1 h]; rfl
theorem o1_3 (h : vo 1 i g = true) (f : Nat → Option α) : ob (hR (wd b W) (b + ad 1 i g) 1 3) f = f (b + aa 1 i g 3) := ob_i (r1_3 h)
theorem r1_4 (h : vo 1 i g = true) : hR (wd b W) (b + ad 1 i g) 1 4 = some (b + aa 1 i g 4) := by simp only [hR, at_1 h]; rfl
theorem o1_4 (h : vo 1 i g = true) (f : Nat → Option α) : ob (hR (wd b W) (b + ad 1 i g) 1 4) f = f (b + aa 1 i g 4) := ob_i (r1_4 h)
theorem r1_5 (h : vo 1 i g = true) : hR (wd b W) (b + ad 1 i g) 1 5 = some (b + aa 1 i g 5) := by simp only [hR, at_1 h]; rfl
theorem o1_5 (h : vo 1 i g = true) (f : Nat → Option α) : ob (hR (wd b W) (b + ad 1 i g) 1 5) f = f (b + aa 1 i g 5) := ob_i (r1_5 h)
theorem q1_1 (h : vo 1 i g = true) : (wd b W).2 (b + aa 1 i g 1) = some (arr b W 1 i g 1) := by rw [wd_at (aa_1_1 h).1, (aa_1_1 h).2]; rfl
theorem a1_1 (h : vo 1 i g = true) {x : Nat} (hx : x < 16) : aI (wd b W) (b + aa 1 i g 1) (nI x) = some (W.2.1 1 i g 1 x) := by
  have e1 : (nI x).toNatClampNeg = x := nI_clamp (by omega)
  have e2 : ¬ (nI x < 0 ∨ 16 ≤ (nI x).toNatClampNeg) := nI_in hx (by omega)
  rw [e1] at e2
  simp only [aI, q1_1 h, arr, if_neg e2, e1]
theorem oa1_1 (h : vo 1 i g = true) {x : Nat} (hx : x < 16) (f : Int32 → Option α) : ob (aI (wd b W) (b + aa 1 i g 1) (nI x)) f = f (W.2.1 1 i g 1 x) := ob_i (a1_1 h hx)
theorem t1_1 (h : vo 1 i g = true) {x : Nat} (hx : x < 16) {v : Int32} : sI (wd b W) (b + aa 1 i g 1) (nI x) v = some (wd b (wsA W 1 i g 1 (upd (W.2.1 1 i g 1) x v))) := by
  have e1 : (nI x).toNatClampNeg = x := nI_clamp (by omega)
  have e2 : ¬ (nI x < 0 ∨ 16 ≤ (nI x).toNatClampNeg) := nI_in hx (by omega)
  rw [e1] at e2
  simp only [sI, q1_1 h, arr, if_neg e2, e1]
  refine congrArg some (wd_up (aa_1_1 h).1 ?_ (by rw [(aa_1_1 h).2]; exact cel_wsA))
  rw [(aa_1_1 h).2]
  simp [cel, arr, wsA]
theorem ot1_1 (h : vo 1 i g = true) {x : Nat} (hx : x < 16) {v : Int32} (f : AH → Option α) : ob (sI (wd b W) (b + aa 1 i g 1) (nI x) v) f = f (wd b (wsA W 1 i g 1 (upd (W.2.1 1 i g 1) x v))) := ob_i (t1_1 h hx)
theorem q1_2 (h : vo 1 i g = true) : (wd b W).2 (b + aa 1 i g 2) = some (arr b W 1 i g 2) := by rw [wd_at (aa_1_2 h).1, (aa_1_2 h).2]; rfl
theorem a1_2 (h : vo 1 i g = true) {x : Nat} (hx : x < 16) : aI (wd b W) (b + aa 1 i g 2) (nI x) = some (W.2.1 1 i g 2 x) := by
  have e1 : (nI x).toNatClampNeg = x := nI_clamp (by omega)
  have e2 : ¬ (nI x < 0 ∨ 16 ≤ (nI x).toNatClampNeg) := nI_in hx (by omega)
  rw [e1] at e2
  simp only [aI, q1_2 h, arr, if_neg e2, e1]
theorem oa1_2 (h : vo 1 i g = true) {x : Nat} (hx : x < 16) (f : Int32 → Option α) : ob (aI (wd b W) (b + aa 1 i g 2) (nI x)) f = f (W.2.1 1 i g 2 x) := ob_i (a1_2 h hx)
theorem t1_2 (h : vo 1 i g = true) {x : Nat} (hx : x < 16) {v : Int32} : sI (wd b W) (b + aa 1 i g 2) (nI x) v = some (wd b (wsA W 1 i g 2 (upd (W.2.1 1 i g 2) x v))) := by
  have e1 : (nI x).toNatClampNeg = x := nI_clamp (by omega)
  have e2 : ¬ (nI x < 0 ∨ 16 ≤ (nI x).toNatClampNeg) := nI_in hx (by omega)
  rw [e1] at e2
  simp only [sI, q1_2 h, arr, if_neg e2, e1]
  refine congrArg some (wd_up (aa_1_2 h).1 ?_ (by rw [(aa_1_2 h).2]; exact cel_wsA))
  rw [(aa_1_2 h).2]
  simp [cel, arr, wsA]
theorem ot1_2 (h : vo 1 i g = true) {x : Nat} (hx : x < 16) {v : Int32} (f : AH → Option α) : ob (sI (wd b W) (b + aa 1 i g 2) (nI x) v) f = f (wd b (wsA W 1 i g 2 (upd (W.2.1 1 i g 2) x v))) := ob_i (t1_2 h hx)
theorem q1_3 (h : vo 1 i g = true) : (wd b W).2 (b + aa 1 i g 3) = some (arr b W 1 i g 3) := by rw [wd_at (aa_1_3 h).1, (aa_1_3 h).2]; rfl
theorem a1_3 (h : vo 1 i g = true) {x : Nat} (hx : x < 16) : aI (wd b W) (b + aa 1 i g 3) (nI x) = some (W.2.1 1 i g 3 x) := by
  have e1 : (nI x).toNatClampNeg = x := nI_clamp (by omega)
  have e2 : ¬ (nI x < 0 ∨ 16 ≤ (nI x).toNatClampNeg) := nI_in hx (by omega)
  rw [e1] at e2
  simp only [aI, q1_3 h, arr, if_neg e2, e1]
theorem oa1_3 (h : vo 1 i g = true) {x : Nat} (hx : x < 16) (f : Int32 → Option α) : ob (aI (wd b W) (b + aa 1 i g 3) (nI x)) f = f (W.2.1 1 i g 3 x) := ob_i (a1_3 h hx)
theorem t1_3 (h : vo 1 i g = true) {x : Nat} (hx : x < 16) {v : Int32} : sI (wd b W) (b + aa 1 i g 3) (nI x) v = some (wd b (wsA W 1 i g 3 (upd (W.2.1 1 i g 3) x v))) := by
  have e1 : (nI x).toNatClampNeg = x := nI_clamp (by omega)
  have e2 : ¬ (nI x < 0 ∨ 16 ≤ (nI x).toNatClampNeg) := nI_in hx (by omega)
  rw [e1] at e2
  simp only [sI, q1_3 h, arr, if_neg e2, e1]
  refine congrArg some (wd_up (aa_1_3 h).1 ?_ (by rw [(aa_1_3 h).2]; exact cel_wsA))
  rw [(aa_1_3 h).2]
  simp [cel, arr, wsA]
theorem ot1_3 (h : vo 1 i g = true) {x : Nat} (hx : x < 16) {v : Int32} (f : AH → Option α) : ob (sI (wd b W) (b + aa 1 i g 3) (nI x) v) f = f (wd b (wsA W 1 i g 3 (upd (W.2.1 1 i g 3) x v))) := ob_i (t1_3 h hx)
theorem q1_4 (h : vo 1 i g = true) : (wd b W).2 (b + aa 1 i g 4) = some (arr b W 1 i g 4) := by rw [wd_at (aa_1_4 h).1, (aa_1_4 h).2]; rfl
theorem a1_4 (h : vo 1 i g = true) {x : Nat} (hx : x < 16) : aI (wd b W) (b + aa 1 i g 4) (nI x) = some (W.2.1 1 i g 4 x) := by
  have e1 : (nI x).toNatClampNeg = x := nI_clamp (by omega)
  have e2 : ¬ (nI x < 0 ∨ 16 ≤ (nI x).toNatClampNeg) := nI_in hx (by omega)
  rw [e1] at e2
  simp only [aI, q1_4 h, arr, if_neg e2, e1]
theorem oa1_4 (h : vo 1 i g = true) {x : Nat} (hx : x < 16) (f : Int32 → Option α) : ob (aI (wd b W) (b + aa 1 i g 4) (nI x)) f = f (W.2.1 1 i g 4 x) := ob_i (a1_4 h hx)
theorem t1_4 (h : vo 1 i g = true) {x : Nat} (hx : x < 16) {v : Int32} : sI (wd b W) (b + aa 1 i g 4) (nI x) v = some (wd b (wsA W 1 i g 4 (upd (W.2.1 1 i g 4) x v))) := by
  have e1 : (nI x).toNatClampNeg = x := nI_clamp (by omega)
  have e2 : ¬ (nI x < 0 ∨ 16 ≤ (nI x).toNatClampNeg) := nI_in hx (by omega)
  rw [e1] at e2
  simp only [sI, q1_4 h, arr, if_neg e2, e1]
  refine congrArg some (wd_up (aa_1_4 h).1 ?_ (by rw [(aa_1_4 h).2]; exact cel_wsA))
  rw [(aa_1_4 h).2]
  simp [cel, arr, wsA]
theorem ot1_4 (h : vo 1 i g = true) {x : Nat} (hx : x < 16) {v : Int32} (f : AH → Option α) : ob (sI (wd b W) (b + aa 1 i g 4) (nI x) v) f = f (wd b (wsA W 1 i g 4 (upd (W.2.1 1 i g 4) x v))) := ob_i (t1_4 h hx)
theorem q1_5 (h : vo 1 i g = true) : (wd b W).2 (b + aa 1 i g 5) = some (arr b W 1 i g 5) := by rw [wd_at (aa_1_5 h).1, (aa_1_5 h).2]; rfl
theorem a1_5 (h : vo 1 i g = true) {x : Nat} (hx : x < 16) : aI (wd b W) (b + aa 1 i g 5) (nI x) = some (W.2.1 1 i g 5 x) := by
  have e1 : (nI x).toNatClampNeg = x := nI_clamp (by omega)
  have e2 : ¬ (nI x < 0 ∨ 16 ≤ (nI x).toNatClampNeg) := nI_in hx (by omega)
  rw [e1] at e2
  simp only [aI, q1_5 h, arr, if_neg e2, e1]
theorem oa1_5 (h : vo 1 i g = true) {x : Nat} (hx : x < 16) (f : Int32 → Option α) : ob (aI (wd b W) (b + aa 1 i g 5) (nI x)) f = f (W.2.1 1 i g 5 x) := ob_i (a1_5 h hx)
theorem t1_5 (h : vo 1 i g = true) {x : Nat} (hx : x < 16) {v : Int32} : sI (wd b W) (b + aa 1 i g 5) (nI x) v = some (wd b (wsA W 1 i g 5 (upd (W.2.1 1 i g 5) x v))) := by
  have e1 : (nI x).toNatClampNeg = x := nI_clamp (by omega)
  have e2 : ¬ (nI x < 0 ∨ 16 ≤ (nI x).toNatClampNeg) := nI_in hx (by omega)
  rw [e1] at e2
  simp only [sI, q1_5 h, arr, if_neg e2, e1]
  refine congrArg some (wd_up (aa_1_5 h).1 ?_ (by rw [(aa_1_5 h).2]; exact cel_wsA))
  rw [(aa_1_5 h).2]
  simp [cel, arr, wsA]
theorem ot1_5 (h : vo 1 i g = true) {x : Nat} (hx : x < 16) {v : Int32} (f : AH → Option α) : ob (sI (wd b W) (b + aa 1 i g 5) (nI x) v) f = f (wd b (wsA W 1 i g 5 (upd (W.2.1 1 i g 5) x v))) := ob_i (t1_5 h hx)
theorem at_2 (h : vo 2 i g = true) : (wd b W).2 (b + ad 2 i g) = some (.inl (fd b W 2 i g)) := by rw [wd_at (ad_ok h).1, (ad_ok h).2]; rfl
theorem iO_2 (h : vo 2 i g = true) : iO (wd b W) (b + ad 2 i g) 2 = some () := by simp only [iO, at_2 h]; rfl
theorem oO_2 (h : vo 2 i g = true) (f : Unit → Option α) : ob (iO (wd b W) (b + ad 2 i g) 2) f = f () := ob_i (iO_2 h)
theorem r2_0 (h : vo 2 i g = true) : hI (wd b W) (b + ad 2 i g) 2 0 = some (W.1 2 i g 0) := by simp only [hI, at_2 h]; rfl
theorem o2_0 (h : vo 2 i g = true) (f : Int32 → Option α) : ob (hI (wd b W) (b + ad 2 i g) 2 0) f = f (W.1 2 i g 0) := ob_i (r2_0 h)
theorem s2_0 (h : vo 2 i g = true) {v : Int32} : pI (wd b W) (b + ad 2 i g) 2 0 v = some (wd b (wsI W 2 i g 0 v)) := by
  unfold pI
  simp only [pV, at_2 h]
  rw [if_pos ⟨rfl, Nat.le_of_ble_eq_true rfl⟩]
  refine congrArg some (wd_up (ad_ok h).1 ?_ (by rw [(ad_ok h).2]; exact cel_wsI))
  rw [(ad_ok h).2]
  simp [cel, fd, wsI]
theorem p2_0 (h : vo 2 i g = true) {v : Int32} (f : AH → Option α) : ob (pI (wd b W) (b + ad 2 i g) 2 0 v) f = f (wd b (wsI W 2 i g 0 v)) := ob_i (s2_0 h)
theorem r2_1 (h : vo 2 i g = true) : hI (wd b W) (b + ad 2 i g) 2 1 = some (W.1 2 i g 1) := by simp only [hI, at_2 h]; rfl
theorem o2_1 (h : vo 2 i g = true) (f : Int32 → Option α) : ob (hI (wd b W) (b + ad 2 i g) 2 1) f = f (W.1 2 i g 1) := ob_i (r2_1 h)
theorem s2_1 (h : vo 2 i g = true) {v : Int32} : pI (wd b W) (b + ad 2 i g) 2 1 v = some (wd b (wsI W 2 i g 1 v)) := by
  unfold pI
  simp only [pV, at_2 h]
  rw [if_pos ⟨rfl, Nat.le_of_ble_eq_true rfl⟩]
  refine congrArg some (wd_up (ad_ok h).1 ?_ (by rw [(ad_ok h).2]; exact cel_wsI))
  rw [(ad_ok h).2]
  simp [cel, fd, wsI]
theorem p2_1 (h : vo 2 i g = true) {v : Int32} (f : AH → Option α) : ob (pI (wd b W) (b + ad 2 i g) 2 1 v) f = f (wd b (wsI W 2 i g 1 v)) := ob_i (s2_1 h)
theorem r2_2 (h : vo 2 i g = true) : hR (wd b W) (b + ad 2 i g) 2 2 = some (b + aa 2 i g 2) := by simp only [hR, at_2 h]; rfl
theorem o2_2 (h : vo 2 i g = true) (f : Nat → Option α) : ob (hR (wd b W) (b + ad 2 i g) 2 2) f = f (b + aa 2 i g 2) := ob_i (r2_2 h)
theorem r2_3 (h : vo 2 i g = true) : hR (wd b W) (b + ad 2 i g) 2 3 = some (b + ad 12 0 0) := by simp only [hR, at_2 h]; rfl
theorem o2_3 (h : vo 2 i g = true) (f : Nat → Option α) : ob (hR (wd b W) (b + ad 2 i g) 2 3) f = f (b + ad 12 0 0) := ob_i (r2_3 h)
theorem q2_2 (h : vo 2 i g = true) : (wd b W).2 (b + aa 2 i g 2) = some (arr b W 2 i g 2) := by rw [wd_at (aa_2_2 h).1, (aa_2_2 h).2]; rfl
theorem a2_2 (h : vo 2 i g = true) {x : Nat} (hx : x < 120) : aI (wd b W) (b + aa 2 i g 2) (nI x) = some (W.2.1 2 i g 2 x) := by
  have e1 : (nI x).toNatClampNeg = x := nI_clamp (by omega)
  have e2 : ¬ (nI x < 0 ∨ 120 ≤ (nI x).toNatClampNeg) := nI_in hx (by omega)
  rw [e1] at e2
  simp only [aI, q2_2 h, arr, if_neg e2, e1]
theorem oa2_2 (h : vo 2 i g = true) {x : Nat} (hx : x < 120) (f : Int32 → Option α) : ob (aI (wd b W) (b + aa 2 i g 2) (nI x)) f = f (W.2.1 2 i g 2 x) := ob_i (a2_2 h hx)
theorem t2_2 (h : vo 2 i g = true) {x : Nat} (hx : x < 120) {v : Int32} : sI (wd b W) (b + aa 2 i g 2) (nI x) v = some (wd b (wsA W 2 i g 2 (upd (W.2.1 2 i g 2) x v))) := by
  have e1 : (nI x).toNatClampNeg = x := nI_clamp (by omega)
  have e2 : ¬ (nI x < 0 ∨ 120 ≤ (nI x).toNatClampNeg) := nI_in hx (by omega)
  rw [e1] at e2
  simp only [sI, q2_2 h, arr, if_neg e2, e1]
  refine congrArg some (wd_up (aa_2_2 h).1 ?_ (by rw [(aa_2_2 h).2]; exact cel_wsA))
  rw [(aa_2_2 h).2]
  simp [cel, arr, wsA]
theorem ot2_2 (h : vo 2 i g = true) {x : Nat} (hx : x < 120) {v : Int32} (f : AH → Option α) : ob (sI (wd b W) (b + aa 2 i g 2) (nI x) v) f = f (wd b (wsA W 2 i g 2 (upd (W.2.1 2 i g 2) x v))) := ob_i (t2_2 h hx)
theorem at_3 (h : vo 3 i g = true) : (wd b W).2 (b + ad 3 i g) = some (.inl (fd b W 3 i g)) := by rw [wd_at (ad_ok h).1, (ad_ok h).2]; rfl
theorem iO_3 (h : vo 3 i g = true) : iO (wd b W) (b + ad 3 i g) 3 = some () := by simp only [iO, at_3 h]; rfl
theorem oO_3 (h : vo 3 i g = true) (f : Unit → Option α) : ob (iO (wd b W) (b + ad 3 i g) 3) f = f () := ob_i (iO_3 h)
theorem r3_0 (h : vo 3 i g = true) : hR (wd b W) (b + ad 3 i g) 3 0 = some (b + ad 7 7 0) := by simp only [hR, at_3 h]; rfl
theorem o3_0 (h : vo 3 i g = true) (f : Nat → Option α) : ob (hR (wd b W) (b + ad 3 i g) 3 0) f = f (b + ad 7 7 0) := ob_i (r3_0 h)
theorem r3_1 (h : vo 3 i g = true) : hR (wd b W) (b + ad 3 i g) 3 1 = some (b + ad 8 1 0) := by simp only [hR, at_3 h]; rfl
theorem o3_1 (h : vo 3 i g = true) (f : Nat → Option α) : ob (hR (wd b W) (b + ad 3 i g) 3 1) f = f (b + ad 8 1 0) := ob_i (r3_1 h)
theorem r3_2 (h : vo 3 i g = true) : hR (wd b W) (b + ad 3 i g) 3 2 = some (b + ad 6 1 0) := by simp only [hR, at_3 h]; rfl
theorem o3_2 (h : vo 3 i g = true) (f : Nat → Option α) : ob (hR (wd b W) (b + ad 3 i g) 3 2) f = f (b + ad 6 1 0) := ob_i (r3_2 h)
theorem r3_3 (h : vo 3 i g = true) : hI (wd b W) (b + ad 3 i g) 3 3 = some (W.1 3 i g 3) := by simp only [hI, at_3 h]; rfl
theorem o3_3 (h : vo 3 i g = true) (f : Int32 → Option α) : ob (hI (wd b W) (b + ad 3 i g) 3 3) f = f (W.1 3 i g 3) := ob_i (r3_3 h)
theorem s3_3 (h : vo 3 i g = true) {v : Int32} : pI (wd b W) (b + ad 3 i g) 3 3 v = some (wd b (wsI W 3 i g 3 v)) := by
  unfold pI
  simp only [pV, at_3 h]
  rw [if_pos ⟨rfl, Nat.le_of_ble_eq_true rfl⟩]
  refine congrArg some (wd_up (ad_ok h).1 ?_ (by rw [(ad_ok h).2]; exact cel_wsI))
  rw [(ad_ok h).2]
  simp [cel, fd, wsI]
theorem p3_3 (h : vo 3 i g = true) {v : Int32} (f : AH → Option α) : ob (pI (wd b W) (b + ad 3 i g) 3 3 v) f = f (wd b (wsI W 3 i g 3 v)) := ob_i (s3_3 h)
theorem r3_4 (h : vo 3 i g = true) : hR (wd b W) (b + ad 3 i g) 3 4 = some (b + aa 3 i g 4) := by simp only [hR, at_3 h]; rfl
theorem o3_4 (h : vo 3 i g = true) (f : Nat → Option α) : ob (hR (wd b W) (b + ad 3 i g) 3 4) f = f (b + aa 3 i g 4) := ob_i (r3_4 h)
theorem r3_5 (h : vo 3 i g = true) : hI (wd b W) (b + ad 3 i g) 3 5 = some (W.1 3 i g 5) := by simp only [hI, at_3 h]; rfl
theorem o3_5 (h : vo 3 i g = true) (f : Int32 → Option α) : ob (hI (wd b W) (b + ad 3 i g) 3 5) f = f (W.1 3 i g 5) := ob_i (r3_5 h)
theorem s3_5 (h : vo 3 i g = true) {v : Int32} (hv : v = 0 ∨ v = 1) : pZ (wd b W) (b + ad 3 i g) 3 5 v = some (wd b (wsI W 3 i g 5 v)) := by
  unfold pZ
  rw [if_pos hv]
  simp only [pV, at_3 h]
  rw [if_pos ⟨rfl, Nat.le_of_ble_eq_true rfl⟩]
  refine congrArg some (wd_up (ad_ok h).1 ?_ (by rw [(ad_ok h).2]; exact cel_wsI))
  rw [(ad_ok h).2]
  simp [cel, fd, wsI]
theorem p3_5 (h : vo 3 i g = true) {v : Int32} (hv : v = 0 ∨ v = 1) (f : AH → Option α) : ob (pZ (wd b W) (b + ad 3 i g) 3 5 v) f = f (wd b (wsI W 3 i g 5 v)) := ob_i (s3_5 h hv)
theorem r3_6 (h : vo 3 i g = true) : hR (wd b W) (b + ad 3 i g) 3 6 = some (b + aa 3 i g 6) := by simp only [hR, at_3 h]; rfl
theorem o3_6 (h : vo 3 i g = true) (f : Nat → Option α) : ob (hR (wd b W) (b + ad 3 i g) 3 6) f = f (b + aa 3 i g 6) := ob_i (r3_6 h)
theorem q3_4 (h : vo 3 i g = true) : (wd b W).2 (b + aa 3 i g 4) = some (arr b W 3 i g 4) := by rw [wd_at (aa_3_4 h).1, (aa_3_4 h).2]; rfl
theorem a3_4 (h : vo 3 i g = true) {x : Nat} (hx : x < 4) : aI (wd b W) (b + aa 3 i g 4) (nI x) = some (W.2.1 3 i g 4 x) := by
  have e1 : (nI x).toNatClampNeg = x := nI_clamp (by omega)
  have e2 : ¬ (nI x < 0 ∨ 4 ≤ (nI x).toNatClampNeg) := nI_in hx (by omega)
  rw [e1] at e2
  simp only [aI, q3_4 h, arr, if_neg e2, e1]
theorem oa3_4 (h : vo 3 i g = true) {x : Nat} (hx : x < 4) (f : Int32 → Option α) : ob (aI (wd b W) (b + aa 3 i g 4) (nI x)) f = f (W.2.1 3 i g 4 x) := ob_i (a3_4 h hx)
theorem t3_4 (h : vo 3 i g = true) {x : Nat} (hx : x < 4) {v : Int32} : sI (wd b W) (b + aa 3 i g 4) (nI x) v = some (wd b (wsA W 3 i g 4 (upd (W.2.1 3 i g 4) x v))) := by
  have e1 : (nI x).toNatClampNeg = x := nI_clamp (by omega)
  have e2 : ¬ (nI x < 0 ∨ 4 ≤ (nI x).toNatClampNeg) := nI_in hx (by omega)
  rw [e1] at e2
  simp only [sI, q3_4 h, arr, if_neg e2, e1]
  refine congrArg some (wd_up (aa_3_4 h).1 ?_ (by rw [(aa_3_4 h).2]; exact cel_wsA))
  rw [(aa_3_4 h).2]
  simp [cel, arr, wsA]
theorem ot3_4 (h : vo 3 i g = true) {x : Nat} (hx : x < 4) {v : Int32} (f : AH → Option α) : ob (sI (wd b W) (b + aa 3 i g 4) (nI x) v) f = f (wd b (wsA W 3 i g 4 (upd (W.2.1 3 i g 4) x v))) := ob_i (t3_4 h hx)
theorem q3_6 (h : vo 3 i g = true) : (wd b W).2 (b + aa 3 i g 6) = some (arr b W 3 i g 6) := by rw [wd_at (aa_3_6 h).1, (aa_3_6 h).2]; rfl
theorem a3_6 (h : vo 3 i g = true) {x : Nat} (hx : x < 4) : aI (wd b W) (b + aa 3 i g 6) (nI x) = some (W.2.1 3 i g 6 x) := by
  have e1 : (nI x).toNatClampNeg = x := nI_clamp (by omega)
  have e2 : ¬ (nI x < 0 ∨ 4 ≤ (nI x).toNatClampNeg) := nI_in hx (by omega)
  rw [e1] at e2
  simp only [aI, q3_6 h, arr, if_neg e2, e1]
theorem oa3_6 (h : vo 3 i g = true) {x : Nat} (hx : x < 4) (f : Int32 → Option α) : ob (aI (wd b W) (b + aa 3 i g 6) (nI x)) f = f (W.2.1 3 i g 6 x) := ob_i (a3_6 h hx)
theorem t3_6 (h : vo 3 i g = true) {x : Nat} (hx : x < 4) {v : Int32} : sI (wd b W) (b + aa 3 i g 6) (nI x) v = some (wd b (wsA W 3 i g 6 (upd (W.2.1 3 i g 6) x v))) := by
  have e1 : (nI x).toNatClampNeg = x := nI_clamp (by omega)
  have e2 : ¬ (nI x < 0 ∨ 4 ≤ (nI x).toNatClampNeg) := nI_in hx (by omega)
  rw [e1] at e2
  simp only [sI, q3_6 h, arr, if_neg e2, e1]
  refine congrArg some (wd_up (aa_3_6 h).1 ?_ (by rw [(aa_3_6 h).2]; exact cel_wsA))
  rw [(aa_3_6 h).2]
  simp [cel, arr, wsA]
theorem ot3_6 (h : vo 3 i g = true) {x : Nat} (hx : x < 4) {v : Int32} (f : AH → Option α) : ob (sI (wd b W) (b + aa 3 i g 6) (nI x) v) f = f (wd b (wsA W 3 i g 6 (upd (W.2.1 3 i g 6) x v))) := ob_i (t3_6 h hx)
theorem at_4 (h : vo 4 i g = true) : (wd b W).2 (b + ad 4 i g) = some (.inl (fd b W 4 i g)) := by rw [wd_at (ad_ok h).1, (ad_ok h).2]; rfl
theorem iO_4 (h : vo 4 i g = true) : iO (wd b W) (b + ad 4 i g) 4 = some () := by simp only [iO, at_4 h]; rfl
theorem oO_4 (h : vo 4 i g = true) (f : Unit → Option α) : ob (iO (wd b W) (b + ad 4 i g) 4) f = f () := ob_i (iO_4 h)
theorem r4_0 (h : vo 4 i g = true) : hI (wd b W) (b + ad 4 i g) 4 0 = some (W.1 4 i g 0) := by simp only [hI, at_4 h]; rfl
theorem o4_0 (h : vo 4 i g = true) (f : Int32 → Option α) : ob (hI (wd b W) (b + ad 4 i g) 4 0) f = f (W.1 4 i g 0) := ob_i (r4_0 h)
theorem s4_0 (h : vo 4 i g = true) {v : Int32} : pI (wd b W) (b + ad 4 i g) 4 0 v = some (wd b (wsI W 4 i g 0 v)) := by
  unfold pI
  simp only [pV, at_4 h]
  rw [if_pos ⟨rfl, Nat.le_of_ble_eq_true rfl⟩]
  refine congrArg some (wd_up (ad_ok h).1 ?_ (by rw [(ad_ok h).2]; exact cel_wsI))
  rw [(ad_ok h).2]
  simp [cel, fd, wsI]
theorem p4_0 (h : vo 4 i g = true) {v : Int32} (f : AH → Option α) : ob (pI (wd b W) (b + ad 4 i g) 4 0 v) f = f (wd b (wsI W 4 i g 0 v)) := ob_i (s4_0 h)
theorem r4_1 (h : vo 4 i g = true) : hI (wd b W) (b + ad 4 i g) 4 1 = some (W.1 4 i g 1) := by simp only [hI, at_4 h]; rfl
theorem o4_1 (h : vo 4 i g = true) (f : Int32 → Option α) : ob (hI (wd b W) (b + ad 4 i g) 4 1) f = f (W.1 4 i g 1) := ob_i (r4_1 h)
theorem s4_1 (h : vo 4 i g = true) {v : Int32} : pI (wd b W) (b + ad 4 i g) 4 1 v = some (wd b (wsI W 4 i g 1 v)) := by
  unfold pI
  simp only [pV, at_4 h]
  rw [if_pos ⟨rfl, Nat.le_of_ble_eq_true rfl⟩]
  refine congrArg some (wd_up (ad_ok h).1 ?_ (by rw [(ad_ok h).2]; exact cel_wsI))
  rw [(ad_ok h).2]
  simp [cel, fd, wsI]
theorem p4_1 (h : vo 4 i g = true) {v : Int32} (f : AH → Option α) : ob (pI (wd b W) (b + ad 4 i g) 4 1 v) f = f (wd b (wsI W 4 i g 1 v)) := ob_i (s4_1 h)
theorem r4_2 (h : vo 4 i g = true) : hI (wd b W) (b + ad 4 i g) 4 2 = some (W.1 4 i g 2) := by simp only [hI, at_4 h]; rfl
theorem o4_2 (h : vo 4 i g = true) (f : Int32 → Option α) : ob (hI (wd b W) (b + ad 4 i g) 4 2) f = f (W.1 4 i g 2) := ob_i (r4_2 h)
theorem s4_2 (h : vo 4 i g = true) {v : Int32} : pI (wd b W) (b + ad 4 i g) 4 2 v = some (wd b (wsI W 4 i g 2 v)) := by
  unfold pI
  simp only [pV, at_4 h]
  rw [if_pos ⟨rfl, Nat.le_of_ble_eq_true rfl⟩]
  refine congrArg some (wd_up (ad_ok h).1 ?_ (by rw [(ad_ok h).2]; exact cel_wsI))
  rw [(ad_ok h).2]
  simp [cel, fd, wsI]
theorem p4_2 (h : vo 4 i g = true) {v : Int32} (f : AH → Option α) : ob (pI (wd b W) (b + ad 4 i g) 4 2 v) f = f (wd b (wsI W 4 i g 2 v)) := ob_i (s4_2 h)
theorem r4_3 (h : vo 4 i g = true) : hI (wd b W) (b + ad 4 i g) 4 3 = some (W.1 4 i g 3) := by simp only [hI, at_4 h]; rfl
theorem o4_3 (h : vo 4 i g = true) (f : Int32 → Option α) : ob (hI (wd b W) (b + ad 4 i g) 4 3) f = f (W.1 4 i g 3) := ob_i (r4_3 h)
theorem s4_3 (h : vo 4 i g = true) {v : Int32} : pI (wd b W) (b + ad 4 i g) 4 3 v = some (wd b (wsI W 4 i g 3 v)) := by
  unfold pI
  simp only [pV, at_4 h]
  rw [if_pos ⟨rfl, Nat.le_of_ble_eq_true rfl⟩]
  refine congrArg some (wd_up (ad_ok h).1 ?_ (by rw [(ad_ok h).2]; exact cel_wsI))
  rw [(ad_ok h).2]
  simp [cel, fd, wsI]
theorem p4_3 (h : vo 4 i g = true) {v : Int32} (f : AH → Option α) : ob (pI (wd b W) (b + ad 4 i g) 4 3 v) f = f (wd b (wsI W 4 i g 3 v)) := ob_i (s4_3 h)
theorem r4_4 (h : vo 4 i g = true) : hI (wd b W) (b + ad 4 i g) 4 4 = some (W.1 4 i g 4) := by simp only [hI, at_4 h]; rfl
theorem o4_4 (h : vo 4 i g = true) (f : Int32 → Option α) : ob (hI (wd b W) (b + ad 4 i g) 4 4) f = f (W.1 4 i g 4) := ob_i (r4_4 h)
theorem s4_4 (h : vo 4 i g = true) {v : Int32} (hv : v = 0 ∨ v = 1) : pZ (wd b W) (b + ad 4 i g) 4 4 v = some (wd b (wsI W 4 i g 4 v)) := by
  unfold pZ
  rw [if_pos hv]
  simp only [pV, at_4 h]
  rw [if_pos ⟨rfl, Nat.le_of_ble_eq_true rfl⟩]
  refine congrArg some (wd_up (ad_ok h).1 ?_ (by rw [(ad_ok h).2]; exact cel_wsI))
  rw [(ad_ok h).2]
  simp [cel, fd, wsI]
theorem p4_4 (h : vo 4 i g = true) {v : Int32} (hv : v = 0 ∨ v = 1) (f : AH → Option α) : ob (pZ (wd b W) (b + ad 4 i g) 4 4 v) f = f (wd b (wsI W 4 i g 4 v)) := ob_i (s4_4 h hv)
theorem r4_5 (h : vo 4 i g = true) : hR (wd b W) (b + ad 4 i g) 4 5 = some (b + ad 1 i g) := by simp only [hR, at_4 h]; rfl
theorem o4_5 (h : vo 4 i g = true) (f : Nat → Option α) : ob (hR (wd b W) (b + ad 4 i g) 4 5) f = f (b + ad 1 i g) := ob_i (r4_5 h)
theorem at_5 (h : vo 5 i g = true) : (wd b W).2 (b + ad 5 i g) = some (.inl (fd b W 5 i g)) := by rw [wd_at (ad_ok h).1, (ad_ok h).2]; rfl
theorem iO_5 (h : vo 5 i g = true) : iO (wd b W) (b + ad 5 i g) 5 = some () := by simp only [iO, at_5 h]; rfl
theorem oO_5 (h : vo 5 i g = true) (f : Unit → Option α) : ob (iO (wd b W) (b + ad 5 i g) 5) f = f () := ob_i (iO_5 h)
theorem r5_0 (h : vo 5 i g = true) : hI (wd b W) (b + ad 5 i g) 5 0 = some (W.1 5 i g 0) := by simp only [hI, at_5 h]; rfl
theorem o5_0 (h : vo 5 i g = true) (f : Int32 → Option α) : ob (hI (wd b W) (b + ad 5 i g) 5 0) f = f (W.1 5 i g 0) := ob_i (r5_0 h)
theorem s5_0 (h : vo 5 i g = true) {v : Int32} : pI (wd b W) (b + ad 5 i g) 5 0 v = some (wd b (wsI W 5 i g 0 v)) := by
  unfold pI
  simp only [pV, at_5 h]
  rw [if_pos ⟨rfl, Nat.le_of_ble_eq_true rfl⟩]
  refine congrArg some (wd_up (ad_ok h).1 ?_ (by rw [(ad_ok h).2]; exact cel_wsI))
  rw [(ad_ok h).2]
  simp [cel, fd, wsI]
theorem p5_0 (h : vo 5 i g = true) {v : Int32} (f : AH → Option α) : ob (pI (wd b W) (b + ad 5 i g) 5 0 v) f = f (wd b (wsI W 5 i g 0 v)) := ob_i (s5_0 h)
theorem r5_1 (h : vo 5 i g = true) : hI (wd b W) (b + ad 5 i g) 5 1 = some (W.1 5 i g 1) := by simp only [hI, at_5 h]; rfl
theorem o5_1 (h : vo 5 i g = true) (f : Int32 → Option α) : ob (hI (wd b W) (b + ad 5 i g) 5 1) f = f (W.1 5 i g 1) := ob_i (r5_1 h)
theorem s5_1 (h : vo 5 i g = true) {v : Int32} : pI (wd b W) (b + ad 5 i g) 5 1 v = some (wd b (wsI W 5 i g 1 v)) := by
  unfold pI
  simp only [pV, at_5 h]
  rw [if_pos ⟨rfl, Nat.le_of_ble_eq_true rfl⟩]
  refine congrArg some (wd_up (ad_ok h).1 ?_ (by rw [(ad_ok h).2]; exact cel_wsI))
  rw [(ad_ok h).2]
  simp [cel, fd, wsI]
theorem p5_1 (h : vo 5 i g = true) {v : Int32} (f : AH → Option α) : ob (pI (wd b W) (b + ad 5 i g) 5 1 v) f = f (wd b (wsI W 5 i g 1 v)) := ob_i (s5_1 h)
theorem r5_2 (h : vo 5 i g = true) : hR (wd b W) (b + ad 5 i g) 5 2 = some (b + aa 5 i g 2) := by simp only [hR, at_5 h]; rfl
theorem o5_2 (h : vo 5 i g = true) (f : Nat → Option α) : ob (hR (wd b W) (b + ad 5 i g) 5 2) f = f (b + aa 5 i g 2) := ob_i (r5_2 h)
theorem q5_2 (h : vo 5 i g = true) : (wd b W).2 (b + aa 5 i g 2) = some (arr b W 5 i g 2) := by rw [wd_at (aa_5_2 h).1, (aa_5_2 h).2]; rfl
theorem a5_2 (h : vo 5 i g = true) {x : Nat} (hx : x < 6) : aR (wd b W) 3 (b + aa 5 i g 2) (nI x) = some (b + ad 7 (x + 1) 0) := by
  have e1 : (nI x).toNatClampNeg = x := nI_clamp (by omega)
  have e2 : ¬ (nI x < 0 ∨ 6 ≤ (nI x).toNatClampNeg) := nI_in hx (by omega)
  rw [e1] at e2
  simp only [aR, q5_2 h, arr, if_neg e2, e1, if_pos hx, if_true]
theorem oa5_2 (h : vo 5 i g = true) {x : Nat} (hx : x < 6) (f : Nat → Option α) : ob (aR (wd b W) 3 (b + aa 5 i g 2) (nI x)) f = f (b + ad 7 (x + 1) 0) := ob_i (a5_2 h hx)
theorem at_6 (h : vo 6 i g = true) : (wd b W).2 (b + ad 6 i g) = some (.inl (fd b W 6 i g)) := by rw [wd_at (ad_ok h).1, (ad_ok h).2]; rfl
theorem iO_6 (h : vo 6 i g = true) : iO (wd b W) (b + ad 6 i g) 6 = some () := by simp only [iO, at_6 h]; rfl
theorem oO_6 (h : vo 6 i g = true) (f : Unit → Option α) : ob (iO (wd b W) (b + ad 6 i g) 6) f = f () := ob_i (iO_6 h)
theorem r6_0 (h : vo 6 i g = true) : hR (wd b W) (b + ad 6 i g) 6 0 = some (b + aa 6 i g 0) := by simp only [hR, at_6 h]; rfl
theorem o6_0 (h : vo 6 i g = true) (f : Nat → Option α) : ob (hR (wd b W) (b + ad 6 i g) 6 0) f = f (b + aa 6 i g 0) := ob_i (r6_0 h)
theorem q6_0 (h : vo 6 i g = true) : (wd b W).2 (b + aa 6 i g 0) = some (arr b W 6 i g 0) := by rw [wd_at (aa_6_0 h).1, (aa_6_0 h).2]; rfl
theorem a6_0 (h : vo 6 i g = true) {x : Nat} (hx : x < 16) : aI (wd b W) (b + aa 6 i g 0) (nI x) = some (W.2.1 6 i g 0 x) := by
  have e1 : (nI x).toNatClampNeg = x := nI_clamp (by omega)
  have e2 : ¬ (nI x < 0 ∨ 16 ≤ (nI x).toNatClampNeg) := nI_in hx (by omega)
  rw [e1] at e2
  simp only [aI, q6_0 h, arr, if_neg e2, e1]
theorem oa6_0 (h : vo 6 i g = true) {x : Nat} (hx : x < 16) (f : Int32 → Option α) : ob (aI (wd b W) (b + aa 6 i g 0) (nI x)) f = f (W.2.1 6 i g 0 x) := ob_i (a6_0 h hx)
theorem t6_0 (h : vo 6 i g = true) {x : Nat} (hx : x < 16) {v : Int32} : sI (wd b W) (b + aa 6 i g 0) (nI x) v = some (wd b (wsA W 6 i g 0 (upd (W.2.1 6 i g 0) x v))) := by
  have e1 : (nI x).toNatClampNeg = x := nI_clamp (by omega)
  have e2 : ¬ (nI x < 0 ∨ 16 ≤ (nI x).toNatClampNeg) := nI_in hx (by omega)
  rw [e1] at e2
  simp only [sI, q6_0 h, arr, if_neg e2, e1]
  refine congrArg some (wd_up (aa_6_0 h).1 ?_ (by rw [(aa_6_0 h).2]; exact cel_wsA))
  rw [(aa_6_0 h).2]
  simp [cel, arr, wsA]
theorem ot6_0 (h : vo 6 i g = true) {x : Nat} (hx : x < 16) {v : Int32} (f : AH → Option α) : ob (sI (wd b W) (b + aa 6 i g 0) (nI x) v) f = f (wd b (wsA W 6 i g 0 (upd (W.2.1 6 i g 0) x v))) := ob_i (t6_0 h hx)
theorem at_7 (h : vo 7 i g = true) : (wd b W).2 (b + ad 7 i g) = some (.inl (fd b W 7 i g)) := by rw [wd_at (ad_ok h).1, (ad_ok h).2]; rfl
theorem iO_7 (h : vo 7 i g = true) : iO (wd b W) (b + ad 7 i g) 7 = some () := by simp only [iO, at_7 h]; rfl
theorem oO_7 (h : vo 7 i g = true) (f : Unit → Option α) : ob (iO (wd b W) (b + ad 7 i g) 7) f = f () := ob_i (iO_7 h)
theorem r7_0 (h : vo 7 i g = true) : hI (wd b W) (b + ad 7 i g) 7 0 = some (W.1 7 i g 0) := by simp only [hI, at_7 h]; rfl
theorem o7_0 (h : vo 7 i g = true) (f : Int32 → Option α) : ob (hI (wd b W) (b + ad 7 i g) 7 0) f = f (W.1 7 i g 0) := ob_i (r7_0 h)
theorem s7_0 (h : vo 7 i g = true) {v : Int32} : pI (wd b W) (b + ad 7 i g) 7 0 v = some (wd b (wsI W 7 i g 0 v)) := by
  unfold pI
  simp only [pV, at_7 h]
  rw [if_pos ⟨rfl, Nat.le_of_ble_eq_true rfl⟩]
  refine congrArg some (wd_up (ad_ok h).1 ?_ (by rw [(ad_ok h).2]; exact cel_wsI))
  rw [(ad_ok h).2]
  simp [cel, fd, wsI]
theorem p7_0 (h : vo 7 i g = true) {v : Int32} (f : AH → Option α) : ob (pI (wd b W) (b + ad 7 i g) 7 0 v) f = f (wd b (wsI W 7 i g 0 v)) := ob_i (s7_0 h)
theorem r7_1 (h : vo 7 i g = true) : hI (wd b W) (b + ad 7 i g) 7 1 = some (W.1 7 i g 1) := by simp only [hI, at_7 h]; rfl
theorem o7_1 (h : vo 7 i g = true) (f : Int32 → Option α) : ob (hI (wd b W) (b + ad 7 i g) 7 1) f = f (W.1 7 i g 1) := ob_i (r7_1 h)
theorem s7_1 (h : vo 7 i g = true) {v : Int32} : pI (wd b W) (b + ad 7 i g) 7 1 v = some (wd b (wsI W 7 i g 1 v)) := by
  unfold pI
  simp only [pV, at_7 h]
  rw [if_pos ⟨rfl, Nat.le_of_ble_eq_true rfl⟩]
  refine congrArg some (wd_up (ad_ok h).1 ?_ (by rw [(ad_ok h).2]; exact cel_wsI))
  rw [(ad_ok h).2]
  simp [cel, fd, wsI]
theorem p7_1 (h : vo 7 i g = true) {v : Int32} (f : AH → Option α) : ob (pI (wd b W) (b + ad 7 i g) 7 1 v) f = f (wd b (wsI W 7 i g 1 v)) := ob_i (s7_1 h)
theorem r7_2 (h : vo 7 i g = true) : hI (wd b W) (b + ad 7 i g) 7 2 = some (W.1 7 i g 2) := by simp only [hI, at_7 h]; rfl
theorem o7_2 (h : vo 7 i g = true) (f : Int32 → Option α) : ob (hI (wd b W) (b + ad 7 i g) 7 2) f = f (W.1 7 i g 2) := ob_i (r7_2 h)
theorem s7_2 (h : vo 7 i g = true) {v : Int32} (hv : v = 0 ∨ v = 1) : pZ (wd b W) (b + ad 7 i g) 7 2 v = some (wd b (wsI W 7 i g 2 v)) := by
  unfold pZ
  rw [if_pos hv]
  simp only [pV, at_7 h]
  rw [if_pos ⟨rfl, Nat.le_of_ble_eq_true rfl⟩]
  refine congrArg some (wd_up (ad_ok h).1 ?_ (by rw [(ad_ok h).2]; exact cel_wsI))
  rw [(ad_ok h).2]
  simp [cel, fd, wsI]
theorem p7_2 (h : vo 7 i g = true) {v : Int32} (hv : v = 0 ∨ v = 1) (f : AH → Option α) : ob (pZ (wd b W) (b + ad 7 i g) 7 2 v) f = f (wd b (wsI W 7 i g 2 v)) := ob_i (s7_2 h hv)
theorem r7_3 (h : vo 7 i g = true) : hI (wd b W) (b + ad 7 i g) 7 3 = some (W.1 7 i g 3) := by simp only [hI, at_7 h]; rfl
theorem o7_3 (h : vo 7 i g = true) (f : Int32 → Option α) : ob (hI (wd b W) (b + ad 7 i g) 7 3) f = f (W.1 7 i g 3) := ob_i (r7_3 h)
theorem s7_3 (h : vo 7 i g = true) {v : Int32} (hv : v = 0 ∨ v = 1) : pZ (wd b W) (b + ad 7 i g) 7 3 v = some (wd b (wsI W 7 i g 3 v)) := by
  unfold pZ
  rw [if_pos hv]
  simp only [pV, at_7 h]
  rw [if_pos ⟨rfl, Nat.le_of_ble_eq_true rfl⟩]
  refine congrArg some (wd_up (ad_ok h).1 ?_ (by rw [(ad_ok h).2]; exact cel_wsI))
  rw [(ad_ok h).2]
  simp [cel, fd, wsI]
theorem p7_3 (h : vo 7 i g = true) {v : Int32} (hv : v = 0 ∨ v = 1) (f : AH → Option α) : ob (pZ (wd b W) (b + ad 7 i g) 7 3 v) f = f (wd b (wsI W 7 i g 3 v)) := ob_i (s7_3 h hv)
theorem r7_4 (h : vo 7 i g = true) : hI (wd b W) (b + ad 7 i g) 7 4 = some (W.1 7 i g 4) := by simp only [hI, at_7 h]; rfl
theorem o7_4 (h : vo 7 i g = true) (f : Int32 → Option α) : ob (hI (wd b W) (b + ad 7 i g) 7 4) f = f (W.1 7 i g 4) := ob_i (r7_4 h)
theorem s7_4 (h : vo 7 i g = true) {v : Int32} : pI (wd b W) (b + ad 7 i g) 7 4 v = some (wd b (wsI W 7 i g 4 v)) := by
  unfold pI
  simp only [pV, at_7 h]
  rw [if_pos ⟨rfl, Nat.le_of_ble_eq_true rfl⟩]
  refine congrArg some (wd_up (ad_ok h).1 ?_ (by rw [(ad_ok h).2]; exact cel_wsI))
  rw [(ad_ok h).2]
  simp [cel, fd, wsI]
theorem p7_4 (h : vo 7 i g = true) {v : Int32} (f : AH → Option α) : ob (pI (wd b W) (b + ad 7 i g) 7 4 v) f = f (wd b (wsI W 7 i g 4 v)) := ob_i (s7_4 h)
theorem r7_5 (h : vo 7 i g = true) : hI (wd b W) (b + ad 7 i g) 7 5 = some (W.1 7 i g 5) := by simp only [hI, at_7 h]; rfl
theorem o7_5 (h : vo 7 i g = true) (f : Int32 → Option α) : ob (hI (wd b W) (b + ad 7 i g) 7 5) f = f (W.1 7 i g 5) := ob_i (r7_5 h)
theorem s7_5 (h : vo 7 i g = true) {v : Int32} : pI (wd b W) (b + ad 7 i g) 7 5 v = some (wd b (wsI W 7 i g 5 v)) := by
  unfold pI
  simp only [pV, at_7 h]
  rw [if_pos ⟨rfl, Nat.le_of_ble_eq_true rfl⟩]
  refine congrArg some (wd_up (ad_ok h).1 ?_ (by rw [(ad_ok h).2]; exact cel_wsI))
  rw [(ad_ok h).2]
  simp [cel, fd, wsI]
theorem p7_5 (h : vo 7 i g = true) {v : Int32} (f : AH → Option α) : ob (pI (wd b W) (b + ad 7 i g) 7 5 v) f = f (wd b (wsI W 7 i g 5 v)) := ob_i (s7_5 h)
theorem r7_6 (h : vo 7 i g = true) : hI (wd b W) (b + ad 7 i g) 7 6 = some (W.1 7 i g 6) := by simp only [hI, at_7 h]; rfl
theorem o7_6 (h : vo 7 i g = true) (f : Int32 → Option α) : ob (hI (wd b W) (b + ad 7 i g) 7 6) f = f (W.1 7 i g 6) := ob_i (r7_6 h)
theorem s7_6 (h : vo 7 i g = true) {v : Int32} : pI (wd b W) (b + ad 7 i g) 7 6 v = some (wd b (wsI W 7 i g 6 v)) := by
  unfold pI
  simp only [pV, at_7 h]
  rw [if_pos ⟨rfl, Nat.le_of_ble_eq_true rfl⟩]
  refine congrArg some (wd_up (ad_ok h).1 ?_ (by rw [(ad_ok h).2]; exact cel_wsI))
  rw [(ad_ok h).2]
  simp [cel, fd, wsI]
theorem p7_6 (h : vo 7 i g = true) {v : Int32} (f : AH → Option α) : ob (pI (wd b W) (b + ad 7 i g) 7 6 v) f = f (wd b (wsI W 7 i g 6 v)) := ob_i (s7_6 h)
theorem r7_7 (h : vo 7 i g = true) : hR (wd b W) (b + ad 7 i g) 7 7 = some (b + aa 7 i g 7) := by simp only [hR, at_7 h]; rfl
theorem o7_7 (h : vo 7 i g = true) (f : Nat → Option α) : ob (hR (wd b W) (b + ad 7 i g) 7 7) f = f (b + aa 7 i g 7) := ob_i (r7_7 h)
theorem r7_8 (h : vo 7 i g = true) : hR (wd b W) (b + ad 7 i g) 7 8 = some (b + aa 7 i g 8) := by simp only [hR, at_7 h]; rfl
theorem o7_8 (h : vo 7 i g = true) (f : Nat → Option α) : ob (hR (wd b W) (b + ad 7 i g) 7 8) f = f (b + aa 7 i g 8) := ob_i (r7_8 h)
theorem r7_9 (h : vo 7 i g = true) : hR (wd b W) (b + ad 7 i g) 7 9 = some (b + ad 11 i 0) := by simp only [hR, at_7 h]; rfl
theorem o7_9 (h : vo 7 i g = true) (f : Nat → Option α) : ob (hR (wd b W) (b + ad 7 i g) 7 9) f = f (b + ad 11 i 0) := ob_i (r7_9 h)
theorem r7_10 (h : vo 7 i g = true) : hR (wd b W) (b + ad 7 i g) 7 10 = some (b + aa 7 i g 10) := by simp only [hR, at_7 h]; rfl
theorem o7_10 (h : vo 7 i g = true) (f : Nat → Option α) : ob (hR (wd b W) (b + ad 7 i g) 7 10) f = f (b + aa 7 i g 10) := ob_i (r7_10 h)
theorem r7_11 (h : vo 7 i g = true) : hR (wd b W) (b + ad 7 i g) 7 11 = some (b + ad 0 i 0) := by simp only [hR, at_7 h]; rfl
theorem o7_11 (h : vo 7 i g = true) (f : Nat → Option α) : ob (hR (wd b W) (b + ad 7 i g) 7 11) f = f (b + ad 0 i 0) := ob_i (r7_11 h)
theorem q7_7 (h : vo 7 i g = true) : (wd b W).2 (b + aa 7 i g 7) = some (arr b W 7 i g 7) := by rw [wd_at (aa_7_7 h).1, (aa_7_7 h).2]; rfl
theorem a7_7 (h : vo 7 i g = true) {x : Nat} (hx : x < 16) : aI (wd b W) (b + aa 7 i g 7) (nI x) = some (W.2.1 7 i g 7 x) := by
  have e1 : (nI x).toNatClampNeg = x := nI_clamp (by omega)
  have e2 : ¬ (nI x < 0 ∨ 16 ≤ (nI x).toNatClampNeg) := nI_in hx (by omega)
  rw [e1] at e2
  simp only [aI, q7_7 h, arr, if_neg e2, e1]
theorem oa7_7 (h : vo 7 i g = true) {x : Nat} (hx : x < 16) (f : Int32 → Option α) : ob (aI (wd b W) (b + aa 7 i g 7) (nI x)) f = f (W.2.1 7 i g 7 x) := ob_i (a7_7 h hx)
theorem t7_7 (h : vo 7 i g = true) {x : Nat} (hx : x < 16) {v : Int32} : sI (wd b W) (b + aa 7 i g 7) (nI x) v = some (wd b (wsA W 7 i g 7 (upd (W.2.1 7 i g 7) x v))) := by
  have e1 : (nI x).toNatClampNeg = x := nI_clamp (by omega)
  have e2 : ¬ (nI x < 0 ∨ 16 ≤ (nI x).toNatClampNeg) := nI_in hx (by omega)
  rw [e1] at e2
  simp only [sI, q7_7 h, arr, if_neg e2, e1]
  refine congrArg some (wd_up (aa_7_7 h).1 ?_ (by rw [(aa_7_7 h).2]; exact cel_wsA))
  rw [(aa_7_7 h).2]
  simp [cel, arr, wsA]
theorem ot7_7 (h : vo 7 i g = true) {x : Nat} (hx : x < 16) {v : Int32} (f : AH → Option α) : ob (sI (wd b W) (b + aa 7 i g 7) (nI x) v) f = f (wd b (wsA W 7 i g 7 (upd (W.2.1 7 i g 7) x v))) := ob_i (t7_7 h hx)
theorem q7_8 (h : vo 7 i g = true) : (wd b W).2 (b + aa 7 i g 8) = some (arr b W 7 i g 8) := by rw [wd_at (aa_7_8 h).1, (aa_7_8 h).2]; rfl
theorem a7_8 (h : vo 7 i g = true) {x : Nat} (hx : x < 16) : aI (wd b W) (b + aa 7 i g 8) (nI x) = some (W.2.1 7 i g 8 x) := by
  have e1 : (nI x).toNatClampNeg = x := nI_clamp (by omega)
  have e2 : ¬ (nI x < 0 ∨ 16 ≤ (nI x).toNatClampNeg) := nI_in hx (by omega)
  rw [e1] at e2
  simp only [aI, q7_8 h, arr, if_neg e2, e1]
theorem oa7_8 (h : vo 7 i g = true) {x : Nat} (hx : x < 16) (f : Int32 → Option α) : ob (aI (wd b W) (b + aa 7 i g 8) (nI x)) f = f (W.2.1 7 i g 8 x) := ob_i (a7_8 h hx)
theorem t7_8 (h : vo 7 i g = true) {x : Nat} (hx : x < 16) {v : Int32} : sI (wd b W) (b + aa 7 i g 8) (nI x) v = some (wd b (wsA W 7 i g 8 (upd (W.2.1 7 i g 8) x v))) := by
  have e1 : (nI x).toNatClampNeg = x := nI_clamp (by omega)
  have e2 : ¬ (nI x < 0 ∨ 16 ≤ (nI x).toNatClampNeg) := nI_in hx (by omega)
  rw [e1] at e2
  simp only [sI, q7_8 h, arr, if_neg e2, e1]
  refine congrArg some (wd_up (aa_7_8 h).1 ?_ (by rw [(aa_7_8 h).2]; exact cel_wsA))
  rw [(aa_7_8 h).2]
  simp [cel, arr, wsA]
theorem ot7_8 (h : vo 7 i g = true) {x : Nat} (hx : x < 16) {v : Int32} (f : AH → Option α) : ob (sI (wd b W) (b + aa 7 i g 8) (nI x) v) f = f (wd b (wsA W 7 i g 8 (upd (W.2.1 7 i g 8) x v))) := ob_i (t7_8 h hx)
theorem q7_10 (h : vo 7 i g = true) : (wd b W).2 (b + aa 7 i g 10) = some (arr b W 7 i g 10) := by rw [wd_at (aa_7_10 h).1, (aa_7_10 h).2]; rfl
theorem a7_10 (h : vo 7 i g = true) {x : Nat} (hx : x < 12) : aR (wd b W) 2 (b + aa 7 i g 10) (nI x) = some (b + ad 4 i x) := by
  have e1 : (nI x).toNatClampNeg = x := nI_clamp (by omega)
  have e2 : ¬ (nI x < 0 ∨ 12 ≤ (nI x).toNatClampNeg) := nI_in hx (by omega)
  rw [e1] at e2
  simp only [aR, q7_10 h, arr, if_neg e2, e1, if_pos hx, if_true]
theorem oa7_10 (h : vo 7 i g = true) {x : Nat} (hx : x < 12) (f : Nat → Option α) : ob (aR (wd b W) 2 (b + aa 7 i g 10) (nI x)) f = f (b + ad 4 i x) := ob_i (a7_10 h hx)
theorem at_8 (h : vo 8 i g = true) : (wd b W).2 (b + ad 8 i g) = some (.inl (fd b W 8 i g)) := by rw [wd_at (ad_ok h).1, (ad_ok h).2]; rfl
theorem iO_8 (h : vo 8 i g = true) : iO (wd b W) (b + ad 8 i g) 8 = some () := by simp only [iO, at_8 h]; rfl
theorem oO_8 (h : vo 8 i g = true) (f : Unit → Option α) : ob (iO (wd b W) (b + ad 8 i g) 8) f = f () := ob_i (iO_8 h)
theorem r8_0 (h : vo 8 i g = true) : hI (wd b W) (b + ad 8 i g) 8 0 = some (W.1 8 i g 0) := by simp only [hI, at_8 h]; rfl
theorem o8_0 (h : vo 8 i g = true) (f : Int32 → Option α) : ob (hI (wd b W) (b + ad 8 i g) 8 0) f = f (W.1 8 i g 0) := ob_i (r8_0 h)
theorem s8_0 (h : vo 8 i g = true) {v : Int32} : pI (wd b W) (b + ad 8 i g) 8 0 v = some (wd b (wsI W 8 i g 0 v)) := by
  unfold pI
  simp only [pV, at_8 h]
  rw [if_pos ⟨rfl, Nat.le_of_ble_eq_true rfl⟩]
  refine congrArg some (wd_up (ad_ok h).1 ?_ (by rw [(ad_ok h).2]; exact cel_wsI))
  rw [(ad_ok h).2]
  simp [cel, fd, wsI]
theorem p8_0 (h : vo 8 i g = true) {v : Int32} (f : AH → Option α) : ob (pI (wd b W) (b + ad 8 i g) 8 0 v) f = f (wd b (wsI W 8 i g 0 v)) := ob_i (s8_0 h)
theorem r8_1 (h : vo 8 i g = true) : hR (wd b W) (b + ad 8 i g) 8 1 = some (b + aa 8 i g 1) := by simp only [hR, at_8 h]; rfl
theorem o8_1 (h : vo 8 i g = true) (f : Nat → Option α) : ob (hR (wd b W) (b + ad 8 i g) 8 1) f = f (b + aa 8 i g 1) := ob_i (r8_1 h)
theorem r8_2 (h : vo 8 i g = true) : hR (wd b W) (b + ad 8 i g) 8 2 = some (b + aa 8 i g 2) := by simp only [hR, at_8 h]; rfl
theorem o8_2 (h : vo 8 i g = true) (f : Nat → Option α) : ob (hR (wd b W) (b + ad 8 i g) 8 2) f = f (b + aa 8 i g 2) := ob_i (r8_2 h)
theorem r8_3 (h : vo 8 i g = true) : hR (wd b W) (b + ad 8 i g) 8 3 = some (b + aa 8 i g 3) := by simp only [hR, at_8 h]; rfl
theorem o8_3 (h : vo 8 i g = true) (f : Nat → Option α) : ob (hR (wd b W) (b + ad 8 i g) 8 3) f = f (b + aa 8 i g 3) := ob_i (r8_3 h)
theorem r8_4 (h : vo 8 i g = true) : hR (wd b W) (b + ad 8 i g) 8 4 = some (b + aa 8 i g 4) := by simp only [hR, at_8 h]; rfl
theorem o8_4 (h : vo 8 i g = true) (f : Nat → Option α) : ob (hR (wd b W) (b + ad 8 i g) 8 4) f = f (b + aa 8 i g 4) := ob_i (r8_4 h)
theorem r8_5 (h : vo 8 i g = true) : hR (wd b W) (b + ad 8 i g) 8 5 = some (b + aa 8 i g 5) := by simp only [hR, at_8 h]; rfl
theorem o8_5 (h : vo 8 i g = true) (f : Nat → Option α) : ob (hR (wd b W) (b + ad 8 i g) 8 5) f = f (b + aa 8 i g 5) := ob_i (r8_5 h)
theorem r8_6 (h : vo 8 i g = true) : hR (wd b W) (b + ad 8 i g) 8 6 = some (b + aa 8 i g 6) := by simp only [hR, at_8 h]; rfl
theorem o8_6 (h : vo 8 i g = true) (f : Nat → Option α) : ob (hR (wd b W) (b + ad 8 i g) 8 6) f = f (b + aa 8 i g 6) := ob_i (r8_6 h)
theorem r8_7 (h : vo 8 i g = true) : hR (wd b W) (b + ad 8 i g) 8 7 = some (b + aa 8 i g 7) := by simp only [hR, at_8 h]; rfl
theorem o8_7 (h : vo 8 i g = true) (f : Nat → Option α) : ob (hR (wd b W) (b + ad 8 i g) 8 7) f = f (b + aa 8 i g 7) := ob_i (r8_7 h)
theorem r8_8 (h : vo 8 i g = true) : hR (wd b W) (b + ad 8 i g) 8 8 = some (b + aa 8 i g 8) := by simp only [hR, at_8 h]; rfl
theorem o8_8 (h : vo 8 i g = true) (f : Nat → Option α) : ob (hR (wd b W) (b + ad 8 i g) 8 8) f = f (b + aa 8 i g 8) := ob_i (r8_8 h)
theorem r8_9 (h : vo 8 i g = true) : hR (wd b W) (b + ad 8 i g) 8 9 = some (b + aa 8 i g 9) := by simp only [hR, at_8 h]; rfl
theorem o8_9 (h : vo 8 i g = true) (f : Nat → Option α) : ob (hR (wd b W) (b + ad 8 i g) 8 9) f = f (b + aa 8 i g 9) := ob_i (r8_9 h)
theorem r8_10 (h : vo 8 i g = true) : hR (wd b W) (b + ad 8 i g) 8 10 = some (b + aa 8 i g 10) := by simp only [hR, at_8 h]; rfl
theorem o8_10 (h : vo 8 i g = true) (f : Nat → Option α) : ob (hR (wd b W) (b + ad 8 i g) 8 10) f = f (b + aa 8 i g 10) := ob_i (r8_10 h)
theorem q8_1 (h : vo 8 i g = true) : (wd b W).2 (b + aa 8 i g 1) = some (arr b W 8 i g 1) := by rw [wd_at (aa_8_1 h).1, (aa_8_1 h).2]; rfl
theorem a8_1 (h : vo 8 i g = true) {x : Nat} (hx : x < 12) : aI (wd b W) (b + aa 8 i g 1) (nI x) = some (W.2.1 8 i g 1 x) := by
  have e1 : (nI x).toNatClampNeg = x := nI_clamp (by omega)
  have e2 : ¬ (nI x < 0 ∨ 12 ≤ (nI x).toNatClampNeg) := nI_in hx (by omega)
  rw [e1] at e2
  simp only [aI, q8_1 h, arr, if_neg e2, e1]
theorem oa8_1 (h : vo 8 i g = true) {x : Nat} (hx : x < 12) (f : Int32 → Option α) : ob (aI (wd b W) (b + aa 8 i g 1) (nI x)) f = f (W.2.1 8 i g 1 x) := ob_i (a8_1 h hx)
theorem t8_1 (h : vo 8 i g = true) {x : Nat} (hx : x < 12) {v : Int32} : sI (wd b W) (b + aa 8 i g 1) (nI x) v = some (wd b (wsA W 8 i g 1 (upd (W.2.1 8 i g 1) x v))) := by
  have e1 : (nI x).toNatClampNeg = x := nI_clamp (by omega)
  have e2 : ¬ (nI x < 0 ∨ 12 ≤ (nI x).toNatClampNeg) := nI_in hx (by omega)
  rw [e1] at e2
  simp only [sI, q8_1 h, arr, if_neg e2, e1]
  refine congrArg some (wd_up (aa_8_1 h).1 ?_ (by rw [(aa_8_1 h).2]; exact cel_wsA))
  rw [(aa_8_1 h).2]
  simp [cel, arr, wsA]
theorem ot8_1 (h : vo 8 i g = true) {x : Nat} (hx : x < 12) {v : Int32} (f : AH → Option α) : ob (sI (wd b W) (b + aa 8 i g 1) (nI x) v) f = f (wd b (wsA W 8 i g 1 (upd (W.2.1 8 i g 1) x v))) := ob_i (t8_1 h hx)
theorem q8_2 (h : vo 8 i g = true) : (wd b W).2 (b + aa 8 i g 2) = some (arr b W 8 i g 2) := by rw [wd_at (aa_8_2 h).1, (aa_8_2 h).2]; rfl
theorem a8_2 (h : vo 8 i g = true) {x : Nat} (hx : x < 12) : aI (wd b W) (b + aa 8 i g 2) (nI x) = some (W.2.1 8 i g 2 x) := by
  have e1 : (nI x).toNatClampNeg = x := nI_clamp (by omega)
  have e2 : ¬ (nI x < 0 ∨ 12 ≤ (nI x).toNatClampNeg) := nI_in hx (by omega)
  rw [e1] at e2
  simp only [aI, q8_2 h, arr, if_neg e2, e1]
theorem oa8_2 (h : vo 8 i g = true) {x : Nat} (hx : x < 12) (f : Int32 → Option α) : ob (aI (wd b W) (b + aa 8 i g 2) (nI x)) f = f (W.2.1 8 i g 2 x) := ob_i (a8_2 h hx)
theorem t8_2 (h : vo 8 i g = true) {x : Nat} (hx : x < 12) {v : Int32} : sI (wd b W) (b + aa 8 i g 2) (nI x) v = some (wd b (wsA W 8 i g 2 (upd (W.2.1 8 i g 2) x v))) := by
  have e1 : (nI x).toNatClampNeg = x := nI_clamp (by omega)
  have e2 : ¬ (nI x < 0 ∨ 12 ≤ (nI x).toNatClampNeg) := nI_in hx (by omega)
  rw [e1] at e2
  simp only [sI, q8_2 h, arr, if_neg e2, e1]
  refine congrArg some (wd_up (aa_8_2 h).1 ?_ (by rw [(aa_8_2 h).2]; exact cel_wsA))
  rw [(aa_8_2 h).2]
  simp [cel, arr, wsA]
theorem ot8_2 (h : vo 8 i g = true) {x : Nat} (hx : x < 12) {v : Int32} (f : AH → Option α) : ob (sI (wd b W) (b + aa 8 i g 2) (nI x) v) f = f (wd b (wsA W 8 i g 2 (upd (W.2.1 8 i g 2) x v))) := ob_i (t8_2 h hx)
theorem q8_3 (h : vo 8 i g = true) : (wd b W).2 (b + aa 8 i g 3) = some (arr b W 8 i g 3) := by rw [wd_at (aa_8_3 h).1, (aa_8_3 h).2]; rfl
theorem a8_3 (h : vo 8 i g = true) {x : Nat} (hx : x < 16) : aI (wd b W) (b + aa 8 i g 3) (nI x) = some (W.2.1 8 i g 3 x) := by
  have e1 : (nI x).toNatClampNeg = x := nI_clamp (by omega)
  have e2 : ¬ (nI x < 0 ∨ 16 ≤ (nI x).toNatClampNeg) := nI_in hx (by omega)
  rw [e1] at e2
  simp only [aI, q8_3 h, arr, if_neg e2, e1]
theorem oa8_3 (h : vo 8 i g = true) {x : Nat} (hx : x < 16) (f : Int32 → Option α) : ob (aI (wd b W) (b + aa 8 i g 3) (nI x)) f = f (W.2.1 8 i g 3 x) := ob_i (a8_3 h hx)
theorem t8_3 (h : vo 8 i g = true) {x : Nat} (hx : x < 16) {v : Int32} : sI (wd b W) (b + aa 8 i g 3) (nI x) v = some (wd b (wsA W 8 i g 3 (upd (W.2.1 8 i g 3) x v))) := by
  have e1 : (nI x).toNatClampNeg = x := nI_clamp (by omega)
  have e2 : ¬ (nI x < 0 ∨ 16 ≤ (nI x).toNatClampNeg) := nI_in hx (by omega)
  rw [e1] at e2
  simp only [sI, q8_3 h, arr, if_neg e2, e1]
  refine congrArg some (wd_up (aa_8_3 h).1 ?_ (by rw [(aa_8_3 h).2]; exact cel_wsA))
  rw [(aa_8_3 h).2]
  simp [cel, arr, wsA]
theorem ot8_3 (h : vo 8 i g = true) {x : Nat} (hx : x < 16) {v : Int32} (f : AH → Option α) : ob (sI (wd b W) (b + aa 8 i g 3) (nI x) v) f = f (wd b (wsA W 8 i g 3 (upd (W.2.1 8 i g 3) x v))) := ob_i (t8_3 h hx)
theorem q8_4 (h : vo 8 i g = true) : (wd b W).2 (b + aa 8 i g 4) = some (arr b W 8 i g 4) := by rw [wd_at (aa_8_4 h).1, (aa_8_4 h).2]; rfl
theorem a8_4 (h : vo 8 i g = true) {x : Nat} (hx : x < 12) : aI (wd b W) (b + aa 8 i g 4) (nI x) = some (W.2.1 8 i g 4 x) := by
  have e1 : (nI x).toNatClampNeg = x := nI_clamp (by omega)
  have e2 : ¬ (nI x < 0 ∨ 12 ≤ (nI x).toNatClampNeg) := nI_in hx (by omega)
  rw [e1] at e2
  simp only [aI, q8_4 h, arr, if_neg e2, e1]
theorem oa8_4 (h : vo 8 i g = true) {x : Nat} (hx : x < 12) (f : Int32 → Option α) : ob (aI (wd b W) (b + aa 8 i g 4) (nI x)) f = f (W.2.1 8 i g 4 x) := ob_i (a8_4 h hx)
theorem t8_4 (h : vo 8 i g = true) {x : Nat} (hx : x < 12) {v : Int32} : sI (wd b W) (b + aa 8 i g 4) (nI x) v = some (wd b (wsA W 8 i g 4 (upd (W.2.1 8 i g 4) x v))) := by
  have e1 : (nI x).toNatClampNeg = x := nI_clamp (by omega)
  have e2 : ¬ (nI x < 0 ∨ 12 ≤ (nI x).toNatClampNeg) := nI_in hx (by omega)
  rw [e1] at e2
  simp only [sI, q8_4 h, arr, if_neg e2, e1]
  refine congrArg some (wd_up (aa_8_4 h).1 ?_ (by rw [(aa_8_4 h).2]; exact cel_wsA))
  rw [(aa_8_4 h).2]
  simp [cel, arr, wsA]
theorem ot8_4 (h : vo 8 i g = true) {x : Nat} (hx : x < 12) {v : Int32} (f : AH → Option α) : ob (sI (wd b W) (b + aa 8 i g 4) (nI x) v) f = f (wd b (wsA W 8 i g 4 (upd (W.2.1 8 i g 4) x v))) := ob_i (t8_4 h hx)
theorem q8_5 (h : vo 8 i g = true) : (wd b W).2 (b + aa 8 i g 5) = some (arr b W 8 i g 5) := by rw [wd_at (aa_8_5 h).1, (aa_8_5 h).2]; rfl
theorem a8_5 (h : vo 8 i g = true) {x : Nat} (hx : x < 12) : aI (wd b W) (b + aa 8 i g 5) (nI x) = some (W.2.1 8 i g 5 x) := by
  have e1 : (nI x).toNatClampNeg = x := nI_clamp (by omega)
  have e2 : ¬ (nI x < 0 ∨ 12 ≤ (nI x).toNatClampNeg) := nI_in hx (by omega)
  rw [e1] at e2
  simp only [aI, q8_5 h, arr, if_neg e2, e1]
theorem oa8_5 (h : vo 8 i g = true) {x : Nat} (hx : x < 12) (f : Int32 → Option α) : ob (aI (wd b W) (b + aa 8 i g 5) (nI x)) f = f (W.2.1 8 i g 5 x) := ob_i (a8_5 h hx)
theorem t8_5 (h : vo 8 i g = true) {x : Nat} (hx : x < 12) {v : Int32} : sI (wd b W) (b + aa 8 i g 5) (nI x) v = some (wd b (wsA W 8 i g 5 (upd (W.2.1 8 i g 5) x v))) := by
  have e1 : (nI x).toNatClampNeg = x := nI_clamp (by omega)
  have e2 : ¬ (nI x < 0 ∨ 12 ≤ (nI x).toNatClampNeg) := nI_in hx (by omega)
  rw [e1] at e2
  simp only [sI, q8_5 h, arr, if_neg e2, e1]
  refine congrArg some (wd_up (aa_8_5 h).1 ?_ (by rw [(aa_8_5 h).2]; exact cel_wsA))
  rw [(aa_8_5 h).2]
  simp [cel, arr, wsA]
theorem ot8_5 (h : vo 8 i g = true) {x : Nat} (hx : x < 12) {v : Int32} (f : AH → Option α) : ob (sI (wd b W) (b + aa 8 i g 5) (nI x) v) f = f (wd b (wsA W 8 i g 5 (upd (W.2.1 8 i g 5) x v))) := ob_i (t8_5 h hx)
theorem q8_6 (h : vo 8 i g = true) : (wd b W).2 (b + aa 8 i g 6) = some (arr b W 8 i g 6) := by rw [wd_at (aa_8_6 h).1, (aa_8_6 h).2]; rfl
theorem a8_6 (h : vo 8 i g = true) {x : Nat} (hx : x < 12) : aJ (wd b W) (b + aa 8 i g 6) (nI x) = some (W.2.2 8 i g 6 x) := by
  have e1 : (nI x).toNatClampNeg = x := nI_clamp (by omega)
  have e2 : ¬ (nI x < 0 ∨ 12 ≤ (nI x).toNatClampNeg) := nI_in hx (by omega)
  rw [e1] at e2
  simp only [aJ, q8_6 h, arr, if_neg e2, e1]
theorem oa8_6 (h : vo 8 i g = true) {x : Nat} (hx : x < 12) (f : Int64 → Option α) : ob (aJ (wd b W) (b + aa 8 i g 6) (nI x)) f = f (W.2.2 8 i g 6 x) := ob_i (a8_6 h hx)
theorem t8_6 (h : vo 8 i g = true) {x : Nat} (hx : x < 12) {v : Int64} : sJ (wd b W) (b + aa 8 i g 6) (nI x) v = some (wd b (wsL W 8 i g 6 (vp_updL (W.2.2 8 i g 6) x v))) := by
  have e1 : (nI x).toNatClampNeg = x := nI_clamp (by omega)
  have e2 : ¬ (nI x < 0 ∨ 12 ≤ (nI x).toNatClampNeg) := nI_in hx (by omega)
  rw [e1] at e2
  simp only [sJ, q8_6 h, arr, if_neg e2, e1]
  refine congrArg some (wd_up (aa_8_6 h).1 ?_ (fun d hd => ?_))
  · rw [(aa_8_6 h).2]
    simp [cel, arr, wsL]
  · rw [(aa_8_6 h).2] at hd
    by_cases h0 : d = (8, i, g, 0)
    · subst h0
      first | rfl | simp [cel, fd, wsL]
    · exact cel_wsL _ hd h0
theorem ot8_6 (h : vo 8 i g = true) {x : Nat} (hx : x < 12) {v : Int64} (f : AH → Option α) : ob (sJ (wd b W) (b + aa 8 i g 6) (nI x) v) f = f (wd b (wsL W 8 i g 6 (vp_updL (W.2.2 8 i g 6) x v))) := ob_i (t8_6 h hx)
theorem q8_7 (h : vo 8 i g = true) : (wd b W).2 (b + aa 8 i g 7) = some (arr b W 8 i g 7) := by rw [wd_at (aa_8_7 h).1, (aa_8_7 h).2]; rfl
theorem a8_7 (h : vo 8 i g = true) {x : Nat} (hx : x < 12) : aI (wd b W) (b + aa 8 i g 7) (nI x) = some (W.2.1 8 i g 7 x) := by
  have e1 : (nI x).toNatClampNeg = x := nI_clamp (by omega)
  have e2 : ¬ (nI x < 0 ∨ 12 ≤ (nI x).toNatClampNeg) := nI_in hx (by omega)
  rw [e1] at e2
  simp only [aI, q8_7 h, arr, if_neg e2, e1]
theorem oa8_7 (h : vo 8 i g = true) {x : Nat} (hx : x < 12) (f : Int32 → Option α) : ob (aI (wd b W) (b + aa 8 i g 7) (nI x)) f = f (W.2.1 8 i g 7 x) := ob_i (a8_7 h hx)
theorem t8_7 (h : vo 8 i g = true) {x : Nat} (hx : x < 12) {v : Int32} : sI (wd b W) (b + aa 8 i g 7) (nI x) v = some (wd b (wsA W 8 i g 7 (upd (W.2.1 8 i g 7) x v))) := by
  have e1 : (nI x).toNatClampNeg = x := nI_clamp (by omega)
  have e2 : ¬ (nI x < 0 ∨ 12 ≤ (nI x).toNatClampNeg) := nI_in hx (by omega)
  rw [e1] at e2
  simp only [sI, q8_7 h, arr, if_neg e2, e1]
  refine congrArg some (wd_up (aa_8_7 h).1 ?_ (by rw [(aa_8_7 h).2]; exact cel_wsA))
  rw [(aa_8_7 h).2]
  simp [cel, arr, wsA]
theorem ot8_7 (h : vo 8 i g = true) {x : Nat} (hx : x < 12) {v : Int32} (f : AH → Option α) : ob (sI (wd b W) (b + aa 8 i g 7) (nI x) v) f = f (wd b (wsA W 8 i g 7 (upd (W.2.1 8 i g 7) x v))) := ob_i (t8_7 h hx)
theorem q8_8 (h : vo 8 i g = true) : (wd b W).2 (b + aa 8 i g 8) = some (arr b W 8 i g 8) := by rw [wd_at (aa_8_8 h).1, (aa_8_8 h).2]; rfl
theorem a8_8 (h : vo 8 i g = true) {x : Nat} (hx : x < 16) : aI (wd b W) (b + aa 8 i g 8) (nI x) = some (W.2.1 8 i g 8 x) := by
  have e1 : (nI x).toNatClampNeg = x := nI_clamp (by omega)
  have e2 : ¬ (nI x < 0 ∨ 16 ≤ (nI x).toNatClampNeg) := nI_in hx (by omega)
  rw [e1] at e2
  simp only [aI, q8_8 h, arr, if_neg e2, e1]
theorem oa8_8 (h : vo 8 i g = true) {x : Nat} (hx : x < 16) (f : Int32 → Option α) : ob (aI (wd b W) (b + aa 8 i g 8) (nI x)) f = f (W.2.1 8 i g 8 x) := ob_i (a8_8 h hx)
theorem t8_8 (h : vo 8 i g = true) {x : Nat} (hx : x < 16) {v : Int32} : sI (wd b W) (b + aa 8 i g 8) (nI x) v = some (wd b (wsA W 8 i g 8 (upd (W.2.1 8 i g 8) x v))) := by
  have e1 : (nI x).toNatClampNeg = x := nI_clamp (by omega)
  have e2 : ¬ (nI x < 0 ∨ 16 ≤ (nI x).toNatClampNeg) := nI_in hx (by omega)
  rw [e1] at e2
  simp only [sI, q8_8 h, arr, if_neg e2, e1]
  refine congrArg some (wd_up (aa_8_8 h).1 ?_ (by rw [(aa_8_8 h).2]; exact cel_wsA))
  rw [(aa_8_8 h).2]
  simp [cel, arr, wsA]
theorem ot8_8 (h : vo 8 i g = true) {x : Nat} (hx : x < 16) {v : Int32} (f : AH → Option α) : ob (sI (wd b W) (b + aa 8 i g 8) (nI x) v) f = f (wd b (wsA W 8 i g 8 (upd (W.2.1 8 i g 8) x v))) := ob_i (t8_8 h hx)
theorem q8_9 (h : vo 8 i g = true) : (wd b W).2 (b + aa 8 i g 9) = some (arr b W 8 i g 9) := by rw [wd_at (aa_8_9 h).1, (aa_8_9 h).2]; rfl
theorem a8_9 (h : vo 8 i g = true) {x : Nat} (hx : x < 16) : aI (wd b W) (b + aa 8 i g 9) (nI x) = some (W.2.1 8 i g 9 x) := by
  have e1 : (nI x).toNatClampNeg = x := nI_clamp (by omega)
  have e2 : ¬ (nI x < 0 ∨ 16 ≤ (nI x).toNatClampNeg) := nI_in hx (by omega)
  rw [e1] at e2
  simp only [aI, q8_9 h, arr, if_neg e2, e1]
theorem oa8_9 (h : vo 8 i g = true) {x : Nat} (hx : x < 16) (f : Int32 → Option α) : ob (aI (wd b W) (b + aa 8 i g 9) (nI x)) f = f (W.2.1 8 i g 9 x) := ob_i (a8_9 h hx)
theorem t8_9 (h : vo 8 i g = true) {x : Nat} (hx : x < 16) {v : Int32} : sI (wd b W) (b + aa 8 i g 9) (nI x) v = some (wd b (wsA W 8 i g 9 (upd (W.2.1 8 i g 9) x v))) := by
  have e1 : (nI x).toNatClampNeg = x := nI_clamp (by omega)
  have e2 : ¬ (nI x < 0 ∨ 16 ≤ (nI x).toNatClampNeg) := nI_in hx (by omega)
  rw [e1] at e2
  simp only [sI, q8_9 h, arr, if_neg e2, e1]
  refine congrArg some (wd_up (aa_8_9 h).1 ?_ (by rw [(aa_8_9 h).2]; exact cel_wsA))
  rw [(aa_8_9 h).2]
  simp [cel, arr, wsA]
theorem ot8_9 (h : vo 8 i g = true) {x : Nat} (hx : x < 16) {v : Int32} (f : AH → Option α) : ob (sI (wd b W) (b + aa 8 i g 9) (nI x) v) f = f (wd b (wsA W 8 i g 9 (upd (W.2.1 8 i g 9) x v))) := ob_i (t8_9 h hx)
theorem q8_10 (h : vo 8 i g = true) : (wd b W).2 (b + aa 8 i g 10) = some (arr b W 8 i g 10) := by rw [wd_at (aa_8_10 h).1, (aa_8_10 h).2]; rfl
theorem a8_10 (h : vo 8 i g = true) {x : Nat} (hx : x < 16) : aI (wd b W) (b + aa 8 i g 10) (nI x) = some (W.2.1 8 i g 10 x) := by
  have e1 : (nI x).toNatClampNeg = x := nI_clamp (by omega)
  have e2 : ¬ (nI x < 0 ∨ 16 ≤ (nI x).toNatClampNeg) := nI_in hx (by omega)
  rw [e1] at e2
  simp only [aI, q8_10 h, arr, if_neg e2, e1]
theorem oa8_10 (h : vo 8 i g = true) {x : Nat} (hx : x < 16) (f : Int32 → Option α) : ob (aI (wd b W) (b + aa 8 i g 10) (nI x)) f = f (W.2.1 8 i g 10 x) := ob_i (a8_10 h hx)
theorem t8_10 (h : vo 8 i g = true) {x : Nat} (hx : x < 16) {v : Int32} : sI (wd b W) (b + aa 8 i g 10) (nI x) v = some (wd b (wsA W 8 i g 10 (upd (W.2.1 8 i g 10) x v))) := by
  have e1 : (nI x).toNatClampNeg = x := nI_clamp (by omega)
  have e2 : ¬ (nI x < 0 ∨ 16 ≤ (nI x).toNatClampNeg) := nI_in hx (by omega)
  rw [e1] at e2
  simp only [sI, q8_10 h, arr, if_neg e2, e1]
  refine congrArg some (wd_up (aa_8_10 h).1 ?_ (by rw [(aa_8_10 h).2]; exact cel_wsA))
  rw [(aa_8_10 h).2]
  simp [cel, arr, wsA]
theorem ot8_10 (h : vo 8 i g = true) {x : Nat} (hx : x < 16) {v : Int32} (f : AH → Option α) : ob (sI (wd b W) (b + aa 8 i g 10) (nI x) v) f = f (wd b (wsA W 8 i g 10 (upd (W.2.1 8 i g 10) x v))) := ob_i (t8_10 h hx)
theorem at_9 (h : vo 9 i g = true) : (wd b W).2 (b + ad 9 i g) = some (.inl (fd b W 9 i g)) := by rw [wd_at (ad_ok h).1, (ad_ok h).2]; rfl
theorem iO_9 (h : vo 9 i g = true) : iO (wd b W) (b + ad 9 i g) 9 = some () := by simp only [iO, at_9 h]; rfl
theorem oO_9 (h : vo 9 i g = true) (f : Unit → Option α) : ob (iO (wd b W) (b + ad 9 i g) 9) f = f () := ob_i (iO_9 h)
theorem r9_0 (h : vo 9 i g = true) : hR (wd b W) (b + ad 9 i g) 9 0 = some (b + ad 2 0 0) := by simp only [hR, at_9 h]; rfl
theorem o9_0 (h : vo 9 i g = true) (f : Nat → Option α) : ob (hR (wd b W) (b + ad 9 i g) 9 0) f = f (b + ad 2 0 0) := ob_i (r9_0 h)
theorem r9_1 (h : vo 9 i g = true) : hR (wd b W) (b + ad 9 i g) 9 1 = some (b + ad 7 0 0) := by simp only [hR, at_9 h]; rfl
theorem o9_1 (h : vo 9 i g = true) (f : Nat → Option α) : ob (hR (wd b W) (b + ad 9 i g) 9 1) f = f (b + ad 7 0 0) := ob_i (r9_1 h)
theorem r9_2 (h : vo 9 i g = true) : hR (wd b W) (b + ad 9 i g) 9 2 = some (b + ad 5 0 0) := by simp only [hR, at_9 h]; rfl
theorem o9_2 (h : vo 9 i g = true) (f : Nat → Option α) : ob (hR (wd b W) (b + ad 9 i g) 9 2) f = f (b + ad 5 0 0) := ob_i (r9_2 h)
theorem r9_3 (h : vo 9 i g = true) : hR (wd b W) (b + ad 9 i g) 9 3 = some (b + ad 8 0 0) := by simp only [hR, at_9 h]; rfl
theorem o9_3 (h : vo 9 i g = true) (f : Nat → Option α) : ob (hR (wd b W) (b + ad 9 i g) 9 3) f = f (b + ad 8 0 0) := ob_i (r9_3 h)
theorem r9_4 (h : vo 9 i g = true) : hR (wd b W) (b + ad 9 i g) 9 4 = some (b + ad 6 0 0) := by simp only [hR, at_9 h]; rfl
theorem o9_4 (h : vo 9 i g = true) (f : Nat → Option α) : ob (hR (wd b W) (b + ad 9 i g) 9 4) f = f (b + ad 6 0 0) := ob_i (r9_4 h)
theorem r9_5 (h : vo 9 i g = true) : hR (wd b W) (b + ad 9 i g) 9 5 = some (b + ad 3 0 0) := by simp only [hR, at_9 h]; rfl
theorem o9_5 (h : vo 9 i g = true) (f : Nat → Option α) : ob (hR (wd b W) (b + ad 9 i g) 9 5) f = f (b + ad 3 0 0) := ob_i (r9_5 h)
theorem at_10 (h : vo 10 i g = true) : (wd b W).2 (b + ad 10 i g) = some (.inl (fd b W 10 i g)) := by rw [wd_at (ad_ok h).1, (ad_ok h).2]; rfl
theorem iO_10 (h : vo 10 i g = true) : iO (wd b W) (b + ad 10 i g) 10 = some () := by simp only [iO, at_10 h]; rfl
theorem oO_10 (h : vo 10 i g = true) (f : Unit → Option α) : ob (iO (wd b W) (b + ad 10 i g) 10) f = f () := ob_i (iO_10 h)
theorem r10_0 (h : vo 10 i g = true) : hR (wd b W) (b + ad 10 i g) 10 0 = some (b + aa 10 i g 0) := by simp only [hR, at_10 h]; rfl
theorem o10_0 (h : vo 10 i g = true) (f : Nat → Option α) : ob (hR (wd b W) (b + ad 10 i g) 10 0) f = f (b + aa 10 i g 0) := ob_i (r10_0 h)
theorem r10_1 (h : vo 10 i g = true) : hI (wd b W) (b + ad 10 i g) 10 1 = some (W.1 10 i g 1) := by simp only [hI, at_10 h]; rfl
theorem o10_1 (h : vo 10 i g = true) (f : Int32 → Option α) : ob (hI (wd b W) (b + ad 10 i g) 10 1) f = f (W.1 10 i g 1) := ob_i (r10_1 h)
theorem s10_1 (h : vo 10 i g = true) {v : Int32} : pI (wd b W) (b + ad 10 i g) 10 1 v = some (wd b (wsI W 10 i g 1 v)) := by
  unfold pI
  simp only [pV, at_10 h]
  rw [if_pos ⟨rfl, Nat.le_of_ble_eq_true rfl⟩]
  refine congrArg some (wd_up (ad_ok h).1 ?_ (by rw [(ad_ok h).2]; exact cel_wsI))
  rw [(ad_ok h).2]
  simp [cel, fd, wsI]
theorem p10_1 (h : vo 10 i g = true) {v : Int32} (f : AH → Option α) : ob (pI (wd b W) (b + ad 10 i g) 10 1 v) f = f (wd b (wsI W 10 i g 1 v)) := ob_i (s10_1 h)
theorem r10_2 (h : vo 10 i g = true) : hR (wd b W) (b + ad 10 i g) 10 2 = some (b + aa 10 i g 2) := by simp only [hR, at_10 h]; rfl
theorem o10_2 (h : vo 10 i g = true) (f : Nat → Option α) : ob (hR (wd b W) (b + ad 10 i g) 10 2) f = f (b + aa 10 i g 2) := ob_i (r10_2 h)
theorem r10_3 (h : vo 10 i g = true) : hI (wd b W) (b + ad 10 i g) 10 3 = some (W.1 10 i g 3) := by simp only [hI, at_10 h]; rfl
theorem o10_3 (h : vo 10 i g = true) (f : Int32 → Option α) : ob (hI (wd b W) (b + ad 10 i g) 10 3) f = f (W.1 10 i g 3) := ob_i (r10_3 h)
theorem s10_3 (h : vo 10 i g = true) {v : Int32} : pI (wd b W) (b + ad 10 i g) 10 3 v = some (wd b (wsI W 10 i g 3 v)) := by
  unfold pI
  simp only [pV, at_10 h]
  rw [if_pos ⟨rfl, Nat.le_of_ble_eq_true rfl⟩]
  refine congrArg some (wd_up (ad_ok h).1 ?_ (by rw [(ad_ok h).2]; exact cel_wsI))
  rw [(ad_ok h).2]
  simp [cel, fd, wsI]
theorem p10_3 (h : vo 10 i g = true) {v : Int32} (f : AH → Option α) : ob (pI (wd b W) (b + ad 10 i g) 10 3 v) f = f (wd b (wsI W 10 i g 3 v)) := ob_i (s10_3 h)
theorem r10_4 (h : vo 10 i g = true) : hR (wd b W) (b + ad 10 i g) 10 4 = some (b + aa 10 i g 4) := by simp only [hR, at_10 h]; rfl
theorem o10_4 (h : vo 10 i g = true) (f : Nat → Option α) : ob (hR (wd b W) (b + ad 10 i g) 10 4) f = f (b + aa 10 i g 4) := ob_i (r10_4 h)
theorem r10_5 (h : vo 10 i g = true) : hR (wd b W) (b + ad 10 i g) 10 5 = some (b + aa 10 i g 5) := by simp only [hR, at_10 h]; rfl
theorem o10_5 (h : vo 10 i g = true) (f : Nat → Option α) : ob (hR (wd b W) (b + ad 10 i g) 10 5) f = f (b + aa 10 i g 5) := ob_i (r10_5 h)
theorem r10_6 (h : vo 10 i g = true) : hR (wd b W) (b + ad 10 i g) 10 6 = some (b + aa 10 i g 6) := by simp only [hR, at_10 h]; rfl
theorem o10_6 (h : vo 10 i g = true) (f : Nat → Option α) : ob (hR (wd b W) (b + ad 10 i g) 10 6) f = f (b + aa 10 i g 6) := ob_i (r10_6 h)
theorem r10_7 (h : vo 10 i g = true) : hI (wd b W) (b + ad 10 i g) 10 7 = some (W.1 10 i g 7) := by simp only [hI, at_10 h]; rfl
theorem o10_7 (h : vo 10 i g = true) (f : Int32 → Option α) : ob (hI (wd b W) (b + ad 10 i g) 10 7) f = f (W.1 10 i g 7) := ob_i (r10_7 h)
theorem s10_7 (h : vo 10 i g = true) {v : Int32} : pI (wd b W) (b + ad 10 i g) 10 7 v = some (wd b (wsI W 10 i g 7 v)) := by
  unfold pI
  simp only [pV, at_10 h]
  rw [if_pos ⟨rfl, Nat.le_of_ble_eq_true rfl⟩]
  refine congrArg some (wd_up (ad_ok h).1 ?_ (by rw [(ad_ok h).2]; exact cel_wsI))
  rw [(ad_ok h).2]
  simp [cel, fd, wsI]
theorem p10_7 (h : vo 10 i g = true) {v : Int32} (f : AH → Option α) : ob (pI (wd b W) (b + ad 10 i g) 10 7 v) f = f (wd b (wsI W 10 i g 7 v)) := ob_i (s10_7 h)
theorem r10_8 (h : vo 10 i g = true) : hI (wd b W) (b + ad 10 i g) 10 8 = some (W.1 10 i g 8) := by simp only [hI, at_10 h]; rfl
theorem o10_8 (h : vo 10 i g = true) (f : Int32 → Option α) : ob (hI (wd b W) (b + ad 10 i g) 10 8) f = f (W.1 10 i g 8) := ob_i (r10_8 h)
theorem s10_8 (h : vo 10 i g = true) {v : Int32} (hv : v = 0 ∨ v = 1) : pZ (wd b W) (b + ad 10 i g) 10 8 v = some (wd b (wsI W 10 i g 8 v)) := by
  unfold pZ
  rw [if_pos hv]
  simp only [pV, at_10 h]
  rw [if_pos ⟨rfl, Nat.le_of_ble_eq_true rfl⟩]
  refine congrArg some (wd_up (ad_ok h).1 ?_ (by rw [(ad_ok h).2]; exact cel_wsI))
  rw [(ad_ok h).2]
  simp [cel, fd, wsI]
theorem p10_8 (h : vo 10 i g = true) {v : Int32} (hv : v = 0 ∨ v = 1) (f : AH → Option α) : ob (pZ (wd b W) (b + ad 10 i g) 10 8 v) f = f (wd b (wsI W 10 i g 8 v)) := ob_i (s10_8 h hv)
theorem r10_9 (h : vo 10 i g = true) : hR (wd b W) (b + ad 10 i g) 10 9 = some (b + aa 10 i g 9) := by simp only [hR, at_10 h]; rfl
theorem o10_9 (h : vo 10 i g = true) (f : Nat → Option α) : ob (hR (wd b W) (b + ad 10 i g) 10 9) f = f (b + aa 10 i g 9) := ob_i (r10_9 h)
theorem r10_10 (h : vo 10 i g = true) : hI (wd b W) (b + ad 10 i g) 10 10 = some (W.1 10 i g 10) := by simp only [hI, at_10 h]; rfl
theorem o10_10 (h : vo 10 i g = true) (f : Int32 → Option α) : ob (hI (wd b W) (b + ad 10 i g) 10 10) f = f (W.1 10 i g 10) := ob_i (r10_10 h)
theorem s10_10 (h : vo 10 i g = true) {v : Int32} : pI (wd b W) (b + ad 10 i g) 10 10 v = some (wd b (wsI W 10 i g 10 v)) := by
  unfold pI
  simp only [pV, at_10 h]
  rw [if_pos ⟨rfl, Nat.le_of_ble_eq_true rfl⟩]
  refine congrArg some (wd_up (ad_ok h).1 ?_ (by rw [(ad_ok h).2]; exact cel_wsI))
  rw [(ad_ok h).2]
  simp [cel, fd, wsI]
theorem p10_10 (h : vo 10 i g = true) {v : Int32} (f : AH → Option α) : ob (pI (wd b W) (b + ad 10 i g) 10 10 v) f = f (wd b (wsI W 10 i g 10 v)) := ob_i (s10_10 h)
theorem r10_11 (h : vo 10 i g = true) : hR (wd b W) (b + ad 10 i g) 10 11 = some (b + aa 10 i g 11) := by simp only [hR, at_10 h]; rfl
theorem o10_11 (h : vo 10 i g = true) (f : Nat → Option α) : ob (hR (wd b W) (b + ad 10 i g) 10 11) f = f (b + aa 10 i g 11) := ob_i (r10_11 h)
theorem r10_12 (h : vo 10 i g = true) : hR (wd b W) (b + ad 10 i g) 10 12 = some (b + aa 10 i g 12) := by simp only [hR, at_10 h]; rfl
theorem o10_12 (h : vo 10 i g = true) (f : Nat → Option α) : ob (hR (wd b W) (b + ad 10 i g) 10 12) f = f (b + aa 10 i g 12) := ob_i (r10_12 h)
theorem r10_13 (h : vo 10 i g = true) : hR (wd b W) (b + ad 10 i g) 10 13 = some (b + aa 10 i g 13) := by simp only [hR, at_10 h]; rfl
theorem o10_13 (h : vo 10 i g = true) (f : Nat → Option α) : ob (hR (wd b W) (b + ad 10 i g) 10 13) f = f (b + aa 10 i g 13) := ob_i (r10_13 h)
theorem r10_14 (h : vo 10 i g = true) : hR (wd b W) (b + ad 10 i g) 10 14 = some (b + aa 10 i g 14) := by simp only [hR, at_10 h]; rfl
theorem o10_14 (h : vo 10 i g = true) (f : Nat → Option α) : ob (hR (wd b W) (b + ad 10 i g) 10 14) f = f (b + aa 10 i g 14) := ob_i (r10_14 h)
theorem r10_15 (h : vo 10 i g = true) : hI (wd b W) (b + ad 10 i g) 10 15 = some (W.1 10 i g 15) := by simp only [hI, at_10 h]; rfl
theorem o10_15 (h : vo 10 i g = true) (f : Int32 → Option α) : ob (hI (wd b W) (b + ad 10 i g) 10 15) f = f (W.1 10 i g 15) := ob_i (r10_15 h)
theorem s10_15 (h : vo 10 i g = true) {v : Int32} : pI (wd b W) (b + ad 10 i g) 10 15 v = some (wd b (wsI W 10 i g 15 v)) := by
  unfold pI
  simp only [pV, at_10 h]
  rw [if_pos ⟨rfl, Nat.le_of_ble_eq_true rfl⟩]
  refine congrArg some (wd_up (ad_ok h).1 ?_ (by rw [(ad_ok h).2]; exact cel_wsI))
  rw [(ad_ok h).2]
  simp [cel, fd, wsI]
theorem p10_15 (h : vo 10 i g = true) {v : Int32} (f : AH → Option α) : ob (pI (wd b W) (b + ad 10 i g) 10 15 v) f = f (wd b (wsI W 10 i g 15 v)) := ob_i (s10_15 h)
theorem r10_16 (h : vo 10 i g = true) : hI (wd b W) (b + ad 10 i g) 10 16 = some (W.1 10 i g 16) := by simp only [hI, at_10 h]; rfl
theorem o10_16 (h : vo 10 i g = true) (f : Int32 → Option α) : ob (hI (wd b W) (b + ad 10 i g) 10 16) f = f (W.1 10 i g 16) := ob_i (r10_16 h)
theorem s10_16 (h : vo 10 i g = true) {v : Int32} : pI (wd b W) (b + ad 10 i g) 10 16 v = some (wd b (wsI W 10 i g 16 v)) := by
  unfold pI
  simp only [pV, at_10 h]
  rw [if_pos ⟨rfl, Nat.le_of_ble_eq_true rfl⟩]
  refine congrArg some (wd_up (ad_ok h).1 ?_ (by rw [(ad_ok h).2]; exact cel_wsI))
  rw [(ad_ok h).2]
  simp [cel, fd, wsI]
theorem p10_16 (h : vo 10 i g = true) {v : Int32} (f : AH → Option α) : ob (pI (wd b W) (b + ad 10 i g) 10 16 v) f = f (wd b (wsI W 10 i g 16 v)) := ob_i (s10_16 h)
theorem r10_17 (h : vo 10 i g = true) : hI (wd b W) (b + ad 10 i g) 10 17 = some (W.1 10 i g 17) := by simp only [hI, at_10 h]; rfl
theorem o10_17 (h : vo 10 i g = true) (f : Int32 → Option α) : ob (hI (wd b W) (b + ad 10 i g) 10 17) f = f (W.1 10 i g 17) := ob_i (r10_17 h)
theorem s10_17 (h : vo 10 i g = true) {v : Int32} (hv : v = 0 ∨ v = 1) : pZ (wd b W) (b + ad 10 i g) 10 17 v = some (wd b (wsI W 10 i g 17 v)) := by
  unfold pZ
  rw [if_pos hv]
  simp only [pV, at_10 h]
  rw [if_pos ⟨rfl, Nat.le_of_ble_eq_true rfl⟩]
  refine congrArg some (wd_up (ad_ok h).1 ?_ (by rw [(ad_ok h).2]; exact cel_wsI))
  rw [(ad_ok h).2]
  simp [cel, fd, wsI]
theorem p10_17 (h : vo 10 i g = true) {v : Int32} (hv : v = 0 ∨ v = 1) (f : AH → Option α) : ob (pZ (wd b W) (b + ad 10 i g) 10 17 v) f = f (wd b (wsI W 10 i g 17 v)) := ob_i (s10_17 h hv)
theorem r10_18 (h : vo 10 i g = true) : hR (wd b W) (b + ad 10 i g) 10 18 = some (b + aa 10 i g 18) := by simp only [hR, at_10 h]; rfl
theorem o10_18 (h : vo 10 i g = true) (f : Nat → Option α) : ob (hR (wd b W) (b + ad 10 i g) 10 18) f = f (b + aa 10 i g 18) := ob_i (r10_18 h)
theorem r10_19 (h : vo 10 i g = true) : hJ (wd b W) (b + ad 10 i g) 10 19 = some (W.2.2 10 i g 19 0) := by simp only [hJ, at_10 h]; rfl
theorem o10_19 (h : vo 10 i g = true) (f : Int64 → Option α) : ob (hJ (wd b W) (b + ad 10 i g) 10 19) f = f (W.2.2 10 i g 19 0) := ob_i (r10_19 h)
theorem s10_19 (h : vo 10 i g = true) {v : Int64} : pJ (wd b W) (b + ad 10 i g) 10 19 v = some (wd b (wsL W 10 i g 19 (fun _ => v))) := by
  unfold pJ
  simp only [pV, at_10 h]
  rw [if_pos ⟨rfl, Nat.le_of_ble_eq_true rfl⟩]
  refine congrArg some (wd_up (ad_ok h).1 ?_ (fun d hd => ?_))
  · rw [(ad_ok h).2]
    simp [cel, fd, wsL]
  · rw [(ad_ok h).2] at hd
    obtain ⟨c', i', g', k'⟩ := d
    by_cases hk : (c', i', g', k') = (10, i, g, 20)
    · cases hk
      rfl
    · exact cel_wsL _ hk hd
theorem p10_19 (h : vo 10 i g = true) {v : Int64} (f : AH → Option α) : ob (pJ (wd b W) (b + ad 10 i g) 10 19 v) f = f (wd b (wsL W 10 i g 19 (fun _ => v))) := ob_i (s10_19 h)
theorem q10_0 (h : vo 10 i g = true) : (wd b W).2 (b + aa 10 i g 0) = some (arr b W 10 i g 0) := by rw [wd_at (aa_10_0 h).1, (aa_10_0 h).2]; rfl
theorem a10_0 (h : vo 10 i g = true) {x : Nat} (hx : x < 9456) : aI (wd b W) (b + aa 10 i g 0) (nI x) = some (W.2.1 10 i g 0 x) := by
  have e1 : (nI x).toNatClampNeg = x := nI_clamp (by omega)
  have e2 : ¬ (nI x < 0 ∨ 9456 ≤ (nI x).toNatClampNeg) := nI_in hx (by omega)
  rw [e1] at e2
  simp only [aI, q10_0 h, arr, if_neg e2, e1]
theorem oa10_0 (h : vo 10 i g = true) {x : Nat} (hx : x < 9456) (f : Int32 → Option α) : ob (aI (wd b W) (b + aa 10 i g 0) (nI x)) f = f (W.2.1 10 i g 0 x) := ob_i (a10_0 h hx)
theorem t10_0 (h : vo 10 i g = true) {x : Nat} (hx : x < 9456) {v : Int32} : sI (wd b W) (b + aa 10 i g 0) (nI x) v = some (wd b (wsA W 10 i g 0 (upd (W.2.1 10 i g 0) x v))) := by
  have e1 : (nI x).toNatClampNeg = x := nI_clamp (by omega)
  have e2 : ¬ (nI x < 0 ∨ 9456 ≤ (nI x).toNatClampNeg) := nI_in hx (by omega)
  rw [e1] at e2
  simp only [sI, q10_0 h, arr, if_neg e2, e1]
  refine congrArg some (wd_up (aa_10_0 h).1 ?_ (by rw [(aa_10_0 h).2]; exact cel_wsA))
  rw [(aa_10_0 h).2]
  simp [cel, arr, wsA]
theorem ot10_0 (h : vo 10 i g = true) {x : Nat} (hx : x < 9456) {v : Int32} (f : AH → Option α) : ob (sI (wd b W) (b + aa 10 i g 0) (nI x) v) f = f (wd b (wsA W 10 i g 0 (upd (W.2.1 10 i g 0) x v))) := ob_i (t10_0 h hx)
theorem q10_2 (h : vo 10 i g = true) : (wd b W).2 (b + aa 10 i g 2) = some (arr b W 10 i g 2) := by rw [wd_at (aa_10_2 h).1, (aa_10_2 h).2]; rfl
theorem a10_2 (h : vo 10 i g = true) {x : Nat} (hx : x < 120) : aI (wd b W) (b + aa 10 i g 2) (nI x) = some (W.2.1 10 i g 2 x) := by
  have e1 : (nI x).toNatClampNeg = x := nI_clamp (by omega)
  have e2 : ¬ (nI x < 0 ∨ 120 ≤ (nI x).toNatClampNeg) := nI_in hx (by omega)
  rw [e1] at e2
  simp only [aI, q10_2 h, arr, if_neg e2, e1]
theorem oa10_2 (h : vo 10 i g = true) {x : Nat} (hx : x < 120) (f : Int32 → Option α) : ob (aI (wd b W) (b + aa 10 i g 2) (nI x)) f = f (W.2.1 10 i g 2 x) := ob_i (a10_2 h hx)
theorem t10_2 (h : vo 10 i g = true) {x : Nat} (hx : x < 120) {v : Int32} : sI (wd b W) (b + aa 10 i g 2) (nI x) v = some (wd b (wsA W 10 i g 2 (upd (W.2.1 10 i g 2) x v))) := by
  have e1 : (nI x).toNatClampNeg = x := nI_clamp (by omega)
  have e2 : ¬ (nI x < 0 ∨ 120 ≤ (nI x).toNatClampNeg) := nI_in hx (by omega)
  rw [e1] at e2
  simp only [sI, q10_2 h, arr, if_neg e2, e1]
  refine congrArg some (wd_up (aa_10_2 h).1 ?_ (by rw [(aa_10_2 h).2]; exact cel_wsA))
  rw [(aa_10_2 h).2]
  simp [cel, arr, wsA]
theorem ot10_2 (h : vo 10 i g = true) {x : Nat} (hx : x < 120) {v : Int32} (f : AH → Option α) : ob (sI (wd b W) (b + aa 10 i g 2) (nI x) v) f = f (wd b (wsA W 10 i g 2 (upd (W.2.1 10 i g 2) x v))) := ob_i (t10_2 h hx)
theorem q10_4 (h : vo 10 i g = true) : (wd b W).2 (b + aa 10 i g 4) = some (arr b W 10 i g 4) := by rw [wd_at (aa_10_4 h).1, (aa_10_4 h).2]; rfl
theorem a10_4 (h : vo 10 i g = true) {x : Nat} (hx : x < 16) : aI (wd b W) (b + aa 10 i g 4) (nI x) = some (W.2.1 10 i g 4 x) := by
  have e1 : (nI x).toNatClampNeg = x := nI_clamp (by omega)
  have e2 : ¬ (nI x < 0 ∨ 16 ≤ (nI x).toNatClampNeg) := nI_in hx (by omega)
  rw [e1] at e2
  simp only [aI, q10_4 h, arr, if_neg e2, e1]
theorem oa10_4 (h : vo 10 i g = true) {x : Nat} (hx : x < 16) (f : Int32 → Option α) : ob (aI (wd b W) (b + aa 10 i g 4) (nI x)) f = f (W.2.1 10 i g 4 x) := ob_i (a10_4 h hx)
theorem t10_4 (h : vo 10 i g = true) {x : Nat} (hx : x < 16) {v : Int32} : sI (wd b W) (b + aa 10 i g 4) (nI x) v = some (wd b (wsA W 10 i g 4 (upd (W.2.1 10 i g 4) x v))) := by
  have e1 : (nI x).toNatClampNeg = x := nI_clamp (by omega)
  have e2 : ¬ (nI x < 0 ∨ 16 ≤ (nI x).toNatClampNeg) := nI_in hx (by omega)
  rw [e1] at e2
  simp only [sI, q10_4 h, arr, if_neg e2, e1]
  refine congrArg some (wd_up (aa_10_4 h).1 ?_ (by rw [(aa_10_4 h).2]; exact cel_wsA))
  rw [(aa_10_4 h).2]
  simp [cel, arr, wsA]
theorem ot10_4 (h : vo 10 i g = true) {x : Nat} (hx : x < 16) {v : Int32} (f : AH → Option α) : ob (sI (wd b W) (b + aa 10 i g 4) (nI x) v) f = f (wd b (wsA W 10 i g 4 (upd (W.2.1 10 i g 4) x v))) := ob_i (t10_4 h hx)
theorem q10_5 (h : vo 10 i g = true) : (wd b W).2 (b + aa 10 i g 5) = some (arr b W 10 i g 5) := by rw [wd_at (aa_10_5 h).1, (aa_10_5 h).2]; rfl
theorem a10_5 (h : vo 10 i g = true) {x : Nat} (hx : x < 16) : aI (wd b W) (b + aa 10 i g 5) (nI x) = some (W.2.1 10 i g 5 x) := by
  have e1 : (nI x).toNatClampNeg = x := nI_clamp (by omega)
  have e2 : ¬ (nI x < 0 ∨ 16 ≤ (nI x).toNatClampNeg) := nI_in hx (by omega)
  rw [e1] at e2
  simp only [aI, q10_5 h, arr, if_neg e2, e1]
theorem oa10_5 (h : vo 10 i g = true) {x : Nat} (hx : x < 16) (f : Int32 → Option α) : ob (aI (wd b W) (b + aa 10 i g 5) (nI x)) f = f (W.2.1 10 i g 5 x) := ob_i (a10_5 h hx)
theorem t10_5 (h : vo 10 i g = true) {x : Nat} (hx : x < 16) {v : Int32} : sI (wd b W) (b + aa 10 i g 5) (nI x) v = some (wd b (wsA W 10 i g 5 (upd (W.2.1 10 i g 5) x v))) := by
  have e1 : (nI x).toNatClampNeg = x := nI_clamp (by omega)
  have e2 : ¬ (nI x < 0 ∨ 16 ≤ (nI x).toNatClampNeg) := nI_in hx (by omega)
  rw [e1] at e2
  simp only [sI, q10_5 h, arr, if_neg e2, e1]
  refine congrArg some (wd_up (aa_10_5 h).1 ?_ (by rw [(aa_10_5 h).2]; exact cel_wsA))
  rw [(aa_10_5 h).2]
  simp [cel, arr, wsA]
theorem ot10_5 (h : vo 10 i g = true) {x : Nat} (hx : x < 16) {v : Int32} (f : AH → Option α) : ob (sI (wd b W) (b + aa 10 i g 5) (nI x) v) f = f (wd b (wsA W 10 i g 5 (upd (W.2.1 10 i g 5) x v))) := ob_i (t10_5 h hx)
theorem q10_6 (h : vo 10 i g = true) : (wd b W).2 (b + aa 10 i g 6) = some (arr b W 10 i g 6) := by rw [wd_at (aa_10_6 h).1, (aa_10_6 h).2]; rfl
theorem a10_6 (h : vo 10 i g = true) {x : Nat} (hx : x < 12) : aI (wd b W) (b + aa 10 i g 6) (nI x) = some (W.2.1 10 i g 6 x) := by
  have e1 : (nI x).toNatClampNeg = x := nI_clamp (by omega)
  have e2 : ¬ (nI x < 0 ∨ 12 ≤ (nI x).toNatClampNeg) := nI_in hx (by omega)
  rw [e1] at e2
  simp only [aI, q10_6 h, arr, if_neg e2, e1]
theorem oa10_6 (h : vo 10 i g = true) {x : Nat} (hx : x < 12) (f : Int32 → Option α) : ob (aI (wd b W) (b + aa 10 i g 6) (nI x)) f = f (W.2.1 10 i g 6 x) := ob_i (a10_6 h hx)
theorem t10_6 (h : vo 10 i g = true) {x : Nat} (hx : x < 12) {v : Int32} : sI (wd b W) (b + aa 10 i g 6) (nI x) v = some (wd b (wsA W 10 i g 6 (upd (W.2.1 10 i g 6) x v))) := by
  have e1 : (nI x).toNatClampNeg = x := nI_clamp (by omega)
  have e2 : ¬ (nI x < 0 ∨ 12 ≤ (nI x).toNatClampNeg) := nI_in hx (by omega)
  rw [e1] at e2
  simp only [sI, q10_6 h, arr, if_neg e2, e1]
  refine congrArg some (wd_up (aa_10_6 h).1 ?_ (by rw [(aa_10_6 h).2]; exact cel_wsA))
  rw [(aa_10_6 h).2]
  simp [cel, arr, wsA]
theorem ot10_6 (h : vo 10 i g = true) {x : Nat} (hx : x < 12) {v : Int32} (f : AH → Option α) : ob (sI (wd b W) (b + aa 10 i g 6) (nI x) v) f = f (wd b (wsA W 10 i g 6 (upd (W.2.1 10 i g 6) x v))) := ob_i (t10_6 h hx)
theorem q10_9 (h : vo 10 i g = true) : (wd b W).2 (b + aa 10 i g 9) = some (arr b W 10 i g 9) := by rw [wd_at (aa_10_9 h).1, (aa_10_9 h).2]; rfl
theorem a10_9 (h : vo 10 i g = true) {x : Nat} (hx : x < 4) : aI (wd b W) (b + aa 10 i g 9) (nI x) = some (W.2.1 10 i g 9 x) := by
  have e1 : (nI x).toNatClampNeg = x := nI_clamp (by omega)
  have e2 : ¬ (nI x < 0 ∨ 4 ≤ (nI x).toNatClampNeg) := nI_in hx (by omega)
  rw [e1] at e2
  simp only [aI, q10_9 h, arr, if_neg e2, e1]
theorem oa10_9 (h : vo 10 i g = true) {x : Nat} (hx : x < 4) (f : Int32 → Option α) : ob (aI (wd b W) (b + aa 10 i g 9) (nI x)) f = f (W.2.1 10 i g 9 x) := ob_i (a10_9 h hx)
theorem t10_9 (h : vo 10 i g = true) {x : Nat} (hx : x < 4) {v : Int32} : sI (wd b W) (b + aa 10 i g 9) (nI x) v = some (wd b (wsA W 10 i g 9 (upd (W.2.1 10 i g 9) x v))) := by
  have e1 : (nI x).toNatClampNeg = x := nI_clamp (by omega)
  have e2 : ¬ (nI x < 0 ∨ 4 ≤ (nI x).toNatClampNeg) := nI_in hx (by omega)
  rw [e1] at e2
  simp only [sI, q10_9 h, arr, if_neg e2, e1]
  refine congrArg some (wd_up (aa_10_9 h).1 ?_ (by rw [(aa_10_9 h).2]; exact cel_wsA))
  rw [(aa_10_9 h).2]
  simp [cel, arr, wsA]
theorem ot10_9 (h : vo 10 i g = true) {x : Nat} (hx : x < 4) {v : Int32} (f : AH → Option α) : ob (sI (wd b W) (b + aa 10 i g 9) (nI x) v) f = f (wd b (wsA W 10 i g 9 (upd (W.2.1 10 i g 9) x v))) := ob_i (t10_9 h hx)
theorem q10_11 (h : vo 10 i g = true) : (wd b W).2 (b + aa 10 i g 11) = some (arr b W 10 i g 11) := by rw [wd_at (aa_10_11 h).1, (aa_10_11 h).2]; rfl
theorem a10_11 (h : vo 10 i g = true) {x : Nat} (hx : x < 12) : aJ (wd b W) (b + aa 10 i g 11) (nI x) = some (W.2.2 10 i g 11 x) := by
  have e1 : (nI x).toNatClampNeg = x := nI_clamp (by omega)
  have e2 : ¬ (nI x < 0 ∨ 12 ≤ (nI x).toNatClampNeg) := nI_in hx (by omega)
  rw [e1] at e2
  simp only [aJ, q10_11 h, arr, if_neg e2, e1]
theorem oa10_11 (h : vo 10 i g = true) {x : Nat} (hx : x < 12) (f : Int64 → Option α) : ob (aJ (wd b W) (b + aa 10 i g 11) (nI x)) f = f (W.2.2 10 i g 11 x) := ob_i (a10_11 h hx)
theorem t10_11 (h : vo 10 i g = true) {x : Nat} (hx : x < 12) {v : Int64} : sJ (wd b W) (b + aa 10 i g 11) (nI x) v = some (wd b (wsL W 10 i g 11 (vp_updL (W.2.2 10 i g 11) x v))) := by
  have e1 : (nI x).toNatClampNeg = x := nI_clamp (by omega)
  have e2 : ¬ (nI x < 0 ∨ 12 ≤ (nI x).toNatClampNeg) := nI_in hx (by omega)
  rw [e1] at e2
  simp only [sJ, q10_11 h, arr, if_neg e2, e1]
  refine congrArg some (wd_up (aa_10_11 h).1 ?_ (fun d hd => ?_))
  · rw [(aa_10_11 h).2]
    simp [cel, arr, wsL]
  · rw [(aa_10_11 h).2] at hd
    by_cases h0 : d = (10, i, g, 0)
    · subst h0
      first | rfl | simp [cel, fd, wsL]
    · exact cel_wsL _ hd h0
theorem ot10_11 (h : vo 10 i g = true) {x : Nat} (hx : x < 12) {v : Int64} (f : AH → Option α) : ob (sJ (wd b W) (b + aa 10 i g 11) (nI x) v) f = f (wd b (wsL W 10 i g 11 (vp_updL (W.2.2 10 i g 11) x v))) := ob_i (t10_11 h hx)
theorem q10_12 (h : vo 10 i g = true) : (wd b W).2 (b + aa 10 i g 12) = some (arr b W 10 i g 12) := by rw [wd_at (aa_10_12 h).1, (aa_10_12 h).2]; rfl
theorem a10_12 (h : vo 10 i g = true) {x : Nat} (hx : x < 12) : aJ (wd b W) (b + aa 10 i g 12) (nI x) = some (W.2.2 10 i g 12 x) := by
  have e1 : (nI x).toNatClampNeg = x := nI_clamp (by omega)
  have e2 : ¬ (nI x < 0 ∨ 12 ≤ (nI x).toNatClampNeg) := nI_in hx (by omega)
  rw [e1] at e2
  simp only [aJ, q10_12 h, arr, if_neg e2, e1]
theorem oa10_12 (h : vo 10 i g = true) {x : Nat} (hx : x < 12) (f : Int64 → Option α) : ob (aJ (wd b W) (b + aa 10 i g 12) (nI x)) f = f (W.2.2 10 i g 12 x) := ob_i (a10_12 h hx)
theorem t10_12 (h : vo 10 i g = true) {x : Nat} (hx : x < 12) {v : Int64} : sJ (wd b W) (b + aa 10 i g 12) (nI x) v = some (wd b (wsL W 10 i g 12 (vp_updL (W.2.2 10 i g 12) x v))) := by
  have e1 : (nI x).toNatClampNeg = x := nI_clamp (by omega)
  have e2 : ¬ (nI x < 0 ∨ 12 ≤ (nI x).toNatClampNeg) := nI_in hx (by omega)
  rw [e1] at e2
  simp only [sJ, q10_12 h, arr, if_neg e2, e1]
  refine congrArg some (wd_up (aa_10_12 h).1 ?_ (fun d hd => ?_))
  · rw [(aa_10_12 h).2]
    simp [cel, arr, wsL]
  · rw [(aa_10_12 h).2] at hd
    by_cases h0 : d = (10, i, g, 0)
    · subst h0
      first | rfl | simp [cel, fd, wsL]
    · exact cel_wsL _ hd h0
theorem ot10_12 (h : vo 10 i g = true) {x : Nat} (hx : x < 12) {v : Int64} (f : AH → Option α) : ob (sJ (wd b W) (b + aa 10 i g 12) (nI x) v) f = f (wd b (wsL W 10 i g 12 (vp_updL (W.2.2 10 i g 12) x v))) := ob_i (t10_12 h hx)
theorem q10_13 (h : vo 10 i g = true) : (wd b W).2 (b + aa 10 i g 13) = some (arr b W 10 i g 13) := by rw [wd_at (aa_10_13 h).1, (aa_10_13 h).2]; rfl
theorem a10_13 (h : vo 10 i g = true) {x : Nat} (hx : x < 12) : aI (wd b W) (b + aa 10 i g 13) (nI x) = some (W.2.1 10 i g 13 x) := by
  have e1 : (nI x).toNatClampNeg = x := nI_clamp (by omega)
  have e2 : ¬ (nI x < 0 ∨ 12 ≤ (nI x).toNatClampNeg) := nI_in hx (by omega)
  rw [e1] at e2
  simp only [aI, q10_13 h, arr, if_neg e2, e1]
theorem oa10_13 (h : vo 10 i g = true) {x : Nat} (hx : x < 12) (f : Int32 → Option α) : ob (aI (wd b W) (b + aa 10 i g 13) (nI x)) f = f (W.2.1 10 i g 13 x) := ob_i (a10_13 h hx)
theorem t10_13 (h : vo 10 i g = true) {x : Nat} (hx : x < 12) {v : Int32} : sI (wd b W) (b + aa 10 i g 13) (nI x) v = some (wd b (wsA W 10 i g 13 (upd (W.2.1 10 i g 13) x v))) := by
  have e1 : (nI x).toNatClampNeg = x := nI_clamp (by omega)
  have e2 : ¬ (nI x < 0 ∨ 12 ≤ (nI x).toNatClampNeg) := nI_in hx (by omega)
  rw [e1] at e2
  simp only [sI, q10_13 h, arr, if_neg e2, e1]
  refine congrArg some (wd_up (aa_10_13 h).1 ?_ (by rw [(aa_10_13 h).2]; exact cel_wsA))
  rw [(aa_10_13 h).2]
  simp [cel, arr, wsA]
theorem ot10_13 (h : vo 10 i g = true) {x : Nat} (hx : x < 12) {v : Int32} (f : AH → Option α) : ob (sI (wd b W) (b + aa 10 i g 13) (nI x) v) f = f (wd b (wsA W 10 i g 13 (upd (W.2.1 10 i g 13) x v))) := ob_i (t10_13 h hx)
theorem q10_14 (h : vo 10 i g = true) : (wd b W).2 (b + aa 10 i g 14) = some (arr b W 10 i g 14) := by rw [wd_at (aa_10_14 h).1, (aa_10_14 h).2]; rfl
theorem a10_14 (h : vo 10 i g = true) {x : Nat} (hx : x < 192) : aI (wd b W) (b + aa 10 i g 14) (nI x) = some (W.2.1 10 i g 14 x) := by
  have e1 : (nI x).toNatClampNeg = x := nI_clamp (by omega)
  have e2 : ¬ (nI x < 0 ∨ 192 ≤ (nI x).toNatClampNeg) := nI_in hx (by omega)
  rw [e1] at e2
  simp only [aI, q10_14 h, arr, if_neg e2, e1]
theorem oa10_14 (h : vo 10 i g = true) {x : Nat} (hx : x < 192) (f : Int32 → Option α) : ob (aI (wd b W) (b + aa 10 i g 14) (nI x)) f = f (W.2.1 10 i g 14 x) := ob_i (a10_14 h hx)
theorem t10_14 (h : vo 10 i g = true) {x : Nat} (hx : x < 192) {v : Int32} : sI (wd b W) (b + aa 10 i g 14) (nI x) v = some (wd b (wsA W 10 i g 14 (upd (W.2.1 10 i g 14) x v))) := by
  have e1 : (nI x).toNatClampNeg = x := nI_clamp (by omega)
  have e2 : ¬ (nI x < 0 ∨ 192 ≤ (nI x).toNatClampNeg) := nI_in hx (by omega)
  rw [e1] at e2
  simp only [sI, q10_14 h, arr, if_neg e2, e1]
  refine congrArg some (wd_up (aa_10_14 h).1 ?_ (by rw [(aa_10_14 h).2]; exact cel_wsA))
  rw [(aa_10_14 h).2]
  simp [cel, arr, wsA]
theorem ot10_14 (h : vo 10 i g = true) {x : Nat} (hx : x < 192) {v : Int32} (f : AH → Option α) : ob (sI (wd b W) (b + aa 10 i g 14) (nI x) v) f = f (wd b (wsA W 10 i g 14 (upd (W.2.1 10 i g 14) x v))) := ob_i (t10_14 h hx)
theorem q10_18 (h : vo 10 i g = true) : (wd b W).2 (b + aa 10 i g 18) = some (arr b W 10 i g 18) := by rw [wd_at (aa_10_18 h).1, (aa_10_18 h).2]; rfl
theorem a10_18 (h : vo 10 i g = true) {x : Nat} (hx : x < 4) : aI (wd b W) (b + aa 10 i g 18) (nI x) = some (W.2.1 10 i g 18 x) := by
  have e1 : (nI x).toNatClampNeg = x := nI_clamp (by omega)
  have e2 : ¬ (nI x < 0 ∨ 4 ≤ (nI x).toNatClampNeg) := nI_in hx (by omega)
  rw [e1] at e2
  simp only [aI, q10_18 h, arr, if_neg e2, e1]
theorem oa10_18 (h : vo 10 i g = true) {x : Nat} (hx : x < 4) (f : Int32 → Option α) : ob (aI (wd b W) (b + aa 10 i g 18) (nI x)) f = f (W.2.1 10 i g 18 x) := ob_i (a10_18 h hx)
theorem t10_18 (h : vo 10 i g = true) {x : Nat} (hx : x < 4) {v : Int32} : sI (wd b W) (b + aa 10 i g 18) (nI x) v = some (wd b (wsA W 10 i g 18 (upd (W.2.1 10 i g 18) x v))) := by
  have e1 : (nI x).toNatClampNeg = x := nI_clamp (by omega)
  have e2 : ¬ (nI x < 0 ∨ 4 ≤ (nI x).toNatClampNeg) := nI_in hx (by omega)
  rw [e1] at e2
  simp only [sI, q10_18 h, arr, if_neg e2, e1]
  refine congrArg some (wd_up (aa_10_18 h).1 ?_ (by rw [(aa_10_18 h).2]; exact cel_wsA))
  rw [(aa_10_18 h).2]
  simp [cel, arr, wsA]
theorem ot10_18 (h : vo 10 i g = true) {x : Nat} (hx : x < 4) {v : Int32} (f : AH → Option α) : ob (sI (wd b W) (b + aa 10 i g 18) (nI x) v) f = f (wd b (wsA W 10 i g 18 (upd (W.2.1 10 i g 18) x v))) := ob_i (t10_18 h hx)
theorem at_11 (h : vo 11 i g = true) : (wd b W).2 (b + ad 11 i g) = some (.inl (fd b W 11 i g)) := by rw [wd_at (ad_ok h).1, (ad_ok h).2]; rfl
theorem iO_11 (h : vo 11 i g = true) : iO (wd b W) (b + ad 11 i g) 1 = some () := by simp only [iO, at_11 h]; rfl
theorem oO_11 (h : vo 11 i g = true) (f : Unit → Option α) : ob (iO (wd b W) (b + ad 11 i g) 1) f = f () := ob_i (iO_11 h)
theorem r11_0 (h : vo 11 i g = true) : hI (wd b W) (b + ad 11 i g) 1 0 = some (W.1 11 i g 0) := by simp only [hI, at_11 h]; rfl
theorem o11_0 (h : vo 11 i g = true) (f : Int32 → Option α) : ob (hI (wd b W) (b + ad 11 i g) 1 0) f = f (W.1 11 i g 0) := ob_i (r11_0 h)
theorem s11_0 (h : vo 11 i g = true) {v : Int32} : pI (wd b W) (b + ad 11 i g) 1 0 v = some (wd b (wsI W 11 i g 0 v)) := by
  unfold pI
  simp only [pV, at_11 h]
  rw [if_pos ⟨rfl, Nat.le_of_ble_eq_true rfl⟩]
  refine congrArg some (wd_up (ad_ok h).1 ?_ (by rw [(ad_ok h).2]; exact cel_wsI))
  rw [(ad_ok h).2]
  simp [cel, fd, wsI]
theorem p11_0 (h : vo 11 i g = true) {v : Int32} (f : AH → Option α) : ob (pI (wd b W) (b + ad 11 i g) 1 0 v) f = f (wd b (wsI W 11 i g 0 v)) := ob_i (s11_0 h)
theorem r11_1 (h : vo 11 i g = true) : hR (wd b W) (b + ad 11 i g) 1 1 = some (b + aa 11 i g 1) := by simp only [hR, at_11 h]; rfl
theorem o11_1 (h : vo 11 i g = true) (f : Nat → Option α) : ob (hR (wd b W) (b + ad 11 i g) 1 1) f = f (b + aa 11 i g 1) := ob_i (r11_1 h)
theorem r11_2 (h : vo 11 i g = true) : hR (wd b W) (b + ad 11 i g) 1 2 = some (b + aa 11 i g 2) := by simp only [hR, at_11 h]; rfl
theorem o11_2 (h : vo 11 i g = true) (f : Nat → Option α) : ob (hR (wd b W) (b + ad 11 i g) 1 2) f = f (b + aa 11 i g 2) := ob_i (r11_2 h)
theorem r11_3 (h : vo 11 i g = true) : hR (wd b W) (b + ad 11 i g) 1 3 = some (b + aa 11 i g 3) := by simp only [hR, at_11 h]; rfl
theorem o11_3 (h : vo 11 i g = true) (f : Nat → Option α) : ob (hR (wd b W) (b + ad 11 i g) 1 3) f = f (b + aa 11 i g 3) := ob_i (r11_3 h)
theorem r11_4 (h : vo 11 i g = true) : hR (wd b W) (b + ad 11 i g) 1 4 = some (b + aa 11 i g 4) := by simp only [hR, at_11 h]; rfl
theorem o11_4 (h : vo 11 i g = true) (f : Nat → Option α) : ob (hR (wd b W) (b + ad 11 i g) 1 4) f = f (b + aa 11 i g 4) := ob_i (r11_4 h)
theorem r11_5 (h : vo 11 i g = true) : hR (wd b W) (b + ad 11 i g) 1 5 = some (b + aa 11 i g 5) := by simp only [hR, at_11 h]; rfl
theorem o11_5 (h : vo 11 i g = true) (f : Nat → Option α) : ob (hR (wd b W) (b + ad 11 i g) 1 5) f = f (b + aa 11 i g 5) := ob_i (r11_5 h)
theorem q11_1 (h : vo 11 i g = true) : (wd b W).2 (b + aa 11 i g 1) = some (arr b W 11 i g 1) := by rw [wd_at (aa_11_1 h).1, (aa_11_1 h).2]; rfl
theorem a11_1 (h : vo 11 i g = true) {x : Nat} (hx : x < 16) : aI (wd b W) (b + aa 11 i g 1) (nI x) = some (W.2.1 11 i g 1 x) := by
  have e1 : (nI x).toNatClampNeg = x := nI_clamp (by omega)
  have e2 : ¬ (nI x < 0 ∨ 16 ≤ (nI x).toNatClampNeg) := nI_in hx (by omega)
  rw [e1] at e2
  simp only [aI, q11_1 h, arr, if_neg e2, e1]
theorem oa11_1 (h : vo 11 i g = true) {x : Nat} (hx : x < 16) (f : Int32 → Option α) : ob (aI (wd b W) (b + aa 11 i g 1) (nI x)) f = f (W.2.1 11 i g 1 x) := ob_i (a11_1 h hx)
theorem t11_1 (h : vo 11 i g = true) {x : Nat} (hx : x < 16) {v : Int32} : sI (wd b W) (b + aa 11 i g 1) (nI x) v = some (wd b (wsA W 11 i g 1 (upd (W.2.1 11 i g 1) x v))) := by
  have e1 : (nI x).toNatClampNeg = x := nI_clamp (by omega)
  have e2 : ¬ (nI x < 0 ∨ 16 ≤ (nI x).toNatClampNeg) := nI_in hx (by omega)
  rw [e1] at e2
  simp only [sI, q11_1 h, arr, if_neg e2, e1]
  refine congrArg some (wd_up (aa_11_1 h).1 ?_ (by rw [(aa_11_1 h).2]; exact cel_wsA))
  rw [(aa_11_1 h).2]
  simp [cel, arr, wsA]
theorem ot11_1 (h : vo 11 i g = true) {x : Nat} (hx : x < 16) {v : Int32} (f : AH → Option α) : ob (sI (wd b W) (b + aa 11 i g 1) (nI x) v) f = f (wd b (wsA W 11 i g 1 (upd (W.2.1 11 i g 1) x v))) := ob_i (t11_1 h hx)
theorem q11_2 (h : vo 11 i g = true) : (wd b W).2 (b + aa 11 i g 2) = some (arr b W 11 i g 2) := by rw [wd_at (aa_11_2 h).1, (aa_11_2 h).2]; rfl
theorem a11_2 (h : vo 11 i g = true) {x : Nat} (hx : x < 16) : aI (wd b W) (b + aa 11 i g 2) (nI x) = some (W.2.1 11 i g 2 x) := by
  have e1 : (nI x).toNatClampNeg = x := nI_clamp (by omega)
  have e2 : ¬ (nI x < 0 ∨ 16 ≤ (nI x).toNatClampNeg) := nI_in hx (by omega)
  rw [e1] at e2
  simp only [aI, q11_2 h, arr, if_neg e2, e1]
theorem oa11_2 (h : vo 11 i g = true) {x : Nat} (hx : x < 16) (f : Int32 → Option α) : ob (aI (wd b W) (b + aa 11 i g 2) (nI x)) f = f (W.2.1 11 i g 2 x) := ob_i (a11_2 h hx)
theorem t11_2 (h : vo 11 i g = true) {x : Nat} (hx : x < 16) {v : Int32} : sI (wd b W) (b + aa 11 i g 2) (nI x) v = some (wd b (wsA W 11 i g 2 (upd (W.2.1 11 i g 2) x v))) := by
  have e1 : (nI x).toNatClampNeg = x := nI_clamp (by omega)
  have e2 : ¬ (nI x < 0 ∨ 16 ≤ (nI x).toNatClampNeg) := nI_in hx (by omega)
  rw [e1] at e2
  simp only [sI, q11_2 h, arr, if_neg e2, e1]
  refine congrArg some (wd_up (aa_11_2 h).1 ?_ (by rw [(aa_11_2 h).2]; exact cel_wsA))
  rw [(aa_11_2 h).2]
  simp [cel, arr, wsA]
theorem ot11_2 (h : vo 11 i g = true) {x : Nat} (hx : x < 16) {v : Int32} (f : AH → Option α) : ob (sI (wd b W) (b + aa 11 i g 2) (nI x) v) f = f (wd b (wsA W 11 i g 2 (upd (W.2.1 11 i g 2) x v))) := ob_i (t11_2 h hx)
theorem q11_3 (h : vo 11 i g = true) : (wd b W).2 (b + aa 11 i g 3) = some (arr b W 11 i g 3) := by rw [wd_at (aa_11_3 h).1, (aa_11_3 h).2]; rfl
theorem a11_3 (h : vo 11 i g = true) {x : Nat} (hx : x < 16) : aI (wd b W) (b + aa 11 i g 3) (nI x) = some (W.2.1 11 i g 3 x) := by
  have e1 : (nI x).toNatClampNeg = x := nI_clamp (by omega)
  have e2 : ¬ (nI x < 0 ∨ 16 ≤ (nI x).toNatClampNeg) := nI_in hx (by omega)
  rw [e1] at e2
  simp only [aI, q11_3 h, arr, if_neg e2, e1]
theorem oa11_3 (h : vo 11 i g = true) {x : Nat} (hx : x < 16) (f : Int32 → Option α) : ob (aI (wd b W) (b + aa 11 i g 3) (nI x)) f = f (W.2.1 11 i g 3 x) := ob_i (a11_3 h hx)
theorem t11_3 (h : vo 11 i g = true) {x : Nat} (hx : x < 16) {v : Int32} : sI (wd b W) (b + aa 11 i g 3) (nI x) v = some (wd b (wsA W 11 i g 3 (upd (W.2.1 11 i g 3) x v))) := by
  have e1 : (nI x).toNatClampNeg = x := nI_clamp (by omega)
  have e2 : ¬ (nI x < 0 ∨ 16 ≤ (nI x).toNatClampNeg) := nI_in hx (by omega)
  rw [e1] at e2
  simp only [sI, q11_3 h, arr, if_neg e2, e1]
  refine congrArg some (wd_up (aa_11_3 h).1 ?_ (by rw [(aa_11_3 h).2]; exact cel_wsA))
  rw [(aa_11_3 h).2]
  simp [cel, arr, wsA]
theorem ot11_3 (h : vo 11 i g = true) {x : Nat} (hx : x < 16) {v : Int32} (f : AH → Option α) : ob (sI (wd b W) (b + aa 11 i g 3) (nI x) v) f = f (wd b (wsA W 11 i g 3 (upd (W.2.1 11 i g 3) x v))) := ob_i (t11_3 h hx)
theorem q11_4 (h : vo 11 i g = true) : (wd b W).2 (b + aa 11 i g 4) = some (arr b W 11 i g 4) := by rw [wd_at (aa_11_4 h).1, (aa_11_4 h).2]; rfl
theorem a11_4 (h : vo 11 i g = true) {x : Nat} (hx : x < 16) : aI (wd b W) (b + aa 11 i g 4) (nI x) = some (W.2.1 11 i g 4 x) := by
  have e1 : (nI x).toNatClampNeg = x := nI_clamp (by omega)
  have e2 : ¬ (nI x < 0 ∨ 16 ≤ (nI x).toNatClampNeg) := nI_in hx (by omega)
  rw [e1] at e2
  simp only [aI, q11_4 h, arr, if_neg e2, e1]
theorem oa11_4 (h : vo 11 i g = true) {x : Nat} (hx : x < 16) (f : Int32 → Option α) : ob (aI (wd b W) (b + aa 11 i g 4) (nI x)) f = f (W.2.1 11 i g 4 x) := ob_i (a11_4 h hx)
theorem t11_4 (h : vo 11 i g = true) {x : Nat} (hx : x < 16) {v : Int32} : sI (wd b W) (b + aa 11 i g 4) (nI x) v = some (wd b (wsA W 11 i g 4 (upd (W.2.1 11 i g 4) x v))) := by
  have e1 : (nI x).toNatClampNeg = x := nI_clamp (by omega)
  have e2 : ¬ (nI x < 0 ∨ 16 ≤ (nI x).toNatClampNeg) := nI_in hx (by omega)
  rw [e1] at e2
  simp only [sI, q11_4 h, arr, if_neg e2, e1]
  refine congrArg some (wd_up (aa_11_4 h).1 ?_ (by rw [(aa_11_4 h).2]; exact cel_wsA))
  rw [(aa_11_4 h).2]
  simp [cel, arr, wsA]
theorem ot11_4 (h : vo 11 i g = true) {x : Nat} (hx : x < 16) {v : Int32} (f : AH → Option α) : ob (sI (wd b W) (b + aa 11 i g 4) (nI x) v) f = f (wd b (wsA W 11 i g 4 (upd (W.2.1 11 i g 4) x v))) := ob_i (t11_4 h hx)
theorem q11_5 (h : vo 11 i g = true) : (wd b W).2 (b + aa 11 i g 5) = some (arr b W 11 i g 5) := by rw [wd_at (aa_11_5 h).1, (aa_11_5 h).2]; rfl
theorem a11_5 (h : vo 11 i g = true) {x : Nat} (hx : x < 16) : aI (wd b W) (b + aa 11 i g 5) (nI x) = some (W.2.1 11 i g 5 x) := by
  have e1 : (nI x).toNatClampNeg = x := nI_clamp (by omega)
  have e2 : ¬ (nI x < 0 ∨ 16 ≤ (nI x).toNatClampNeg) := nI_in hx (by omega)
  rw [e1] at e2
  simp only [aI, q11_5 h, arr, if_neg e2, e1]
theorem oa11_5 (h : vo 11 i g = true) {x : Nat} (hx : x < 16) (f : Int32 → Option α) : ob (aI (wd b W) (b + aa 11 i g 5) (nI x)) f = f (W.2.1 11 i g 5 x) := ob_i (a11_5 h hx)
theorem t11_5 (h : vo 11 i g = true) {x : Nat} (hx : x < 16) {v : Int32} : sI (wd b W) (b + aa 11 i g 5) (nI x) v = some (wd b (wsA W 11 i g 5 (upd (W.2.1 11 i g 5) x v))) := by
  have e1 : (nI x).toNatClampNeg = x := nI_clamp (by omega)
  have e2 : ¬ (nI x < 0 ∨ 16 ≤ (nI x).toNatClampNeg) := nI_in hx (by omega)
  rw [e1] at e2
  simp only [sI, q11_5 h, arr, if_neg e2, e1]
  refine congrArg some (wd_up (aa_11_5 h).1 ?_ (by rw [(aa_11_5 h).2]; exact cel_wsA))
  rw [(aa_11_5 h).2]
  simp [cel, arr, wsA]
theorem ot11_5 (h : vo 11 i g = true) {x : Nat} (hx : x < 16) {v : Int32} (f : AH → Option α) : ob (sI (wd b W) (b + aa 11 i g 5) (nI x) v) f = f (wd b (wsA W 11 i g 5 (upd (W.2.1 11 i g 5) x v))) := ob_i (t11_5 h hx)
theorem at_12 (h : vo 12 i g = true) : (wd b W).2 (b + ad 12 i g) = some (.inl (fd b W 12 i g)) := by rw [wd_at (ad_ok h).1, (ad_ok h).2]; rfl
theorem iO_12 (h : vo 12 i g = true) : iO (wd b W) (b + ad 12 i g) 1 = some () := by simp only [iO, at_12 h]; rfl
theorem oO_12 (h : vo 12 i g = true) (f : Unit → Option α) : ob (iO (wd b W) (b + ad 12 i g) 1) f = f () := ob_i (iO_12 h)
theorem r12_0 (h : vo 12 i g = true) : hI (wd b W) (b + ad 12 i g) 1 0 = some (W.1 12 i g 0) := by simp only [hI, at_12 h]; rfl
theorem o12_0 (h : vo 12 i g = true) (f : Int32 → Option α) : ob (hI (wd b W) (b + ad 12 i g) 1 0) f = f (W.1 12 i g 0) := ob_i (r12_0 h)
theorem s12_0 (h : vo 12 i g = true) {v : Int32} : pI (wd b W) (b + ad 12 i g) 1 0 v = some (wd b (wsI W 12 i g 0 v)) := by
  unfold pI
  simp only [pV, at_12 h]
  rw [if_pos ⟨rfl, Nat.le_of_ble_eq_true rfl⟩]
  refine congrArg some (wd_up (ad_ok h).1 ?_ (by rw [(ad_ok h).2]; exact cel_wsI))
  rw [(ad_ok h).2]
  simp [cel, fd, wsI]
theorem p12_0 (h : vo 12 i g = true) {v : Int32} (f : AH → Option α) : ob (pI (wd b W) (b + ad 12 i g) 1 0 v) f = f (wd b (wsI W 12 i g 0 v)) := ob_i (s12_0 h)
theorem r12_1 (h : vo 12 i g = true) : hR (wd b W) (b + ad 12 i g) 1 1 = some (b + aa 12 i g 1) := by simp only [hR, at_12 h]; rfl
theorem o12_1 (h : vo 12 i g = true) (f : Nat → Option α) : ob (hR (wd b W) (b + ad 12 i g) 1 1) f = f (b + aa 12 i g 1) := ob_i (r12_1 h)
theorem r12_2 (h : vo 12 i g = true) : hR (wd b W) (b + ad 12 i g) 1 2 = some (b + aa 12 i g 2) := by simp only [hR, at_12 h]; rfl
theorem o12_2 (h : vo 12 i g = true) (f : Nat → Option α) : ob (hR (wd b W) (b + ad 12 i g) 1 2) f = f (b + aa 12 i g 2) := ob_i (r12_2 h)
theorem r12_3 (h : vo 12 i g = true) : hR (wd b W) (b + ad 12 i g) 1 3 = some (b + aa 12 i g 3) := by simp only [hR, at_12 h]; rfl
theorem o12_3 (h : vo 12 i g = true) (f : Nat → Option α) : ob (hR (wd b W) (b + ad 12 i g) 1 3) f = f (b + aa 12 i g 3) := ob_i (r12_3 h)
theorem r12_4 (h : vo 12 i g = true) : hR (wd b W) (b + ad 12 i g) 1 4 = some (b + aa 12 i g 4) := by simp only [hR, at_12 h]; rfl
theorem o12_4 (h : vo 12 i g = true) (f : Nat → Option α) : ob (hR (wd b W) (b + ad 12 i g) 1 4) f = f (b + aa 12 i g 4) := ob_i (r12_4 h)
theorem r12_5 (h : vo 12 i g = true) : hR (wd b W) (b + ad 12 i g) 1 5 = some (b + aa 12 i g 5) := by simp only [hR, at_12 h]; rfl
theorem o12_5 (h : vo 12 i g = true) (f : Nat → Option α) : ob (hR (wd b W) (b + ad 12 i g) 1 5) f = f (b + aa 12 i g 5) := ob_i (r12_5 h)
theorem q12_1 (h : vo 12 i g = true) : (wd b W).2 (b + aa 12 i g 1) = some (arr b W 12 i g 1) := by rw [wd_at (aa_12_1 h).1, (aa_12_1 h).2]; rfl
theorem a12_1 (h : vo 12 i g = true) {x : Nat} (hx : x < 16) : aI (wd b W) (b + aa 12 i g 1) (nI x) = some (W.2.1 12 i g 1 x) := by
  have e1 : (nI x).toNatClampNeg = x := nI_clamp (by omega)
  have e2 : ¬ (nI x < 0 ∨ 16 ≤ (nI x).toNatClampNeg) := nI_in hx (by omega)
  rw [e1] at e2
  simp only [aI, q12_1 h, arr, if_neg e2, e1]
theorem oa12_1 (h : vo 12 i g = true) {x : Nat} (hx : x < 16) (f : Int32 → Option α) : ob (aI (wd b W) (b + aa 12 i g 1) (nI x)) f = f (W.2.1 12 i g 1 x) := ob_i (a12_1 h hx)
theorem t12_1 (h : vo 12 i g = true) {x : Nat} (hx : x < 16) {v : Int32} : sI (wd b W) (b + aa 12 i g 1) (nI x) v = some (wd b (wsA W 12 i g 1 (upd (W.2.1 12 i g 1) x v))) := by
  have e1 : (nI x).toNatClampNeg = x := nI_clamp (by omega)
  have e2 : ¬ (nI x < 0 ∨ 16 ≤ (nI x).toNatClampNeg) := nI_in hx (by omega)
  rw [e1] at e2
  simp only [sI, q12_1 h, arr, if_neg e2, e1]
  refine congrArg some (wd_up (aa_12_1 h).1 ?_ (by rw [(aa_12_1 h).2]; exact cel_wsA))
  rw [(aa_12_1 h).2]
  simp [cel, arr, wsA]
theorem ot12_1 (h : vo 12 i g = true) {x : Nat} (hx : x < 16) {v : Int32} (f : AH → Option α) : ob (sI (wd b W) (b + aa 12 i g 1) (nI x) v) f = f (wd b (wsA W 12 i g 1 (upd (W.2.1 12 i g 1) x v))) := ob_i (t12_1 h hx)
theorem q12_2 (h : vo 12 i g = true) : (wd b W).2 (b + aa 12 i g 2) = some (arr b W 12 i g 2) := by rw [wd_at (aa_12_2 h).1, (aa_12_2 h).2]; rfl
theorem a12_2 (h : vo 12 i g = true) {x : Nat} (hx : x < 16) : aI (wd b W) (b + aa 12 i g 2) (nI x) = some (W.2.1 12 i g 2 x) := by
  have e1 : (nI x).toNatClampNeg = x := nI_clamp (by omega)
  have e2 : ¬ (nI x < 0 ∨ 16 ≤ (nI x).toNatClampNeg) := nI_in hx (by omega)
  rw [e1] at e2
  simp only [aI, q12_2 h, arr, if_neg e2, e1]
theorem oa12_2 (h : vo 12 i g = true) {x : Nat} (hx : x < 16) (f : Int32 → Option α) : ob (aI (wd b W) (b + aa 12 i g 2) (nI x)) f = f (W.2.1 12 i g 2 x) := ob_i (a12_2 h hx)
theorem t12_2 (h : vo 12 i g = true) {x : Nat} (hx : x < 16) {v : Int32} : sI (wd b W) (b + aa 12 i g 2) (nI x) v = some (wd b (wsA W 12 i g 2 (upd (W.2.1 12 i g 2) x v))) := by
  have e1 : (nI x).toNatClampNeg = x := nI_clamp (by omega)
  have e2 : ¬ (nI x < 0 ∨ 16 ≤ (nI x).toNatClampNeg) := nI_in hx (by omega)
  rw [e1] at e2
  simp only [sI, q12_2 h, arr, if_neg e2, e1]
  refine congrArg some (wd_up (aa_12_2 h).1 ?_ (by rw [(aa_12_2 h).2]; exact cel_wsA))
  rw [(aa_12_2 h).2]
  simp [cel, arr, wsA]
theorem ot12_2 (h : vo 12 i g = true) {x : Nat} (hx : x < 16) {v : Int32} (f : AH → Option α) : ob (sI (wd b W) (b + aa 12 i g 2) (nI x) v) f = f (wd b (wsA W 12 i g 2 (upd (W.2.1 12 i g 2) x v))) := ob_i (t12_2 h hx)
theorem q12_3 (h : vo 12 i g = true) : (wd b W).2 (b + aa 12 i g 3) = some (arr b W 12 i g 3) := by rw [wd_at (aa_12_3 h).1, (aa_12_3 h).2]; rfl
theorem a12_3 (h : vo 12 i g = true) {x : Nat} (hx : x < 16) : aI (wd b W) (b + aa 12 i g 3) (nI x) = some (W.2.1 12 i g 3 x) := by
  have e1 : (nI x).toNatClampNeg = x := nI_clamp (by omega)
  have e2 : ¬ (nI x < 0 ∨ 16 ≤ (nI x).toNatClampNeg) := nI_in hx (by omega)
  rw [e1] at e2
  simp only [aI, q12_3 h, arr, if_neg e2, e1]
theorem oa12_3 (h : vo 12 i g = true) {x : Nat} (hx : x < 16) (f : Int32 → Option α) : ob (aI (wd b W) (b + aa 12 i g 3) (nI x)) f = f (W.2.1 12 i g 3 x) := ob_i (a12_3 h hx)
theorem t12_3 (h : vo 12 i g = true) {x : Nat} (hx : x < 16) {v : Int32} : sI (wd b W) (b + aa 12 i g 3) (nI x) v = some (wd b (wsA W 12 i g 3 (upd (W.2.1 12 i g 3) x v))) := by
  have e1 : (nI x).toNatClampNeg = x := nI_clamp (by omega)
  have e2 : ¬ (nI x < 0 ∨ 16 ≤ (nI x).toNatClampNeg) := nI_in hx (by omega)
  rw [e1] at e2
  simp only [sI, q12_3 h, arr, if_neg e2, e1]
  refine congrArg some (wd_up (aa_12_3 h).1 ?_ (by rw [(aa_12_3 h).2]; exact cel_wsA))
  rw [(aa_12_3 h).2]
  simp [cel, arr, wsA]
theorem ot12_3 (h : vo 12 i g = true) {x : Nat} (hx : x < 16) {v : Int32} (f : AH → Option α) : ob (sI (wd b W) (b + aa 12 i g 3) (nI x) v) f = f (wd b (wsA W 12 i g 3 (upd (W.2.1 12 i g 3) x v))) := ob_i (t12_3 h hx)
theorem q12_4 (h : vo 12 i g = true) : (wd b W).2 (b + aa 12 i g 4) = some (arr b W 12 i g 4) := by rw [wd_at (aa_12_4 h).1, (aa_12_4 h).2]; rfl
theorem a12_4 (h : vo 12 i g = true) {x : Nat} (hx : x < 16) : aI (wd b W) (b + aa 12 i g 4) (nI x) = some (W.2.1 12 i g 4 x) := by
  have e1 : (nI x).toNatClampNeg = x := nI_clamp (by omega)
  have e2 : ¬ (nI x < 0 ∨ 16 ≤ (nI x).toNatClampNeg) := nI_in hx (by omega)
  rw [e1] at e2
  simp only [aI, q12_4 h, arr, if_neg e2, e1]
theorem oa12_4 (h : vo 12 i g = true) {x : Nat} (hx : x < 16) (f : Int32 → Option α) : ob (aI (wd b W) (b + aa 12 i g 4) (nI x)) f = f (W.2.1 12 i g 4 x) := ob_i (a12_4 h hx)
theorem t12_4 (h : vo 12 i g = true) {x : Nat} (hx : x < 16) {v : Int32} : sI (wd b W) (b + aa 12 i g 4) (nI x) v = some (wd b (wsA W 12 i g 4 (upd (W.2.1 12 i g 4) x v))) := by
  have e1 : (nI x).toNatClampNeg = x := nI_clamp (by omega)
  have e2 : ¬ (nI x < 0 ∨ 16 ≤ (nI x).toNatClampNeg) := nI_in hx (by omega)
  rw [e1] at e2
  simp only [sI, q12_4 h, arr, if_neg e2, e1]
  refine congrArg some (wd_up (aa_12_4 h).1 ?_ (by rw [(aa_12_4 h).2]; exact cel_wsA))
  rw [(aa_12_4 h).2]
  simp [cel, arr, wsA]
theorem ot12_4 (h : vo 12 i g = true) {x : Nat} (hx : x < 16) {v : Int32} (f : AH → Option α) : ob (sI (wd b W) (b + aa 12 i g 4) (nI x) v) f = f (wd b (wsA W 12 i g 4 (upd (W.2.1 12 i g 4) x v))) := ob_i (t12_4 h hx)
theorem q12_5 (h : vo 12 i g = true) : (wd b W).2 (b + aa 12 i g 5) = some (arr b W 12 i g 5) := by rw [wd_at (aa_12_5 h).1, (aa_12_5 h).2]; rfl
theorem a12_5 (h : vo 12 i g = true) {x : Nat} (hx : x < 16) : aI (wd b W) (b + aa 12 i g 5) (nI x) = some (W.2.1 12 i g 5 x) := by
  have e1 : (nI x).toNatClampNeg = x := nI_clamp (by omega)
  have e2 : ¬ (nI x < 0 ∨ 16 ≤ (nI x).toNatClampNeg) := nI_in hx (by omega)
  rw [e1] at e2
  simp only [aI, q12_5 h, arr, if_neg e2, e1]
theorem oa12_5 (h : vo 12 i g = true) {x : Nat} (hx : x < 16) (f : Int32 → Option α) : ob (aI (wd b W) (b + aa 12 i g 5) (nI x)) f = f (W.2.1 12 i g 5 x) := ob_i (a12_5 h hx)
theorem t12_5 (h : vo 12 i g = true) {x : Nat} (hx : x < 16) {v : Int32} : sI (wd b W) (b + aa 12 i g 5) (nI x) v = some (wd b (wsA W 12 i g 5 (upd (W.2.1 12 i g 5) x v))) := by
  have e1 : (nI x).toNatClampNeg = x := nI_clamp (by omega)
  have e2 : ¬ (nI x < 0 ∨ 16 ≤ (nI x).toNatClampNeg) := nI_in hx (by omega)
  rw [e1] at e2
  simp only [sI, q12_5 h, arr, if_neg e2, e1]
  refine congrArg some (wd_up (aa_12_5 h).1 ?_ (by rw [(aa_12_5 h).2]; exact cel_wsA))
  rw [(aa_12_5 h).2]
  simp [cel, arr, wsA]
theorem ot12_5 (h : vo 12 i g = true) {x : Nat} (hx : x < 16) {v : Int32} (f : AH → Option α) : ob (sI (wd b W) (b + aa 12 i g 5) (nI x) v) f = f (wd b (wsA W 12 i g 5 (upd (W.2.1 12 i g 5) x v))) := ob_i (t12_5 h hx)
end
