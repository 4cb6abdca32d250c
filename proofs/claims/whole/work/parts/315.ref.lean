/-! steps 2 and 3: rates -/
def leftS (r : Nat → Int32) (g : Nat) : Int32 := gO r g 0 + gO r g 2 - r 0
/-- by what the rests are divided, if the span is s; dl: deadlines are heeded -/
def byS (r : Nat → Int32) (dl : Bool) (g : Nat) (s : Int32) : Int32 := if s = -1 then s else if dl = false then s else if hdS r g = false then s else if leftS r g ≤ s then s else leftS r g
noncomputable def rtS (r : Nat → Int32) (dl : Bool) (g : Nat) (A : Nat → Int32) (f : Nat) : Int32 := if spn r g A = -1 then 0 else upI (fO r g f 3) (byS r dl g (spn r g A))
def subS (r : Nat → Int32) (g : Nat) (R A : Nat → Int32) (i : Nat) : Nat → Int32 := fun p => A p - sumI (fun f => thr1 r g f p (R f)) i
def mnS (x a c : Int32) : Int32 := if (if x ≤ a then x else a) ≤ c then (if x ≤ a then x else a) else c
def shA (r : Nat → Int32) (g : Nat) (R A : Nat → Int32) : Nat → Nat → Int32
  | 0 => A
  | i + 1 => fun p => shA r g R A i p - thr1 r g i p (mnS (fO r g i 3 - R i) (shA r g R A i (vN (fO r g i 0))) (shA r g R A i (8 + vN (fO r g i 1))))
def moS (r : Nat → Int32) (g : Nat) (R A : Nat → Int32) (i : Nat) : Int32 := mnS (fO r g i 3 - R i) (shA r g R A i (vN (fO r g i 0))) (shA r g R A i (8 + vN (fO r g i 1)))
noncomputable def gvS (r : Nat → Int32) (dl : Bool) (o : Nat → Nat) : Nat → (Nat → Int32) × (Nat → Nat → Int32) × (Nat → Int32)
  | 0 => (capR r, fun _ _ => 0, fun _ => -1)
  | k + 1 => (subS r (o k) (rtS r dl (o k) (gvS r dl o k).1) (gvS r dl o k).1 (nF r (o k)), fun g f => if g = o k ∧ f < nF r g then rtS r dl g (gvS r dl o k).1 f else (gvS r dl o k).2.1 g f, fun g => if g = o k then spn r g (gvS r dl o k).1 else (gvS r dl o k).2.2 g)
def shG (r : Nat → Int32) (o : Nat → Nat) (A0 : Nat → Int32) (R0 : Nat → Nat → Int32) : Nat → (Nat → Int32) × (Nat → Nat → Int32)
  | 0 => (A0, R0)
  | k + 1 => (shA r (o k) ((shG r o A0 R0 k).2 (o k)) (shG r o A0 R0 k).1 (nF r (o k)), fun g f => if g = o k ∧ f < nF r g then (shG r o A0 R0 k).2 g f + moS r g ((shG r o A0 R0 k).2 g) (shG r o A0 R0 k).1 f else (shG r o A0 R0 k).2 g f)
theorem subS_0 (r : Nat → Int32) (g : Nat) (R A : Nat → Int32) : subS r g R A 0 = A := by funext p; simp [subS, sumI]
theorem subS_s (r : Nat → Int32) (g : Nat) (R A : Nat → Int32) (i : Nat) : (fun p => subS r g R A i p - thr1 r g i p (R i)) = subS r g R A (i + 1) := by
  funext p
  simp only [subS, sumI]
  rw [Int32.sub_sub]
/-- times and deadlines are small -/
def tmK (r : Nat → Int32) : Prop := (r 0 = nI (vN (r 0)) ∧ vN (r 0) ≤ 1000000) ∧ ∀ g, g < nG r → (gO r g 0 = nI (vN (gO r g 0)) ∧ vN (gO r g 0) ≤ 2000000) ∧ (gO r g 2 = nI (vN (gO r g 2)) ∧ vN (gO r g 2) ≤ 10000)
theorem isSpan_ex {r : Nat → Int32} {g : Nat} {A : Nat → Int32} : isSpan r g A (spn r g A) := by
  by_cases h : fitN r g A 100000
  · obtain ⟨y, h1, h2⟩ := pk_least (fun y => 1 ≤ y ∧ fitN r g A y) ⟨100000, by omega, h⟩
    have hy : y ≤ 100000 := by
      rcases Nat.lt_or_ge 100000 y with q | q
      · exact absurd ⟨by omega, h⟩ (h2 100000 q)
      · exact q
    have e : isSpan r g A (nI y) := Or.inr ⟨y, h1.1, hy, rfl, h1.2, fun z z1 z2 q => h2 z z2 ⟨z1, q⟩⟩
    rw [spn_eq e]
    exact e
  · have e : isSpan r g A (-1) := Or.inl ⟨rfl, h⟩
    rw [spn_eq e]
    exact e
theorem nI_ne_m1 {y : Nat} (h : y < 2147483648) : ¬ nI y = -1 := by
  intro q
  have h1 := congrArg Int32.toInt q
  rw [nI_toInt (by omega)] at h1
  have h2 : (-1 : Int32).toInt = -1 := rfl
  omega
theorem of_nle {x : Int32} {y : Nat} (hy : y < 2147483648) (h : ¬ x ≤ nI y) : x = nI (vN x) ∧ y < vN x ∧ vN x < 2147483648 := by
  have h0 : ¬ x < 0 := by
    intro q
    have h1 := Int32.lt_iff_toInt_lt.mp q
    have h2 : ¬ x.toInt ≤ (nI y).toInt := fun z => h (Int32.le_iff_toInt_le.mpr z)
    rw [nI_toInt (by omega)] at h2
    have h3 : (0 : Int32).toInt = 0 := rfl
    omega
  obtain ⟨j, h1, h2⟩ := nI_of h0
  subst h2
  rw [vN_nI (by omega)]
  refine ⟨rfl, ?_, by omega⟩
  rcases Nat.lt_or_ge y j with q | q
  · exact q
  · exact absurd (le_p q hy) h
/-- what the rests of an active group are divided by -/
theorem byS_ok {r : Nat → Int32} (hT : tmK r) {g : Nat} (hg : g < nG r) {dl : Bool} {y : Nat} (hy0 : 1 ≤ y) (hy : y ≤ 100000) : ∃ z, byS r dl g (nI y) = nI z ∧ y ≤ z ∧ z ≤ 3000000 := by
  unfold byS
  rw [if_neg (nI_ne_m1 (by omega))]
  split
  · exact ⟨y, rfl, Nat.le_refl _, by omega⟩
  · split
    · exact ⟨y, rfl, Nat.le_refl _, by omega⟩
    · split
      · exact ⟨y, rfl, Nat.le_refl _, by omega⟩
      · rename_i h
        obtain ⟨h1, h2, h3⟩ := of_nle (by omega) h
        refine ⟨_, h1, by omega, ?_⟩
        obtain ⟨⟨t1, t2⟩, t3⟩ := hT
        obtain ⟨⟨a1, a2⟩, d1, d2⟩ := t3 g hg
        have e : leftS r g = nI (vN (gO r g 0) + vN (gO r g 2)) - nI (vN (r 0)) := by
          unfold leftS
          rw [← nI_add, ← a1, ← d1, ← t1]
        have e2 : (leftS r g).toInt = (vN (gO r g 0) + vN (gO r g 2) : Nat) - (vN (r 0) : Int) := by
          rw [e]
          exact pk_sub_toInt (by omega) (by omega)
        have e3 : (leftS r g).toInt = (vN (leftS r g) : Int) := by
          rw [h1, nI_toInt (by omega), ← h1]
        omega
theorem sumI_z : ∀ n : Nat, sumI (fun _ => 0) n = 0
  | 0 => rfl
  | n + 1 => by rw [sumI, sumI_z n]; rfl
theorem thr1_0 (r : Nat → Int32) (g f p : Nat) : thr1 r g f p 0 = 0 := by unfold thr1; split <;> rfl
theorem sumI_thr {r : Nat → Int32} {g y : Nat} (hk : flK r g (nF r g)) (h0 : 0 < y) (hy : y < 2000000000) (p : Nat) : sumI (fun f => thr1 r g f p (upI (fO r g f 3) (nI y))) (nF r g) = nI (needN r g y p) := needI_nI hk h0 hy p
/-- the rates of step 2, and what is left at the ports -/
theorem rtS_ok {r : Nat → Int32} (hT : tmK r) {g : Nat} (hg : g < nG r) (hk : flK r g (nF r g)) {A : Nat → Int32} (hA : avK A) (dl : Bool) : (∀ f, f < nF r g → ∃ x, rtS r dl g A f = nI x ∧ x ≤ vN (fO r g f 3)) ∧ ∀ p, p < 16 → ∃ d, sumI (fun f => thr1 r g f p (rtS r dl g A f)) (nF r g) = nI d ∧ d ≤ vN (A p) := by
  rcases isSpan_ex (r := r) (g := g) (A := A) with ⟨h1, h2⟩ | ⟨y, y1, y2, y3, y4, y5⟩
  · have e : ∀ f, rtS r dl g A f = 0 := fun f => by unfold rtS; rw [if_pos h1]
    refine ⟨fun f hf => ⟨0, e f, Nat.zero_le _⟩, fun p hp => ⟨0, ?_, Nat.zero_le _⟩⟩
    rw [sumI_cg (g := fun _ => 0) (fun i hi => by rw [e]; exact thr1_0 r g i p)]
    exact sumI_z _
  · obtain ⟨z, z1, z2, z3⟩ := byS_ok hT hg (dl := dl) y1 y2
    have e : ∀ f, rtS r dl g A f = upI (fO r g f 3) (nI z) := fun f => by unfold rtS; rw [if_neg (by rw [y3]; exact nI_ne_m1 (by omega)), y3, z1]
    refine ⟨fun f hf => ?_, fun p hp => ?_⟩
    · obtain ⟨-, -, h1, h2⟩ := hk.2.2 f hf
      refine ⟨cdiv (vN (fO r g f 3)) z, ?_, cdiv_le (by omega)⟩
      rw [e, h1, upI_nI (by omega) (by omega), ← h1]
    · refine ⟨needN r g z p, ?_, Nat.le_trans (needN_anti (by omega) z2) (y4 p hp)⟩
      rw [sumI_cg (g := fun f => thr1 r g f p (upI (fO r g f 3) (nI z))) (fun i hi => by rw [e])]
      exact sumI_thr hk (by omega) (by omega) p
theorem subS_av {r : Nat → Int32} (hT : tmK r) {g : Nat} (hg : g < nG r) (hk : flK r g (nF r g)) {A : Nat → Int32} (hA : avK A) (dl : Bool) : ∀ p, p < 16 → ∃ d, subS r g (rtS r dl g A) A (nF r g) p = nI (vN (A p) - d) ∧ sumI (fun f => thr1 r g f p (rtS r dl g A f)) (nF r g) = nI d ∧ d ≤ vN (A p) := by
  intro p hp
  obtain ⟨d, d1, d2⟩ := (rtS_ok hT hg hk hA dl).2 p hp
  refine ⟨d, ?_, d1, d2⟩
  unfold subS
  rw [d1, (hA p hp).1, pk_sub d2, ← (hA p hp).1]
theorem avK_subS {r : Nat → Int32} (hT : tmK r) {g : Nat} (hg : g < nG r) (hk : flK r g (nF r g)) {A : Nat → Int32} (hA : avK A) (dl : Bool) : avK (subS r g (rtS r dl g A) A (nF r g)) := by
  intro p hp
  obtain ⟨d, d1, -, d2⟩ := subS_av hT hg hk hA dl p hp
  have h := (hA p hp).2
  rw [d1, vN_nI (by omega)]
  exact ⟨rfl, by omega⟩
/-- step 3 -/
theorem mnS_nI {x a c : Nat} (hx : x < 2147483648) (ha : a < 2147483648) (hc : c < 2147483648) : mnS (nI x) (nI a) (nI c) = nI (min (min x a) c) := by
  unfold mnS
  have e1 : (if nI x ≤ nI a then nI x else nI a) = nI (min x a) := by
    by_cases h : x ≤ a
    · rw [if_pos (le_p h ha), Nat.min_eq_left h]
    · rw [if_neg (le_n (by omega) hx), Nat.min_eq_right (by omega)]
  rw [e1]
  by_cases h : min x a ≤ c
  · rw [if_pos (le_p h hc), Nat.min_eq_left h]
  · rw [if_neg (le_n (by omega) (by omega)), Nat.min_eq_right (by omega)]
theorem shA_av {r : Nat → Int32} {g : Nat} (hk : flK r g (nF r g)) {R A : Nat → Int32} (hA : avK A) (hR : ∀ f, f < nF r g → ∃ x, R f = nI x ∧ x ≤ vN (fO r g f 3)) : ∀ i, i ≤ nF r g → avK (shA r g R A i)
  | 0, _ => hA
  | i + 1, hi => by
    have ih := shA_av hk hA hR i (by omega)
    obtain ⟨⟨s1, s2⟩, ⟨t1, t2⟩, q1, q2⟩ := hk.2.2 i (by omega)
    obtain ⟨x, x1, x2⟩ := hR i (by omega)
    intro p hp
    have hs := ih (vN (fO r g i 0)) (by omega)
    have ht := ih (8 + vN (fO r g i 1)) (by omega)
    have hpp := ih p hp
    have e : mnS (fO r g i 3 - R i) (shA r g R A i (vN (fO r g i 0))) (shA r g R A i (8 + vN (fO r g i 1))) = nI (min (min (vN (fO r g i 3) - x) (vN (shA r g R A i (vN (fO r g i 0))))) (vN (shA r g R A i (8 + vN (fO r g i 1))))) := by
      rw [q1, x1, pk_sub x2, hs.1, ht.1, mnS_nI (by omega) hs.2 ht.2, ← hs.1, ← ht.1, ← q1]
    rw [shA]
    simp only
    rw [e]
    unfold thr1
    split
    · rename_i h
      have hle : min (min (vN (fO r g i 3) - x) (vN (shA r g R A i (vN (fO r g i 0))))) (vN (shA r g R A i (8 + vN (fO r g i 1)))) ≤ vN (shA r g R A i p) := by
        rcases h with h | h
        · rw [h]; omega
        · rw [h]; omega
      rw [hpp.1, pk_sub hle, vN_nI (by omega)]
      exact ⟨rfl, by omega⟩
    · rw [Int32.sub_zero]
      exact hpp
theorem moS_ok {r : Nat → Int32} {g : Nat} (hk : flK r g (nF r g)) {R A : Nat → Int32} (hA : avK A) (hR : ∀ f, f < nF r g → ∃ x, R f = nI x ∧ x ≤ vN (fO r g f 3)) {i : Nat} (hi : i < nF r g) : ∃ x, moS r g R A i = nI x ∧ (∃ y, R i + moS r g R A i = nI y ∧ y ≤ vN (fO r g i 3)) ∧ x ≤ vN (shA r g R A i (vN (fO r g i 0))) ∧ x ≤ vN (shA r g R A i (8 + vN (fO r g i 1))) := by
  have ih := shA_av hk hA hR i (by omega)
  obtain ⟨⟨s1, s2⟩, ⟨t1, t2⟩, q1, q2⟩ := hk.2.2 i hi
  obtain ⟨x, x1, x2⟩ := hR i hi
  have hs := ih (vN (fO r g i 0)) (by omega)
  have ht := ih (8 + vN (fO r g i 1)) (by omega)
  have e : moS r g R A i = nI (min (min (vN (fO r g i 3) - x) (vN (shA r g R A i (vN (fO r g i 0))))) (vN (shA r g R A i (8 + vN (fO r g i 1))))) := by
    unfold moS
    rw [q1, x1, pk_sub x2, hs.1, ht.1, mnS_nI (by omega) hs.2 ht.2, ← hs.1, ← ht.1, ← q1]
  refine ⟨_, e, ⟨_, by rw [e, x1, nI_add], ?_⟩, ?_, ?_⟩ <;> omega
