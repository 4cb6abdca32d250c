/-! the grammar of the text -/
def rnN (P : Nat → Bool) : Nat → Nat → Nat
  | 0, p => p
  | k + 1, p => if P p = true then rnN P k (p + 1) else p
def rn (P : Nat → Bool) (p : Nat) : Nat := rnN P (120 - p) p
theorem rn_t {P : Nat → Bool} {p : Nat} (hp : p < 120) (h : P p = true) : rn P p = rn P (p + 1) := by
  unfold rn
  rw [show 120 - p = (120 - (p + 1)) + 1 by omega, rnN, if_pos h]
theorem rn_f {P : Nat → Bool} {p : Nat} (h : ¬ P p = true) : rn P p = p := by
  unfold rn
  cases 120 - p with
  | zero => rfl
  | succ k => rw [rnN, if_neg h]
theorem rnN_le {P : Nat → Bool} {ℓ : Nat} (hP : ∀ p, P p = true → p < ℓ) : ∀ k p, p ≤ ℓ → rnN P k p ≤ ℓ
  | 0, _, h => h
  | k + 1, p, h => by
    rw [rnN]
    split
    · rename_i q
      exact rnN_le hP k (p + 1) (hP p q)
    · exact h
theorem rnN_ge {P : Nat → Bool} : ∀ k p, p ≤ rnN P k p
  | 0, _ => Nat.le_refl _
  | k + 1, p => by
    rw [rnN]
    split
    · have := rnN_ge (P := P) k (p + 1)
      omega
    · exact Nat.le_refl _
theorem rnN_end {P : Nat → Bool} (hP : ∀ p, P p = true → p < 120) : ∀ k p, 120 ≤ p + k → ¬ P (rnN P k p) = true
  | 0, p, h => fun q => by
    have := hP p q
    omega
  | k + 1, p, h => by
    rw [rnN]
    split
    · exact rnN_end hP k (p + 1) (by omega)
    · assumption
theorem rnN_all {P : Nat → Bool} : ∀ k p q, p ≤ q → q < rnN P k p → P q = true
  | 0, p, q, h1, h2 => absurd h2 (Nat.not_lt.mpr h1)
  | k + 1, p, q, h1, h2 => by
    rw [rnN] at h2
    split at h2
    · rename_i w
      by_cases e : q = p
      · rw [e]; exact w
      · exact rnN_all k (p + 1) q (by omega) h2
    · omega
def tB (t : Nat → Int32) (ℓ : Nat) : Nat → Bool := fun p => decide (p < ℓ) && decide (t p = 32)
def tD (t : Nat → Int32) (ℓ : Nat) : Nat → Bool := fun p => decide (p < ℓ) && (!decide (t p < 48) && !decide (57 < t p))
theorem tB_i {t : Nat → Int32} {ℓ p : Nat} : tB t ℓ p = true ↔ p < ℓ ∧ t p = 32 := by
  unfold tB
  simp only [Bool.and_eq_true, decide_eq_true_eq]
theorem tD_i {t : Nat → Int32} {ℓ p : Nat} : tD t ℓ p = true ↔ p < ℓ ∧ ¬ t p < 48 ∧ ¬ 57 < t p := by
  unfold tD
  simp only [Bool.and_eq_true, decide_eq_true_eq, Bool.not_eq_true', decide_eq_false_iff_not]
def skp (t : Nat → Int32) (ℓ p : Nat) : Nat := rn (tB t ℓ) p
def dgp (t : Nat → Int32) (ℓ p : Nat) : Nat := rn (tD t ℓ) p
def vl (t : Nat → Int32) (q : Nat) : Nat → Nat
  | 0 => 0
  | k + 1 => 10 * vl t q k + (vN (t (q + k)) - 48)
/-- a text of ℓ bytes -/
def tK (t : Nat → Int32) (ℓ : Nat) : Prop := ℓ ≤ 120 ∧ ∀ p, p < ℓ → t p = nI (vN (t p)) ∧ vN (t p) < 256
section
variable {t : Nat → Int32} {ℓ : Nat}
theorem skp_le (h : tK t ℓ) {p : Nat} (hp : p ≤ ℓ) : skp t ℓ p ≤ ℓ := rnN_le (fun q hq => (tB_i.mp hq).1) _ _ hp
theorem skp_t (h : tK t ℓ) {p : Nat} (hp : p < ℓ) (q : t p = 32) : skp t ℓ p = skp t ℓ (p + 1) := rn_t (by have := h.1; omega) (tB_i.mpr ⟨hp, q⟩)
theorem skp_f {p : Nat} (q : ¬ (p < ℓ ∧ t p = 32)) : skp t ℓ p = p := rn_f (fun z => q (tB_i.mp z))
theorem skp_2 (h : tK t ℓ) {p : Nat} : skp t ℓ (skp t ℓ p) = skp t ℓ p := rn_f (rnN_end (fun q hq => by have := (tB_i.mp hq).1; have := h.1; omega) _ _ (by omega))
theorem dgp_le (h : tK t ℓ) {p : Nat} (hp : p ≤ ℓ) : dgp t ℓ p ≤ ℓ := rnN_le (fun q hq => (tD_i.mp hq).1) _ _ hp
theorem dgp_ge {p : Nat} : p ≤ dgp t ℓ p := rnN_ge _ _
theorem dgp_end (h : tK t ℓ) {p : Nat} : ¬ (dgp t ℓ p < ℓ ∧ ¬ t (dgp t ℓ p) < 48 ∧ ¬ 57 < t (dgp t ℓ p)) := fun q => rnN_end (P := tD t ℓ) (fun q hq => by have := (tD_i.mp hq).1; have := h.1; omega) (120 - p) p (by omega) (tD_i.mpr q)
theorem dgp_in {p q : Nat} (h1 : p ≤ q) (h2 : q < dgp t ℓ p) : q < ℓ ∧ ¬ t q < 48 ∧ ¬ 57 < t q := tD_i.mp (rnN_all _ _ _ h1 h2)
theorem t48 {x : Int32} (hx : x = nI (vN x)) (h : ¬ x < 48) : x - 48 = nI (vN x - 48) ∧ 48 ≤ vN x := by
  have h48 : 48 ≤ vN x := by
    rcases Nat.lt_or_ge (vN x) 48 with q | q
    · exact absurd (by rw [hx]; exact lt_p (b := 48) q (by omega)) h
    · exact q
  exact ⟨(congrArg (· - 48) hx).trans (pk_sub (b := 48) h48), h48⟩
theorem t_hi {x : Int32} {c : Nat} (hc : c < 1000) (hx : x = nI (vN x)) (h2 : vN x < 256) (h : ¬ nI c < x) : vN x ≤ c := by
  rcases Nat.lt_or_ge c (vN x) with q | q
  · exact absurd (by rw [hx]; exact lt_p q (by omega)) h
  · exact q
theorem vl_lt (h : tK t ℓ) {q : Nat} : ∀ k, q + k ≤ dgp t ℓ q → vl t q k < 10 ^ k
  | 0, _ => Nat.lt_succ_self 0
  | k + 1, hk => by
    have ih := vl_lt h (q := q) k (by omega)
    obtain ⟨a1, a2, a3⟩ := dgp_in (t := t) (ℓ := ℓ) (p := q) (q := q + k) (by omega) (by omega)
    have b1 := t_hi (c := 57) (by omega) (h.2 _ a1).1 (h.2 _ a1).2 a3
    rw [vl, Nat.pow_succ]
    omega
def gP (t : Nat → Int32) (ℓ p : Nat) : Option Nat × Nat := if skp t ℓ p < ℓ ∧ ¬ t (skp t ℓ p) < 48 ∧ ¬ 55 < t (skp t ℓ p) then (some (vN (t (skp t ℓ p)) - 48), skp t ℓ p + 1) else (none, skp t ℓ p)
def gS (t : Nat → Int32) (ℓ p : Nat) (c : Int32) : Bool × Nat := if skp t ℓ p < ℓ ∧ t (skp t ℓ p) = c then (true, skp t ℓ p + 1) else (false, skp t ℓ p)
def gN (t : Nat → Int32) (ℓ p : Nat) : Option Nat × Nat := if dgp t ℓ (skp t ℓ p) - skp t ℓ p ≤ 6 ∧ 1 ≤ vl t (skp t ℓ p) (dgp t ℓ (skp t ℓ p) - skp t ℓ p) ∧ vl t (skp t ℓ p) (dgp t ℓ (skp t ℓ p) - skp t ℓ p) ≤ 100000 then (some (vl t (skp t ℓ p) (dgp t ℓ (skp t ℓ p) - skp t ℓ p)), dgp t ℓ (skp t ℓ p)) else (none, skp t ℓ p)
def oN (o : Option Nat) : Int32 := match o with
  | some v => nI v
  | none => -1
theorem gP_ok (h : tK t ℓ) {p q : Nat} {o : Option Nat} (hp : p ≤ ℓ) (hg : gP t ℓ p = (o, q)) : q ≤ ℓ ∧ (∀ a, o = some a → a < 8) ∧ (o = none → skp t ℓ q = q) := by
  have hs := skp_le h hp
  unfold gP at hg
  split at hg
  · rename_i w
    obtain ⟨rfl, rfl⟩ := Prod.mk.inj hg
    refine ⟨w.1, fun a ha => ?_, fun z => by cases z⟩
    cases ha
    have := t_hi (c := 55) (by omega) (h.2 _ w.1).1 (h.2 _ w.1).2 w.2.2
    omega
  · obtain ⟨rfl, rfl⟩ := Prod.mk.inj hg
    exact ⟨hs, fun a ha => (by cases ha), fun _ => skp_2 h⟩
theorem gS_ok (h : tK t ℓ) {p q : Nat} {c : Int32} {o : Bool} (hp : p ≤ ℓ) (hg : gS t ℓ p c = (o, q)) : q ≤ ℓ ∧ (o = false → skp t ℓ q = q) := by
  have hs := skp_le h hp
  unfold gS at hg
  split at hg
  · rename_i w
    obtain ⟨rfl, rfl⟩ := Prod.mk.inj hg
    exact ⟨w.1, fun z => by cases z⟩
  · obtain ⟨rfl, rfl⟩ := Prod.mk.inj hg
    exact ⟨hs, fun _ => skp_2 h⟩
theorem gN_ok (h : tK t ℓ) {p q : Nat} {o : Option Nat} (hp : p ≤ ℓ) (hg : gN t ℓ p = (o, q)) : q ≤ ℓ ∧ (∀ z, o = some z → 1 ≤ z ∧ z ≤ 100000) ∧ (o = none → skp t ℓ q = q) := by
  have hs := skp_le h hp
  unfold gN at hg
  split at hg
  · rename_i w
    obtain ⟨rfl, rfl⟩ := Prod.mk.inj hg
    refine ⟨dgp_le h hs, fun z hz => ?_, fun z => by cases z⟩
    cases hz
    exact w.2
  · obtain ⟨rfl, rfl⟩ := Prod.mk.inj hg
    exact ⟨hs, fun a ha => (by cases ha), fun _ => skp_2 h⟩
def gF (t : Nat → Int32) (ℓ p : Nat) : Option (Nat × Nat × Nat) × Nat := match gP t ℓ p with
  | (none, q) => (none, q)
  | (some a, q1) => match gS t ℓ q1 62 with
    | (false, q) => (none, q)
    | (true, q2) => match gP t ℓ q2 with
      | (none, q) => (none, q)
      | (some c, q3) => match gS t ℓ q3 58 with
        | (false, q) => (none, q)
        | (true, q4) => match gN t ℓ q4 with
          | (none, q) => (none, q)
          | (some z, q) => (some (a, c, z), q)
theorem gF_cases (p : Nat) : (∃ q, gP t ℓ p = (none, q) ∧ gF t ℓ p = (none, q)) ∨ (∃ a q1 q, gP t ℓ p = (some a, q1) ∧ gS t ℓ q1 62 = (false, q) ∧ gF t ℓ p = (none, q)) ∨ (∃ a q1 q2 q, gP t ℓ p = (some a, q1) ∧ gS t ℓ q1 62 = (true, q2) ∧ gP t ℓ q2 = (none, q) ∧ gF t ℓ p = (none, q)) ∨ (∃ a q1 q2 c q3 q, gP t ℓ p = (some a, q1) ∧ gS t ℓ q1 62 = (true, q2) ∧ gP t ℓ q2 = (some c, q3) ∧ gS t ℓ q3 58 = (false, q) ∧ gF t ℓ p = (none, q)) ∨ (∃ a q1 q2 c q3 q4 q, gP t ℓ p = (some a, q1) ∧ gS t ℓ q1 62 = (true, q2) ∧ gP t ℓ q2 = (some c, q3) ∧ gS t ℓ q3 58 = (true, q4) ∧ gN t ℓ q4 = (none, q) ∧ gF t ℓ p = (none, q)) ∨ (∃ a q1 q2 c q3 q4 z q, gP t ℓ p = (some a, q1) ∧ gS t ℓ q1 62 = (true, q2) ∧ gP t ℓ q2 = (some c, q3) ∧ gS t ℓ q3 58 = (true, q4) ∧ gN t ℓ q4 = (some z, q) ∧ gF t ℓ p = (some (a, c, z), q)) := by
  unfold gF
  match h1 : gP t ℓ p with
  | (none, q) => exact Or.inl ⟨q, rfl, rfl⟩
  | (some a, q1) =>
    dsimp only
    match h2 : gS t ℓ q1 62 with
    | (false, q) => exact Or.inr (Or.inl ⟨a, q1, q, rfl, h2, by simp [h2]⟩)
    | (true, q2) =>
      match h3 : gP t ℓ q2 with
      | (none, q) => exact Or.inr (Or.inr (Or.inl ⟨a, q1, q2, q, rfl, h2, h3, by simp [h2, h3]⟩))
      | (some c, q3) =>
        match h4 : gS t ℓ q3 58 with
        | (false, q) => exact Or.inr (Or.inr (Or.inr (Or.inl ⟨a, q1, q2, c, q3, q, rfl, h2, h3, h4, by simp [h2, h3, h4]⟩)))
        | (true, q4) =>
          match h5 : gN t ℓ q4 with
          | (none, q) => exact Or.inr (Or.inr (Or.inr (Or.inr (Or.inl ⟨a, q1, q2, c, q3, q4, q, rfl, h2, h3, h4, h5, by simp [h2, h3, h4, h5]⟩))))
          | (some z, q) => exact Or.inr (Or.inr (Or.inr (Or.inr (Or.inr ⟨a, q1, q2, c, q3, q4, z, q, rfl, h2, h3, h4, h5, by simp [h2, h3, h4, h5]⟩))))
def fK (x : Nat × Nat × Nat) : Prop := x.1 < 8 ∧ x.2.1 < 8 ∧ 1 ≤ x.2.2 ∧ x.2.2 ≤ 100000
theorem gF_ok (h : tK t ℓ) {p q : Nat} {o : Option (Nat × Nat × Nat)} (hp : p ≤ ℓ) (hg : gF t ℓ p = (o, q)) : q ≤ ℓ ∧ (∀ x, o = some x → fK x) ∧ (o = none → skp t ℓ q = q) := by
  rcases gF_cases (t := t) (ℓ := ℓ) p with ⟨q', a1, e⟩ | ⟨a, q1, q', a1, a2, e⟩ | ⟨a, q1, q2, q', a1, a2, a3, e⟩ | ⟨a, q1, q2, c, q3, q', a1, a2, a3, a4, e⟩ | ⟨a, q1, q2, c, q3, q4, q', a1, a2, a3, a4, a5, e⟩ | ⟨a, q1, q2, c, q3, q4, z, q', a1, a2, a3, a4, a5, e⟩
  · rw [e] at hg
    obtain ⟨rfl, rfl⟩ := Prod.mk.inj hg
    have w := gP_ok h hp a1
    exact ⟨w.1, fun x hx => (by cases hx), fun _ => w.2.2 rfl⟩
  · rw [e] at hg
    obtain ⟨rfl, rfl⟩ := Prod.mk.inj hg
    have w := gS_ok h (gP_ok h hp a1).1 a2
    exact ⟨w.1, fun x hx => (by cases hx), fun _ => w.2 rfl⟩
  · rw [e] at hg
    obtain ⟨rfl, rfl⟩ := Prod.mk.inj hg
    have w := gP_ok h (gS_ok h (gP_ok h hp a1).1 a2).1 a3
    exact ⟨w.1, fun x hx => (by cases hx), fun _ => w.2.2 rfl⟩
  · rw [e] at hg
    obtain ⟨rfl, rfl⟩ := Prod.mk.inj hg
    have w := gS_ok h (gP_ok h (gS_ok h (gP_ok h hp a1).1 a2).1 a3).1 a4
    exact ⟨w.1, fun x hx => (by cases hx), fun _ => w.2 rfl⟩
  · rw [e] at hg
    obtain ⟨rfl, rfl⟩ := Prod.mk.inj hg
    have w := gN_ok h (gS_ok h (gP_ok h (gS_ok h (gP_ok h hp a1).1 a2).1 a3).1 a4).1 a5
    exact ⟨w.1, fun x hx => (by cases hx), fun _ => w.2.2 rfl⟩
  · rw [e] at hg
    obtain ⟨rfl, rfl⟩ := Prod.mk.inj hg
    have w3 := gP_ok h (gS_ok h (gP_ok h hp a1).1 a2).1 a3
    have w := gN_ok h (gS_ok h w3.1 a4).1 a5
    refine ⟨w.1, fun x hx => ?_, fun z => by cases z⟩
    cases hx
    exact ⟨(gP_ok h hp a1).2.1 a rfl, w3.2.1 c rfl, w.2.1 z rfl⟩
/-- a flow, or its fault; k flows were read, the draft has d -/
def gG (t : Nat → Int32) (ℓ d k p : Nat) : Option (Nat × Nat × Nat) × Nat := if 16 ≤ d + k then (none, skp t ℓ p) else gF t ℓ (skp t ℓ p)
theorem gG_ok (h : tK t ℓ) {d k p q : Nat} {o : Option (Nat × Nat × Nat)} (hp : p ≤ ℓ) (hg : gG t ℓ d k p = (o, q)) : q ≤ ℓ ∧ (∀ x, o = some x → fK x ∧ d + k < 16) ∧ (o = none → skp t ℓ q = q) := by
  have hs := skp_le h hp
  unfold gG at hg
  split at hg
  · obtain ⟨rfl, rfl⟩ := Prod.mk.inj hg
    exact ⟨hs, fun x hx => (by cases hx), fun _ => skp_2 h⟩
  · have w := gF_ok h hs hg
    exact ⟨w.1, fun x hx => ⟨w.2.1 x hx, by omega⟩, w.2.2⟩
/-- the whole text: whether it has no fault, where it ends, its flows -/
def gL (t : Nat → Int32) (ℓ d : Nat) : Nat → Nat → Nat → Bool × Nat × List (Nat × Nat × Nat)
  | 0, _, p => (false, p, [])
  | m + 1, k, p => match gG t ℓ d k p with
    | (none, q) => (false, q, [])
    | (some x, q) => if ℓ ≤ skp t ℓ q then (true, skp t ℓ q, [x]) else match gS t ℓ (skp t ℓ q) 44 with
      | (false, q2) => (false, q2, [x])
      | (true, q2) => ((gL t ℓ d m (k + 1) q2).1, (gL t ℓ d m (k + 1) q2).2.1, x :: (gL t ℓ d m (k + 1) q2).2.2)
theorem gL_cases (d m k p : Nat) : (∃ q, gG t ℓ d k p = (none, q) ∧ gL t ℓ d (m + 1) k p = (false, q, [])) ∨ (∃ x q, gG t ℓ d k p = (some x, q) ∧ ℓ ≤ skp t ℓ q ∧ gL t ℓ d (m + 1) k p = (true, skp t ℓ q, [x])) ∨ (∃ x q q2, gG t ℓ d k p = (some x, q) ∧ skp t ℓ q < ℓ ∧ gS t ℓ (skp t ℓ q) 44 = (false, q2) ∧ gL t ℓ d (m + 1) k p = (false, q2, [x])) ∨ ∃ x q q2, gG t ℓ d k p = (some x, q) ∧ skp t ℓ q < ℓ ∧ gS t ℓ (skp t ℓ q) 44 = (true, q2) ∧ gL t ℓ d (m + 1) k p = ((gL t ℓ d m (k + 1) q2).1, (gL t ℓ d m (k + 1) q2).2.1, x :: (gL t ℓ d m (k + 1) q2).2.2) := by
  match h1 : gG t ℓ d k p with
  | (none, q) => exact Or.inl ⟨q, rfl, by rw [gL, h1]⟩
  | (some x, q) =>
    rcases Nat.lt_or_ge (skp t ℓ q) ℓ with hl | hl
    · match h2 : gS t ℓ (skp t ℓ q) 44 with
      | (false, q2) => exact Or.inr (Or.inr (Or.inl ⟨x, q, q2, rfl, hl, h2, by rw [gL, h1]; dsimp only; rw [if_neg (by omega), h2]⟩))
      | (true, q2) => exact Or.inr (Or.inr (Or.inr ⟨x, q, q2, rfl, hl, h2, by rw [gL, h1]; dsimp only; rw [if_neg (by omega), h2]⟩))
    · exact Or.inr (Or.inl ⟨x, q, rfl, hl, by rw [gL, h1]; dsimp only; rw [if_pos hl]⟩)
theorem gL_ok (h : tK t ℓ) {d : Nat} : ∀ m k p, p ≤ ℓ → (∀ x, x ∈ (gL t ℓ d m k p).2.2 → fK x) ∧ (d + k ≤ 16 → d + k + (gL t ℓ d m k p).2.2.length ≤ 16)
  | 0, k, p, _ => ⟨fun x hx => (by cases hx), fun hd => hd⟩
  | m + 1, k, p, hp => by
    rcases gL_cases (t := t) (ℓ := ℓ) d m k p with ⟨q, a1, e⟩ | ⟨x, q, a1, a2, e⟩ | ⟨x, q, q2, a1, a2, a3, e⟩ | ⟨x, q, q2, a1, a2, a3, e⟩
    · rw [e]
      exact ⟨fun x hx => (by cases hx), fun hd => hd⟩
    · rw [e]
      have w := (gG_ok h hp a1).2.1 x rfl
      exact ⟨fun y hy => by rw [List.mem_singleton.mp hy]; exact w.1, fun hd => by simp only [List.length_singleton]; omega⟩
    · rw [e]
      have w := (gG_ok h hp a1).2.1 x rfl
      exact ⟨fun y hy => by rw [List.mem_singleton.mp hy]; exact w.1, fun hd => by simp only [List.length_singleton]; omega⟩
    · rw [e]
      have w := gG_ok h hp a1
      have w1 := w.2.1 x rfl
      have w2 := gS_ok h (skp_le h w.1) a3
      have ih := gL_ok h (d := d) m (k + 1) q2 w2.1
      refine ⟨fun y hy => ?_, fun hd => ?_⟩
      · rcases List.mem_cons.mp hy with z | z
        · rw [z]; exact w1.1
        · exact ih.1 y z
      · have := ih.2 (by omega)
        simp only [List.length_cons]
        omega
end
