/-! chains of ticks -/
noncomputable def ordOf (md : Option ((Nat → Nat) × Nat)) (r : Nat → Int32) : Nat × (Nat → Nat) := match md with
  | none => ordS r (bfS r) (nG r)
  | some fk => ofxS r fk.1 fk.2
def dlOf (md : Option ((Nat → Nat) × Nat)) : Bool := match md with
  | none => true
  | some _ => false
def mdV (md : Option ((Nat → Nat) × Nat)) (r : Nat → Int32) : Prop := match md with
  | none => True
  | some fk => ∃ P, fixK r fk.1 P fk.2
def tkS (md : Option ((Nat → Nat) × Nat)) (r r' : Nat → Int32) : Prop := tkR (dlOf md) (ordOf md r).1 (ordOf md r).2 r r'
theorem ordOf_C {md : Option ((Nat → Nat) × Nat)} {r : Nat → Int32} {T : Nat} (ho : okR r T) (hv : mdV md r) : ordC r (ordOf md r).1 (ordOf md r).2 := by
  cases md with
  | none => exact ordS_C ho.1 _
  | some fk =>
    obtain ⟨P, hP⟩ := hv
    exact ofxS_C ho hP
theorem op_mono {r r' : Nat → Int32} {M : Nat} {O : Nat → Nat} {dl : Bool} (h : tkR dl M O r r') {g : Nat} (hg : g < nG r) (ho : opB r' g = true) {T : Nat} (hk : okR r T) (hT : T ≤ 900000) (hO : ordC r M O) : opB r g = true := by
  obtain ⟨a0, ⟨a1, a2, a3, a6, a7⟩, a4, a5, a10, a42, am, ag, ⟨ae, al⟩, ax⟩ := h
  unfold opB at ho ⊢
  rw [(ag g hg).1 4 (by omega) (by omega), (ag g hg).2.1] at ho
  simp only [Bool.and_eq_true, decide_eq_true_eq] at ho ⊢
  refine ⟨ho.1, ?_⟩
  have h2 := ho.2
  unfold enS at h2
  by_cases hd : dnS r dl M O g = true
  · have := ((dn_iff hk hT hO hg).mp hd).1
    unfold opB at this
    simp at this
    exact this.2
  · rw [if_neg hd] at h2
    exact h2
def chn (md : Option ((Nat → Nat) × Nat)) (ρ : Nat → Nat → Int32) (n : Nat) : Prop := ∀ k, k < n → tkS md (ρ k) (ρ (k + 1))
theorem chn_ok {md : Option ((Nat → Nat) × Nat)} {ρ : Nat → Nat → Int32} {n T : Nat} (h0 : okR (ρ 0) T) (hv : mdV md (ρ 0)) (hT : T + n ≤ 900000) (hc : chn md ρ n) : ∀ k, k ≤ n → okR (ρ k) (T + k) ∧ mdV md (ρ k) ∧ nG (ρ k) = nG (ρ 0) := by
  intro k
  induction k with
  | zero => exact fun _ => ⟨h0, hv, rfl⟩
  | succ k ih =>
    intro hk
    obtain ⟨i1, i2, i3⟩ := ih (by omega)
    have hO := ordOf_C i1 i2
    have hs := hc k (by omega)
    have h1 := okR_tick i1 (by omega) hO hs
    have eG := tk_nG hs
    refine ⟨h1, ?_, by rw [eG, i3]⟩
    cases md with
    | none => trivial
    | some fk =>
      obtain ⟨P, p1, p2, p3⟩ := i2
      refine ⟨P, p1, fun j hj => by rw [eG]; exact p2 j hj, fun g hg hop => ?_⟩
      rw [eG] at hg
      exact p3 g hg (op_mono hs hg hop i1 (by omega) hO)
theorem chn_idle {md : Option ((Nat → Nat) × Nat)} {ρ : Nat → Nat → Int32} {n T : Nat} (h0 : okR (ρ 0) T) (hv : mdV md (ρ 0)) (hT : T + n ≤ 900000) (hc : chn md ρ n) {k : Nat} (hi : idle (ρ k)) : ∀ j, k ≤ j → j ≤ n → idle (ρ j) ∧ ∀ g, g < nG (ρ 0) → gO (ρ j) g 3 = gO (ρ k) g 3 ∧ opB (ρ j) g = opB (ρ k) g := by
  intro j
  induction j with
  | zero => intro h1 _; rw [show k = 0 by omega] at hi ⊢; exact ⟨hi, fun _ _ => ⟨rfl, rfl⟩⟩
  | succ j ih =>
    intro h1 h2
    rcases Nat.lt_or_ge k (j + 1) with q | q
    · obtain ⟨i1, i2⟩ := ih (by omega) (by omega)
      obtain ⟨a1, a2, a3⟩ := chn_ok h0 hv hT hc j (by omega)
      obtain ⟨b1, b2⟩ := idle_tick a1 (by omega) (ordOf_C a1 a2) i1 (hc j (by omega))
      refine ⟨b1, fun g hg => ?_⟩
      rw [(b2 g (by omega)).1, (b2 g (by omega)).2]
      exact i2 g hg
    · rw [show k = j + 1 by omega] at hi ⊢
      exact ⟨hi, fun _ _ => ⟨rfl, rfl⟩⟩
/-! the bound -/
def ldN (r : Nat → Int32) (p : Nat) : Nat → Nat := sumN (fun g => if opB r g = true then unN r g (nF r g) p else 0)
def thrN (r : Nat → Int32) (R : Nat → Nat → Int32) (g p : Nat) : Nat := sumN (fun f => if vN (fO r g f 0) = p ∨ 8 + vN (fO r g f 1) = p then vN (R g f) else 0) (nF r g)
theorem sumN_chg {f f' : Nat → Nat} {a : Nat} : ∀ {n : Nat}, (∀ g, g < n → g ≠ a → f' g = f g) → a < n → sumN f' n + f a = sumN f n + f' a
  | 0, _, h => absurd h (Nat.not_lt_zero a)
  | n + 1, h, ha => by
    rw [sumN, sumN]
    rcases Nat.lt_or_ge a n with q | q
    · have ih := sumN_chg (f := f) (f' := f') (a := a) (n := n) (fun g hg => h g (by omega)) q
      rw [h n (by omega) (by omega)]
      omega
    · have e : a = n := by omega
      subst e
      rw [sumN_cg (fun g hg => h g (by omega) (by omega))]
      omega
theorem sumN_add {f g : Nat → Nat} : ∀ n, sumN (fun i => f i + g i) n = sumN f n + sumN g n
  | 0 => rfl
  | n + 1 => by rw [sumN, sumN, sumN, sumN_add n]; omega
section
variable {r r' : Nat → Int32} {T M : Nat} {O : Nat → Nat} {dl : Bool}
theorem shA_bal {g p : Nat} (hk : flK r g (nF r g)) {R A : Nat → Int32} (hA : avK A) (hR : ∀ f, f < nF r g → ∃ x, R f = nI x ∧ x ≤ vN (fO r g f 3)) (hp : p < 16) : ∀ i, i ≤ nF r g → vN (shA r g R A i p) + sumN (fun f => if vN (fO r g f 0) = p ∨ 8 + vN (fO r g f 1) = p then vN (moS r g R A f) else 0) i = vN (A p)
  | 0, _ => rfl
  | i + 1, hi => by
    have ih := shA_bal hk hA hR hp i (by omega)
    have hav := shA_av hk hA hR i (by omega) p hp
    obtain ⟨x, x1, x2⟩ := hR i (by omega)
    have hm := moS_v hk hA hR (i := i) (by omega) x1 x2
    have h100 := (hk.2.2 i (by omega)).2.2.2
    have e : shA r g R A (i + 1) p = shA r g R A i p - thr1 r g i p (moS r g R A i) := rfl
    rw [sumN, e]
    unfold thr1
    by_cases hu : vN (fO r g i 0) = p ∨ 8 + vN (fO r g i 1) = p
    · rw [if_pos hu, if_pos hu, hm]
      have hle : min (min (vN (fO r g i 3) - x) (vN (shA r g R A i (vN (fO r g i 0))))) (vN (shA r g R A i (8 + vN (fO r g i 1)))) ≤ vN (shA r g R A i p) := by
        rcases hu with h | h
        · rw [h]; omega
        · rw [h]; omega
      have h1 := hav.2
      have e5 := pk_sub hle
      rw [← hav.1] at e5
      rw [e5, vN_nI (by omega), vN_nI (by omega)]
      omega
    · rw [if_neg hu, if_neg hu, Int32.sub_zero]
      omega
theorem gv_bal (ho : okR r T) (hT : T ≤ 900000) (hO : ordC r M O) {p : Nat} (hp : p < 16) : ∀ k, k ≤ M → vN ((gvS r dl O k).1 p) + sumN (fun g => thrN r (gvS r dl O k).2.1 g p) (nG r) = vN (capR r p)
  | 0, _ => by
    have hz : sumN (fun g => thrN r (gvS r dl O 0).2.1 g p) (nG r) = 0 := sumN_z (fun g hg => sumN_z (fun f hf => by
      have e : (gvS r dl O 0).2.1 g f = 0 := rfl
      have v0 : vN (0 : Int32) = 0 := rfl
      rw [e, v0]
      split <;> rfl))
    rw [hz]
    rfl
  | k + 1, hk => by
    have ih := gv_bal ho hT hO hp k (by omega)
    obtain ⟨o1, o2⟩ := hO.1.2 k (by omega)
    have hA := gvS_av ho.1 (ho.tm hT) (dl := dl) hO.1 k (by omega)
    have hkf := ho.1.2.1 _ o1
    obtain ⟨d, d1, d2, d3⟩ := subS_av (ho.tm hT) o1 hkf hA dl p hp
    have hrt := (rtS_ok (ho.tm hT) o1 hkf hA dl).1
    have v0 : vN (0 : Int32) = 0 := rfl
    have hz : thrN r (gvS r dl O k).2.1 (O k) p = 0 := sumN_z (fun f hf => by
      rw [gvS_0 k (fun x hx q => by have := hO.2.1 x k (by omega) (by omega) q; omega) f, v0]
      split <;> rfl)
    have hd : thrN r (gvS r dl O (k + 1)).2.1 (O k) p = d := by
      have e1 : thrN r (gvS r dl O (k + 1)).2.1 (O k) p = sumN (fun f => if vN (fO r (O k) f 0) = p ∨ 8 + vN (fO r (O k) f 1) = p then vN (rtS r dl (O k) (gvS r dl O k).1 f) else 0) (nF r (O k)) := sumN_cg (fun f hf => by
        have e : (gvS r dl O (k + 1)).2.1 (O k) f = rtS r dl (O k) (gvS r dl O k).1 f := by
          rw [gvS]
          simp only
          rw [if_pos ⟨trivial, hf⟩]
        rw [e])
      have e2 : sumI (fun f => thr1 r (O k) f p (rtS r dl (O k) (gvS r dl O k).1 f)) (nF r (O k)) = nI (sumN (fun f => if vN (fO r (O k) f 0) = p ∨ 8 + vN (fO r (O k) f 1) = p then vN (rtS r dl (O k) (gvS r dl O k).1 f) else 0) (nF r (O k))) := by
        rw [← sumI_nI]
        refine sumI_cg (fun f hf => ?_)
        obtain ⟨x, x1, x2⟩ := hrt f hf
        have h100 := (hkf.2.2 f hf).2.2.2
        unfold thr1
        split
        · rw [x1, vN_nI (by omega)]
        · rfl
      have hb := sumN_le (f := fun f => if vN (fO r (O k) f 0) = p ∨ 8 + vN (fO r (O k) f 1) = p then vN (rtS r dl (O k) (gvS r dl O k).1 f) else 0) (B := 100000) (n := nF r (O k)) (fun f hf => by
        obtain ⟨x, x1, x2⟩ := hrt f hf
        have h100 := (hkf.2.2 f hf).2.2.2
        try dsimp only
        split
        · rw [x1, vN_nI (by omega)]; omega
        · omega)
      have h16 := hkf.2.1
      have hAp := (hA p hp).2
      rw [e1]
      rw [d2] at e2
      exact ((nI_eq (by omega) (by omega)).mp e2).symm
    have hch := sumN_chg (f := fun g => thrN r (gvS r dl O k).2.1 g p) (f' := fun g => thrN r (gvS r dl O (k + 1)).2.1 g p) (a := O k) (n := nG r) (fun g hg hne => by
      refine sumN_cg (fun f hf => ?_)
      have e : (gvS r dl O (k + 1)).2.1 g f = (gvS r dl O k).2.1 g f := by
        rw [gvS]
        simp only
        rw [if_neg (fun q => hne q.1)]
      rw [e]) o1
    try dsimp only at hch
    rw [hz, hd] at hch
    have hAp := (hA p hp).2
    have e1 : (gvS r dl O (k + 1)).1 p = nI (vN ((gvS r dl O k).1 p) - d) := by
      rw [gvS]
      exact d1
    rw [e1, vN_nI (by omega)]
    omega
theorem sh_bal (ho : okR r T) (hT : T ≤ 900000) (hO : ordC r M O) {p : Nat} (hp : p < 16) : ∀ k, k ≤ M → vN ((shG r O (gvS r dl O M).1 (gvS r dl O M).2.1 k).1 p) + sumN (fun g => thrN r (shG r O (gvS r dl O M).1 (gvS r dl O M).2.1 k).2 g p) (nG r) = vN (capR r p)
  | 0, _ => gv_bal ho hT hO hp M (Nat.le_refl _)
  | k + 1, hk => by
    have ih := sh_bal ho hT hO hp k (by omega)
    obtain ⟨o1, o2⟩ := hO.1.2 k (by omega)
    obtain ⟨a1, a2⟩ := shG_ok ho.1 (ho.tm hT) (dl := dl) hO.1 k (by omega)
    have hkf := ho.1.2.1 _ o1
    have hb := shA_bal hkf a1 (a2 _ o1) hp (nF r (O k)) (Nat.le_refl _)
    have hd : thrN r (shG r O (gvS r dl O M).1 (gvS r dl O M).2.1 (k + 1)).2 (O k) p = thrN r (shG r O (gvS r dl O M).1 (gvS r dl O M).2.1 k).2 (O k) p + sumN (fun f => if vN (fO r (O k) f 0) = p ∨ 8 + vN (fO r (O k) f 1) = p then vN (moS r (O k) ((shG r O (gvS r dl O M).1 (gvS r dl O M).2.1 k).2 (O k)) (shG r O (gvS r dl O M).1 (gvS r dl O M).2.1 k).1 f) else 0) (nF r (O k)) := by
      unfold thrN
      rw [← sumN_add]
      refine sumN_cg (fun f hf => ?_)
      have e : (shG r O (gvS r dl O M).1 (gvS r dl O M).2.1 (k + 1)).2 (O k) f = (shG r O (gvS r dl O M).1 (gvS r dl O M).2.1 k).2 (O k) f + moS r (O k) ((shG r O (gvS r dl O M).1 (gvS r dl O M).2.1 k).2 (O k)) (shG r O (gvS r dl O M).1 (gvS r dl O M).2.1 k).1 f := by
        rw [shG]
        simp only
        rw [if_pos ⟨trivial, hf⟩]
      rw [e]
      obtain ⟨x, x1, x2⟩ := a2 _ o1 f hf
      have h100 := (hkf.2.2 f hf).2.2.2
      have hm := moS_v hkf a1 (a2 _ o1) hf x1 x2
      split
      · rw [hm, x1, nI_add, vN_nI (by omega), vN_nI (by omega), vN_nI (by omega)]
      · rfl
    have hch := sumN_chg (f := fun g => thrN r (shG r O (gvS r dl O M).1 (gvS r dl O M).2.1 k).2 g p) (f' := fun g => thrN r (shG r O (gvS r dl O M).1 (gvS r dl O M).2.1 (k + 1)).2 g p) (a := O k) (n := nG r) (fun g hg hne => by
      refine sumN_cg (fun f hf => ?_)
      have e : (shG r O (gvS r dl O M).1 (gvS r dl O M).2.1 (k + 1)).2 g f = (shG r O (gvS r dl O M).1 (gvS r dl O M).2.1 k).2 g f := by
        rw [shG]
        simp only
        rw [if_neg (fun q => hne q.1)]
      rw [e]) o1
    try dsimp only at hch
    have e1 : (shG r O (gvS r dl O M).1 (gvS r dl O M).2.1 (k + 1)).1 p = shA r (O k) ((shG r O (gvS r dl O M).1 (gvS r dl O M).2.1 k).2 (O k)) (shG r O (gvS r dl O M).1 (gvS r dl O M).2.1 k).1 (nF r (O k)) p := by
      rw [shG]
    rw [e1]
    omega
theorem fin_bal (ho : okR r T) (hT : T ≤ 900000) (hO : ordC r M O) {p : Nat} (hp : p < 16) : sumN (fun g => thrN r (finR r dl M O) g p) (nG r) ≤ vN (capR r p) := by
  unfold finR
  by_cases h2 : r 2 = 1
  · rw [if_pos h2]
    have := sh_bal ho hT hO (dl := dl) hp M (Nat.le_refl _)
    omega
  · rw [if_neg h2]
    have := gv_bal ho hT hO (dl := dl) hp M (Nat.le_refl _)
    omega
theorem ld_tick (ho : okR r T) (hT : T + 1 ≤ 900000) (hO : ordC r M O) (h : tkR dl M O r r') {p : Nat} (hp : p < 16) : ldN r p (nG r) ≤ ldN r' p (nG r') + vN (capR r p) := by
  have eG := tk_nG h
  have eF := fun g hg => tk_nF h (g := g) hg
  have ho' := okR_tick ho hT hO h
  have hb := fin_bal ho (by omega) hO (dl := dl) hp
  obtain ⟨a0, ⟨a1, a2, a3, a6, a7⟩, a4, a5, a10, a42, am, ag, ⟨ae, al⟩, ax⟩ := id h
  rw [eG]
  refine Nat.le_trans ?_ (Nat.add_le_add_left hb _)
  unfold ldN
  rw [← sumN_add]
  refine sumN_mono (fun g hg => ?_)
  by_cases hop : opB r g = true
  · rw [if_pos hop]
    have hun : unN r g (nF r g) p = unN r' g (nF r' g) p + thrN r (finR r dl M O) g p := by
      rw [eF g hg]
      unfold unN thrN
      rw [← sumN_add]
      refine sumN_cg (fun f hf => ?_)
      have hfl := (ag g hg).2.2 f hf
      have hfo := finR_ok ho.1 (ho.tm (by omega)) (dl := dl) hO.1 hg hf
      have h100 := ((ho.1.2.1 g hg).2.2 f hf).2.2.2
      rw [hfl.1 0 (by omega), hfl.1 1 (by omega), hfl.2.1, rest_ok ho.1 (ho.tm (by omega)) hO.1 hg hf]
      split
      · rw [vN_nI (by omega)]; omega
      · rfl
    by_cases hop' : opB r' g = true
    · rw [if_pos hop', hun]
      exact Nat.le_refl _
    · rw [if_neg hop']
      have hz : unN r' g (nF r' g) p = 0 := by
        have hgk' := ho'.2.2.2.2.2.2.2 g (by omega)
        have h4 : gO r' g 4 = 0 := by
          rw [(ag g hg).1 4 (by omega) (by omega)]
          unfold opB at hop
          simp at hop
          exact hop.1
        rcases hgk'.2.2.2.2.2 with ⟨q1, -⟩ | ⟨-, -, q3⟩
        · exact absurd (by unfold opB; rw [h4, q1]; rfl) hop'
        · exact sumN_z (fun f hf => by
            rw [q3 f hf]
            split <;> rfl)
      omega
  · rw [if_neg hop]
    exact Nat.zero_le _
end
theorem ld_chn {md : Option ((Nat → Nat) × Nat)} {ρ : Nat → Nat → Int32} {n T : Nat} (h0 : okR (ρ 0) T) (hv : mdV md (ρ 0)) (hT : T + n ≤ 900000) (hc : chn md ρ n) {p : Nat} (hp : p < 16) : ∀ k, k ≤ n → ldN (ρ 0) p (nG (ρ 0)) ≤ ldN (ρ k) p (nG (ρ k)) + k * vN (capR (ρ 0) p) ∧ capR (ρ k) p = capR (ρ 0) p := by
  intro k
  induction k with
  | zero => exact fun _ => ⟨by omega, rfl⟩
  | succ k ih =>
    intro hk
    obtain ⟨i1, i2⟩ := ih (by omega)
    obtain ⟨a1, a2, a3⟩ := chn_ok h0 hv hT hc k (by omega)
    have h1 := ld_tick a1 (by omega) (ordOf_C a1 a2) (hc k (by omega)) hp
    have h2 : capR (ρ (k + 1)) p = capR (ρ k) p := (hc k (by omega)).2.2.2.2.1 _ (by omega) (by omega)
    rw [i2] at h1
    refine ⟨?_, by rw [h2, i2]⟩
    rw [Nat.succ_mul]
    omega
theorem ld_op {r : Nat → Int32} {p n : Nat} (h : 0 < ldN r p n) : 0 < opN r n := by
  rcases Nat.eq_zero_or_pos (opN r n) with q | q
  · have hz : ldN r p n = 0 := sumN_z (fun g hg => by
      have := sumN_0 q g hg
      try dsimp only at this
      by_cases ho : opB r g = true
      · rw [if_pos ho] at this; omega
      · rw [if_neg ho])
    omega
  · exact q
/-- the bound alone shows that 300 ticks don't do -/
theorem bound_open {md : Option ((Nat → Nat) × Nat)} {ρ : Nat → Nat → Int32} {n T : Nat} (h0 : okR (ρ 0) T) (hv : mdV md (ρ 0)) (hT : T + n ≤ 900000) (hc : chn md ρ n) {p : Nat} (hp : p < 16) (hb : n * vN (capR (ρ 0) p) < ldN (ρ 0) p (nG (ρ 0))) : ∀ k, k ≤ n → 0 < opN (ρ k) (nG (ρ k)) := by
  intro k hk
  have h1 := (ld_chn h0 hv hT hc hp k hk).1
  have h2 := Nat.mul_le_mul_right (vN (capR (ρ 0) p)) hk
  exact ld_op (p := p) (by omega)
