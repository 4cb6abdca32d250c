/-! the abstract heap: the next free address, and the cells by their addresses; an object: its class by its place in cls_all and its fields; an array: its kind (0 int, 1 long, 2 groups, 3 states), length, contents -/
abbrev AE : Type := (Nat × List Value) ⊕ (Nat × vp_A)
abbrev AH : Type := Nat × (Nat → Option AE)
def ab_E (aC : Nat → ClassId) (e : AE) : va_E := match e with
  | .inl o => .inr o
  | .inr a => .inl (aC a.1, a.2)
def ab_up (N : AH) (a : Nat) (e : AE) : AH := (N.1, fun q => if q = a then some e else N.2 q)
def ab_new (N : AH) (e : AE) : AH := (N.1 + 1, fun q => if q = N.1 then some e else N.2 q)
def ab_tys (aC : Nat → ClassId) : List (ClassId × FieldType) := [(aC 0, .int), (aC 1, .long), (aC 2, .object RX4), (aC 3, .object RX7)]
def hI (N : AH) (a c k : Nat) : Option Int32 := match N.2 a with
  | some (.inl o) => if o.1 = c then (match o.2[k]? with | some (.int v) => some v | _ => none) else none
  | _ => none
def hJ (N : AH) (a c k : Nat) : Option Int64 := match N.2 a with
  | some (.inl o) => if o.1 = c then (match o.2[k]? with | some (.long v) => some v | _ => none) else none
  | _ => none
def hR (N : AH) (a c k : Nat) : Option Nat := match N.2 a with
  | some (.inl o) => if o.1 = c then (match o.2[k]? with | some (.ref v) => some v | _ => none) else none
  | _ => none
def pV (N : AH) (a c k : Nat) (v : Value) : Option AH := match N.2 a with
  | some (.inl o) => if o.1 = c ∧ k < o.2.length then some (ab_up N a (.inl (o.1, o.2.set k v))) else none
  | _ => none
def pI (N : AH) (a c k : Nat) (v : Int32) : Option AH := pV N a c k (.int v)
def pZ (N : AH) (a c k : Nat) (v : Int32) : Option AH := if v = 0 ∨ v = 1 then pV N a c k (.int v) else none
def pJ (N : AH) (a c k : Nat) (v : Int64) : Option AH := pV N a c k (.long v)
def pR (N : AH) (a c k : Nat) (v : Nat) : Option AH := pV N a c k (.ref v)
def aI (N : AH) (a : Nat) (i : Int32) : Option Int32 := match N.2 a with
  | some (.inr (0, n, .inl f)) => if i < 0 ∨ n ≤ i.toNatClampNeg then none else some (f i.toNatClampNeg)
  | _ => none
def aJ (N : AH) (a : Nat) (i : Int32) : Option Int64 := match N.2 a with
  | some (.inr (1, n, .inr (.inl f))) => if i < 0 ∨ n ≤ i.toNatClampNeg then none else some (f i.toNatClampNeg)
  | _ => none
def aR (N : AH) (kd : Nat) (a : Nat) (i : Int32) : Option Nat := match N.2 a with
  | some (.inr (k, n, .inr (.inr (.inr (.inr f))))) => if k = kd then (if i < 0 ∨ n ≤ i.toNatClampNeg then none else f i.toNatClampNeg) else none
  | _ => none
def aL (N : AH) (a : Nat) : Option Int32 := match N.2 a with
  | some (.inr (0, n, .inl _)) => some (Int32.ofNat n)
  | _ => none
def sI (N : AH) (a : Nat) (i x : Int32) : Option AH := match N.2 a with
  | some (.inr (0, n, .inl f)) => if i < 0 ∨ n ≤ i.toNatClampNeg then none else some (ab_up N a (.inr (0, n, .inl (upd f i.toNatClampNeg x))))
  | _ => none
def sJ (N : AH) (a : Nat) (i : Int32) (x : Int64) : Option AH := match N.2 a with
  | some (.inr (1, n, .inr (.inl f))) => if i < 0 ∨ n ≤ i.toNatClampNeg then none else some (ab_up N a (.inr (1, n, .inr (.inl (vp_updL f i.toNatClampNeg x)))))
  | _ => none
/-- a store of an object of the class ci into an array of references of the kind kd -/
def sR (N : AH) (kd ci : Nat) (a : Nat) (i : Int32) (v : Nat) : Option AH := match N.2 a, N.2 v with
  | some (.inr (k, n, .inr (.inr (.inr (.inr f))))), some (.inl o) => if k = kd ∧ o.1 = ci then (if i < 0 ∨ n ≤ i.toNatClampNeg then none else some (ab_up N a (.inr (kd, n, .inr (.inr (.inr (.inr (va_up f i.toNatClampNeg (some v))))))))) else none
  | _, _ => none
def nO (N : AH) (c : Nat) (fs : List Value) : AH := ab_new N (.inl (c, fs))
def nI0 (N : AH) (n : Nat) : AH := ab_new N (.inr (0, n, .inl (fun _ => 0)))
def nJ0 (N : AH) (n : Nat) : AH := ab_new N (.inr (1, n, .inr (.inl (fun _ => 0))))
def nR0 (N : AH) (kd n : Nat) : AH := ab_new N (.inr (kd, n, .inr (.inr (.inr (.inr (fun _ => none))))))
/-- System.arraycopy between arrays of ints -/
def cI (N : AH) (a0 : Nat) (sp : Int32) (a1 : Nat) (dp n : Int32) : Option AH := match N.2 a0, N.2 a1 with
  | some (.inr (0, n0, .inl f)), some (.inr (0, n1, .inl g)) => if sp < 0 ∨ dp < 0 ∨ n < 0 ∨ n0 < sp.toNatClampNeg + n.toNatClampNeg ∨ n1 < dp.toNatClampNeg + n.toNatClampNeg then none else some (ab_up N a1 (.inr (0, n1, .inl (va_cpy f g sp.toNatClampNeg dp.toNatClampNeg n.toNatClampNeg))))
  | _, _ => none
def dV (x y : Int32) : Option Int32 := if y = 0 then none else some (x / y)
def dM (x y : Int32) : Option Int32 := if y = 0 then none else some (x - x / y * y)
def rZ (v : Int32) (N : AH) : Option (Int32 × AH) := if v = 0 ∨ v = 1 then some (v, N) else none
def xS (L : Nat) (xs : Nat → Int32) (i : Int32) : Option Int32 := if i < 0 ∨ L ≤ i.toNatClampNeg then none else some (xs i.toNatClampNeg)
def thr (j : Nat) : Int32 := match j with
  | 0 => 100
  | 1 => 1000
  | 2 => 10000
  | _ => 100000
def ob {α β : Type} (x : Option α) (f : α → Option β) : Option β := match x with
  | some a => f a
  | none => none
def ob2 {α β : Type} (x : Option (α × AH)) (f : α → AH → Option β) : Option β := match x with
  | some q => f q.1 q.2
  | none => none
def owp {α : Type} (x : Option α) (P : α → Prop) : Prop := match x with
  | some a => P a
  | none => False
theorem owp_ob {α β : Type} {x : Option α} {f : α → Option β} {P : β → Prop} (h : owp (ob x f) P) : ∃ a, x = some a ∧ owp (f a) P := by
  cases x with
  | none => exact h.elim
  | some a => exact ⟨a, rfl, h⟩
theorem owp_ob2 {α β : Type} {x : Option (α × AH)} {f : α → AH → Option β} {P : β → Prop} (h : owp (ob2 x f) P) : ∃ a N, x = some (a, N) ∧ owp (f a N) P := by
  cases x with
  | none => exact h.elim
  | some a => exact ⟨a.1, a.2, rfl, h⟩
theorem owp_t {α : Type} {c : Prop} [Decidable c] {x y : Option α} {P : α → Prop} (hc : c) (h : owp (if c then x else y) P) : owp x P := by rw [if_pos hc] at h; exact h
theorem owp_f {α : Type} {c : Prop} [Decidable c] {x y : Option α} {P : α → Prop} (hc : ¬ c) (h : owp (if c then x else y) P) : owp y P := by rw [if_neg hc] at h; exact h
/-! what the operations say when they answer -/
theorem hI_ok {N : AH} {a c k : Nat} {v : Int32} (h : hI N a c k = some v) : ∃ fs, N.2 a = some (.inl (c, fs)) ∧ fs[k]? = some (.int v) := by
  unfold hI at h
  split at h
  · rename_i o ho
    split at h
    · rename_i hc
      split at h
      · rename_i w hw
        cases h
        exact ⟨o.2, by rw [ho, ← hc], hw⟩
      · cases h
    · cases h
  · cases h
theorem hJ_ok {N : AH} {a c k : Nat} {v : Int64} (h : hJ N a c k = some v) : ∃ fs, N.2 a = some (.inl (c, fs)) ∧ fs[k]? = some (.long v) := by
  unfold hJ at h
  split at h
  · rename_i o ho
    split at h
    · rename_i hc
      split at h
      · rename_i w hw
        cases h
        exact ⟨o.2, by rw [ho, ← hc], hw⟩
      · cases h
    · cases h
  · cases h
theorem hR_ok {N : AH} {a c k : Nat} {v : Nat} (h : hR N a c k = some v) : ∃ fs, N.2 a = some (.inl (c, fs)) ∧ fs[k]? = some (.ref v) := by
  unfold hR at h
  split at h
  · rename_i o ho
    split at h
    · rename_i hc
      split at h
      · rename_i w hw
        cases h
        exact ⟨o.2, by rw [ho, ← hc], hw⟩
      · cases h
    · cases h
  · cases h
theorem pV_ok {N N' : AH} {a c k : Nat} {v : Value} (h : pV N a c k v = some N') : ∃ fs, N.2 a = some (.inl (c, fs)) ∧ k < fs.length ∧ N' = ab_up N a (.inl (c, fs.set k v)) := by
  unfold pV at h
  split at h
  · rename_i o ho
    split at h
    · rename_i hc
      cases h
      exact ⟨o.2, by rw [ho, ← hc.1], hc.2, by rw [hc.1]⟩
    · cases h
  · cases h
theorem aI_ok {N : AH} {a : Nat} {i v : Int32} (h : aI N a i = some v) : ∃ n f, N.2 a = some (.inr (0, n, .inl f)) ∧ ¬ (i < 0 ∨ n ≤ i.toNatClampNeg) ∧ v = f i.toNatClampNeg := by
  unfold aI at h
  split at h
  · rename_i n f ho
    split at h
    · cases h
    · rename_i hc
      cases h
      exact ⟨n, f, ho, hc, rfl⟩
  · cases h
theorem aJ_ok {N : AH} {a : Nat} {i : Int32} {v : Int64} (h : aJ N a i = some v) : ∃ n f, N.2 a = some (.inr (1, n, .inr (.inl f))) ∧ ¬ (i < 0 ∨ n ≤ i.toNatClampNeg) ∧ v = f i.toNatClampNeg := by
  unfold aJ at h
  split at h
  · rename_i n f ho
    split at h
    · cases h
    · rename_i hc
      cases h
      exact ⟨n, f, ho, hc, rfl⟩
  · cases h
theorem aR_ok {N : AH} {kd a : Nat} {i : Int32} {v : Nat} (h : aR N kd a i = some v) : ∃ n f, N.2 a = some (.inr (kd, n, .inr (.inr (.inr (.inr f))))) ∧ ¬ (i < 0 ∨ n ≤ i.toNatClampNeg) ∧ f i.toNatClampNeg = some v := by
  unfold aR at h
  split at h
  · rename_i k n f ho
    split at h
    · rename_i hk
      split at h
      · cases h
      · rename_i hc
        exact ⟨n, f, by rw [ho, hk], hc, h⟩
    · cases h
  · cases h
theorem aL_ok {N : AH} {a : Nat} {v : Int32} (h : aL N a = some v) : ∃ n f, N.2 a = some (.inr (0, n, .inl f)) ∧ v = Int32.ofNat n := by
  unfold aL at h
  split at h
  · rename_i n f ho
    cases h
    exact ⟨n, f, ho, rfl⟩
  · cases h
theorem sI_ok {N N' : AH} {a : Nat} {i x : Int32} (h : sI N a i x = some N') : ∃ n f, N.2 a = some (.inr (0, n, .inl f)) ∧ ¬ (i < 0 ∨ n ≤ i.toNatClampNeg) ∧ N' = ab_up N a (.inr (0, n, .inl (upd f i.toNatClampNeg x))) := by
  unfold sI at h
  split at h
  · rename_i n f ho
    split at h
    · cases h
    · rename_i hc
      cases h
      exact ⟨n, f, ho, hc, rfl⟩
  · cases h
theorem sJ_ok {N N' : AH} {a : Nat} {i : Int32} {x : Int64} (h : sJ N a i x = some N') : ∃ n f, N.2 a = some (.inr (1, n, .inr (.inl f))) ∧ ¬ (i < 0 ∨ n ≤ i.toNatClampNeg) ∧ N' = ab_up N a (.inr (1, n, .inr (.inl (vp_updL f i.toNatClampNeg x)))) := by
  unfold sJ at h
  split at h
  · rename_i n f ho
    split at h
    · cases h
    · rename_i hc
      cases h
      exact ⟨n, f, ho, hc, rfl⟩
  · cases h
theorem sR_ok {N N' : AH} {kd ci a : Nat} {i : Int32} {v : Nat} (h : sR N kd ci a i v = some N') : ∃ n f fs, N.2 a = some (.inr (kd, n, .inr (.inr (.inr (.inr f))))) ∧ N.2 v = some (.inl (ci, fs)) ∧ ¬ (i < 0 ∨ n ≤ i.toNatClampNeg) ∧ N' = ab_up N a (.inr (kd, n, .inr (.inr (.inr (.inr (va_up f i.toNatClampNeg (some v))))))) := by
  unfold sR at h
  split at h
  · rename_i k n f o ho hv
    split at h
    · rename_i hk
      split at h
      · cases h
      · rename_i hc
        cases h
        exact ⟨n, f, o.2, by rw [ho, hk.1], by rw [hv, ← hk.2], hc, rfl⟩
    · cases h
  · cases h
theorem cI_ok {N N' : AH} {a0 a1 : Nat} {sp dp n : Int32} (h : cI N a0 sp a1 dp n = some N') : ∃ n0 f n1 g, N.2 a0 = some (.inr (0, n0, .inl f)) ∧ N.2 a1 = some (.inr (0, n1, .inl g)) ∧ ¬ sp < 0 ∧ ¬ dp < 0 ∧ ¬ n < 0 ∧ sp.toNatClampNeg + n.toNatClampNeg ≤ n0 ∧ dp.toNatClampNeg + n.toNatClampNeg ≤ n1 ∧ N' = ab_up N a1 (.inr (0, n1, .inl (va_cpy f g sp.toNatClampNeg dp.toNatClampNeg n.toNatClampNeg))) := by
  unfold cI at h
  split at h
  · rename_i n0 f n1 g h0 h1
    split at h
    · cases h
    · rename_i hc
      cases h
      exact ⟨n0, f, n1, g, h0, h1, fun q => hc (Or.inl q), fun q => hc (Or.inr (Or.inl q)), fun q => hc (Or.inr (Or.inr (Or.inl q))), Nat.not_lt.mp fun q => hc (Or.inr (Or.inr (Or.inr (Or.inl q)))), Nat.not_lt.mp fun q => hc (Or.inr (Or.inr (Or.inr (Or.inr q)))), rfl⟩
  · cases h
theorem dV_ok {x y v : Int32} (h : dV x y = some v) : ¬ y = 0 ∧ v = x / y := by
  unfold dV at h
  split at h
  · cases h
  · rename_i hc
    cases h
    exact ⟨hc, rfl⟩
theorem dM_ok {x y v : Int32} (h : dM x y = some v) : ¬ y = 0 ∧ v = x - x / y * y := by
  unfold dM at h
  split at h
  · cases h
  · rename_i hc
    cases h
    exact ⟨hc, rfl⟩
/-! the abstract heap and the machine's -/
def Rp (G : va_G) (aC : Nat → ClassId) (b0 : Nat) (N : AH) (H : Heap) : Prop := H.size = N.1 ∧ b0 ≤ N.1 ∧ ∀ (a : Nat) (e : AE), N.2 a = some e → b0 ≤ a ∧ va_at G cls_all (a, ab_E aC e) H
theorem Rp.one {G : va_G} {aC : Nat → ClassId} {b0 : Nat} {N : AH} {H : Heap} (h : Rp G aC b0 N H) {a : Nat} {e : AE} (ha : N.2 a = some e) : va_P G cls_all [(a, ab_E aC e)] H := by
  intro k q hq
  cases k with
  | zero =>
    simp at hq
    subst hq
    exact (h.2.2 a e ha).2
  | succ k => simp at hq
theorem Rp.up {G : va_G} {aC : Nat → ClassId} {b0 : Nat} {N : AH} {H H1 : Heap} (h : Rp G aC b0 N H) {a : Nat} {e0 e : AE} (h0 : N.2 a = some e0) (h1 : va_at G cls_all (a, ab_E aC e) H1) (hz : H1.size = H.size) (oq : ∀ q : Nat, q ≠ a → H1[q]? = H[q]?) : Rp G aC b0 (ab_up N a e) H1 := by
  refine ⟨hz.trans h.1, h.2.1, fun q x hq => ?_⟩
  by_cases hqa : q = a
  · subst hqa
    simp [ab_up] at hq
    subst hq
    exact ⟨(h.2.2 q e0 h0).1, h1⟩
  · simp [ab_up, hqa] at hq
    exact ⟨(h.2.2 q x hq).1, (h.2.2 q x hq).2.kept (oq q hqa)⟩
theorem Rp.new {G : va_G} {aC : Nat → ClassId} {b0 : Nat} {N : AH} {H H1 : Heap} (h : Rp G aC b0 N H) {e : AE} (h1 : va_at G cls_all (H.size, ab_E aC e) H1) (hz : H1.size = H.size + 1) (oq : ∀ q : Nat, q < H.size → H1[q]? = H[q]?) : Rp G aC b0 (ab_new N e) H1 := by
  refine ⟨by rw [hz, h.1]; rfl, Nat.le_trans h.2.1 (Nat.le_succ _), fun q x hq => ?_⟩
  by_cases hqa : q = N.1
  · subst hqa
    simp [ab_new] at hq
    subst hq
    exact ⟨h.2.1, by rw [← h.1]; exact h1⟩
  · simp [ab_new, hqa] at hq
    have g := h.2.2 q x hq
    exact ⟨g.1, g.2.kept (oq q g.2.lt)⟩
def NWs : List Cond := [.methodLinkNest RX2 26 ⟨RX9, "isOneOf", "(II)Z"⟩ RX9, .methodLinkNest RX1 31 ⟨RX9, "isOneOf", "(II)Z"⟩ RX9, .methodLinkNest RX6 78 ⟨RX9, "roundedUp", "(II)I"⟩ RX9, .methodLinkNest RX7 84 ⟨RX9, "isOneOf", "(II)Z"⟩ RX9, .methodLinkNest RX8 204 ⟨RX9, "roundedUp", "(II)I"⟩ RX9, .methodLinkNest RX3 108 ⟨RX9, "isLess", "(II)Z"⟩ RX9, .fieldLinkNest RX1 45 RX9 "THRESHOLDS" "[I" RX9]
def KN (U : State) : Prop := ∀ w ∈ NWs, va_Nw w U
theorem NWs_on : ∀ w ∈ NWs, w.onTables = true := by
  intro w hw
  simp only [NWs, List.mem_cons, List.not_mem_nil, or_false] at hw
  rcases hw with rfl | rfl | rfl | rfl | rfl | rfl | rfl <;> rfl
theorem KN.same {u U : State} (h : u.vm = U.vm) (hk : KN u) : KN U := fun w hw => va_Nw.same (NWs_on w hw) h (hk w hw)
theorem KN.warm {s U : State} (hW : s.WarmedH U.vm) (hk : KN s) : KN U := by
  intro w hw
  have hz := hk w hw
  simp only [NWs, List.mem_cons, List.not_mem_nil, or_false] at hw
  rcases hw with rfl | rfl | rfl | rfl | rfl | rfl | rfl
  · exact va_Nw.warmM hW hz
  · exact va_Nw.warmM hW hz
  · exact va_Nw.warmM hW hz
  · exact va_Nw.warmM hW hz
  · exact va_Nw.warmM hW hz
  · exact va_Nw.warmM hW hz
  · exact va_Nw.warmF hW hz
def KK (G : va_G) (aC : Nat → ClassId) (t b0 : Nat) (U : State) (H : Heap) : Prop := va_K G cls_all (ab_tys aC) U ∧ KN U ∧ (va_AO RX4 U ∧ va_AO RX7 U) ∧ va_Z RX9 "THRESHOLDS" "[I" (.ref t) (fun q => b0 ≤ q) U H ∧ va_T .int t 4 (fun j => .int (thr j)) (fun q => b0 ≤ q) U H
theorem KK.warm {G : va_G} {aC : Nat → ClassId} {t b0 : Nat} {s U : State} {H H1 : Heap} (h : KK G aC t b0 s H) (hW : s.WarmedH U.vm) (hq : ∀ a : Nat, a < H.size → ¬ b0 ≤ a → H1[a]? = H[a]?) : KK G aC t b0 U H1 :=
  ⟨va_K.moved hW.alike h.1, h.2.1.warm hW, ⟨va_AO.moved hW.alike h.2.2.1.1, va_AO.moved hW.alike h.2.2.1.2⟩, (va_Z.moved hW.alike h.2.2.2.1).kept hq, (va_T.moved hW.alike h.2.2.2.2).kept hq⟩
theorem KK.same {G : va_G} {aC : Nat → ClassId} {t b0 : Nat} {u U : State} {H : Heap} (h : KK G aC t b0 u H) (hv : u.vm = U.vm) : KK G aC t b0 U H := by
  have ha : u.vm.Alike U.vm := by rw [hv]; exact Vm.Alike.refl U.vm
  exact ⟨va_K.moved ha h.1, h.2.1.same hv, ⟨va_AO.moved ha h.2.2.1.1, va_AO.moved ha h.2.2.1.2⟩, va_Z.moved ha h.2.2.2.1, va_T.moved ha h.2.2.2.2⟩
def CX (cc : ByteArray) (own : String) (nL : Nat) (G : va_G) (aC : Nat → ClassId) (t b0 : Nat) (p : Program) (s : State) (m : MethodId) (args : Array Value) (c : Code) : Prop := CallFix p m c cc nL s args WT own ∧ KK G aC t b0 s s.heap
/-- a method's contract: with the arguments av and the heap N it answers r and leaves N' -/
def Cpre (G : va_G) (aC : Nat → ClassId) (t b0 : Nat) (av : List Value) (N : AH) : Array Value → State → Prop := va_Pc av (fun U => Rp G aC b0 N U.heap ∧ KK G aC t b0 U U.heap)
def Cpost (G : va_G) (aC : Nat → ClassId) (b0 : Nat) (r : Option Value) (N : AH) : Array Value → State → Outcome → State → Prop := fun _ st o u => o = .returned r ∧ Rp G aC b0 N u.heap ∧ va_F (fun q => b0 ≤ q) st u
def Ct (y : MethodName) (cc : ByteArray) (nL : Nat) (ret : Option FieldType) (rm : Room) (av : List Value) (N : AH) (r : Option Value) (N' : AH) : Prop :=
  ∀ (l : Launch) (G : va_G) (aC : Nat → ClassId) (t b0 : Nat), Met l y (WS y cc nL ret) rm (Cpre G aC t b0 av N) (Cpost G aC b0 r N') rm.cells rm.slots (fun q => b0 ≤ q)
theorem Cpre_blind {G : va_G} {aC : Nat → ClassId} {t b0 : Nat} {av : List Value} {N : AH} : FrameBlind (Cpre G aC t b0 av N) := fun a U g mk q => ⟨q.1, q.2.1, KK.same (u := U) (U := U.calling g mk a) q.2.2 rfl⟩
section ABR
variable {p : Program} {l : Launch} {e : Env} {R : Room} {s : State} {m : MethodId} {args : Array Value} {below : List Frame} {meth : Method} {c : Code} {H : Heap} {locs : List Loc} {cells slots : Nat} {Q : State → Prop}
variable {cc : ByteArray} {own : String} {nL : Nat} {G : va_G} {aC : Nat → ClassId} {t b0 : Nat} {N N' : AH} {pc : Nat} {ls : Array Slot} {rest : List Value}
theorem ab_get (X : CX cc own nL G aC t b0 p s m args c) (hR : Rp G aC b0 N H) {ci k index n a : Nat} {C : String} {T : u_T} {fs : List Value} {v : Value} (ha : N.2 a = some (.inl (ci, fs))) (hv : fs[k]? = some v) (hc : cls_all[ci]? = some (C, T, n)) (hin : ∀ w ∈ u_ws C T n, w ∈ WT) (hk : k < n) (hl : Cond.fieldLink own index (T k).1 (T k).2.1 (T k).2.2.1 ∈ WT) (hdg : decode cc pc = .ok (.getfield index, 3))
    (kk : W p l e R s m args below meth c H locs cells slots Q (F0 m (pc + 3) ls (v :: rest))) : W p l e R s m args below meth c H locs cells slots Q (F0 m pc ls (.ref a :: rest)) :=
  va_get (D := G) (ws := [(a, .inr (ci, fs))]) (tys := ab_tys aC) X.1.1 X.1.2.1 X.1.2.2.2.2 hin X.1.2.2.2.1 X.2.1 (hR.one ha) 0 rfl hc k hk (X.1.2.2.2.2 _ hl) (fun _ h => h) hv hdg kk
theorem ab_put (X : CX cc own nL G aC t b0 p s m args c) (hR : Rp G aC b0 N H) (hS0 : va_S (fun q => b0 ≤ q) s.heap H locs) {ci k index n a : Nat} {C : String} {T : u_T} {fs : List Value} {v : Value} (ha : N.2 a = some (.inl (ci, fs))) (hl : k < fs.length) (hc : cls_all[ci]? = some (C, T, n)) (hin : ∀ w ∈ u_ws C T n, w ∈ WT) (ty0 : Nat → FieldType) (hty : ∀ k, k < n → parseFieldDescriptor (T k).2.2.1 = some (ty0 k)) (hnm : ∀ a, a < n → ∀ b, b < n → a ≠ b → (T a).2.1 ≠ (T b).2.1) (hk : k < n) (hlk : Cond.fieldLink own index (T k).1 (T k).2.1 (T k).2.2.1 ∈ WT) (hfin : (T k).2.2.2 = false) (hn : narrow (ty0 k) v = v) (hfit : fits (ty0 k) v = true) (hdg : decode cc pc = .ok (.putfield index, 3))
    (kk : ∀ (H1 : Heap) (locs1 : List Loc), Rp G aC b0 (ab_up N a (.inl (ci, fs.set k v))) H1 → va_S (fun q => b0 ≤ q) s.heap H1 locs1 → W p l e R s m args below meth c H1 locs1 cells slots Q (F0 m (pc + 3) ls rest)) : W p l e R s m args below meth c H locs cells slots Q (F0 m pc ls (v :: .ref a :: rest)) := by
  obtain ⟨⟨hexec, hb, hml, hown, hts⟩, hK, -⟩ := X
  have hap := va_apart (own := own) hts hin ty0 hty hnm hK hc
  obtain ⟨r, h1, cell, q1, q2, q3, q4⟩ := (hR.2.2 a _ ha).2
  have hr : r = (C, T, n) := Option.some.inj (h1.symm.trans hc)
  subst hr
  obtain ⟨hS, hfc, kC, hkC, hkind⟩ := hK.1 ci _ hc
  obtain ⟨cf, kf, fi, f, hi, hsl⟩ := hS k hk
  have hlay := hts _ (hin _ (u_in_lay hk))
  unfold u_lay at hlay
  rw [if_neg (by rw [hfin]; decide)] at hlay
  have hst := (u_facts hfc hkC (u_lays hts hin hk) hi).1
  have h6 := u_store hfc hkC hkind hlay hi (hty k hk) hn hfit
  refine W.putK hexec hb (f := f) ⟨hown, hts _ hlk, ⟨_, _, _, hi⟩, hst⟩ (by rw [q2]; exact h6) q1 q3 (by rw [hsl]; exact k2_hasslot (q4 k hk)) rfl rfl hdg fun H' e1 e2 e3 => ?_
  rw [hsl] at e1 ⊢
  exact kk H' _ (hR.up ha ⟨_, hc, t_OB.to (V := updV (vp_V fs) k v) ⟨_, e1, q2, q3, t_set q4 hap hk v⟩ (fun j _ => vp_updV_set hl v j)⟩ e2 e3) (hS0.put e2 e3 (hR.2.2 a _ ha).1)
theorem ab_putF (X : CX cc own nL G aC t b0 p s m args c) (hR : Rp G aC b0 N H) (hS0 : va_S (fun q => b0 ≤ q) s.heap H locs) (hin2 : meth.name = "<init>") {ci k index n a : Nat} {C : String} {T : u_T} {fs : List Value} {v : Value} (ha : N.2 a = some (.inl (ci, fs))) (hl : k < fs.length) (hc : cls_all[ci]? = some (C, T, n)) (hin : ∀ w ∈ u_ws C T n, w ∈ WT) (ty0 : Nat → FieldType) (hty : ∀ k, k < n → parseFieldDescriptor (T k).2.2.1 = some (ty0 k)) (hnm : ∀ a, a < n → ∀ b, b < n → a ≠ b → (T a).2.1 ≠ (T b).2.1) (hk : k < n) (hlk : Cond.fieldLink own index (T k).1 (T k).2.1 (T k).2.2.1 ∈ WT) (hfin : (T k).2.2.2 = true) (hdecl : (T k).1 = own) (hn : narrow (ty0 k) v = v) (hfit : fits (ty0 k) v = true) (hdg : decode cc pc = .ok (.putfield index, 3))
    (kk : ∀ (H1 : Heap) (locs1 : List Loc), Rp G aC b0 (ab_up N a (.inl (ci, fs.set k v))) H1 → va_S (fun q => b0 ≤ q) s.heap H1 locs1 → W p l e R s m args below meth c H1 locs1 cells slots Q (F0 m (pc + 3) ls rest)) : W p l e R s m args below meth c H locs cells slots Q (F0 m pc ls (v :: .ref a :: rest)) := by
  obtain ⟨⟨hexec, hb, hml, hown, hts⟩, hK, -⟩ := X
  have hap := va_apart (own := own) hts hin ty0 hty hnm hK hc
  obtain ⟨r, h1, cell, q1, q2, q3, q4⟩ := (hR.2.2 a _ ha).2
  have hr : r = (C, T, n) := Option.some.inj (h1.symm.trans hc)
  subst hr
  obtain ⟨hS, hfc, kC, hkC, hkind⟩ := hK.1 ci _ hc
  obtain ⟨cf, kf, fi, f, hi, hsl⟩ := hS k hk
  have hlay := hts _ (hin _ (u_in_lay hk))
  unfold u_lay at hlay
  rw [if_pos hfin] at hlay
  have hst := (u_facts hfc hkC (u_lays hts hin hk) hi).1
  have hcf : m.cls = cf := by
    obtain ⟨_, _, c', _, _, _, -, -, hf', -, -, -, hown2, -⟩ := Cond.laysFinal_spec hlay
    have e1 : c' = cf := by have := hi.symm.trans hf'; simp at this; exact this.1.symm
    rw [hdecl] at hown2
    rw [← e1]; exact Option.some.inj (hown.symm.trans hown2)
  have h6 := u_fits hfc hkC hkind (Or.inr hlay) hi (hty k hk) hn hfit
  refine W.putFinK hexec hb hown (hts _ hlk) hi hst hcf hin2 (by rw [q2]; exact h6) q1 q3 (by rw [hsl]; exact k2_hasslot (q4 k hk)) rfl rfl hdg fun H' e1 e2 e3 => ?_
  rw [hsl] at e1 ⊢
  exact kk H' _ (hR.up ha ⟨_, hc, t_OB.to (V := updV (vp_V fs) k v) ⟨_, e1, q2, q3, t_set q4 hap hk v⟩ (fun j _ => vp_updV_set hl v j)⟩ e2 e3) (hS0.put e2 e3 (hR.2.2 a _ ha).1)
theorem ab_iald (X : CX cc own nL G aC t b0 p s m args c) (hR : Rp G aC b0 N H) {a : Nat} {i v : Int32} (hv : aI N a i = some v) (hdg : decode cc pc = .ok (.iaload, 1))
    (kk : W p l e R s m args below meth c H locs cells slots Q (F0 m (pc + 1) ls (.int v :: rest))) : W p l e R s m args below meth c H locs cells slots Q (F0 m pc ls (.int i :: .ref a :: rest)) := by
  obtain ⟨n, f, h1, h2, h3⟩ := aI_ok hv
  subst h3
  exact va_iald (D := G) (ws := [(a, .inl (aC 0, n, .inl f))]) (tys := ab_tys aC) X.1.1 X.1.2.1 X.2.1 (hR.one h1) 0 0 rfl rfl h2 hdg kk
theorem ab_lald (X : CX cc own nL G aC t b0 p s m args c) (hR : Rp G aC b0 N H) {a : Nat} {i : Int32} {v : Int64} (hv : aJ N a i = some v) (hdg : decode cc pc = .ok (.laload, 1))
    (kk : W p l e R s m args below meth c H locs cells slots Q (F0 m (pc + 1) ls (.long v :: rest))) : W p l e R s m args below meth c H locs cells slots Q (F0 m pc ls (.int i :: .ref a :: rest)) := by
  obtain ⟨n, f, h1, h2, h3⟩ := aJ_ok hv
  subst h3
  exact va_lald (D := G) (ws := [(a, .inl (aC 1, n, .inr (.inl f)))]) (tys := ab_tys aC) X.1.1 X.1.2.1 X.2.1 (hR.one h1) 0 1 rfl rfl h2 hdg kk
theorem ab_aald (X : CX cc own nL G aC t b0 p s m args c) (hR : Rp G aC b0 N H) {a kd v : Nat} {C : String} (hkd : (ab_tys aC)[kd]? = some (aC kd, .object C)) {i : Int32} (hv : aR N kd a i = some v) (hdg : decode cc pc = .ok (.aaload, 1))
    (kk : W p l e R s m args below meth c H locs cells slots Q (F0 m (pc + 1) ls (.ref v :: rest))) : W p l e R s m args below meth c H locs cells slots Q (F0 m pc ls (.int i :: .ref a :: rest)) := by
  obtain ⟨n, f, h1, h2, h3⟩ := aR_ok hv
  refine va_aldq (D := G) (ws := [(a, .inl (aC kd, n, .inr (.inr (.inr (.inr f)))))]) (tys := ab_tys aC) X.1.1 X.1.2.1 X.2.1 (hR.one h1) 0 kd rfl hkd h2 hdg ?_
  rw [h3]
  exact kk
theorem ab_alen (X : CX cc own nL G aC t b0 p s m args c) (hR : Rp G aC b0 N H) {a : Nat} {v : Int32} (hv : aL N a = some v) (hdg : decode cc pc = .ok (.arraylength, 1))
    (kk : W p l e R s m args below meth c H locs cells slots Q (F0 m (pc + 1) ls (.int v :: rest))) : W p l e R s m args below meth c H locs cells slots Q (F0 m pc ls (.ref a :: rest)) := by
  obtain ⟨n, f, h1, h2⟩ := aL_ok hv
  exact va_alen (D := G) (ws := [(a, .inl (aC 0, n, .inl f))]) (tys := ab_tys aC) X.1.1 X.1.2.1 X.2.1 (hR.one h1) 0 0 rfl (ty := .int) rfl h2.symm hdg kk
theorem ab_iast (X : CX cc own nL G aC t b0 p s m args c) (hR : Rp G aC b0 N H) (hS : va_S (fun q => b0 ≤ q) s.heap H locs) {a : Nat} {i x : Int32} (hv : sI N a i x = some N') (hdg : decode cc pc = .ok (.iastore, 1))
    (kk : ∀ (H1 : Heap) (locs1 : List Loc), Rp G aC b0 N' H1 → va_S (fun q => b0 ≤ q) s.heap H1 locs1 → W p l e R s m args below meth c H1 locs1 cells slots Q (F0 m (pc + 1) ls rest)) : W p l e R s m args below meth c H locs cells slots Q (F0 m pc ls (.int x :: .int i :: .ref a :: rest)) := by
  obtain ⟨n, f, h1, h2, h3⟩ := sI_ok hv
  subst h3
  refine W.iast X.1.1 X.1.2.1 (hR.2.2 a _ h1).2 ((X.2.1.2 0 _ rfl).1 n (fun j => .int (f j))) (fun q => by cases q) (by show ¬ (i < 0 ∨ (arrV _ _ _).slots.size ≤ _); rw [arrV_size]; exact h2) rfl rfl hdg fun H1 e z oq => ?_
  refine kk H1 _ (hR.up h1 ?_ z oq) (hS.put z oq (hR.2.2 a _ h1).1)
  show H1[a]? = some (vp_cell _ _)
  rw [e]
  rw [vp_cell_i, vp_cell_i, arrV_store]
  congr 2
  funext q
  by_cases hq : q = i.toNatClampNeg
  · subst hq
    simp [updV, upd]
  · simp [updV, upd, hq]
theorem ab_last (X : CX cc own nL G aC t b0 p s m args c) (hR : Rp G aC b0 N H) (hS : va_S (fun q => b0 ≤ q) s.heap H locs) {a : Nat} {i : Int32} {x : Int64} (hv : sJ N a i x = some N') (hdg : decode cc pc = .ok (.lastore, 1))
    (kk : ∀ (H1 : Heap) (locs1 : List Loc), Rp G aC b0 N' H1 → va_S (fun q => b0 ≤ q) s.heap H1 locs1 → W p l e R s m args below meth c H1 locs1 cells slots Q (F0 m (pc + 1) ls rest)) : W p l e R s m args below meth c H locs cells slots Q (F0 m pc ls (.long x :: .int i :: .ref a :: rest)) := by
  obtain ⟨n, f, h1, h2, h3⟩ := sJ_ok hv
  subst h3
  refine W.last X.1.1 X.1.2.1 (hR.2.2 a _ h1).2 ((X.2.1.2 1 _ rfl).1 n (fun j => .long (f j))) (fun q => by cases q) (by show ¬ (i < 0 ∨ (arrV _ _ _).slots.size ≤ _); rw [arrV_size]; exact h2) rfl rfl hdg fun H1 e z oq => ?_
  refine kk H1 _ (hR.up h1 ?_ z oq) (hS.put z oq (hR.2.2 a _ h1).1)
  show H1[a]? = some (vp_cell _ _)
  rw [e]
  rw [vp_cell_l, vp_cell_l, arrV_store]
  congr 2
  funext q
  by_cases hq : q = i.toNatClampNeg
  · subst hq
    simp [updV, vp_updL]
  · simp [updV, vp_updL, hq]
theorem ab_aast (X : CX cc own nL G aC t b0 p s m args c) (hR : Rp G aC b0 N H) (hS : va_S (fun q => b0 ≤ q) s.heap H locs) {a kd ci v : Nat} {r : vw_C} (hkd : (ab_tys aC)[kd]? = some (aC kd, .object r.1)) (hc : cls_all[ci]? = some r) {i : Int32} (hv : sR N kd ci a i v = some N') (hdg : decode cc pc = .ok (.aastore, 1))
    (kk : ∀ (H1 : Heap) (locs1 : List Loc), Rp G aC b0 N' H1 → va_S (fun q => b0 ≤ q) s.heap H1 locs1 → W p l e R s m args below meth c H1 locs1 cells slots Q (F0 m (pc + 1) ls rest)) : W p l e R s m args below meth c H locs cells slots Q (F0 m pc ls (.ref v :: .int i :: .ref a :: rest)) := by
  obtain ⟨n, f, fs, h1, h2, h3, h4⟩ := sR_ok hv
  subst h4
  have hlt : i.toNatClampNeg < n := Nat.not_le.mp fun q => h3 (Or.inr q)
  have h0 : ¬ i < 0 := fun q => h3 (Or.inl q)
  obtain ⟨r', hr', cellV, g1, g2, g3, -⟩ := (hR.2.2 v _ h2).2
  have hcls := (X.2.1.1 ci r hc).2
  obtain ⟨kA, comp, k1, k2, k3, -⟩ := (X.2.1.2 kd _ hkd).2
  have hcomp : comp = G.1 ci := Option.some.inj (k3.symm.trans hcls.1)
  subst hcomp
  obtain ⟨kC, hkC, -⟩ := hcls.2
  refine W.aast X.1.1 X.1.2.1 (hR.2.2 a _ h1).2 (fun q h => by cases h) (fun h => by cases h) k1 k2 rfl hkC ⟨h0, by show _ < (arrV _ _ _).slots.size; rw [arrV_size]; exact hlt⟩ g1 (fun q h => by rw [g3] at h; cases h) (by rw [g2]; exact hkC) (by rw [g2]; exact va_assign hcls) rfl rfl hdg fun H1 e z oq => ?_
  refine kk H1 _ (hR.up h1 ?_ z oq) (hS.put z oq (hR.2.2 a _ h1).1)
  show H1[a]? = some (vp_cell _ _)
  rw [e]
  rw [vp_cell_q, vp_cell_q, arrV_store]
  congr 2
  funext q
  by_cases hq : q = i.toNatClampNeg
  · subst hq
    simp [updV, va_up, va_rf]
  · simp [updV, va_up, hq]
theorem ab_new_o (X : CX cc own nL G aC t b0 p s m args c) (hR : Rp G aC b0 N H) (hS : va_S (fun q => b0 ≤ q) s.heap H locs) {ci index n : Nat} {C : String} {T : u_T} {fs : List Value} (hc : cls_all[ci]? = some (C, T, n)) (hin : ∀ w ∈ u_ws C T n, w ∈ WT) (ty : Nat → FieldType) (hty : ∀ k, k < n → parseFieldDescriptor (T k).2.2.1 = some (ty k)) (hcl : Cond.classLink own index C ∈ WT) (hinst : Cond.instantiable C n ∈ WT) (hini : Cond.initialized C ∈ WT) (hfs : ∀ j, j < n → defaultValue (ty j) = vp_V fs j) (hcells : cells + 1 ≤ R.cells) (hslots : slots + n ≤ R.slots) (hdg : decode cc pc = .ok (.new index, 3))
    (kk : ∀ (H1 : Heap), Rp G aC b0 (nO N ci fs) H1 → va_S (fun q => b0 ≤ q) s.heap H1 locs → W p l e R s m args below meth c H1 locs (cells + 1) (slots + n) Q (F0 m (pc + 3) ls (.ref N.1 :: rest))) : W p l e R s m args below meth c H locs cells slots Q (F0 m pc ls rest) := by
  obtain ⟨⟨hexec, hb, hml, hown, hts⟩, hK, -⟩ := X
  have hKn := hK.1 ci _ hc
  refine W.newcK hexec hb hown (hts _ hcl) (hts _ hinst) (hts _ hini) rfl hdg hcells hslots hKn.2.1 hR.1 fun H1 kC hkC e1 z1 o1 => ?_
  rw [← hR.1] at e1 z1 o1
  refine kk H1 (hR.new ⟨_, hc, (u_born ty hts hin hKn hkC e1 hty).to hfs⟩ z1 o1) ⟨Nat.le_trans hS.1 (by omega), fun x h1 h2 => (o1 x (Nat.lt_of_lt_of_le h1 hS.1)).trans (hS.2.1 x h1 h2), hS.2.2⟩
theorem ab_newI (X : CX cc own nL G aC t b0 p s m args c) (hR : Rp G aC b0 N H) (hS : va_S (fun q => b0 ≤ q) s.heap H locs) (har : Cond.arrayClass .int ∈ WT) {n : Int32} {k : Nat} (hn : ¬ n < 0) (hN : n.toNatClampNeg = k) (hbytes : k * 4 ≤ 536870912) (hcells : cells + 1 ≤ R.cells) (hslots : slots + k ≤ R.slots) (hdg : decode cc pc = .ok (.newarray .int, 2))
    (kk : ∀ (H1 : Heap), Rp G aC b0 (nI0 N k) H1 → va_S (fun q => b0 ≤ q) s.heap H1 locs → W p l e R s m args below meth c H1 locs (cells + 1) (slots + k) Q (F0 m (pc + 2) ls (.ref N.1 :: rest))) : W p l e R s m args below meth c H locs cells slots Q (F0 m pc ls (.int n :: rest)) := by
  refine va_newaK (atype := .int) (g := F0 m pc ls (.int n :: rest)) X.1.1 X.1.2.1 (X.1.2.2.2.2 _ har) rfl hdg rfl hn hN hbytes hcells hslots hR.1 fun H1 cA e1 z1 o1 hAr hNm => ?_
  rw [← hR.1] at e1 z1 o1
  have hcA : aC 0 = cA := Option.some.inj ((show s.vm.findClass _ = some (aC 0) from (X.2.1.2 0 _ rfl).2).symm.trans hNm)
  refine kk H1 (hR.new ?_ z1 o1) ⟨Nat.le_trans hS.1 (by omega), fun x h1 h2 => (o1 x (Nat.lt_of_lt_of_le h1 hS.1)).trans (hS.2.1 x h1 h2), hS.2.2⟩
  show H1[_]? = some (vp_cell (aC 0) _)
  rw [vp_cell_i, hcA]
  exact e1
theorem ab_newJ (X : CX cc own nL G aC t b0 p s m args c) (hR : Rp G aC b0 N H) (hS : va_S (fun q => b0 ≤ q) s.heap H locs) (har : Cond.arrayClass .long ∈ WT) {n : Int32} {k : Nat} (hn : ¬ n < 0) (hN : n.toNatClampNeg = k) (hbytes : k * 8 ≤ 536870912) (hcells : cells + 1 ≤ R.cells) (hslots : slots + k ≤ R.slots) (hdg : decode cc pc = .ok (.newarray .long, 2))
    (kk : ∀ (H1 : Heap), Rp G aC b0 (nJ0 N k) H1 → va_S (fun q => b0 ≤ q) s.heap H1 locs → W p l e R s m args below meth c H1 locs (cells + 1) (slots + k) Q (F0 m (pc + 2) ls (.ref N.1 :: rest))) : W p l e R s m args below meth c H locs cells slots Q (F0 m pc ls (.int n :: rest)) := by
  refine va_newaK (atype := .long) (g := F0 m pc ls (.int n :: rest)) X.1.1 X.1.2.1 (X.1.2.2.2.2 _ har) rfl hdg rfl hn hN hbytes hcells hslots hR.1 fun H1 cA e1 z1 o1 hAr hNm => ?_
  rw [← hR.1] at e1 z1 o1
  have hcA : aC 1 = cA := Option.some.inj ((show s.vm.findClass _ = some (aC 1) from (X.2.1.2 1 _ rfl).2).symm.trans hNm)
  refine kk H1 (hR.new ?_ z1 o1) ⟨Nat.le_trans hS.1 (by omega), fun x h1 h2 => (o1 x (Nat.lt_of_lt_of_le h1 hS.1)).trans (hS.2.1 x h1 h2), hS.2.2⟩
  show H1[_]? = some (vp_cell (aC 1) _)
  rw [vp_cell_l, hcA]
  exact e1
theorem ab_newR (X : CX cc own nL G aC t b0 p s m args c) (hR : Rp G aC b0 N H) (hS : va_S (fun q => b0 ≤ q) s.heap H locs) {kd index : Nat} {C : String} (hkd : (ab_tys aC)[kd]? = some (aC kd, .object C)) (hcl : Cond.classLink own index C ∈ WT) (hover : va_AO C s) {n : Int32} {k : Nat} (hn : ¬ n < 0) (hN : n.toNatClampNeg = k) (hbytes : k * 4 ≤ 536870912) (hcells : cells + 1 ≤ R.cells) (hslots : slots + k ≤ R.slots) (hdg : decode cc pc = .ok (.anewarray index, 3))
    (kk : ∀ (H1 : Heap), Rp G aC b0 (nR0 N kd k) H1 → va_S (fun q => b0 ≤ q) s.heap H1 locs → W p l e R s m args below meth c H1 locs (cells + 1) (slots + k) Q (F0 m (pc + 3) ls (.ref N.1 :: rest))) : W p l e R s m args below meth c H locs cells slots Q (F0 m pc ls (.int n :: rest)) := by
  subst hN
  refine W.anew X.1.1 X.1.2.1 X.1.2.2.2.1 (X.1.2.2.2.2 _ hcl) (va_AO.use hover) rfl hdg rfl hn hbytes hcells hslots fun cA kA comp f1 f2 f3 f4 => ?_
  generalize hH1 : H.push ({ cls := cA, slots := Array.replicate n.toNatClampNeg .null, vm := .none } : Cell) = H1
  have z1 : H1.size = H.size + 1 := by rw [← hH1, Array.size_push]
  have e1 : H1[H.size]? = some (arrV cA n.toNatClampNeg (fun _ => .null)) := by rw [← hH1, Array.getElem?_push_size, ← arrV_new]
  have o1 : ∀ q : Nat, q < H.size → H1[q]? = H[q]? := fun q hq => by rw [← hH1, Array.getElem?_push, if_neg (Nat.ne_of_lt hq)]
  obtain ⟨kA', comp', k1, k2, k3, k4⟩ := (X.2.1.2 kd _ hkd).2
  have hcA : aC kd = cA := Option.some.inj (k4.symm.trans (by first | exact f4 | exact f1))
  rw [show H.size = N.1 from hR.1]
  refine kk H1 (hR.new ?_ z1 o1) ⟨Nat.le_trans hS.1 (by omega), fun x h1 h2 => (o1 x (Nat.lt_of_lt_of_le h1 hS.1)).trans (hS.2.1 x h1 h2), hS.2.2⟩
  show H1[_]? = some (vp_cell (aC kd) _)
  rw [vp_cell_q, hcA]
  exact e1
theorem ab_run {mc ms : Nat} {st0 : List Value} {r : Option Value} {a : Array Value} (hr : va_Run p l e R s m args below meth c H locs cells slots mc ms (F0 m pc ls st0) rest (Cpost G aC b0 r N' a) (fun q => b0 ≤ q)) (hS : va_S (fun q => b0 ≤ q) s.heap H locs)
    (kk : ∀ (H1 : Heap) (locs1 : List Loc), Rp G aC b0 N' H1 → va_S (fun q => b0 ≤ q) s.heap H1 locs1 → W p l e R s m args below meth c H1 locs1 (cells + mc) (slots + ms) Q (F0 m (pc + 3) ls (r.toList ++ rest))) : W p l e R s m args below meth c H locs cells slots Q (F0 m pc ls st0) := by
  intro T hT X
  obtain ⟨v, st₀, u, T', L, h0, X', hL, e1, e2, ⟨hv, hR, hz, hk⟩, st⟩ := hr T hT X
  cases hv
  rw [h0] at hz hk
  obtain ⟨t2, a1, b1⟩ := kk T'.heap (locs ++ L) (by rw [e1]; exact hR)
    ⟨Nat.le_trans hS.1 (by rw [e1]; exact hz), fun q h1 h2 => by rw [e1, hk q (Nat.lt_of_lt_of_le h1 hS.1) h2]; exact hS.2.1 q h1 h2, fun q hq => by
      rcases List.mem_append.mp hq with h | h
      · exact hS.2.2 q h
      · exact hL q h⟩ T' rfl X'
  exact ⟨t2, st t2 a1, b1⟩
theorem ab_KKc (X : CX cc own nL G aC t b0 p s m args c) (hS : va_S (fun q => b0 ≤ q) s.heap H locs) {U : State} (hU : U.heap = H) (hW : s.WarmedH U.vm) : KK G aC t b0 U U.heap := by
  rw [hU]
  exact X.2.warm hW hS.2.1
end ABR
