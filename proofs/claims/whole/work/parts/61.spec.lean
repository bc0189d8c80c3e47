/-! a realm and what is so in it, in plain numbers -/
abbrev pI := Nat × Int32
abbrev pL := List (List pI × List pI × List pI) × List pI
def pR : Type := (Nat × Nat × Nat × Nat) × ((Nat → Nat) × (Nat → Nat) × (Nat → Nat)) × ((Nat → Int32) × (Nat → Nat) × (Nat → Nat)) × Int32 × (Nat → pL)
def rT (R : pR) : Nat := R.1.1
def rR (R : pR) : Nat := R.1.2.1
def rP (R : pR) : Nat := R.1.2.2.1
def rC (R : pR) : Nat := R.1.2.2.2
def rA (R : pR) : Nat → Nat := R.2.1.1
def rB (R : pR) : Nat → Nat := R.2.1.2.1
def rM (R : pR) : Nat → Nat := R.2.1.2.2
def rH (R : pR) : Nat → Int32 := R.2.2.1.1
def rO (R : pR) : Nat → Nat := R.2.2.1.2.1
def rF (R : pR) : Nat → Nat := R.2.2.1.2.2
def rS (R : pR) : Int32 := R.2.2.2.1
def rL (R : pR) : Nat → pL := R.2.2.2.2
/-! laws: 0 a number, 1 a variable, 2 plus, 3 minus, 4 times, 5 over -/
def lvOp (k : Nat) (a b : Int32) : Int32 := if k = 2 then a + b else if k = 3 then a - b else if k = 4 then a * b else a / b
def lvRun (vars : Nat → Int32) : List pI → List Int32 → Option (List Int32)
  | [], st => some st
  | (k, v) :: c, st => if k = 0 then lvRun vars c (v :: st) else if k = 1 then lvRun vars c (vars v.toNatClampNeg :: st) else match st with
    | b :: a :: st => if k = 5 ∧ b = 0 then none else lvRun vars c (lvOp k a b :: st)
    | _ => none
def lvVal (vars : Nat → Int32) (c : List pI) : Option Int32 := (lvRun vars c []).bind (·.head?)
def lvBr (vars : Nat → Int32) : List (List pI × List pI × List pI) → List pI → Int32
  | [], t => (lvVal vars t).getD 0
  | (a, b, t) :: bs, e => match lvVal vars a, lvVal vars b with
    | some u, some v => if u < v then (lvVal vars t).getD 0 else lvBr vars bs e
    | _, _ => 0
def lvLaw (vars : Nat → Int32) (l : pL) : Int32 := lvBr vars l.1 l.2
/-- the numbers that wait behind a law's steps; none where too few or too many do -/
def shp : Nat → List pI → Option Nat
  | n, [] => some n
  | n, (k, v) :: c => if k < 2 then (if n < 15 ∧ (k = 1 → v.toNatClampNeg < 9 ∧ v = nI v.toNatClampNeg) then shp (n + 1) c else none) else if 2 ≤ n ∧ k < 6 then shp (n - 1) c else none
def lOK (l : pL) : Prop := (∀ q ∈ l.1, shp 0 q.1 = some 1 ∧ shp 0 q.2.1 = some 1 ∧ shp 0 q.2.2 = some 1) ∧ shp 0 l.2 = some 1
def lDef (k : Nat) : pL := ([], if k < 2 then [(1, 0)] else if k = 2 then [(0, 1)] else [(0, 0)])
def rOK (R : pR) : Prop := (rT R ≤ 7 ∧ rR R ≤ 10 ∧ rP R ≤ 6 ∧ rC R < 7) ∧ (0 < rT R → rC R < rT R) ∧ (∀ r, r < rR R → rA R r < rT R ∧ rB R r < rT R ∧ rA R r ≠ rB R r ∧ 1 ≤ rM R r ∧ rM R r ≤ 99) ∧ (∀ p, p < rP R → rO R p < rT R ∧ rF R p < rT R) ∧ ∀ k, k < 4 → lOK (rL R k)
/-! how far it is -/
def dI (x y : Nat) : Nat := if x = y then 0 else 999
def dSt (a b m : Nat) (D : Nat → Nat → Nat) : Nat → Nat → Nat := fun x y => if (x = a ∧ y = b) ∨ (x = b ∧ y = a) then min (D x y) m else D x y
def dRd (R : pR) (c : Nat) : Nat → Nat → Nat → Nat
  | 0 => dI
  | r + 1 => if c.testBit r then dRd R c r else dSt (rA R r) (rB R r) (rM R r) (dRd R c r)
def dK (k : Nat) (D : Nat → Nat → Nat) : Nat → Nat → Nat := fun x y => min (D x y) (D x k + D k y)
def dFw (R : pR) (c : Nat) : Nat → Nat → Nat → Nat
  | 0 => dRd R c (rR R)
  | k + 1 => dK k (dFw R c k)
def sD (R : pR) (c : Nat) : Nat → Nat → Nat := dFw R c (rT R)
/-- no loops, both ways alike, 999 at most, and nothing leads out of the towns -/
def dOK (T : Nat) (D : Nat → Nat → Nat) : Prop := (∀ x, D x x = 0) ∧ (∀ x y, D x y = D y x) ∧ (∀ x y, D x y ≤ 999) ∧ (∀ x y, T ≤ x → x ≠ y → D x y = 999) ∧ ∀ x y, x ≠ y → 1 ≤ D x y
theorem dI_ok (T : Nat) : dOK T dI := by
  refine ⟨fun x => by simp [dI], fun x y => ?_, fun x y => ?_, fun x y _ h => by simp [dI, h], fun x y h => by simp [dI, h]⟩
  · unfold dI; by_cases h : x = y
    · rw [if_pos h, if_pos h.symm]
    · rw [if_neg h, if_neg (fun e => h e.symm)]
  · unfold dI; split <;> omega
theorem dSt_ok {T a b m : Nat} {D : Nat → Nat → Nat} (h : dOK T D) (ha : a < T) (hb : b < T) (hab : a ≠ b) (hm : 1 ≤ m) : dOK T (dSt a b m D) := by
  obtain ⟨h1, h2, h3, h4, h5⟩ := h
  refine ⟨fun x => ?_, fun x y => ?_, fun x y => ?_, fun x y hx hy => ?_, fun x y hy => ?_⟩
  · have := h1 x
    unfold dSt; split <;> omega
  · have := h2 x y
    unfold dSt
    by_cases c1 : (x = a ∧ y = b) ∨ (x = b ∧ y = a)
    · rw [if_pos c1, if_pos (by omega), this]
    · rw [if_neg c1, if_neg (by omega), this]
  · have := h3 x y
    unfold dSt; split <;> omega
  · have := h4 x y hx hy
    unfold dSt; rw [if_neg (by omega), this]
  · have := h5 x y hy
    unfold dSt; split <;> omega
theorem dK_ok {T k : Nat} {D : Nat → Nat → Nat} (h : dOK T D) (hk : k < T) : dOK T (dK k D) := by
  obtain ⟨h1, h2, h3, h4, h5⟩ := h
  refine ⟨fun x => ?_, fun x y => ?_, fun x y => ?_, fun x y hx hy => ?_, fun x y hy => ?_⟩
  · have := h1 x
    unfold dK; omega
  · have a := h2 x y
    have b := h2 x k
    have c := h2 k y
    unfold dK; rw [a, b, c]; omega
  · have := h3 x y
    unfold dK; omega
  · have a := h4 x y hx hy
    have b := h4 x k hx (by omega)
    unfold dK; rw [a, b]; omega
  · have a := h5 x y hy
    unfold dK
    by_cases e : x = k
    · have b := h5 k y (by omega)
      omega
    · have b := h5 x k e
      omega
theorem dRd_ok {R : pR} (h : rOK R) (c : Nat) : ∀ r, r ≤ rR R → dOK (rT R) (dRd R c r)
  | 0, _ => dI_ok _
  | r + 1, hr => by
    have ih := dRd_ok h c r (by omega)
    obtain ⟨-, -, h3, -⟩ := h
    obtain ⟨a1, a2, a3, a4, -⟩ := h3 r (by omega)
    unfold dRd
    split
    · exact ih
    · exact dSt_ok ih a1 a2 a3 a4
theorem dFw_ok {R : pR} (h : rOK R) (c : Nat) : ∀ k, k ≤ rT R → dOK (rT R) (dFw R c k)
  | 0, _ => dRd_ok h c _ (Nat.le_refl _)
  | k + 1, hk => dK_ok (dFw_ok h c k (by omega)) (by omega)
theorem sD_ok {R : pR} (h : rOK R) (c : Nat) : dOK (rT R) (sD R c) := dFw_ok h c _ (Nat.le_refl _)
theorem dK_out {T k : Nat} {D : Nat → Nat → Nat} (h : dOK T D) (hk : T ≤ k) : dK k D = D := by
  obtain ⟨h1, h2, h3, h4, h5⟩ := h
  funext x y
  have a := h3 x y
  unfold dK
  by_cases e : x = k
  · subst e; rw [h1]; omega
  · rw [h2 x k, h4 k x hk (fun z => e z.symm)]; omega
theorem dK_in {k x : Nat} {D : Nat → Nat → Nat} (h : D k k = 0) : dK k D x k = D x k ∧ dK k D k x = D k x := by
  unfold dK
  omega
theorem dK_edge {T x y : Nat} {k : Nat} {D : Nat → Nat → Nat} (h : dOK T D) (hx : T ≤ x ∨ T ≤ y) (hk : k < T) : dK k D x y = D x y := by
  obtain ⟨h1, h2, h3, h4, h5⟩ := h
  unfold dK
  by_cases e : x = y
  · subst e; rw [h1]; omega
  rcases hx with z | z
  · have a := h4 x k z (by omega)
    have b := h3 x y
    omega
  · have a := h4 y k z (by omega)
    have b := h2 k y
    have c := h3 x y
    omega
/-! who walks where -/
def oth (R : pR) (r t : Nat) : Nat := if rA R r = t then rB R r else rA R r
def isE (R : pR) (r t : Nat) : Prop := rA R r = t ∨ rB R r = t
def sRd (R : pR) (c t g : Nat) : Nat → Option (Nat × Nat)
  | 0 => none
  | r + 1 => if c.testBit r = false ∧ (rA R r = t ∨ rB R r = t) ∧ sD R c (oth R r t) g < 999 then
      match sRd R c t g r with
      | none => some (r, rM R r + sD R c (oth R r t) g)
      | some (q, v) => if rM R r + sD R c (oth R r t) g < v then some (r, rM R r + sD R c (oth R r t) g) else some (q, v)
    else sRd R c t g r
/-- a road's number, or none -/
def oN : Option (Nat × Nat) → Int32
  | none => -2
  | some (r, _) => nI r
def oV : Option (Nat × Nat) → Int32
  | none => 0
  | some (_, v) => nI v
theorem sRd_lt {R : pR} {c t g : Nat} : ∀ (r : Nat) {q v : Nat}, sRd R c t g r = some (q, v) → q < r ∧ (c.testBit q = false ∧ (rA R q = t ∨ rB R q = t) ∧ sD R c (oth R q t) g < 999) ∧ v = rM R q + sD R c (oth R q t) g
  | 0, q, v, h => by cases h
  | r + 1, q, v, h => by
    unfold sRd at h
    split at h
    · next hc =>
      split at h
      · cases h; exact ⟨by omega, hc, rfl⟩
      · next q' v' e =>
        split at h
        · cases h; exact ⟨by omega, hc, rfl⟩
        · cases h
          obtain ⟨a, b⟩ := sRd_lt r e
          exact ⟨by omega, b⟩
    · obtain ⟨a, b⟩ := sRd_lt r h
      exact ⟨by omega, b⟩
