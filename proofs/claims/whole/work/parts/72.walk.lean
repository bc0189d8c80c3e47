/-! one walks: both -/
def sWkO (R : pR) (p : Nat) (ρ : Nat → Int32) : Option (Nat × Nat) → Nat → Int32
  | none => ρ
  | some (r, _) => upd (upd (upd ρ p (nI (oth R r (ρ p).toNatClampNeg))) (6 + p) (if nI (oth R r (ρ p).toNatClampNeg) = ρ (6 + p) then -2 else ρ (6 + p))) (12 + p) (if nI (oth R r (ρ p).toNatClampNeg) = nI (rO R p) then 0 else ρ (12 + p) + nI (rM R r))
def sWk (R : pR) (c p : Nat) (ρ : Nat → Int32) : Nat → Int32 := if ρ (6 + p) < 0 then ρ else sWkO R p ρ (sRd R c (ρ p).toNatClampNeg (ρ (6 + p)).toNatClampNeg (rR R))
theorem sWk_18 (R : pR) (c p : Nat) (ρ : Nat → Int32) (hp : p < 6) {k : Nat} (hk : 18 ≤ k) : sWk R c p ρ k = ρ k := by
  unfold sWk
  split
  · rfl
  · generalize sRd R c (ρ p).toNatClampNeg (ρ (6 + p)).toNatClampNeg (rR R) = o
    match o with
    | none => rfl
    | some (r, v) =>
      simp only [sWkO, upd]
      rw [if_neg (by omega), if_neg (by omega), if_neg (by omega)]

theorem c_set48 {g : xG} {p k : Nat} {v : Int32} (h : k + p < 35) : f_X6_setOf_48 (nI p) (nI k) v g = (xupd g.1 49 (k + p) v, g.2) := by
  unfold f_X6_setOf_48
  rw [xl_e, nI_add, xput_in h (by decide)]

theorem c_set50 {g : xG} {p k : Nat} {v : Int32} (h : k + p < 35) : f_X6_setOf_50 (nI p) (nI k) v g = (xupd g.1 51 (k + p) v, g.2) := by
  unfold f_X6_setOf_50
  rw [xl_e, nI_add, xput_in h (by decide)]
