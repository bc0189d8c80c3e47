/-! how class and reference hold a realm and a row -/
def xfree (FP C : List (Nat × Option Nat)) : Bool := FP.all (fun e => C.all (fun f => !(Nat.beq e.1 f.1) || (match e.2, f.2 with
  | some j, some k => !(Nat.beq j k)
  | _, _ => false)))
theorem xfree_ok {FP C : List (Nat × Option Nat)} (h : xfree FP C = true) {q k : Nat} (hc : xcov C q k = true) : xcov FP q k = false := by
  unfold xcov at hc ⊢
  obtain ⟨f, hf, hfq⟩ := List.any_eq_true.mp hc
  rw [List.any_eq_false]
  intro e he hn
  have := List.all_eq_true.mp (List.all_eq_true.mp h e he) f hf
  obtain ⟨e1, e2⟩ := e
  obtain ⟨f1, f2⟩ := f
  cases e2 <;> cases f2 <;> simp_all
def xagr (C : List (Nat × Option Nat)) (g w : xG) : Prop := ∀ q k, xcov C q k = true → w.1 q k = g.1 q k ∧ w.2 q k = g.2 q k
theorem xfrm.agr {FP C : List (Nat × Option Nat)} {g w : xG} (h : xfrm FP g w) (hd : xfree FP C = true) : xagr C g w := fun q k hc => h q k (xfree_ok hd hc)
theorem xagr.tr {C : List (Nat × Option Nat)} {g w v : xG} (h1 : xagr C g w) (h2 : xagr C w v) : xagr C g v := fun q k hc => ⟨(h2 q k hc).1.trans (h1 q k hc).1, (h2 q k hc).2.trans (h1 q k hc).2⟩
theorem xagr.rf {C : List (Nat × Option Nat)} {g : xG} : xagr C g g := fun _ _ _ => ⟨rfl, rfl⟩
theorem i7 (a b : Nat) : nI a * 7 + nI b = nI (7 * a + b) := by rw [show (7 : Int32) = nI 7 from rfl, pk_mul, nI_add, Nat.mul_comm]
theorem i7' (a b : Nat) : 7 * nI a + nI b = nI (7 * a + b) := by rw [show (7 : Int32) = nI 7 from rfl, pk_mul, nI_add]
theorem i10 (a b : Nat) : 10 * nI a + nI b = nI (10 * a + b) := by rw [show (10 : Int32) = nI 10 from rfl, pk_mul, nI_add]
theorem i6 (a b : Nat) : 6 * nI a + nI b = nI (6 * a + b) := by rw [show (6 : Int32) = nI 6 from rfl, pk_mul, nI_add]
theorem i4 (a b : Nat) : 4 * nI a + nI b = nI (4 * a + b) := by rw [show (4 : Int32) = nI 4 from rfl, pk_mul, nI_add]
theorem i40 (a b : Nat) : 40 * nI a + nI b = nI (40 * a + b) := by rw [show (40 : Int32) = nI 40 from rfl, pk_mul, nI_add]
theorem i35 (a b : Nat) : nI a * 35 + nI b = nI (35 * a + b) := by rw [show (35 : Int32) = nI 35 from rfl, pk_mul, nI_add, Nat.mul_comm]
theorem a5 (a : Nat) : 5 + nI a = nI (5 + a) := nI_add 5 a
theorem a6 (a : Nat) : 6 + nI a = nI (6 + a) := nI_add 6 a
theorem a11 (a : Nat) : 11 + nI a = nI (11 + a) := nI_add 11 a
theorem a12 (a : Nat) : 12 + nI a = nI (12 + a) := nI_add 12 a
theorem a17 (a : Nat) : 17 + nI a = nI (17 + a) := nI_add 17 a
theorem a18 (a : Nat) : 18 + nI a = nI (18 + a) := nI_add 18 a
theorem a23 (a : Nat) : 23 + nI a = nI (23 + a) := nI_add 23 a
theorem a24 (a : Nat) : 24 + nI a = nI (24 + a) := nI_add 24 a
theorem a29 (a : Nat) : 29 + nI a = nI (29 + a) := nI_add 29 a
theorem a30 (a : Nat) : 30 + nI a = nI (30 + a) := nI_add 30 a
/-! ===== the class ===== -/
def rmC (g : xG) (R : pR) : Prop := (g.1 3 9 = nI (rT R) ∧ g.1 3 10 = nI (rR R) ∧ g.1 3 11 = nI (rP R) ∧ g.1 3 12 = nI (rC R) ∧ g.1 3 13 = rS R) ∧ (∀ r, r < rR R → g.1 5 r = nI (rA R r) ∧ g.1 6 r = nI (rB R r) ∧ g.1 7 r = nI (rM R r)) ∧ (∀ p, p < rP R → g.1 9 p = rH R p ∧ g.1 10 p = nI (rO R p) ∧ g.1 11 p = nI (rF R p))
def kRm : List (Nat × Option Nat) := [(3, some 9), (3, some 10), (3, some 11), (3, some 12), (3, some 13), (5, none), (6, none), (7, none), (9, none), (10, none), (11, none)]
theorem rmC.ag {g w : xG} {R : pR} (h : rmC g R) (a : xagr kRm g w) : rmC w R := by
  obtain ⟨⟨h1, h2, h3, h4, h5⟩, h6, h7⟩ := h
  refine ⟨⟨(a 3 9 rfl).1.trans h1, (a 3 10 rfl).1.trans h2, (a 3 11 rfl).1.trans h3, (a 3 12 rfl).1.trans h4, (a 3 13 rfl).1.trans h5⟩, fun r hr => ?_, fun p hp => ?_⟩
  · obtain ⟨b1, b2, b3⟩ := h6 r hr
    exact ⟨(a 5 r rfl).1.trans b1, (a 6 r rfl).1.trans b2, (a 7 r rfl).1.trans b3⟩
  · obtain ⟨b1, b2, b3⟩ := h7 p hp
    exact ⟨(a 9 p rfl).1.trans b1, (a 10 p rfl).1.trans b2, (a 11 p rfl).1.trans b3⟩
section
variable {g : xG} {R : pR}
theorem rOK.t (h : rOK R) : rT R ≤ 7 := h.1.1
theorem rOK.r (h : rOK R) : rR R ≤ 10 := h.1.2.1
theorem rOK.p (h : rOK R) : rP R ≤ 6 := h.1.2.2.1
theorem rOK.c (h : rOK R) : rC R < 7 := h.1.2.2.2
theorem rOK.a (h : rOK R) {r : Nat} (hr : r < rR R) : rA R r < rT R := (h.2.2.1 r hr).1
theorem rOK.b (h : rOK R) {r : Nat} (hr : r < rR R) : rB R r < rT R := (h.2.2.1 r hr).2.1
theorem rOK.ab (h : rOK R) {r : Nat} (hr : r < rR R) : rA R r ≠ rB R r := (h.2.2.1 r hr).2.2.1
theorem rOK.m (h : rOK R) {r : Nat} (hr : r < rR R) : 1 ≤ rM R r ∧ rM R r ≤ 99 := (h.2.2.1 r hr).2.2.2
theorem rOK.o (h : rOK R) {p : Nat} (hp : p < rP R) : rO R p < rT R := (h.2.2.2.1 p hp).1
theorem rOK.f (h : rOK R) {p : Nat} (hp : p < rP R) : rF R p < rT R := (h.2.2.2.1 p hp).2
theorem rOK.cT (h : rOK R) {t : Nat} (ht : t < rT R) : rC R < rT R := h.2.1 (by omega)
theorem rOK.l (h : rOK R) {k : Nat} (hk : k < 4) : lOK (rL R k) := h.2.2.2.2 k hk
theorem c_isTown (h : rmC g R) (hR : rOK R) {t : Nat} (ht : t < rT R) : f_X4_isTown_3 (nI t) g = 1 := by
  have := hR.t
  unfold f_X4_isTown_3
  rw [h.1.1, if_neg (nI_pos (by omega)), if_neg (nI_ge ht (by omega))]
theorem c_isTownN {x : Int32} (hx : x < 0) : f_X4_isTown_3 x g = 0 := if_pos hx
theorem c_isTownG (h : rmC g R) {x : Int32} (hx : nI (rT R) ≤ x) : f_X4_isTown_3 x g = 0 := by
  unfold f_X4_isTown_3
  rw [h.1.1, if_pos hx]
  exact ite_self _
theorem c_isRoad (h : rmC g R) (hR : rOK R) {t : Nat} (ht : t < rR R) : f_X4_isRoad_3 (nI t) g = 1 := by
  have := hR.r
  unfold f_X4_isRoad_3
  rw [h.1.2.1, if_neg (nI_pos (by omega)), if_neg (nI_ge ht (by omega))]
theorem c_isRoadN {x : Int32} (hx : x < 0) : f_X4_isRoad_3 x g = 0 := if_pos hx
theorem c_isRoadG (h : rmC g R) {x : Int32} (hx : nI (rR R) ≤ x) : f_X4_isRoad_3 x g = 0 := by
  unfold f_X4_isRoad_3
  rw [h.1.2.1, if_pos hx]
  exact ite_self _
theorem c_isPerson (h : rmC g R) (hR : rOK R) {t : Nat} (ht : t < rP R) : f_X4_isPerson_3 (nI t) g = 1 := by
  have := hR.p
  unfold f_X4_isPerson_3
  rw [h.1.2.2.1, if_neg (nI_pos (by omega)), if_neg (nI_ge ht (by omega))]
theorem c_isPersonN {x : Int32} (hx : x < 0) : f_X4_isPerson_3 x g = 0 := if_pos hx
theorem c_isPersonG (h : rmC g R) {x : Int32} (hx : nI (rP R) ≤ x) : f_X4_isPerson_3 x g = 0 := by
  unfold f_X4_isPerson_3
  rw [h.1.2.2.1, if_pos hx]
  exact ite_self _
theorem c_one (h : rmC g R) (hR : rOK R) {r : Nat} (hr : r < rR R) : f_X4_oneEndOf_3 (nI r) g = nI (rA R r) := by
  have := hR.r
  exact (xat_in (by omega) (by decide)).trans (h.2.1 r hr).1
theorem c_oth (h : rmC g R) (hR : rOK R) {r : Nat} (hr : r < rR R) : f_X4_otherEndOf_3 (nI r) g = nI (rB R r) := by
  have := hR.r
  exact (xat_in (by omega) (by decide)).trans (h.2.1 r hr).2.1
theorem c_mil (h : rmC g R) (hR : rOK R) {r : Nat} (hr : r < rR R) : f_X4_milesOf_3 (nI r) g = nI (rM R r) := by
  have := hR.r
  exact (xat_in (by omega) (by decide)).trans (h.2.1 r hr).2.2
theorem c_hon (h : rmC g R) (hR : rOK R) {p : Nat} (hp : p < rP R) : f_X4_honestyOf_3 (nI p) g = rH R p := by
  have := hR.p
  exact (xat_in (by omega) (by decide)).trans (h.2.2 p hp).1
theorem c_home (h : rmC g R) (hR : rOK R) {p : Nat} (hp : p < rP R) : f_X4_homeOf_3 (nI p) g = nI (rO R p) := by
  have := hR.p
  exact (xat_in (by omega) (by decide)).trans (h.2.2 p hp).2.1
theorem c_first (h : rmC g R) (hR : rOK R) {p : Nat} (hp : p < rP R) : f_X4_firstPlaceOf_3 (nI p) g = nI (rF R p) := by
  have := hR.p
  exact (xat_in (by omega) (by decide)).trans (h.2.2 p hp).2.2
theorem c_across (h : rmC g R) (hR : rOK R) {r t : Nat} (hr : r < rR R) (ht : t < 7) : f_X4_acrossFrom_3 (nI t) (nI r) g = if rA R r = t ∨ rB R r = t then nI (oth R r t) else -2 := by
  have h7 := hR.t
  have ha := hR.a hr
  have hb := hR.b hr
  unfold f_X4_acrossFrom_3
  rw [c_isRoad h hR hr, if_neg (by decide), c_one h hR hr, c_oth h hR hr, ite_eqn (by omega) (by omega), ite_eqn (by omega) (by omega)]
  unfold oth
  by_cases e1 : rA R r = t
  · rw [if_pos e1, if_pos (.inl e1), if_pos e1]
  · rw [if_neg e1]
    by_cases e2 : rB R r = t
    · rw [if_pos e2, if_pos (.inr e2), if_neg e1]
    · rw [if_neg e2, if_neg (by omega)]
theorem c_acrossN (h : rmC g R) (hR : rOK R) {r : Nat} (hr : r < rR R) {x : Int32} (hx : x < 0) : f_X4_acrossFrom_3 x (nI r) g = -2 := by
  have h7 := hR.t
  have ha := hR.a hr
  have hb := hR.b hr
  unfold f_X4_acrossFrom_3
  have na : nI (rA R r) ≠ x := fun e => nI_pos (show rA R r < 2 ^ 31 by omega) (by rw [e]; exact hx)
  have nb : nI (rB R r) ≠ x := fun e => nI_pos (show rB R r < 2 ^ 31 by omega) (by rw [e]; exact hx)
  rw [c_isRoad h hR hr, if_neg (by decide), c_one h hR hr, c_oth h hR hr, if_neg na, if_neg nb]
theorem c_across2 {x : Int32} (hx : x < 0) {y : Int32} : f_X4_acrossFrom_3 y x g = -2 := by
  unfold f_X4_acrossFrom_3
  rw [c_isRoadN hx, if_pos rfl]
end
