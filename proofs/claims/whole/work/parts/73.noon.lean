/-! noon: what it is -/
theorem lvV_up {R : pR} {ρ ρ' : Nat → Int32} (hR : rOK R) (h : ∀ k, k < 38 → k ≠ 36 → ρ' k = ρ k) {p : Nat} (hp : p < rP R) (far cl : Int32) : lvV R ρ' far p cl = lvV R ρ far p cl := by
  have h6 := hR.p
  have ht : sThere R ρ' = sThere R ρ := bq_eq (fun k hk => by
    show decide (ρ' k = nI (rC R)) = decide (ρ k = nI (rC R))
    rw [h k (by omega) (by omega)])
  funext i
  unfold lvV
  rw [h (12 + p) (by omega) (by omega), h (18 + p) (by omega) (by omega), h 37 (by omega) (by omega), h (24 + p) (by omega) (by omega), ht]
theorem sLaw_up {R : pR} {ρ ρ' : Nat → Int32} (hR : rOK R) (h : ∀ k, k < 38 → k ≠ 36 → ρ' k = ρ k) {p : Nat} (hp : p < rP R) (far : Int32) (k : Nat) : sLaw R ρ' far p k = sLaw R ρ far p k := by
  have hc : sClaim R ρ' far p = sClaim R ρ far p := by
    unfold sClaim
    rw [lvV_up hR h hp]
  unfold sLaw
  rw [hc, lvV_up hR h hp]
def lotV (s x : Int32) : Int32 := (f_X1_lot s x).getD 0
theorem lot_c (s x : Int32) : f_X1_lot s x = some (lotV s x) := by
  unfold lotV f_X1_lot
  rw [xg_t (by decide)]
  rfl
theorem lot_r (x : Int32) (g : xG) : f_X12_lotOf_60 x g = some (lotV (g.1 60 52) x) := by
  rw [← lot_c]
  rfl
def sL (R : pR) (ρ : Nat → Int32) (c p k : Nat) : Int32 := sLaw R ρ (nI (sD R c (rO R p) (rC R))) p k
def sFd (R : pR) (c : Nat) (seed : Int32) (ρ : Nat → Int32) (p : Nat) : Bool := if sL R ρ c p 0 = vFar R c p then false else if sL R ρ c p 3 ≤ lotV seed (8 * ρ 37 + nI p) then false else true
def sNo (ρ : Nat → Int32) : Nat → Int32 := upd (upd ρ 39 0) 38 (-2)
def sStr (R : pR) (c : Nat) (ρ : Nat → Int32) (p : Nat) : Nat → Int32 := upd (upd (upd (upd ρ 39 (sL R ρ c p 1)) (18 + p) (ρ (18 + p) + 1)) (24 + p) (xmin 99999 (ρ (24 + p) + sL R ρ c p 2))) 38 (nI p)
def sEnd (R : pR) (c : Nat) (ρ : Nat → Int32) : Nat → Int32 := upd (sWks R c ρ (rP R)) 37 (sWks R c ρ (rP R) 37 + 1)
def sMid (R : pR) (c : Nat) (seed : Int32) (d : Bool) (ρ : Nat → Int32) : Option (Nat × Int32) → Nat → Int32
  | none => sNo ρ
  | some (p, _) => if (d && sFd R c seed ρ p) = true then sNo (upd ρ (30 + p) 1) else sStr R c ρ p
def sNoon (R : pR) (c : Nat) (seed : Int32) (d : Bool) (ρ : Nat → Int32) : Nat → Int32 := sEnd R c (sMid R c seed d ρ (sRg R ρ (vCl R ρ c) (rP R)))
theorem rowOK_up {R : pR} {ρ : Nat → Int32} {i : Nat} {v : Int32} (hR : rOK R) (h : rowOK R ρ) (hi : 37 ≤ i) : rowOK R (upd ρ i v) := by
  have h6 := hR.p
  have e : ∀ k, k < 37 → upd ρ i v k = ρ k := fun k hk => if_neg (by omega)
  obtain ⟨o1, o2, o3⟩ := h
  refine ⟨?_, fun p hp => ?_, fun p h1 h2 => ?_⟩
  · rw [e 36 (by omega)]; exact o1
  · rw [e p (by omega), e (6 + p) (by omega), e (30 + p) (by omega), e (24 + p) (by omega)]; exact o2 p hp
  · rw [e (18 + p) (by omega), e (24 + p) (by omega)]; exact o3 p h1 h2
theorem rowOK_ru {R : pR} {ρ : Nat → Int32} {p : Nat} {v : Int32} (hR : rOK R) (h : rowOK R ρ) (hp : p < rP R) : rowOK R (upd ρ (18 + p) v) := by
  have h6 := hR.p
  obtain ⟨o1, o2, o3⟩ := h
  refine ⟨?_, fun q hq => ?_, fun q h1 h2 => ?_⟩
  · rw [show upd ρ (18 + p) v 36 = ρ 36 from if_neg (by omega)]; exact o1
  · rw [show upd ρ (18 + p) v q = ρ q from if_neg (by omega), show upd ρ (18 + p) v (6 + q) = ρ (6 + q) from if_neg (by omega), show upd ρ (18 + p) v (30 + q) = ρ (30 + q) from if_neg (by omega), show upd ρ (18 + p) v (24 + q) = ρ (24 + q) from if_neg (by omega)]; exact o2 q hq
  · rw [show upd ρ (18 + p) v (18 + q) = ρ (18 + q) from if_neg (by omega), show upd ρ (18 + p) v (24 + q) = ρ (24 + q) from if_neg (by omega)]; exact o3 q h1 h2
theorem rowOK_pu {R : pR} {ρ : Nat → Int32} {p m : Nat} (hR : rOK R) (h : rowOK R ρ) (hp : p < rP R) (hm : m ≤ 99999) : rowOK R (upd ρ (24 + p) (nI m)) := by
  have h6 := hR.p
  obtain ⟨o1, o2, o3⟩ := h
  refine ⟨?_, fun q hq => ?_, fun q h1 h2 => ?_⟩
  · rw [show upd ρ (24 + p) (nI m) 36 = ρ 36 from if_neg (by omega)]; exact o1
  · rw [show upd ρ (24 + p) (nI m) q = ρ q from if_neg (by omega), show upd ρ (24 + p) (nI m) (6 + q) = ρ (6 + q) from if_neg (by omega), show upd ρ (24 + p) (nI m) (30 + q) = ρ (30 + q) from if_neg (by omega)]
    obtain ⟨a1, a2, a3, a4⟩ := o2 q hq
    refine ⟨a1, a2, a3, ?_⟩
    by_cases e : q = p
    · subst e; exact ⟨m, hm, if_pos rfl⟩
    · rw [show upd ρ (24 + p) (nI m) (24 + q) = ρ (24 + q) from if_neg (by omega)]; exact a4
  · rw [show upd ρ (24 + p) (nI m) (18 + q) = ρ (18 + q) from if_neg (by omega), show upd ρ (24 + p) (nI m) (24 + q) = ρ (24 + q) from if_neg (by omega)]; exact o3 q h1 h2
theorem rowOK_ba {R : pR} {ρ : Nat → Int32} {p : Nat} {v : Int32} (hR : rOK R) (h : rowOK R ρ) (hp : p < rP R) (hv : v = 0 ∨ v = 1) : rowOK R (upd ρ (30 + p) v) := by
  have h6 := hR.p
  obtain ⟨o1, o2, o3⟩ := h
  refine ⟨?_, fun q hq => ?_, fun q h1 h2 => ?_⟩
  · rw [show upd ρ (30 + p) v 36 = ρ 36 from if_neg (by omega)]; exact o1
  · rw [show upd ρ (30 + p) v q = ρ q from if_neg (by omega), show upd ρ (30 + p) v (6 + q) = ρ (6 + q) from if_neg (by omega), show upd ρ (30 + p) v (24 + q) = ρ (24 + q) from if_neg (by omega)]
    obtain ⟨a1, a2, a3, a4⟩ := o2 q hq
    refine ⟨a1, a2, ?_, a4⟩
    by_cases e : q = p
    · subst e; rw [show upd ρ (30 + q) v (30 + q) = v from if_pos rfl]; exact hv
    · rw [show upd ρ (30 + p) v (30 + q) = ρ (30 + q) from if_neg (by omega)]; exact a3
  · rw [show upd ρ (30 + p) v (18 + q) = ρ (18 + q) from if_neg (by omega), show upd ρ (30 + p) v (24 + q) = ρ (24 + q) from if_neg (by omega)]; exact o3 q h1 h2
theorem rowOK_go {R : pR} {ρ : Nat → Int32} {p : Nat} {v : Int32} (hR : rOK R) (h : rowOK R ρ) (hp : p < rP R) (hv : v = -2 ∨ ∃ a, a < rT R ∧ v = nI a) : rowOK R (upd ρ (6 + p) v) := by
  have h6 := hR.p
  obtain ⟨o1, o2, o3⟩ := h
  refine ⟨?_, fun q hq => ?_, fun q h1 h2 => ?_⟩
  · rw [show upd ρ (6 + p) v 36 = ρ 36 from if_neg (by omega)]; exact o1
  · rw [show upd ρ (6 + p) v q = ρ q from if_neg (by omega), show upd ρ (6 + p) v (30 + q) = ρ (30 + q) from if_neg (by omega), show upd ρ (6 + p) v (24 + q) = ρ (24 + q) from if_neg (by omega)]
    obtain ⟨a1, a2, a3, a4⟩ := o2 q hq
    refine ⟨a1, ?_, a3, a4⟩
    by_cases e : q = p
    · subst e; rw [show upd ρ (6 + q) v (6 + q) = v from if_pos rfl]; exact hv
    · rw [show upd ρ (6 + p) v (6 + q) = ρ (6 + q) from if_neg (by omega)]; exact a2
  · rw [show upd ρ (6 + p) v (18 + q) = ρ (18 + q) from if_neg (by omega), show upd ρ (6 + p) v (24 + q) = ρ (24 + q) from if_neg (by omega)]; exact o3 q h1 h2
theorem rowOK_cl {R : pR} {ρ : Nat → Int32} {c : Nat} (hR : rOK R) (h : rowOK R ρ) (hc : c < 1024) : rowOK R (upd ρ 36 (nI c)) := by
  have h6 := hR.p
  obtain ⟨o1, o2, o3⟩ := h
  have e : ∀ k, k < 36 → upd ρ 36 (nI c) k = ρ k := fun k hk => if_neg (by omega)
  refine ⟨⟨c, hc, if_pos rfl⟩, fun q hq => ?_, fun q h1 h2 => ?_⟩
  · rw [e q (by omega), e (6 + q) (by omega), e (30 + q) (by omega), e (24 + q) (by omega)]; exact o2 q hq
  · rw [e (18 + q) (by omega), e (24 + q) (by omega)]; exact o3 q h1 h2
/-- gifts: 0 to 99; a purse and gifts -/
theorem sL_ge {R : pR} {ρ : Nat → Int32} {c p k : Nat} (hk : k < 4) : ∃ n, n ≤ 999 ∧ sL R ρ c p k = nI n := by
  have key : ∀ v : Int32, ∀ m : Nat, m ≤ 999 → ∃ n, n ≤ 999 ∧ f_X12_within v 0 (nI m) = nI n := by
    intro v m hm
    obtain ⟨a, b⟩ := within_0 v (nI m) (nI_pos' (by omega))
    rw [nI_toInt (by omega)] at b
    obtain ⟨j, hj, ej⟩ := nI_of (x := f_X12_within v 0 (nI m)) (fun z => by
      have := Int32.lt_iff_toInt_lt.mp z
      rw [show (0 : Int32).toInt = 0 from rfl] at this
      omega)
    rw [ej, nI_toInt hj] at b
    exact ⟨j, by omega, ej⟩
  unfold sL sLaw
  rcases (show k = 0 ∨ k = 1 ∨ k = 2 ∨ k = 3 by omega) with rfl | rfl | rfl | rfl
  · exact key _ 999 (by decide)
  · exact key _ 999 (by decide)
  · exact key _ 99 (by decide)
  · exact key _ 100 (by decide)
theorem purse_is {m : Nat} (hm : m ≤ 99999) {n : Nat} (hn : n ≤ 999) : ∃ j, j ≤ 99999 ∧ xmin 99999 (nI m + nI n) = nI j ∧ f_X12_within (nI m + nI n) 0 99999 = nI j := by
  refine ⟨min 99999 (m + n), by omega, ?_, ?_⟩
  · rw [nI_add, show (99999 : Int32) = nI 99999 from rfl, mn_in (by decide) (by omega)]
  · rw [nI_add]
    unfold f_X12_within
    rw [show (99999 : Int32) = nI 99999 from rfl, show (0 : Int32) = nI 0 from rfl, ite_le (by decide) (by omega), if_pos (by omega), ite_le (by omega) (by decide)]
    by_cases h : m + n ≤ 99999
    · rw [if_pos h, Nat.min_eq_right h]
    · rw [if_neg h, Nat.min_eq_left (by omega)]
theorem sStr_ok {R : pR} {c p : Nat} {ρ : Nat → Int32} (hR : rOK R) (ho : rowOK R ρ) (hp : p < rP R) : rowOK R (sStr R c ρ p) := by
  obtain ⟨-, -, -, m, hm, em⟩ := ho.2.1 p hp
  obtain ⟨n, hn, en⟩ := sL_ge (R := R) (ρ := ρ) (c := c) (p := p) (k := 2) (by decide)
  obtain ⟨j, hj, e1, -⟩ := purse_is hm hn
  unfold sStr
  rw [em, en, e1]
  exact rowOK_up hR (rowOK_pu hR (rowOK_ru hR (rowOK_up hR ho (by decide)) hp) hp hj) (by decide)
theorem sEnd_ok {R : pR} {c : Nat} {ρ : Nat → Int32} (hR : rOK R) (ho : rowOK R ρ) : rowOK R (sEnd R c ρ) := rowOK_up hR (sWks_ok hR ho _ (Nat.le_refl _)) (by decide)
theorem sNo_ok {R : pR} {ρ : Nat → Int32} (hR : rOK R) (ho : rowOK R ρ) : rowOK R (sNo ρ) := rowOK_up hR (rowOK_up hR ho (by decide)) (by decide)
theorem sMid_ok {R : pR} {c : Nat} {seed : Int32} {d : Bool} {ρ : Nat → Int32} (hR : rOK R) (ho : rowOK R ρ) : rowOK R (sMid R c seed d ρ (sRg R ρ (vCl R ρ c) (rP R))) := by
  match hs : sRg R ρ (vCl R ρ c) (rP R) with
  | none => exact sNo_ok hR ho
  | some (p, m) =>
    have hp := (sRg_lt hs).1
    show rowOK R (if (d && sFd R c seed ρ p) = true then sNo (upd ρ (30 + p) 1) else sStr R c ρ p)
    split
    · exact sNo_ok hR (rowOK_ba hR ho hp (.inr rfl))
    · exact sStr_ok hR ho hp
theorem sNoon_ok {R : pR} {c : Nat} {seed : Int32} {d : Bool} {ρ : Nat → Int32} (hR : rOK R) (ho : rowOK R ρ) : rowOK R (sNoon R c seed d ρ) := sEnd_ok hR (sMid_ok hR ho)
theorem sEnd_18 {R : pR} {c : Nat} {ρ : Nat → Int32} (hR : rOK R) {k : Nat} (hk : 18 ≤ k) (h : k ≠ 37) : sEnd R c ρ k = ρ k := by
  unfold sEnd
  rw [show upd (sWks R c ρ (rP R)) 37 (sWks R c ρ (rP R) 37 + 1) k = sWks R c ρ (rP R) k from if_neg h, sWks_18 R c ρ hk _ hR.p]
theorem sMid_36 {R : pR} {c : Nat} {seed : Int32} {d : Bool} {ρ : Nat → Int32} (hR : rOK R) : sMid R c seed d ρ (sRg R ρ (vCl R ρ c) (rP R)) 36 = ρ 36 := by
  have h6 := hR.p
  match hs : sRg R ρ (vCl R ρ c) (rP R) with
  | none => rfl
  | some (p, m) =>
    have hp := (sRg_lt hs).1
    show (if (d && sFd R c seed ρ p) = true then sNo (upd ρ (30 + p) 1) else sStr R c ρ p) 36 = ρ 36
    split
    · simp only [sNo, upd]
      rw [if_neg (by omega), if_neg (by omega), if_neg (by omega)]
    · simp only [sStr, upd]
      rw [if_neg (by omega), if_neg (by omega), if_neg (by omega), if_neg (by omega)]
theorem sNoon_36 {R : pR} {c : Nat} {seed : Int32} {d : Bool} {ρ : Nat → Int32} (hR : rOK R) : sNoon R c seed d ρ 36 = ρ 36 := by
  unfold sNoon
  rw [sEnd_18 hR (by decide) (by decide), sMid_36 hR]
/-- who rang: undoubted, who would -/
theorem sNoon_38 {R : pR} {c : Nat} {seed : Int32} {ρ : Nat → Int32} (hR : rOK R) : sNoon R c seed false ρ 38 = gN (sRg R ρ (vCl R ρ c) (rP R)) := by
  unfold sNoon
  rw [sEnd_18 hR (by decide) (by decide)]
  match hs : sRg R ρ (vCl R ρ c) (rP R) with
  | none => rfl
  | some (p, m) =>
    show (if (false && sFd R c seed ρ p) = true then sNo (upd ρ (30 + p) 1) else sStr R c ρ p) 38 = nI p
    rw [if_neg (by simp)]
    rfl
def sGo (R : pR) (c : Nat) (seed : Int32) (d : Bool) (ρ : Nat → Int32) : Nat → Nat → Int32
  | 0 => ρ
  | n + 1 => sNoon R c seed d (sGo R c seed d ρ n)
theorem sGo_s (R : pR) (c : Nat) (seed : Int32) (d : Bool) (ρ : Nat → Int32) (n : Nat) : sGo R c seed d ρ (n + 1) = sNoon R c seed d (sGo R c seed d ρ n) := rfl
theorem sGo_ok {R : pR} {c : Nat} {seed : Int32} {d : Bool} {ρ : Nat → Int32} (hR : rOK R) (ho : rowOK R ρ) : ∀ n, rowOK R (sGo R c seed d ρ n)
  | 0 => ho
  | n + 1 => sNoon_ok hR (sGo_ok hR ho n)
theorem sGo_36 {R : pR} {c : Nat} {seed : Int32} {d : Bool} {ρ : Nat → Int32} (hR : rOK R) : ∀ n, sGo R c seed d ρ n 36 = ρ 36
  | 0 => rfl
  | n + 1 => by rw [sGo_s, sNoon_36 hR, sGo_36 hR n]

/-! noon on the state 48 -/
def fJ_48 : List (Nat × Option Nat) := [(16, none), (45, none)]
theorem c_lies_48 {R : pR} {ρ : Nat → Int32} {c : Nat} (hR : rOK R) {g : xG} (h : jC_44_48 R ρ c g) {p : Nat} (hp : p < rP R) : ∃ w, f_X1_lies_44_48 (nI p) g = some (if sL R ρ c p 0 = vFar R c p then 0 else 1, w) ∧ xfrm [(16, none), (45, none)] g w := by
  obtain ⟨w, e, f⟩ := c_lawFrom_44_48 hR h hp (hR.o hp) (k := 0) (by decide)
  have j := h.ag (f.agr (C := kJ_44_48) rfl)
  refine ⟨w, ?_, f⟩
  unfold f_X1_lies_44_48
  rw [c_home h.1 hR hp, show f_X1_lawFrom_44_48 (nI p) (nI (rO R p)) 0 g = some (sL R ρ c p 0, w) from e, Option.bind_some]
  dsimp only
  rw [c_trueFar hR j.1 j.2.2.2.1 hp]
  by_cases z : sL R ρ c p 0 = vFar R c p
  · rw [if_pos z, if_pos z]
  · rw [if_neg z, if_neg z]
theorem c_found_48 {R : pR} {ρ : Nat → Int32} {c : Nat} (hR : rOK R) {g : xG} (h : jC_44_48 R ρ c g) {p : Nat} (hp : p < rP R) (seed : Int32) : ∃ w, f_X1_isFoundOut_44_48 (nI p) seed g = some (if sFd R c seed ρ p = true then 1 else 0, w) ∧ xfrm [(16, none), (45, none)] g w := by
  obtain ⟨w, e, f⟩ := c_lies_48 hR h hp
  have j := h.ag (f.agr (C := kJ_44_48) rfl)
  unfold f_X1_isFoundOut_44_48 sFd
  rw [e, Option.bind_some]
  dsimp only
  by_cases z : sL R ρ c p 0 = vFar R c p
  · rw [if_pos z, if_pos z, if_pos rfl, if_neg (by decide)]
    exact ⟨w, rfl, f⟩
  · rw [if_neg z, if_neg z, if_neg (show ¬ (1 : Int32) = 0 by decide), c_day48 j.2.2.2.2, lot_c, Option.bind_some]
    obtain ⟨w2, e2, f2⟩ := c_lawNow_44_48 hR j hp (k := 3) (by decide)
    rw [show f_X1_lawNow_44_48 (nI p) 3 w = some (sL R ρ c p 3, w2) from e2, Option.bind_some]
    dsimp only
    by_cases z2 : sL R ρ c p 3 ≤ lotV seed (8 * ρ 37 + nI p)
    · rw [if_pos z2, if_pos z2, if_neg (by decide)]
      exact ⟨w2, rfl, f.tr f2 rfl⟩
    · rw [if_neg z2, if_neg z2, if_pos rfl]
      exact ⟨w2, rfl, f.tr f2 rfl⟩
theorem c_strike_48 {R : pR} {ρ : Nat → Int32} {c : Nat} (hR : rOK R) {g : xG} (h : jC_44_48 R ρ c g) {p : Nat} (hp : p < rP R) : ∃ w, f_X1_strike_44_48 (nI p) g = some w ∧ jC_44_48 R (upd (upd (upd ρ 39 (sL R ρ c p 1)) (18 + p) (ρ (18 + p) + 1)) (24 + p) (xmin 99999 (ρ (24 + p) + sL R ρ c p 2))) c w := by
  have h6 := hR.p
  obtain ⟨w1, e1, f1⟩ := c_lawNow_44_48 hR h hp (k := 1) (by decide)
  have j1 := h.ag (f1.agr (C := kJ_44_48) rfl)
  obtain ⟨w2, e2, f2⟩ := c_lawNow_44_48 hR j1 hp (k := 2) (by decide)
  have j2 := j1.ag (f2.agr (C := kJ_44_48) rfl)
  unfold f_X1_strike_44_48
  rw [show f_X1_lawNow_44_48 (nI p) 1 g = some (sL R ρ c p 1, w1) from e1, Option.bind_some]
  dsimp only
  rw [show f_X1_lawNow_44_48 (nI p) 2 w1 = some (sL R ρ c p 2, w2) from e2, Option.bind_some]
  dsimp only
  rw [xl_e, c_pu48 j2.2.2.2.2 h6 hp, show f_X6_set_48 2 (sL R ρ c p 1) w2 = _ from c_put48 (k := 2) (by decide)]
  have j3 : jC_44_48 R (upd ρ 39 (sL R ρ c p 1)) c (xupd w2.1 49 2 (sL R ρ c p 1), w2.2) := j2.up (sx_ls j2.2.2.2.2 h6)
  rw [xl_e, c_ru48 j3.2.2.2.2 h6 hp, show upd ρ 39 (sL R ρ c p 1) (18 + p) = ρ (18 + p) from if_neg (by omega), show ∀ v u, f_X6_setOf_48 (nI p) 23 v u = (xupd u.1 49 (23 + p) v, u.2) from fun v u => c_set48 (k := 23) (by omega)]
  have j4 := j3.up (sx_ru (v := ρ (18 + p) + 1) j3.2.2.2.2 h6 hp)
  rw [xl_e, show ∀ v u, f_X6_setOf_48 (nI p) 29 v u = (xupd u.1 49 (29 + p) v, u.2) from fun v u => c_set48 (k := 29) (by omega)]
  exact ⟨_, rfl, j4.up (sx_pu j4.2.2.2.2 h6 hp)⟩
theorem c_n78_48 {R : pR} {ρ : Nat → Int32} {c : Nat} (hR : rOK R) {g : xG} (h : jC_44_48 R ρ c g) (hc2 : c < 2 ^ 31) (ho : rowOK R ρ) : ∃ w, f_X1_goThroughNoon_44_48_78 xN 0 g = some w ∧ jC_44_48 R (sEnd R c ρ) c w := by
  have h6 := hR.p
  refine lp (fun n i (s : xG) => f_X1_goThroughNoon_44_48_78 n i s) (fun p s => jC_44_48 R (sWks R c ρ p) c s) (rP R) (fun o => ∃ w, o = some w ∧ jC_44_48 R (sEnd R c ρ) c w) ?_ ?_ xN 0 g (Nat.zero_le _) (by show rP R < 4000 + 0; omega) h
  · intro n p w hp j
    refine .inl ?_
    simp only [f_X1_goThroughNoon_44_48_78]
    obtain ⟨w2, q1, q2⟩ := c_walk_48 hR j hc2 (sWks_ok hR ho p (by omega)) hp
    rw [show f_X4_people_3 w = nI (rP R) from j.1.1.2.2.1, if_neg (nI_ge hp (by omega)), q1, Option.bind_some, nI_1]
    exact ⟨w2, rfl, q2⟩
  · intro n w j
    simp only [f_X1_goThroughNoon_44_48_78]
    rw [show f_X4_people_3 w = nI (rP R) from j.1.1.2.2.1, if_pos (nI_le (Nat.le_refl _) (by omega)), xl_e, c_day48 j.2.2.2.2, show f_X6_set_48 0 _ w = _ from c_put48 (k := 0) (by decide)]
    exact ⟨_, rfl, j.up (sx_day j.2.2.2.2 h6)⟩
theorem c_n47_48 {R : pR} {ρ : Nat → Int32} {c : Nat} (hR : rOK R) {g : xG} (h : jC_44_48 R ρ c g) (hc2 : c < 2 ^ 31) (ho : rowOK R ρ) : ∃ w, f_X1_goThroughNoon_44_48_47 (-2) g = some w ∧ jC_44_48 R (sEnd R c (sNo ρ)) c w := by
  have h6 := hR.p
  unfold f_X1_goThroughNoon_44_48_47
  rw [if_pos (by decide), xl_e, show f_X6_set_48 2 0 g = _ from c_put48 (k := 2) (by decide)]
  have j1 := h.up (sx_ls (v := 0) h.2.2.2.2 h6)
  rw [xl_e, show ∀ v u, f_X6_set_48 1 v u = (xupd u.1 49 1 v, u.2) from fun v u => c_put48 (k := 1) (by decide)]
  have j2 := j1.up (sx_lr (v := -2) j1.2.2.2.2 h6)
  exact c_n78_48 hR j2 hc2 (sNo_ok hR ho)
theorem c_n47p_48 {R : pR} {ρ : Nat → Int32} {c : Nat} (hR : rOK R) {g : xG} (h : jC_44_48 R ρ c g) (hc2 : c < 2 ^ 31) (ho : rowOK R ρ) {p : Nat} (hp : p < rP R) : ∃ w, f_X1_goThroughNoon_44_48_47 (nI p) g = some w ∧ jC_44_48 R (sEnd R c (sStr R c ρ p)) c w := by
  have h6 := hR.p
  unfold f_X1_goThroughNoon_44_48_47
  obtain ⟨w1, e1, j1⟩ := c_strike_48 hR h hp
  rw [if_neg (nI_pos (by omega)), e1, Option.bind_some, xl_e, show ∀ v u, f_X6_set_48 1 v u = (xupd u.1 49 1 v, u.2) from fun v u => c_put48 (k := 1) (by decide)]
  have j2 := j1.up (sx_lr (v := nI p) j1.2.2.2.2 h6)
  exact c_n78_48 hR j2 hc2 (sStr_ok hR ho hp)
theorem c_noon_48 {R : pR} {ρ : Nat → Int32} {c : Nat} (hR : rOK R) {g : xG} (h : jC_44_48 R ρ c g) (hc2 : c < 2 ^ 31) (ho : rowOK R ρ) (seed : Int32) (d : Bool) {dd : Int32} (hd : dd = if d then 1 else 0) : ∃ w, f_X1_goThroughNoon_44_48 seed dd g = some w ∧ jC_44_48 R (sNoon R c seed d ρ) c w := by
  have h6 := hR.p
  obtain ⟨w1, e1, f1⟩ := c_ringerOf_44_48 hR h ho
  have j1 := h.ag (f1.agr (C := kJ_44_48) rfl)
  unfold f_X1_goThroughNoon_44_48 sNoon
  rw [e1, Option.bind_some]
  dsimp only
  match hs : sRg R ρ (vCl R ρ c) (rP R) with
  | none =>
    rw [if_pos (show gN none < 0 by decide)]
    exact c_n47_48 hR j1 hc2 ho
  | some (p, m) =>
    have hp := (sRg_lt hs).1
    rw [show gN (some (p, m)) = nI p from rfl, if_neg (nI_pos (by omega)), show sMid R c seed d ρ (some (p, m)) = if (d && sFd R c seed ρ p) = true then sNo (upd ρ (30 + p) 1) else sStr R c ρ p from rfl]
    cases d with
    | false =>
      rw [hd, if_pos (by rfl), if_neg (by simp)]
      exact c_n47p_48 hR j1 hc2 ho hp
    | true =>
      obtain ⟨w2, e2, f2⟩ := c_found_48 hR j1 hp seed
      have j2 := j1.ag (f2.agr (C := kJ_44_48) rfl)
      rw [hd, if_neg (show ¬ (if true = true then (1 : Int32) else 0) = 0 by decide), e2, Option.bind_some]
      dsimp only
      cases hf : sFd R c seed ρ p with
      | false =>
        rw [if_neg (show ¬ false = true by decide), if_pos rfl, if_neg (by simp)]
        exact c_n47p_48 hR j2 hc2 ho hp
      | true =>
        rw [if_pos rfl, if_neg (show ¬ (1 : Int32) = 0 by decide), if_pos (by simp), xl_e, c_ba48 j2.2.2.2.2, show f_X6_set_48 3 _ w2 = _ from c_put48 (k := 3) (by decide)]
        exact c_n47_48 hR (j2.up (sx_in j2.2.2.2.2 h6 hp)) hc2 (rowOK_ba hR ho hp (.inr rfl))

/-! noon on the state 50 -/
def fJ_50 : List (Nat × Option Nat) := [(16, none), (45, none)]
theorem c_lies_50 {R : pR} {ρ : Nat → Int32} {c : Nat} (hR : rOK R) {g : xG} (h : jC_44_50 R ρ c g) {p : Nat} (hp : p < rP R) : ∃ w, f_X1_lies_44_50 (nI p) g = some (if sL R ρ c p 0 = vFar R c p then 0 else 1, w) ∧ xfrm [(16, none), (45, none)] g w := by
  obtain ⟨w, e, f⟩ := c_lawFrom_44_50 hR h hp (hR.o hp) (k := 0) (by decide)
  have j := h.ag (f.agr (C := kJ_44_50) rfl)
  refine ⟨w, ?_, f⟩
  unfold f_X1_lies_44_50
  rw [c_home h.1 hR hp, show f_X1_lawFrom_44_50 (nI p) (nI (rO R p)) 0 g = some (sL R ρ c p 0, w) from e, Option.bind_some]
  dsimp only
  rw [c_trueFar hR j.1 j.2.2.2.1 hp]
  by_cases z : sL R ρ c p 0 = vFar R c p
  · rw [if_pos z, if_pos z]
  · rw [if_neg z, if_neg z]
theorem c_found_50 {R : pR} {ρ : Nat → Int32} {c : Nat} (hR : rOK R) {g : xG} (h : jC_44_50 R ρ c g) {p : Nat} (hp : p < rP R) (seed : Int32) : ∃ w, f_X1_isFoundOut_44_50 (nI p) seed g = some (if sFd R c seed ρ p = true then 1 else 0, w) ∧ xfrm [(16, none), (45, none)] g w := by
  obtain ⟨w, e, f⟩ := c_lies_50 hR h hp
  have j := h.ag (f.agr (C := kJ_44_50) rfl)
  unfold f_X1_isFoundOut_44_50 sFd
  rw [e, Option.bind_some]
  dsimp only
  by_cases z : sL R ρ c p 0 = vFar R c p
  · rw [if_pos z, if_pos z, if_pos rfl, if_neg (by decide)]
    exact ⟨w, rfl, f⟩
  · rw [if_neg z, if_neg z, if_neg (show ¬ (1 : Int32) = 0 by decide), c_day50 j.2.2.2.2, lot_c, Option.bind_some]
    obtain ⟨w2, e2, f2⟩ := c_lawNow_44_50 hR j hp (k := 3) (by decide)
    rw [show f_X1_lawNow_44_50 (nI p) 3 w = some (sL R ρ c p 3, w2) from e2, Option.bind_some]
    dsimp only
    by_cases z2 : sL R ρ c p 3 ≤ lotV seed (8 * ρ 37 + nI p)
    · rw [if_pos z2, if_pos z2, if_neg (by decide)]
      exact ⟨w2, rfl, f.tr f2 rfl⟩
    · rw [if_neg z2, if_neg z2, if_pos rfl]
      exact ⟨w2, rfl, f.tr f2 rfl⟩
theorem c_strike_50 {R : pR} {ρ : Nat → Int32} {c : Nat} (hR : rOK R) {g : xG} (h : jC_44_50 R ρ c g) {p : Nat} (hp : p < rP R) : ∃ w, f_X1_strike_44_50 (nI p) g = some w ∧ jC_44_50 R (upd (upd (upd ρ 39 (sL R ρ c p 1)) (18 + p) (ρ (18 + p) + 1)) (24 + p) (xmin 99999 (ρ (24 + p) + sL R ρ c p 2))) c w := by
  have h6 := hR.p
  obtain ⟨w1, e1, f1⟩ := c_lawNow_44_50 hR h hp (k := 1) (by decide)
  have j1 := h.ag (f1.agr (C := kJ_44_50) rfl)
  obtain ⟨w2, e2, f2⟩ := c_lawNow_44_50 hR j1 hp (k := 2) (by decide)
  have j2 := j1.ag (f2.agr (C := kJ_44_50) rfl)
  unfold f_X1_strike_44_50
  rw [show f_X1_lawNow_44_50 (nI p) 1 g = some (sL R ρ c p 1, w1) from e1, Option.bind_some]
  dsimp only
  rw [show f_X1_lawNow_44_50 (nI p) 2 w1 = some (sL R ρ c p 2, w2) from e2, Option.bind_some]
  dsimp only
  rw [xl_e, c_pu50 j2.2.2.2.2 h6 hp, show f_X6_set_50 2 (sL R ρ c p 1) w2 = _ from c_put50 (k := 2) (by decide)]
  have j3 : jC_44_50 R (upd ρ 39 (sL R ρ c p 1)) c (xupd w2.1 51 2 (sL R ρ c p 1), w2.2) := j2.up (sx_ls j2.2.2.2.2 h6)
  rw [xl_e, c_ru50 j3.2.2.2.2 h6 hp, show upd ρ 39 (sL R ρ c p 1) (18 + p) = ρ (18 + p) from if_neg (by omega), show ∀ v u, f_X6_setOf_50 (nI p) 23 v u = (xupd u.1 51 (23 + p) v, u.2) from fun v u => c_set50 (k := 23) (by omega)]
  have j4 := j3.up (sx_ru (v := ρ (18 + p) + 1) j3.2.2.2.2 h6 hp)
  rw [xl_e, show ∀ v u, f_X6_setOf_50 (nI p) 29 v u = (xupd u.1 51 (29 + p) v, u.2) from fun v u => c_set50 (k := 29) (by omega)]
  exact ⟨_, rfl, j4.up (sx_pu j4.2.2.2.2 h6 hp)⟩
theorem c_n78_50 {R : pR} {ρ : Nat → Int32} {c : Nat} (hR : rOK R) {g : xG} (h : jC_44_50 R ρ c g) (hc2 : c < 2 ^ 31) (ho : rowOK R ρ) : ∃ w, f_X1_goThroughNoon_44_50_78 xN 0 g = some w ∧ jC_44_50 R (sEnd R c ρ) c w := by
  have h6 := hR.p
  refine lp (fun n i (s : xG) => f_X1_goThroughNoon_44_50_78 n i s) (fun p s => jC_44_50 R (sWks R c ρ p) c s) (rP R) (fun o => ∃ w, o = some w ∧ jC_44_50 R (sEnd R c ρ) c w) ?_ ?_ xN 0 g (Nat.zero_le _) (by show rP R < 4000 + 0; omega) h
  · intro n p w hp j
    refine .inl ?_
    simp only [f_X1_goThroughNoon_44_50_78]
    obtain ⟨w2, q1, q2⟩ := c_walk_50 hR j hc2 (sWks_ok hR ho p (by omega)) hp
    rw [show f_X4_people_3 w = nI (rP R) from j.1.1.2.2.1, if_neg (nI_ge hp (by omega)), q1, Option.bind_some, nI_1]
    exact ⟨w2, rfl, q2⟩
  · intro n w j
    simp only [f_X1_goThroughNoon_44_50_78]
    rw [show f_X4_people_3 w = nI (rP R) from j.1.1.2.2.1, if_pos (nI_le (Nat.le_refl _) (by omega)), xl_e, c_day50 j.2.2.2.2, show f_X6_set_50 0 _ w = _ from c_put50 (k := 0) (by decide)]
    exact ⟨_, rfl, j.up (sx_day j.2.2.2.2 h6)⟩
theorem c_n47_50 {R : pR} {ρ : Nat → Int32} {c : Nat} (hR : rOK R) {g : xG} (h : jC_44_50 R ρ c g) (hc2 : c < 2 ^ 31) (ho : rowOK R ρ) : ∃ w, f_X1_goThroughNoon_44_50_47 (-2) g = some w ∧ jC_44_50 R (sEnd R c (sNo ρ)) c w := by
  have h6 := hR.p
  unfold f_X1_goThroughNoon_44_50_47
  rw [if_pos (by decide), xl_e, show f_X6_set_50 2 0 g = _ from c_put50 (k := 2) (by decide)]
  have j1 := h.up (sx_ls (v := 0) h.2.2.2.2 h6)
  rw [xl_e, show ∀ v u, f_X6_set_50 1 v u = (xupd u.1 51 1 v, u.2) from fun v u => c_put50 (k := 1) (by decide)]
  have j2 := j1.up (sx_lr (v := -2) j1.2.2.2.2 h6)
  exact c_n78_50 hR j2 hc2 (sNo_ok hR ho)
theorem c_n47p_50 {R : pR} {ρ : Nat → Int32} {c : Nat} (hR : rOK R) {g : xG} (h : jC_44_50 R ρ c g) (hc2 : c < 2 ^ 31) (ho : rowOK R ρ) {p : Nat} (hp : p < rP R) : ∃ w, f_X1_goThroughNoon_44_50_47 (nI p) g = some w ∧ jC_44_50 R (sEnd R c (sStr R c ρ p)) c w := by
  have h6 := hR.p
  unfold f_X1_goThroughNoon_44_50_47
  obtain ⟨w1, e1, j1⟩ := c_strike_50 hR h hp
  rw [if_neg (nI_pos (by omega)), e1, Option.bind_some, xl_e, show ∀ v u, f_X6_set_50 1 v u = (xupd u.1 51 1 v, u.2) from fun v u => c_put50 (k := 1) (by decide)]
  have j2 := j1.up (sx_lr (v := nI p) j1.2.2.2.2 h6)
  exact c_n78_50 hR j2 hc2 (sStr_ok hR ho hp)
theorem c_noon_50 {R : pR} {ρ : Nat → Int32} {c : Nat} (hR : rOK R) {g : xG} (h : jC_44_50 R ρ c g) (hc2 : c < 2 ^ 31) (ho : rowOK R ρ) (seed : Int32) (d : Bool) {dd : Int32} (hd : dd = if d then 1 else 0) : ∃ w, f_X1_goThroughNoon_44_50 seed dd g = some w ∧ jC_44_50 R (sNoon R c seed d ρ) c w := by
  have h6 := hR.p
  obtain ⟨w1, e1, f1⟩ := c_ringerOf_44_50 hR h ho
  have j1 := h.ag (f1.agr (C := kJ_44_50) rfl)
  unfold f_X1_goThroughNoon_44_50 sNoon
  rw [e1, Option.bind_some]
  dsimp only
  match hs : sRg R ρ (vCl R ρ c) (rP R) with
  | none =>
    rw [if_pos (show gN none < 0 by decide)]
    exact c_n47_50 hR j1 hc2 ho
  | some (p, m) =>
    have hp := (sRg_lt hs).1
    rw [show gN (some (p, m)) = nI p from rfl, if_neg (nI_pos (by omega)), show sMid R c seed d ρ (some (p, m)) = if (d && sFd R c seed ρ p) = true then sNo (upd ρ (30 + p) 1) else sStr R c ρ p from rfl]
    cases d with
    | false =>
      rw [hd, if_pos (by rfl), if_neg (by simp)]
      exact c_n47p_50 hR j1 hc2 ho hp
    | true =>
      obtain ⟨w2, e2, f2⟩ := c_found_50 hR j1 hp seed
      have j2 := j1.ag (f2.agr (C := kJ_44_50) rfl)
      rw [hd, if_neg (show ¬ (if true = true then (1 : Int32) else 0) = 0 by decide), e2, Option.bind_some]
      dsimp only
      cases hf : sFd R c seed ρ p with
      | false =>
        rw [if_neg (show ¬ false = true by decide), if_pos rfl, if_neg (by simp)]
        exact c_n47p_50 hR j2 hc2 ho hp
      | true =>
        rw [if_pos rfl, if_neg (show ¬ (1 : Int32) = 0 by decide), if_pos (by simp), xl_e, c_ba50 j2.2.2.2.2, show f_X6_set_50 3 _ w2 = _ from c_put50 (k := 3) (by decide)]
        exact c_n47_50 hR (j2.up (sx_in j2.2.2.2.2 h6 hp)) hc2 (rowOK_ba hR ho hp (.inr rfl))

/-! noon: the reference -/
section
variable {L : Nat} {R : pR} {ρ : Nat → Int32} {c : Nat} {g : xG}
theorem r_n155 (h : jR L R ρ c g) (hR : rOK R) (ho : rowOK R ρ) (hc : ρ 36 = nI c) (hc2 : c < 2 ^ 31) : ∃ w, f_X12_noonRings_60_155 xN 0 g = some w ∧ jR L R (sEnd R c ρ) c w := by
  have h6 := hR.p
  refine lp (fun n i (s : xG) => f_X12_noonRings_60_155 n i s) (fun p s => jR L R (sWks R c ρ p) c s) (rP R) (fun o => ∃ w, o = some w ∧ jR L R (sEnd R c ρ) c w) ?_ ?_ xN 0 g (Nat.zero_le _) (by show rP R < 4000 + 0; omega) h
  · intro n p w hp j
    refine .inl ?_
    obtain ⟨⟨⟨hL, e18, eT, eR, eP, eC, eS⟩, -, -⟩, -, -, -⟩ := id j
    simp only [f_X12_noonRings_60_155]
    obtain ⟨w2, q1, q2⟩ := r_walk j hR (sWks_ok hR ho p (by omega)) ((sWks_18 R c ρ (by decide) p (by omega)).trans hc) hc2 hp
    rw [e18, xg_in hL (by decide), nI_clamp (show L < 2 ^ 31 by omega), eP, if_neg (nI_ge hp (by omega)), q1, Option.bind_some, nI_1]
    exact ⟨w2, rfl, q2⟩
  · intro n w j
    obtain ⟨⟨⟨hL, e18, eT, eR, eP, eC, eS⟩, -, -⟩, -, h3, -⟩ := id j
    simp only [f_X12_noonRings_60_155]
    rw [e18, xg_in hL (by decide), nI_clamp (show L < 2 ^ 31 by omega), eP, if_pos (nI_le (Nat.le_refl _) (by omega)), xg_t (by decide), xg_t (by decide), show (37 : Int32).toNatClampNeg = 37 from rfl, h3 37 (by decide)]
    exact ⟨_, rfl, j.up⟩
theorem r_lies (h : jR L R ρ c g) (hR : rOK R) {p : Nat} (hp : p < rP R) : ∃ w, f_X12_doesLie_60 (nI p) g = some (if sL R ρ c p 0 = vFar R c p then 0 else 1, w) ∧ xfrm kLk g w := by
  obtain ⟨w, e, f⟩ := r_claimOf h hR hp
  have j := h.ag (f.agr (C := kJr) rfl)
  refine ⟨w, ?_, f⟩
  unfold f_X12_doesLie_60
  rw [e, Option.bind_some]
  dsimp only
  rw [r_farOf j hR hp, Option.bind_some]
  show (if sL R ρ c p 0 = vFar R c p then some (0, w) else some (1, w)) = _
  by_cases z : sL R ρ c p 0 = vFar R c p
  · rw [if_pos z, if_pos z]
  · rw [if_neg z, if_neg z]
def sP1 (ρ : Nat → Int32) : Nat → Int32 := upd (upd ρ 38 (-2)) 39 0
theorem sP1_up (ρ : Nat → Int32) : ∀ k, k < 38 → sP1 ρ k = ρ k := fun k hk => by
  simp only [sP1, upd]
  rw [if_neg (by omega), if_neg (by omega)]
theorem r_n78 (h : jR L R (sP1 ρ) c g) (hR : rOK R) (ho : rowOK R ρ) (hc : ρ 36 = nI c) (hc2 : c < 2 ^ 31) {p : Nat} (hp : p < rP R) : ∃ w, f_X12_noonRings_60_78 (nI p) g = some w ∧ jR L R (sEnd R c (sStr R c ρ p)) c w := by
  have h6 := hR.p
  have hup := sP1_up ρ
  obtain ⟨w1, e1, f1⟩ := r_strokes h hR hp (nI (sD R c (rO R p) (rC R)))
  have j1 := h.ag (f1.agr (C := kJr) rfl)
  obtain ⟨w2, e2, f2⟩ := r_gifts j1 hR hp
  have j2 := j1.ag (f2.agr (C := kJr) rfl)
  obtain ⟨-, -, -, m, hm, em⟩ := ho.2.1 p hp
  obtain ⟨n, hn, en⟩ := sL_ge (R := R) (ρ := ρ) (c := c) (p := p) (k := 2) (by decide)
  obtain ⟨jj, hj, q1, q2⟩ := purse_is hm hn
  unfold f_X12_noonRings_60_78
  rw [if_neg (nI_pos (by omega)), r_farOf h hR hp, Option.bind_some, e1, Option.bind_some]
  dsimp only
  rw [a24, a18, xg_in (show 24 + p < 40 by omega) (by decide), e2, Option.bind_some]
  dsimp only
  rw [xg_in (show 24 + p < 40 by omega) (by decide), xg_in (show 18 + p < 40 by omega) (by decide), xg_in (show 18 + p < 40 by omega) (by decide), xg_t (by decide), xg_t (by decide), nI_clamp (show 24 + p < 2 ^ 31 by omega), nI_clamp (show 18 + p < 2 ^ 31 by omega), j1.2.2.1 (24 + p) (by omega), hup (24 + p) (by omega), sLaw_up hR (fun k a _ => hup k a) hp, sLaw_up hR (fun k a _ => hup k a) hp, show sLaw R ρ (nI (sD R c (rO R p) (rC R))) p 2 = nI n from en, em, q2, xu_ne (show 18 + p ≠ 24 + p by omega), j2.2.2.1 (18 + p) (by omega), hup (18 + p) (by omega)]
  refine r_n155 (ρ := sStr R c ρ p) (((((j2.up).up).up).up).row xfrm.rf (fun k hk => ?_)) hR (sStr_ok hR ho hp) ?_ hc2
  · have e := (((((j2.up (k := 24 + p) (v := nI jj)).up (k := 18 + p) (v := ρ (18 + p) + 1)).up (k := 38) (v := nI p)).up (k := 39) (v := sL R ρ c p 1))).2.2.1 k hk
    refine e.trans ?_
    unfold sStr
    rw [em, en, q1]
    simp only [sP1, upd]
    repeat' split
    all_goals first | omega | rfl
  · unfold sStr
    simp only [upd]
    rw [if_neg (by omega), if_neg (by omega), if_neg (by omega), if_neg (by omega)]
    exact hc
theorem r_noon (h : jR L R ρ c g) (hR : rOK R) (ho : rowOK R ρ) (hc : ρ 36 = nI c) (hc2 : c < 2 ^ 31) {seed : Int32} (hse : g.1 60 52 = seed) {d : Bool} (hd : g.1 60 53 = if d then 0 else 1) : ∃ w, f_X12_noonRings_60 g = some w ∧ jR L R (sNoon R c seed d ρ) c w ∧ w.1 60 52 = seed ∧ w.1 60 53 = (if d then 0 else 1) := by
  suffices hq : ∃ w, f_X12_noonRings_60 g = some w ∧ jR L R (sNoon R c seed d ρ) c w by
    obtain ⟨w, q1, q2⟩ := hq
    have f := fr_X12_noonRings_60 w q1
    exact ⟨w, q1, q2, ((f 60 52 rfl).1).trans hse, ((f 60 53 rfl).1).trans hd⟩
  have h6 := hR.p
  have hup := sP1_up ρ
  obtain ⟨w1, e1, f1⟩ := r_ringerNow h hR
  have j1 := h.ag (f1.agr (C := kJr) rfl)
  have j2 : jR L R (sP1 ρ) c (xupd (xupd w1.1 94 38 (-2)) 94 39 0, w1.2) := (j1.up (k := 38) (v := -2)).up (k := 39) (v := 0)
  have i53 : w1.1 60 53 = if d then 0 else 1 := ((f1 60 53 rfl).1).trans hd
  have i52 : w1.1 60 52 = seed := ((f1 60 52 rfl).1).trans hse
  unfold f_X12_noonRings_60 sNoon
  rw [e1, Option.bind_some]
  dsimp only
  rw [xg_t (by decide), xg_t (by decide), show (38 : Int32).toNatClampNeg = 38 from rfl, show (39 : Int32).toNatClampNeg = 39 from rfl]
  obtain ⟨w3, e3⟩ : ∃ w : xG, w = (xupd (xupd w1.1 94 38 (-2)) 94 39 0, w1.2) := ⟨_, rfl⟩
  have i52' : w3.1 60 52 = seed := by rw [e3]; exact i52
  rw [← e3] at j2 ⊢
  have hno : ∀ {ρ' : Nat → Int32} {v : xG}, jR L R ρ' c v → (∀ k, k < 40 → ρ' k = sNo ρ k) → ∃ w, f_X12_noonRings_60_155 xN 0 v = some w ∧ jR L R (sEnd R c (sNo ρ)) c w := fun {ρ' v} hv hk => by
    exact r_n155 (hv.row xfrm.rf (fun k hk2 => (hv.2.2.1 k hk2).trans (hk k hk2))) hR (sNo_ok hR ho) (hc) hc2
  match hs : sRg R ρ (vCl R ρ c) (rP R) with
  | none =>
    rw [if_pos (show gN none < 0 by decide)]
    unfold f_X12_noonRings_60_78
    rw [if_pos (show gN none < 0 by decide)]
    refine hno j2 (fun k hk => ?_)
    simp only [sP1, sNo, upd]
    repeat' split
    all_goals first | omega | rfl
  | some (p, m) =>
    have hp := (sRg_lt hs).1
    rw [show gN (some (p, m)) = nI p from rfl, if_neg (nI_pos (by omega)), show sMid R c seed d ρ (some (p, m)) = if (d && sFd R c seed ρ p) = true then sNo (upd ρ (30 + p) 1) else sStr R c ρ p from rfl, i53]
    cases d with
    | false =>
      rw [if_neg (show ¬ (if false = true then (0 : Int32) else 1) = 0 by decide), if_neg (by simp)]
      exact r_n78 j2 hR ho hc hc2 hp
    | true =>
      obtain ⟨w4, e4, f4⟩ := r_lies j2 hR hp
      have j4 := j2.ag (f4.agr (C := kJr) rfl)
      have eL : ∀ k, sL R (sP1 ρ) c p k = sL R ρ c p k := fun k => sLaw_up hR (fun k a _ => hup k a) hp _ k
      rw [if_pos (show (if true = true then (0 : Int32) else 1) = 0 by decide), e4, Option.bind_some, eL]
      dsimp only
      unfold sFd
      by_cases z : sL R ρ c p 0 = vFar R c p
      · rw [if_pos z, if_pos z, if_pos rfl, if_neg (by simp)]
        exact r_n78 j4 hR ho hc hc2 hp
      · rw [if_neg z, if_neg z, if_neg (show ¬ (1 : Int32) = 0 by decide), xg_t (by decide), show (37 : Int32).toNatClampNeg = 37 from rfl, j4.2.2.1 37 (by decide), hup 37 (by decide), lot_r, Option.bind_some, show w4.1 60 52 = seed from ((f4 60 52 rfl).1).trans i52']
        obtain ⟨w5, e5, f5⟩ := r_doubts j4 hR hp
        have j5 := j4.ag (f5.agr (C := kJr) rfl)
        rw [show f_X12_doubtsOf_60 (nI p) w4 = some (sL R ρ c p 3, w5) from e5.trans (by rw [sLaw_up hR (fun k a _ => hup k a) hp]; rfl), Option.bind_some]
        dsimp only
        by_cases z2 : sL R ρ c p 3 ≤ lotV seed (8 * ρ 37 + nI p)
        · rw [if_pos z2, if_pos z2, if_neg (by simp)]
          exact r_n78 j5 hR ho hc hc2 hp
        · rw [if_neg z2, if_neg z2, if_pos (by simp), a30, xg_in (show 30 + p < 40 by omega) (by decide), nI_clamp (show 30 + p < 2 ^ 31 by omega)]
          have j6 := j5.up (k := 30 + p) (v := 1)
          refine r_n155 (ρ := sNo (upd ρ (30 + p) 1)) (j6.row xfrm.rf (fun k hk => ?_)) hR (sNo_ok hR (rowOK_ba hR ho hp (.inr rfl))) ?_ hc2
          · refine (j6.2.2.1 k hk).trans ?_
            simp only [sP1, sNo, upd]
            repeat' split
            all_goals first | omega | rfl
          · simp only [sNo, upd]
            rw [if_neg (by omega), if_neg (by omega), if_neg (by omega)]
            exact hc
theorem r_goes (h : jR L R ρ c g) (hR : rOK R) (ho : rowOK R ρ) (hc : ρ 36 = nI c) (hc2 : c < 2 ^ 31) {seed : Int32} (hse : g.1 60 52 = seed) {d : Bool} (hd : g.1 60 53 = if d then 0 else 1) {n : Nat} (hn : n ≤ 60) : ∃ w, f_X12_goes_60 (nI n) g = some w ∧ jR L R (sGo R c seed d ρ n) c w ∧ xfrm fp_X12_noonRings_60 g w := by
  unfold f_X12_goes_60
  refine lp (fun m i (s : xG) => f_X12_goes_60_2 m (nI n) i s) (fun k s => jR L R (sGo R c seed d ρ k) c s ∧ xfrm fp_X12_noonRings_60 g s) n (fun o => ∃ w, o = some w ∧ jR L R (sGo R c seed d ρ n) c w ∧ xfrm fp_X12_noonRings_60 g w) ?_ ?_ xN 0 g (Nat.zero_le _) (by show n < 4000 + 0; omega) ⟨h, xfrm.rf⟩
  · rintro m k w hk ⟨j, f⟩
    refine .inl ?_
    simp only [f_X12_goes_60_2]
    obtain ⟨w2, q1, q2, -, -⟩ := r_noon j hR (sGo_ok hR ho k) ((sGo_36 hR k).trans hc) hc2 (((f 60 52 rfl).1).trans hse) (((f 60 53 rfl).1).trans hd)
    rw [if_neg (nI_ge hk (by omega)), q1, Option.bind_some, nI_1]
    exact ⟨w2, rfl, q2, f.tr (fr_X12_noonRings_60 w2 q1) rfl⟩
  · rintro m w ⟨j, f⟩
    simp only [f_X12_goes_60_2]
    rw [if_pos (nI_le (Nat.le_refl _) (by omega))]
    exact ⟨w, rfl, j, f⟩
end
/-! the class's goings on: undoubted and doubted -/
theorem c_goTrust {R : pR} {ρ : Nat → Int32} {c : Nat} (hR : rOK R) {g : xG} (h : jC_44_50 R ρ c g) (hc2 : c < 2 ^ 31) (ho : rowOK R ρ) {n : Nat} (hn : n ≤ 60) : ∃ w, f_X11_goOnTrusting_0_13 xN (nI n) 0 g = some w ∧ jC_44_50 R (sGo R c (rS R) false ρ n) c w := by
  refine lp (fun m i (s : xG) => f_X11_goOnTrusting_0_13 m (nI n) i s) (fun k s => jC_44_50 R (sGo R c (rS R) false ρ k) c s) n (fun o => ∃ w, o = some w ∧ jC_44_50 R (sGo R c (rS R) false ρ n) c w) ?_ ?_ xN 0 g (Nat.zero_le _) (by show n < 4000 + 0; omega) h
  · intro m k w hk j
    refine .inl ?_
    simp only [f_X11_goOnTrusting_0_13]
    obtain ⟨w2, q1, q2⟩ := c_noon_50 hR j hc2 (sGo_ok hR ho k) (rS R) false (dd := 0) rfl
    rw [if_neg (nI_ge hk (by omega)), show f_X4_seed_3 w = rS R from j.1.1.2.2.2.2, q1, Option.bind_some, nI_1]
    exact ⟨w2, rfl, q2⟩
  · intro m w j
    simp only [f_X11_goOnTrusting_0_13]
    rw [if_pos (nI_le (Nat.le_refl _) (by omega))]
    exact ⟨w, rfl, j⟩
theorem c_goDoubt {R : pR} {ρ : Nat → Int32} {c : Nat} (hR : rOK R) {g : xG} (h : jC_44_50 R ρ c g) (hc2 : c < 2 ^ 31) (ho : rowOK R ρ) (seed : Int32) {n : Nat} (hn : n ≤ 60) : ∃ w, f_X11_goOnDoubting_0_13 xN (nI n) seed 0 g = some w ∧ jC_44_50 R (sGo R c seed true ρ n) c w := by
  refine lp (fun m i (s : xG) => f_X11_goOnDoubting_0_13 m (nI n) seed i s) (fun k s => jC_44_50 R (sGo R c seed true ρ k) c s) n (fun o => ∃ w, o = some w ∧ jC_44_50 R (sGo R c seed true ρ n) c w) ?_ ?_ xN 0 g (Nat.zero_le _) (by show n < 4000 + 0; omega) h
  · intro m k w hk j
    refine .inl ?_
    simp only [f_X11_goOnDoubting_0_13]
    obtain ⟨w2, q1, q2⟩ := c_noon_50 hR j hc2 (sGo_ok hR ho k) seed true (dd := 1) rfl
    rw [if_neg (nI_ge hk (by omega)), q1, Option.bind_some, nI_1]
    exact ⟨w2, rfl, q2⟩
  · intro m w j
    simp only [f_X11_goOnDoubting_0_13]
    rw [if_pos (nI_le (Nat.le_refl _) (by omega))]
    exact ⟨w, rfl, j⟩
theorem c_goDays {R : pR} {ρ : Nat → Int32} {c : Nat} (hR : rOK R) {g : xG} (h : jC_44_48 R ρ c g) (hc2 : c < 2 ^ 31) (ho : rowOK R ρ) {n : Nat} (hn : n ≤ 60) : ∃ w, f_X11_days_0_19 xN (nI n) 0 g = some (sGo R c (rS R) true ρ n 37, w) ∧ jC_44_48 R (sGo R c (rS R) true ρ n) c w := by
  refine lp (fun m i (s : xG) => f_X11_days_0_19 m (nI n) i s) (fun k s => jC_44_48 R (sGo R c (rS R) true ρ k) c s) n (fun o => ∃ w, o = some (sGo R c (rS R) true ρ n 37, w) ∧ jC_44_48 R (sGo R c (rS R) true ρ n) c w) ?_ ?_ xN 0 g (Nat.zero_le _) (by show n < 4000 + 0; omega) h
  · intro m k w hk j
    refine .inl ?_
    simp only [f_X11_days_0_19]
    obtain ⟨w2, q1, q2⟩ := c_noon_48 hR j hc2 (sGo_ok hR ho k) (rS R) true (dd := 1) rfl
    rw [if_neg (nI_ge hk (by omega)), show f_X4_seed_3 w = rS R from j.1.1.2.2.2.2, q1, Option.bind_some, nI_1]
    exact ⟨w2, rfl, q2⟩
  · intro m w j
    simp only [f_X11_days_0_19]
    rw [if_pos (nI_le (Nat.le_refl _) (by omega)), c_day48 j.2.2.2.2]
    exact ⟨w, rfl, j⟩
