/-! distances: how both fill them -/
theorem dRd_s (R : pR) (c r : Nat) : dRd R c (r + 1) = if c.testBit r then dRd R c r else dSt (rA R r) (rB R r) (rM R r) (dRd R c r) := rfl
def Mt (m : Nat) (E : Nat → Nat → Nat) (g : xG) : Prop := ∀ x y, x < 7 → y < 7 → g.1 m (7 * x + y) = nI (E x y)
/-- stage k, done for the rows ahead of x and in row x for the columns ahead of y -/
def mxK (k : Nat) (D : Nat → Nat → Nat) (x y : Nat) : Nat → Nat → Nat := fun u v => if u < x ∨ (u = x ∧ v < y) then dK k D u v else D u v
theorem mxK_le {T : Nat} {D : Nat → Nat → Nat} (h : dOK T D) (k x y u v : Nat) : mxK k D x y u v ≤ 999 := by
  have := h.2.2.1 u v
  unfold mxK dK
  split <;> omega
theorem mxK_col {T k : Nat} {D : Nat → Nat → Nat} (h : dOK T D) (x y u : Nat) : mxK k D x y u k = D u k ∧ mxK k D x y k u = D k u := by
  obtain ⟨a, b⟩ := dK_in (x := u) (h.1 k)
  unfold mxK
  rw [a, b]
  exact ⟨ite_self _, ite_self _⟩
theorem mxK_step {T k x y u v : Nat} {D : Nat → Nat → Nat} (h : dOK T D) (hk : k < T) : (if u = x ∧ v = y then min (mxK k D x y u v) (mxK k D x y x k + mxK k D x y k y) else mxK k D x y u v) = mxK k D x (y + 1) u v := by
  rw [(mxK_col h x y x).1, (mxK_col h x y y).2]
  by_cases e : u = x ∧ v = y
  · obtain ⟨rfl, rfl⟩ := e
    rw [if_pos ⟨rfl, rfl⟩]
    unfold mxK
    rw [if_neg (by omega), if_pos (by omega)]
    rfl
  · rw [if_neg e]
    unfold mxK
    by_cases z : u < x ∨ (u = x ∧ v < y)
    · rw [if_pos z, if_pos (by omega)]
    · rw [if_neg z, if_neg (by omega)]
theorem mxK_0 {k u v : Nat} {D : Nat → Nat → Nat} : D u v = mxK k D 0 0 u v := by
  unfold mxK
  rw [if_neg (by omega)]
theorem mxK_next {k x u v : Nat} {D : Nat → Nat → Nat} (hv : v < 7) : mxK k D x 7 u v = mxK k D (x + 1) 0 u v := by
  unfold mxK
  by_cases z : u < x ∨ (u = x ∧ v < 7)
  · rw [if_pos z, if_pos (by omega)]
  · rw [if_neg z, if_neg (by omega)]
theorem mxK_row {T k x u v : Nat} {D : Nat → Nat → Nat} (h : dOK T D) (hk : k < T) (hv : v < 7) : mxK k D x T u v = mxK k D x 7 u v := by
  unfold mxK
  by_cases z : u < x ∨ (u = x ∧ v < T)
  · rw [if_pos z, if_pos (by omega)]
  · rw [if_neg z]
    by_cases z2 : u < x ∨ (u = x ∧ v < 7)
    · rw [if_pos z2, dK_edge h (.inr (by omega)) hk]
    · rw [if_neg z2]
theorem mxK_end {T k u v : Nat} {D : Nat → Nat → Nat} (h : dOK T D) (hk : k < T) : mxK k D T 0 u v = dK k D u v := by
  unfold mxK
  by_cases z : u < T ∨ (u = T ∧ v < 0)
  · rw [if_pos z]
  · rw [if_neg z, dK_edge h (.inl (by omega)) hk]
theorem mxK_end7 {k u v : Nat} {D : Nat → Nat → Nat} (hu : u < 7) : mxK k D 7 0 u v = dK k D u v := by
  unfold mxK
  rw [if_pos (.inl hu)]

/-! ===== the class's ways 38 ===== -/
def kWy38 : List (Nat × Option Nat) := [(38, some 2), (39, none)]
theorem c_between38 {g : xG} {R : pR} {E : Nat → Nat → Nat} (h : rmC g R) (hR : rOK R) (hm : Mt 39 E g) {a b : Nat} (ha : a < rT R) (hb : b < rT R) : f_X10_between_38 (nI a) (nI b) g = nI (E a b) := by
  have := hR.t
  unfold f_X10_between_38
  rw [c_isTown h hR ha, c_isTown h hR hb, if_neg (by decide), if_neg (by decide), i7, xat_in (by omega) (by decide)]
  exact hm a b (by omega) (by omega)
theorem c_betweenN38 {g : xG} {x y : Int32} (hx : x < 0 ∨ y < 0) : f_X10_between_38 x y g = 999 := by
  unfold f_X10_between_38
  rcases hx with h | h
  · rw [c_isTownN h, if_pos rfl]
  · rw [c_isTownN h, if_pos rfl]
    exact ite_self _
theorem c_isOpen38 {g : xG} {R : pR} {c : Nat} (h : rmC g R) (hR : rOK R) (hc : g.1 38 2 = nI c) (hc2 : c < 2 ^ 31) {r : Nat} (hr : r < rR R) : f_X10_isOpen_38 (nI r) g = if c.testBit r then 0 else 1 := by
  have := hR.r
  unfold f_X10_isOpen_38
  rw [c_isRoad h hR hr, if_neg (by decide), hc, bi_bit r (by omega)]
  by_cases e : c.testBit r = true
  · rw [if_pos e, if_neg (fun z => by rw [(bi_in hc2 (by omega)).mp z] at e; cases e)]
  · rw [if_neg e, if_pos ((bi_in hc2 (by omega)).mpr (by simpa using e))]
theorem c_shorten38 {g : xG} {R : pR} {E : Nat → Nat → Nat} (h : rmC g R) (hR : rOK R) (hm : Mt 39 E g) {a b v : Nat} (ha : a < rT R) (hb : b < rT R) (hE : E a b < 2 ^ 31) (hv : v < 2 ^ 31) : ∃ w, f_X10_shorten_38 (nI a) (nI b) (nI v) g = w ∧ Mt 39 (fun x y => if x = a ∧ y = b then min (E x y) v else E x y) w ∧ xfrm [(39, none)] g w := by
  have h7 := hR.t
  refine ⟨_, rfl, ?_⟩
  unfold f_X10_shorten_38
  rw [c_between38 h hR hm ha hb, i7, ite_le hE hv]
  by_cases e : E a b ≤ v
  · rw [if_pos e]
    refine ⟨fun x y hx hy => ?_, xfrm.rf⟩
    rw [hm x y hx hy]
    dsimp only
    by_cases e2 : x = a ∧ y = b
    · rw [if_pos e2, e2.1, e2.2, Nat.min_eq_left e]
    · rw [if_neg e2]
  · rw [if_neg e, xl_e, xput_in (by omega) (by decide)]
    refine ⟨fun x y hx hy => ?_, xfrm.up xfrm.rf rfl⟩
    dsimp only
    rw [xu_at]
    by_cases e2 : x = a ∧ y = b
    · rw [if_pos ⟨rfl, by rw [e2.1, e2.2]⟩, if_pos e2, e2.1, e2.2, Nat.min_eq_right (by omega)]
    · rw [if_neg (by omega), if_neg e2, hm x y hx hy]
def jW38 (R : pR) (c : Nat) (E : Nat → Nat → Nat) (g : xG) : Prop := rmC g R ∧ g.1 38 2 = nI c ∧ Mt 39 E g
theorem c_m158_38 {R : pR} {c k x : Nat} {D : Nat → Nat → Nat} (hR : rOK R) (hD : dOK (rT R) D) (hk : k < rT R) (hx : x < rT R) {k131 : Int32 → xG → Option xG} {k144 : Int32 → Int32 → xG → Option xG} {Q : Option xG → Prop} (hQ : ∀ w, jW38 R c (mxK k D x 7) w → Q (k144 (nI k) (nI (x + 1)) w)) {g : xG} (hg : jW38 R c (mxK k D x 0) g) : Q (f_X10_measure_38_158 k131 k144 xN (nI k) (nI x) 0 g) := by
  have h7 := hR.t
  refine lp (fun n i g => f_X10_measure_38_158 k131 k144 n (nI k) (nI x) i g) (fun y g => jW38 R c (mxK k D x y) g) (rT R) Q ?_ ?_ xN 0 g (Nat.zero_le _) (by unfold xN; omega) hg
  · intro n y g hy hg
    obtain ⟨hr, hc, hm⟩ := hg
    have b1 := mxK_le hD k x y x k
    have b2 := mxK_le hD k x y k y
    obtain ⟨w, e, hw, hf⟩ := c_shorten38 (v := mxK k D x y x k + mxK k D x y k y) hr hR hm hx hy (by have := mxK_le hD k x y x y; omega) (by omega)
    refine .inl ⟨w, ?_, hr.ag (hf.agr rfl), (hf 38 2 rfl).1.trans hc, fun u v hu hv => (hw u v hu hv).trans ?_⟩
    · simp only [f_X10_measure_38_158, xl_e]
      rw [show f_X4_towns_3 g = nI (rT R) from hr.1.1, if_neg (nI_ge hy (by omega)), c_between38 hr hR hm hx hk, c_between38 hr hR hm hk hy, nI_add, e, nI_1]
    · dsimp only
      rw [mxK_step hD hk]
  · intro n g hg
    have e : f_X10_measure_38_158 k131 k144 (n + 1) (nI k) (nI x) (nI (rT R)) g = k144 (nI k) (nI (x + 1)) g := by
      simp only [f_X10_measure_38_158]
      rw [show f_X4_towns_3 g = nI (rT R) from hg.1.1.1, if_pos (nI_le (Nat.le_refl _) (by omega)), nI_1]
    show Q (f_X10_measure_38_158 k131 k144 (n + 1) (nI k) (nI x) (nI (rT R)) g)
    rw [e]
    exact hQ g ⟨hg.1, hg.2.1, fun u v hu hv => (hg.2.2 u v hu hv).trans (by rw [mxK_row hD hk hv])⟩
theorem c_m144_38 {R : pR} {c k : Nat} {D : Nat → Nat → Nat} (hR : rOK R) (hD : dOK (rT R) D) (hk : k < rT R) {k131 : Int32 → xG → Option xG} {Q : Option xG → Prop} (hQ : ∀ w, jW38 R c (dK k D) w → Q (k131 (nI (k + 1)) w)) {g : xG} (hg : jW38 R c D g) : Q (f_X10_measure_38_144 k131 xN (nI k) 0 g) := by
  have h7 := hR.t
  refine lp (fun n i g => f_X10_measure_38_144 k131 n (nI k) i g) (fun x g => jW38 R c (mxK k D x 0) g) (rT R) Q ?_ ?_ xN 0 g (Nat.zero_le _) (by unfold xN; omega) ⟨hg.1, hg.2.1, fun u v hu hv => (hg.2.2 u v hu hv).trans (congrArg nI mxK_0)⟩
  · intro n x g hx hg
    refine .inl ?_
    have e : f_X10_measure_38_144 k131 (n + 1) (nI k) (nI x) g = f_X10_measure_38_158 k131 (f_X10_measure_38_144 k131 n) xN (nI k) (nI x) 0 g := by
      simp only [f_X10_measure_38_144]
      rw [show f_X4_towns_3 g = nI (rT R) from hg.1.1.1, if_neg (nI_ge hx (by omega))]
    show ∃ s', f_X10_measure_38_144 k131 (n + 1) (nI k) (nI x) g = _ ∧ _
    rw [e]
    exact c_m158_38 (Q := fun o => ∃ s', o = f_X10_measure_38_144 k131 n (nI k) (nI (x + 1)) s' ∧ jW38 R c (mxK k D (x + 1) 0) s') hR hD hk hx (fun w hw => ⟨w, rfl, hw.1, hw.2.1, fun u v hu hv => (hw.2.2 u v hu hv).trans (by rw [mxK_next hv])⟩) hg
  · intro n g hg
    have e : f_X10_measure_38_144 k131 (n + 1) (nI k) (nI (rT R)) g = k131 (nI (k + 1)) g := by
      simp only [f_X10_measure_38_144]
      rw [show f_X4_towns_3 g = nI (rT R) from hg.1.1.1, if_pos (nI_le (Nat.le_refl _) (by omega)), nI_1]
    show Q (f_X10_measure_38_144 k131 (n + 1) (nI k) (nI (rT R)) g)
    rw [e]
    exact hQ g ⟨hg.1, hg.2.1, fun u v hu hv => (hg.2.2 u v hu hv).trans (by rw [mxK_end hD hk])⟩
theorem c_m131_38 {R : pR} {c : Nat} (hR : rOK R) {g : xG} (hg : jW38 R c (dRd R c (rR R)) g) : ∃ w, f_X10_measure_38_131 xN 0 g = some w ∧ jW38 R c (sD R c) w := by
  have h7 := hR.t
  refine lp (fun n i g => f_X10_measure_38_131 n i g) (fun k g => jW38 R c (dFw R c k) g) (rT R) (fun o => ∃ w, o = some w ∧ jW38 R c (sD R c) w) ?_ ?_ xN 0 g (Nat.zero_le _) (by unfold xN; omega) hg
  · intro n k g hk hg
    refine .inl ?_
    have e : f_X10_measure_38_131 (n + 1) (nI k) g = f_X10_measure_38_144 (f_X10_measure_38_131 n) xN (nI k) 0 g := by
      simp only [f_X10_measure_38_131]
      rw [show f_X4_towns_3 g = nI (rT R) from hg.1.1.1, if_neg (nI_ge hk (by omega))]
    show ∃ s', f_X10_measure_38_131 (n + 1) (nI k) g = _ ∧ _
    rw [e]
    exact c_m144_38 (Q := fun o => ∃ s', o = f_X10_measure_38_131 n (nI (k + 1)) s' ∧ jW38 R c (dFw R c (k + 1)) s') hR (dFw_ok hR c k (by omega)) hk (fun w hw => ⟨w, rfl, hw⟩) hg
  · intro n g hg
    refine ⟨g, ?_, hg⟩
    simp only [f_X10_measure_38_131]
    rw [show f_X4_towns_3 g = nI (rT R) from hg.1.1.1, if_pos (nI_le (Nat.le_refl _) (by omega))]
theorem c_m48_38 {R : pR} {c : Nat} (hR : rOK R) (hc2 : c < 2 ^ 31) {g : xG} (hg : jW38 R c dI g) : ∃ w, f_X10_measure_38_48 xN 0 g = some w ∧ jW38 R c (sD R c) w := by
  have h7 := hR.t
  have h10 := hR.r
  refine lp (fun n i g => f_X10_measure_38_48 n i g) (fun r g => jW38 R c (dRd R c r) g) (rR R) (fun o => ∃ w, o = some w ∧ jW38 R c (sD R c) w) ?_ ?_ xN 0 g (Nat.zero_le _) (by unfold xN; omega) hg
  · intro n r g hr hg
    obtain ⟨h, hc, hm⟩ := hg
    refine .inl ?_
    have a1 := hR.a hr
    have a2 := hR.b hr
    have a4 := hR.m hr
    have hD := dRd_ok hR c r (by omega)
    have e0 : f_X10_measure_38_48 (n + 1) (nI r) g = if (if c.testBit r then (0 : Int32) else 1) = 0 then f_X10_measure_38_48 n (nI (r + 1)) g else f_X10_measure_38_48 n (nI (r + 1)) (f_X10_shorten_38 (f_X4_otherEndOf_3 (nI r) (f_X10_shorten_38 (nI (rA R r)) (nI (rB R r)) (nI (rM R r)) g)) (f_X4_oneEndOf_3 (nI r) (f_X10_shorten_38 (nI (rA R r)) (nI (rB R r)) (nI (rM R r)) g)) (f_X4_milesOf_3 (nI r) (f_X10_shorten_38 (nI (rA R r)) (nI (rB R r)) (nI (rM R r)) g)) (f_X10_shorten_38 (nI (rA R r)) (nI (rB R r)) (nI (rM R r)) g)) := by
      simp only [f_X10_measure_38_48, xl_e]
      rw [show f_X4_roads_3 g = nI (rR R) from h.1.2.1, if_neg (nI_ge hr (by omega)), c_isOpen38 h hR hc hc2 hr, c_one h hR hr, c_oth h hR hr, c_mil h hR hr, nI_1]
    show ∃ s', f_X10_measure_38_48 (n + 1) (nI r) g = _ ∧ jW38 R c (dRd R c (r + 1)) s'
    rw [e0]
    by_cases ec : c.testBit r = true
    · rw [if_pos ec, if_pos rfl]
      refine ⟨g, rfl, h, hc, ?_⟩
      rw [dRd_s, if_pos ec]
      exact hm
    · rw [if_neg ec, if_neg (by decide)]
      obtain ⟨w, e1, hm1, hf1⟩ := c_shorten38 (v := rM R r) h hR hm a1 a2 (by have := hD.2.2.1 (rA R r) (rB R r); omega) (by omega)
      have h1 := h.ag (hf1.agr (C := kRm) rfl)
      obtain ⟨w2, e2, hm2, hf2⟩ := c_shorten38 (v := rM R r) h1 hR hm1 a2 a1 (by have := hD.2.2.1 (rB R r) (rA R r); (split <;> omega)) (by omega)
      rw [e1, c_one h1 hR hr, c_oth h1 hR hr, c_mil h1 hR hr, e2]
      refine ⟨w2, rfl, h1.ag (hf2.agr rfl), (hf2 38 2 rfl).1.trans ((hf1 38 2 rfl).1.trans hc), fun x y hx hy => (hm2 x y hx hy).trans ?_⟩
      dsimp only
      rw [dRd_s, if_neg ec]
      unfold dSt
      have ab := hR.ab hr
      congr 1
      by_cases z1 : x = rA R r ∧ y = rB R r
      · rw [if_neg (by omega), if_pos z1, if_pos (.inl z1)]
      · by_cases z2 : x = rB R r ∧ y = rA R r
        · rw [if_pos z2, if_neg z1, if_pos (.inr z2)]
        · rw [if_neg z2, if_neg z1, if_neg (by omega)]
  · intro n g hg
    have e : f_X10_measure_38_48 (n + 1) (nI (rR R)) g = f_X10_measure_38_131 xN 0 g := by
      simp only [f_X10_measure_38_48]
      rw [show f_X4_roads_3 g = nI (rR R) from hg.1.1.2.1, if_pos (nI_le (Nat.le_refl _) (by omega))]
    show ∃ w, f_X10_measure_38_48 (n + 1) (nI (rR R)) g = some w ∧ _
    rw [e]
    exact c_m131_38 hR hg
theorem c_m7_38 {R : pR} {c : Nat} (hR : rOK R) (hc2 : c < 2 ^ 31) {g : xG} (h : rmC g R) (hc : g.1 38 2 = nI c) : ∃ w, f_X10_measure_38_7 xN 0 g = some w ∧ jW38 R c (sD R c) w := by
  refine lp (fun n i g => f_X10_measure_38_7 n i g) (fun j g => rmC g R ∧ g.1 38 2 = nI c ∧ ∀ q, q < j → g.1 39 q = nI (dI (q / 7) (q % 7))) 49 (fun o => ∃ w, o = some w ∧ jW38 R c (sD R c) w) ?_ ?_ xN 0 g (Nat.zero_le _) (by decide) ⟨h, hc, fun q hq => absurd hq (Nat.not_lt_zero _)⟩
  · rintro n j g hj ⟨h, hc, hq⟩
    refine .inl ⟨(xupd g.1 39 j (nI (dI (j / 7) (j % 7))), g.2), ?_, h.ag ((xfrm.up xfrm.rf rfl : xfrm [(39, none)] g _).agr rfl), hc, fun q hq2 => ?_⟩
    · simp only [f_X10_measure_38_7]
      rw [if_neg (show ¬ (49 : Int32) ≤ nI j from nI_ge hj (by decide)), xg_t (by decide), xg_t (by decide), xg_in hj (by decide), xg_in hj (by decide), nI_clamp (by omega), nI_1, show (7 : Int32) = nI 7 from rfl, pk_div (by omega) (by decide) (by decide)]
      rw [show nI j - nI (j / 7) * nI 7 = nI (j % 7) by rw [← pk_div (by omega) (by decide) (by decide)]; exact pk_rem (by omega) (by decide) (by decide), ite_eqn (by omega) (by omega)]
      unfold dI
      split <;> rfl
    · dsimp only
      rw [xu_at]
      split
      · next e => rw [e.2]
      · next e => exact hq q (by omega)
  · rintro n g ⟨h, hc, hq⟩
    have e : f_X10_measure_38_7 (n + 1) (nI 49) g = f_X10_measure_38_48 xN 0 g := by
      simp only [f_X10_measure_38_7]
      rw [if_pos (show (49 : Int32) ≤ nI 49 from nI_le (Nat.le_refl _) (by decide))]
    show ∃ w, f_X10_measure_38_7 (n + 1) (nI 49) g = some w ∧ _
    rw [e]
    refine c_m48_38 hR hc2 ⟨h, hc, fun x y hx hy => (hq (7 * x + y) (by omega)).trans ?_⟩
    rw [show (7 * x + y) / 7 = x by omega, show (7 * x + y) % 7 = y by omega]
theorem c_measure38 {R : pR} {c : Nat} (hR : rOK R) (hc2 : c < 2 ^ 31) {g : xG} (h : rmC g R) : ∃ w, f_X10_measure_38 (nI c) g = some w ∧ w.1 38 2 = nI c ∧ Mt 39 (sD R c) w ∧ xfrm kWy38 g w := by
  obtain ⟨w, e, -, h2, h3⟩ := c_m7_38 (g := (xupd g.1 38 2 (nI c), g.2)) hR hc2 (h.ag ((xfrm.up xfrm.rf rfl : xfrm [(38, some 2)] g _).agr rfl)) (by dsimp only; exact xu_eq)
  exact ⟨w, e, h2, h3, fr_X10_measure_38 _ e⟩

/-! ===== the class's ways 40 ===== -/
def kWy40 : List (Nat × Option Nat) := [(40, some 2), (41, none)]
theorem c_between40 {g : xG} {R : pR} {E : Nat → Nat → Nat} (h : rmC g R) (hR : rOK R) (hm : Mt 41 E g) {a b : Nat} (ha : a < rT R) (hb : b < rT R) : f_X10_between_40 (nI a) (nI b) g = nI (E a b) := by
  have := hR.t
  unfold f_X10_between_40
  rw [c_isTown h hR ha, c_isTown h hR hb, if_neg (by decide), if_neg (by decide), i7, xat_in (by omega) (by decide)]
  exact hm a b (by omega) (by omega)
theorem c_betweenN40 {g : xG} {x y : Int32} (hx : x < 0 ∨ y < 0) : f_X10_between_40 x y g = 999 := by
  unfold f_X10_between_40
  rcases hx with h | h
  · rw [c_isTownN h, if_pos rfl]
  · rw [c_isTownN h, if_pos rfl]
    exact ite_self _
theorem c_isOpen40 {g : xG} {R : pR} {c : Nat} (h : rmC g R) (hR : rOK R) (hc : g.1 40 2 = nI c) (hc2 : c < 2 ^ 31) {r : Nat} (hr : r < rR R) : f_X10_isOpen_40 (nI r) g = if c.testBit r then 0 else 1 := by
  have := hR.r
  unfold f_X10_isOpen_40
  rw [c_isRoad h hR hr, if_neg (by decide), hc, bi_bit r (by omega)]
  by_cases e : c.testBit r = true
  · rw [if_pos e, if_neg (fun z => by rw [(bi_in hc2 (by omega)).mp z] at e; cases e)]
  · rw [if_neg e, if_pos ((bi_in hc2 (by omega)).mpr (by simpa using e))]
theorem c_shorten40 {g : xG} {R : pR} {E : Nat → Nat → Nat} (h : rmC g R) (hR : rOK R) (hm : Mt 41 E g) {a b v : Nat} (ha : a < rT R) (hb : b < rT R) (hE : E a b < 2 ^ 31) (hv : v < 2 ^ 31) : ∃ w, f_X10_shorten_40 (nI a) (nI b) (nI v) g = w ∧ Mt 41 (fun x y => if x = a ∧ y = b then min (E x y) v else E x y) w ∧ xfrm [(41, none)] g w := by
  have h7 := hR.t
  refine ⟨_, rfl, ?_⟩
  unfold f_X10_shorten_40
  rw [c_between40 h hR hm ha hb, i7, ite_le hE hv]
  by_cases e : E a b ≤ v
  · rw [if_pos e]
    refine ⟨fun x y hx hy => ?_, xfrm.rf⟩
    rw [hm x y hx hy]
    dsimp only
    by_cases e2 : x = a ∧ y = b
    · rw [if_pos e2, e2.1, e2.2, Nat.min_eq_left e]
    · rw [if_neg e2]
  · rw [if_neg e, xl_e, xput_in (by omega) (by decide)]
    refine ⟨fun x y hx hy => ?_, xfrm.up xfrm.rf rfl⟩
    dsimp only
    rw [xu_at]
    by_cases e2 : x = a ∧ y = b
    · rw [if_pos ⟨rfl, by rw [e2.1, e2.2]⟩, if_pos e2, e2.1, e2.2, Nat.min_eq_right (by omega)]
    · rw [if_neg (by omega), if_neg e2, hm x y hx hy]
def jW40 (R : pR) (c : Nat) (E : Nat → Nat → Nat) (g : xG) : Prop := rmC g R ∧ g.1 40 2 = nI c ∧ Mt 41 E g
theorem c_m158_40 {R : pR} {c k x : Nat} {D : Nat → Nat → Nat} (hR : rOK R) (hD : dOK (rT R) D) (hk : k < rT R) (hx : x < rT R) {k131 : Int32 → xG → Option xG} {k144 : Int32 → Int32 → xG → Option xG} {Q : Option xG → Prop} (hQ : ∀ w, jW40 R c (mxK k D x 7) w → Q (k144 (nI k) (nI (x + 1)) w)) {g : xG} (hg : jW40 R c (mxK k D x 0) g) : Q (f_X10_measure_40_158 k131 k144 xN (nI k) (nI x) 0 g) := by
  have h7 := hR.t
  refine lp (fun n i g => f_X10_measure_40_158 k131 k144 n (nI k) (nI x) i g) (fun y g => jW40 R c (mxK k D x y) g) (rT R) Q ?_ ?_ xN 0 g (Nat.zero_le _) (by unfold xN; omega) hg
  · intro n y g hy hg
    obtain ⟨hr, hc, hm⟩ := hg
    have b1 := mxK_le hD k x y x k
    have b2 := mxK_le hD k x y k y
    obtain ⟨w, e, hw, hf⟩ := c_shorten40 (v := mxK k D x y x k + mxK k D x y k y) hr hR hm hx hy (by have := mxK_le hD k x y x y; omega) (by omega)
    refine .inl ⟨w, ?_, hr.ag (hf.agr rfl), (hf 40 2 rfl).1.trans hc, fun u v hu hv => (hw u v hu hv).trans ?_⟩
    · simp only [f_X10_measure_40_158, xl_e]
      rw [show f_X4_towns_3 g = nI (rT R) from hr.1.1, if_neg (nI_ge hy (by omega)), c_between40 hr hR hm hx hk, c_between40 hr hR hm hk hy, nI_add, e, nI_1]
    · dsimp only
      rw [mxK_step hD hk]
  · intro n g hg
    have e : f_X10_measure_40_158 k131 k144 (n + 1) (nI k) (nI x) (nI (rT R)) g = k144 (nI k) (nI (x + 1)) g := by
      simp only [f_X10_measure_40_158]
      rw [show f_X4_towns_3 g = nI (rT R) from hg.1.1.1, if_pos (nI_le (Nat.le_refl _) (by omega)), nI_1]
    show Q (f_X10_measure_40_158 k131 k144 (n + 1) (nI k) (nI x) (nI (rT R)) g)
    rw [e]
    exact hQ g ⟨hg.1, hg.2.1, fun u v hu hv => (hg.2.2 u v hu hv).trans (by rw [mxK_row hD hk hv])⟩
theorem c_m144_40 {R : pR} {c k : Nat} {D : Nat → Nat → Nat} (hR : rOK R) (hD : dOK (rT R) D) (hk : k < rT R) {k131 : Int32 → xG → Option xG} {Q : Option xG → Prop} (hQ : ∀ w, jW40 R c (dK k D) w → Q (k131 (nI (k + 1)) w)) {g : xG} (hg : jW40 R c D g) : Q (f_X10_measure_40_144 k131 xN (nI k) 0 g) := by
  have h7 := hR.t
  refine lp (fun n i g => f_X10_measure_40_144 k131 n (nI k) i g) (fun x g => jW40 R c (mxK k D x 0) g) (rT R) Q ?_ ?_ xN 0 g (Nat.zero_le _) (by unfold xN; omega) ⟨hg.1, hg.2.1, fun u v hu hv => (hg.2.2 u v hu hv).trans (congrArg nI mxK_0)⟩
  · intro n x g hx hg
    refine .inl ?_
    have e : f_X10_measure_40_144 k131 (n + 1) (nI k) (nI x) g = f_X10_measure_40_158 k131 (f_X10_measure_40_144 k131 n) xN (nI k) (nI x) 0 g := by
      simp only [f_X10_measure_40_144]
      rw [show f_X4_towns_3 g = nI (rT R) from hg.1.1.1, if_neg (nI_ge hx (by omega))]
    show ∃ s', f_X10_measure_40_144 k131 (n + 1) (nI k) (nI x) g = _ ∧ _
    rw [e]
    exact c_m158_40 (Q := fun o => ∃ s', o = f_X10_measure_40_144 k131 n (nI k) (nI (x + 1)) s' ∧ jW40 R c (mxK k D (x + 1) 0) s') hR hD hk hx (fun w hw => ⟨w, rfl, hw.1, hw.2.1, fun u v hu hv => (hw.2.2 u v hu hv).trans (by rw [mxK_next hv])⟩) hg
  · intro n g hg
    have e : f_X10_measure_40_144 k131 (n + 1) (nI k) (nI (rT R)) g = k131 (nI (k + 1)) g := by
      simp only [f_X10_measure_40_144]
      rw [show f_X4_towns_3 g = nI (rT R) from hg.1.1.1, if_pos (nI_le (Nat.le_refl _) (by omega)), nI_1]
    show Q (f_X10_measure_40_144 k131 (n + 1) (nI k) (nI (rT R)) g)
    rw [e]
    exact hQ g ⟨hg.1, hg.2.1, fun u v hu hv => (hg.2.2 u v hu hv).trans (by rw [mxK_end hD hk])⟩
theorem c_m131_40 {R : pR} {c : Nat} (hR : rOK R) {g : xG} (hg : jW40 R c (dRd R c (rR R)) g) : ∃ w, f_X10_measure_40_131 xN 0 g = some w ∧ jW40 R c (sD R c) w := by
  have h7 := hR.t
  refine lp (fun n i g => f_X10_measure_40_131 n i g) (fun k g => jW40 R c (dFw R c k) g) (rT R) (fun o => ∃ w, o = some w ∧ jW40 R c (sD R c) w) ?_ ?_ xN 0 g (Nat.zero_le _) (by unfold xN; omega) hg
  · intro n k g hk hg
    refine .inl ?_
    have e : f_X10_measure_40_131 (n + 1) (nI k) g = f_X10_measure_40_144 (f_X10_measure_40_131 n) xN (nI k) 0 g := by
      simp only [f_X10_measure_40_131]
      rw [show f_X4_towns_3 g = nI (rT R) from hg.1.1.1, if_neg (nI_ge hk (by omega))]
    show ∃ s', f_X10_measure_40_131 (n + 1) (nI k) g = _ ∧ _
    rw [e]
    exact c_m144_40 (Q := fun o => ∃ s', o = f_X10_measure_40_131 n (nI (k + 1)) s' ∧ jW40 R c (dFw R c (k + 1)) s') hR (dFw_ok hR c k (by omega)) hk (fun w hw => ⟨w, rfl, hw⟩) hg
  · intro n g hg
    refine ⟨g, ?_, hg⟩
    simp only [f_X10_measure_40_131]
    rw [show f_X4_towns_3 g = nI (rT R) from hg.1.1.1, if_pos (nI_le (Nat.le_refl _) (by omega))]
theorem c_m48_40 {R : pR} {c : Nat} (hR : rOK R) (hc2 : c < 2 ^ 31) {g : xG} (hg : jW40 R c dI g) : ∃ w, f_X10_measure_40_48 xN 0 g = some w ∧ jW40 R c (sD R c) w := by
  have h7 := hR.t
  have h10 := hR.r
  refine lp (fun n i g => f_X10_measure_40_48 n i g) (fun r g => jW40 R c (dRd R c r) g) (rR R) (fun o => ∃ w, o = some w ∧ jW40 R c (sD R c) w) ?_ ?_ xN 0 g (Nat.zero_le _) (by unfold xN; omega) hg
  · intro n r g hr hg
    obtain ⟨h, hc, hm⟩ := hg
    refine .inl ?_
    have a1 := hR.a hr
    have a2 := hR.b hr
    have a4 := hR.m hr
    have hD := dRd_ok hR c r (by omega)
    have e0 : f_X10_measure_40_48 (n + 1) (nI r) g = if (if c.testBit r then (0 : Int32) else 1) = 0 then f_X10_measure_40_48 n (nI (r + 1)) g else f_X10_measure_40_48 n (nI (r + 1)) (f_X10_shorten_40 (f_X4_otherEndOf_3 (nI r) (f_X10_shorten_40 (nI (rA R r)) (nI (rB R r)) (nI (rM R r)) g)) (f_X4_oneEndOf_3 (nI r) (f_X10_shorten_40 (nI (rA R r)) (nI (rB R r)) (nI (rM R r)) g)) (f_X4_milesOf_3 (nI r) (f_X10_shorten_40 (nI (rA R r)) (nI (rB R r)) (nI (rM R r)) g)) (f_X10_shorten_40 (nI (rA R r)) (nI (rB R r)) (nI (rM R r)) g)) := by
      simp only [f_X10_measure_40_48, xl_e]
      rw [show f_X4_roads_3 g = nI (rR R) from h.1.2.1, if_neg (nI_ge hr (by omega)), c_isOpen40 h hR hc hc2 hr, c_one h hR hr, c_oth h hR hr, c_mil h hR hr, nI_1]
    show ∃ s', f_X10_measure_40_48 (n + 1) (nI r) g = _ ∧ jW40 R c (dRd R c (r + 1)) s'
    rw [e0]
    by_cases ec : c.testBit r = true
    · rw [if_pos ec, if_pos rfl]
      refine ⟨g, rfl, h, hc, ?_⟩
      rw [dRd_s, if_pos ec]
      exact hm
    · rw [if_neg ec, if_neg (by decide)]
      obtain ⟨w, e1, hm1, hf1⟩ := c_shorten40 (v := rM R r) h hR hm a1 a2 (by have := hD.2.2.1 (rA R r) (rB R r); omega) (by omega)
      have h1 := h.ag (hf1.agr (C := kRm) rfl)
      obtain ⟨w2, e2, hm2, hf2⟩ := c_shorten40 (v := rM R r) h1 hR hm1 a2 a1 (by have := hD.2.2.1 (rB R r) (rA R r); (split <;> omega)) (by omega)
      rw [e1, c_one h1 hR hr, c_oth h1 hR hr, c_mil h1 hR hr, e2]
      refine ⟨w2, rfl, h1.ag (hf2.agr rfl), (hf2 40 2 rfl).1.trans ((hf1 40 2 rfl).1.trans hc), fun x y hx hy => (hm2 x y hx hy).trans ?_⟩
      dsimp only
      rw [dRd_s, if_neg ec]
      unfold dSt
      have ab := hR.ab hr
      congr 1
      by_cases z1 : x = rA R r ∧ y = rB R r
      · rw [if_neg (by omega), if_pos z1, if_pos (.inl z1)]
      · by_cases z2 : x = rB R r ∧ y = rA R r
        · rw [if_pos z2, if_neg z1, if_pos (.inr z2)]
        · rw [if_neg z2, if_neg z1, if_neg (by omega)]
  · intro n g hg
    have e : f_X10_measure_40_48 (n + 1) (nI (rR R)) g = f_X10_measure_40_131 xN 0 g := by
      simp only [f_X10_measure_40_48]
      rw [show f_X4_roads_3 g = nI (rR R) from hg.1.1.2.1, if_pos (nI_le (Nat.le_refl _) (by omega))]
    show ∃ w, f_X10_measure_40_48 (n + 1) (nI (rR R)) g = some w ∧ _
    rw [e]
    exact c_m131_40 hR hg
theorem c_m7_40 {R : pR} {c : Nat} (hR : rOK R) (hc2 : c < 2 ^ 31) {g : xG} (h : rmC g R) (hc : g.1 40 2 = nI c) : ∃ w, f_X10_measure_40_7 xN 0 g = some w ∧ jW40 R c (sD R c) w := by
  refine lp (fun n i g => f_X10_measure_40_7 n i g) (fun j g => rmC g R ∧ g.1 40 2 = nI c ∧ ∀ q, q < j → g.1 41 q = nI (dI (q / 7) (q % 7))) 49 (fun o => ∃ w, o = some w ∧ jW40 R c (sD R c) w) ?_ ?_ xN 0 g (Nat.zero_le _) (by decide) ⟨h, hc, fun q hq => absurd hq (Nat.not_lt_zero _)⟩
  · rintro n j g hj ⟨h, hc, hq⟩
    refine .inl ⟨(xupd g.1 41 j (nI (dI (j / 7) (j % 7))), g.2), ?_, h.ag ((xfrm.up xfrm.rf rfl : xfrm [(41, none)] g _).agr rfl), hc, fun q hq2 => ?_⟩
    · simp only [f_X10_measure_40_7]
      rw [if_neg (show ¬ (49 : Int32) ≤ nI j from nI_ge hj (by decide)), xg_t (by decide), xg_t (by decide), xg_in hj (by decide), xg_in hj (by decide), nI_clamp (by omega), nI_1, show (7 : Int32) = nI 7 from rfl, pk_div (by omega) (by decide) (by decide)]
      rw [show nI j - nI (j / 7) * nI 7 = nI (j % 7) by rw [← pk_div (by omega) (by decide) (by decide)]; exact pk_rem (by omega) (by decide) (by decide), ite_eqn (by omega) (by omega)]
      unfold dI
      split <;> rfl
    · dsimp only
      rw [xu_at]
      split
      · next e => rw [e.2]
      · next e => exact hq q (by omega)
  · rintro n g ⟨h, hc, hq⟩
    have e : f_X10_measure_40_7 (n + 1) (nI 49) g = f_X10_measure_40_48 xN 0 g := by
      simp only [f_X10_measure_40_7]
      rw [if_pos (show (49 : Int32) ≤ nI 49 from nI_le (Nat.le_refl _) (by decide))]
    show ∃ w, f_X10_measure_40_7 (n + 1) (nI 49) g = some w ∧ _
    rw [e]
    refine c_m48_40 hR hc2 ⟨h, hc, fun x y hx hy => (hq (7 * x + y) (by omega)).trans ?_⟩
    rw [show (7 * x + y) / 7 = x by omega, show (7 * x + y) % 7 = y by omega]
theorem c_measure40 {R : pR} {c : Nat} (hR : rOK R) (hc2 : c < 2 ^ 31) {g : xG} (h : rmC g R) : ∃ w, f_X10_measure_40 (nI c) g = some w ∧ w.1 40 2 = nI c ∧ Mt 41 (sD R c) w ∧ xfrm kWy40 g w := by
  obtain ⟨w, e, -, h2, h3⟩ := c_m7_40 (g := (xupd g.1 40 2 (nI c), g.2)) hR hc2 (h.ag ((xfrm.up xfrm.rf rfl : xfrm [(40, some 2)] g _).agr rfl)) (by dsimp only; exact xu_eq)
  exact ⟨w, e, h2, h3, fr_X10_measure_40 _ e⟩

/-! ===== the reference's row of distances ===== -/
def rmR (g : xG) (L : Nat) (R : pR) : Prop := (L < 2 ∧ g.1 60 18 = nI L ∧ g.1 70 L = nI (rT R) ∧ g.1 71 L = nI (rR R) ∧ g.1 75 L = nI (rP R) ∧ g.1 79 L = nI (rC R) ∧ g.1 80 L = rS R) ∧ (∀ r, r < rR R → g.1 72 (10 * L + r) = nI (rA R r) ∧ g.1 73 (10 * L + r) = nI (rB R r) ∧ g.1 74 (10 * L + r) = nI (rM R r)) ∧ (∀ p, p < rP R → g.1 76 (6 * L + p) = rH R p ∧ g.1 77 (6 * L + p) = nI (rO R p) ∧ g.1 78 (6 * L + p) = nI (rF R p))
def kRr : List (Nat × Option Nat) := [(60, some 18), (70, none), (71, none), (72, none), (73, none), (74, none), (75, none), (76, none), (77, none), (78, none), (79, none), (80, none)]
theorem rmR.ag {g w : xG} {L : Nat} {R : pR} (h : rmR g L R) (a : xagr kRr g w) : rmR w L R := by
  obtain ⟨⟨h0, h1, h2, h3, h4, h5, h6⟩, h7, h8⟩ := h
  refine ⟨⟨h0, (a 60 18 rfl).1.trans h1, (a 70 L rfl).1.trans h2, (a 71 L rfl).1.trans h3, (a 75 L rfl).1.trans h4, (a 79 L rfl).1.trans h5, (a 80 L rfl).1.trans h6⟩, fun r hr => ?_, fun p hp => ?_⟩
  · obtain ⟨b1, b2, b3⟩ := h7 r hr
    exact ⟨(a 72 _ rfl).1.trans b1, (a 73 _ rfl).1.trans b2, (a 74 _ rfl).1.trans b3⟩
  · obtain ⟨b1, b2, b3⟩ := h8 p hp
    exact ⟨(a 76 _ rfl).1.trans b1, (a 77 _ rfl).1.trans b2, (a 78 _ rfl).1.trans b3⟩
def jF (L : Nat) (R : pR) (c : Nat) (E : Nat → Nat → Nat) (g : xG) : Prop := rmR g L R ∧ g.1 94 36 = nI c ∧ Mt 95 E g
theorem jF.up {L : Nat} {R : pR} {c : Nat} {E E' : Nat → Nat → Nat} {g w : xG} (h : jF L R c E g) (hf : xfrm [(95, none)] g w) (hm : Mt 95 E' w) : jF L R c E' w := ⟨h.1.ag (hf.agr rfl), (hf 94 36 rfl).1.trans h.2.1, hm⟩
theorem r_f206 {L : Nat} {R : pR} {c k x : Nat} {D : Nat → Nat → Nat} {T : Nat} (hD : dOK T D) (hk : k < T) (h7 : T ≤ 7) (hx : x < 7) {k190 : Int32 → xG → Option xG} {k198 : Int32 → Int32 → xG → Option xG} {Q : Option xG → Prop} (hQ : ∀ w, jF L R c (mxK k D x 7) w → Q (k198 (nI k) (nI (x + 1)) w)) {g : xG} (hg : jF L R c (mxK k D x 0) g) : Q (f_X12_fillsFar_60_206 k190 k198 xN (nI k) (nI x) 0 g) := by
  refine lp (fun n i g => f_X12_fillsFar_60_206 k190 k198 n (nI k) (nI x) i g) (fun y g => jF L R c (mxK k D x y) g) 7 Q ?_ ?_ xN 0 g (Nat.zero_le _) (by decide) hg
  · intro n y g hy hg
    have b1 := mxK_le hD k x y x k
    have b2 := mxK_le hD k x y k y
    have b3 := mxK_le hD k x y x y
    have e : f_X12_fillsFar_60_206 k190 k198 (n + 1) (nI k) (nI x) (nI y) g = if mxK k D x y x y ≤ mxK k D x y x k + mxK k D x y k y then f_X12_fillsFar_60_206 k190 k198 n (nI k) (nI x) (nI (y + 1)) g else f_X12_fillsFar_60_206 k190 k198 n (nI k) (nI x) (nI (y + 1)) (xupd g.1 95 (7 * x + y) (nI (mxK k D x y x k + mxK k D x y k y)), g.2) := by
      simp only [f_X12_fillsFar_60_206, i7', nI_1]
      rw [if_neg (show ¬ (7 : Int32) ≤ nI y from nI_ge hy (by decide)), xg_in (by omega) (by decide), xg_in (by omega) (by decide), xg_in (by omega) (by decide), xg_in (by omega) (by decide), xg_in (by omega) (by decide), xg_in (by omega) (by decide), nI_clamp (by omega), nI_clamp (by omega), nI_clamp (by omega), hg.2.2 x y hx hy, hg.2.2 x k hx (by omega), hg.2.2 k y (by omega) hy, nI_add, ite_le (by omega) (by omega)]
    refine .inl ?_
    show ∃ s', f_X12_fillsFar_60_206 k190 k198 (n + 1) (nI k) (nI x) (nI y) g = _ ∧ jF L R c (mxK k D x (y + 1)) s'
    rw [e]
    by_cases z : mxK k D x y x y ≤ mxK k D x y x k + mxK k D x y k y
    · rw [if_pos z]
      refine ⟨g, rfl, hg.up xfrm.rf fun u v hu hv => (hg.2.2 u v hu hv).trans ?_⟩
      rw [← mxK_step hD hk]
      by_cases z2 : u = x ∧ v = y
      · rw [if_pos z2, z2.1, z2.2, Nat.min_eq_left z]
      · rw [if_neg z2]
    · rw [if_neg z]
      refine ⟨_, rfl, hg.up (xfrm.up xfrm.rf rfl) fun u v hu hv => ?_⟩
      dsimp only
      rw [← mxK_step hD hk, xu_at]
      by_cases z2 : u = x ∧ v = y
      · rw [if_pos ⟨rfl, by rw [z2.1, z2.2]⟩, if_pos z2, z2.1, z2.2, Nat.min_eq_right (by omega)]
      · rw [if_neg (by omega), if_neg z2, hg.2.2 u v hu hv]
  · intro n g hg
    have e : f_X12_fillsFar_60_206 k190 k198 (n + 1) (nI k) (nI x) (nI 7) g = k198 (nI k) (nI (x + 1)) g := by
      simp only [f_X12_fillsFar_60_206, nI_1]
      rw [if_pos (show (7 : Int32) ≤ nI 7 from nI_le (Nat.le_refl _) (by decide))]
    show Q (f_X12_fillsFar_60_206 k190 k198 (n + 1) (nI k) (nI x) (nI 7) g)
    rw [e]
    exact hQ g hg
theorem r_f198 {L : Nat} {R : pR} {c k : Nat} {D : Nat → Nat → Nat} {T : Nat} (hD : dOK T D) (hk : k < T) (h7 : T ≤ 7) {k190 : Int32 → xG → Option xG} {Q : Option xG → Prop} (hQ : ∀ w, jF L R c (dK k D) w → Q (k190 (nI (k + 1)) w)) {g : xG} (hg : jF L R c D g) : Q (f_X12_fillsFar_60_198 k190 xN (nI k) 0 g) := by
  refine lp (fun n i g => f_X12_fillsFar_60_198 k190 n (nI k) i g) (fun x g => jF L R c (mxK k D x 0) g) 7 Q ?_ ?_ xN 0 g (Nat.zero_le _) (by decide) (hg.up xfrm.rf fun u v hu hv => (hg.2.2 u v hu hv).trans (congrArg nI mxK_0))
  · intro n x g hx hg
    refine .inl ?_
    have e : f_X12_fillsFar_60_198 k190 (n + 1) (nI k) (nI x) g = f_X12_fillsFar_60_206 k190 (f_X12_fillsFar_60_198 k190 n) xN (nI k) (nI x) 0 g := by
      simp only [f_X12_fillsFar_60_198]
      rw [if_neg (show ¬ (7 : Int32) ≤ nI x from nI_ge hx (by decide))]
    show ∃ s', f_X12_fillsFar_60_198 k190 (n + 1) (nI k) (nI x) g = _ ∧ _
    rw [e]
    exact r_f206 (Q := fun o => ∃ s', o = f_X12_fillsFar_60_198 k190 n (nI k) (nI (x + 1)) s' ∧ jF L R c (mxK k D (x + 1) 0) s') hD hk h7 hx (fun w hw => ⟨w, rfl, hw.up xfrm.rf fun u v hu hv => (hw.2.2 u v hu hv).trans (by rw [mxK_next hv])⟩) hg
  · intro n g hg
    have e : f_X12_fillsFar_60_198 k190 (n + 1) (nI k) (nI 7) g = k190 (nI (k + 1)) g := by
      simp only [f_X12_fillsFar_60_198, nI_1]
      rw [if_pos (show (7 : Int32) ≤ nI 7 from nI_le (Nat.le_refl _) (by decide))]
    show Q (f_X12_fillsFar_60_198 k190 (n + 1) (nI k) (nI 7) g)
    rw [e]
    exact hQ g (hg.up xfrm.rf fun u v hu hv => (hg.2.2 u v hu hv).trans (by rw [mxK_end7 hu]))
/-- more stages than there are towns change nothing -/
theorem dFw_more {R : pR} (hR : rOK R) (c : Nat) : ∀ k, dOK (rT R) (dFw R c k) ∧ (rT R ≤ k → dFw R c k = sD R c)
  | 0 => ⟨dFw_ok hR c 0 (Nat.zero_le _), fun h => by rw [sD, show rT R = 0 by omega]⟩
  | k + 1 => by
    obtain ⟨a, b⟩ := dFw_more hR c k
    rcases Nat.lt_or_ge k (rT R) with z | z
    · refine ⟨dK_ok a z, fun h => ?_⟩
      rw [sD, show rT R = k + 1 by omega]
    · have e : dFw R c (k + 1) = dFw R c k := dK_out a z
      rw [e]
      exact ⟨a, fun _ => b z⟩
theorem dOK.mono {T T' : Nat} {D : Nat → Nat → Nat} (h : dOK T D) (ht : T ≤ T') : dOK T' D := ⟨h.1, h.2.1, h.2.2.1, fun x y hx => h.2.2.2.1 x y (by omega), h.2.2.2.2⟩
theorem r_f190 {L : Nat} {R : pR} {c : Nat} (hR : rOK R) {g : xG} (hg : jF L R c (dRd R c (rR R)) g) : ∃ w, f_X12_fillsFar_60_190 xN 0 g = some w ∧ jF L R c (sD R c) w := by
  have h7 := hR.t
  refine lp (fun n i g => f_X12_fillsFar_60_190 n i g) (fun k g => jF L R c (dFw R c k) g) 7 (fun o => ∃ w, o = some w ∧ jF L R c (sD R c) w) ?_ ?_ xN 0 g (Nat.zero_le _) (by decide) hg
  · intro n k g hk hg
    refine .inl ?_
    have e : f_X12_fillsFar_60_190 (n + 1) (nI k) g = f_X12_fillsFar_60_198 (f_X12_fillsFar_60_190 n) xN (nI k) 0 g := by
      simp only [f_X12_fillsFar_60_190]
      rw [if_neg (show ¬ (7 : Int32) ≤ nI k from nI_ge hk (by decide))]
    show ∃ s', f_X12_fillsFar_60_190 (n + 1) (nI k) g = _ ∧ _
    rw [e]
    exact r_f198 (Q := fun o => ∃ s', o = f_X12_fillsFar_60_190 n (nI (k + 1)) s' ∧ jF L R c (dFw R c (k + 1)) s') (T := 7) ((dFw_more hR c k).1.mono h7) hk (Nat.le_refl _) (fun w hw => ⟨w, rfl, hw⟩) hg
  · intro n g hg
    refine ⟨g, ?_, (dFw_more hR c 7).2 h7 ▸ hg⟩
    simp only [f_X12_fillsFar_60_190]
    rw [if_pos (show (7 : Int32) ≤ nI 7 from nI_le (Nat.le_refl _) (by decide))]
theorem r_f40 {L : Nat} {R : pR} {c : Nat} (hR : rOK R) (hc2 : c < 2 ^ 31) {g : xG} (hg : jF L R c dI g) : ∃ w, f_X12_fillsFar_60_40 xN 0 g = some w ∧ jF L R c (sD R c) w := by
  have h7 := hR.t
  have h10 := hR.r
  refine lp (fun n i g => f_X12_fillsFar_60_40 n i g) (fun r g => jF L R c (dRd R c r) g) (rR R) (fun o => ∃ w, o = some w ∧ jF L R c (sD R c) w) ?_ ?_ xN 0 g (Nat.zero_le _) (by unfold xN; omega) hg
  · intro n r g hr hg
    obtain ⟨h, hc, hm⟩ := id hg
    obtain ⟨⟨hL, e18, eT, eR, eP, eC, eS⟩, hrr, -⟩ := id h
    obtain ⟨e1, e2, e3⟩ := hrr r hr
    refine .inl ?_
    have a1 := hR.a hr
    have a2 := hR.b hr
    have a4 := hR.m hr
    have hD := dRd_ok hR c r (by omega)
    have b1 := hD.2.2.1 (rA R r) (rB R r)
    have e0 : f_X12_fillsFar_60_40 (n + 1) (nI r) g = if (if c.testBit r then (1 : Int32) else 0) = 1 then f_X12_fillsFar_60_40 n (nI (r + 1)) g else if rM R r < dRd R c r (rA R r) (rB R r) then f_X12_fillsFar_60_40 n (nI (r + 1)) (xupd (xupd g.1 95 (7 * rA R r + rB R r) (nI (rM R r))) 95 (7 * rB R r + rA R r) (nI (rM R r)), g.2) else f_X12_fillsFar_60_40 n (nI (r + 1)) g := by
      simp only [f_X12_fillsFar_60_40, nI_1, e18, i10, nI_clamp (show L < 2 ^ 31 by omega), nI_clamp (show 10 * L + r < 2 ^ 31 by omega), e1, e2, e3, eR, i7', show (36 : Int32).toNatClampNeg = 36 from rfl, hc, bi_one hc2 (show r < 32 by omega), nI_clamp (show 7 * rA R r + rB R r < 2 ^ 31 by omega), nI_clamp (show 7 * rB R r + rA R r < 2 ^ 31 by omega)]
      rw [xg_in' hL (by decide), if_neg (nI_ge hr (by omega)), xg_t (by decide), xg_in' (by omega) (by decide), xg_in' (by omega) (by decide), xg_in' (by omega) (by decide), xg_in' (by omega) (by decide), xg_in' (by omega) (by decide), xg_in' (by omega) (by decide), xg_in' (by omega) (by decide), xg_in' (by omega) (by decide), hm _ _ (by omega) (by omega), ite_lt (by omega) (by omega)]
    show ∃ s', f_X12_fillsFar_60_40 (n + 1) (nI r) g = _ ∧ jF L R c (dRd R c (r + 1)) s'
    rw [e0]
    by_cases ec : c.testBit r = true
    · rw [if_pos ec, if_pos rfl]
      refine ⟨g, rfl, hg.up xfrm.rf ?_⟩
      rw [dRd_s, if_pos ec]
      exact hm
    · rw [if_neg ec, if_neg (by decide)]
      have hs := hD.2.1 (rA R r) (rB R r)
      by_cases z : rM R r < dRd R c r (rA R r) (rB R r)
      · rw [if_pos z]
        refine ⟨_, rfl, hg.up (xfrm.up (xfrm.up xfrm.rf rfl) rfl) fun x y hx hy => ?_⟩
        dsimp only
        rw [dRd_s, if_neg ec, xu_at, xu_at]
        unfold dSt
        by_cases z1 : x = rA R r ∧ y = rB R r
        · rw [if_pos (show (x = rA R r ∧ y = rB R r) ∨ (x = rB R r ∧ y = rA R r) from .inl z1), z1.1, z1.2, Nat.min_eq_right (by omega)]
          split
          · rfl
          · rw [if_pos ⟨rfl, rfl⟩]
        · by_cases z2 : x = rB R r ∧ y = rA R r
          · rw [if_pos ⟨rfl, by rw [z2.1, z2.2]⟩, if_pos (show (x = rA R r ∧ y = rB R r) ∨ (x = rB R r ∧ y = rA R r) from .inr z2), z2.1, z2.2, Nat.min_eq_right (by omega)]
          · rw [if_neg (by omega), if_neg (by omega), if_neg (by omega)]
            exact hm x y hx hy
      · rw [if_neg z]
        refine ⟨g, rfl, hg.up xfrm.rf fun x y hx hy => (hm x y hx hy).trans ?_⟩
        rw [dRd_s, if_neg ec]
        unfold dSt
        split
        · next z1 =>
          congr 1
          rcases z1 with ⟨rfl, rfl⟩ | ⟨rfl, rfl⟩
          · omega
          · omega
        · rfl
  · intro n g hg
    obtain ⟨⟨hL, e18, eT, eR, -⟩, -⟩ := id hg.1
    have e : f_X12_fillsFar_60_40 (n + 1) (nI (rR R)) g = f_X12_fillsFar_60_190 xN 0 g := by
      simp only [f_X12_fillsFar_60_40, e18]
      rw [xg_in hL (by decide), nI_clamp (by omega), eR, if_pos (nI_le (Nat.le_refl _) (by omega))]
    show ∃ w, f_X12_fillsFar_60_40 (n + 1) (nI (rR R)) g = some w ∧ _
    rw [e]
    exact r_f190 hR hg
theorem r_f2 {L : Nat} {R : pR} {c : Nat} (hR : rOK R) (hc2 : c < 2 ^ 31) {g : xG} (h : rmR g L R) (hc : g.1 94 36 = nI c) : ∃ w, f_X12_fillsFar_60_2 xN 0 g = some w ∧ jF L R c (sD R c) w := by
  refine lp (fun n i g => f_X12_fillsFar_60_2 n i g) (fun j g => rmR g L R ∧ g.1 94 36 = nI c ∧ ∀ q, q < j → g.1 95 q = nI (dI (q / 7) (q % 7))) 49 (fun o => ∃ w, o = some w ∧ jF L R c (sD R c) w) ?_ ?_ xN 0 g (Nat.zero_le _) (by decide) ⟨h, hc, fun q hq => absurd hq (Nat.not_lt_zero _)⟩
  · rintro n j g hj ⟨h, hc, hq⟩
    refine .inl ⟨(xupd g.1 95 j (nI (dI (j / 7) (j % 7))), g.2), ?_, h.ag ((xfrm.up xfrm.rf rfl : xfrm [(95, none)] g _).agr rfl), hc, fun q hq2 => ?_⟩
    · simp only [f_X12_fillsFar_60_2]
      rw [if_neg (show ¬ (49 : Int32) ≤ nI j from nI_ge hj (by decide)), xg_t (by decide), xg_t (by decide), xg_in hj (by decide), xg_in hj (by decide), nI_clamp (by omega), nI_1, show (7 : Int32) = nI 7 from rfl, pk_div (by omega) (by decide) (by decide)]
      rw [show nI j - nI (j / 7) * nI 7 = nI (j % 7) by rw [← pk_div (by omega) (by decide) (by decide)]; exact pk_rem (by omega) (by decide) (by decide), ite_eqn (by omega) (by omega)]
      unfold dI
      split <;> rfl
    · dsimp only
      rw [xu_at]
      split
      · next e => rw [e.2]
      · next e => exact hq q (by omega)
  · rintro n g ⟨h, hc, hq⟩
    have e : f_X12_fillsFar_60_2 (n + 1) (nI 49) g = f_X12_fillsFar_60_40 xN 0 g := by
      simp only [f_X12_fillsFar_60_2]
      rw [if_pos (show (49 : Int32) ≤ nI 49 from nI_le (Nat.le_refl _) (by decide))]
    show ∃ w, f_X12_fillsFar_60_2 (n + 1) (nI 49) g = some w ∧ _
    rw [e]
    refine r_f40 hR hc2 ⟨h, hc, fun x y hx hy => (hq (7 * x + y) (by omega)).trans ?_⟩
    rw [show (7 * x + y) / 7 = x by omega, show (7 * x + y) % 7 = y by omega]
theorem r_fills {L : Nat} {R : pR} {c : Nat} (hR : rOK R) (hc2 : c < 2 ^ 31) {g : xG} (h : rmR g L R) (hc : g.1 94 36 = nI c) : ∃ w, f_X12_fillsFar_60 g = some w ∧ Mt 95 (sD R c) w ∧ xfrm fp_X12_fillsFar_60 g w := by
  obtain ⟨w, e, -, -, h3⟩ := r_f2 hR hc2 h hc
  exact ⟨w, e, h3, fr_X12_fillsFar_60 _ e⟩
