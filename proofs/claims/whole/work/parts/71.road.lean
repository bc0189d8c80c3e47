/-! the road that one walks: both -/
def sCan (R : pR) (c t gl r : Nat) : Prop := c.testBit r = false ∧ (rA R r = t ∨ rB R r = t) ∧ sD R c (oth R r t) gl < 999
theorem sRd_no {R : pR} {c t gl r : Nat} (h : ¬ sCan R c t gl r) : sRd R c t gl (r + 1) = sRd R c t gl r := by
  conv => lhs; unfold sRd
  exact if_neg h
theorem sRd_none {R : pR} {c t gl r : Nat} (h : sCan R c t gl r) (hs : sRd R c t gl r = none) : sRd R c t gl (r + 1) = some (r, rM R r + sD R c (oth R r t) gl) := by
  conv => lhs; unfold sRd
  unfold sCan at h
  rw [if_pos h, hs]
theorem sRd_some {R : pR} {c t gl r q v : Nat} (h : sCan R c t gl r) (hs : sRd R c t gl r = some (q, v)) : sRd R c t gl (r + 1) = if rM R r + sD R c (oth R r t) gl < v then some (r, rM R r + sD R c (oth R r t) gl) else some (q, v) := by
  conv => lhs; unfold sRd
  unfold sCan at h
  rw [if_pos h, hs]
theorem oth_lt {R : pR} (hR : rOK R) {r t : Nat} (hr : r < rR R) : oth R r t < rT R := by
  unfold oth
  split
  · exact hR.b hr
  · exact hR.a hr

theorem c_road38 {g : xG} {R : pR} {c : Nat} (hR : rOK R) (h : rmC g R) (hc : g.1 38 2 = nI c) (hc2 : c < 2 ^ 31) (hm : Mt 39 (sD R c) g) {t gl : Nat} (ht : t < rT R) (hg : gl < rT R) : f_X10_roadToward_38 (nI t) (nI gl) g = some (oN (sRd R c t gl (rR R))) := by
  have h7 := hR.t
  have h10 := hR.r
  unfold f_X10_roadToward_38
  refine lp (fun n i (s : Int32 × Int32) => f_X10_roadToward_38_9 g n (nI t) (nI gl) s.1 s.2 i) (fun r s => s.1 = oN (sRd R c t gl r) ∧ s.2 = oV (sRd R c t gl r)) (rR R) (fun o => o = some (oN (sRd R c t gl (rR R)))) ?_ ?_ xN 0 ((-2 : Int32), (0 : Int32)) (Nat.zero_le _) (by show rR R < 4000 + 0; omega) ⟨rfl, rfl⟩
  · rintro n r ⟨b, m⟩ hr ⟨e1, e2⟩
    dsimp only at e1 e2 ⊢
    refine .inl ?_
    have ho := oth_lt (t := t) hR hr
    have hd := (sD_ok hR c).2.2.1 (oth R r t) gl
    have hmi := hR.m hr
    simp only [f_X10_roadToward_38_9]
    rw [show f_X4_roads_3 g = nI (rR R) from h.1.2.1, if_neg (nI_ge hr (by omega)), c_isOpen38 h hR hc hc2 hr, c_across h hR hr (by omega), c_mil h hR hr, nI_1]
    by_cases k1 : c.testBit r = true
    · rw [if_pos k1, if_pos rfl, sRd_no (fun z => by rw [z.1] at k1; cases k1)]
      exact ⟨(b, m), rfl, e1, e2⟩
    · rw [if_neg k1, if_neg (show ¬ (1 : Int32) = 0 by decide)]
      by_cases k2 : rA R r = t ∨ rB R r = t
      · rw [if_pos k2, c_between38 h hR hm ho hg, nI_add]
        by_cases k3 : sD R c (oth R r t) gl < 999
        · have can : sCan R c t gl r := ⟨by simpa using k1, k2, k3⟩
          rw [if_neg (show ¬ (999 : Int32) ≤ nI (sD R c (oth R r t) gl) from nI_ge (b := 999) k3 (by decide))]
          match hs : sRd R c t gl r with
          | none =>
            rw [hs] at e1
            rw [sRd_none can hs, e1, if_pos (show oN none = -2 from rfl)]
            exact ⟨(_, _), rfl, rfl, rfl⟩
          | some (q, v) =>
            obtain ⟨hq, -, hv⟩ := sRd_lt r hs
            have hv2 : v < 2 ^ 31 := by
              have a := (sD_ok hR c).2.2.1 (oth R q t) gl
              have b := hR.m (show q < rR R by omega)
              omega
            rw [hs] at e1 e2
            rw [sRd_some can hs, e1, e2, if_neg (show ¬ oN (some (q, v)) = -2 from fun z => nI_pos (show q < 2 ^ 31 by omega) (by rw [show nI q = -2 from z]; decide))]
            by_cases z : rM R r + sD R c (oth R r t) gl < v
            · rw [if_neg (show ¬ oV (some (q, v)) ≤ nI (rM R r + sD R c (oth R r t) gl) from nI_ge z hv2), if_pos z]
              exact ⟨(_, _), rfl, rfl, rfl⟩
            · rw [if_pos (show oV (some (q, v)) ≤ nI (rM R r + sD R c (oth R r t) gl) from nI_le (by omega) (by omega)), if_neg z]
              exact ⟨(_, _), rfl, rfl, rfl⟩
        · rw [if_pos (show (999 : Int32) ≤ nI (sD R c (oth R r t) gl) from nI_le (a := 999) (by omega) (by omega)), sRd_no (fun z => k3 z.2.2)]
          exact ⟨(b, m), rfl, e1, e2⟩
      · rw [if_neg k2, c_betweenN38 (.inl (by decide)), if_pos (by decide), sRd_no (fun z => k2 z.2.1)]
        exact ⟨(b, m), rfl, e1, e2⟩
  · rintro n ⟨b, m⟩ ⟨e1, e2⟩
    dsimp only at e1 e2 ⊢
    simp only [f_X10_roadToward_38_9]
    rw [show f_X4_roads_3 g = nI (rR R) from h.1.2.1, if_pos (nI_le (Nat.le_refl _) (by omega)), e1]

section
variable {L : Nat} {R : pR} {ρ : Nat → Int32} {c : Nat} {g : xG}
theorem r_isOpen (h : jR L R ρ c g) (hc : ρ 36 = nI c) (hc2 : c < 2 ^ 31) {r : Nat} (hr : r < 31) : f_X12_isOpen_60 (nI r) g = some (if c.testBit r then 0 else 1) := by
  unfold f_X12_isOpen_60
  rw [xg_t (by decide), show (36 : Int32).toNatClampNeg = 36 from rfl, h.2.2.1 36 (by decide), hc, bi_one hc2 (by omega)]
  by_cases e : c.testBit r = true
  · rw [if_pos e, if_neg (show ¬ (1 : Int32) = 0 by decide), if_pos e]
  · rw [if_neg e, if_pos rfl, if_neg e]
theorem r_isEnd (h : rmR g L R) (hR : rOK R) {r t : Nat} (hr : r < rR R) (ht : t < 7) : f_X12_isEnd_60 (nI r) (nI t) g = some (if rA R r = t ∨ rB R r = t then 1 else 0) := by
  have h7 := hR.t
  have h10 := hR.r
  have ha := hR.a hr
  have hb := hR.b hr
  obtain ⟨⟨hL, e18, -⟩, hrr, -⟩ := h
  obtain ⟨e1, e2, -⟩ := hrr r hr
  unfold f_X12_isEnd_60
  rw [e18, i10, xg_in (by omega) (by decide), xg_in (by omega) (by decide), nI_clamp (by omega), e1, e2, ite_eqn (by omega) (by omega), ite_eqn (by omega) (by omega)]
  by_cases k1 : rA R r = t
  · rw [if_pos k1, if_pos (.inl k1)]
  · rw [if_neg k1]
    by_cases k2 : rB R r = t
    · rw [if_pos k2, if_pos (.inr k2)]
    · rw [if_neg k2, if_neg (by omega)]
theorem r_otherEnd (h : rmR g L R) (hR : rOK R) {r t : Nat} (hr : r < rR R) (ht : rA R r = t ∨ rB R r = t) : f_X12_otherEnd_60 (nI r) (nI t) g = some (nI (oth R r t)) := by
  have h10 := hR.r
  obtain ⟨⟨hL, e18, -⟩, hrr, -⟩ := h
  obtain ⟨e1, e2, -⟩ := hrr r hr
  unfold f_X12_otherEnd_60 oth
  rw [e18, i10, xg_in (by omega) (by decide), xg_in (by omega) (by decide), nI_clamp (by omega), e1, e2, nI_add, pk_sub (by omega)]
  congr 2
  split <;> omega
theorem r_roadFor (h : jR L R ρ c g) (hR : rOK R) (hc : ρ 36 = nI c) (hc2 : c < 2 ^ 31) {t gl : Nat} (ht : t < rT R) (hg : gl < rT R) : f_X12_roadFor_60 (nI t) (nI gl) g = some (oN (sRd R c t gl (rR R))) := by
  have h7 := hR.t
  have h10 := hR.r
  obtain ⟨⟨⟨hL, e18, eT, eR, eP, eC, eS⟩, hrr, -⟩, -, -, h4⟩ := id h
  unfold f_X12_roadFor_60
  refine lp (fun n i (s : Int32 × Int32) => f_X12_roadFor_60_9 g n (nI t) (nI gl) s.1 s.2 i) (fun r s => s.1 = oN (sRd R c t gl r) ∧ s.2 = oV (sRd R c t gl r)) (rR R) (fun o => o = some (oN (sRd R c t gl (rR R)))) ?_ ?_ xN 0 ((-2 : Int32), (0 : Int32)) (Nat.zero_le _) (by show rR R < 4000 + 0; omega) ⟨rfl, rfl⟩
  · rintro n r ⟨b, m⟩ hr ⟨e1, e2⟩
    dsimp only at e1 e2 ⊢
    refine .inl ?_
    have ho := oth_lt (t := t) hR hr
    have hd := (sD_ok hR c).2.2.1 (oth R r t) gl
    have hmi := hR.m hr
    simp only [f_X12_roadFor_60_9]
    rw [e18, xg_in hL (by decide), nI_clamp (show L < 2 ^ 31 by omega), eR, if_neg (nI_ge hr (by omega)), r_isOpen h hc hc2 (by omega), Option.bind_some, nI_1]
    by_cases k1 : c.testBit r = true
    · rw [if_pos k1, if_pos rfl, sRd_no (fun z => by rw [z.1] at k1; cases k1)]
      exact ⟨(b, m), rfl, e1, e2⟩
    · rw [if_neg k1, if_neg (show ¬ (1 : Int32) = 0 by decide), r_isEnd h.1 hR hr (by omega), Option.bind_some]
      by_cases k2 : rA R r = t ∨ rB R r = t
      · rw [if_pos k2, if_neg (show ¬ (1 : Int32) = 0 by decide), r_otherEnd h.1 hR hr k2, Option.bind_some, i7', i10, xg_in (by omega) (by decide), xg_in (by omega) (by decide), nI_clamp (show 7 * oth R r t + gl < 2 ^ 31 by omega), nI_clamp (show 10 * L + r < 2 ^ 31 by omega), h4 _ _ (by omega) (by omega), (hrr r hr).2.2, nI_add]
        by_cases k3 : sD R c (oth R r t) gl < 999
        · have can : sCan R c t gl r := ⟨by simpa using k1, k2, k3⟩
          rw [if_neg (show ¬ (999 : Int32) ≤ nI (sD R c (oth R r t) gl) from nI_ge (b := 999) k3 (by decide))]
          match hs : sRd R c t gl r with
          | none =>
            rw [hs] at e1
            rw [sRd_none can hs, e1, if_pos (show oN none < 0 by decide)]
            exact ⟨(_, _), rfl, rfl, rfl⟩
          | some (q, v) =>
            obtain ⟨hq, -, hv⟩ := sRd_lt r hs
            have hv2 : v < 2 ^ 31 := by
              have a := (sD_ok hR c).2.2.1 (oth R q t) gl
              have b := hR.m (show q < rR R by omega)
              omega
            rw [hs] at e1 e2
            rw [sRd_some can hs, e1, e2, if_neg (show ¬ oN (some (q, v)) < 0 from nI_pos (by omega))]
            by_cases z : rM R r + sD R c (oth R r t) gl < v
            · rw [if_pos (show nI (rM R r + sD R c (oth R r t) gl) < oV (some (q, v)) from nI_lt z hv2), if_pos z]
              exact ⟨(_, _), rfl, rfl, rfl⟩
            · rw [if_neg (show ¬ nI (rM R r + sD R c (oth R r t) gl) < oV (some (q, v)) from nI_nlt (by omega) (by omega)), if_neg z]
              exact ⟨(_, _), rfl, rfl, rfl⟩
        · rw [if_pos (show (999 : Int32) ≤ nI (sD R c (oth R r t) gl) from nI_le (a := 999) (by omega) (by omega)), sRd_no (fun z => k3 z.2.2)]
          exact ⟨(b, m), rfl, e1, e2⟩
      · rw [if_neg k2, if_pos rfl, sRd_no (fun z => k2 z.2.1)]
        exact ⟨(b, m), rfl, e1, e2⟩
  · rintro n ⟨b, m⟩ ⟨e1, e2⟩
    dsimp only at e1 e2 ⊢
    simp only [f_X12_roadFor_60_9]
    rw [e18, xg_in hL (by decide), nI_clamp (show L < 2 ^ 31 by omega), eR, if_pos (nI_le (Nat.le_refl _) (by omega)), e1]
end
