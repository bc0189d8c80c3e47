/-! a road closed: who would ring -/
theorem sRg_eq {R : pR} {ρ ρ' v v' : Nat → Int32} : ∀ {n : Nat}, (∀ p, p < n → ρ' p = ρ p ∧ ρ' (30 + p) = ρ (30 + p) ∧ v' p = v p) → sRg R ρ' v' n = sRg R ρ v n
  | 0, _ => rfl
  | n + 1, h => by
    obtain ⟨a, b, d⟩ := h n (Nat.lt_succ_self n)
    rw [sRg_s, sRg_s, sRg_eq (fun p hp => h p (Nat.lt_succ_of_lt hp)), a, b, d]
theorem or_lt {c r : Nat} (hc : c < 1024) (hr : r < 10) : c ||| 2 ^ r < 1024 := Nat.or_lt_two_pow (n := 10) hc (Nat.pow_lt_pow_right (by decide) hr)
def sRW (R : pR) (ρ : Nat → Int32) (c r : Nat) : Int32 := gN (sRg R ρ (vCl R ρ (c ||| 2 ^ r)) (rP R))
section
variable {R : pR} {L c : Nat} {ρ : Nat → Int32}
theorem c_m40 (hR : rOK R) (hc : ρ 36 = nI c) (hc2 : c < 1024) {g : xG} (h : jC_44_48 R ρ c g) {r : Nat} (hr : r < rR R) : ∃ w, f_X10_measure_40 (f_X6_get_48 4 g ||| f_X11_bit (nI r)) g = some w ∧ jC_46_48 R ρ (c ||| 2 ^ r) w ∧ jC_44_48 R ρ c w := by
  have h10 := hR.r
  have hl := or_lt hc2 (show r < 10 by omega)
  obtain ⟨w, e, q1, q2, f⟩ := c_measure40 (c := c ||| 2 ^ r) hR (by omega) h.1
  have k := h.ag (f.agr (C := kJ_44_48) rfl)
  rw [c_cl48 h.2.2.2.2, hc, bi_bit r (by omega), nb_or]
  exact ⟨w, e, ⟨k.1, k.2.1, q1, q2, k.2.2.2.2⟩, k⟩
theorem c_without (hR : rOK R) (ho : rowOK R ρ) (hc : ρ 36 = nI c) (hc2 : c < 1024) {g : xG} (h : jC_44_48 R ρ c g) {r : Nat} (hr : r < rR R) : ∃ w, f_X11_ringerWithout_0 (nI r) g = some (sRW R ρ c r, w) ∧ jC_44_48 R ρ c w := by
  obtain ⟨w, e, j, k⟩ := c_m40 hR hc hc2 h hr
  obtain ⟨w2, e2, f2⟩ := c_ringerOf_46_48 hR j ho
  refine ⟨w2, ?_, k.ag (f2.agr rfl)⟩
  unfold f_X11_ringerWithout_0
  rw [e, Option.bind_some, e2]
  rfl
theorem r_openNow {g : xG} (h : mR R L ρ g) (hc : ρ 36 = nI c) (hc2 : c < 1024) {r : Nat} (hr : r < 31) : f_X12_isOpenNow_60 (nI r) g = some (if c.testBit r then 0 else 1) := by
  unfold f_X12_isOpenNow_60
  rw [xg_t (by decide), show (36 : Int32).toNatClampNeg = 36 from rfl, h.2.2 36 (by decide), hc, bi_one (by omega) (by omega)]
  by_cases e : c.testBit r = true
  · rw [if_pos e, if_neg (show ¬ (1 : Int32) = 0 by decide), if_pos e]
  · rw [if_neg e, if_pos rfl, if_neg e]
theorem r_closed (hR : rOK R) (hc : ρ 36 = nI c) (hc2 : c < 1024) {g : xG} (h : jR L R ρ c g) (hm : mR R L ρ g) {r : Nat} (hr : r < rR R) : ∃ w, f_X12_fillsFar_60 (xupd g.1 94 36 (g.1 94 36 ||| (1 : Int32) <<< (nI r &&& 31)), g.2) = some w ∧ jR L R (upd ρ 36 (nI (c ||| 2 ^ r))) (c ||| 2 ^ r) w ∧ mR R L ρ w := by
  have h10 := hR.r
  have hl := or_lt hc2 (show r < 10 by omega)
  rw [h.2.2.1 36 (by decide), hc, bi_sh r (by omega), nb_or]
  have j2 : jR L R (upd ρ 36 (nI (c ||| 2 ^ r))) c (xupd g.1 94 36 (nI (c ||| 2 ^ r)), g.2) := h.up
  have f2 : xfrm [(94, none)] g (xupd g.1 94 36 (nI (c ||| 2 ^ r)), g.2) := xfrm.up xfrm.rf rfl
  obtain ⟨w, e, q, f⟩ := r_fills (c := c ||| 2 ^ r) hR (by omega) j2.1 ((j2.2.2.1 36 (by decide)).trans pk_us)
  have f' : xfrm [(95, none)] (xupd g.1 94 36 (nI (c ||| 2 ^ r)), g.2) w := f
  refine ⟨w, e, ⟨j2.1.ag (f'.agr rfl), j2.2.1.ag (f'.agr rfl), fun k hk => ((f' 94 k rfl).1).trans (j2.2.2.1 k hk), q⟩, (hm.ag (f2.agr rfl)).ag (f'.agr rfl)⟩
theorem r_without (hR : rOK R) (hc : ρ 36 = nI c) (hc2 : c < 1024) {g : xG} (h : mR R L ρ g) {r : Nat} (hr : r < rR R) : ∃ w, f_X12_ringerWithout_60 (nI r) g = some (sRW R ρ c r, w) ∧ mR R L ρ w := by
  have h6 := hR.p
  obtain ⟨w1, e1, j1, -, -, k1⟩ := r_copies hR h hc (by omega)
  obtain ⟨w2, e2, j2, k2⟩ := r_closed hR hc hc2 j1 k1 hr
  obtain ⟨w3, e3, f3⟩ := r_ringerNow j2 hR
  refine ⟨w3, ?_, k2.ag (f3.agr rfl)⟩
  unfold f_X12_ringerWithout_60
  rw [e1, Option.bind_some, xg_t (by decide), xg_t (by decide), show (36 : Int32).toNatClampNeg = 36 from rfl, e2, Option.bind_some, e3, Option.bind_some]
  have key : sRg R (upd ρ 36 (nI (c ||| 2 ^ r))) (vCl R (upd ρ 36 (nI (c ||| 2 ^ r))) (c ||| 2 ^ r)) (rP R) = sRg R ρ (vCl R ρ (c ||| 2 ^ r)) (rP R) := sRg_eq (fun p hp => ⟨pk_un (by omega), pk_un (by omega), sLaw_up hR (fun k _ a => pk_un a) hp _ _⟩)
  rw [key]
  rfl
def sTu (R : pR) (ρ : Nat → Int32) (c : Nat) (v : Int32) : Nat → Bool := fun r => !c.testBit r && !decide (sRW R ρ c r = v)
def sWi (R : pR) (ρ : Nat → Int32) (c : Nat) (v : Int32) : Nat → Bool := fun r => !c.testBit r && decide (sRW R ρ c r = v)
theorem c_turnsL (hR : rOK R) (ho : rowOK R ρ) (hc : ρ 36 = nI c) (hc2 : c < 1024) {g : xG} (h : jC_44_48 R ρ c g) (v : Int32) : ∃ w, f_X11_turns_0_16 xN v 0 0 g = some (nI (bq (sTu R ρ c v) (rR R)), w) := by
  have h10 := hR.r
  refine lp (fun n i (s : Int32 × xG) => f_X11_turns_0_16 n v s.1 i s.2) (fun r s => s.1 = nI (bq (sTu R ρ c v) r) ∧ jC_44_48 R ρ c s.2) (rR R) (fun o => ∃ w, o = some (nI (bq (sTu R ρ c v) (rR R)), w)) ?_ ?_ xN 0 ((0 : Int32), g) (Nat.zero_le _) (by show rR R < 4000 + 0; omega) ⟨rfl, h⟩
  · rintro n r ⟨b, w⟩ hr ⟨e1, j⟩
    dsimp only at e1 j ⊢
    refine .inl ?_
    obtain ⟨w2, q1, q2⟩ := c_without hR ho hc hc2 j hr
    simp only [f_X11_turns_0_16]
    rw [show f_X4_roads_3 w = nI (rR R) from j.1.1.2.1, if_neg (nI_ge hr (by omega)), c_isOpen38 j.1 hR j.2.2.1 (by omega) hr, q1, Option.bind_some, bi_bit r (by omega), e1, bq_or, nI_1, bq_s]
    dsimp only
    by_cases e : c.testBit r = true
    · rw [if_pos e, if_pos rfl, if_neg (by simp [sTu, e])]
      exact ⟨(_, w), rfl, rfl, j⟩
    · rw [if_neg e, if_neg (show ¬ (1 : Int32) = 0 by decide)]
      by_cases z : sRW R ρ c r = v
      · rw [if_pos z, if_neg (by simp [sTu, e, z])]
        exact ⟨(_, w2), rfl, rfl, q2⟩
      · rw [if_neg z, if_pos (by simp [sTu, e, z])]
        exact ⟨(_, w2), rfl, rfl, q2⟩
  · rintro n ⟨b, w⟩ ⟨e1, j⟩
    dsimp only at e1 j ⊢
    simp only [f_X11_turns_0_16]
    rw [show f_X4_roads_3 w = nI (rR R) from j.1.1.2.1, if_pos (nI_le (Nat.le_refl _) (by omega)), e1]
    exact ⟨w, rfl⟩
theorem r_turnsL (hR : rOK R) (hc : ρ 36 = nI c) (hc2 : c < 1024) {g : xG} (h : mR R L ρ g) (v : Int32) : ∃ w, f_X12_turns_60_13 xN v 0 0 g = some (nI (bq (sTu R ρ c v) (rR R)), w) := by
  have h10 := hR.r
  refine lp (fun n i (s : Int32 × xG) => f_X12_turns_60_13 n v s.1 i s.2) (fun r s => s.1 = nI (bq (sTu R ρ c v) r) ∧ mR R L ρ s.2) (rR R) (fun o => ∃ w, o = some (nI (bq (sTu R ρ c v) (rR R)), w)) ?_ ?_ xN 0 ((0 : Int32), g) (Nat.zero_le _) (by show rR R < 4000 + 0; omega) ⟨rfl, h⟩
  · rintro n r ⟨b, w⟩ hr ⟨e1, j⟩
    dsimp only at e1 j ⊢
    refine .inl ?_
    obtain ⟨w2, q1, q2⟩ := r_without hR hc hc2 j hr
    obtain ⟨⟨⟨hL, e18, eT, eR, eP, eC, eS⟩, -, -⟩, -, -⟩ := id j
    simp only [f_X12_turns_60_13]
    rw [e18, xg_in hL (by decide), nI_clamp (show L < 2 ^ 31 by omega), eR, if_neg (nI_ge hr (by omega)), r_openNow j hc hc2 (by omega), Option.bind_some, q1, Option.bind_some, bi_sh r (by omega), e1, bq_or, nI_1, bq_s]
    dsimp only
    by_cases e : c.testBit r = true
    · rw [if_pos e, if_pos rfl, if_neg (by simp [sTu, e])]
      exact ⟨(_, w), rfl, rfl, j⟩
    · rw [if_neg e, if_neg (show ¬ (1 : Int32) = 0 by decide)]
      by_cases z : sRW R ρ c r = v
      · rw [if_pos z, if_neg (by simp [sTu, e, z])]
        exact ⟨(_, w2), rfl, rfl, q2⟩
      · rw [if_neg z, if_pos (by simp [sTu, e, z])]
        exact ⟨(_, w2), rfl, rfl, q2⟩
  · rintro n ⟨b, w⟩ ⟨e1, j⟩
    dsimp only at e1 j ⊢
    obtain ⟨⟨⟨hL, e18, eT, eR, eP, eC, eS⟩, -, -⟩, -, -⟩ := id j
    simp only [f_X12_turns_60_13]
    rw [e18, xg_in hL (by decide), nI_clamp (show L < 2 ^ 31 by omega), eR, if_pos (nI_le (Nat.le_refl _) (by omega)), e1]
    exact ⟨w, rfl⟩
theorem c_wishL (hR : rOK R) (ho : rowOK R ρ) (hc : ρ 36 = nI c) (hc2 : c < 1024) {g : xG} (h : jC_44_48 R ρ c g) (v : Int32) : ∃ w, f_X11_wish_0_17 xN v 0 0 g = some (nI (bq (sWi R ρ c v) (rR R)), w) := by
  have h10 := hR.r
  refine lp (fun n i (s : Int32 × xG) => f_X11_wish_0_17 n v s.1 i s.2) (fun r s => s.1 = nI (bq (sWi R ρ c v) r) ∧ jC_44_48 R ρ c s.2) (rR R) (fun o => ∃ w, o = some (nI (bq (sWi R ρ c v) (rR R)), w)) ?_ ?_ xN 0 ((0 : Int32), g) (Nat.zero_le _) (by show rR R < 4000 + 0; omega) ⟨rfl, h⟩
  · rintro n r ⟨b, w⟩ hr ⟨e1, j⟩
    dsimp only at e1 j ⊢
    refine .inl ?_
    obtain ⟨w2, q1, q2⟩ := c_without hR ho hc hc2 j hr
    simp only [f_X11_wish_0_17]
    rw [show f_X4_roads_3 w = nI (rR R) from j.1.1.2.1, if_neg (nI_ge hr (by omega)), c_isOpen38 j.1 hR j.2.2.1 (by omega) hr, q1, Option.bind_some, bi_bit r (by omega), e1, bq_or, nI_1, bq_s]
    dsimp only
    by_cases e : c.testBit r = true
    · rw [if_pos e, if_pos rfl, if_neg (by simp [sWi, e])]
      exact ⟨(_, w), rfl, rfl, j⟩
    · rw [if_neg e, if_neg (show ¬ (1 : Int32) = 0 by decide)]
      by_cases z : sRW R ρ c r = v
      · rw [if_pos z, if_pos (by simp [sWi, e, z])]
        exact ⟨(_, w2), rfl, rfl, q2⟩
      · rw [if_neg z, if_neg (by simp [sWi, e, z])]
        exact ⟨(_, w2), rfl, rfl, q2⟩
  · rintro n ⟨b, w⟩ ⟨e1, j⟩
    dsimp only at e1 j ⊢
    simp only [f_X11_wish_0_17]
    rw [show f_X4_roads_3 w = nI (rR R) from j.1.1.2.1, if_pos (nI_le (Nat.le_refl _) (by omega)), e1]
    exact ⟨w, rfl⟩
theorem r_wishL (hR : rOK R) (hc : ρ 36 = nI c) (hc2 : c < 1024) {g : xG} (h : mR R L ρ g) (v : Int32) : ∃ w, f_X12_wish_60_14 xN v 0 0 g = some (nI (bq (sWi R ρ c v) (rR R)), w) := by
  have h10 := hR.r
  refine lp (fun n i (s : Int32 × xG) => f_X12_wish_60_14 n v s.1 i s.2) (fun r s => s.1 = nI (bq (sWi R ρ c v) r) ∧ mR R L ρ s.2) (rR R) (fun o => ∃ w, o = some (nI (bq (sWi R ρ c v) (rR R)), w)) ?_ ?_ xN 0 ((0 : Int32), g) (Nat.zero_le _) (by show rR R < 4000 + 0; omega) ⟨rfl, h⟩
  · rintro n r ⟨b, w⟩ hr ⟨e1, j⟩
    dsimp only at e1 j ⊢
    refine .inl ?_
    obtain ⟨w2, q1, q2⟩ := r_without hR hc hc2 j hr
    obtain ⟨⟨⟨hL, e18, eT, eR, eP, eC, eS⟩, -, -⟩, -, -⟩ := id j
    simp only [f_X12_wish_60_14]
    rw [e18, xg_in hL (by decide), nI_clamp (show L < 2 ^ 31 by omega), eR, if_neg (nI_ge hr (by omega)), r_openNow j hc hc2 (by omega), Option.bind_some, q1, Option.bind_some, bi_sh r (by omega), e1, bq_or, nI_1, bq_s]
    dsimp only
    by_cases e : c.testBit r = true
    · rw [if_pos e, if_pos rfl, if_neg (by simp [sWi, e])]
      exact ⟨(_, w), rfl, rfl, j⟩
    · rw [if_neg e, if_neg (show ¬ (1 : Int32) = 0 by decide)]
      by_cases z : sRW R ρ c r = v
      · rw [if_pos z, if_pos (by simp [sWi, e, z])]
        exact ⟨(_, w2), rfl, rfl, q2⟩
      · rw [if_neg z, if_neg (by simp [sWi, e, z])]
        exact ⟨(_, w2), rfl, rfl, q2⟩
  · rintro n ⟨b, w⟩ ⟨e1, j⟩
    dsimp only at e1 j ⊢
    obtain ⟨⟨⟨hL, e18, eT, eR, eP, eC, eS⟩, -, -⟩, -, -⟩ := id j
    simp only [f_X12_wish_60_14]
    rw [e18, xg_in hL (by decide), nI_clamp (show L < 2 ^ 31 by omega), eR, if_pos (nI_le (Nat.le_refl _) (by omega)), e1]
    exact ⟨w, rfl⟩
theorem q_turns (hR : rOK R) (ho : rowOK R ρ) (hc : ρ 36 = nI c) (hc2 : c < 1024) : aQ R L c ρ f_X11_turns_0 f_X12_turns_60 := by
  refine ⟨nI (bq (sTu R ρ c (gN (sRg R ρ (vCl R ρ c) (rP R)))) (rR R)), fun g h => ?_, fun g h => ?_⟩
  · obtain ⟨w1, e1, f1⟩ := c_ringerOf_44_48 hR h ho
    obtain ⟨w2, e2⟩ := c_turnsL hR ho hc hc2 (h.ag (f1.agr rfl)) (gN (sRg R ρ (vCl R ρ c) (rP R)))
    exact ⟨w2, by unfold f_X11_turns_0; rw [e1, Option.bind_some]; exact e2⟩
  · obtain ⟨w1, e1, j1, -, -, k1⟩ := r_copies hR h hc (by omega)
    obtain ⟨w2, e2, f2⟩ := r_ringerNow j1 hR
    obtain ⟨w3, e3⟩ := r_turnsL hR hc hc2 (k1.ag (f2.agr rfl)) (gN (sRg R ρ (vCl R ρ c) (rP R)))
    exact ⟨w3, by unfold f_X12_turns_60; rw [e1, Option.bind_some, e2, Option.bind_some]; exact e3⟩
theorem q_wish (hR : rOK R) (ho : rowOK R ρ) (hc : ρ 36 = nI c) (hc2 : c < 1024) (x : Int32) : aQ R L c ρ (f_X11_wish_0 x) (f_X12_wish_60 x) := by
  rcases aP hR x with ⟨a1, a2⟩ | ⟨p, hp, rfl, a1, a2⟩
  · refine ⟨-1, fun g h => ⟨g, ?_⟩, fun g h => ⟨g, ?_⟩⟩
    · unfold f_X11_wish_0
      rw [a1 g h.1, if_pos rfl]
    · unfold f_X12_wish_60
      rw [a2 g L h.1, Option.bind_some, if_pos rfl]
  refine ⟨nI (bq (sWi R ρ c (nI p)) (rR R)), fun g h => ?_, fun g h => ?_⟩
  · obtain ⟨w2, e2⟩ := c_wishL hR ho hc hc2 h (nI p)
    exact ⟨w2, by unfold f_X11_wish_0; rw [a1 g h.1, if_neg (by decide)]; exact e2⟩
  · obtain ⟨w3, e3⟩ := r_wishL hR hc hc2 h (nI p)
    exact ⟨w3, by unfold f_X12_wish_60; rw [a2 g L h.1, Option.bind_some, if_neg (by decide)]; exact e3⟩
/-! bridges -/
def sBr (R : pR) (c : Nat) : Nat → Bool := fun r => !c.testBit r && decide (sD R (c ||| 2 ^ r) (rA R r) (rB R r) = 999)
theorem q_bridges (hR : rOK R) (ho : rowOK R ρ) (hc : ρ 36 = nI c) (hc2 : c < 1024) : aQ R L c ρ f_X11_bridges_0 f_X12_bridges_60 := by
  have h10 := hR.r
  have h7 := hR.t
  refine ⟨nI (bq (sBr R c) (rR R)), fun g h => ?_, fun g h => ?_⟩
  · unfold f_X11_bridges_0
    refine lp (fun n i (s : Int32 × xG) => f_X11_bridges_0_4 n s.1 i s.2) (fun r s => s.1 = nI (bq (sBr R c) r) ∧ jC_44_48 R ρ c s.2) (rR R) (fun o => ∃ w, o = some (nI (bq (sBr R c) (rR R)), w)) ?_ ?_ xN 0 ((0 : Int32), g) (Nat.zero_le _) (by show rR R < 4000 + 0; omega) ⟨rfl, h⟩
    · rintro n r ⟨b, w⟩ hr ⟨e1, j⟩
      dsimp only at e1 j ⊢
      refine .inl ?_
      obtain ⟨w2, q1, q2, q3⟩ := c_m40 hR hc hc2 j hr
      have hd := (sD_ok hR (c ||| 2 ^ r)).2.2.1 (rA R r) (rB R r)
      simp only [f_X11_bridges_0_4]
      rw [show f_X4_roads_3 w = nI (rR R) from j.1.1.2.1, if_neg (nI_ge hr (by omega)), c_isOpen38 j.1 hR j.2.2.1 (by omega) hr, q1, Option.bind_some, bi_bit r (by omega), e1, bq_or, or_0, nI_1, bq_s, c_one q2.1 hR hr, c_oth q2.1 hR hr, c_between40 q2.1 hR q2.2.2.2.1 (hR.a hr) (hR.b hr)]
      by_cases e : c.testBit r = true
      · rw [if_pos e, if_pos rfl, if_neg (by simp [sBr, e])]
        exact ⟨(_, w), rfl, rfl, j⟩
      · rw [if_neg e, if_neg (show ¬ (1 : Int32) = 0 by decide)]
        by_cases z : sD R (c ||| 2 ^ r) (rA R r) (rB R r) = 999
        · rw [if_pos (show nI (sD R (c ||| 2 ^ r) (rA R r) (rB R r)) = (999 : Int32) by rw [z]; rfl), if_pos (by simp [sBr, e, z])]
          exact ⟨(_, w2), rfl, rfl, q3⟩
        · rw [if_neg (show ¬ nI (sD R (c ||| 2 ^ r) (rA R r) (rB R r)) = (999 : Int32) from fun y => z ((nI_eq (by omega) (by decide)).mp y)), if_neg (by simp [sBr, e, z])]
          exact ⟨(_, w2), rfl, rfl, q3⟩
    · rintro n ⟨b, w⟩ ⟨e1, j⟩
      dsimp only at e1 j ⊢
      simp only [f_X11_bridges_0_4]
      rw [show f_X4_roads_3 w = nI (rR R) from j.1.1.2.1, if_pos (nI_le (Nat.le_refl _) (by omega)), e1]
      exact ⟨w, rfl⟩
  · unfold f_X12_bridges_60
    refine lp (fun n i (s : Int32 × xG) => f_X12_bridges_60_4 n s.1 i s.2) (fun r s => s.1 = nI (bq (sBr R c) r) ∧ mR R L ρ s.2) (rR R) (fun o => ∃ w, o = some (nI (bq (sBr R c) (rR R)), w)) ?_ ?_ xN 0 ((0 : Int32), g) (Nat.zero_le _) (by show rR R < 4000 + 0; omega) ⟨rfl, h⟩
    · rintro n r ⟨b, w⟩ hr ⟨e1, j⟩
      dsimp only at e1 j ⊢
      refine .inl ?_
      obtain ⟨w1, p1, j1, -, -, k1⟩ := r_copies hR j hc (by omega)
      obtain ⟨w2, q1, j2, k2⟩ := r_closed hR hc hc2 j1 k1 hr
      have hd := (sD_ok hR (c ||| 2 ^ r)).2.2.1 (rA R r) (rB R r)
      have ha := hR.a hr
      have hb := hR.b hr
      obtain ⟨⟨⟨hL, e18, eT, eR, eP, eC, eS⟩, -, -⟩, -, -⟩ := id j
      obtain ⟨⟨⟨-, f18, -⟩, h8, -⟩, -, -, h4⟩ := id j2
      simp only [f_X12_bridges_60_4]
      rw [e18, xg_in hL (by decide), nI_clamp (show L < 2 ^ 31 by omega), eR, if_neg (nI_ge hr (by omega)), r_openNow j hc hc2 (by omega), Option.bind_some, p1, Option.bind_some, xg_t (by decide), xg_t (by decide), show (36 : Int32).toNatClampNeg = 36 from rfl, q1, Option.bind_some, f18, i10, xg_in (show 10 * L + r < 20 by omega) (by decide), xg_in (show 10 * L + r < 20 by omega) (by decide), nI_clamp (show 10 * L + r < 2 ^ 31 by omega), (h8 r hr).1, (h8 r hr).2.1, i7', xg_in (show 7 * rA R r + rB R r < 49 by omega) (by decide), nI_clamp (show 7 * rA R r + rB R r < 2 ^ 31 by omega), h4 _ _ (by omega) (by omega), bi_sh r (by omega), e1, bq_or, nI_1, bq_s]
      by_cases e : c.testBit r = true
      · rw [if_pos e, if_pos rfl, if_neg (by simp [sBr, e])]
        exact ⟨(_, w), rfl, rfl, j⟩
      · rw [if_neg e, if_neg (show ¬ (1 : Int32) = 0 by decide)]
        by_cases z : sD R (c ||| 2 ^ r) (rA R r) (rB R r) = 999
        · rw [if_neg (show ¬ nI (sD R (c ||| 2 ^ r) (rA R r) (rB R r)) < (999 : Int32) by rw [z]; decide), if_pos (by simp [sBr, e, z])]
          exact ⟨(_, w2), rfl, rfl, k2⟩
        · rw [if_pos (show nI (sD R (c ||| 2 ^ r) (rA R r) (rB R r)) < (999 : Int32) from nI_lt (b := 999) (by omega) (by decide)), if_neg (by simp [sBr, e, z])]
          exact ⟨(_, w2), rfl, rfl, k2⟩
    · rintro n ⟨b, w⟩ ⟨e1, j⟩
      dsimp only at e1 j ⊢
      obtain ⟨⟨⟨hL, e18, eT, eR, eP, eC, eS⟩, -, -⟩, -, -⟩ := id j
      simp only [f_X12_bridges_60_4]
      rw [e18, xg_in hL (by decide), nI_clamp (show L < 2 ^ 31 by omega), eR, if_pos (nI_le (Nat.le_refl _) (by omega)), e1]
      exact ⟨w, rfl⟩
/-! the centre and where all should meet -/
def sAm (v : Nat → Nat) : Nat → Option Nat
  | 0 => none
  | a + 1 => match sAm v a with
    | none => some a
    | some q => if v a < v q then some a else some q
theorem sAm_s (v : Nat → Nat) (a : Nat) : sAm v (a + 1) = match sAm v a with | none => some a | some q => if v a < v q then some a else some q := rfl
theorem sAm_lt {v : Nat → Nat} : ∀ {a q : Nat}, sAm v a = some q → q < a
  | 0, _, h => by cases h
  | p + 1, q, h => by
    rw [sAm_s] at h
    match e : sAm v p with
    | none => rw [e] at h; cases h; omega
    | some q' =>
      rw [e] at h
      have := sAm_lt e
      dsimp only at h
      split at h
      · cases h; omega
      · cases h; omega
def gV (v : Nat → Nat) : Option Nat → Int32
  | none => -2
  | some q => nI (v q)
def sMx (R : pR) (c a : Nat) : Nat → Nat
  | 0 => 0
  | b + 1 => max (sMx R c a b) (sD R c a b)
theorem sMx_s (R : pR) (c a b : Nat) : sMx R c a (b + 1) = max (sMx R c a b) (sD R c a b) := rfl
theorem sMx_le (hR : rOK R) (a : Nat) : ∀ b, sMx R c a b ≤ 999
  | 0 => Nat.zero_le _
  | b + 1 => by
    have := sMx_le hR a b
    have := (sD_ok hR c).2.2.1 a b
    rw [sMx_s]
    omega
def sSm (R : pR) (c : Nat) (ρ : Nat → Int32) (a : Nat) : Nat → Nat
  | 0 => 0
  | p + 1 => sSm R c ρ a p + sD R c (ρ p).toNatClampNeg a
theorem sSm_s (R : pR) (c : Nat) (ρ : Nat → Int32) (a p : Nat) : sSm R c ρ a (p + 1) = sSm R c ρ a p + sD R c (ρ p).toNatClampNeg a := rfl
theorem sSm_le (hR : rOK R) (a : Nat) : ∀ p, sSm R c ρ a p ≤ 999 * p
  | 0 => Nat.zero_le _
  | p + 1 => by
    have := sSm_le hR a p
    have := (sD_ok hR c).2.2.1 (ρ p).toNatClampNeg a
    rw [sSm_s]
    omega
def vMx (R : pR) (c : Nat) (a : Nat) : Nat := sMx R c a (rT R)
def vSm (R : pR) (c : Nat) (ρ : Nat → Int32) (a : Nat) : Nat := sSm R c ρ a (rP R)
theorem vMx_le (hR : rOK R) (a : Nat) : vMx R c a ≤ 9999 := by
  have := sMx_le (c := c) hR a (rT R)
  unfold vMx
  omega
theorem vSm_le (hR : rOK R) (a : Nat) : vSm R c ρ a ≤ 9999 := by
  have h6 := hR.p
  have := sSm_le (c := c) (ρ := ρ) hR a (rP R)
  unfold vSm
  omega
theorem c_vMx (hR : rOK R) (ho : rowOK R ρ) {g : xG} (h : jC_44_48 R ρ c g) {a : Nat} (ha : a < rT R) : f_X7_greatestFarFrom_42 (nI a) g = some (nI (vMx R c a)) := by
  have h7 := hR.t
  unfold f_X7_greatestFarFrom_42
  refine lpv (fun n i s => f_X7_greatestFarFrom_42_4 g n (nI a) s i) (fun b => nI (sMx R c a b)) (rT R) _ ?_ ?_ xN 0 (Nat.zero_le _) (by show rT R < 4000 + 0; omega)
  · intro n b hb
    have := sMx_le (c := c) hR a b
    have := (sD_ok hR c).2.2.1 a b
    simp only [f_X7_greatestFarFrom_42_4]
    rw [show f_X4_towns_3 g = nI (rT R) from h.1.1.1, if_neg (nI_ge hb (by omega)), c_between38 h.1 hR h.2.2.2.1 ha hb, mx_in (by omega) (by omega), nI_1]
    rfl
  · intro n
    simp only [f_X7_greatestFarFrom_42_4]
    rw [show f_X4_towns_3 g = nI (rT R) from h.1.1.1, if_pos (nI_le (Nat.le_refl _) (by omega))]
    rfl
theorem c_vSm (hR : rOK R) (ho : rowOK R ρ) {g : xG} (h : jC_44_48 R ρ c g) {a : Nat} (ha : a < rT R) : f_X7_allFarTo_42_48 (nI a) g = some (nI (vSm R c ρ a)) := by
  have h7 := hR.t
  have h6 := hR.p
  unfold f_X7_allFarTo_42_48
  refine lpv (fun n i s => f_X7_allFarTo_42_48_5 g n (nI a) s i) (fun b => nI (sSm R c ρ a b)) (rP R) _ ?_ ?_ xN 0 (Nat.zero_le _) (by show rP R < 4000 + 0; omega)
  · intro n p hp
    obtain ⟨⟨t, ht, et⟩, -⟩ := ho.2.1 p hp
    simp only [f_X7_allFarTo_42_48_5]
    rw [show f_X4_people_3 g = nI (rP R) from h.1.1.2.2.1, if_neg (nI_ge hp (by omega)), c_pl48 h.2.2.2.2 h6 hp, et, c_between38 h.1 hR h.2.2.2.1 ht ha, nI_add, nI_1, sSm_s, et, nI_clamp (by omega)]
  · intro n
    simp only [f_X7_allFarTo_42_48_5]
    rw [show f_X4_people_3 g = nI (rP R) from h.1.1.2.2.1, if_pos (nI_le (Nat.le_refl _) (by omega))]
    rfl
theorem r_vMx (hR : rOK R) (ho : rowOK R ρ) {g : xG} (h : jR L R ρ c g) {a : Nat} (ha : a < rT R) : f_X12_widestOf_60 (nI a) g = some (nI (vMx R c a)) := by
  have h7 := hR.t
  obtain ⟨⟨⟨hL, e18, eT, eR, eP, eC, eS⟩, -, -⟩, -, -, h4⟩ := id h
  unfold f_X12_widestOf_60
  refine lpv (fun n i s => f_X12_widestOf_60_4 g n (nI a) s i) (fun b => nI (sMx R c a b)) (rT R) _ ?_ ?_ xN 0 (Nat.zero_le _) (by show rT R < 4000 + 0; omega)
  · intro n b hb
    have m1 := sMx_le (c := c) hR a b
    have m2 := (sD_ok hR c).2.2.1 a b
    simp only [f_X12_widestOf_60_4]
    rw [e18, xg_in hL (by decide), nI_clamp (show L < 2 ^ 31 by omega), eT, if_neg (nI_ge hb (by omega)), i7', xg_in (by omega) (by decide), xg_in (by omega) (by decide), nI_clamp (by omega), h4 a b (by omega) (by omega), ite_le (by omega) (by omega), nI_1, sMx_s]
    by_cases z : sD R c a b ≤ sMx R c a b
    · rw [if_pos z, Nat.max_eq_left z]
    · rw [if_neg z, Nat.max_eq_right (by omega)]
  · intro n
    simp only [f_X12_widestOf_60_4]
    rw [e18, xg_in hL (by decide), nI_clamp (show L < 2 ^ 31 by omega), eT, if_pos (nI_le (Nat.le_refl _) (by omega))]
    rfl
theorem r_vSm (hR : rOK R) (ho : rowOK R ρ) {g : xG} (h : jR L R ρ c g) {a : Nat} (ha : a < rT R) : f_X12_sumTo_60 (nI a) g = some (nI (vSm R c ρ a)) := by
  have h7 := hR.t
  have h6 := hR.p
  obtain ⟨⟨⟨hL, e18, eT, eR, eP, eC, eS⟩, -, -⟩, -, h3, h4⟩ := id h
  unfold f_X12_sumTo_60
  refine lpv (fun n i s => f_X12_sumTo_60_4 g n (nI a) s i) (fun b => nI (sSm R c ρ a b)) (rP R) _ ?_ ?_ xN 0 (Nat.zero_le _) (by show rP R < 4000 + 0; omega)
  · intro n p hp
    obtain ⟨⟨t, ht, et⟩, -⟩ := ho.2.1 p hp
    simp only [f_X12_sumTo_60_4]
    rw [e18, xg_in hL (by decide), nI_clamp (show L < 2 ^ 31 by omega), eP, if_neg (nI_ge hp (by omega)), xg_in (by omega) (by decide), nI_clamp (show p < 2 ^ 31 by omega), h3 p (by omega), et, i7', xg_in (by omega) (by decide), nI_clamp (show 7 * t + a < 2 ^ 31 by omega), h4 t a (by omega) (by omega), nI_add, nI_1, sSm_s, et, nI_clamp (by omega)]
  · intro n
    simp only [f_X12_sumTo_60_4]
    rw [e18, xg_in hL (by decide), nI_clamp (show L < 2 ^ 31 by omega), eP, if_pos (nI_le (Nat.le_refl _) (by omega))]
    rfl
theorem c_centreL (hR : rOK R) (ho : rowOK R ρ) {g : xG} (h : jC_44_48 R ρ c g) : f_X7_centralTown_42 g = some (gS (sAm (vMx R c) (rT R))) := by
  have h7 := hR.t
  unfold f_X7_centralTown_42
  refine lpv (fun n i s => f_X7_centralTown_42_5 g n s i) (fun a => gS (sAm (vMx R c) a)) (rT R) _ ?_ ?_ xN 0 (Nat.zero_le _) (by show rT R < 4000 + 0; omega)
  · intro n a ha
    simp only [f_X7_centralTown_42_5]
    rw [show f_X4_towns_3 g = nI (rT R) from h.1.1.1, if_neg (nI_ge ha (by omega)), nI_1, sAm_s, c_vMx hR ho h ha, Option.bind_some]
    match e : sAm (vMx R c) a with
    | none =>
      rw [if_pos (show gS none < 0 by decide)]
      rfl
    | some q =>
      have hq := sAm_lt e
      have v1 := vMx_le (R := R) (c := c) hR a
      have v2 := vMx_le (R := R) (c := c) hR q
      rw [show gS (some q) = nI q from rfl, if_neg (nI_pos (by omega)), c_vMx hR ho h (show q < rT R by omega), Option.bind_some, ite_le (by omega) (by omega)]
      dsimp only
      by_cases z : vMx R c a < vMx R c q
      · rw [if_neg (by omega), if_pos z]
        rfl
      · rw [if_pos (by omega), if_neg z]
        rfl
  · intro n
    simp only [f_X7_centralTown_42_5]
    rw [show f_X4_towns_3 g = nI (rT R) from h.1.1.1, if_pos (nI_le (Nat.le_refl _) (by omega))]
theorem r_centreL (hR : rOK R) (ho : rowOK R ρ) {g : xG} (h : jR L R ρ c g) (x : Int32) : f_X12_leastTown_60_25 xN 0 x (-2) (-2) 0 g = some (if x = 0 then gS (sAm (vMx R c) (rT R)) else gV (vMx R c) (sAm (vMx R c) (rT R)), g) := by
  have h7 := hR.t
  obtain ⟨⟨⟨hL, e18, eT, eR, eP, eC, eS⟩, -, -⟩, -, -, -⟩ := id h
  refine lpv (fun n i (s : Int32 × Int32) => f_X12_leastTown_60_25 n 0 x s.1 s.2 i g) (fun a => (gS (sAm (vMx R c) a), gV (vMx R c) (sAm (vMx R c) a))) (rT R) _ ?_ ?_ xN 0 (Nat.zero_le _) (by show rT R < 4000 + 0; omega)
  · intro n a ha
    simp only [f_X12_leastTown_60_25]
    rw [e18, xg_in hL (by decide), nI_clamp (show L < 2 ^ 31 by omega), eT, if_neg (nI_ge ha (by omega)), if_pos trivial, r_vMx hR ho h ha, Option.bind_some, sAm_s]
    unfold f_X12_leastTown_60_58
    rw [nI_1]
    match e : sAm (vMx R c) a with
    | none =>
      rw [if_pos (show gS none < 0 by decide)]
      rfl
    | some q =>
      have hq := sAm_lt e
      have v1 := vMx_le (R := R) (c := c) hR a
      have v2 := vMx_le (R := R) (c := c) hR q
      rw [show gS (some q) = nI q from rfl, if_neg (nI_pos (by omega)), show gV (vMx R c) (some q) = nI (vMx R c q) from rfl, ite_lt (by omega) (by omega)]
      dsimp only
      by_cases z : vMx R c a < vMx R c q
      · rw [if_pos z, if_pos z]
        rfl
      · rw [if_neg z, if_neg z]
        rfl
  · intro n
    simp only [f_X12_leastTown_60_25]
    rw [e18, xg_in hL (by decide), nI_clamp (show L < 2 ^ 31 by omega), eT, if_pos (nI_le (Nat.le_refl _) (by omega))]
    by_cases z : x = 0
    · rw [if_pos z, if_pos z]
    · rw [if_neg z, if_neg z]
theorem q_centre (hR : rOK R) (ho : rowOK R ρ) (hc : ρ 36 = nI c) (hc2 : c < 1024) (x : Int32) : aQ R L c ρ (fV (f_X11_centre_0 x)) (f_X12_centre_60 x) := by
  have h7 := hR.t
  rcases aW x with ⟨n0, n1, ei⟩ | ⟨h01, ei⟩
  · refine ⟨-1, fun g h => fV_some ?_, fun g h => ⟨g, ?_⟩⟩
    · unfold f_X11_centre_0
      rw [if_neg n0, if_neg n1]
    · unfold f_X12_centre_60 f_X12_leastTown_60
      rw [ei, if_pos rfl]
      rfl
  refine ⟨if x = 0 then gS (sAm (vMx R c) (rT R)) else gV (vMx R c) (sAm (vMx R c) (rT R)), fun g h => fV_some ?_, fun g h => ?_⟩
  · have key : f_X11_centre_0_11 g x = some (if x = 0 then gS (sAm (vMx R c) (rT R)) else gV (vMx R c) (sAm (vMx R c) (rT R))) := by
      unfold f_X11_centre_0_11
      rw [c_centreL hR ho h, Option.bind_some]
      match e : sAm (vMx R c) (rT R) with
      | none =>
        rw [if_neg (show ¬ 0 ≤ gS none by decide)]
        by_cases z : x = 0
        · rw [if_pos z]; rfl
        · rw [if_neg z]; rfl
      | some q =>
        have hq := sAm_lt e
        rw [show gS (some q) = nI q from rfl, if_pos (nI_pos' (by omega)), c_vMx hR ho h hq, Option.bind_some]
        by_cases z : x = 0
        · rw [if_pos z, if_pos z]
        · rw [if_neg z, if_neg z]
          rfl
    unfold f_X11_centre_0
    rcases h01 with z | z
    · rw [if_pos z, key]
    · rw [if_neg (by rw [z]; decide), if_pos z, key]
  · obtain ⟨w1, e1, j1, -, -, -⟩ := r_copies hR h hc (by omega)
    exact ⟨w1, by unfold f_X12_centre_60 f_X12_leastTown_60; rw [ei, if_neg (by decide), e1, Option.bind_some, r_centreL hR ho j1]; rfl⟩
theorem c_meetL (hR : rOK R) (ho : rowOK R ρ) {g : xG} (h : jC_44_48 R ρ c g) : f_X7_meetingTown_42_48 g = some (gS (sAm (vSm R c ρ) (rT R))) := by
  have h7 := hR.t
  unfold f_X7_meetingTown_42_48
  refine lpv (fun n i s => f_X7_meetingTown_42_48_5 g n s i) (fun a => gS (sAm (vSm R c ρ) a)) (rT R) _ ?_ ?_ xN 0 (Nat.zero_le _) (by show rT R < 4000 + 0; omega)
  · intro n a ha
    simp only [f_X7_meetingTown_42_48_5]
    rw [show f_X4_towns_3 g = nI (rT R) from h.1.1.1, if_neg (nI_ge ha (by omega)), nI_1, sAm_s, c_vSm hR ho h ha, Option.bind_some]
    match e : sAm (vSm R c ρ) a with
    | none =>
      rw [if_pos (show gS none < 0 by decide)]
      rfl
    | some q =>
      have hq := sAm_lt e
      have v1 := vSm_le (R := R) (c := c) (ρ := ρ) hR a
      have v2 := vSm_le (R := R) (c := c) (ρ := ρ) hR q
      rw [show gS (some q) = nI q from rfl, if_neg (nI_pos (by omega)), c_vSm hR ho h (show q < rT R by omega), Option.bind_some, ite_le (by omega) (by omega)]
      dsimp only
      by_cases z : vSm R c ρ a < vSm R c ρ q
      · rw [if_neg (by omega), if_pos z]
        rfl
      · rw [if_pos (by omega), if_neg z]
        rfl
  · intro n
    simp only [f_X7_meetingTown_42_48_5]
    rw [show f_X4_towns_3 g = nI (rT R) from h.1.1.1, if_pos (nI_le (Nat.le_refl _) (by omega))]
theorem r_meetL (hR : rOK R) (ho : rowOK R ρ) {g : xG} (h : jR L R ρ c g) (x : Int32) : f_X12_leastTown_60_25 xN 1 x (-2) (-2) 0 g = some (if x = 0 then gS (sAm (vSm R c ρ) (rT R)) else gV (vSm R c ρ) (sAm (vSm R c ρ) (rT R)), g) := by
  have h7 := hR.t
  obtain ⟨⟨⟨hL, e18, eT, eR, eP, eC, eS⟩, -, -⟩, -, -, -⟩ := id h
  refine lpv (fun n i (s : Int32 × Int32) => f_X12_leastTown_60_25 n 1 x s.1 s.2 i g) (fun a => (gS (sAm (vSm R c ρ) a), gV (vSm R c ρ) (sAm (vSm R c ρ) a))) (rT R) _ ?_ ?_ xN 0 (Nat.zero_le _) (by show rT R < 4000 + 0; omega)
  · intro n a ha
    simp only [f_X12_leastTown_60_25]
    rw [e18, xg_in hL (by decide), nI_clamp (show L < 2 ^ 31 by omega), eT, if_neg (nI_ge ha (by omega)), if_neg (show ¬ (1 : Int32) = 0 by decide), r_vSm hR ho h ha, Option.bind_some, sAm_s]
    unfold f_X12_leastTown_60_58
    rw [nI_1]
    match e : sAm (vSm R c ρ) a with
    | none =>
      rw [if_pos (show gS none < 0 by decide)]
      rfl
    | some q =>
      have hq := sAm_lt e
      have v1 := vSm_le (R := R) (c := c) (ρ := ρ) hR a
      have v2 := vSm_le (R := R) (c := c) (ρ := ρ) hR q
      rw [show gS (some q) = nI q from rfl, if_neg (nI_pos (by omega)), show gV (vSm R c ρ) (some q) = nI (vSm R c ρ q) from rfl, ite_lt (by omega) (by omega)]
      dsimp only
      by_cases z : vSm R c ρ a < vSm R c ρ q
      · rw [if_pos z, if_pos z]
        rfl
      · rw [if_neg z, if_neg z]
        rfl
  · intro n
    simp only [f_X12_leastTown_60_25]
    rw [e18, xg_in hL (by decide), nI_clamp (show L < 2 ^ 31 by omega), eT, if_pos (nI_le (Nat.le_refl _) (by omega))]
    by_cases z : x = 0
    · rw [if_pos z, if_pos z]
    · rw [if_neg z, if_neg z]
theorem q_meet (hR : rOK R) (ho : rowOK R ρ) (hc : ρ 36 = nI c) (hc2 : c < 1024) (x : Int32) : aQ R L c ρ (fV (f_X11_meet_0 x)) (f_X12_meet_60 x) := by
  have h7 := hR.t
  rcases aW x with ⟨n0, n1, ei⟩ | ⟨h01, ei⟩
  · refine ⟨-1, fun g h => fV_some ?_, fun g h => ⟨g, ?_⟩⟩
    · unfold f_X11_meet_0
      rw [if_neg n0, if_neg n1]
    · unfold f_X12_meet_60 f_X12_leastTown_60
      rw [ei, if_pos rfl]
      rfl
  refine ⟨if x = 0 then gS (sAm (vSm R c ρ) (rT R)) else gV (vSm R c ρ) (sAm (vSm R c ρ) (rT R)), fun g h => fV_some ?_, fun g h => ?_⟩
  · have key : f_X11_meet_0_11 g x = some (if x = 0 then gS (sAm (vSm R c ρ) (rT R)) else gV (vSm R c ρ) (sAm (vSm R c ρ) (rT R))) := by
      unfold f_X11_meet_0_11
      rw [c_meetL hR ho h, Option.bind_some]
      match e : sAm (vSm R c ρ) (rT R) with
      | none =>
        rw [if_neg (show ¬ 0 ≤ gS none by decide)]
        by_cases z : x = 0
        · rw [if_pos z]; rfl
        · rw [if_neg z]; rfl
      | some q =>
        have hq := sAm_lt e
        rw [show gS (some q) = nI q from rfl, if_pos (nI_pos' (by omega)), c_vSm hR ho h hq, Option.bind_some]
        by_cases z : x = 0
        · rw [if_pos z, if_pos z]
        · rw [if_neg z, if_neg z]
          rfl
    unfold f_X11_meet_0
    rcases h01 with z | z
    · rw [if_pos z, key]
    · rw [if_neg (by rw [z]; decide), if_pos z, key]
  · obtain ⟨w1, e1, j1, -, -, -⟩ := r_copies hR h hc (by omega)
    exact ⟨w1, by unfold f_X12_meet_60 f_X12_leastTown_60; rw [ei, if_neg (by decide), e1, Option.bind_some, r_meetL hR ho j1]; rfl⟩
end
