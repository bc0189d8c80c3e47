/-! what both answer: towns, roads, people -/
theorem q_person {R : pR} {L c : Nat} {ρ : Nat → Int32} (hR : rOK R) (ho : rowOK R ρ) (hc : ρ 36 = nI c) (hc2 : c < 1024) (x y : Int32) : aQ R L c ρ (f_X11_person_0 x y) (f_X12_person_60 x y) := by
  rcases aP hR x with ⟨a1, a2⟩ | ⟨p, hp, rfl, a1, a2⟩
  · refine ⟨-1, fun g h => ⟨g, ?_⟩, fun g h => ⟨g, ?_⟩⟩
    · unfold f_X11_person_0
      rw [a1 g h.1, if_pos rfl]
    · unfold f_X12_person_60
      rw [a2 g L h.1, Option.bind_some, if_pos rfl]
  have h6 := hR.p
  have hoT := hR.o hp
  have h7 := hR.t
  by_cases k0 : y = 0
  · subst k0
    refine ⟨rH R p, fun g h => ⟨g, ?_⟩, fun g h => ?_⟩
    · unfold f_X11_person_0
      rw [a1 g h.1, if_neg (by decide), if_pos rfl, c_hon h.1 hR hp]
    · obtain ⟨w1, e1, j1, -, -, -⟩ := r_copies hR h hc (by omega)
      obtain ⟨⟨⟨hL, e18, eT, eR, eP, eC, eS⟩, -, h8⟩, -, h3, -⟩ := id j1
      refine ⟨w1, ?_⟩
      unfold f_X12_person_60
      rw [a2 g L h.1, Option.bind_some, if_neg (by decide), e1, Option.bind_some, if_pos rfl, e18, i6, xg_in (by omega) (by decide), nI_clamp (by omega), (h8 p hp).1]
  by_cases k1 : y = 1
  · subst k1
    refine ⟨nI (rO R p), fun g h => ⟨g, ?_⟩, fun g h => ?_⟩
    · unfold f_X11_person_0
      rw [a1 g h.1, if_neg (by decide), if_neg k0, if_pos rfl, c_home h.1 hR hp]
    · obtain ⟨w1, e1, j1, -, -, -⟩ := r_copies hR h hc (by omega)
      obtain ⟨⟨⟨hL, e18, eT, eR, eP, eC, eS⟩, -, h8⟩, -, h3, -⟩ := id j1
      refine ⟨w1, ?_⟩
      unfold f_X12_person_60
      rw [a2 g L h.1, Option.bind_some, if_neg (by decide), e1, Option.bind_some, if_neg k0, if_pos rfl, r_home j1.1 hR hp, Option.bind_some]
  by_cases k2 : y = 2
  · subst k2
    refine ⟨ρ p, fun g h => ⟨g, ?_⟩, fun g h => ?_⟩
    · unfold f_X11_person_0
      rw [a1 g h.1, if_neg (by decide), if_neg k0, if_neg k1, if_pos rfl, c_pl48 h.2.2.2.2 h6 hp]
    · obtain ⟨w1, e1, j1, -, -, -⟩ := r_copies hR h hc (by omega)
      obtain ⟨⟨⟨hL, e18, eT, eR, eP, eC, eS⟩, -, h8⟩, -, h3, -⟩ := id j1
      refine ⟨w1, ?_⟩
      unfold f_X12_person_60
      rw [a2 g L h.1, Option.bind_some, if_neg (by decide), e1, Option.bind_some, if_neg k0, if_neg k1, if_pos rfl, xg_in (by omega) (by decide), nI_clamp (by omega), h3 p (by omega)]
  by_cases k3 : y = 3
  · subst k3
    refine ⟨ρ (6 + p), fun g h => ⟨g, ?_⟩, fun g h => ?_⟩
    · unfold f_X11_person_0
      rw [a1 g h.1, if_neg (by decide), if_neg k0, if_neg k1, if_neg k2, if_pos rfl, c_go48 h.2.2.2.2 h6 hp]
    · obtain ⟨w1, e1, j1, -, -, -⟩ := r_copies hR h hc (by omega)
      obtain ⟨⟨⟨hL, e18, eT, eR, eP, eC, eS⟩, -, h8⟩, -, h3, -⟩ := id j1
      refine ⟨w1, ?_⟩
      unfold f_X12_person_60
      rw [a2 g L h.1, Option.bind_some, if_neg (by decide), e1, Option.bind_some, if_neg k0, if_neg k1, if_neg k2, if_pos rfl, a6, xg_in (by omega) (by decide), nI_clamp (by omega), h3 (6 + p) (by omega)]
  by_cases k4 : y = 4
  · subst k4
    refine ⟨ρ (12 + p), fun g h => ⟨g, ?_⟩, fun g h => ?_⟩
    · unfold f_X11_person_0
      rw [a1 g h.1, if_neg (by decide), if_neg k0, if_neg k1, if_neg k2, if_neg k3, if_pos rfl, c_wa48 h.2.2.2.2 h6 hp]
    · obtain ⟨w1, e1, j1, -, -, -⟩ := r_copies hR h hc (by omega)
      obtain ⟨⟨⟨hL, e18, eT, eR, eP, eC, eS⟩, -, h8⟩, -, h3, -⟩ := id j1
      refine ⟨w1, ?_⟩
      unfold f_X12_person_60
      rw [a2 g L h.1, Option.bind_some, if_neg (by decide), e1, Option.bind_some, if_neg k0, if_neg k1, if_neg k2, if_neg k3, if_pos rfl, a12, xg_in (by omega) (by decide), nI_clamp (by omega), h3 (12 + p) (by omega)]
  by_cases k5 : y = 5
  · subst k5
    refine ⟨ρ (18 + p), fun g h => ⟨g, ?_⟩, fun g h => ?_⟩
    · unfold f_X11_person_0
      rw [a1 g h.1, if_neg (by decide), if_neg k0, if_neg k1, if_neg k2, if_neg k3, if_neg k4, if_pos rfl, c_ru48 h.2.2.2.2 h6 hp]
    · obtain ⟨w1, e1, j1, -, -, -⟩ := r_copies hR h hc (by omega)
      obtain ⟨⟨⟨hL, e18, eT, eR, eP, eC, eS⟩, -, h8⟩, -, h3, -⟩ := id j1
      refine ⟨w1, ?_⟩
      unfold f_X12_person_60
      rw [a2 g L h.1, Option.bind_some, if_neg (by decide), e1, Option.bind_some, if_neg k0, if_neg k1, if_neg k2, if_neg k3, if_neg k4, if_pos rfl, a18, xg_in (by omega) (by decide), nI_clamp (by omega), h3 (18 + p) (by omega)]
  by_cases k6 : y = 6
  · subst k6
    refine ⟨ρ (24 + p), fun g h => ⟨g, ?_⟩, fun g h => ?_⟩
    · unfold f_X11_person_0
      rw [a1 g h.1, if_neg (by decide), if_neg k0, if_neg k1, if_neg k2, if_neg k3, if_neg k4, if_neg k5, if_pos rfl, c_pu48 h.2.2.2.2 h6 hp]
    · obtain ⟨w1, e1, j1, -, -, -⟩ := r_copies hR h hc (by omega)
      obtain ⟨⟨⟨hL, e18, eT, eR, eP, eC, eS⟩, -, h8⟩, -, h3, -⟩ := id j1
      refine ⟨w1, ?_⟩
      unfold f_X12_person_60
      rw [a2 g L h.1, Option.bind_some, if_neg (by decide), e1, Option.bind_some, if_neg k0, if_neg k1, if_neg k2, if_neg k3, if_neg k4, if_neg k5, if_pos rfl, a24, xg_in (by omega) (by decide), nI_clamp (by omega), h3 (24 + p) (by omega)]
  by_cases k7 : y = 7
  · subst k7
    refine ⟨ρ (30 + p), fun g h => ⟨g, ?_⟩, fun g h => ?_⟩
    · unfold f_X11_person_0
      rw [a1 g h.1, if_neg (by decide), if_neg k0, if_neg k1, if_neg k2, if_neg k3, if_neg k4, if_neg k5, if_neg k6, if_pos rfl, c_isBarred48 h.2.2.2.2 h6 hp]
      rcases (ho.2.1 p hp).2.2.1 with e | e
      · rw [e, if_neg (show ¬ (0 : Int32) = 1 by decide), if_pos rfl]
      · rw [e, if_pos rfl, if_neg (by decide)]
    · obtain ⟨w1, e1, j1, -, -, -⟩ := r_copies hR h hc (by omega)
      obtain ⟨⟨⟨hL, e18, eT, eR, eP, eC, eS⟩, -, h8⟩, -, h3, -⟩ := id j1
      refine ⟨w1, ?_⟩
      unfold f_X12_person_60
      rw [a2 g L h.1, Option.bind_some, if_neg (by decide), e1, Option.bind_some, if_neg k0, if_neg k1, if_neg k2, if_neg k3, if_neg k4, if_neg k5, if_neg k6, if_pos rfl, a30, xg_in (by omega) (by decide), nI_clamp (by omega), h3 (30 + p) (by omega)]
  by_cases k8 : y = 8
  · subst k8
    refine ⟨vFar R c p, fun g h => ⟨g, ?_⟩, fun g h => ?_⟩
    · unfold f_X11_person_0
      rw [a1 g h.1, if_neg (by decide), if_neg k0, if_neg k1, if_neg k2, if_neg k3, if_neg k4, if_neg k5, if_neg k6, if_neg k7, if_pos rfl, c_trueFar hR h.1 h.2.2.2.1 hp]
    · obtain ⟨w1, e1, j1, -, -, -⟩ := r_copies hR h hc (by omega)
      refine ⟨w1, ?_⟩
      unfold f_X12_person_60
      rw [a2 g L h.1, Option.bind_some, if_neg (by decide), e1, Option.bind_some, if_neg k0, if_neg k1, if_neg k2, if_neg k3, if_neg k4, if_neg k5, if_neg k6, if_neg k7, if_pos rfl, r_farOf j1 hR hp]
      rfl
  by_cases k9 : y = 9
  · subst k9
    refine ⟨sL R ρ c p 0, fun g h => ?_, fun g h => ?_⟩
    · obtain ⟨w2, e2, -⟩ := c_lawNow_44_48 hR h hp (k := 0) (by decide)
      refine ⟨w2, ?_⟩
      unfold f_X11_person_0
      rw [a1 g h.1, if_neg (by decide), if_neg k0, if_neg k1, if_neg k2, if_neg k3, if_neg k4, if_neg k5, if_neg k6, if_neg k7, if_neg k8, if_pos rfl, show f_X1_lawNow_44_48 (nI p) 0 g = some (sL R ρ c p 0, w2) from e2]
      rfl
    · obtain ⟨w1, e1, j1, -, -, -⟩ := r_copies hR h hc (by omega)
      obtain ⟨w2, e2, -⟩ := r_claimOf j1 hR hp
      refine ⟨w2, ?_⟩
      unfold f_X12_person_60
      rw [a2 g L h.1, Option.bind_some, if_neg (by decide), e1, Option.bind_some, if_neg k0, if_neg k1, if_neg k2, if_neg k3, if_neg k4, if_neg k5, if_neg k6, if_neg k7, if_neg k8, if_pos rfl, e2]
      rfl
  by_cases k10 : y = 10
  · subst k10
    refine ⟨sL R ρ c p 1, fun g h => ?_, fun g h => ?_⟩
    · obtain ⟨w2, e2, -⟩ := c_lawNow_44_48 hR h hp (k := 1) (by decide)
      refine ⟨w2, ?_⟩
      unfold f_X11_person_0
      rw [a1 g h.1, if_neg (by decide), if_neg k0, if_neg k1, if_neg k2, if_neg k3, if_neg k4, if_neg k5, if_neg k6, if_neg k7, if_neg k8, if_neg k9, if_pos rfl, show f_X1_lawNow_44_48 (nI p) 1 g = some (sL R ρ c p 1, w2) from e2]
      rfl
    · obtain ⟨w1, e1, j1, -, -, -⟩ := r_copies hR h hc (by omega)
      obtain ⟨w2, e2, -⟩ := r_strokes j1 hR hp (nI (sD R c (rO R p) (rC R)))
      refine ⟨w2, ?_⟩
      unfold f_X12_person_60
      rw [a2 g L h.1, Option.bind_some, if_neg (by decide), e1, Option.bind_some, if_neg k0, if_neg k1, if_neg k2, if_neg k3, if_neg k4, if_neg k5, if_neg k6, if_neg k7, if_neg k8, if_neg k9, if_pos rfl, r_farOf j1 hR hp, Option.bind_some, e2]
      rfl
  by_cases k11 : y = 11
  · subst k11
    refine ⟨sL R ρ c p 2, fun g h => ?_, fun g h => ?_⟩
    · obtain ⟨w2, e2, -⟩ := c_lawNow_44_48 hR h hp (k := 2) (by decide)
      refine ⟨w2, ?_⟩
      unfold f_X11_person_0
      rw [a1 g h.1, if_neg (by decide), if_neg k0, if_neg k1, if_neg k2, if_neg k3, if_neg k4, if_neg k5, if_neg k6, if_neg k7, if_neg k8, if_neg k9, if_neg k10, if_pos rfl, show f_X1_lawNow_44_48 (nI p) 2 g = some (sL R ρ c p 2, w2) from e2]
      rfl
    · obtain ⟨w1, e1, j1, -, -, -⟩ := r_copies hR h hc (by omega)
      obtain ⟨w2, e2, -⟩ := r_gifts j1 hR hp
      refine ⟨w2, ?_⟩
      unfold f_X12_person_60
      rw [a2 g L h.1, Option.bind_some, if_neg (by decide), e1, Option.bind_some, if_neg k0, if_neg k1, if_neg k2, if_neg k3, if_neg k4, if_neg k5, if_neg k6, if_neg k7, if_neg k8, if_neg k9, if_neg k10, if_pos rfl, e2]
      rfl
  by_cases k12 : y = 12
  · subst k12
    refine ⟨sL R ρ c p 3, fun g h => ?_, fun g h => ?_⟩
    · obtain ⟨w2, e2, -⟩ := c_lawNow_44_48 hR h hp (k := 3) (by decide)
      refine ⟨w2, ?_⟩
      unfold f_X11_person_0
      rw [a1 g h.1, if_neg (by decide), if_neg k0, if_neg k1, if_neg k2, if_neg k3, if_neg k4, if_neg k5, if_neg k6, if_neg k7, if_neg k8, if_neg k9, if_neg k10, if_neg k11, if_pos rfl, show f_X1_lawNow_44_48 (nI p) 3 g = some (sL R ρ c p 3, w2) from e2]
      rfl
    · obtain ⟨w1, e1, j1, -, -, -⟩ := r_copies hR h hc (by omega)
      obtain ⟨w2, e2, -⟩ := r_doubts j1 hR hp
      refine ⟨w2, ?_⟩
      unfold f_X12_person_60
      rw [a2 g L h.1, Option.bind_some, if_neg (by decide), e1, Option.bind_some, if_neg k0, if_neg k1, if_neg k2, if_neg k3, if_neg k4, if_neg k5, if_neg k6, if_neg k7, if_neg k8, if_neg k9, if_neg k10, if_neg k11, if_pos rfl, e2]
      rfl
  refine ⟨-1, fun g h => ⟨g, ?_⟩, fun g h => ?_⟩
  · unfold f_X11_person_0
    rw [a1 g h.1, if_neg (by decide), if_neg k0, if_neg k1, if_neg k2, if_neg k3, if_neg k4, if_neg k5, if_neg k6, if_neg k7, if_neg k8, if_neg k9, if_neg k10, if_neg k11, if_neg k12]
  · obtain ⟨w1, e1, j1, -, -, -⟩ := r_copies hR h hc (by omega)
    refine ⟨w1, ?_⟩
    unfold f_X12_person_60
    rw [a2 g L h.1, Option.bind_some, if_neg (by decide), e1, Option.bind_some, if_neg k0, if_neg k1, if_neg k2, if_neg k3, if_neg k4, if_neg k5, if_neg k6, if_neg k7, if_neg k8, if_neg k9, if_neg k10, if_neg k11, if_neg k12]
theorem q_road {R : pR} {L c : Nat} {ρ : Nat → Int32} (hR : rOK R) (ho : rowOK R ρ) (hc : ρ 36 = nI c) (hc2 : c < 1024) (x y : Int32) : aQ R L c ρ (fun g => some (f_X11_road_0 x y g, g)) (f_X12_road_60 x y) := by
  rcases aR hR x with ⟨a1, a2⟩ | ⟨p, hp, rfl, a1, a2⟩
  · refine ⟨-1, fun g h => ⟨g, ?_⟩, fun g h => ⟨g, ?_⟩⟩
    · unfold f_X11_road_0
      dsimp only
      rw [a1 g h.1, if_pos rfl]
    · unfold f_X12_road_60
      rw [a2 g L h.1, Option.bind_some, if_pos rfl]
  have h10 := hR.r
  by_cases k0 : y = 0
  · subst k0
    refine ⟨nI (rA R p), fun g h => ⟨g, ?_⟩, fun g h => ?_⟩
    · unfold f_X11_road_0
      dsimp only
      rw [a1 g h.1, if_neg (by decide), if_pos rfl, c_one h.1 hR hp]
    · obtain ⟨w1, e1, j1, -, -, -⟩ := r_copies hR h hc (by omega)
      obtain ⟨⟨⟨hL, e18, eT, eR, eP, eC, eS⟩, h8, -⟩, -, h3, -⟩ := id j1
      refine ⟨w1, ?_⟩
      unfold f_X12_road_60
      rw [a2 g L h.1, Option.bind_some, if_neg (by decide), e1, Option.bind_some, if_pos rfl, e18, i10, xg_in (by omega) (by decide), nI_clamp (by omega), (h8 p hp).1]
  by_cases k1 : y = 1
  · subst k1
    refine ⟨nI (rB R p), fun g h => ⟨g, ?_⟩, fun g h => ?_⟩
    · unfold f_X11_road_0
      dsimp only
      rw [a1 g h.1, if_neg (by decide), if_neg k0, if_pos rfl, c_oth h.1 hR hp]
    · obtain ⟨w1, e1, j1, -, -, -⟩ := r_copies hR h hc (by omega)
      obtain ⟨⟨⟨hL, e18, eT, eR, eP, eC, eS⟩, h8, -⟩, -, h3, -⟩ := id j1
      refine ⟨w1, ?_⟩
      unfold f_X12_road_60
      rw [a2 g L h.1, Option.bind_some, if_neg (by decide), e1, Option.bind_some, if_neg k0, if_pos rfl, e18, i10, xg_in (by omega) (by decide), nI_clamp (by omega), (h8 p hp).2.1]
  by_cases k2 : y = 2
  · subst k2
    refine ⟨nI (rM R p), fun g h => ⟨g, ?_⟩, fun g h => ?_⟩
    · unfold f_X11_road_0
      dsimp only
      rw [a1 g h.1, if_neg (by decide), if_neg k0, if_neg k1, if_pos rfl, c_mil h.1 hR hp]
    · obtain ⟨w1, e1, j1, -, -, -⟩ := r_copies hR h hc (by omega)
      obtain ⟨⟨⟨hL, e18, eT, eR, eP, eC, eS⟩, h8, -⟩, -, h3, -⟩ := id j1
      refine ⟨w1, ?_⟩
      unfold f_X12_road_60
      rw [a2 g L h.1, Option.bind_some, if_neg (by decide), e1, Option.bind_some, if_neg k0, if_neg k1, if_pos rfl, e18, i10, xg_in (by omega) (by decide), nI_clamp (by omega), (h8 p hp).2.2]
  by_cases k3 : y = 3
  · subst k3
    refine ⟨if c.testBit p then 0 else 1, fun g h => ⟨g, ?_⟩, fun g h => ?_⟩
    · unfold f_X11_road_0
      dsimp only
      rw [a1 g h.1, if_neg (by decide), if_neg k0, if_neg k1, if_neg k2, if_pos rfl, c_isOpen38 h.1 hR h.2.2.1 (by omega) hp]
      by_cases e : c.testBit p = true
      · rw [if_pos e, if_pos rfl]
      · rw [if_neg e, if_neg (by decide)]
    · obtain ⟨w1, e1, j1, -, -, -⟩ := r_copies hR h hc (by omega)
      refine ⟨w1, ?_⟩
      unfold f_X12_road_60
      rw [a2 g L h.1, Option.bind_some, if_neg (by decide), e1, Option.bind_some, if_neg k0, if_neg k1, if_neg k2, if_pos rfl, r_isOpen j1 hc (by omega) (by omega), Option.bind_some]
      by_cases e : c.testBit p = true
      · rw [if_pos e, if_pos rfl]
      · rw [if_neg e, if_neg (by decide)]
  refine ⟨-1, fun g h => ⟨g, ?_⟩, fun g h => ?_⟩
  · unfold f_X11_road_0
    dsimp only
    rw [a1 g h.1, if_neg (by decide), if_neg k0, if_neg k1, if_neg k2, if_neg k3]
  · obtain ⟨w1, e1, j1, -, -, -⟩ := r_copies hR h hc (by omega)
    refine ⟨w1, ?_⟩
    unfold f_X12_road_60
    rw [a2 g L h.1, Option.bind_some, if_neg (by decide), e1, Option.bind_some, if_neg k0, if_neg k1, if_neg k2, if_neg k3]
def sOr (R : pR) (c t : Nat) : Nat → Bool := fun r => !c.testBit r && decide (rA R r = t ∨ rB R r = t)
theorem c_openRoads {R : pR} {c : Nat} {g : xG} (hR : rOK R) (h : rmC g R) (hc : g.1 38 2 = nI c) (hc2 : c < 1024) {t : Nat} (ht : t < rT R) : f_X7_openRoadsOf_42 (nI t) g = some (nI (bq (sOr R c t) (rR R))) := by
  have h10 := hR.r
  have h7 := hR.t
  unfold f_X7_openRoadsOf_42
  refine lpv (fun n i a => f_X7_openRoadsOf_42_4 g n (nI t) a i) (fun i => nI (bq (sOr R c t) i)) (rR R) _ ?_ ?_ xN 0 (Nat.zero_le _) (by show rR R < 4000 + 0; omega)
  · intro n r hr
    have hoth := oth_lt (t := t) hR hr
    simp only [f_X7_openRoadsOf_42_4]
    rw [show f_X4_roads_3 g = nI (rR R) from h.1.2.1, if_neg (nI_ge hr (by omega)), c_isOpen38 h hR hc (by omega) hr, c_across h hR hr (by omega), bi_bit r (by omega), bq_or, nI_1, bq_s]
    by_cases e : c.testBit r = true
    · rw [if_pos e, if_pos rfl, if_neg (by simp [sOr, e])]
    · rw [if_neg e, if_neg (by decide)]
      by_cases z : rA R r = t ∨ rB R r = t
      · rw [if_pos z, if_neg (nI_pos (by omega)), if_pos (by simp [sOr, e, z])]
      · rw [if_neg z, if_pos (by decide), if_neg (by simp [sOr, e, z])]
  · intro n
    simp only [f_X7_openRoadsOf_42_4]
    rw [show f_X4_roads_3 g = nI (rR R) from h.1.2.1, if_pos (nI_le (Nat.le_refl _) (by omega))]
theorem r_roadBits {R : pR} {L c : Nat} {ρ : Nat → Int32} {g : xG} (hR : rOK R) (h : jR L R ρ c g) (hc : ρ 36 = nI c) (hc2 : c < 1024) {t : Nat} (ht : t < rT R) : f_X12_roadBits_60 (nI t) g = some (nI (bq (sOr R c t) (rR R))) := by
  have h10 := hR.r
  have h7 := hR.t
  obtain ⟨⟨⟨hL, e18, eT, eR, eP, eC, eS⟩, -, -⟩, -, -, -⟩ := id h
  unfold f_X12_roadBits_60
  refine lpv (fun n i a => f_X12_roadBits_60_4 g n (nI t) a i) (fun i => nI (bq (sOr R c t) i)) (rR R) _ ?_ ?_ xN 0 (Nat.zero_le _) (by show rR R < 4000 + 0; omega)
  · intro n r hr
    simp only [f_X12_roadBits_60_4]
    rw [e18, xg_in hL (by decide), nI_clamp (show L < 2 ^ 31 by omega), eR, if_neg (nI_ge hr (by omega)), r_isOpen h hc (by omega) (by omega), Option.bind_some, r_isEnd h.1 hR hr (by omega), bi_sh r (by omega), bq_or, nI_1, bq_s]
    by_cases e : c.testBit r = true
    · rw [if_pos e, if_pos rfl, if_neg (by simp [sOr, e])]
    · rw [if_neg e, if_neg (by decide), Option.bind_some]
      by_cases z : rA R r = t ∨ rB R r = t
      · rw [if_pos z, if_neg (by decide), if_pos (by simp [sOr, e, z])]
      · rw [if_neg z, if_pos rfl, if_neg (by simp [sOr, e, z])]
  · intro n
    simp only [f_X12_roadBits_60_4]
    rw [e18, xg_in hL (by decide), nI_clamp (show L < 2 ^ 31 by omega), eR, if_pos (nI_le (Nat.le_refl _) (by omega))]
theorem r_whoAt {R : pR} {L c : Nat} {ρ : Nat → Int32} {g : xG} (hR : rOK R) (h : jR L R ρ c g) (x : Int32) : f_X12_whoAt_60 x g = some (nI (bq (fun p => decide (ρ p = x)) (rP R))) := by
  have h6 := hR.p
  obtain ⟨⟨⟨hL, e18, eT, eR, eP, eC, eS⟩, -, -⟩, -, h3, -⟩ := id h
  unfold f_X12_whoAt_60
  refine lpv (fun n i a => f_X12_whoAt_60_4 g n x a i) (fun i => nI (bq (fun p => decide (ρ p = x)) i)) (rP R) _ ?_ ?_ xN 0 (Nat.zero_le _) (by show rP R < 4000 + 0; omega)
  · intro n r hr
    simp only [f_X12_whoAt_60_4]
    rw [e18, xg_in hL (by decide), nI_clamp (show L < 2 ^ 31 by omega), eP, if_neg (nI_ge hr (by omega)), xg_in (by omega) (by decide), nI_clamp (by omega), h3 r (by omega), bi_sh r (by omega), bq_or, nI_1, bq_s]
    by_cases e : ρ r = x
    · rw [if_pos e, if_pos (decide_eq_true e)]
    · rw [if_neg e, if_neg (by rw [decide_eq_false e]; decide)]
  · intro n
    simp only [f_X12_whoAt_60_4]
    rw [e18, xg_in hL (by decide), nI_clamp (show L < 2 ^ 31 by omega), eP, if_pos (nI_le (Nat.le_refl _) (by omega))]
theorem q_town {R : pR} {L c : Nat} {ρ : Nat → Int32} (hR : rOK R) (ho : rowOK R ρ) (hc : ρ 36 = nI c) (hc2 : c < 1024) (x y : Int32) : aQ R L c ρ (fV (f_X11_town_0 x y)) (f_X12_town_60 x y) := by
  rcases aT hR x with ⟨a1, a2⟩ | ⟨t, ht, rfl, a1, a2⟩
  · refine ⟨-1, fun g h => fV_some ?_, fun g h => ⟨g, ?_⟩⟩
    · unfold f_X11_town_0
      rw [a1 g h.1, if_pos rfl]
    · unfold f_X12_town_60
      rw [a2 g L h.1, Option.bind_some, if_pos rfl]
  have h7 := hR.t
  have h6 := hR.p
  have hcap := hR.cT ht
  by_cases k0 : y = 0
  · subst k0
    refine ⟨if t = rC R then 1 else 0, fun g h => fV_some ?_, fun g h => ?_⟩
    · unfold f_X11_town_0
      rw [a1 g h.1, if_neg (by decide), if_pos rfl, show f_X4_capital_3 g = nI (rC R) from h.1.1.2.2.2.1, ite_eqn (by omega) (by omega)]
      by_cases e : t = rC R
      · rw [if_pos e, if_pos e]
      · rw [if_neg e, if_neg e]
    · obtain ⟨w1, e1, j1, -, -, -⟩ := r_copies hR h hc (by omega)
      obtain ⟨⟨⟨hL, e18, eT, eR, eP, eC, eS⟩, -, -⟩, -, -, -⟩ := id j1
      refine ⟨w1, ?_⟩
      unfold f_X12_town_60
      rw [a2 g L h.1, Option.bind_some, if_neg (by decide), e1, Option.bind_some, if_pos rfl, e18, xg_in hL (by decide), nI_clamp (show L < 2 ^ 31 by omega), eC, ite_eqn (by omega) (by omega)]
      by_cases e : t = rC R
      · rw [if_pos e.symm, if_pos e]
      · rw [if_neg (fun z => e z.symm), if_neg e]
  by_cases k1 : y = 1
  · subst k1
    refine ⟨nI (bq (sOr R c t) (rR R)), fun g h => fV_some ?_, fun g h => ?_⟩
    · unfold f_X11_town_0
      rw [a1 g h.1, if_neg (by decide), if_neg k0, if_pos rfl, c_openRoads hR h.1 h.2.2.1 hc2 ht]
      rfl
    · obtain ⟨w1, e1, j1, -, -, -⟩ := r_copies hR h hc (by omega)
      refine ⟨w1, ?_⟩
      unfold f_X12_town_60
      rw [a2 g L h.1, Option.bind_some, if_neg (by decide), e1, Option.bind_some, if_neg k0, if_pos rfl, r_roadBits hR j1 hc hc2 ht]
      rfl
  by_cases k2 : y = 2
  · subst k2
    refine ⟨nI (bq (fun p => decide (ρ p = nI t)) (rP R)), fun g h => fV_some ?_, fun g h => ?_⟩
    · unfold f_X11_town_0
      rw [a1 g h.1, if_neg (by decide), if_neg k0, if_neg k1, if_pos rfl, show f_X4_people_3 g = nI (rP R) from h.1.1.2.2.1, c_peopleIn48 h.2.2.2.2 h6]
      rfl
    · obtain ⟨w1, e1, j1, -, -, -⟩ := r_copies hR h hc (by omega)
      refine ⟨w1, ?_⟩
      unfold f_X12_town_60
      rw [a2 g L h.1, Option.bind_some, if_neg (by decide), e1, Option.bind_some, if_neg k0, if_neg k1, if_pos rfl, r_whoAt hR j1]
      rfl
  by_cases k3 : y = 3
  · subst k3
    refine ⟨nI (sD R c t (rC R)), fun g h => fV_some ?_, fun g h => ?_⟩
    · unfold f_X11_town_0
      rw [a1 g h.1, if_neg (by decide), if_neg k0, if_neg k1, if_neg k2, if_pos rfl, show f_X4_capital_3 g = nI (rC R) from h.1.1.2.2.2.1, c_between38 h.1 hR h.2.2.2.1 ht hcap]
    · obtain ⟨w1, e1, j1, -, -, -⟩ := r_copies hR h hc (by omega)
      refine ⟨w1, ?_⟩
      unfold f_X12_town_60
      rw [a2 g L h.1, Option.bind_some, if_neg (by decide), e1, Option.bind_some, if_neg k0, if_neg k1, if_neg k2, if_pos rfl, r_farFrom j1 hR (by omega)]
      rfl
  refine ⟨-1, fun g h => fV_some ?_, fun g h => ?_⟩
  · unfold f_X11_town_0
    rw [a1 g h.1, if_neg (by decide), if_neg k0, if_neg k1, if_neg k2, if_neg k3]
  · obtain ⟨w1, e1, j1, -, -, -⟩ := r_copies hR h hc (by omega)
    refine ⟨w1, ?_⟩
    unfold f_X12_town_60
    rw [a2 g L h.1, Option.bind_some, if_neg (by decide), e1, Option.bind_some, if_neg k0, if_neg k1, if_neg k2, if_neg k3]
/-! the stranger -/
def sSg (v : Nat → Int32) : Nat → Option Nat
  | 0 => none
  | p + 1 => match sSg v p with
    | none => some p
    | some q => if v p ≤ v q then some q else some p
def gS : Option Nat → Int32
  | none => -2
  | some q => nI q
theorem sSg_s (v : Nat → Int32) (p : Nat) : sSg v (p + 1) = match sSg v p with | none => some p | some q => if v p ≤ v q then some q else some p := rfl
theorem sSg_lt {v : Nat → Int32} : ∀ {p q : Nat}, sSg v p = some q → q < p
  | 0, _, h => by cases h
  | p + 1, q, h => by
    rw [sSg_s] at h
    match e : sSg v p with
    | none => rw [e] at h; cases h; omega
    | some q' =>
      rw [e] at h
      have := sSg_lt e
      dsimp only at h
      split at h
      · cases h; omega
      · cases h; omega
theorem c_stranger {R : pR} {c : Nat} {g : xG} (hR : rOK R) (h : rmC g R) (hm : Mt 39 (sD R c) g) : f_X1_strangerOf_44 g = some (gS (sSg (vFar R c) (rP R))) := by
  have h6 := hR.p
  unfold f_X1_strangerOf_44
  refine lpv (fun n i a => f_X1_strangerOf_44_5 g n a i) (fun p => gS (sSg (vFar R c) p)) (rP R) _ ?_ ?_ xN 0 (Nat.zero_le _) (by show rP R < 4000 + 0; omega)
  · intro n p hp
    simp only [f_X1_strangerOf_44_5]
    rw [show f_X4_people_3 g = nI (rP R) from h.1.2.2.1, if_neg (nI_ge hp (by omega)), nI_1, sSg_s, c_trueFar hR h hm hp]
    match e : sSg (vFar R c) p with
    | none =>
      rw [if_pos (show gS none < 0 by decide)]
      rfl
    | some q =>
      have hq := sSg_lt e
      rw [show gS (some q) = nI q from rfl, if_neg (nI_pos (by omega)), c_trueFar hR h hm (show q < rP R by omega)]
      dsimp only
      by_cases z : vFar R c p ≤ vFar R c q
      · rw [if_pos z, if_pos z]
        rfl
      · rw [if_neg z, if_neg z]
        rfl
  · intro n
    simp only [f_X1_strangerOf_44_5]
    rw [show f_X4_people_3 g = nI (rP R) from h.1.2.2.1, if_pos (nI_le (Nat.le_refl _) (by omega))]
theorem r_stranger {R : pR} {L c : Nat} {ρ : Nat → Int32} {g : xG} (hR : rOK R) (h : jR L R ρ c g) (x : Int32) : f_X12_stranger_60_20 xN x (-2) 0 g = some (match sSg (vFar R c) (rP R) with | none => -2 | some q => if x = 0 then nI q else vFar R c q, g) := by
  have h6 := hR.p
  obtain ⟨⟨⟨hL, e18, eT, eR, eP, eC, eS⟩, -, -⟩, -, h3, -⟩ := id h
  refine lpv (fun n i a => f_X12_stranger_60_20 n x a i g) (fun p => gS (sSg (vFar R c) p)) (rP R) _ ?_ ?_ xN 0 (Nat.zero_le _) (by show rP R < 4000 + 0; omega)
  · intro n p hp
    simp only [f_X12_stranger_60_20]
    rw [e18, xg_in hL (by decide), nI_clamp (show L < 2 ^ 31 by omega), eP, if_neg (nI_ge hp (by omega)), nI_1, sSg_s, r_farOf h hR hp, Option.bind_some]
    match e : sSg (vFar R c) p with
    | none =>
      rw [if_pos (show gS none < 0 by decide)]
      rfl
    | some q =>
      have hq := sSg_lt e
      rw [show gS (some q) = nI q from rfl, if_neg (nI_pos (by omega)), r_farOf h hR (show q < rP R by omega), Option.bind_some]
      dsimp only
      by_cases z : vFar R c p ≤ vFar R c q
      · rw [if_pos (show nI (sD R c (rO R p) (rC R)) ≤ nI (sD R c (rO R q) (rC R)) from z), if_pos z]
        rfl
      · rw [if_neg (show ¬ nI (sD R c (rO R p) (rC R)) ≤ nI (sD R c (rO R q) (rC R)) from z), if_neg z]
        rfl
  · intro n
    simp only [f_X12_stranger_60_20]
    rw [e18, xg_in hL (by decide), nI_clamp (show L < 2 ^ 31 by omega), eP, if_pos (nI_le (Nat.le_refl _) (by omega))]
    match e : sSg (vFar R c) (rP R) with
    | none =>
      rw [if_pos (show gS none < 0 by decide)]
      rfl
    | some q =>
      have hq := sSg_lt e
      rw [show gS (some q) = nI q from rfl, if_neg (nI_pos (by omega)), r_farOf h hR (show q < rP R by omega), Option.bind_some]
      dsimp only
      by_cases z : x = 0
      · rw [if_pos z, if_pos z]
      · rw [if_neg z, if_neg z]
        rfl
theorem q_stranger {R : pR} {L c : Nat} {ρ : Nat → Int32} (hR : rOK R) (ho : rowOK R ρ) (hc : ρ 36 = nI c) (hc2 : c < 1024) (x : Int32) : aQ R L c ρ (fV (f_X11_stranger_0 x)) (f_X12_stranger_60 x) := by
  have h6 := hR.p
  rcases aW x with ⟨n0, n1, ei⟩ | ⟨h01, ei⟩
  · refine ⟨-1, fun g h => fV_some ?_, fun g h => ⟨g, ?_⟩⟩
    · unfold f_X11_stranger_0
      rw [if_neg n0, if_neg n1]
    · unfold f_X12_stranger_60
      rw [ei, if_pos rfl]
  refine ⟨match sSg (vFar R c) (rP R) with | none => -2 | some q => if x = 0 then nI q else vFar R c q, fun g h => fV_some ?_, fun g h => ?_⟩
  · have key : f_X11_stranger_0_11 g x = some (match sSg (vFar R c) (rP R) with | none => -2 | some q => if x = 0 then nI q else vFar R c q) := by
      unfold f_X11_stranger_0_11
      rw [c_stranger hR h.1 h.2.2.2.1, Option.bind_some]
      match e : sSg (vFar R c) (rP R) with
      | none =>
        rw [if_neg (show ¬ 0 ≤ gS none by decide)]
      | some q =>
        have hq := sSg_lt e
        rw [show gS (some q) = nI q from rfl, if_pos (nI_pos' (by omega)), c_trueFar hR h.1 h.2.2.2.1 hq]
        dsimp only
        by_cases z : x = 0
        · rw [if_pos z, if_pos z]
        · rw [if_neg z, if_neg z]
    unfold f_X11_stranger_0
    rcases h01 with z | z
    · rw [if_pos z, key]
    · rw [if_neg (by rw [z]; decide), if_pos z, key]
  · obtain ⟨w1, e1, j1, -, -, -⟩ := r_copies hR h hc (by omega)
    exact ⟨w1, by unfold f_X12_stranger_60; rw [ei, if_neg (by decide), e1, Option.bind_some, r_stranger hR j1]⟩
