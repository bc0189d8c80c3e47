/-! what both answer: asked of the people -/
def aQ (R : pR) (L c : Nat) (ρ : Nat → Int32) (F G : xG → Option (Int32 × xG)) : Prop := ∃ v, (∀ g, jC_44_48 R ρ c g → ∃ w, F g = some (v, w)) ∧ (∀ g, mR R L ρ g → ∃ w, G g = some (v, w))
def fV (f : xG → Option Int32) : xG → Option (Int32 × xG) := fun g => (f g).map fun v => (v, g)
theorem fV_some {f : xG → Option Int32} {g : xG} {v : Int32} (h : f g = some v) : ∃ w, fV f g = some (v, w) := ⟨g, by unfold fV; rw [h]; rfl⟩
theorem bi_sh0 : ∀ i, i < 31 → (0 : Int32) <<< (nI i &&& 31) = 0 := by decide +kernel
theorem or_0 (a : Nat) : nI a ||| (0 : Int32) = nI a := by
  rw [show (0 : Int32) = nI 0 from rfl, nb_or, Nat.or_zero]
section
variable {R : pR} {L c : Nat} {ρ : Nat → Int32}
theorem c_trust (hR : rOK R) (ho : rowOK R ρ) (hc2 : c < 1024) {g : xG} (h : jC_44_48 R ρ c g) {n : Nat} (hn : n ≤ 60) : ∃ w, f_X11_goOnTrusting_0 (nI n) g = some w ∧ jC_44_50 R (sGo R c (rS R) false ρ n) c w ∧ jC_44_48 R ρ c w := by
  obtain ⟨w1, e1, j1, -⟩ := c_copy hR h
  obtain ⟨w2, e2, j2⟩ := c_goTrust hR j1 (by omega) ho hn
  have e : f_X11_goOnTrusting_0 (nI n) g = some w2 := by
    unfold f_X11_goOnTrusting_0
    rw [e1, xl_e, e2]
  exact ⟨w2, e, j2, h.ag ((fr_X11_goOnTrusting_0 w2 e).agr rfl)⟩
theorem c_doubt (hR : rOK R) (ho : rowOK R ρ) (hc2 : c < 1024) {g : xG} (h : jC_44_48 R ρ c g) (seed : Int32) {n : Nat} (hn : n ≤ 60) : ∃ w, f_X11_goOnDoubting_0 (nI n) seed g = some w ∧ jC_44_50 R (sGo R c seed true ρ n) c w ∧ jC_44_48 R ρ c w := by
  obtain ⟨w1, e1, j1, -⟩ := c_copy hR h
  obtain ⟨w2, e2, j2⟩ := c_goDoubt hR j1 (by omega) ho seed hn
  have e : f_X11_goOnDoubting_0 (nI n) seed g = some w2 := by
    unfold f_X11_goOnDoubting_0
    rw [e1, xl_e, e2]
  exact ⟨w2, e, j2, h.ag ((fr_X11_goOnDoubting_0 w2 e).agr rfl)⟩
theorem q_ringer (hR : rOK R) (ho : rowOK R ρ) (hc : ρ 36 = nI c) (hc2 : c < 1024) : aQ R L c ρ f_X11_ringer_0 f_X12_ringer_60 := by
  refine ⟨gN (sRg R ρ (vCl R ρ c) (rP R)), fun g h => ?_, fun g h => ?_⟩
  · obtain ⟨w, e, -⟩ := c_ringerOf_44_48 hR h ho
    exact ⟨w, by unfold f_X11_ringer_0; rw [e]; rfl⟩
  · obtain ⟨w1, e1, j1, -, -, -⟩ := r_copies hR h hc (by omega)
    obtain ⟨w2, e2, -⟩ := r_ringerNow j1 hR
    exact ⟨w2, by unfold f_X12_ringer_60; rw [e1, Option.bind_some, e2]; rfl⟩
theorem q_truth (hR : rOK R) (ho : rowOK R ρ) (hc : ρ 36 = nI c) (hc2 : c < 1024) : aQ R L c ρ (fV f_X11_truth_0) f_X12_truth_60 := by
  refine ⟨gN (sRg R ρ (vFar R c) (rP R)), fun g h => fV_some ?_, fun g h => ?_⟩
  · unfold f_X11_truth_0
    rw [c_truth hR h ho]
    rfl
  · obtain ⟨w1, e1, j1, -, -, -⟩ := r_copies hR h hc (by omega)
    exact ⟨w1, by unfold f_X12_truth_60; rw [e1, Option.bind_some, r_truth j1 hR]; rfl⟩
theorem q_far (hR : rOK R) (ho : rowOK R ρ) (hc : ρ 36 = nI c) (hc2 : c < 1024) (x y : Int32) : aQ R L c ρ (fun g => some (f_X11_far_0 x y g, g)) (f_X12_far_60 x y) := by
  rcases aT hR x with ⟨a1, a2⟩ | ⟨a, ha, rfl, a1, a2⟩
  · refine ⟨-1, fun g h => ⟨g, ?_⟩, fun g h => ⟨g, ?_⟩⟩
    · unfold f_X11_far_0
      dsimp only
      rw [a1 g h.1, if_pos rfl]
    · unfold f_X12_far_60
      rw [a2 g L h.1, Option.bind_some, if_pos rfl]
  rcases aT hR y with ⟨b1, b2⟩ | ⟨b, hb, rfl, b1, b2⟩
  · refine ⟨-1, fun g h => ⟨g, ?_⟩, fun g h => ⟨g, ?_⟩⟩
    · unfold f_X11_far_0
      dsimp only
      rw [a1 g h.1, if_neg (by decide), b1 g h.1, if_pos rfl]
    · unfold f_X12_far_60
      rw [a2 g L h.1, Option.bind_some, if_neg (by decide), b2 g L h.1, Option.bind_some, if_pos rfl]
  have h7 := hR.t
  refine ⟨nI (sD R c a b), fun g h => ⟨g, ?_⟩, fun g h => ?_⟩
  · unfold f_X11_far_0
    dsimp only
    rw [a1 g h.1, if_neg (by decide), b1 g h.1, if_neg (by decide), c_between38 h.1 hR h.2.2.2.1 ha hb]
  · obtain ⟨w1, e1, j1, -, -, -⟩ := r_copies hR h hc (by omega)
    refine ⟨w1, ?_⟩
    unfold f_X12_far_60
    rw [a2 g L h.1, Option.bind_some, if_neg (by decide), b2 g L h.1, Option.bind_some, if_neg (by decide), e1, Option.bind_some, i7', xg_in (by omega) (by decide), nI_clamp (by omega), j1.2.2.2 a b (by omega) (by omega)]
def sLi (R : pR) (ρ : Nat → Int32) (c : Nat) : Nat → Bool := fun p => !decide (sL R ρ c p 0 = vFar R c p)
theorem q_liars (hR : rOK R) (ho : rowOK R ρ) (hc : ρ 36 = nI c) (hc2 : c < 1024) : aQ R L c ρ f_X11_liars_0 f_X12_liars_60 := by
  have h6 := hR.p
  refine ⟨nI (bq (sLi R ρ c) (rP R)), fun g h => ?_, fun g h => ?_⟩
  · unfold f_X11_liars_0
    refine lp (fun n i (s : Int32 × xG) => f_X11_liars_0_4 n s.1 i s.2) (fun p s => s.1 = nI (bq (sLi R ρ c) p) ∧ jC_44_48 R ρ c s.2) (rP R) (fun o => ∃ w, o = some (nI (bq (sLi R ρ c) (rP R)), w)) ?_ ?_ xN 0 ((0 : Int32), g) (Nat.zero_le _) (by show rP R < 4000 + 0; omega) ⟨rfl, h⟩
    · rintro n p ⟨b, w⟩ hp ⟨e1, j⟩
      dsimp only at e1 j ⊢
      refine .inl ?_
      obtain ⟨w2, q1, q2⟩ := c_lies_48 hR j hp
      simp only [f_X11_liars_0_4]
      rw [show f_X4_people_3 w = nI (rP R) from j.1.1.2.2.1, if_neg (nI_ge hp (by omega)), q1, Option.bind_some, bi_bit p (by omega), e1, bq_or, nI_1, bq_s]
      dsimp only
      by_cases z : sL R ρ c p 0 = vFar R c p
      · rw [if_pos z, if_pos rfl, if_neg (by simp [sLi, z])]
        exact ⟨(_, w2), rfl, rfl, j.ag (q2.agr rfl)⟩
      · rw [if_neg z, if_neg (by decide), if_pos (by simp [sLi, z])]
        exact ⟨(_, w2), rfl, rfl, j.ag (q2.agr rfl)⟩
    · rintro n ⟨b, w⟩ ⟨e1, j⟩
      dsimp only at e1 j ⊢
      simp only [f_X11_liars_0_4]
      rw [show f_X4_people_3 w = nI (rP R) from j.1.1.2.2.1, if_pos (nI_le (Nat.le_refl _) (by omega)), e1]
      exact ⟨w, rfl⟩
  · obtain ⟨w1, e1, j1, -, -, -⟩ := r_copies hR h hc (by omega)
    unfold f_X12_liars_60
    rw [e1, Option.bind_some]
    refine lp (fun n i (s : Int32 × xG) => f_X12_liars_60_8 n s.1 i s.2) (fun p s => s.1 = nI (bq (sLi R ρ c) p) ∧ jR L R ρ c s.2) (rP R) (fun o => ∃ w, o = some (nI (bq (sLi R ρ c) (rP R)), w)) ?_ ?_ xN 0 ((0 : Int32), w1) (Nat.zero_le _) (by show rP R < 4000 + 0; omega) ⟨rfl, j1⟩
    · rintro n p ⟨b, w⟩ hp ⟨e1, j⟩
      dsimp only at e1 j ⊢
      refine .inl ?_
      obtain ⟨w2, q1, q2⟩ := r_lies j hR hp
      obtain ⟨⟨⟨hL, e18, eT, eR, eP, eC, eS⟩, -, -⟩, -, -, -⟩ := id j
      simp only [f_X12_liars_60_8]
      rw [e18, xg_in hL (by decide), nI_clamp (show L < 2 ^ 31 by omega), eP, if_neg (nI_ge hp (by omega)), q1, Option.bind_some, bi_sh p (by omega), e1, bq_or, nI_1, bq_s]
      dsimp only
      by_cases z : sL R ρ c p 0 = vFar R c p
      · rw [if_pos z, if_pos rfl, if_neg (by simp [sLi, z])]
        exact ⟨(_, w2), rfl, rfl, j.ag (q2.agr rfl)⟩
      · rw [if_neg z, if_neg (by decide), if_pos (by simp [sLi, z])]
        exact ⟨(_, w2), rfl, rfl, j.ag (q2.agr rfl)⟩
    · rintro n ⟨b, w⟩ ⟨e1, j⟩
      dsimp only at e1 j ⊢
      obtain ⟨⟨⟨hL, e18, eT, eR, eP, eC, eS⟩, -, -⟩, -, -, -⟩ := id j
      simp only [f_X12_liars_60_8]
      rw [e18, xg_in hL (by decide), nI_clamp (show L < 2 ^ 31 by omega), eP, if_pos (nI_le (Nat.le_refl _) (by omega)), e1]
      exact ⟨w, rfl⟩
/-! when one rings -/
def sRn (R : pR) (c : Nat) (ρ : Nat → Int32) (n : Nat) : Int32 := gN (sRg R (sGo R c (rS R) false ρ n) (vCl R (sGo R c (rS R) false ρ n) c) (rP R))
def sWh (R : pR) (c : Nat) (ρ : Nat → Int32) (p : Nat) : Nat → Nat → Int32
  | 0, _ => -2
  | k + 1, n => if sRn R c ρ n = nI p then nI n else sWh R c ρ p k (n + 1)
theorem sWh_s (R : pR) (c : Nat) (ρ : Nat → Int32) (p k n : Nat) : sWh R c ρ p (k + 1) n = if sRn R c ρ n = nI p then nI n else sWh R c ρ p k (n + 1) := rfl
theorem c_fst1 (hR : rOK R) (ho : rowOK R ρ) (hc2 : c < 1024) {g : xG} (h : jC_44_50 R ρ c g) {p : Nat} (hp : p < rP R) : ∃ w, f_X11_firstNoonOf_0 (nI p) g = some (sWh R c ρ p 61 0, w) := by
  have h6 := hR.p
  unfold f_X11_firstNoonOf_0
  refine lp (fun m i (s : xG) => f_X11_firstNoonOf_0_2 m (nI p) i s) (fun n s => sWh R c ρ p (61 - n) n = sWh R c ρ p 61 0 ∧ jC_44_50 R (sGo R c (rS R) false ρ n) c s) 61 (fun o => ∃ w, o = some (sWh R c ρ p 61 0, w)) ?_ ?_ xN 0 g (Nat.zero_le _) (by decide) ⟨rfl, h⟩
  · rintro m n w hn ⟨e, j⟩
    obtain ⟨w2, q1, q2⟩ := c_noon_50 hR j (by omega) (sGo_ok hR ho n) (rS R) false (dd := 0) rfl
    have e38 : f_X6_get_50 1 w2 = sRn R c ρ n := (c_lr50 q2.2.2.2.2).trans (sNoon_38 hR)
    rw [show 61 - n = (60 - n) + 1 by omega, sWh_s] at e
    simp only [f_X11_firstNoonOf_0_2]
    rw [if_neg (show ¬ (60 : Int32) < nI n from nI_nlt (a := 60) (by omega) (by decide)), show f_X4_seed_3 w = rS R from j.1.1.2.2.2.2, q1, Option.bind_some, e38, nI_1]
    by_cases z : sRn R c ρ n = nI p
    · rw [if_pos z] at e ⊢
      rw [e]
      exact .inr ⟨w2, rfl⟩
    · rw [if_neg z] at e ⊢
      refine .inl ⟨w2, rfl, ?_, q2⟩
      rw [show 61 - (n + 1) = 60 - n by omega]
      exact e
  · rintro m w ⟨e, j⟩
    simp only [f_X11_firstNoonOf_0_2]
    rw [if_pos (show (60 : Int32) < nI 61 by decide), ← e]
    exact ⟨w, rfl⟩
theorem r_fst1 (hR : rOK R) (ho : rowOK R ρ) (hc : ρ 36 = nI c) (hc2 : c < 1024) {g : xG} (h : jR L R ρ c g) (hse : g.1 60 52 = rS R) (hd : g.1 60 53 = 1) {p : Nat} (hp : p < rP R) : ∃ w, f_X12_whenRings_60 (nI p) g = some (sWh R c ρ p 61 0, w) := by
  have h6 := hR.p
  unfold f_X12_whenRings_60
  refine lp (fun m i (s : xG) => f_X12_whenRings_60_2 m (nI p) i s) (fun n s => sWh R c ρ p (61 - n) n = sWh R c ρ p 61 0 ∧ jR L R (sGo R c (rS R) false ρ n) c s ∧ s.1 60 52 = rS R ∧ s.1 60 53 = 1) 61 (fun o => ∃ w, o = some (sWh R c ρ p 61 0, w)) ?_ ?_ xN 0 g (Nat.zero_le _) (by decide) ⟨rfl, h, hse, hd⟩
  · rintro m n w hn ⟨e, j, i52, i53⟩
    obtain ⟨w1, p1, p2⟩ := r_ringerNow j hR
    have j1 := j.ag (p2.agr (C := kJr) rfl)
    obtain ⟨w2, q1, q2, q3, q4⟩ := r_noon j1 hR (sGo_ok hR ho n) ((sGo_36 hR n).trans hc) (by omega) (((p2 60 52 rfl).1).trans i52) (d := false) (((p2 60 53 rfl).1).trans i53)
    rw [show 61 - n = (60 - n) + 1 by omega, sWh_s] at e
    simp only [f_X12_whenRings_60_2]
    rw [if_neg (show ¬ (60 : Int32) < nI n from nI_nlt (a := 60) (by omega) (by decide)), show f_X12_ringerNow_60 w = some (sRn R c ρ n, w1) from p1, Option.bind_some]
    dsimp only
    rw [q1, Option.bind_some, nI_1]
    by_cases z : sRn R c ρ n = nI p
    · rw [if_pos z] at e ⊢
      rw [e]
      exact .inr ⟨w1, rfl⟩
    · rw [if_neg z] at e ⊢
      refine .inl ⟨w2, rfl, ?_, q2, q3, q4⟩
      rw [show 61 - (n + 1) = 60 - n by omega]
      exact e
  · rintro m w ⟨e, j, -, -⟩
    simp only [f_X12_whenRings_60_2]
    rw [if_pos (show (60 : Int32) < nI 61 by decide), ← e]
    exact ⟨w, rfl⟩
theorem q_when (hR : rOK R) (ho : rowOK R ρ) (hc : ρ 36 = nI c) (hc2 : c < 1024) (x : Int32) : aQ R L c ρ (f_X11_when_0 x) (f_X12_when_60 x) := by
  rcases aP hR x with ⟨a1, a2⟩ | ⟨p, hp, rfl, a1, a2⟩
  · refine ⟨-1, fun g h => ⟨g, ?_⟩, fun g h => ⟨g, ?_⟩⟩
    · unfold f_X11_when_0
      rw [a1 g h.1, if_pos rfl]
    · unfold f_X12_when_60
      rw [a2 g L h.1, Option.bind_some, if_pos rfl]
  refine ⟨sWh R c ρ p 61 0, fun g h => ?_, fun g h => ?_⟩
  · obtain ⟨w1, e1, j1, -⟩ := c_copy hR h
    obtain ⟨w2, e2⟩ := c_fst1 hR ho hc2 j1 hp
    exact ⟨w2, by unfold f_X11_when_0; rw [a1 g h.1, if_neg (by decide), e1, xl_e, e2]; rfl⟩
  · obtain ⟨w1, e1, j1, i52, i53, -⟩ := r_still hR h hc (by omega)
    obtain ⟨w2, e2⟩ := r_fst1 hR ho hc hc2 j1 i52 i53 hp
    exact ⟨w2, by unfold f_X12_when_60; rw [a2 g L h.1, Option.bind_some, if_neg (by decide), e1, Option.bind_some, e2]; rfl⟩
theorem q_soonest (hR : rOK R) (ho : rowOK R ρ) (hc : ρ 36 = nI c) (hc2 : c < 1024) (x : Int32) : aQ R L c ρ (f_X11_soonest_0 x) (f_X12_soonest_60 x) := by
  rcases aP hR x with ⟨a1, a2⟩ | ⟨p, hp, rfl, a1, a2⟩
  · refine ⟨-1, fun g h => ⟨g, ?_⟩, fun g h => ⟨g, ?_⟩⟩
    · unfold f_X11_soonest_0
      rw [a1 g h.1, if_pos rfl]
    · unfold f_X12_soonest_60
      rw [a2 g L h.1, Option.bind_some, if_pos rfl]
  have h6 := hR.p
  have hcap := hR.cT (hR.o hp)
  obtain ⟨V, hV⟩ : ∃ V, V = if ρ p = nI (rC R) then (-2 : Int32) else nI (rC R) := ⟨_, rfl⟩
  have ho' : rowOK R (upd ρ (6 + p) V) := rowOK_go hR ho hp (by
    rw [hV]
    split
    · exact .inl rfl
    · exact .inr ⟨_, hcap, rfl⟩)
  have hc' : upd ρ (6 + p) V 36 = nI c := (if_neg (by omega)).trans hc
  refine ⟨sWh R c (upd ρ (6 + p) V) p 61 0, fun g h => ?_, fun g h => ?_⟩
  · obtain ⟨w1, e1, j1, k1⟩ := c_copy hR h
    have j2 : jC_44_50 R (upd ρ (6 + p) V) c (xupd w1.1 51 (11 + p) V, w1.2) := j1.up (sx_go j1.2.2.2.2 h6 hp)
    obtain ⟨w2, e2⟩ := c_fst1 hR ho' hc2 j2 hp
    refine ⟨w2, ?_⟩
    unfold f_X11_soonest_0
    rw [a1 g h.1, if_neg (by decide), e1, xl_e, c_pl48 k1.2.2.2.2 h6 hp, show f_X4_capital_3 w1 = nI (rC R) from k1.1.1.2.2.2.1]
    by_cases z : ρ p = nI (rC R)
    · rw [if_pos z] at hV
      rw [if_pos z]
      unfold f_X11_soonest_0_48
      rw [if_neg (by decide), xl_e, show f_X6_setOf_50 (nI p) 11 (-2) w1 = _ from c_set50 (k := 11) (by omega), ← hV, e2]
      rfl
    · rw [if_neg z] at hV
      rw [if_neg z]
      unfold f_X11_soonest_0_48
      rw [if_pos rfl, xl_e, show f_X4_capital_3 w1 = nI (rC R) from k1.1.1.2.2.2.1, show f_X6_setOf_50 (nI p) 11 (nI (rC R)) w1 = _ from c_set50 (k := 11) (by omega), ← hV, e2]
      rfl
  · obtain ⟨w1, e1, j1, i52, i53, -⟩ := r_still hR h hc (by omega)
    have j2 : jR L R (upd ρ (6 + p) V) c (xupd w1.1 94 (6 + p) V, w1.2) := j1.up
    obtain ⟨w2, e2⟩ := r_fst1 hR ho' hc' hc2 j2 i52 i53 hp
    obtain ⟨⟨⟨hL, e18, eT, eR, eP, eC, eS⟩, -, -⟩, -, -, -⟩ := id j1
    have e3 : f_X12_sendsIn_60 (nI p) w1 = some (xupd w1.1 94 (6 + p) V, w1.2) := by
      unfold f_X12_sendsIn_60
      rw [r_isThere j1 (by omega), Option.bind_some, a6, nI_clamp (show 6 + p < 2 ^ 31 by omega), e18, xg_in hL (by decide), nI_clamp (show L < 2 ^ 31 by omega), eC, xg_in' (show 6 + p < 40 by omega) (by decide), xg_in' (show 6 + p < 40 by omega) (by decide), hV]
      by_cases z : ρ p = nI (rC R)
      · rw [if_pos z, if_neg (by decide), if_pos z]
      · rw [if_neg z, if_pos rfl, if_neg z]
    exact ⟨w2, by unfold f_X12_soonest_60; rw [a2 g L h.1, Option.bind_some, if_neg (by decide), e1, Option.bind_some, e3, Option.bind_some, e2]; rfl⟩
theorem q_often (hR : rOK R) (ho : rowOK R ρ) (hc : ρ 36 = nI c) (hc2 : c < 1024) (x y : Int32) : aQ R L c ρ (f_X11_often_0 x y) (f_X12_often_60 x y) := by
  rcases aP hR x with ⟨a1, a2⟩ | ⟨p, hp, rfl, a1, a2⟩
  · refine ⟨-1, fun g h => ⟨g, ?_⟩, fun g h => ⟨g, ?_⟩⟩
    · unfold f_X11_often_0
      rw [a1 g h.1, if_pos rfl]
    · unfold f_X12_often_60
      rw [a2 g L h.1, Option.bind_some, if_pos rfl]
  rcases aN y with ⟨b1, b2⟩ | ⟨n, hn, rfl, b1, b2⟩
  · refine ⟨-1, fun g h => ⟨g, ?_⟩, fun g h => ⟨g, ?_⟩⟩
    · unfold f_X11_often_0
      rw [a1 g h.1, if_neg (by decide), b1, if_pos rfl]
    · unfold f_X12_often_60
      rw [a2 g L h.1, Option.bind_some, if_neg (by decide), b2, if_pos rfl]
  have h6 := hR.p
  refine ⟨sGo R c (rS R) false ρ n (18 + p) - ρ (18 + p), fun g h => ?_, fun g h => ?_⟩
  · obtain ⟨w1, e1, j1, k1⟩ := c_trust hR ho hc2 h hn
    exact ⟨w1, by unfold f_X11_often_0; rw [a1 g h.1, if_neg (by decide), b1, if_neg (by decide), e1, Option.bind_some, c_ru50 j1.2.2.2.2 h6 hp, c_ru48 k1.2.2.2.2 h6 hp]⟩
  · obtain ⟨w1, e1, j1, i52, i53, k1⟩ := r_still hR h hc (by omega)
    obtain ⟨w2, e2, j2, f2⟩ := r_goes j1 hR ho hc (by omega) i52 (d := false) i53 hn
    have k2 := k1.ag (f2.agr (C := kR) rfl)
    exact ⟨w2, by unfold f_X12_often_60; rw [a2 g L h.1, Option.bind_some, if_neg (by decide), b2, if_neg (by decide), e1, Option.bind_some, e2, Option.bind_some, a18, xg_in (by omega) (by decide), xg_in (by omega) (by decide), nI_clamp (by omega), j2.2.2.1 (18 + p) (by omega), k2.2.2 (18 + p) (by omega)]⟩
theorem q_rings (hR : rOK R) (ho : rowOK R ρ) (hc : ρ 36 = nI c) (hc2 : c < 1024) (y : Int32) : aQ R L c ρ (f_X11_rings_0 y) (f_X12_rings_60 y) := by
  rcases aN y with ⟨b1, b2⟩ | ⟨n, hn, rfl, b1, b2⟩
  · refine ⟨-1, fun g h => ⟨g, ?_⟩, fun g h => ⟨g, ?_⟩⟩
    · unfold f_X11_rings_0
      rw [b1, if_pos rfl]
    · unfold f_X12_rings_60
      rw [b2, if_pos rfl]
  refine ⟨sRn R c ρ n, fun g h => ?_, fun g h => ?_⟩
  · obtain ⟨w1, e1, j1, k1⟩ := c_trust hR ho hc2 h hn
    obtain ⟨w2, e2, -⟩ := c_ringerOf_44_50 hR j1 (sGo_ok hR ho n)
    exact ⟨w2, by unfold f_X11_rings_0; rw [b1, if_neg (by decide), e1, Option.bind_some, e2]; rfl⟩
  · obtain ⟨w1, e1, j1, i52, i53, k1⟩ := r_still hR h hc (by omega)
    obtain ⟨w2, e2, j2, f2⟩ := r_goes j1 hR ho hc (by omega) i52 (d := false) i53 hn
    obtain ⟨w3, e3, -⟩ := r_ringerNow j2 hR
    exact ⟨w3, by unfold f_X12_rings_60; rw [b2, if_neg (by decide), e1, Option.bind_some, e2, Option.bind_some, e3]; rfl⟩
theorem q_then (hR : rOK R) (ho : rowOK R ρ) (hc : ρ 36 = nI c) (hc2 : c < 1024) (x y : Int32) : aQ R L c ρ (f_X11_then_0 x y) (f_X12_then_60 x y) := by
  rcases aP hR x with ⟨a1, a2⟩ | ⟨p, hp, rfl, a1, a2⟩
  · refine ⟨-1, fun g h => ⟨g, ?_⟩, fun g h => ⟨g, ?_⟩⟩
    · unfold f_X11_then_0
      rw [a1 g h.1, if_pos rfl]
    · unfold f_X12_then_60
      rw [a2 g L h.1, Option.bind_some, if_pos rfl]
  rcases aN y with ⟨b1, b2⟩ | ⟨n, hn, rfl, b1, b2⟩
  · refine ⟨-1, fun g h => ⟨g, ?_⟩, fun g h => ⟨g, ?_⟩⟩
    · unfold f_X11_then_0
      rw [a1 g h.1, if_neg (by decide), b1, if_pos rfl]
    · unfold f_X12_then_60
      rw [a2 g L h.1, Option.bind_some, if_neg (by decide), b2, if_pos rfl]
  have h6 := hR.p
  refine ⟨sGo R c (rS R) true ρ n p, fun g h => ?_, fun g h => ?_⟩
  · obtain ⟨w1, e1, j1, k1⟩ := c_doubt hR ho hc2 h (rS R) hn
    exact ⟨w1, by unfold f_X11_then_0; rw [a1 g h.1, if_neg (by decide), b1, if_neg (by decide), show f_X4_seed_3 g = rS R from h.1.1.2.2.2.2, e1, Option.bind_some, c_pl50 j1.2.2.2.2 h6 hp]⟩
  · obtain ⟨w1, e1, j1, i52, i53, k1⟩ := r_copies hR h hc (by omega)
    obtain ⟨w2, e2, j2, f2⟩ := r_goes j1 hR ho hc (by omega) i52 (d := true) i53 hn
    exact ⟨w2, by unfold f_X12_then_60; rw [a2 g L h.1, Option.bind_some, if_neg (by decide), b2, if_neg (by decide), e1, Option.bind_some, e2, Option.bind_some, xg_in (by omega) (by decide), nI_clamp (by omega), j2.2.2.1 p (by omega)]⟩
theorem q_rungIn (hR : rOK R) (ho : rowOK R ρ) (hc : ρ 36 = nI c) (hc2 : c < 1024) (x y : Int32) : aQ R L c ρ (f_X11_rungIn_0 x y) (f_X12_rungIn_60 x y) := by
  rcases aP hR x with ⟨a1, a2⟩ | ⟨p, hp, rfl, a1, a2⟩
  · refine ⟨-1, fun g h => ⟨g, ?_⟩, fun g h => ⟨g, ?_⟩⟩
    · unfold f_X11_rungIn_0
      rw [a1 g h.1, if_pos rfl]
    · unfold f_X12_rungIn_60
      rw [a2 g L h.1, Option.bind_some, if_pos rfl]
  rcases aN y with ⟨b1, b2⟩ | ⟨n, hn, rfl, b1, b2⟩
  · refine ⟨-1, fun g h => ⟨g, ?_⟩, fun g h => ⟨g, ?_⟩⟩
    · unfold f_X11_rungIn_0
      rw [a1 g h.1, if_neg (by decide), b1, if_pos rfl]
    · unfold f_X12_rungIn_60
      rw [a2 g L h.1, Option.bind_some, if_neg (by decide), b2, if_pos rfl]
  have h6 := hR.p
  refine ⟨sGo R c (rS R) true ρ n (18 + p), fun g h => ?_, fun g h => ?_⟩
  · obtain ⟨w1, e1, j1, k1⟩ := c_doubt hR ho hc2 h (rS R) hn
    exact ⟨w1, by unfold f_X11_rungIn_0; rw [a1 g h.1, if_neg (by decide), b1, if_neg (by decide), show f_X4_seed_3 g = rS R from h.1.1.2.2.2.2, e1, Option.bind_some, c_ru50 j1.2.2.2.2 h6 hp]⟩
  · obtain ⟨w1, e1, j1, i52, i53, k1⟩ := r_copies hR h hc (by omega)
    obtain ⟨w2, e2, j2, f2⟩ := r_goes j1 hR ho hc (by omega) i52 (d := true) i53 hn
    exact ⟨w2, by unfold f_X12_rungIn_60; rw [a2 g L h.1, Option.bind_some, if_neg (by decide), b2, if_neg (by decide), e1, Option.bind_some, e2, Option.bind_some, a18, xg_in (by omega) (by decide), nI_clamp (by omega), j2.2.2.1 (18 + p) (by omega)]⟩
theorem r_barred {g : xG} (hR : rOK R) (ho : rowOK R ρ) (h : jR L R ρ c g) : f_X12_barredBits_60 g = some (nI (bq (fun p => decide (ρ (30 + p) = 1)) (rP R))) := by
  have h6 := hR.p
  obtain ⟨⟨⟨hL, e18, eT, eR, eP, eC, eS⟩, -, -⟩, -, h3, -⟩ := id h
  unfold f_X12_barredBits_60
  refine lpv (fun n i a => f_X12_barredBits_60_4 g n a i) (fun i => nI (bq (fun p => decide (ρ (30 + p) = 1)) i)) (rP R) _ ?_ ?_ xN 0 (Nat.zero_le _) (by show rP R < 4000 + 0; omega)
  · intro n i hi
    simp only [f_X12_barredBits_60_4]
    rw [e18, xg_in hL (by decide), nI_clamp (show L < 2 ^ 31 by omega), eP, if_neg (nI_ge hi (by omega)), a30, xg_in (show 30 + i < 40 by omega) (by decide), nI_clamp (by omega), h3 (30 + i) (by omega), nI_1, bq_s]
    rcases (ho.2.1 i hi).2.2.1 with e | e
    · rw [e, bi_sh0 i (by omega), or_0, if_neg (by decide)]
    · rw [e, bi_sh i (by omega), bq_or, if_pos (by decide)]
  · intro n
    simp only [f_X12_barredBits_60_4]
    rw [e18, xg_in hL (by decide), nI_clamp (show L < 2 ^ 31 by omega), eP, if_pos (nI_le (Nat.le_refl _) (by omega))]
theorem q_barredIn (hR : rOK R) (ho : rowOK R ρ) (hc : ρ 36 = nI c) (hc2 : c < 1024) (y : Int32) : aQ R L c ρ (f_X11_barredIn_0 y) (f_X12_barredIn_60 y) := by
  rcases aN y with ⟨b1, b2⟩ | ⟨n, hn, rfl, b1, b2⟩
  · refine ⟨-1, fun g h => ⟨g, ?_⟩, fun g h => ⟨g, ?_⟩⟩
    · unfold f_X11_barredIn_0
      rw [b1, if_pos rfl]
    · unfold f_X12_barredIn_60
      rw [b2, if_pos rfl]
  refine ⟨nI (bq (fun p => decide (sGo R c (rS R) true ρ n (30 + p) = 1)) (rP R)), fun g h => ?_, fun g h => ?_⟩
  · obtain ⟨w1, e1, j1, k1⟩ := c_doubt hR ho hc2 h (rS R) hn
    exact ⟨w1, by unfold f_X11_barredIn_0; rw [b1, if_neg (by decide), show f_X4_seed_3 g = rS R from h.1.1.2.2.2.2, e1, Option.bind_some, c_ba50 j1.2.2.2.2]⟩
  · obtain ⟨w1, e1, j1, i52, i53, k1⟩ := r_copies hR h hc (by omega)
    obtain ⟨w2, e2, j2, f2⟩ := r_goes j1 hR ho hc (by omega) i52 (d := true) i53 hn
    exact ⟨w2, by unfold f_X12_barredIn_60; rw [b2, if_neg (by decide), e1, Option.bind_some, e2, Option.bind_some, r_barred hR (sGo_ok hR ho n) j2]; rfl⟩
def sYr (R : pR) (c : Nat) (ρ : Nat → Int32) (p n : Nat) : Nat → Nat
  | 0 => 0
  | k + 1 => if sGo R c (rS R + nI k) true ρ n (18 + p) ≤ ρ (18 + p) then sYr R c ρ p n k else sYr R c ρ p n k + 1
theorem sYr_s (R : pR) (c : Nat) (ρ : Nat → Int32) (p n k : Nat) : sYr R c ρ p n (k + 1) = if sGo R c (rS R + nI k) true ρ n (18 + p) ≤ ρ (18 + p) then sYr R c ρ p n k else sYr R c ρ p n k + 1 := rfl
theorem q_year (hR : rOK R) (ho : rowOK R ρ) (hc : ρ 36 = nI c) (hc2 : c < 1024) (x y z : Int32) : aQ R L c ρ (f_X11_year_0 x y z) (f_X12_year_60 x y z) := by
  rcases aP hR x with ⟨a1, a2⟩ | ⟨p, hp, rfl, a1, a2⟩
  · refine ⟨-1, fun g h => ⟨g, ?_⟩, fun g h => ⟨g, ?_⟩⟩
    · unfold f_X11_year_0
      rw [a1 g h.1, if_pos rfl]
    · unfold f_X12_year_60
      rw [a2 g L h.1, Option.bind_some, if_pos rfl]
  rcases aN y with ⟨b1, b2⟩ | ⟨n, hn, rfl, b1, b2⟩
  · refine ⟨-1, fun g h => ⟨g, ?_⟩, fun g h => ⟨g, ?_⟩⟩
    · unfold f_X11_year_0
      rw [a1 g h.1, if_neg (by decide), b1, if_pos rfl]
    · unfold f_X12_year_60
      rw [a2 g L h.1, Option.bind_some, if_neg (by decide), b2, if_pos rfl]
  have h6 := hR.p
  by_cases s1 : z < 1
  · refine ⟨-1, fun g h => ⟨g, ?_⟩, fun g h => ⟨g, ?_⟩⟩
    · unfold f_X11_year_0
      rw [a1 g h.1, if_neg (by decide), b1, if_neg (by decide), if_pos s1]
    · unfold f_X12_year_60
      rw [a2 g L h.1, Option.bind_some, if_neg (by decide), b2, if_neg (by decide), show f_X12_in z 1 20 = 0 from if_pos s1, if_pos rfl]
  by_cases s2 : z ≤ 20
  · obtain ⟨s, hs, rfl⟩ : ∃ s, s ≤ 20 ∧ z = nI s := nI_of2 (M := 20) (n := 20) rfl (fun y => s1 (Int32.lt_iff_toInt_lt.mpr (by
      have := Int32.lt_iff_toInt_lt.mp y
      rw [show (0 : Int32).toInt = 0 from rfl] at this
      rw [show (1 : Int32).toInt = 1 from rfl]
      omega))) s2
    have e20 : f_X12_in (nI s) 1 20 = 1 := by
      unfold f_X12_in
      rw [if_neg s1, if_neg (show ¬ (20 : Int32) < nI s from nI_nlt (a := 20) (by omega) (by decide))]
    refine ⟨nI (sYr R c ρ p n s), fun g h => ?_, fun g h => ?_⟩
    · unfold f_X11_year_0
      rw [a1 g h.1, if_neg (by decide), b1, if_neg (by decide), if_neg s1, if_pos s2]
      refine lp (fun m i (t : Int32 × xG) => f_X11_year_0_37 m (nI p) (nI n) (nI s) t.1 i t.2) (fun k t => t.1 = nI (sYr R c ρ p n k) ∧ jC_44_48 R ρ c t.2) s (fun o => ∃ w, o = some (nI (sYr R c ρ p n s), w)) ?_ ?_ xN 0 ((0 : Int32), g) (Nat.zero_le _) (by show s < 4000 + 0; omega) ⟨rfl, h⟩
      · rintro m k ⟨b, w⟩ hk ⟨e1, j⟩
        dsimp only at e1 j ⊢
        refine .inl ?_
        obtain ⟨w2, q1, q2, q3⟩ := c_doubt hR ho hc2 j (rS R + nI k) hn
        simp only [f_X11_year_0_37]
        rw [if_neg (nI_ge hk (by omega)), show f_X4_seed_3 w = rS R from j.1.1.2.2.2.2, q1, Option.bind_some, c_ru50 q2.2.2.2.2 h6 hp, c_ru48 q3.2.2.2.2 h6 hp, e1, sYr_s, nI_1]
        by_cases v : sGo R c (rS R + nI k) true ρ n (18 + p) ≤ ρ (18 + p)
        · rw [if_pos v, if_pos v]
          exact ⟨(_, w2), rfl, rfl, q3⟩
        · rw [if_neg v, if_neg v, nI_1]
          exact ⟨(_, w2), rfl, rfl, q3⟩
      · rintro m ⟨b, w⟩ ⟨e1, j⟩
        dsimp only at e1 j ⊢
        simp only [f_X11_year_0_37]
        rw [if_pos (nI_le (Nat.le_refl _) (by omega)), e1]
        exact ⟨w, rfl⟩
    · unfold f_X12_year_60
      rw [a2 g L h.1, Option.bind_some, if_neg (by decide), b2, if_neg (by decide), e20, if_neg (by decide)]
      refine lp (fun m i (t : Int32 × xG) => f_X12_year_60_33 m (nI p) (nI n) (nI s) t.1 i t.2) (fun k t => t.1 = nI (sYr R c ρ p n k) ∧ mR R L ρ t.2) s (fun o => ∃ w, o = some (nI (sYr R c ρ p n s), w)) ?_ ?_ xN 0 ((0 : Int32), g) (Nat.zero_le _) (by show s < 4000 + 0; omega) ⟨rfl, h⟩
      · rintro m k ⟨b, w⟩ hk ⟨e1, j⟩
        dsimp only at e1 j ⊢
        refine .inl ?_
        obtain ⟨w1, q1, q2, i52, i53, q3⟩ := r_copies hR j hc (by omega)
        have f1 : xfrm [(60, some 52)] w1 (xupd w1.1 60 52 (w1.1 60 52 + nI k), w1.2) := xfrm.up xfrm.rf rfl
        obtain ⟨w2, p1, p2, p3⟩ := r_goes (g := (xupd w1.1 60 52 (w1.1 60 52 + nI k), w1.2)) (q2.ag (f1.agr rfl)) hR ho hc (by omega) (seed := rS R + nI k) (by
          show xupd w1.1 60 52 (w1.1 60 52 + nI k) 60 52 = _
          rw [xu_eq, i52]) (d := true) (((f1 60 53 rfl).1).trans i53) hn
        have k2 := (q3.ag (f1.agr (C := kR) rfl)).ag (p3.agr (C := kR) rfl)
        simp only [f_X12_year_60_33]
        rw [if_neg (nI_ge hk (by omega)), q1, Option.bind_some, p1, Option.bind_some, a18, xg_in (by omega) (by decide), xg_in (by omega) (by decide), nI_clamp (by omega), p2.2.2.1 (18 + p) (by omega), k2.2.2 (18 + p) (by omega), e1, sYr_s, nI_1]
        by_cases v : sGo R c (rS R + nI k) true ρ n (18 + p) ≤ ρ (18 + p)
        · rw [if_pos v, if_pos v]
          exact ⟨(_, w2), rfl, rfl, k2⟩
        · rw [if_neg v, if_neg v, nI_1]
          exact ⟨(_, w2), rfl, rfl, k2⟩
      · rintro m ⟨b, w⟩ ⟨e1, j⟩
        dsimp only at e1 j ⊢
        simp only [f_X12_year_60_33]
        rw [if_pos (nI_le (Nat.le_refl _) (by omega)), e1]
        exact ⟨w, rfl⟩
  · refine ⟨-1, fun g h => ⟨g, ?_⟩, fun g h => ⟨g, ?_⟩⟩
    · unfold f_X11_year_0
      rw [a1 g h.1, if_neg (by decide), b1, if_neg (by decide), if_neg s1, if_neg s2]
    · unfold f_X12_year_60
      rw [a2 g L h.1, Option.bind_some, if_neg (by decide), b2, if_neg (by decide), show f_X12_in z 1 20 = 0 from by
        unfold f_X12_in
        rw [if_neg s1, if_pos (Int32.lt_iff_toInt_lt.mpr (by
          have : ¬ z.toInt ≤ (20 : Int32).toInt := fun y => s2 (Int32.le_iff_toInt_le.mpr y)
          omega))], if_pos rfl]
theorem q_walks (hR : rOK R) (ho : rowOK R ρ) (hc : ρ 36 = nI c) (hc2 : c < 1024) (x : Int32) : aQ R L c ρ (fV (f_X11_walks_0 x)) (f_X12_walks_60 x) := by
  rcases aP hR x with ⟨a1, a2⟩ | ⟨p, hp, rfl, a1, a2⟩
  · refine ⟨-1, fun g h => fV_some ?_, fun g h => ⟨g, ?_⟩⟩
    · unfold f_X11_walks_0
      rw [a1 g h.1, if_pos rfl]
    · unfold f_X12_walks_60
      rw [a2 g L h.1, Option.bind_some, if_pos rfl]
  have h6 := hR.p
  have h7 := hR.t
  refine ⟨oN (sRdO R c p ρ), fun g h => fV_some ?_, fun g h => ?_⟩
  · obtain ⟨⟨t, ht, et⟩, eg, -, -⟩ := ho.2.1 p hp
    unfold f_X11_walks_0
    rw [a1 g h.1, if_neg (by decide), c_pl48 h.2.2.2.2 h6 hp, c_go48 h.2.2.2.2 h6 hp]
    rcases eg with eg | ⟨gl, hgl, eg⟩
    · rw [eg, c_roadN38 hR h.1 (by decide), sRdO_no eg]
      rfl
    · rw [eg, et, c_road38 hR h.1 h.2.2.1 (by omega) h.2.2.2.1 ht hgl, sRdO_go et eg (by omega) (by omega)]
      rfl
  · obtain ⟨w1, e1, j1, -, -, -⟩ := r_copies hR h hc (by omega)
    exact ⟨w1, by unfold f_X12_walks_60; rw [a2 g L h.1, Option.bind_some, if_neg (by decide), e1, Option.bind_some, r_roadOf j1 hR ho hc (by omega) hp]; rfl⟩
end
