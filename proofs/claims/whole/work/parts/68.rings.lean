/-! who rings -/
def sRg (R : pR) (ρ : Nat → Int32) (v : Nat → Int32) : Nat → Option (Nat × Int32)
  | 0 => none
  | p + 1 => if ρ p = nI (rC R) ∧ ρ (30 + p) = 0 then
      match sRg R ρ v p with
      | none => some (p, v p)
      | some (q, m) => if m < v p then some (p, v p) else some (q, m)
    else sRg R ρ v p
def gN : Option (Nat × Int32) → Int32
  | none => -2
  | some (q, _) => nI q
def gM (d : Int32) : Option (Nat × Int32) → Int32
  | none => d
  | some (_, m) => m
theorem sRg_s (R : pR) (ρ v : Nat → Int32) (p : Nat) : sRg R ρ v (p + 1) = if ρ p = nI (rC R) ∧ ρ (30 + p) = 0 then (match sRg R ρ v p with | none => some (p, v p) | some (q, m) => if m < v p then some (p, v p) else some (q, m)) else sRg R ρ v p := rfl
theorem sRg_no {R : pR} {ρ v : Nat → Int32} {p : Nat} (h : ¬ (ρ p = nI (rC R) ∧ ρ (30 + p) = 0)) : sRg R ρ v (p + 1) = sRg R ρ v p := by rw [sRg_s, if_neg h]
theorem sRg_none {R : pR} {ρ v : Nat → Int32} {p : Nat} (h : ρ p = nI (rC R) ∧ ρ (30 + p) = 0) (hs : sRg R ρ v p = none) : sRg R ρ v (p + 1) = some (p, v p) := by rw [sRg_s, if_pos h, hs]
theorem sRg_some {R : pR} {ρ v : Nat → Int32} {p q : Nat} {m : Int32} (h : ρ p = nI (rC R) ∧ ρ (30 + p) = 0) (hs : sRg R ρ v p = some (q, m)) : sRg R ρ v (p + 1) = if m < v p then some (p, v p) else some (q, m) := by rw [sRg_s, if_pos h, hs]
theorem sRg_lt {R : pR} {ρ v : Nat → Int32} : ∀ {p q : Nat} {m : Int32}, sRg R ρ v p = some (q, m) → q < p ∧ m = v q ∧ ρ q = nI (rC R) ∧ ρ (30 + q) = 0
  | 0, _, _, h => by cases h
  | p + 1, q, m, h => by
    rw [sRg_s] at h
    split at h
    · next hc =>
      split at h
      · cases h; exact ⟨by omega, rfl, hc⟩
      · next q' m' e =>
        split at h
        · cases h; exact ⟨by omega, rfl, hc⟩
        · cases h
          obtain ⟨a, b⟩ := sRg_lt e
          exact ⟨by omega, b⟩
    · obtain ⟨a, b⟩ := sRg_lt h
      exact ⟨by omega, b⟩
/-- what each claims as things stand -/
def vCl (R : pR) (ρ : Nat → Int32) (c : Nat) : Nat → Int32 := fun p => sLaw R ρ (nI (sD R c (rO R p) (rC R))) p 0

theorem c_mayRing_44_48 {R : pR} {ρ : Nat → Int32} {c : Nat} (hR : rOK R) {g : xG} (h : jC_44_48 R ρ c g) (ho : rowOK R ρ) {p : Nat} (hp : p < rP R) : f_X1_mayRing_44_48 (nI p) g = if ρ p = nI (rC R) ∧ ρ (30 + p) = 0 then 1 else 0 := by
  have h6 := hR.p
  obtain ⟨h1, h2, h3, h4, h5⟩ := id h
  obtain ⟨-, -, hb, -⟩ := ho.2.1 p hp
  unfold f_X1_mayRing_44_48
  rw [c_pl48 h5 h6 hp, show f_X4_capital_3 g = nI (rC R) from h1.1.2.2.2.1, c_isBarred48 h5 h6 hp]
  by_cases e1 : ρ p = nI (rC R)
  · rw [if_pos e1]
    rcases hb with e | e
    · rw [e, if_neg (show ¬ (0 : Int32) = 1 by decide), if_pos rfl, if_pos ⟨e1, rfl⟩]
    · rw [e, if_pos rfl, if_neg (by decide), if_neg (fun z => absurd z.2 (by decide))]
  · rw [if_neg e1, if_neg (fun z => e1 z.1)]
theorem c_ringerOf_44_48 {R : pR} {ρ : Nat → Int32} {c : Nat} (hR : rOK R) {g : xG} (h : jC_44_48 R ρ c g) (ho : rowOK R ρ) : ∃ w, f_X1_ringerOf_44_48 g = some (gN (sRg R ρ (vCl R ρ c) (rP R)), w) ∧ xfrm [(16, none), (45, none)] g w := by
  have h6 := hR.p
  unfold f_X1_ringerOf_44_48
  refine lp (fun n i (s : Int32 × Int32 × xG) => f_X1_ringerOf_44_48_8 n s.1 s.2.1 i s.2.2) (fun p s => s.1 = gN (sRg R ρ (vCl R ρ c) p) ∧ s.2.1 = gM 0 (sRg R ρ (vCl R ρ c) p) ∧ xfrm [(16, none), (45, none)] g s.2.2) (rP R) (fun o => ∃ w, o = some (gN (sRg R ρ (vCl R ρ c) (rP R)), w) ∧ xfrm [(16, none), (45, none)] g w) ?_ ?_ xN 0 ((-2 : Int32), (0 : Int32), g) (Nat.zero_le _) (by show rP R < 4000 + 0; omega) ⟨rfl, rfl, xfrm.rf⟩
  · rintro n p ⟨b, m, w⟩ hp ⟨e1, e2, hf⟩
    dsimp only at e1 e2 hf ⊢
    have j := h.ag (hf.agr (C := kJ_44_48) rfl)
    refine .inl ?_
    simp only [f_X1_ringerOf_44_48_8]
    rw [show f_X4_people_3 w = nI (rP R) from j.1.1.2.2.1, if_neg (nI_ge hp (by omega)), c_mayRing_44_48 hR j ho hp, nI_1]
    by_cases hm : ρ p = nI (rC R) ∧ ρ (30 + p) = 0
    · rw [if_pos hm, if_neg (show ¬ (1 : Int32) = 0 by decide)]
      obtain ⟨w2, q1, q2⟩ := c_lawNow_44_48 hR j hp (k := 0) (by decide)
      rw [show f_X1_lawNow_44_48 (nI p) 0 w = some (vCl R ρ c p, w2) from q1, Option.bind_some]
      have hf2 := hf.tr q2 rfl
      match hs : sRg R ρ (vCl R ρ c) p with
      | none =>
        rw [hs] at e1
        rw [sRg_none hm hs, e1, if_pos (show gN none < 0 by decide)]
        exact ⟨(_, _, w2), rfl, rfl, rfl, hf2⟩
      | some (q, mm) =>
        have hq := (sRg_lt hs).1
        rw [hs] at e1 e2
        rw [sRg_some hm hs, e1, e2, if_neg (show ¬ gN (some (q, mm)) < 0 from nI_pos (by omega))]
        by_cases z : mm < vCl R ρ c p
        · have z2 : ¬ vCl R ρ c p ≤ mm := fun y => by
            have a := Int32.le_iff_toInt_le.mp y
            have b := Int32.lt_iff_toInt_lt.mp z
            omega
          rw [if_neg (show ¬ (vCl R ρ c p, w2).1 ≤ gM 0 (some (q, mm)) from z2), if_pos z]
          exact ⟨(_, _, w2), rfl, rfl, rfl, hf2⟩
        · have z2 : vCl R ρ c p ≤ mm := Int32.le_iff_toInt_le.mpr (by
            have b : ¬ mm.toInt < (vCl R ρ c p).toInt := fun y => z (Int32.lt_iff_toInt_lt.mpr y)
            omega)
          rw [if_pos (show (vCl R ρ c p, w2).1 ≤ gM 0 (some (q, mm)) from z2), if_neg z]
          exact ⟨(_, _, w2), rfl, rfl, rfl, hf2⟩
    · rw [if_neg hm, if_pos rfl, sRg_no hm]
      exact ⟨(b, m, w), rfl, e1, e2, hf⟩
  · rintro n ⟨b, m, w⟩ ⟨e1, e2, hf⟩
    dsimp only at e1 e2 hf ⊢
    have j := h.ag (hf.agr (C := kJ_44_48) rfl)
    refine ⟨w, ?_, hf⟩
    simp only [f_X1_ringerOf_44_48_8]
    rw [show f_X4_people_3 w = nI (rP R) from j.1.1.2.2.1, if_pos (nI_le (Nat.le_refl _) (by omega)), e1]

theorem c_mayRing_44_50 {R : pR} {ρ : Nat → Int32} {c : Nat} (hR : rOK R) {g : xG} (h : jC_44_50 R ρ c g) (ho : rowOK R ρ) {p : Nat} (hp : p < rP R) : f_X1_mayRing_44_50 (nI p) g = if ρ p = nI (rC R) ∧ ρ (30 + p) = 0 then 1 else 0 := by
  have h6 := hR.p
  obtain ⟨h1, h2, h3, h4, h5⟩ := id h
  obtain ⟨-, -, hb, -⟩ := ho.2.1 p hp
  unfold f_X1_mayRing_44_50
  rw [c_pl50 h5 h6 hp, show f_X4_capital_3 g = nI (rC R) from h1.1.2.2.2.1, c_isBarred50 h5 h6 hp]
  by_cases e1 : ρ p = nI (rC R)
  · rw [if_pos e1]
    rcases hb with e | e
    · rw [e, if_neg (show ¬ (0 : Int32) = 1 by decide), if_pos rfl, if_pos ⟨e1, rfl⟩]
    · rw [e, if_pos rfl, if_neg (by decide), if_neg (fun z => absurd z.2 (by decide))]
  · rw [if_neg e1, if_neg (fun z => e1 z.1)]
theorem c_ringerOf_44_50 {R : pR} {ρ : Nat → Int32} {c : Nat} (hR : rOK R) {g : xG} (h : jC_44_50 R ρ c g) (ho : rowOK R ρ) : ∃ w, f_X1_ringerOf_44_50 g = some (gN (sRg R ρ (vCl R ρ c) (rP R)), w) ∧ xfrm [(16, none), (45, none)] g w := by
  have h6 := hR.p
  unfold f_X1_ringerOf_44_50
  refine lp (fun n i (s : Int32 × Int32 × xG) => f_X1_ringerOf_44_50_8 n s.1 s.2.1 i s.2.2) (fun p s => s.1 = gN (sRg R ρ (vCl R ρ c) p) ∧ s.2.1 = gM 0 (sRg R ρ (vCl R ρ c) p) ∧ xfrm [(16, none), (45, none)] g s.2.2) (rP R) (fun o => ∃ w, o = some (gN (sRg R ρ (vCl R ρ c) (rP R)), w) ∧ xfrm [(16, none), (45, none)] g w) ?_ ?_ xN 0 ((-2 : Int32), (0 : Int32), g) (Nat.zero_le _) (by show rP R < 4000 + 0; omega) ⟨rfl, rfl, xfrm.rf⟩
  · rintro n p ⟨b, m, w⟩ hp ⟨e1, e2, hf⟩
    dsimp only at e1 e2 hf ⊢
    have j := h.ag (hf.agr (C := kJ_44_50) rfl)
    refine .inl ?_
    simp only [f_X1_ringerOf_44_50_8]
    rw [show f_X4_people_3 w = nI (rP R) from j.1.1.2.2.1, if_neg (nI_ge hp (by omega)), c_mayRing_44_50 hR j ho hp, nI_1]
    by_cases hm : ρ p = nI (rC R) ∧ ρ (30 + p) = 0
    · rw [if_pos hm, if_neg (show ¬ (1 : Int32) = 0 by decide)]
      obtain ⟨w2, q1, q2⟩ := c_lawNow_44_50 hR j hp (k := 0) (by decide)
      rw [show f_X1_lawNow_44_50 (nI p) 0 w = some (vCl R ρ c p, w2) from q1, Option.bind_some]
      have hf2 := hf.tr q2 rfl
      match hs : sRg R ρ (vCl R ρ c) p with
      | none =>
        rw [hs] at e1
        rw [sRg_none hm hs, e1, if_pos (show gN none < 0 by decide)]
        exact ⟨(_, _, w2), rfl, rfl, rfl, hf2⟩
      | some (q, mm) =>
        have hq := (sRg_lt hs).1
        rw [hs] at e1 e2
        rw [sRg_some hm hs, e1, e2, if_neg (show ¬ gN (some (q, mm)) < 0 from nI_pos (by omega))]
        by_cases z : mm < vCl R ρ c p
        · have z2 : ¬ vCl R ρ c p ≤ mm := fun y => by
            have a := Int32.le_iff_toInt_le.mp y
            have b := Int32.lt_iff_toInt_lt.mp z
            omega
          rw [if_neg (show ¬ (vCl R ρ c p, w2).1 ≤ gM 0 (some (q, mm)) from z2), if_pos z]
          exact ⟨(_, _, w2), rfl, rfl, rfl, hf2⟩
        · have z2 : vCl R ρ c p ≤ mm := Int32.le_iff_toInt_le.mpr (by
            have b : ¬ mm.toInt < (vCl R ρ c p).toInt := fun y => z (Int32.lt_iff_toInt_lt.mpr y)
            omega)
          rw [if_pos (show (vCl R ρ c p, w2).1 ≤ gM 0 (some (q, mm)) from z2), if_neg z]
          exact ⟨(_, _, w2), rfl, rfl, rfl, hf2⟩
    · rw [if_neg hm, if_pos rfl, sRg_no hm]
      exact ⟨(b, m, w), rfl, e1, e2, hf⟩
  · rintro n ⟨b, m, w⟩ ⟨e1, e2, hf⟩
    dsimp only at e1 e2 hf ⊢
    have j := h.ag (hf.agr (C := kJ_44_50) rfl)
    refine ⟨w, ?_, hf⟩
    simp only [f_X1_ringerOf_44_50_8]
    rw [show f_X4_people_3 w = nI (rP R) from j.1.1.2.2.1, if_pos (nI_le (Nat.le_refl _) (by omega)), e1]

theorem c_mayRing_46_48 {R : pR} {ρ : Nat → Int32} {c : Nat} (hR : rOK R) {g : xG} (h : jC_46_48 R ρ c g) (ho : rowOK R ρ) {p : Nat} (hp : p < rP R) : f_X1_mayRing_46_48 (nI p) g = if ρ p = nI (rC R) ∧ ρ (30 + p) = 0 then 1 else 0 := by
  have h6 := hR.p
  obtain ⟨h1, h2, h3, h4, h5⟩ := id h
  obtain ⟨-, -, hb, -⟩ := ho.2.1 p hp
  unfold f_X1_mayRing_46_48
  rw [c_pl48 h5 h6 hp, show f_X4_capital_3 g = nI (rC R) from h1.1.2.2.2.1, c_isBarred48 h5 h6 hp]
  by_cases e1 : ρ p = nI (rC R)
  · rw [if_pos e1]
    rcases hb with e | e
    · rw [e, if_neg (show ¬ (0 : Int32) = 1 by decide), if_pos rfl, if_pos ⟨e1, rfl⟩]
    · rw [e, if_pos rfl, if_neg (by decide), if_neg (fun z => absurd z.2 (by decide))]
  · rw [if_neg e1, if_neg (fun z => e1 z.1)]
theorem c_ringerOf_46_48 {R : pR} {ρ : Nat → Int32} {c : Nat} (hR : rOK R) {g : xG} (h : jC_46_48 R ρ c g) (ho : rowOK R ρ) : ∃ w, f_X1_ringerOf_46_48 g = some (gN (sRg R ρ (vCl R ρ c) (rP R)), w) ∧ xfrm [(16, none), (47, none)] g w := by
  have h6 := hR.p
  unfold f_X1_ringerOf_46_48
  refine lp (fun n i (s : Int32 × Int32 × xG) => f_X1_ringerOf_46_48_8 n s.1 s.2.1 i s.2.2) (fun p s => s.1 = gN (sRg R ρ (vCl R ρ c) p) ∧ s.2.1 = gM 0 (sRg R ρ (vCl R ρ c) p) ∧ xfrm [(16, none), (47, none)] g s.2.2) (rP R) (fun o => ∃ w, o = some (gN (sRg R ρ (vCl R ρ c) (rP R)), w) ∧ xfrm [(16, none), (47, none)] g w) ?_ ?_ xN 0 ((-2 : Int32), (0 : Int32), g) (Nat.zero_le _) (by show rP R < 4000 + 0; omega) ⟨rfl, rfl, xfrm.rf⟩
  · rintro n p ⟨b, m, w⟩ hp ⟨e1, e2, hf⟩
    dsimp only at e1 e2 hf ⊢
    have j := h.ag (hf.agr (C := kJ_46_48) rfl)
    refine .inl ?_
    simp only [f_X1_ringerOf_46_48_8]
    rw [show f_X4_people_3 w = nI (rP R) from j.1.1.2.2.1, if_neg (nI_ge hp (by omega)), c_mayRing_46_48 hR j ho hp, nI_1]
    by_cases hm : ρ p = nI (rC R) ∧ ρ (30 + p) = 0
    · rw [if_pos hm, if_neg (show ¬ (1 : Int32) = 0 by decide)]
      obtain ⟨w2, q1, q2⟩ := c_lawNow_46_48 hR j hp (k := 0) (by decide)
      rw [show f_X1_lawNow_46_48 (nI p) 0 w = some (vCl R ρ c p, w2) from q1, Option.bind_some]
      have hf2 := hf.tr q2 rfl
      match hs : sRg R ρ (vCl R ρ c) p with
      | none =>
        rw [hs] at e1
        rw [sRg_none hm hs, e1, if_pos (show gN none < 0 by decide)]
        exact ⟨(_, _, w2), rfl, rfl, rfl, hf2⟩
      | some (q, mm) =>
        have hq := (sRg_lt hs).1
        rw [hs] at e1 e2
        rw [sRg_some hm hs, e1, e2, if_neg (show ¬ gN (some (q, mm)) < 0 from nI_pos (by omega))]
        by_cases z : mm < vCl R ρ c p
        · have z2 : ¬ vCl R ρ c p ≤ mm := fun y => by
            have a := Int32.le_iff_toInt_le.mp y
            have b := Int32.lt_iff_toInt_lt.mp z
            omega
          rw [if_neg (show ¬ (vCl R ρ c p, w2).1 ≤ gM 0 (some (q, mm)) from z2), if_pos z]
          exact ⟨(_, _, w2), rfl, rfl, rfl, hf2⟩
        · have z2 : vCl R ρ c p ≤ mm := Int32.le_iff_toInt_le.mpr (by
            have b : ¬ mm.toInt < (vCl R ρ c p).toInt := fun y => z (Int32.lt_iff_toInt_lt.mpr y)
            omega)
          rw [if_pos (show (vCl R ρ c p, w2).1 ≤ gM 0 (some (q, mm)) from z2), if_neg z]
          exact ⟨(_, _, w2), rfl, rfl, rfl, hf2⟩
    · rw [if_neg hm, if_pos rfl, sRg_no hm]
      exact ⟨(b, m, w), rfl, e1, e2, hf⟩
  · rintro n ⟨b, m, w⟩ ⟨e1, e2, hf⟩
    dsimp only at e1 e2 hf ⊢
    have j := h.ag (hf.agr (C := kJ_46_48) rfl)
    refine ⟨w, ?_, hf⟩
    simp only [f_X1_ringerOf_46_48_8]
    rw [show f_X4_people_3 w = nI (rP R) from j.1.1.2.2.1, if_pos (nI_le (Nat.le_refl _) (by omega)), e1]
