/-! who should ring: both -/
def vFar (R : pR) (c : Nat) : Nat → Int32 := fun p => nI (sD R c (rO R p) (rC R))
theorem c_trueFar {g : xG} {R : pR} {c : Nat} (hR : rOK R) (h : rmC g R) (hm : Mt 39 (sD R c) g) {p : Nat} (hp : p < rP R) : f_X1_trueFarOf_44 (nI p) g = vFar R c p := by
  unfold f_X1_trueFarOf_44
  rw [c_home h hR hp, show f_X4_capital_3 g = nI (rC R) from h.1.2.2.2.1, c_between38 h hR hm (hR.o hp) (hR.cT (hR.o hp))]
  rfl
theorem c_truth {R : pR} {ρ : Nat → Int32} {c : Nat} (hR : rOK R) {g : xG} (h : jC_44_48 R ρ c g) (ho : rowOK R ρ) : f_X1_trueRingerOf_44_48 g = some (gN (sRg R ρ (vFar R c) (rP R))) := by
  have h6 := hR.p
  unfold f_X1_trueRingerOf_44_48
  refine lpv (fun n i a => f_X1_trueRingerOf_44_48_5 g n a i) (fun p => gN (sRg R ρ (vFar R c) p)) (rP R) _ ?_ ?_ xN 0 (Nat.zero_le _) (by show rP R < 4000 + 0; omega)
  · intro n p hp
    simp only [f_X1_trueRingerOf_44_48_5]
    rw [show f_X4_people_3 g = nI (rP R) from h.1.1.2.2.1, if_neg (nI_ge hp (by omega)), c_mayRing_44_48 hR h ho hp, nI_1]
    by_cases hm : ρ p = nI (rC R) ∧ ρ (30 + p) = 0
    · rw [if_pos hm, if_neg (show ¬ (1 : Int32) = 0 by decide)]
      match hs : sRg R ρ (vFar R c) p with
      | none =>
        rw [sRg_none hm hs, if_pos (show gN none < 0 by decide)]
        rfl
      | some (q, mm) =>
        obtain ⟨hq, rfl, -⟩ := sRg_lt hs
        rw [sRg_some hm hs, if_neg (show ¬ gN (some (q, vFar R c q)) < 0 from nI_pos (by omega)), c_trueFar hR h.1 h.2.2.2.1 hp, show f_X1_trueFarOf_44 (gN (some (q, vFar R c q))) g = vFar R c q from c_trueFar hR h.1 h.2.2.2.1 (by omega)]
        by_cases z : vFar R c q < vFar R c p
        · have z2 : ¬ vFar R c p ≤ vFar R c q := fun y => by
            have a := Int32.le_iff_toInt_le.mp y
            have b := Int32.lt_iff_toInt_lt.mp z
            omega
          rw [if_neg z2, if_pos z]
          rfl
        · have z2 : vFar R c p ≤ vFar R c q := Int32.le_iff_toInt_le.mpr (by
            have b : ¬ (vFar R c q).toInt < (vFar R c p).toInt := fun y => z (Int32.lt_iff_toInt_lt.mpr y)
            omega)
          rw [if_pos z2, if_neg z]
    · rw [if_neg hm, if_pos rfl, sRg_no hm]
  · intro n
    simp only [f_X1_trueRingerOf_44_48_5]
    rw [show f_X4_people_3 g = nI (rP R) from h.1.1.2.2.1, if_pos (nI_le (Nat.le_refl _) (by omega))]
theorem r_truth {L : Nat} {R : pR} {ρ : Nat → Int32} {c : Nat} {g : xG} (h : jR L R ρ c g) (hR : rOK R) : f_X12_ringerBy_60 1 g = some (gN (sRg R ρ (vFar R c) (rP R)), g) := by
  have h6 := hR.p
  obtain ⟨⟨⟨hL, e18, eT, eR, eP, eC, eS⟩, -, -⟩, -, -, -⟩ := id h
  unfold f_X12_ringerBy_60
  refine lp (fun n i (s : Int32 × Int32) => f_X12_ringerBy_60_8 n 1 s.1 s.2 i g) (fun p s => s.1 = gN (sRg R ρ (vFar R c) p) ∧ s.2 = gM (-1) (sRg R ρ (vFar R c) p)) (rP R) (fun o => o = some (gN (sRg R ρ (vFar R c) (rP R)), g)) ?_ ?_ xN 0 ((-2 : Int32), (-1 : Int32)) (Nat.zero_le _) (by show rP R < 4000 + 0; omega) ⟨rfl, rfl⟩
  · rintro n p ⟨b, m⟩ hp ⟨e1, e2⟩
    dsimp only at e1 e2 ⊢
    refine .inl ?_
    simp only [f_X12_ringerBy_60_8]
    rw [e18, xg_in hL (by decide), nI_clamp (show L < 2 ^ 31 by omega), eP, if_neg (nI_ge hp (by omega)), r_mayRing h (by omega), Option.bind_some, nI_1]
    by_cases hm : ρ p = nI (rC R) ∧ ρ (30 + p) = 0
    · rw [if_pos hm, if_neg (show ¬ (1 : Int32) = 0 by decide), if_neg (show ¬ (1 : Int32) = 0 by decide), r_farOf h hR hp, Option.bind_some]
      have hd := (sD_ok hR c).2.2.1 (rO R p) (rC R)
      have h0 : (vFar R c p).toInt = (sD R c (rO R p) (rC R) : Int) := nI_toInt (by omega)
      simp only [f_X12_ringerBy_60_53]
      match hs : sRg R ρ (vFar R c) p with
      | none =>
        rw [hs] at e2
        rw [sRg_none hm hs, e2, if_pos (show gM (-1) none < nI (sD R c (rO R p) (rC R)) from Int32.lt_iff_toInt_lt.mpr (by
          show (-1 : Int32).toInt < (vFar R c p).toInt
          rw [show (-1 : Int32).toInt = -1 from rfl]
          omega)), nI_1]
        exact ⟨(_, _), rfl, rfl, rfl⟩
      | some (q, mm) =>
        rw [hs] at e1 e2
        rw [sRg_some hm hs, e1, e2]
        by_cases z : mm < vFar R c p
        · rw [if_pos (show gM (-1) (some (q, mm)) < nI (sD R c (rO R p) (rC R)) from z), if_pos z, nI_1]
          exact ⟨(_, _), rfl, rfl, rfl⟩
        · rw [if_neg (show ¬ gM (-1) (some (q, mm)) < nI (sD R c (rO R p) (rC R)) from z), if_neg z, nI_1]
          exact ⟨(_, _), rfl, rfl, rfl⟩
    · rw [if_neg hm, if_pos rfl, sRg_no hm]
      exact ⟨(b, m), rfl, e1, e2⟩
  · rintro n ⟨b, m⟩ ⟨e1, e2⟩
    dsimp only at e1 e2 ⊢
    simp only [f_X12_ringerBy_60_8]
    rw [e18, xg_in hL (by decide), nI_clamp (show L < 2 ^ 31 by omega), eP, if_pos (nI_le (Nat.le_refl _) (by omega)), e1]
