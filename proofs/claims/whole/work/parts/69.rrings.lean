/-! who rings: the reference -/
section
variable {L : Nat} {R : pR} {ρ : Nat → Int32} {c : Nat} {g : xG}
theorem r_mayRing (h : jR L R ρ c g) {p : Nat} (hp : p < 6) : f_X12_mayRing_60 (nI p) g = some (if ρ p = nI (rC R) ∧ ρ (30 + p) = 0 then 1 else 0) := by
  unfold f_X12_mayRing_60
  rw [r_isThere h (by omega), Option.bind_some]
  by_cases e1 : ρ p = nI (rC R)
  · rw [if_pos e1, if_neg (show ¬ (1 : Int32) = 0 by decide), a30, xg_in (by omega) (by decide), nI_clamp (by omega), h.2.2.1 (30 + p) (by omega)]
    by_cases e2 : ρ (30 + p) = 0
    · rw [if_pos e2, if_pos ⟨e1, e2⟩]
    · rw [if_neg e2, if_neg (fun z => e2 z.2)]
  · rw [if_neg e1, if_pos rfl, if_neg (fun z => e1 z.1)]
theorem r_ringerNow (h : jR L R ρ c g) (hR : rOK R) : ∃ w, f_X12_ringerNow_60 g = some (gN (sRg R ρ (vCl R ρ c) (rP R)), w) ∧ xfrm kLk g w := by
  have h6 := hR.p
  suffices hs : ∃ w, f_X12_ringerBy_60 0 g = some (gN (sRg R ρ (vCl R ρ c) (rP R)), w) ∧ xfrm kLk g w by
    obtain ⟨w, e, f⟩ := hs
    refine ⟨w, ?_, f⟩
    unfold f_X12_ringerNow_60
    rw [e]
    rfl
  unfold f_X12_ringerBy_60
  refine lp (fun n i (s : Int32 × Int32 × xG) => f_X12_ringerBy_60_8 n 0 s.1 s.2.1 i s.2.2) (fun p s => s.1 = gN (sRg R ρ (vCl R ρ c) p) ∧ s.2.1 = gM (-1) (sRg R ρ (vCl R ρ c) p) ∧ xfrm kLk g s.2.2) (rP R) (fun o => ∃ w, o = some (gN (sRg R ρ (vCl R ρ c) (rP R)), w) ∧ xfrm kLk g w) ?_ ?_ xN 0 ((-2 : Int32), (-1 : Int32), g) (Nat.zero_le _) (by show rP R < 4000 + 0; omega) ⟨rfl, rfl, xfrm.rf⟩
  · rintro n p ⟨b, m, w⟩ hp ⟨e1, e2, hf⟩
    dsimp only at e1 e2 hf ⊢
    have j := h.ag (hf.agr (C := kJr) rfl)
    obtain ⟨⟨⟨hL, e18, eT, eR, eP, eC, eS⟩, -, -⟩, -, -, -⟩ := id j
    refine .inl ?_
    simp only [f_X12_ringerBy_60_8]
    rw [e18, xg_in hL (by decide), nI_clamp (show L < 2 ^ 31 by omega), eP, if_neg (nI_ge hp (by omega)), r_mayRing j (by omega), Option.bind_some, nI_1]
    by_cases hm : ρ p = nI (rC R) ∧ ρ (30 + p) = 0
    · rw [if_pos hm, if_neg (show ¬ (1 : Int32) = 0 by decide)]
      obtain ⟨w2, q1, q2⟩ := r_claimOf j hR hp
      rw [show f_X12_claimOf_60 (nI p) w = some (vCl R ρ c p, w2) from q1]
      have hf2 := hf.tr q2 rfl
      have h0 : 0 ≤ (vCl R ρ c p).toInt := sClaim_0 R ρ _ p
      simp only [↓reduceIte, Option.bind_some, f_X12_ringerBy_60_53]
      match hs : sRg R ρ (vCl R ρ c) p with
      | none =>
        rw [hs] at e2
        rw [sRg_none hm hs, e2, if_pos (show gM (-1) none < vCl R ρ c p from Int32.lt_iff_toInt_lt.mpr (by
          show (-1 : Int32).toInt < _
          rw [show (-1 : Int32).toInt = -1 from rfl]
          omega)), nI_1]
        exact ⟨(_, _, w2), rfl, rfl, rfl, hf2⟩
      | some (q, mm) =>
        rw [hs] at e1 e2
        rw [sRg_some hm hs, e1, e2]
        by_cases z : mm < vCl R ρ c p
        · rw [if_pos (show gM (-1) (some (q, mm)) < vCl R ρ c p from z), if_pos z, nI_1]
          exact ⟨(_, _, w2), rfl, rfl, rfl, hf2⟩
        · rw [if_neg (show ¬ gM (-1) (some (q, mm)) < vCl R ρ c p from z), if_neg z, nI_1]
          exact ⟨(_, _, w2), rfl, rfl, rfl, hf2⟩
    · rw [if_neg hm, if_pos rfl, sRg_no hm]
      exact ⟨(b, m, w), rfl, e1, e2, hf⟩
  · rintro n ⟨b, m, w⟩ ⟨e1, e2, hf⟩
    dsimp only at e1 e2 hf ⊢
    have j := h.ag (hf.agr (C := kJr) rfl)
    obtain ⟨⟨⟨hL, e18, eT, eR, eP, eC, eS⟩, -, -⟩, -, -, -⟩ := id j
    refine ⟨w, ?_, hf⟩
    simp only [f_X12_ringerBy_60_8]
    rw [e18, xg_in hL (by decide), nI_clamp (show L < 2 ^ 31 by omega), eP, if_pos (nI_le (Nat.le_refl _) (by omega)), e1]
end
