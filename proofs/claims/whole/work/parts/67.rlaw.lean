/-! what the laws say of a person: the reference -/
def jR (L : Nat) (R : pR) (ρ : Nat → Int32) (c : Nat) (g : xG) : Prop := rmR g L R ∧ lwR g L R ∧ (∀ k, k < 40 → g.1 94 k = ρ k) ∧ Mt 95 (sD R c) g
def kJr : List (Nat × Option Nat) := kRr ++ kLr ++ [(94, none), (95, none)]
theorem jR.ag {L : Nat} {R : pR} {ρ : Nat → Int32} {c : Nat} {g w : xG} (h : jR L R ρ c g) (a : xagr kJr g w) : jR L R ρ c w := by
  obtain ⟨h1, h2, h3, h4⟩ := h
  refine ⟨h1.ag fun q k hq => a q k ?_, h2.ag fun q k hq => a q k ?_, fun k hk => (a 94 _ rfl).1.trans (h3 k hk), fun x y hx hy => (a 95 _ rfl).1.trans (h4 x y hx hy)⟩
  · unfold kJr xcov at *
    rw [List.any_append, List.any_append, hq]
    rfl
  · unfold kJr xcov at *
    rw [List.any_append, List.any_append, hq, Bool.or_true]
    rfl
section
variable {L : Nat} {R : pR} {ρ : Nat → Int32} {c : Nat} {g : xG}
theorem r_isThere (h : jR L R ρ c g) {p : Nat} (hp : p < 40) : f_X12_isThere_60 (nI p) g = some (if ρ p = nI (rC R) then 1 else 0) := by
  obtain ⟨⟨⟨hL, e18, eT, eR, eP, eC, eS⟩, -, -⟩, -, h3, -⟩ := h
  unfold f_X12_isThere_60
  rw [xg_in hp (by decide), e18, xg_in hL (by decide), nI_clamp (show p < 2 ^ 31 by omega), nI_clamp (show L < 2 ^ 31 by omega), eC, h3 p hp]
  by_cases e : ρ p = nI (rC R)
  · rw [if_pos e, if_pos e]
  · rw [if_neg e, if_neg e]
theorem r_there (h : jR L R ρ c g) (hR : rOK R) : f_X12_thereBits_60 g = some (nI (sThere R ρ)) := by
  have h6 := hR.p
  obtain ⟨⟨⟨hL, e18, eT, eR, eP, eC, eS⟩, -, -⟩, -, -, -⟩ := id h
  unfold f_X12_thereBits_60 sThere
  refine lpv (fun n i a => f_X12_thereBits_60_4 g n a i) (fun i => nI (bq (fun p => decide (ρ p = nI (rC R))) i)) (rP R) _ ?_ ?_ xN 0 (Nat.zero_le _) (by show rP R < 4000 + 0; omega)
  · intro n i hi
    simp only [f_X12_thereBits_60_4]
    rw [e18, xg_in hL (by decide), nI_clamp (show L < 2 ^ 31 by omega), eP, if_neg (nI_ge hi (by omega)), r_isThere h (by omega), Option.bind_some, bi_sh i (by omega), nI_1, bq_or, bq_s]
    by_cases e : ρ i = nI (rC R)
    · rw [if_pos e, if_neg (by decide), if_pos (decide_eq_true e)]
    · rw [if_neg e, if_pos rfl, if_neg (by rw [decide_eq_false e]; decide)]
  · intro n
    simp only [f_X12_thereBits_60_4]
    rw [e18, xg_in hL (by decide), nI_clamp (show L < 2 ^ 31 by omega), eP, if_pos (nI_le (Nat.le_refl _) (by omega))]
theorem r_home (h : rmR g L R) (hR : rOK R) {p : Nat} (hp : p < rP R) : f_X12_homeAt_60 (nI p) g = some (nI (rO R p)) := by
  have h6 := hR.p
  obtain ⟨⟨hL, e18, -⟩, -, h8⟩ := h
  unfold f_X12_homeAt_60
  rw [e18, i6, xg_in (by omega) (by decide), nI_clamp (by omega), (h8 p hp).2.1]
theorem r_farFrom (h : jR L R ρ c g) (hR : rOK R) {t : Nat} (ht : t < 7) : f_X12_farFrom_60 (nI t) g = some (nI (sD R c t (rC R))) := by
  have hc := hR.c
  obtain ⟨⟨⟨hL, e18, eT, eR, eP, eC, eS⟩, -, -⟩, -, -, h4⟩ := h
  unfold f_X12_farFrom_60
  rw [e18, xg_in hL (by decide), nI_clamp (show L < 2 ^ 31 by omega), eC, i7', xg_in (by omega) (by decide), nI_clamp (by omega), h4 t _ ht hc]
theorem r_farOf (h : jR L R ρ c g) (hR : rOK R) {p : Nat} (hp : p < rP R) : f_X12_farOf_60 (nI p) g = some (nI (sD R c (rO R p) (rC R))) := by
  have := hR.o hp
  have := hR.t
  unfold f_X12_farOf_60
  rw [r_home h.1 hR hp, Option.bind_some, r_farFrom h hR (by omega), Option.bind_some]
theorem r_looks (h : jR L R ρ c g) (hR : rOK R) {p : Nat} (hp : p < rP R) (far : Int32) : ∃ w, f_X12_looks_60 (nI p) far g = some w ∧ (∀ q, q < 9 → w.1 91 q = lvV R ρ far p 0 q) ∧ xfrm [(91, none)] g w := by
  have h6 := hR.p
  obtain ⟨⟨⟨hL, e18, eT, eR, eP, eC, eS⟩, -, h8⟩, -, h3, -⟩ := id h
  have there := bq_lt (fun p => decide (ρ p = nI (rC R))) (rP R)
  have h64 : 2 ^ rP R ≤ 2 ^ 6 := Nat.pow_le_pow_right (by decide) h6
  unfold f_X12_looks_60
  rw [e18, i6, a12, a18, a24, xg_t (by decide), xg_in (show 12 + p < 40 by omega) (by decide), xg_t (by decide), xg_in (show 6 * L + p < 12 by omega) (by decide), xg_t (by decide), xg_in (show 18 + p < 40 by omega) (by decide), xg_t (by decide), xg_t (by decide), xg_t (by decide), xg_t (by decide), xg_t (by decide), nI_clamp (show 12 + p < 2 ^ 31 by omega), nI_clamp (show 18 + p < 2 ^ 31 by omega), nI_clamp (show 24 + p < 2 ^ 31 by omega), nI_clamp (show 6 * L + p < 2 ^ 31 by omega), h3 (12 + p) (by omega), h3 (18 + p) (by omega), h3 (24 + p) (by omega), (h8 p hp).1, show (37 : Int32).toNatClampNeg = 37 from rfl, h3 37 (by decide)]
  obtain ⟨w, e⟩ : ∃ w, w = (xupd (xupd (xupd (xupd (xupd (xupd (xupd g.1 91 (0 : Int32).toNatClampNeg far) 91 (1 : Int32).toNatClampNeg (ρ (12 + p))) 91 (2 : Int32).toNatClampNeg (rH R p)) 91 (3 : Int32).toNatClampNeg (ρ (18 + p))) 91 (4 : Int32).toNatClampNeg (ρ 37)) 91 (5 : Int32).toNatClampNeg (nI p)) 91 (6 : Int32).toNatClampNeg 0, g.2) := ⟨_, rfl⟩
  have hf : xfrm [(91, none)] g w := e ▸ xfrm.up (xfrm.up (xfrm.up (xfrm.up (xfrm.up (xfrm.up (xfrm.up xfrm.rf rfl) rfl) rfl) rfl) rfl) rfl) rfl
  have jw : jR L R ρ c w := h.ag (hf.agr rfl)
  rw [← e, r_there jw hR, Option.bind_some, r_bits (by show bq _ _ < _; omega), Option.bind_some, xg_t (by decide), xg_in' (show 24 + p < 40 by omega) (by decide), xg_t (by decide)]
  refine ⟨_, rfl, fun q hq => ?_, ?_⟩
  · rcases (show q = 0 ∨ q = 1 ∨ q = 2 ∨ q = 3 ∨ q = 4 ∨ q = 5 ∨ q = 6 ∨ q = 7 ∨ q = 8 by omega) with rfl | rfl | rfl | rfl | rfl | rfl | rfl | rfl | rfl <;> rfl
  · exact xfrm.up (xfrm.up (xfrm.up (xfrm.up (xfrm.up (xfrm.up (xfrm.up (xfrm.up (xfrm.up xfrm.rf rfl) rfl) rfl) rfl) rfl) rfl) rfl) rfl) rfl
def kLk : List (Nat × Option Nat) := [(91, none), (92, none), (60, some 49)]
theorem r_claimBy (h : jR L R ρ c g) (hR : rOK R) {p : Nat} (hp : p < rP R) (far : Int32) : ∃ w, f_X12_claimBy_60 (nI p) far g = some (sClaim R ρ far p, w) ∧ xfrm kLk g w := by
  obtain ⟨w, e, hv, hf⟩ := r_looks h hR hp far
  have jw := h.ag (hf.agr (C := kJr) rfl)
  obtain ⟨w2, e2, hf2⟩ := r_tells jw.2.1 hR jw.1.1.1 jw.1.1.2.1 (k := 0) (by decide) (plain := far) (by rfl) hv
  refine ⟨w2, ?_, fun q k hq => ?_⟩
  · unfold f_X12_claimBy_60
    rw [e, Option.bind_some, show f_X12_lawTells_60 0 far w = some (lvLaw (lvV R ρ far p 0) (rL R 0), w2) from e2]
    rfl
  · obtain ⟨a1, a2⟩ := hf2 q k (xsubf_ok rfl hq)
    obtain ⟨b1, b2⟩ := hf q k (xsubf_ok rfl hq)
    exact ⟨a1.trans b1, a2.trans b2⟩
theorem r_toldBy (h : jR L R ρ c g) (hR : rOK R) {p k : Nat} (hp : p < rP R) (hk : k < 4) (hk0 : k ≠ 0) (far : Int32) : ∃ w, f_X12_toldBy_60 (nI p) far (nI k) g = some (lvLaw (lvV R ρ far p (sClaim R ρ far p)) (rL R k), w) ∧ xfrm kLk g w := by
  obtain ⟨w, e, hf⟩ := r_claimBy h hR hp far
  have jw := h.ag (hf.agr (C := kJr) rfl)
  obtain ⟨w2, e2, hv, hf2⟩ := r_looks jw hR hp far
  obtain ⟨w3, e3⟩ : ∃ v, v = (xupd w2.1 91 6 (sClaim R ρ far p), w2.2) := ⟨_, rfl⟩
  have hf3 : xfrm kLk g w3 := fun q k hq => by
    obtain ⟨a1, a2⟩ := (e3 ▸ xfrm.up hf2 rfl : xfrm [(91, none)] w w3) q k (xsubf_ok rfl hq)
    obtain ⟨b1, b2⟩ := hf q k hq
    exact ⟨a1.trans b1, a2.trans b2⟩
  have jw3 := h.ag (hf3.agr (C := kJr) rfl)
  have hv3 : ∀ q, q < 9 → w3.1 91 q = lvV R ρ far p (sClaim R ρ far p) q := by
    intro q hq
    subst e3
    dsimp only
    rw [xu_at]
    by_cases q6 : q = 6
    · subst q6
      rw [if_pos ⟨rfl, rfl⟩]
      rfl
    · rw [if_neg (fun z => q6 z.2), hv q hq]
      unfold lvV
      rw [if_neg q6, if_neg q6]
  have go : ∀ plain : Int32, plain = (if k < 2 then far else if k = 2 then 1 else 0) → ∃ v, f_X12_lawTells_60 (nI k) plain w3 = some (lvLaw (lvV R ρ far p (sClaim R ρ far p)) (rL R k), v) ∧ xfrm kLk g v := by
    intro plain hpl
    obtain ⟨v, q1, q2⟩ := r_tells (vars := lvV R ρ far p (sClaim R ρ far p)) jw3.2.1 hR jw3.1.1.1 jw3.1.1.2.1 hk (plain := plain) (by rw [hpl]; rfl) hv3
    exact ⟨v, q1, hf3.tr q2 rfl⟩
  unfold f_X12_toldBy_60
  rw [e, Option.bind_some]
  dsimp only
  rw [e2, Option.bind_some, xg_t (by decide), show (6 : Int32).toNatClampNeg = 6 from rfl, ← e3]
  rcases (show k = 1 ∨ k = 2 ∨ k = 3 by omega) with rfl | rfl | rfl
  · obtain ⟨v, q1, q2⟩ := go far rfl
    rw [if_pos (show nI 1 = (1 : Int32) from rfl), q1]
    exact ⟨v, rfl, q2⟩
  · obtain ⟨v, q1, q2⟩ := go 1 rfl
    rw [if_neg (by decide), if_pos (show nI 2 = (2 : Int32) from rfl), q1]
    exact ⟨v, rfl, q2⟩
  · obtain ⟨v, q1, q2⟩ := go 0 rfl
    rw [if_neg (by decide), if_neg (by decide), q1]
    exact ⟨v, rfl, q2⟩
theorem r_strokes (h : jR L R ρ c g) (hR : rOK R) {p : Nat} (hp : p < rP R) (far : Int32) : ∃ w, f_X12_strokesBy_60 (nI p) far g = some (sLaw R ρ far p 1, w) ∧ xfrm kLk g w := by
  obtain ⟨w, e, hf⟩ := r_toldBy h hR hp (k := 1) (by decide) (by decide) far
  refine ⟨w, ?_, hf⟩
  unfold f_X12_strokesBy_60
  rw [show f_X12_toldBy_60 (nI p) far 1 g = _ from e]
  rfl
theorem r_gifts (h : jR L R ρ c g) (hR : rOK R) {p : Nat} (hp : p < rP R) : ∃ w, f_X12_giftsOf_60 (nI p) g = some (sLaw R ρ (nI (sD R c (rO R p) (rC R))) p 2, w) ∧ xfrm kLk g w := by
  obtain ⟨w, e, hf⟩ := r_toldBy h hR hp (k := 2) (by decide) (by decide) (nI (sD R c (rO R p) (rC R)))
  refine ⟨w, ?_, hf⟩
  unfold f_X12_giftsOf_60
  rw [r_farOf h hR hp, Option.bind_some, show f_X12_toldBy_60 (nI p) _ 2 g = _ from e]
  rfl
theorem r_doubts (h : jR L R ρ c g) (hR : rOK R) {p : Nat} (hp : p < rP R) : ∃ w, f_X12_doubtsOf_60 (nI p) g = some (sLaw R ρ (nI (sD R c (rO R p) (rC R))) p 3, w) ∧ xfrm kLk g w := by
  obtain ⟨w, e, hf⟩ := r_toldBy h hR hp (k := 3) (by decide) (by decide) (nI (sD R c (rO R p) (rC R)))
  refine ⟨w, ?_, hf⟩
  unfold f_X12_doubtsOf_60
  rw [r_farOf h hR hp, Option.bind_some, show f_X12_toldBy_60 (nI p) _ 3 g = _ from e]
  rfl
theorem r_claimOf (h : jR L R ρ c g) (hR : rOK R) {p : Nat} (hp : p < rP R) : ∃ w, f_X12_claimOf_60 (nI p) g = some (sLaw R ρ (nI (sD R c (rO R p) (rC R))) p 0, w) ∧ xfrm kLk g w := by
  obtain ⟨w, e, hf⟩ := r_claimBy h hR hp (nI (sD R c (rO R p) (rC R)))
  refine ⟨w, ?_, hf⟩
  unfold f_X12_claimOf_60
  rw [r_farOf h hR hp, Option.bind_some, e]
  rfl
end
