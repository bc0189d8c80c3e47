/-! what the laws say of a person: the class and the reference -/
theorem xp0 {g : xG} {q : Nat} {v : Int32} : xput g q 9 0 v = (xupd g.1 q 0 v, g.2) := xput_in (i := 0) (by decide) (by decide)
theorem xp1 {g : xG} {q : Nat} {v : Int32} : xput g q 9 1 v = (xupd g.1 q 1 v, g.2) := xput_in (i := 1) (by decide) (by decide)
theorem xp2 {g : xG} {q : Nat} {v : Int32} : xput g q 9 2 v = (xupd g.1 q 2 v, g.2) := xput_in (i := 2) (by decide) (by decide)
theorem xp3 {g : xG} {q : Nat} {v : Int32} : xput g q 9 3 v = (xupd g.1 q 3 v, g.2) := xput_in (i := 3) (by decide) (by decide)
theorem xp4 {g : xG} {q : Nat} {v : Int32} : xput g q 9 4 v = (xupd g.1 q 4 v, g.2) := xput_in (i := 4) (by decide) (by decide)
theorem xp5 {g : xG} {q : Nat} {v : Int32} : xput g q 9 5 v = (xupd g.1 q 5 v, g.2) := xput_in (i := 5) (by decide) (by decide)
theorem xp6 {g : xG} {q : Nat} {v : Int32} : xput g q 9 6 v = (xupd g.1 q 6 v, g.2) := xput_in (i := 6) (by decide) (by decide)
theorem xp7 {g : xG} {q : Nat} {v : Int32} : xput g q 9 7 v = (xupd g.1 q 7 v, g.2) := xput_in (i := 7) (by decide) (by decide)
theorem xp8 {g : xG} {q : Nat} {v : Int32} : xput g q 9 8 v = (xupd g.1 q 8 v, g.2) := xput_in (i := 8) (by decide) (by decide)
theorem c_most : ∀ k, k < 4 → f_X2_mostOf (nI k) = lMost k := by decide +kernel
theorem l_most0 : ∀ k, k < 4 → (0 : Int32) ≤ lMost k := by decide +kernel

/-! ===== judge 44 on the state 48 ===== -/
def jC_44_48 (R : pR) (ρ : Nat → Int32) (c : Nat) (g : xG) : Prop := rmC g R ∧ lwC g R ∧ g.1 38 2 = nI c ∧ Mt 39 (sD R c) g ∧ stF (rP R) ρ (g.1 49)
def kJ_44_48 : List (Nat × Option Nat) := kRm ++ kLw ++ [(38, some 2), (39, none), (49, none)]
theorem jC_44_48.ag {R : pR} {ρ : Nat → Int32} {c : Nat} {g w : xG} (h : jC_44_48 R ρ c g) (a : xagr kJ_44_48 g w) : jC_44_48 R ρ c w := by
  obtain ⟨h1, h2, h3, h4, h5⟩ := h
  refine ⟨h1.ag fun q k hq => a q k ?_, h2.ag fun q k hq => a q k ?_, (a 38 2 rfl).1.trans h3, fun x y hx hy => (a 39 _ rfl).1.trans (h4 x y hx hy), ?_⟩
  · unfold kJ_44_48 xcov at *
    rw [List.any_append, List.any_append, hq]
    rfl
  · unfold kJ_44_48 xcov at *
    rw [List.any_append, List.any_append, hq, Bool.or_true]
    rfl
  · rw [show w.1 49 = g.1 49 from funext fun k => (a 49 k rfl).1]
    exact h5
theorem c_lawFrom_44_48 {R : pR} {ρ : Nat → Int32} {c : Nat} (hR : rOK R) {g : xG} (h : jC_44_48 R ρ c g) {p t k : Nat} (hp : p < rP R) (ht : t < rT R) (hk : k < 4) : ∃ w, f_X1_lawFrom_44_48 (nI p) (nI t) (nI k) g = some (sLaw R ρ (nI (sD R c t (rC R))) p k, w) ∧ xfrm [(16, none), (45, none)] g w := by
  have h6 := hR.p
  obtain ⟨h1, h2, h3, h4, h5⟩ := id h
  have there := bq_lt (fun p => decide (ρ p = nI (rC R))) (rP R)
  have h64 : 2 ^ rP R ≤ 2 ^ 6 := Nat.pow_le_pow_right (by decide) h6
  have key : ∀ w : xG, xfrm [(45, none)] g w → jC_44_48 R ρ c w := fun w hw => h.ag (hw.agr rfl)
  simp only [f_X1_lawFrom_44_48, xl_e]
  rw [show f_X4_capital_3 g = nI (rC R) from h1.1.2.2.2.1, c_between38 h1 hR h4 ht (hR.cT ht), xp0]
  obtain ⟨w1, e1⟩ : ∃ w, w = (xupd g.1 45 0 (nI (sD R c t (rC R))), g.2) := ⟨_, rfl⟩
  rw [← e1]
  have f1 : xfrm [(45, none)] g w1 := e1 ▸ xfrm.up xfrm.rf rfl
  have j1 := key w1 f1
  rw [c_wa48 (j1.2.2.2.2) h6 hp, xp1]
  obtain ⟨w2, e2⟩ : ∃ w, w = (xupd w1.1 45 1 (ρ (12 + p)), w1.2) := ⟨_, rfl⟩
  rw [← e2]
  have f2 : xfrm [(45, none)] g w2 := e2 ▸ xfrm.up f1 rfl
  have j2 := key w2 f2
  rw [c_hon j2.1 hR hp, xp2]
  obtain ⟨w3, e3⟩ : ∃ w, w = (xupd w2.1 45 2 (rH R p), w2.2) := ⟨_, rfl⟩
  rw [← e3]
  have f3 : xfrm [(45, none)] g w3 := e3 ▸ xfrm.up f2 rfl
  have j3 := key w3 f3
  rw [c_ru48 (j3.2.2.2.2) h6 hp, xp3]
  obtain ⟨w4, e4⟩ : ∃ w, w = (xupd w3.1 45 3 (ρ (18 + p)), w3.2) := ⟨_, rfl⟩
  rw [← e4]
  have f4 : xfrm [(45, none)] g w4 := e4 ▸ xfrm.up f3 rfl
  have j4 := key w4 f4
  rw [c_day48 (j4.2.2.2.2), xp4]
  obtain ⟨w5, e5⟩ : ∃ w, w = (xupd w4.1 45 4 (ρ 37), w4.2) := ⟨_, rfl⟩
  rw [← e5]
  have f5 : xfrm [(45, none)] g w5 := e5 ▸ xfrm.up f4 rfl
  have j5 := key w5 f5
  rw [xp5]
  obtain ⟨w6, e6⟩ : ∃ w, w = (xupd w5.1 45 5 (nI p), w5.2) := ⟨_, rfl⟩
  rw [← e6]
  have f6 : xfrm [(45, none)] g w6 := e6 ▸ xfrm.up f5 rfl
  have j6 := key w6 f6
  rw [xp6]
  obtain ⟨w7, e7⟩ : ∃ w, w = (xupd w6.1 45 6 (0), w6.2) := ⟨_, rfl⟩
  rw [← e7]
  have f7 : xfrm [(45, none)] g w7 := e7 ▸ xfrm.up f6 rfl
  have j7 := key w7 f7
  rw [show f_X4_capital_3 w7 = nI (rC R) from j7.1.1.2.2.2.1, show f_X4_people_3 w7 = nI (rP R) from j7.1.1.2.2.1, c_peopleIn48 j7.2.2.2.2 h6, Option.bind_some, c_bits _ (by omega), xp7]
  obtain ⟨w9, e9⟩ : ∃ w, w = (xupd w7.1 45 7 (nI (pcn (sThere R ρ) 10)), w7.2) := ⟨_, rfl⟩
  rw [show (xupd w7.1 45 7 (nI (pcn (bq (fun p => decide (ρ p = nI (rC R))) (rP R)) 10)), w7.2) = w9 from e9.symm]
  have f9 : xfrm [(45, none)] g w9 := e9 ▸ xfrm.up f7 rfl
  have j9 := key w9 f9
  rw [c_pu48 j9.2.2.2.2 h6 hp, xp8]
  obtain ⟨w10, e10⟩ : ∃ w, w = (xupd w9.1 45 8 (ρ (24 + p)), w9.2) := ⟨_, rfl⟩
  rw [← e10]
  have f10 : xfrm [(45, none)] g w10 := e10 ▸ xfrm.up f9 rfl
  have j10 := key w10 f10
  have hv : ∀ q, q < 9 → w10.1 45 q = lvV R ρ (nI (sD R c t (rC R))) p 0 q := by
    intro q hq
    subst e10 e9 e7 e6 e5 e4 e3 e2 e1
    rcases (show q = 0 ∨ q = 1 ∨ q = 2 ∨ q = 3 ∨ q = 4 ∨ q = 5 ∨ q = 6 ∨ q = 7 ∨ q = 8 by omega) with rfl | rfl | rfl | rfl | rfl | rfl | rfl | rfl | rfl <;> rfl
  obtain ⟨w11, e11, f11⟩ := c_answer45 j10.2.1 hR (k := 0) (by decide) hv
  rw [show f_X2_answer_12_45 0 w10 = some (lvLaw (lvV R ρ (nI (sD R c t (rC R))) p 0) (rL R 0), w11) from e11, Option.bind_some]
  dsimp only
  have f12 : xfrm [(16, none), (45, none)] g w11 := fun q k hq => by
    obtain ⟨a1, a2⟩ := f11 q k (xsubf_ok rfl hq)
    obtain ⟨b1, b2⟩ := f10 q k (xsubf_ok rfl hq)
    exact ⟨a1.trans b1, a2.trans b2⟩
  have ec : f_X1_heldTo (f_X2_mostOf 0) (lvLaw (lvV R ρ (nI (sD R c t (rC R))) p 0) (rL R 0)) = sClaim R ρ (nI (sD R c t (rC R))) p := held_in _ _ (by decide)
  rw [ec]
  unfold sLaw
  by_cases hk0 : k = 0
  · subst hk0
    rw [if_pos (show nI 0 = (0 : Int32) from rfl), if_pos rfl]
    exact ⟨w11, rfl, f12⟩
  · rw [if_neg (fun e => hk0 ((nI_eq (by omega) (by decide)).mp (e.trans nI_0.symm))), if_neg hk0, xp6]
    obtain ⟨w12, e12⟩ : ∃ w, w = (xupd w11.1 45 6 (sClaim R ρ (nI (sD R c t (rC R))) p), w11.2) := ⟨_, rfl⟩
    rw [← e12]
    have f13 : xfrm [(16, none), (45, none)] g w12 := e12 ▸ xfrm.up f12 rfl
    have hv2 : ∀ q, q < 9 → w12.1 45 q = lvV R ρ (nI (sD R c t (rC R))) p (sClaim R ρ (nI (sD R c t (rC R))) p) q := by
      intro q hq
      subst e12
      dsimp only
      rw [xu_at]
      by_cases q6 : q = 6
      · subst q6
        rw [if_pos ⟨rfl, rfl⟩]
        rfl
      · rw [if_neg (fun z => q6 z.2), (f11 45 q rfl).1, hv q hq]
        unfold lvV
        rw [if_neg q6, if_neg q6]
    obtain ⟨w13, e13, f14⟩ := c_answer45 (h2.ag (f13.agr rfl)) hR hk hv2
    rw [e13, Option.bind_some, c_most k hk, held_in _ _ (l_most0 k hk)]
    exact ⟨w13, rfl, f13.tr f14 rfl⟩
theorem c_lawNow_44_48 {R : pR} {ρ : Nat → Int32} {c : Nat} (hR : rOK R) {g : xG} (h : jC_44_48 R ρ c g) {p k : Nat} (hp : p < rP R) (hk : k < 4) : ∃ w, f_X1_lawNow_44_48 (nI p) (nI k) g = some (sLaw R ρ (nI (sD R c (rO R p) (rC R))) p k, w) ∧ xfrm [(16, none), (45, none)] g w := by
  obtain ⟨w, e, f⟩ := c_lawFrom_44_48 hR h hp (hR.o hp) hk
  refine ⟨w, ?_, f⟩
  unfold f_X1_lawNow_44_48
  rw [c_home h.1 hR hp, e]
  rfl

/-! ===== judge 44 on the state 50 ===== -/
def jC_44_50 (R : pR) (ρ : Nat → Int32) (c : Nat) (g : xG) : Prop := rmC g R ∧ lwC g R ∧ g.1 38 2 = nI c ∧ Mt 39 (sD R c) g ∧ stF (rP R) ρ (g.1 51)
def kJ_44_50 : List (Nat × Option Nat) := kRm ++ kLw ++ [(38, some 2), (39, none), (51, none)]
theorem jC_44_50.ag {R : pR} {ρ : Nat → Int32} {c : Nat} {g w : xG} (h : jC_44_50 R ρ c g) (a : xagr kJ_44_50 g w) : jC_44_50 R ρ c w := by
  obtain ⟨h1, h2, h3, h4, h5⟩ := h
  refine ⟨h1.ag fun q k hq => a q k ?_, h2.ag fun q k hq => a q k ?_, (a 38 2 rfl).1.trans h3, fun x y hx hy => (a 39 _ rfl).1.trans (h4 x y hx hy), ?_⟩
  · unfold kJ_44_50 xcov at *
    rw [List.any_append, List.any_append, hq]
    rfl
  · unfold kJ_44_50 xcov at *
    rw [List.any_append, List.any_append, hq, Bool.or_true]
    rfl
  · rw [show w.1 51 = g.1 51 from funext fun k => (a 51 k rfl).1]
    exact h5
theorem c_lawFrom_44_50 {R : pR} {ρ : Nat → Int32} {c : Nat} (hR : rOK R) {g : xG} (h : jC_44_50 R ρ c g) {p t k : Nat} (hp : p < rP R) (ht : t < rT R) (hk : k < 4) : ∃ w, f_X1_lawFrom_44_50 (nI p) (nI t) (nI k) g = some (sLaw R ρ (nI (sD R c t (rC R))) p k, w) ∧ xfrm [(16, none), (45, none)] g w := by
  have h6 := hR.p
  obtain ⟨h1, h2, h3, h4, h5⟩ := id h
  have there := bq_lt (fun p => decide (ρ p = nI (rC R))) (rP R)
  have h64 : 2 ^ rP R ≤ 2 ^ 6 := Nat.pow_le_pow_right (by decide) h6
  have key : ∀ w : xG, xfrm [(45, none)] g w → jC_44_50 R ρ c w := fun w hw => h.ag (hw.agr rfl)
  simp only [f_X1_lawFrom_44_50, xl_e]
  rw [show f_X4_capital_3 g = nI (rC R) from h1.1.2.2.2.1, c_between38 h1 hR h4 ht (hR.cT ht), xp0]
  obtain ⟨w1, e1⟩ : ∃ w, w = (xupd g.1 45 0 (nI (sD R c t (rC R))), g.2) := ⟨_, rfl⟩
  rw [← e1]
  have f1 : xfrm [(45, none)] g w1 := e1 ▸ xfrm.up xfrm.rf rfl
  have j1 := key w1 f1
  rw [c_wa50 (j1.2.2.2.2) h6 hp, xp1]
  obtain ⟨w2, e2⟩ : ∃ w, w = (xupd w1.1 45 1 (ρ (12 + p)), w1.2) := ⟨_, rfl⟩
  rw [← e2]
  have f2 : xfrm [(45, none)] g w2 := e2 ▸ xfrm.up f1 rfl
  have j2 := key w2 f2
  rw [c_hon j2.1 hR hp, xp2]
  obtain ⟨w3, e3⟩ : ∃ w, w = (xupd w2.1 45 2 (rH R p), w2.2) := ⟨_, rfl⟩
  rw [← e3]
  have f3 : xfrm [(45, none)] g w3 := e3 ▸ xfrm.up f2 rfl
  have j3 := key w3 f3
  rw [c_ru50 (j3.2.2.2.2) h6 hp, xp3]
  obtain ⟨w4, e4⟩ : ∃ w, w = (xupd w3.1 45 3 (ρ (18 + p)), w3.2) := ⟨_, rfl⟩
  rw [← e4]
  have f4 : xfrm [(45, none)] g w4 := e4 ▸ xfrm.up f3 rfl
  have j4 := key w4 f4
  rw [c_day50 (j4.2.2.2.2), xp4]
  obtain ⟨w5, e5⟩ : ∃ w, w = (xupd w4.1 45 4 (ρ 37), w4.2) := ⟨_, rfl⟩
  rw [← e5]
  have f5 : xfrm [(45, none)] g w5 := e5 ▸ xfrm.up f4 rfl
  have j5 := key w5 f5
  rw [xp5]
  obtain ⟨w6, e6⟩ : ∃ w, w = (xupd w5.1 45 5 (nI p), w5.2) := ⟨_, rfl⟩
  rw [← e6]
  have f6 : xfrm [(45, none)] g w6 := e6 ▸ xfrm.up f5 rfl
  have j6 := key w6 f6
  rw [xp6]
  obtain ⟨w7, e7⟩ : ∃ w, w = (xupd w6.1 45 6 (0), w6.2) := ⟨_, rfl⟩
  rw [← e7]
  have f7 : xfrm [(45, none)] g w7 := e7 ▸ xfrm.up f6 rfl
  have j7 := key w7 f7
  rw [show f_X4_capital_3 w7 = nI (rC R) from j7.1.1.2.2.2.1, show f_X4_people_3 w7 = nI (rP R) from j7.1.1.2.2.1, c_peopleIn50 j7.2.2.2.2 h6, Option.bind_some, c_bits _ (by omega), xp7]
  obtain ⟨w9, e9⟩ : ∃ w, w = (xupd w7.1 45 7 (nI (pcn (sThere R ρ) 10)), w7.2) := ⟨_, rfl⟩
  rw [show (xupd w7.1 45 7 (nI (pcn (bq (fun p => decide (ρ p = nI (rC R))) (rP R)) 10)), w7.2) = w9 from e9.symm]
  have f9 : xfrm [(45, none)] g w9 := e9 ▸ xfrm.up f7 rfl
  have j9 := key w9 f9
  rw [c_pu50 j9.2.2.2.2 h6 hp, xp8]
  obtain ⟨w10, e10⟩ : ∃ w, w = (xupd w9.1 45 8 (ρ (24 + p)), w9.2) := ⟨_, rfl⟩
  rw [← e10]
  have f10 : xfrm [(45, none)] g w10 := e10 ▸ xfrm.up f9 rfl
  have j10 := key w10 f10
  have hv : ∀ q, q < 9 → w10.1 45 q = lvV R ρ (nI (sD R c t (rC R))) p 0 q := by
    intro q hq
    subst e10 e9 e7 e6 e5 e4 e3 e2 e1
    rcases (show q = 0 ∨ q = 1 ∨ q = 2 ∨ q = 3 ∨ q = 4 ∨ q = 5 ∨ q = 6 ∨ q = 7 ∨ q = 8 by omega) with rfl | rfl | rfl | rfl | rfl | rfl | rfl | rfl | rfl <;> rfl
  obtain ⟨w11, e11, f11⟩ := c_answer45 j10.2.1 hR (k := 0) (by decide) hv
  rw [show f_X2_answer_12_45 0 w10 = some (lvLaw (lvV R ρ (nI (sD R c t (rC R))) p 0) (rL R 0), w11) from e11, Option.bind_some]
  dsimp only
  have f12 : xfrm [(16, none), (45, none)] g w11 := fun q k hq => by
    obtain ⟨a1, a2⟩ := f11 q k (xsubf_ok rfl hq)
    obtain ⟨b1, b2⟩ := f10 q k (xsubf_ok rfl hq)
    exact ⟨a1.trans b1, a2.trans b2⟩
  have ec : f_X1_heldTo (f_X2_mostOf 0) (lvLaw (lvV R ρ (nI (sD R c t (rC R))) p 0) (rL R 0)) = sClaim R ρ (nI (sD R c t (rC R))) p := held_in _ _ (by decide)
  rw [ec]
  unfold sLaw
  by_cases hk0 : k = 0
  · subst hk0
    rw [if_pos (show nI 0 = (0 : Int32) from rfl), if_pos rfl]
    exact ⟨w11, rfl, f12⟩
  · rw [if_neg (fun e => hk0 ((nI_eq (by omega) (by decide)).mp (e.trans nI_0.symm))), if_neg hk0, xp6]
    obtain ⟨w12, e12⟩ : ∃ w, w = (xupd w11.1 45 6 (sClaim R ρ (nI (sD R c t (rC R))) p), w11.2) := ⟨_, rfl⟩
    rw [← e12]
    have f13 : xfrm [(16, none), (45, none)] g w12 := e12 ▸ xfrm.up f12 rfl
    have hv2 : ∀ q, q < 9 → w12.1 45 q = lvV R ρ (nI (sD R c t (rC R))) p (sClaim R ρ (nI (sD R c t (rC R))) p) q := by
      intro q hq
      subst e12
      dsimp only
      rw [xu_at]
      by_cases q6 : q = 6
      · subst q6
        rw [if_pos ⟨rfl, rfl⟩]
        rfl
      · rw [if_neg (fun z => q6 z.2), (f11 45 q rfl).1, hv q hq]
        unfold lvV
        rw [if_neg q6, if_neg q6]
    obtain ⟨w13, e13, f14⟩ := c_answer45 (h2.ag (f13.agr rfl)) hR hk hv2
    rw [e13, Option.bind_some, c_most k hk, held_in _ _ (l_most0 k hk)]
    exact ⟨w13, rfl, f13.tr f14 rfl⟩
theorem c_lawNow_44_50 {R : pR} {ρ : Nat → Int32} {c : Nat} (hR : rOK R) {g : xG} (h : jC_44_50 R ρ c g) {p k : Nat} (hp : p < rP R) (hk : k < 4) : ∃ w, f_X1_lawNow_44_50 (nI p) (nI k) g = some (sLaw R ρ (nI (sD R c (rO R p) (rC R))) p k, w) ∧ xfrm [(16, none), (45, none)] g w := by
  obtain ⟨w, e, f⟩ := c_lawFrom_44_50 hR h hp (hR.o hp) hk
  refine ⟨w, ?_, f⟩
  unfold f_X1_lawNow_44_50
  rw [c_home h.1 hR hp, e]
  rfl

/-! ===== judge 46 on the state 48 ===== -/
def jC_46_48 (R : pR) (ρ : Nat → Int32) (c : Nat) (g : xG) : Prop := rmC g R ∧ lwC g R ∧ g.1 40 2 = nI c ∧ Mt 41 (sD R c) g ∧ stF (rP R) ρ (g.1 49)
def kJ_46_48 : List (Nat × Option Nat) := kRm ++ kLw ++ [(40, some 2), (41, none), (49, none)]
theorem jC_46_48.ag {R : pR} {ρ : Nat → Int32} {c : Nat} {g w : xG} (h : jC_46_48 R ρ c g) (a : xagr kJ_46_48 g w) : jC_46_48 R ρ c w := by
  obtain ⟨h1, h2, h3, h4, h5⟩ := h
  refine ⟨h1.ag fun q k hq => a q k ?_, h2.ag fun q k hq => a q k ?_, (a 40 2 rfl).1.trans h3, fun x y hx hy => (a 41 _ rfl).1.trans (h4 x y hx hy), ?_⟩
  · unfold kJ_46_48 xcov at *
    rw [List.any_append, List.any_append, hq]
    rfl
  · unfold kJ_46_48 xcov at *
    rw [List.any_append, List.any_append, hq, Bool.or_true]
    rfl
  · rw [show w.1 49 = g.1 49 from funext fun k => (a 49 k rfl).1]
    exact h5
theorem c_lawFrom_46_48 {R : pR} {ρ : Nat → Int32} {c : Nat} (hR : rOK R) {g : xG} (h : jC_46_48 R ρ c g) {p t k : Nat} (hp : p < rP R) (ht : t < rT R) (hk : k < 4) : ∃ w, f_X1_lawFrom_46_48 (nI p) (nI t) (nI k) g = some (sLaw R ρ (nI (sD R c t (rC R))) p k, w) ∧ xfrm [(16, none), (47, none)] g w := by
  have h6 := hR.p
  obtain ⟨h1, h2, h3, h4, h5⟩ := id h
  have there := bq_lt (fun p => decide (ρ p = nI (rC R))) (rP R)
  have h64 : 2 ^ rP R ≤ 2 ^ 6 := Nat.pow_le_pow_right (by decide) h6
  have key : ∀ w : xG, xfrm [(47, none)] g w → jC_46_48 R ρ c w := fun w hw => h.ag (hw.agr rfl)
  simp only [f_X1_lawFrom_46_48, xl_e]
  rw [show f_X4_capital_3 g = nI (rC R) from h1.1.2.2.2.1, c_between40 h1 hR h4 ht (hR.cT ht), xp0]
  obtain ⟨w1, e1⟩ : ∃ w, w = (xupd g.1 47 0 (nI (sD R c t (rC R))), g.2) := ⟨_, rfl⟩
  rw [← e1]
  have f1 : xfrm [(47, none)] g w1 := e1 ▸ xfrm.up xfrm.rf rfl
  have j1 := key w1 f1
  rw [c_wa48 (j1.2.2.2.2) h6 hp, xp1]
  obtain ⟨w2, e2⟩ : ∃ w, w = (xupd w1.1 47 1 (ρ (12 + p)), w1.2) := ⟨_, rfl⟩
  rw [← e2]
  have f2 : xfrm [(47, none)] g w2 := e2 ▸ xfrm.up f1 rfl
  have j2 := key w2 f2
  rw [c_hon j2.1 hR hp, xp2]
  obtain ⟨w3, e3⟩ : ∃ w, w = (xupd w2.1 47 2 (rH R p), w2.2) := ⟨_, rfl⟩
  rw [← e3]
  have f3 : xfrm [(47, none)] g w3 := e3 ▸ xfrm.up f2 rfl
  have j3 := key w3 f3
  rw [c_ru48 (j3.2.2.2.2) h6 hp, xp3]
  obtain ⟨w4, e4⟩ : ∃ w, w = (xupd w3.1 47 3 (ρ (18 + p)), w3.2) := ⟨_, rfl⟩
  rw [← e4]
  have f4 : xfrm [(47, none)] g w4 := e4 ▸ xfrm.up f3 rfl
  have j4 := key w4 f4
  rw [c_day48 (j4.2.2.2.2), xp4]
  obtain ⟨w5, e5⟩ : ∃ w, w = (xupd w4.1 47 4 (ρ 37), w4.2) := ⟨_, rfl⟩
  rw [← e5]
  have f5 : xfrm [(47, none)] g w5 := e5 ▸ xfrm.up f4 rfl
  have j5 := key w5 f5
  rw [xp5]
  obtain ⟨w6, e6⟩ : ∃ w, w = (xupd w5.1 47 5 (nI p), w5.2) := ⟨_, rfl⟩
  rw [← e6]
  have f6 : xfrm [(47, none)] g w6 := e6 ▸ xfrm.up f5 rfl
  have j6 := key w6 f6
  rw [xp6]
  obtain ⟨w7, e7⟩ : ∃ w, w = (xupd w6.1 47 6 (0), w6.2) := ⟨_, rfl⟩
  rw [← e7]
  have f7 : xfrm [(47, none)] g w7 := e7 ▸ xfrm.up f6 rfl
  have j7 := key w7 f7
  rw [show f_X4_capital_3 w7 = nI (rC R) from j7.1.1.2.2.2.1, show f_X4_people_3 w7 = nI (rP R) from j7.1.1.2.2.1, c_peopleIn48 j7.2.2.2.2 h6, Option.bind_some, c_bits _ (by omega), xp7]
  obtain ⟨w9, e9⟩ : ∃ w, w = (xupd w7.1 47 7 (nI (pcn (sThere R ρ) 10)), w7.2) := ⟨_, rfl⟩
  rw [show (xupd w7.1 47 7 (nI (pcn (bq (fun p => decide (ρ p = nI (rC R))) (rP R)) 10)), w7.2) = w9 from e9.symm]
  have f9 : xfrm [(47, none)] g w9 := e9 ▸ xfrm.up f7 rfl
  have j9 := key w9 f9
  rw [c_pu48 j9.2.2.2.2 h6 hp, xp8]
  obtain ⟨w10, e10⟩ : ∃ w, w = (xupd w9.1 47 8 (ρ (24 + p)), w9.2) := ⟨_, rfl⟩
  rw [← e10]
  have f10 : xfrm [(47, none)] g w10 := e10 ▸ xfrm.up f9 rfl
  have j10 := key w10 f10
  have hv : ∀ q, q < 9 → w10.1 47 q = lvV R ρ (nI (sD R c t (rC R))) p 0 q := by
    intro q hq
    subst e10 e9 e7 e6 e5 e4 e3 e2 e1
    rcases (show q = 0 ∨ q = 1 ∨ q = 2 ∨ q = 3 ∨ q = 4 ∨ q = 5 ∨ q = 6 ∨ q = 7 ∨ q = 8 by omega) with rfl | rfl | rfl | rfl | rfl | rfl | rfl | rfl | rfl <;> rfl
  obtain ⟨w11, e11, f11⟩ := c_answer47 j10.2.1 hR (k := 0) (by decide) hv
  rw [show f_X2_answer_12_47 0 w10 = some (lvLaw (lvV R ρ (nI (sD R c t (rC R))) p 0) (rL R 0), w11) from e11, Option.bind_some]
  dsimp only
  have f12 : xfrm [(16, none), (47, none)] g w11 := fun q k hq => by
    obtain ⟨a1, a2⟩ := f11 q k (xsubf_ok rfl hq)
    obtain ⟨b1, b2⟩ := f10 q k (xsubf_ok rfl hq)
    exact ⟨a1.trans b1, a2.trans b2⟩
  have ec : f_X1_heldTo (f_X2_mostOf 0) (lvLaw (lvV R ρ (nI (sD R c t (rC R))) p 0) (rL R 0)) = sClaim R ρ (nI (sD R c t (rC R))) p := held_in _ _ (by decide)
  rw [ec]
  unfold sLaw
  by_cases hk0 : k = 0
  · subst hk0
    rw [if_pos (show nI 0 = (0 : Int32) from rfl), if_pos rfl]
    exact ⟨w11, rfl, f12⟩
  · rw [if_neg (fun e => hk0 ((nI_eq (by omega) (by decide)).mp (e.trans nI_0.symm))), if_neg hk0, xp6]
    obtain ⟨w12, e12⟩ : ∃ w, w = (xupd w11.1 47 6 (sClaim R ρ (nI (sD R c t (rC R))) p), w11.2) := ⟨_, rfl⟩
    rw [← e12]
    have f13 : xfrm [(16, none), (47, none)] g w12 := e12 ▸ xfrm.up f12 rfl
    have hv2 : ∀ q, q < 9 → w12.1 47 q = lvV R ρ (nI (sD R c t (rC R))) p (sClaim R ρ (nI (sD R c t (rC R))) p) q := by
      intro q hq
      subst e12
      dsimp only
      rw [xu_at]
      by_cases q6 : q = 6
      · subst q6
        rw [if_pos ⟨rfl, rfl⟩]
        rfl
      · rw [if_neg (fun z => q6 z.2), (f11 47 q rfl).1, hv q hq]
        unfold lvV
        rw [if_neg q6, if_neg q6]
    obtain ⟨w13, e13, f14⟩ := c_answer47 (h2.ag (f13.agr rfl)) hR hk hv2
    rw [e13, Option.bind_some, c_most k hk, held_in _ _ (l_most0 k hk)]
    exact ⟨w13, rfl, f13.tr f14 rfl⟩
theorem c_lawNow_46_48 {R : pR} {ρ : Nat → Int32} {c : Nat} (hR : rOK R) {g : xG} (h : jC_46_48 R ρ c g) {p k : Nat} (hp : p < rP R) (hk : k < 4) : ∃ w, f_X1_lawNow_46_48 (nI p) (nI k) g = some (sLaw R ρ (nI (sD R c (rO R p) (rC R))) p k, w) ∧ xfrm [(16, none), (47, none)] g w := by
  obtain ⟨w, e, f⟩ := c_lawFrom_46_48 hR h hp (hR.o hp) hk
  refine ⟨w, ?_, f⟩
  unfold f_X1_lawNow_46_48
  rw [c_home h.1 hR hp, e]
  rfl
