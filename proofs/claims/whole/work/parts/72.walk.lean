/-! one walks: both -/
def sWkO (R : pR) (p : Nat) (ρ : Nat → Int32) : Option (Nat × Nat) → Nat → Int32
  | none => ρ
  | some (r, _) => upd (upd (upd ρ p (nI (oth R r (ρ p).toNatClampNeg))) (6 + p) (if nI (oth R r (ρ p).toNatClampNeg) = ρ (6 + p) then -2 else ρ (6 + p))) (12 + p) (if nI (oth R r (ρ p).toNatClampNeg) = nI (rO R p) then 0 else ρ (12 + p) + nI (rM R r))
def sRdO (R : pR) (c p : Nat) (ρ : Nat → Int32) : Option (Nat × Nat) := if ρ (6 + p) < 0 then none else sRd R c (ρ p).toNatClampNeg (ρ (6 + p)).toNatClampNeg (rR R)
def sWk (R : pR) (c p : Nat) (ρ : Nat → Int32) : Nat → Int32 := sWkO R p ρ (sRdO R c p ρ)
theorem sWk_ne (R : pR) (c p : Nat) (ρ : Nat → Int32) {k : Nat} (h1 : k ≠ p) (h2 : k ≠ 6 + p) (h3 : k ≠ 12 + p) : sWk R c p ρ k = ρ k := by
  unfold sWk
  generalize sRdO R c p ρ = o
  match o with
  | none => rfl
  | some (r, v) =>
    simp only [sWkO, upd]
    rw [if_neg h3, if_neg h2, if_neg h1]
theorem sWk_18 (R : pR) (c p : Nat) (ρ : Nat → Int32) (hp : p < 6) {k : Nat} (hk : 18 ≤ k) : sWk R c p ρ k = ρ k := sWk_ne R c p ρ (by omega) (by omega) (by omega)
theorem sRdO_go {R : pR} {c p : Nat} {ρ : Nat → Int32} {t gl : Nat} (ht : ρ p = nI t) (hg : ρ (6 + p) = nI gl) (h7 : t < 2 ^ 31) (h8 : gl < 2 ^ 31) : sRdO R c p ρ = sRd R c t gl (rR R) := by
  unfold sRdO
  rw [ht, hg, if_neg (nI_pos h8), nI_clamp h7, nI_clamp h8]
theorem sRdO_no {R : pR} {c p : Nat} {ρ : Nat → Int32} (hg : ρ (6 + p) = -2) : sRdO R c p ρ = none := by
  unfold sRdO
  rw [hg, if_pos (by decide)]
theorem sWk_val {R : pR} {c p : Nat} {ρ : Nat → Int32} {t r v : Nat} (ht : ρ p = nI t) (h7 : t < 2 ^ 31) (h : sRdO R c p ρ = some (r, v)) : sWk R c p ρ = upd (upd (upd ρ p (nI (oth R r t))) (6 + p) (if nI (oth R r t) = ρ (6 + p) then -2 else ρ (6 + p))) (12 + p) (if nI (oth R r t) = nI (rO R p) then 0 else ρ (12 + p) + nI (rM R r)) := by
  unfold sWk
  rw [h]
  simp only [sWkO]
  rw [ht, nI_clamp h7]
theorem sRdO_lt {R : pR} {c p : Nat} {ρ : Nat → Int32} {r v : Nat} (h : sRdO R c p ρ = some (r, v)) : r < rR R := by
  unfold sRdO at h
  split at h
  · cases h
  · exact (sRd_lt _ h).1
theorem sWk_ok {R : pR} {c p : Nat} {ρ : Nat → Int32} (hR : rOK R) (ho : rowOK R ρ) (hp : p < rP R) : rowOK R (sWk R c p ρ) := by
  have h6 := hR.p
  have h7 := hR.t
  obtain ⟨o1, o2, o3⟩ := id ho
  obtain ⟨⟨t, ht, et⟩, eg, eb, eu⟩ := o2 p hp
  match hs : sRdO R c p ρ with
  | none =>
    unfold sWk
    rw [hs]
    exact ho
  | some (r, v) =>
    have hr := sRdO_lt hs
    have hoth := oth_lt (t := t) hR hr
    have key := sWk_val et (by omega) hs
    refine ⟨?_, fun q hq => ?_, fun q hq1 hq2 => ?_⟩
    · rw [sWk_18 R c p ρ (by omega) (by omega)]; exact o1
    · rw [sWk_18 R c p ρ (by omega) (show 18 ≤ 30 + q by omega), sWk_18 R c p ρ (by omega) (show 18 ≤ 24 + q by omega)]
      obtain ⟨a1, a2, a3, a4⟩ := o2 q hq
      by_cases e : q = p
      · subst e
        refine ⟨⟨oth R r t, hoth, ?_⟩, ?_, a3, a4⟩
        · rw [key]
          rw [pk_un (by omega), pk_un (by omega), pk_us]
        · rw [key]
          rw [pk_un (by omega), pk_us]
          split
          · exact .inl rfl
          · exact a2
      · rw [sWk_ne R c p ρ (k := q) (by omega) (by omega) (by omega), sWk_ne R c p ρ (k := 6 + q) (by omega) (by omega) (by omega)]
        exact ⟨a1, a2, a3, a4⟩
    · rw [sWk_18 R c p ρ (by omega) (show 18 ≤ 18 + q by omega), sWk_18 R c p ρ (by omega) (show 18 ≤ 24 + q by omega)]
      exact o3 q hq1 hq2
def sWks (R : pR) (c : Nat) (ρ : Nat → Int32) : Nat → Nat → Int32
  | 0 => ρ
  | p + 1 => sWk R c p (sWks R c ρ p)
theorem sWks_s (R : pR) (c : Nat) (ρ : Nat → Int32) (p : Nat) : sWks R c ρ (p + 1) = sWk R c p (sWks R c ρ p) := rfl
theorem sWks_ok {R : pR} {c : Nat} {ρ : Nat → Int32} (hR : rOK R) (ho : rowOK R ρ) : ∀ p, p ≤ rP R → rowOK R (sWks R c ρ p)
  | 0, _ => ho
  | p + 1, h => sWk_ok hR (sWks_ok hR ho p (by omega)) (by omega)
theorem sWks_18 (R : pR) (c : Nat) (ρ : Nat → Int32) {k : Nat} (hk : 18 ≤ k) : ∀ p, p ≤ 6 → sWks R c ρ p k = ρ k
  | 0, _ => rfl
  | p + 1, h => by rw [sWks_s, sWk_18 R c p _ (by omega) hk, sWks_18 R c ρ hk p (by omega)]
/-! rows of the state, one at a time -/
theorem sx_pl {P p : Nat} {ρ f : Nat → Int32} {v : Int32} (h : stF P ρ f) (h6 : P ≤ 6) (hp : p < P) : stF P (upd ρ p v) (upd f (5 + p) v) := stF_up h (by omega) (by omega) (by omega) (by omega) (by omega) (fun q hq => by omega) (fun q hq => by omega)
theorem sx_go {P p : Nat} {ρ f : Nat → Int32} {v : Int32} (h : stF P ρ f) (h6 : P ≤ 6) (hp : p < P) : stF P (upd ρ (6 + p) v) (upd f (11 + p) v) := stF_up h (by omega) (by omega) (by omega) (by omega) (by omega) (fun q hq => by omega) (fun q hq => by omega)
theorem sx_wa {P p : Nat} {ρ f : Nat → Int32} {v : Int32} (h : stF P ρ f) (h6 : P ≤ 6) (hp : p < P) : stF P (upd ρ (12 + p) v) (upd f (17 + p) v) := stF_up h (by omega) (by omega) (by omega) (by omega) (by omega) (fun q hq => by omega) (fun q hq => by omega)
theorem sx_ru {P p : Nat} {ρ f : Nat → Int32} {v : Int32} (h : stF P ρ f) (h6 : P ≤ 6) (hp : p < P) : stF P (upd ρ (18 + p) v) (upd f (23 + p) v) := stF_up h (by omega) (by omega) (by omega) (by omega) (by omega) (fun q hq => by omega) (fun q hq => by omega)
theorem sx_pu {P p : Nat} {ρ f : Nat → Int32} {v : Int32} (h : stF P ρ f) (h6 : P ≤ 6) (hp : p < P) : stF P (upd ρ (24 + p) v) (upd f (29 + p) v) := stF_up h (by omega) (by omega) (by omega) (by omega) (by omega) (fun q hq => by omega) (fun q hq => by omega)
theorem sx_day {P : Nat} {ρ f : Nat → Int32} {v : Int32} (h : stF P ρ f) (h6 : P ≤ 6) : stF P (upd ρ 37 v) (upd f 0 v) := stF_up h (by omega) (by omega) (by omega) (by omega) (by omega) (fun q hq => by omega) (fun q hq => by omega)
theorem sx_lr {P : Nat} {ρ f : Nat → Int32} {v : Int32} (h : stF P ρ f) (h6 : P ≤ 6) : stF P (upd ρ 38 v) (upd f 1 v) := stF_up h (by omega) (by omega) (by omega) (by omega) (by omega) (fun q hq => by omega) (fun q hq => by omega)
theorem sx_ls {P : Nat} {ρ f : Nat → Int32} {v : Int32} (h : stF P ρ f) (h6 : P ≤ 6) : stF P (upd ρ 39 v) (upd f 2 v) := stF_up h (by omega) (by omega) (by omega) (by omega) (by omega) (fun q hq => by omega) (fun q hq => by omega)
theorem sx_cl {P : Nat} {ρ f : Nat → Int32} {v : Int32} (h : stF P ρ f) (h6 : P ≤ 6) : stF P (upd ρ 36 v) (upd f 4 v) := stF_up h (by omega) (by omega) (by omega) (by omega) (by omega) (fun q hq => by omega) (fun q hq => by omega)
theorem sx_bar {P : Nat} {ρ f : Nat → Int32} {p : Nat} {b v : Int32} (h : stF P ρ f) (h6 : P ≤ 6) (hp : p < P) (hv : v = nI (bq (fun q => decide (upd ρ (30 + p) b (30 + q) = 1)) P)) : stF P (upd ρ (30 + p) b) (upd f 3 v) := by
  obtain ⟨⟨e0, e1, e2, e4, e3⟩, ep⟩ := h
  refine ⟨⟨?_, ?_, ?_, ?_, ?_⟩, fun q hq => ?_⟩
  · simp only [upd]; rw [if_neg (by omega), if_neg (by omega), e0]
  · simp only [upd]; rw [if_neg (by omega), if_neg (by omega), e1]
  · simp only [upd]; rw [if_neg (by omega), if_neg (by omega), e2]
  · simp only [upd]; rw [if_neg (by omega), if_neg (by omega), e4]
  · rw [show upd f 3 v 3 = v from if_pos rfl, hv]
  · obtain ⟨b1, b2, b3, b4, b5⟩ := ep q hq
    refine ⟨?_, ?_, ?_, ?_, ?_⟩
    · simp only [upd]; rw [if_neg (by omega), if_neg (by omega), b1]
    · simp only [upd]; rw [if_neg (by omega), if_neg (by omega), b2]
    · simp only [upd]; rw [if_neg (by omega), if_neg (by omega), b3]
    · simp only [upd]; rw [if_neg (by omega), if_neg (by omega), b4]
    · simp only [upd]; rw [if_neg (by omega), if_neg (by omega), b5]
theorem bq_set {f h : Nat → Bool} {n p : Nat} (hp : p < n) (h1 : h p = true) (h2 : ∀ q, q ≠ p → h q = f q) : bq f n ||| 2 ^ p = bq h n := by
  apply Nat.eq_of_testBit_eq
  intro k
  rw [Nat.testBit_or, bq_bit, bq_bit, Nat.testBit_two_pow]
  by_cases e : p = k
  · subst e
    rw [h1, decide_eq_true hp, decide_eq_true rfl, Bool.or_true, Bool.true_and]
  · rw [decide_eq_false e, Bool.or_false, h2 k (fun z => e z.symm)]
theorem bq_xor {f h : Nat → Bool} {n p : Nat} (hp : p < n) (h1 : h p = !(f p)) (h2 : ∀ q, q ≠ p → h q = f q) : bq f n ^^^ 2 ^ p = bq h n := by
  apply Nat.eq_of_testBit_eq
  intro k
  rw [Nat.testBit_xor, bq_bit, bq_bit, Nat.testBit_two_pow]
  by_cases e : p = k
  · subst e
    rw [h1, decide_eq_true hp, decide_eq_true rfl, Bool.true_and, Bool.true_and, Bool.xor_true]
  · rw [decide_eq_false e, Bool.xor_false, h2 k (fun z => e z.symm)]
theorem sx_in {P : Nat} {ρ f : Nat → Int32} {p : Nat} (h : stF P ρ f) (h6 : P ≤ 6) (hp : p < P) : stF P (upd ρ (30 + p) 1) (upd f 3 (nI (bq (fun q => decide (ρ (30 + q) = 1)) P) ||| f_X11_bit (nI p))) := by
  refine sx_bar h h6 hp ?_
  rw [bi_bit p (by omega), nb_or]
  congr 1
  refine bq_set hp ?_ (fun q hq => ?_)
  · simp [upd]
  · show decide (upd ρ (30 + p) 1 (30 + q) = 1) = decide (ρ (30 + q) = 1)
    rw [pk_un (by omega)]
/-! the class -/
theorem c_roadN38 {g : xG} {R : pR} (hR : rOK R) (h : rmC g R) {t y : Int32} (hy : y < 0) : f_X10_roadToward_38 t y g = some (-2) := by
  have h10 := hR.r
  unfold f_X10_roadToward_38
  refine lp (fun n i (s : Int32 × Int32) => f_X10_roadToward_38_9 g n t y s.1 s.2 i) (fun r s => s.1 = -2) (rR R) (fun o => o = some (-2)) ?_ ?_ xN 0 ((-2 : Int32), (0 : Int32)) (Nat.zero_le _) (by show rR R < 4000 + 0; omega) rfl
  · rintro n r ⟨b, m⟩ hr e1
    dsimp only at e1 ⊢
    refine .inl ⟨(b, m), ?_, e1⟩
    simp only [f_X10_roadToward_38_9]
    rw [show f_X4_roads_3 g = nI (rR R) from h.1.2.1, if_neg (nI_ge hr (by omega)), c_betweenN38 (.inr hy), nI_1]
    split
    · rfl
    · rw [if_pos (by decide)]
  · rintro n ⟨b, m⟩ e1
    dsimp only at e1 ⊢
    simp only [f_X10_roadToward_38_9]
    rw [show f_X4_roads_3 g = nI (rR R) from h.1.2.1, if_pos (nI_le (Nat.le_refl _) (by omega)), e1]

/-! on the state 48 -/
theorem c_set48 {g : xG} {p k : Nat} {v : Int32} (h : k + p < 35) : f_X6_setOf_48 (nI p) (nI k) v g = (xupd g.1 49 (k + p) v, g.2) := by
  unfold f_X6_setOf_48
  rw [xl_e, nI_add, xput_in h (by decide)]
theorem c_put48 {g : xG} {k : Nat} {v : Int32} (h : k < 35) : f_X6_set_48 (nI k) v g = (xupd g.1 49 k v, g.2) := by
  unfold f_X6_set_48
  rw [xl_e, xput_in h (by decide)]
theorem jC_44_48.up {R : pR} {ρ ρ' : Nat → Int32} {c : Nat} {g : xG} {j : Nat} {v : Int32} (h : jC_44_48 R ρ c g) (hs : stF (rP R) ρ' (upd (g.1 49) j v)) : jC_44_48 R ρ' c (xupd g.1 49 j v, g.2) := by
  obtain ⟨h1, h2, h3, h4, h5⟩ := h
  have f : xfrm [(49, none)] g (xupd g.1 49 j v, g.2) := xfrm.up xfrm.rf rfl
  refine ⟨h1.ag (f.agr rfl), h2.ag (f.agr rfl), ((f 38 2 rfl).1).trans h3, fun x y hx hy => ((f 39 _ rfl).1).trans (h4 x y hx hy), ?_⟩
  rw [show (xupd g.1 49 j v, g.2).1 49 = upd (g.1 49) j v from @xupd_same g.1 49 j v]
  exact hs
theorem c_w100_48 {R : pR} {ρ : Nat → Int32} {c : Nat} {g : xG} (hR : rOK R) (h : jC_44_48 R ρ c g) {p r : Nat} (hp : p < rP R) (hr : r < rR R) (l7 s0 : Int32) : ∃ w, f_X1_walk_44_48_100 (nI p) (nI r) l7 s0 11 (nI p) g = some w ∧ jC_44_48 R (upd (upd ρ (6 + p) s0) (12 + p) (if l7 = 0 then ρ (12 + p) + nI (rM R r) else 0)) c w := by
  have h6 := hR.p
  unfold f_X1_walk_44_48_100
  rw [xl_e, show f_X6_setOf_48 (nI p) 11 s0 g = _ from c_set48 (k := 11) (by omega)]
  have j1 : jC_44_48 R (upd ρ (6 + p) s0) c (xupd g.1 49 (11 + p) s0, g.2) := h.up (sx_go h.2.2.2.2 h6 hp)
  obtain ⟨w1, e1⟩ : ∃ w, w = (xupd g.1 49 (11 + p) s0, g.2) := ⟨_, rfl⟩
  rw [← e1] at j1 ⊢
  rw [c_wa48 j1.2.2.2.2 h6 hp, c_mil j1.1 hR hr, show upd ρ (6 + p) s0 (12 + p) = ρ (12 + p) from if_neg (by omega)]
  by_cases z : l7 = 0
  · rw [if_pos z, if_pos z, xl_e, show f_X6_setOf_48 (nI p) 17 _ w1 = _ from c_set48 (k := 17) (by omega)]
    exact ⟨_, rfl, j1.up (sx_wa j1.2.2.2.2 h6 hp)⟩
  · rw [if_neg z, if_neg z, xl_e, show f_X6_setOf_48 (nI p) 17 _ w1 = _ from c_set48 (k := 17) (by omega)]
    exact ⟨_, rfl, j1.up (sx_wa j1.2.2.2.2 h6 hp)⟩
theorem c_w74_48 {R : pR} {ρ : Nat → Int32} {c : Nat} {g : xG} (hR : rOK R) (h : jC_44_48 R ρ c g) {p r : Nat} (hp : p < rP R) (hr : r < rR R) (l3 l6 s0 : Int32) : ∃ w, f_X1_walk_44_48_74 (nI p) l3 (nI r) l6 s0 g = some w ∧ jC_44_48 R (upd (upd (upd ρ p l6) (6 + p) (if l6 = l3 then -2 else l3)) (12 + p) (if s0 = 0 then ρ (12 + p) + nI (rM R r) else 0)) c w := by
  have h6 := hR.p
  unfold f_X1_walk_44_48_74
  rw [xl_e, show f_X6_setOf_48 (nI p) 5 l6 g = _ from c_set48 (k := 5) (by omega)]
  have j1 : jC_44_48 R (upd ρ p l6) c (xupd g.1 49 (5 + p) l6, g.2) := h.up (sx_pl h.2.2.2.2 h6 hp)
  have e12 : upd ρ p l6 (12 + p) = ρ (12 + p) := if_neg (by omega)
  by_cases z : l6 = l3
  · rw [if_pos z, if_pos z, ← e12]
    exact c_w100_48 hR j1 hp hr s0 (-2)
  · rw [if_neg z, if_neg z, ← e12]
    exact c_w100_48 hR j1 hp hr s0 l3
theorem c_walk_48 {R : pR} {ρ : Nat → Int32} {c : Nat} {g : xG} (hR : rOK R) (h : jC_44_48 R ρ c g) (hc2 : c < 2 ^ 31) (ho : rowOK R ρ) {p : Nat} (hp : p < rP R) : ∃ w, f_X1_walk_44_48 (nI p) g = some w ∧ jC_44_48 R (sWk R c p ρ) c w := by
  have h6 := hR.p
  have h7 := hR.t
  have h10 := hR.r
  obtain ⟨h1, h2, h3, h4, h5⟩ := id h
  obtain ⟨⟨t, ht, et⟩, eg, -, -⟩ := ho.2.1 p hp
  unfold f_X1_walk_44_48
  rw [c_go48 h5 h6 hp, c_pl48 h5 h6 hp]
  rcases eg with eg | ⟨gl, hgl, eg⟩
  · have hs := sRdO_no (R := R) (c := c) eg
    rw [eg, if_neg (by decide)]
    simp only [f_X1_walk_44_48_35]
    rw [if_neg (by decide)]
    unfold sWk
    rw [hs]
    exact ⟨g, rfl, h⟩
  · have hs := sRdO_go (R := R) (c := c) et eg (by omega) (by omega)
    rw [eg, et, if_pos (nI_pos' (by omega)), c_road38 hR h1 h3 hc2 h4 ht hgl, Option.bind_some]
    match hq : sRd R c t gl (rR R) with
    | none =>
      simp only [f_X1_walk_44_48_35]
      rw [if_neg (show ¬ 0 ≤ oN none by decide)]
      unfold sWk
      rw [hs, hq]
      exact ⟨g, rfl, h⟩
    | some (r, v) =>
      obtain ⟨hr, ⟨-, hends, -⟩, -⟩ := sRd_lt _ hq
      have hoth := oth_lt (t := t) hR hr
      have hho := hR.o hp
      have key := sWk_val et (by omega) (hs.trans hq)
      rw [eg] at key
      simp only [f_X1_walk_44_48_35]
      rw [show oN (some (r, v)) = nI r from rfl, if_pos (nI_pos' (by omega)), c_across h1 hR hr (by omega), if_pos hends, c_home h1 hR hp, key]
      by_cases z : nI (oth R r t) = nI (rO R p)
      · rw [if_pos z, if_pos z]
        obtain ⟨w, q1, q2⟩ := c_w74_48 hR h hp hr (nI gl) (nI (oth R r t)) 1
        rw [if_neg (show ¬ (1 : Int32) = 0 by decide)] at q2
        exact ⟨w, q1, q2⟩
      · rw [if_neg z, if_neg z]
        obtain ⟨w, q1, q2⟩ := c_w74_48 hR h hp hr (nI gl) (nI (oth R r t)) 0
        rw [if_pos rfl] at q2
        exact ⟨w, q1, q2⟩

/-! on the state 50 -/
theorem c_set50 {g : xG} {p k : Nat} {v : Int32} (h : k + p < 35) : f_X6_setOf_50 (nI p) (nI k) v g = (xupd g.1 51 (k + p) v, g.2) := by
  unfold f_X6_setOf_50
  rw [xl_e, nI_add, xput_in h (by decide)]
theorem c_put50 {g : xG} {k : Nat} {v : Int32} (h : k < 35) : f_X6_set_50 (nI k) v g = (xupd g.1 51 k v, g.2) := by
  unfold f_X6_set_50
  rw [xl_e, xput_in h (by decide)]
theorem jC_44_50.up {R : pR} {ρ ρ' : Nat → Int32} {c : Nat} {g : xG} {j : Nat} {v : Int32} (h : jC_44_50 R ρ c g) (hs : stF (rP R) ρ' (upd (g.1 51) j v)) : jC_44_50 R ρ' c (xupd g.1 51 j v, g.2) := by
  obtain ⟨h1, h2, h3, h4, h5⟩ := h
  have f : xfrm [(51, none)] g (xupd g.1 51 j v, g.2) := xfrm.up xfrm.rf rfl
  refine ⟨h1.ag (f.agr rfl), h2.ag (f.agr rfl), ((f 38 2 rfl).1).trans h3, fun x y hx hy => ((f 39 _ rfl).1).trans (h4 x y hx hy), ?_⟩
  rw [show (xupd g.1 51 j v, g.2).1 51 = upd (g.1 51) j v from @xupd_same g.1 51 j v]
  exact hs
theorem c_w100_50 {R : pR} {ρ : Nat → Int32} {c : Nat} {g : xG} (hR : rOK R) (h : jC_44_50 R ρ c g) {p r : Nat} (hp : p < rP R) (hr : r < rR R) (l7 s0 : Int32) : ∃ w, f_X1_walk_44_50_100 (nI p) (nI r) l7 s0 11 (nI p) g = some w ∧ jC_44_50 R (upd (upd ρ (6 + p) s0) (12 + p) (if l7 = 0 then ρ (12 + p) + nI (rM R r) else 0)) c w := by
  have h6 := hR.p
  unfold f_X1_walk_44_50_100
  rw [xl_e, show f_X6_setOf_50 (nI p) 11 s0 g = _ from c_set50 (k := 11) (by omega)]
  have j1 : jC_44_50 R (upd ρ (6 + p) s0) c (xupd g.1 51 (11 + p) s0, g.2) := h.up (sx_go h.2.2.2.2 h6 hp)
  obtain ⟨w1, e1⟩ : ∃ w, w = (xupd g.1 51 (11 + p) s0, g.2) := ⟨_, rfl⟩
  rw [← e1] at j1 ⊢
  rw [c_wa50 j1.2.2.2.2 h6 hp, c_mil j1.1 hR hr, show upd ρ (6 + p) s0 (12 + p) = ρ (12 + p) from if_neg (by omega)]
  by_cases z : l7 = 0
  · rw [if_pos z, if_pos z, xl_e, show f_X6_setOf_50 (nI p) 17 _ w1 = _ from c_set50 (k := 17) (by omega)]
    exact ⟨_, rfl, j1.up (sx_wa j1.2.2.2.2 h6 hp)⟩
  · rw [if_neg z, if_neg z, xl_e, show f_X6_setOf_50 (nI p) 17 _ w1 = _ from c_set50 (k := 17) (by omega)]
    exact ⟨_, rfl, j1.up (sx_wa j1.2.2.2.2 h6 hp)⟩
theorem c_w74_50 {R : pR} {ρ : Nat → Int32} {c : Nat} {g : xG} (hR : rOK R) (h : jC_44_50 R ρ c g) {p r : Nat} (hp : p < rP R) (hr : r < rR R) (l3 l6 s0 : Int32) : ∃ w, f_X1_walk_44_50_74 (nI p) l3 (nI r) l6 s0 g = some w ∧ jC_44_50 R (upd (upd (upd ρ p l6) (6 + p) (if l6 = l3 then -2 else l3)) (12 + p) (if s0 = 0 then ρ (12 + p) + nI (rM R r) else 0)) c w := by
  have h6 := hR.p
  unfold f_X1_walk_44_50_74
  rw [xl_e, show f_X6_setOf_50 (nI p) 5 l6 g = _ from c_set50 (k := 5) (by omega)]
  have j1 : jC_44_50 R (upd ρ p l6) c (xupd g.1 51 (5 + p) l6, g.2) := h.up (sx_pl h.2.2.2.2 h6 hp)
  have e12 : upd ρ p l6 (12 + p) = ρ (12 + p) := if_neg (by omega)
  by_cases z : l6 = l3
  · rw [if_pos z, if_pos z, ← e12]
    exact c_w100_50 hR j1 hp hr s0 (-2)
  · rw [if_neg z, if_neg z, ← e12]
    exact c_w100_50 hR j1 hp hr s0 l3
theorem c_walk_50 {R : pR} {ρ : Nat → Int32} {c : Nat} {g : xG} (hR : rOK R) (h : jC_44_50 R ρ c g) (hc2 : c < 2 ^ 31) (ho : rowOK R ρ) {p : Nat} (hp : p < rP R) : ∃ w, f_X1_walk_44_50 (nI p) g = some w ∧ jC_44_50 R (sWk R c p ρ) c w := by
  have h6 := hR.p
  have h7 := hR.t
  have h10 := hR.r
  obtain ⟨h1, h2, h3, h4, h5⟩ := id h
  obtain ⟨⟨t, ht, et⟩, eg, -, -⟩ := ho.2.1 p hp
  unfold f_X1_walk_44_50
  rw [c_go50 h5 h6 hp, c_pl50 h5 h6 hp]
  rcases eg with eg | ⟨gl, hgl, eg⟩
  · have hs := sRdO_no (R := R) (c := c) eg
    rw [eg, if_neg (by decide)]
    simp only [f_X1_walk_44_50_35]
    rw [if_neg (by decide)]
    unfold sWk
    rw [hs]
    exact ⟨g, rfl, h⟩
  · have hs := sRdO_go (R := R) (c := c) et eg (by omega) (by omega)
    rw [eg, et, if_pos (nI_pos' (by omega)), c_road38 hR h1 h3 hc2 h4 ht hgl, Option.bind_some]
    match hq : sRd R c t gl (rR R) with
    | none =>
      simp only [f_X1_walk_44_50_35]
      rw [if_neg (show ¬ 0 ≤ oN none by decide)]
      unfold sWk
      rw [hs, hq]
      exact ⟨g, rfl, h⟩
    | some (r, v) =>
      obtain ⟨hr, ⟨-, hends, -⟩, -⟩ := sRd_lt _ hq
      have hoth := oth_lt (t := t) hR hr
      have hho := hR.o hp
      have key := sWk_val et (by omega) (hs.trans hq)
      rw [eg] at key
      simp only [f_X1_walk_44_50_35]
      rw [show oN (some (r, v)) = nI r from rfl, if_pos (nI_pos' (by omega)), c_across h1 hR hr (by omega), if_pos hends, c_home h1 hR hp, key]
      by_cases z : nI (oth R r t) = nI (rO R p)
      · rw [if_pos z, if_pos z]
        obtain ⟨w, q1, q2⟩ := c_w74_50 hR h hp hr (nI gl) (nI (oth R r t)) 1
        rw [if_neg (show ¬ (1 : Int32) = 0 by decide)] at q2
        exact ⟨w, q1, q2⟩
      · rw [if_neg z, if_neg z]
        obtain ⟨w, q1, q2⟩ := c_w74_50 hR h hp hr (nI gl) (nI (oth R r t)) 0
        rw [if_pos rfl] at q2
        exact ⟨w, q1, q2⟩

/-! the reference -/
section
variable {L : Nat} {R : pR} {ρ : Nat → Int32} {c : Nat} {g : xG}
theorem jR.row {ρ' : Nat → Int32} {w : xG} (h : jR L R ρ c g) (hf : xfrm [(94, none)] g w) (hw : ∀ k, k < 40 → w.1 94 k = ρ' k) : jR L R ρ' c w := by
  obtain ⟨h1, h2, h3, h4⟩ := h
  exact ⟨h1.ag (hf.agr rfl), h2.ag (hf.agr rfl), hw, fun x y hx hy => ((hf 95 _ rfl).1).trans (h4 x y hx hy)⟩
theorem jR.up {k : Nat} {v : Int32} (h : jR L R ρ c g) : jR L R (upd ρ k v) c (xupd g.1 94 k v, g.2) := h.row (xfrm.up xfrm.rf rfl) (fun q hq => by
  rw [show (xupd g.1 94 k v, g.2).1 94 = upd (g.1 94) k v from @xupd_same g.1 94 k v]
  unfold upd
  split
  · rfl
  · exact h.2.2.1 q hq)
theorem r_roadOf (h : jR L R ρ c g) (hR : rOK R) (ho : rowOK R ρ) (hc : ρ 36 = nI c) (hc2 : c < 2 ^ 31) {p : Nat} (hp : p < rP R) : f_X12_roadOf_60 (nI p) g = some (oN (sRdO R c p ρ)) := by
  have h6 := hR.p
  have h7 := hR.t
  obtain ⟨⟨t, ht, et⟩, eg, -, -⟩ := ho.2.1 p hp
  unfold f_X12_roadOf_60
  rw [a6, xg_in (by omega) (by decide), nI_clamp (show 6 + p < 2 ^ 31 by omega), nI_clamp (show p < 2 ^ 31 by omega), h.2.2.1 (6 + p) (by omega), h.2.2.1 p (by omega)]
  rcases eg with eg | ⟨gl, hgl, eg⟩
  · rw [sRdO_no eg, eg, if_neg (by decide)]
    rfl
  · rw [sRdO_go et eg (by omega) (by omega), eg, et, if_pos (nI_pos' (by omega)), xg_in' (by omega) (by decide), xg_in' (by omega) (by decide), r_roadFor h hR hc hc2 ht hgl]
    rfl
theorem r_w83 (h : jR L R ρ c g) (hR : rOK R) {p : Nat} (hp : p < rP R) : ∃ w, f_X12_walksOne_60_83 (nI p) g = some w ∧ jR L R (if ρ p = nI (rO R p) then upd ρ (12 + p) 0 else ρ) c w := by
  have h6 := hR.p
  unfold f_X12_walksOne_60_83
  rw [xg_in (by omega) (by decide), r_home h.1 hR hp, Option.bind_some, nI_clamp (show p < 2 ^ 31 by omega), h.2.2.1 p (by omega)]
  by_cases z : ρ p = nI (rO R p)
  · rw [if_pos z, if_pos z, a12, xg_in (by omega) (by decide), nI_clamp (by omega)]
    exact ⟨_, rfl, h.up⟩
  · rw [if_neg z, if_neg z]
    exact ⟨g, rfl, h⟩
theorem r_walk (h : jR L R ρ c g) (hR : rOK R) (ho : rowOK R ρ) (hc : ρ 36 = nI c) (hc2 : c < 2 ^ 31) {p : Nat} (hp : p < rP R) : ∃ w, f_X12_walksOne_60 (nI p) g = some w ∧ jR L R (sWk R c p ρ) c w := by
  have h6 := hR.p
  have h7 := hR.t
  have h10 := hR.r
  obtain ⟨⟨⟨hL, e18, eT, eR, eP, eC, eS⟩, hrr, -⟩, -, h3, -⟩ := id h
  obtain ⟨⟨t, ht, et⟩, eg, -, -⟩ := ho.2.1 p hp
  unfold f_X12_walksOne_60
  rw [r_roadOf h hR ho hc hc2 hp, Option.bind_some]
  match hs : sRdO R c p ρ with
  | none =>
    rw [if_neg (show ¬ 0 ≤ oN none by decide)]
    unfold sWk
    rw [hs]
    exact ⟨g, rfl, h⟩
  | some (r, v) =>
    have hr := sRdO_lt hs
    have hoth := oth_lt (t := t) hR hr
    have key := sWk_val et (by omega) hs
    have hends : rA R r = t ∨ rB R r = t := by
      rcases eg with eg | ⟨gl, hgl, eg⟩
      · rw [sRdO_no eg] at hs
        cases hs
      · rw [sRdO_go et eg (by omega) (by omega)] at hs
        exact (sRd_lt _ hs).2.1.2.1
    rw [show oN (some (r, v)) = nI r from rfl, if_pos (nI_pos' (by omega)), e18, i10, a12, a6, xg_in (show 12 + p < 40 by omega) (by decide), xg_in (show 10 * L + r < 20 by omega) (by decide), xg_in (show 12 + p < 40 by omega) (by decide), xg_in (show p < 40 by omega) (by decide), nI_clamp (show 12 + p < 2 ^ 31 by omega), nI_clamp (show 10 * L + r < 2 ^ 31 by omega), nI_clamp (show p < 2 ^ 31 by omega), nI_clamp (show 6 + p < 2 ^ 31 by omega), h3 (12 + p) (by omega), (hrr r hr).2.2]
    have j1 : jR L R (upd ρ (12 + p) (ρ (12 + p) + nI (rM R r))) c (xupd g.1 94 (12 + p) (ρ (12 + p) + nI (rM R r)), g.2) := h.up
    obtain ⟨w1, e1⟩ : ∃ w, w = (xupd g.1 94 (12 + p) (ρ (12 + p) + nI (rM R r)), g.2) := ⟨_, rfl⟩
    rw [← e1] at j1
    have e1a : xupd g.1 94 (12 + p) (ρ (12 + p) + nI (rM R r)) = w1.1 := by rw [e1]
    have e1b : g.2 = w1.2 := by rw [e1]
    rw [e1a, e1b, j1.2.2.1 p (by omega), show upd ρ (12 + p) (ρ (12 + p) + nI (rM R r)) p = nI t from (if_neg (by omega)).trans et, show (w1.1, w1.2) = w1 from rfl, r_otherEnd j1.1 hR hr hends, Option.bind_some, xg_in' (show p < 40 by omega) (by decide), xg_in' (show p < 40 by omega) (by decide), xg_in' (show 6 + p < 40 by omega) (by decide)]
    have j2 : jR L R (upd (upd ρ (12 + p) (ρ (12 + p) + nI (rM R r))) p (nI (oth R r t))) c (xupd w1.1 94 p (nI (oth R r t)), w1.2) := j1.up
    rw [xu_eq, xu_ne (show 6 + p ≠ p by omega), j1.2.2.1 (6 + p) (by omega), show upd ρ (12 + p) (ρ (12 + p) + nI (rM R r)) (6 + p) = ρ (6 + p) from if_neg (by omega), key]
    have fin : ∀ {w : xG} {b : Int32}, jR L R (upd (upd (upd ρ (12 + p) (ρ (12 + p) + nI (rM R r))) p (nI (oth R r t))) (6 + p) b) c w → ∃ v, f_X12_walksOne_60_83 (nI p) w = some v ∧ jR L R (upd (upd (upd ρ p (nI (oth R r t))) (6 + p) b) (12 + p) (if nI (oth R r t) = nI (rO R p) then 0 else ρ (12 + p) + nI (rM R r))) c v := by
      intro w b hw
      obtain ⟨v, q1, q2⟩ := r_w83 hw hR hp
      refine ⟨v, q1, ?_⟩
      rw [show (upd (upd (upd ρ (12 + p) (ρ (12 + p) + nI (rM R r))) p (nI (oth R r t))) (6 + p) b) p = nI (oth R r t) from by
        rw [pk_un (by omega), pk_us]] at q2
      refine q2.row xfrm.rf (fun k hk => ?_)
      rw [q2.2.2.1 k hk]
      by_cases z : nI (oth R r t) = nI (rO R p)
      · rw [if_pos z, if_pos z]
        simp only [upd]
        repeat' split
        all_goals first | omega | rfl
      · rw [if_neg z, if_neg z]
        simp only [upd]
        repeat' split
        all_goals first | omega | rfl
    by_cases z : nI (oth R r t) = ρ (6 + p)
    · rw [if_pos z, if_pos z, xg_in' (show 6 + p < 40 by omega) (by decide)]
      exact fin j2.up
    · rw [if_neg z, if_neg z]
      refine fin (j2.row xfrm.rf (fun k hk => ?_))
      rw [j2.2.2.1 k hk]
      simp only [upd]
      repeat' split
      all_goals first | omega | rfl | exact congrArg ρ (by assumption)
end
