/-! what holds between two calls -/
def mSt (R : pR) (L : Nat) (g : xG) : Prop := rmR g L R ∧ lwR g L R ∧ rowOK R (g.1 93) ∧ ∃ c, c < 1024 ∧ g.1 93 36 = nI c ∧ jC_44_48 R (g.1 93) c g
def mTp (g : xG) : Prop := g.1 0 16 = g.1 60 17 ∧ ∃ n, n ≤ 2000 ∧ g.1 1 1 = nI n ∧ g.1 60 2 = nI n ∧ ∀ i, i < n → g.1 2 i = g.1 61 i
def mUn (R : pR) (g : xG) : Prop := ∃ n nw, n ≤ 40 ∧ nw < 40 ∧ g.1 0 13 = nI n ∧ g.1 60 55 = nI n ∧ g.1 0 14 = nI nw ∧ ∀ j, j < n → rowOK R (fun k => g.1 96 (40 * j + k)) ∧ stF (rP R) (fun k => g.1 96 (40 * j + k)) (fun i => g.1 53 (35 * ((nw + 41 + j - n) % 40) + i))
def mSl (R : pR) (g : xG) : Prop := g.1 0 15 = nI (bq (fun s => decide (g.1 101 s = 1)) 3) ∧ ∀ s, s < 3 → (g.1 101 s = 0 ∨ g.1 101 s = 1) ∧ (g.1 101 s = 1 → rowOK R (fun k => g.1 102 (40 * s + k)) ∧ stF (rP R) (fun k => g.1 102 (40 * s + k)) (fun i => g.1 55 (35 * s + i)))
def mHe (g : xG) : Prop := ∃ n, n ≤ 20 ∧ g.1 56 5 = nI n ∧ g.1 60 58 = nI n ∧ ∀ i, i < n → g.1 57 i = g.1 98 i ∧ g.1 58 i = g.1 99 i ∧ (g.1 58 i = 0 ∨ g.1 58 i = 1)
def mWd (W : Nat → Int64) (g : xG) : Prop := ∀ w, w < 21 → g.2 22 w = W w ∧ g.2 67 w = W w
def mM (W : Nat → Int64) (R : pR) (L : Nat) (g : xG) : Prop := rOK R ∧ mSt R L g ∧ mTp g ∧ mUn R g ∧ mSl R g ∧ mHe g ∧ mWd W g
def kSt : List (Nat × Option Nat) := kRr ++ kLr ++ kJ_44_48 ++ [(93, none)]
def kTp : List (Nat × Option Nat) := [(0, some 16), (60, some 17), (1, some 1), (60, some 2), (2, none), (61, none)]
def kUn : List (Nat × Option Nat) := [(0, some 13), (60, some 55), (0, some 14), (96, none), (53, none)]
def kSl : List (Nat × Option Nat) := [(0, some 15), (101, none), (102, none), (55, none)]
def kHe : List (Nat × Option Nat) := [(56, some 5), (60, some 58), (57, none), (58, none), (98, none), (99, none)]
def kWd : List (Nat × Option Nat) := [(22, none), (67, none)]
theorem xcov_l {A B : List (Nat × Option Nat)} {q k : Nat} (h : xcov A q k = true) : xcov (A ++ B) q k = true := by
  unfold xcov at *
  rw [List.any_append, h, Bool.true_or]
theorem xcov_r {A B : List (Nat × Option Nat)} {q k : Nat} (h : xcov B q k = true) : xcov (A ++ B) q k = true := by
  unfold xcov at *
  rw [List.any_append, h, Bool.or_true]
theorem xagr.l {A B : List (Nat × Option Nat)} {g w : xG} (a : xagr (A ++ B) g w) : xagr A g w := fun q k h => a q k (xcov_l h)
theorem xagr.r {A B : List (Nat × Option Nat)} {g w : xG} (a : xagr (A ++ B) g w) : xagr B g w := fun q k h => a q k (xcov_r h)
theorem xagr.f {C : List (Nat × Option Nat)} {g w : xG} (a : xagr C g w) {q : Nat} (h : ∀ k, xcov C q k = true) : w.1 q = g.1 q := funext fun k => (a q k (h k)).1
theorem mSt.ag {R : pR} {L : Nat} {g w : xG} (h : mSt R L g) (a : xagr kSt g w) : mSt R L w := by
  obtain ⟨h1, h2, h3, c, hc, h4, h5⟩ := h
  have e : w.1 93 = g.1 93 := a.r.f fun _ => rfl
  unfold mSt
  rw [e]
  exact ⟨h1.ag a.l.l.l, h2.ag a.l.l.r, h3, c, hc, h4, h5.ag a.l.r⟩
theorem mTp.ag {g w : xG} (h : mTp g) (a : xagr kTp g w) : mTp w := by
  unfold mTp at *
  rw [a.f (q := 2) fun _ => rfl, a.f (q := 61) fun _ => rfl, (a 0 16 rfl).1, (a 60 17 rfl).1, (a 1 1 rfl).1, (a 60 2 rfl).1]
  exact h
theorem mUn.ag {R : pR} {g w : xG} (h : mUn R g) (a : xagr kUn g w) : mUn R w := by
  unfold mUn at *
  rw [a.f (q := 96) fun _ => rfl, a.f (q := 53) fun _ => rfl, (a 0 13 rfl).1, (a 60 55 rfl).1, (a 0 14 rfl).1]
  exact h
theorem mSl.ag {R : pR} {g w : xG} (h : mSl R g) (a : xagr kSl g w) : mSl R w := by
  unfold mSl at *
  rw [a.f (q := 101) fun _ => rfl, a.f (q := 102) fun _ => rfl, a.f (q := 55) fun _ => rfl, (a 0 15 rfl).1]
  exact h
theorem mHe.ag {g w : xG} (h : mHe g) (a : xagr kHe g w) : mHe w := by
  unfold mHe at *
  rw [a.f (q := 57) fun _ => rfl, a.f (q := 58) fun _ => rfl, a.f (q := 98) fun _ => rfl, a.f (q := 99) fun _ => rfl, (a 56 5 rfl).1, (a 60 58 rfl).1]
  exact h
theorem mWd.ag {W : Nat → Int64} {g w : xG} (h : mWd W g) (a : xagr kWd g w) : mWd W w := fun i hi => ⟨((a 22 i rfl).2).trans (h i hi).1, ((a 67 i rfl).2).trans (h i hi).2⟩
def kM : List (Nat × Option Nat) := kSt ++ kTp ++ kUn ++ kSl ++ kHe ++ kWd
theorem mM.ag {W : Nat → Int64} {R : pR} {L : Nat} {g w : xG} (h : mM W R L g) (a : xagr kM g w) : mM W R L w := by
  obtain ⟨h0, h1, h2, h3, h4, h5, h6⟩ := h
  exact ⟨h0, h1.ag a.l.l.l.l.l, h2.ag a.l.l.l.l.r, h3.ag a.l.l.l.r, h4.ag a.l.l.r, h5.ag a.l.r, h6.ag a.r⟩
/-! a row copied -/
theorem rowOK_eq {R : pR} {ρ ρ' : Nat → Int32} (hR : rOK R) (h : rowOK R ρ) (e : ∀ k, k < 40 → ρ' k = ρ k) : rowOK R ρ' := by
  have h6 := hR.p
  obtain ⟨o1, o2, o3⟩ := h
  refine ⟨?_, fun q hq => ?_, fun q h1 h2 => ?_⟩
  · rw [e 36 (by omega)]; exact o1
  · rw [e q (by omega), e (6 + q) (by omega), e (30 + q) (by omega), e (24 + q) (by omega)]; exact o2 q hq
  · rw [e (18 + q) (by omega), e (24 + q) (by omega)]; exact o3 q h1 h2
theorem stF_eq {P : Nat} {ρ ρ' f f' : Nat → Int32} (h6 : P ≤ 6) (h : stF P ρ f) (e : ∀ k, k < 40 → ρ' k = ρ k) (e' : ∀ k, k < 35 → f' k = f k) : stF P ρ' f' := by
  obtain ⟨⟨e0, e1, e2, e4, e3⟩, ep⟩ := h
  refine ⟨⟨?_, ?_, ?_, ?_, ?_⟩, fun q hq => ?_⟩
  · rw [e' 0 (by omega), e 37 (by omega), e0]
  · rw [e' 1 (by omega), e 38 (by omega), e1]
  · rw [e' 2 (by omega), e 39 (by omega), e2]
  · rw [e' 4 (by omega), e 36 (by omega), e4]
  · rw [e' 3 (by omega), e3]
    congr 1
    exact bq_eq (fun k hk => by rw [e (30 + k) (by omega)])
  · obtain ⟨b1, b2, b3, b4, b5⟩ := ep q hq
    rw [e' (5 + q) (by omega), e' (11 + q) (by omega), e' (17 + q) (by omega), e' (23 + q) (by omega), e' (29 + q) (by omega), e q (by omega), e (6 + q) (by omega), e (12 + q) (by omega), e (18 + q) (by omega), e (24 + q) (by omega)]
    exact ⟨b1, b2, b3, b4, b5⟩
/-! numbers that calls are given -/
theorem in_neg {x m : Int32} (h : x < 0) : f_X12_in x 0 m = 0 := if_pos h
theorem in_ge {x m : Int32} (h : m < x) : f_X12_in x 0 m = 0 := by
  unfold f_X12_in
  rw [if_pos h]
  exact ite_self _
theorem in_geN {x : Int32} {P : Nat} (hP : P < 2 ^ 30) (h : nI P ≤ x) : f_X12_in x 0 (nI P - 1) = 0 := by
  refine in_ge (Int32.lt_iff_toInt_lt.mpr ?_)
  have a := Int32.le_iff_toInt_le.mp h
  rw [nI_toInt (by omega)] at a
  rw [show (1 : Int32) = nI 1 from rfl, pk_sub_toInt (by omega) (by decide)]
  omega
theorem in_lt {j P : Nat} (hP : P < 2 ^ 30) (h : j < P) : f_X12_in (nI j) 0 (nI P - 1) = 1 := by
  unfold f_X12_in
  rw [if_neg (nI_pos (by omega)), show (1 : Int32) = nI 1 from rfl, pk_sub (by omega), if_neg (nI_nlt (by omega) (by omega))]
theorem aP {R : pR} (hR : rOK R) (x : Int32) : ((∀ g, rmC g R → f_X4_isPerson_3 x g = 0) ∧ (∀ g L, rmR g L R → f_X12_isPerson_60 x g = some 0)) ∨ ∃ j, j < rP R ∧ x = nI j ∧ (∀ g, rmC g R → f_X4_isPerson_3 (nI j) g = 1) ∧ (∀ g L, rmR g L R → f_X12_isPerson_60 (nI j) g = some 1) := by
  have h6 := hR.p
  have hr : ∀ (x : Int32) (v : Int32), f_X12_in x 0 (nI (rP R) - 1) = v → ∀ g L, rmR g L R → f_X12_isPerson_60 x g = some v := by
    intro x v hv g L h
    obtain ⟨⟨hL, e18, eT, eR, eP, eC, eS⟩, -, -⟩ := h
    unfold f_X12_isPerson_60
    rw [e18, xg_in hL (by decide), nI_clamp (show L < 2 ^ 31 by omega), eP, hv]
  rcases pk_ix x (n := rP R) (by omega) with h | h | ⟨j, h, rfl⟩
  · exact .inl ⟨fun g _ => c_isPersonN h, hr x 0 (in_neg h)⟩
  · exact .inl ⟨fun g hg => c_isPersonG hg h, hr x 0 (in_geN (by omega) h)⟩
  · exact .inr ⟨j, h, rfl, fun g hg => c_isPerson hg hR h, hr _ 1 (in_lt (by omega) h)⟩
theorem aT {R : pR} (hR : rOK R) (x : Int32) : ((∀ g, rmC g R → f_X4_isTown_3 x g = 0) ∧ (∀ g L, rmR g L R → f_X12_isTown_60 x g = some 0)) ∨ ∃ j, j < rT R ∧ x = nI j ∧ (∀ g, rmC g R → f_X4_isTown_3 (nI j) g = 1) ∧ (∀ g L, rmR g L R → f_X12_isTown_60 (nI j) g = some 1) := by
  have h6 := hR.t
  have hr : ∀ (x : Int32) (v : Int32), f_X12_in x 0 (nI (rT R) - 1) = v → ∀ g L, rmR g L R → f_X12_isTown_60 x g = some v := by
    intro x v hv g L h
    obtain ⟨⟨hL, e18, eT, eR, eP, eC, eS⟩, -, -⟩ := h
    unfold f_X12_isTown_60
    rw [e18, xg_in hL (by decide), nI_clamp (show L < 2 ^ 31 by omega), eT, hv]
  rcases pk_ix x (n := rT R) (by omega) with h | h | ⟨j, h, rfl⟩
  · exact .inl ⟨fun g _ => c_isTownN h, hr x 0 (in_neg h)⟩
  · exact .inl ⟨fun g hg => c_isTownG hg h, hr x 0 (in_geN (by omega) h)⟩
  · exact .inr ⟨j, h, rfl, fun g hg => c_isTown hg hR h, hr _ 1 (in_lt (by omega) h)⟩
theorem aR {R : pR} (hR : rOK R) (x : Int32) : ((∀ g, rmC g R → f_X4_isRoad_3 x g = 0) ∧ (∀ g L, rmR g L R → f_X12_isRoad_60 x g = some 0)) ∨ ∃ j, j < rR R ∧ x = nI j ∧ (∀ g, rmC g R → f_X4_isRoad_3 (nI j) g = 1) ∧ (∀ g L, rmR g L R → f_X12_isRoad_60 (nI j) g = some 1) := by
  have h6 := hR.r
  have hr : ∀ (x : Int32) (v : Int32), f_X12_in x 0 (nI (rR R) - 1) = v → ∀ g L, rmR g L R → f_X12_isRoad_60 x g = some v := by
    intro x v hv g L h
    obtain ⟨⟨hL, e18, eT, eR, eP, eC, eS⟩, -, -⟩ := h
    unfold f_X12_isRoad_60
    rw [e18, xg_in hL (by decide), nI_clamp (show L < 2 ^ 31 by omega), eR, hv]
  rcases pk_ix x (n := rR R) (by omega) with h | h | ⟨j, h, rfl⟩
  · exact .inl ⟨fun g _ => c_isRoadN h, hr x 0 (in_neg h)⟩
  · exact .inl ⟨fun g hg => c_isRoadG hg h, hr x 0 (in_geN (by omega) h)⟩
  · exact .inr ⟨j, h, rfl, fun g hg => c_isRoad hg hR h, hr _ 1 (in_lt (by omega) h)⟩
theorem aN (x : Int32) : (f_X11_isSpan x = 0 ∧ f_X12_isLong x = 0) ∨ ∃ n, n ≤ 60 ∧ x = nI n ∧ f_X11_isSpan (nI n) = 1 ∧ f_X12_isLong (nI n) = 1 := by
  rcases pk_ix x (n := 61) (by decide) with h | h | ⟨j, h, rfl⟩
  · exact .inl ⟨if_pos h, if_pos h⟩
  · have a := Int32.le_iff_toInt_le.mp h
    rw [nI_toInt (by decide)] at a
    have b : (60 : Int32) < x := Int32.lt_iff_toInt_lt.mpr (by rw [show (60 : Int32).toInt = 60 from rfl]; omega)
    refine .inl ⟨?_, in_ge b⟩
    unfold f_X11_isSpan
    rw [if_pos b]
    exact ite_self _
  · refine .inr ⟨j, by omega, rfl, ?_, ?_⟩
    · unfold f_X11_isSpan
      rw [if_neg (nI_pos (by omega)), if_neg (show ¬ (60 : Int32) < nI j from nI_nlt (b := j) (a := 60) (by omega) (by decide))]
    · exact in_lt (P := 61) (by decide) h
theorem aW (x : Int32) : (x ≠ 0 ∧ x ≠ 1 ∧ f_X12_in x 0 1 = 0) ∨ ((x = 0 ∨ x = 1) ∧ f_X12_in x 0 1 = 1) := by
  rcases pk_ix x (n := 2) (by decide) with h | h | ⟨j, h, rfl⟩
  · refine .inl ⟨?_, ?_, in_neg h⟩ <;> (rintro rfl; revert h; decide)
  · have a := Int32.le_iff_toInt_le.mp h
    rw [nI_toInt (by decide)] at a
    refine .inl ⟨?_, ?_, in_ge (Int32.lt_iff_toInt_lt.mpr (by rw [show (1 : Int32).toInt = 1 from rfl]; omega))⟩ <;> (rintro rfl; revert h; decide)
  · rcases (show j = 0 ∨ j = 1 by omega) with rfl | rfl
    · exact .inr ⟨.inl rfl, rfl⟩
    · exact .inr ⟨.inr rfl, rfl⟩
/-! the class's and the reference's copies of the state -/
theorem c_copy {R : pR} {ρ : Nat → Int32} {c : Nat} {g : xG} (hR : rOK R) (h : jC_44_48 R ρ c g) : ∃ w, f_X6_copyFrom_50_48 g = w ∧ jC_44_50 R ρ c w ∧ jC_44_48 R ρ c w := by
  obtain ⟨w, e⟩ : ∃ w, f_X6_copyFrom_50_48 g = w := ⟨_, rfl⟩
  have f : xfrm [(51, none)] g w := fr_X6_copyFrom_50_48 w e
  have h' : jC_44_48 R ρ c w := h.ag (f.agr rfl)
  refine ⟨w, e, ⟨h'.1, h'.2.1, h'.2.2.1, h'.2.2.2.1, ?_⟩, h'⟩
  refine stF_eq hR.p h.2.2.2.2 (fun _ _ => rfl) (fun k hk => ?_)
  rw [← e]
  unfold f_X6_copyFrom_50_48 xcopy
  rw [xl_e]
  show xrow g.1 51 (fun j => if j < 35 then g.1 49 j else g.1 51 j) 51 k = g.1 49 k
  rw [xrow_same]
  exact if_pos hk
def mR (R : pR) (L : Nat) (ρ : Nat → Int32) (g : xG) : Prop := rmR g L R ∧ lwR g L R ∧ ∀ k, k < 40 → g.1 93 k = ρ k
def kR : List (Nat × Option Nat) := kRr ++ kLr ++ [(93, none)]
theorem mR.ag {R : pR} {L : Nat} {ρ : Nat → Int32} {g w : xG} (h : mR R L ρ g) (a : xagr kR g w) : mR R L ρ w := ⟨h.1.ag a.l.l, h.2.1.ag a.l.r, fun k hk => ((a.r 93 k rfl).1).trans (h.2.2 k hk)⟩
theorem r_copies {R : pR} {L : Nat} {ρ : Nat → Int32} {c : Nat} {g : xG} (hR : rOK R) (h : mR R L ρ g) (hc : ρ 36 = nI c) (hc2 : c < 2 ^ 31) : ∃ w, f_X12_copies_60 g = some w ∧ jR L R ρ c w ∧ w.1 60 52 = rS R ∧ w.1 60 53 = 0 ∧ mR R L ρ w := by
  unfold f_X12_copies_60
  refine lp (fun n i (s : xG) => f_X12_copies_60_2 n i s) (fun i s => xfrm [(94, none)] g s ∧ ∀ k, k < i → s.1 94 k = ρ k) 40 (fun o => ∃ w, o = some w ∧ jR L R ρ c w ∧ w.1 60 52 = rS R ∧ w.1 60 53 = 0 ∧ mR R L ρ w) ?_ ?_ xN 0 g (Nat.zero_le _) (by decide) ⟨xfrm.rf, fun k hk => by omega⟩
  · rintro n i w hi ⟨f, e⟩
    refine .inl ?_
    simp only [f_X12_copies_60_2]
    rw [if_neg (show ¬ (40 : Int32) ≤ nI i from nI_ge hi (by decide)), xg_in hi (by decide), xg_in hi (by decide), nI_clamp (by omega), nI_1]
    refine ⟨_, rfl, xfrm.up f rfl, fun k hk => ?_⟩
    dsimp only
    rw [xu_at]
    by_cases z : k = i
    · rw [if_pos ⟨rfl, z⟩, (f 93 i rfl).1, h.2.2 i hi, z]
    · rw [if_neg (fun y => z y.2), e k (by omega)]
  · rintro n w ⟨f, e⟩
    simp only [f_X12_copies_60_2]
    have hm : mR R L ρ w := h.ag (f.agr rfl)
    obtain ⟨⟨⟨hL, e18, eT, eR, eP, eC, eS⟩, -, -⟩, -, -⟩ := id hm
    rw [if_pos (show (40 : Int32) ≤ nI 40 from nI_le (Nat.le_refl _) (by decide)), e18, xg_in hL (by decide), nI_clamp (show L < 2 ^ 31 by omega), eS]
    obtain ⟨w1, e1⟩ : ∃ v : xG, v = (xupd (xupd w.1 60 52 (rS R)) 60 53 0, w.2) := ⟨_, rfl⟩
    have f1 : xfrm [(60, some 52), (60, some 53)] w w1 := e1 ▸ xfrm.up (xfrm.up xfrm.rf rfl) rfl
    have hm1 := hm.ag (f1.agr (C := kR) rfl)
    obtain ⟨w2, q1, q2, q3⟩ := r_fills hR hc2 (g := w1) hm1.1 (((f1 94 36 rfl).1).trans ((e 36 (by decide)).trans hc))
    have q3' : xfrm [(95, none)] w1 w2 := q3
    have hm2 := hm1.ag (q3'.agr (C := kR) rfl)
    rw [← e1, q1]
    refine ⟨w2, rfl, ⟨hm2.1, hm2.2.1, fun k hk => ?_, q2⟩, ?_, ?_, hm2⟩
    · rw [(q3' 94 k rfl).1, (f1 94 k rfl).1, e k hk]
    · rw [(q3' 60 52 rfl).1, e1]; rfl
    · rw [(q3' 60 53 rfl).1, e1]; rfl
theorem r_still {R : pR} {L : Nat} {ρ : Nat → Int32} {c : Nat} {g : xG} (hR : rOK R) (h : mR R L ρ g) (hc : ρ 36 = nI c) (hc2 : c < 2 ^ 31) : ∃ w, f_X12_copiesStill_60 g = some w ∧ jR L R ρ c w ∧ w.1 60 52 = rS R ∧ w.1 60 53 = 1 ∧ mR R L ρ w := by
  obtain ⟨w, e, h1, h2, h3, h4⟩ := r_copies hR h hc hc2
  unfold f_X12_copiesStill_60
  rw [e]
  have f : xfrm [(60, some 53)] w (xupd w.1 60 53 1, w.2) := xfrm.up xfrm.rf rfl
  exact ⟨_, rfl, h1.ag (f.agr rfl), h2, rfl, h4.ag (f.agr rfl)⟩
