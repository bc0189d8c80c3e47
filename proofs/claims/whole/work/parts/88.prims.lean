/-! reading: tokens as both have them; live and dead -/
def tkC (K S : Nat → Nat) (V : Nat → Int64) (E : Nat) (g : xG) : Prop := ∀ j, j ≤ E → f_X9_kindAt_18 (nI j) g = some (nI (K j)) ∧ f_X9_startOf_18 (nI j) g = nI (S j) ∧ f_X9_valueOf_18 (nI j) g = V j
def tkH (K S : Nat → Nat) (V : Nat → Int64) (E : Nat) (h : xG) : Prop := ∀ j, j ≤ E → h.1 63 j = nI (kap (K j)) ∧ h.1 64 j = nI (S j) ∧ (K j = 2 → h.2 66 j = V j) ∧ (K j = 3 → ∃ d, d ≤ 9999 ∧ V j = lN d ∧ h.1 65 j = nI d)
def tkK (K S : Nat → Nat) (E : Nat) : Prop := E ≤ 400 ∧ (∀ j, j < E → K j ≠ 0) ∧ (E < 400 → K E = 0) ∧ (∀ j, K j ≤ 33) ∧ (∀ j j', j < j' → j' ≤ E → S j < S j') ∧ ∀ j, S j ≤ 2000
def kTc : List (Nat × Option Nat) := [(18, some 4), (18, some 5), (19, none), (20, none), (21, none)]
def kTh : List (Nat × Option Nat) := [(63, none), (64, none), (65, none), (66, none)]
theorem xagr.f2 {C : List (Nat × Option Nat)} {g w : xG} (a : xagr C g w) {q : Nat} (h : ∀ k, xcov C q k = true) : w.2 q = g.2 q := funext fun k => (a q k (h k)).2
theorem tkC.ag {K S : Nat → Nat} {V : Nat → Int64} {E : Nat} {g w : xG} (h : tkC K S V E g) (a : xagr kTc g w) : tkC K S V E w := fun j hj => by
  obtain ⟨h1, h2, h3⟩ := h j hj
  have e19 := a.f (q := 19) fun _ => rfl
  have e20 := a.f (q := 20) fun _ => rfl
  have e21 := a.f2 (q := 21) fun _ => rfl
  have e4 := (a 18 4 rfl).1
  have e5 := (a 18 5 rfl).1
  unfold f_X9_kindAt_18 f_X9_startOf_18 f_X9_valueOf_18 xat xlat at *
  rw [e4, e5, e19, e20, e21]
  exact ⟨h1, h2, h3⟩
theorem tkH.ag {K S : Nat → Nat} {V : Nat → Int64} {E : Nat} {g w : xG} (h : tkH K S V E g) (a : xagr kTh g w) : tkH K S V E w := fun j hj => by
  obtain ⟨h1, h2, h3, h4⟩ := h j hj
  rw [(a 63 j rfl).1, (a 64 j rfl).1, (a 65 j rfl).1, (a 66 j rfl).2]
  exact ⟨h1, h2, h3, h4⟩
theorem kap_inj : ∀ a, a ≤ 33 → ∀ b, b ≤ 33 → kap a = kap b → a = b := by decide +kernel
theorem kap_40 : ∀ a, a ≤ 33 → kap a ≤ 40 := by decide +kernel
section
variable {K S : Nat → Nat} {V : Nat → Int64} {E : Nat}
/-- both live: next token i, later fault lf at token lt < b -/
def lv (K S : Nat → Nat) (V : Nat → Int64) (E i b lf lt : Nat) (g h : xG) : Prop := (i ≤ E ∧ tkC K S V E g ∧ tkH K S V E h) ∧ (g.1 17 5 = nI i ∧ g.1 17 6 = 0 ∧ g.1 17 7 = nI lf) ∧ (h.1 60 11 = nI i ∧ h.1 60 13 = 0 ∧ h.1 60 15 = nI lf) ∧ lf ≤ 5 ∧ (lf ≠ 0 → g.1 17 8 = nI lt ∧ h.1 60 16 = nI (S lt) ∧ lt < b ∧ lt ≤ E)
def kLc : List (Nat × Option Nat) := kTc ++ [(17, some 5), (17, some 6), (17, some 7), (17, some 8)]
def kLh : List (Nat × Option Nat) := kTh ++ [(60, some 11), (60, some 13), (60, some 15), (60, some 16)]
theorem lv.ag {i b lf lt : Nat} {g h g' h' : xG} (l : lv K S V E i b lf lt g h) (a : xagr kLc g g') (c : xagr kLh h h') : lv K S V E i b lf lt g' h' := by
  obtain ⟨⟨l1, l2, l3⟩, ⟨l4, l5, l6⟩, ⟨l7, l8, l9⟩, l10, l11⟩ := l
  exact ⟨⟨l1, l2.ag a.l, l3.ag c.l⟩, ⟨((a 17 5 rfl).1).trans l4, ((a 17 6 rfl).1).trans l5, ((a 17 7 rfl).1).trans l6⟩, ⟨((c 60 11 rfl).1).trans l7, ((c 60 13 rfl).1).trans l8, ((c 60 15 rfl).1).trans l9⟩, l10, fun z => ⟨((a 17 8 rfl).1).trans (l11 z).1, ((c 60 16 rfl).1).trans (l11 z).2.1, (l11 z).2.2⟩⟩
theorem lv.mono {i b b' lf lt : Nat} {g h : xG} (l : lv K S V E i b lf lt g h) (hb : b ≤ b') : lv K S V E i b' lf lt g h := ⟨l.1, l.2.1, l.2.2.1, l.2.2.2.1, fun z => ⟨(l.2.2.2.2 z).1, (l.2.2.2.2 z).2.1, by have := (l.2.2.2.2 z).2.2.1; omega, (l.2.2.2.2 z).2.2.2⟩⟩
def dC (K S : Nat → Nat) (V : Nat → Int64) (E f i : Nat) (g : xG) : Prop := (f = 1 ∨ f = 2) ∧ i ≤ E ∧ tkC K S V E g ∧ g.1 17 5 = nI i ∧ g.1 17 6 = nI f
def dR (S : Nat → Nat) (f i : Nat) (h : xG) : Prop := (f = 1 ∨ f = 2) ∧ h.1 60 13 = nI f ∧ h.1 60 14 = nI (S i)
def kDc : List (Nat × Option Nat) := kTc ++ [(17, some 5), (17, some 6)]
def kDr : List (Nat × Option Nat) := [(60, some 13), (60, some 14)]
theorem dC.ag {f i : Nat} {g g' : xG} (d : dC K S V E f i g) (a : xagr kDc g g') : dC K S V E f i g' := ⟨d.1, d.2.1, d.2.2.1.ag a.l, ((a 17 5 rfl).1).trans d.2.2.2.1, ((a 17 6 rfl).1).trans d.2.2.2.2⟩
theorem dR.ag {f i : Nat} {g g' : xG} (d : dR S f i g) (a : xagr kDr g g') : dR S f i g' := ⟨d.1, ((a 60 13 rfl).1).trans d.2.1, ((a 60 14 rfl).1).trans d.2.2⟩
def dd (K S : Nat → Nat) (V : Nat → Int64) (E : Nat) (g h : xG) : Prop := ∃ f i, dC K S V E f i g ∧ dR S f i h
theorem dd.ag {g h g' h' : xG} (d : dd K S V E g h) (a : xagr kDc g g') (c : xagr kDr h h') : dd K S V E g' h' := by
  obtain ⟨f, i, d1, d2⟩ := d
  exact ⟨f, i, d1.ag a, d2.ag c⟩
theorem f12_ne {f : Nat} (hf : f = 1 ∨ f = 2) : ¬ nI f = (0 : Int32) := by rcases hf with rfl | rfl <;> decide
theorem f12_pos {f : Nat} (hf : f = 1 ∨ f = 2) : (0 : Int32) < nI f := by rcases hf with rfl | rfl <;> decide
theorem f12_nle {f : Nat} (hf : f = 1 ∨ f = 2) : ¬ nI f ≤ (0 : Int32) := by rcases hf with rfl | rfl <;> decide
/-! the dead -/
theorem cd_take {f i : Nat} {g : xG} (d : dC K S V E f i g) (p : Int32) : f_X3_take_17 p g = some g := by
  unfold f_X3_take_17
  rw [d.2.2.2.2, if_neg (f12_ne d.1)]
theorem cd_stop {f i : Nat} {g : xG} (d : dC K S V E f i g) (p : Int32) : f_X3_stop_17 p g = g := by
  unfold f_X3_stop_17
  rw [d.2.2.2.2, if_neg (f12_ne d.1)]
theorem cd_more {f i : Nat} {g : xG} (d : dC K S V E f i g) (p q r : Int32) : f_X3_takeOneMore_17 p q r g = some g := by
  unfold f_X3_takeOneMore_17
  rw [cd_stop d, xl_e, cd_take d]
  split <;> rfl
theorem rd_is {f i : Nat} {h : xG} (d : dR S f i h) (p : Int32) : f_X12_is_60 p h = some 0 := by
  unfold f_X12_is_60
  rw [d.2.1, if_neg (f12_ne d.1)]
theorem rd_fail {f i : Nat} {h : xG} (d : dR S f i h) (p : Int32) : f_X12_fail_60 p h = some h := by
  unfold f_X12_fail_60
  rw [d.2.1, if_neg (f12_nle d.1)]
theorem rd_must {f i : Nat} {h : xG} (d : dR S f i h) (p : Int32) : f_X12_must_60 p h = some h := by
  unfold f_X12_must_60
  rw [rd_is d, Option.bind_some, if_pos rfl, rd_fail d]
  rfl
/-! a token taken -/
def fT : List (Nat × Option Nat) := [(17, some 5), (17, some 6)]
def fM : List (Nat × Option Nat) := [(60, some 11), (60, some 13), (60, some 14)]
theorem lv_r {i b lf lt : Nat} {g h : xG} (l : lv K S V E i b lf lt g h) (hK : tkK K S E) : h.1 63 i = nI (kap (K i)) ∧ h.1 64 i = nI (S i) ∧ i ≤ 400 := ⟨(l.1.2.2 i l.1.1).1, (l.1.2.2 i l.1.1).2.1, by have := l.1.1; have := hK.1; omega⟩
theorem r_is {i b lf lt a : Nat} {g h : xG} (hK : tkK K S E) (l : lv K S V E i b lf lt g h) (ha : a ≤ 33) : f_X12_is_60 (nI (kap a)) h = some (if K i = a then 1 else 0) := by
  obtain ⟨r1, r2, r3⟩ := lv_r l hK
  have k1 := kap_40 a ha
  have k2 := kap_40 (K i) (hK.2.2.2.1 i)
  unfold f_X12_is_60
  rw [l.2.2.1.2.1, if_pos rfl, l.2.2.1.1, xg_in (show i < 403 by omega) (by decide), nI_clamp (by omega), r1, ite_eqn (by omega) (by omega)]
  by_cases z : K i = a
  · rw [if_pos (by rw [z]), if_pos z]
  · rw [if_neg (fun y => z (kap_inj _ (hK.2.2.2.1 i) _ ha y)), if_neg z]
/-- both fail at the next token -/
theorem p_fail {i b lf lt f : Nat} {g h : xG} (hK : tkK K S E) (l : lv K S V E i b lf lt g h) (hf : f = 1 ∨ f = 2) : ∃ g' h', f_X3_stop_17 (nI f) g = g' ∧ f_X12_fail_60 (nI f) h = some h' ∧ xfrm fT g g' ∧ xfrm fM h h' ∧ dC K S V E f i g' ∧ dR S f i h' := by
  obtain ⟨r1, r2, r3⟩ := lv_r l hK
  have fg : xfrm [(17, some 6)] g (xupd g.1 17 6 (nI f), g.2) := xfrm.up xfrm.rf rfl
  refine ⟨(xupd g.1 17 6 (nI f), g.2), (xupd (xupd h.1 60 13 (nI f)) 60 14 (nI (S i)), h.2), ?_, ?_, fg.wk rfl, xfrm.up (xfrm.up xfrm.rf rfl) rfl, ⟨hf, l.1.1, l.1.2.1.ag (fg.agr rfl), ?_, rfl⟩, ⟨hf, rfl, rfl⟩⟩
  · unfold f_X3_stop_17
    rw [l.2.1.2.1, if_pos rfl]
  · unfold f_X12_fail_60
    rw [l.2.2.1.2.1, if_pos (by decide), l.2.2.1.1, xg_in (show i < 403 by omega) (by decide), nI_clamp (by omega), r2]
  · exact ((fg 17 5 rfl).1).trans l.2.1.1
/-- the class takes what is there, the reference goes on -/
theorem p_goes {i b lf lt a : Nat} {g h : xG} (hK : tkK K S E) (l : lv K S V E i b lf lt g h) (ha : K i = a) (ha0 : a ≠ 0) : ∃ g' h', f_X3_take_17 (nI a) g = some g' ∧ f_X12_goesOn_60 h = some h' ∧ xfrm fT g g' ∧ xfrm fM h h' ∧ ((i < 400 ∧ lv K S V E (i + 1) b lf lt g' h') ∨ dd K S V E g' h') := by
  obtain ⟨r1, r2, r3⟩ := lv_r l hK
  have kg := (l.1.2.1 i l.1.1).1
  by_cases z : i = 400
  · obtain ⟨g', h', e1, e2, f1, f2, d1, d2⟩ := p_fail hK l (f := 2) (.inr rfl)
    refine ⟨g', h', ?_, ?_, f1, f2, .inr ⟨2, i, d1, d2⟩⟩
    · unfold f_X3_take_17
      rw [l.2.1.2.1, if_pos rfl, l.2.1.1, kg, Option.bind_some, ha, if_pos rfl, if_neg (show ¬ nI i < (400 : Int32) from nI_nlt (b := 400) (by omega) (by omega)), show f_X3_stop_17 2 g = g' from e1, xl_e]
    · unfold f_X12_goesOn_60
      rw [l.2.2.1.1, z, if_pos (show nI 400 = 400 from rfl), show f_X12_fail_60 2 h = some h' from e2]
      rfl
  · have fg : xfrm [(17, some 5)] g (xupd g.1 17 5 (nI (i + 1)), g.2) := xfrm.up xfrm.rf rfl
    have fh : xfrm [(60, some 11)] h (xupd h.1 60 11 (nI (i + 1)), h.2) := xfrm.up xfrm.rf rfl
    refine ⟨(xupd g.1 17 5 (nI (i + 1)), g.2), (xupd h.1 60 11 (nI (i + 1)), h.2), ?_, ?_, fg.wk rfl, fh.wk rfl, .inl ⟨by omega, ⟨?_, l.1.2.1.ag (fg.agr rfl), l.1.2.2.ag (fh.agr rfl)⟩, ⟨rfl, ((fg 17 6 rfl).1).trans l.2.1.2.1, ((fg 17 7 rfl).1).trans l.2.1.2.2⟩, ⟨rfl, ((fh 60 13 rfl).1).trans l.2.2.1.2.1, ((fh 60 15 rfl).1).trans l.2.2.1.2.2⟩, l.2.2.2.1, fun y => ⟨((fg 17 8 rfl).1).trans (l.2.2.2.2 y).1, ((fh 60 16 rfl).1).trans (l.2.2.2.2 y).2.1, (l.2.2.2.2 y).2.2⟩⟩⟩
    · unfold f_X3_take_17
      rw [l.2.1.2.1, if_pos rfl, l.2.1.1, kg, Option.bind_some, ha, if_pos rfl, if_pos (show nI i < (400 : Int32) from nI_lt (b := 400) (by omega) (by decide)), nI_1]
    · unfold f_X12_goesOn_60
      rw [l.2.2.1.1, if_neg (show ¬ nI i = (400 : Int32) from fun y => z ((nI_eq (b := 400) (by omega) (by decide)).mp y)), nI_1]
    · have h1 := l.1.1
      refine Classical.byContradiction fun y => ?_
      have : i = E := by omega
      have k0 := hK.2.2.1 (by omega)
      rw [← this] at k0
      omega
theorem p_take {i b lf lt a : Nat} {g h : xG} (hK : tkK K S E) (l : lv K S V E i b lf lt g h) (ha : a ≤ 33) (ha0 : a ≠ 0) : ∃ g' h', f_X3_take_17 (nI a) g = some g' ∧ f_X12_must_60 (nI (kap a)) h = some h' ∧ xfrm fT g g' ∧ xfrm fM h h' ∧ ((K i = a ∧ i < 400 ∧ lv K S V E (i + 1) b lf lt g' h') ∨ dd K S V E g' h') := by
  have kg := (l.1.2.1 i l.1.1).1
  unfold f_X12_must_60
  rw [r_is hK l ha]
  by_cases z : K i = a
  · obtain ⟨g', h', e1, e2, f1, f2, o⟩ := p_goes hK l z ha0
    refine ⟨g', h', e1, ?_, f1, f2, o.imp (fun y => ⟨z, y⟩) id⟩
    rw [if_pos z, Option.bind_some, if_neg (by decide), e2]
    rfl
  · obtain ⟨g', h', e1, e2, f1, f2, d1, d2⟩ := p_fail hK l (f := 1) (.inl rfl)
    refine ⟨g', h', ?_, ?_, f1, f2, .inr ⟨1, i, d1, d2⟩⟩
    · unfold f_X3_take_17
      have k33 := hK.2.2.2.1 i
      rw [l.2.1.2.1, if_pos rfl, l.2.1.1, kg, Option.bind_some, if_neg (fun y => z ((nI_eq (by omega) (by omega)).mp y)), show f_X3_stop_17 1 g = g' from e1, xl_e]
    · rw [if_neg z, Option.bind_some, if_pos rfl, show f_X12_fail_60 1 h = some h' from e2]
      rfl
/-! a fault noted -/
def fN : List (Nat × Option Nat) := [(17, some 7), (17, some 8)]
def fW : List (Nat × Option Nat) := [(60, some 15), (60, some 16)]
theorem p_note {i b lf lt j p : Nat} {g h : xG} (hK : tkK K S E) (l : lv K S V E i b lf lt g h) (hp : 1 ≤ p ∧ p ≤ 5) (hj : j ≤ E) (hb : lf ≠ 0 → lt < j) : ∃ g' h', f_X3_note_17 (nI p) (nI j) g = g' ∧ f_X12_wrong_60 (nI p) (nI j) h = some h' ∧ xfrm fN g g' ∧ xfrm fW h h' ∧ lv K S V E i (max b (j + 1)) (if lf = 0 then p else lf) (if lf = 0 then j else lt) g' h' := by
  have r2 := (l.1.2.2 j hj).2.1
  have hE := hK.1
  by_cases z : lf = 0
  · subst z
    have fg : xfrm fN g (xupd (xupd g.1 17 7 (nI p)) 17 8 (nI j), g.2) := xfrm.up (xfrm.up xfrm.rf rfl) rfl
    have fh : xfrm fW h (xupd (xupd h.1 60 15 (nI p)) 60 16 (nI (S j)), h.2) := xfrm.up (xfrm.up xfrm.rf rfl) rfl
    refine ⟨_, _, ?_, ?_, fg, fh, ⟨l.1.1, l.1.2.1.ag (fg.agr rfl), l.1.2.2.ag (fh.agr rfl)⟩, ⟨((fg 17 5 rfl).1).trans l.2.1.1, ((fg 17 6 rfl).1).trans l.2.1.2.1, by rw [if_pos rfl]; rfl⟩, ⟨((fh 60 11 rfl).1).trans l.2.2.1.1, ((fh 60 13 rfl).1).trans l.2.2.1.2.1, by rw [if_pos rfl]; rfl⟩, by rw [if_pos rfl]; exact hp.2, fun y => ⟨by rw [if_pos rfl]; rfl, by rw [if_pos rfl]; rfl, by rw [if_pos rfl]; omega, by rw [if_pos rfl]; exact hj⟩⟩
    · unfold f_X3_note_17
      rw [l.2.1.2.2, if_pos nI_0]
    · unfold f_X12_wrong_60
      rw [xg_in (show j < 403 by omega) (by decide), l.2.2.1.2.1, if_neg (by decide), l.2.2.1.2.2, if_pos nI_0, nI_clamp (by omega), r2]
  · obtain ⟨q1, q2, q3, q4⟩ := l.2.2.2.2 z
    have hlt := hb z
    have s1 := hK.2.2.2.2.1 lt j hlt hj
    have s2 := hK.2.2.2.2.2 j
    have s3 := hK.2.2.2.2.2 lt
    have h5 := l.2.2.2.1
    refine ⟨g, h, ?_, ?_, xfrm.rf, xfrm.rf, ?_⟩
    · unfold f_X3_note_17
      rw [l.2.1.2.2, if_neg (nI_ne0 (by omega) (by omega))]
    · unfold f_X12_wrong_60
      rw [xg_in (show j < 403 by omega) (by decide), l.2.2.1.2.1, if_neg (by decide), l.2.2.1.2.2, if_neg (nI_ne0 (by omega) (by omega)), nI_clamp (by omega), r2, q2, if_pos (nI_lt s1 (by omega))]
    · rw [if_neg z, if_neg z]
      exact l.mono (Nat.le_max_left _ _)
/-- a number, from a to b -/
theorem p_num {i lf lt a b : Nat} {g h : xG} (hK : tkK K S E) (l : lv K S V E i i lf lt g h) (hab : a ≤ b) (hb9 : b ≤ 9999) : ∃ x y g' h', f_X3_takeNumber_17 (nI a) (nI b) g = some (x, g') ∧ f_X12_bounded_60 (nI a) (nI b) h = some (y, h') ∧ xfrm (fT ++ fN) g g' ∧ xfrm (fM ++ fW) h h' ∧ ((∃ d lf' lt', i < 400 ∧ lv K S V E (i + 1) (i + 1) lf' lt' g' h' ∧ x = nI d ∧ y = nI d ∧ d ≤ 9999 ∧ (lf ≠ 0 → lf' ≠ 0) ∧ (lf' = 0 → a ≤ d ∧ d ≤ b)) ∨ dd K S V E g' h') := by
  obtain ⟨r1, r2, r3⟩ := lv_r l hK
  have vg := (l.1.2.1 i l.1.1).2.2
  have k33 := hK.2.2.2.1 i
  by_cases z : K i = 3
  · obtain ⟨d, hd, ev, e65⟩ := (l.1.2.2 i l.1.1).2.2.2 z
    have cv : ∀ w : xG, tkC K S V E w → w.1 17 5 = nI i → (f_X9_valueOf_18 (w.1 17 5) w).toInt32 = nI d := fun w hw h5 => by
      rw [h5, (hw i l.1.1).2.2, ev, lN_i]
    have rb : f_X12_bounded_60 (nI a) (nI b) h = if d < a then ((f_X12_wrong_60 5 (nI i) h).bind fun w3 => (f_X12_goesOn_60 w3).bind fun w4 => some (nI d, w4)) else if d ≤ b then ((f_X12_goesOn_60 h).bind fun w5 => some (nI d, w5)) else ((f_X12_wrong_60 5 (nI i) h).bind fun w3 => (f_X12_goesOn_60 w3).bind fun w4 => some (nI d, w4)) := by
      unfold f_X12_bounded_60
      rw [l.2.2.1.2.1, if_neg (by decide), show f_X12_is_60 2 h = _ from r_is hK l (a := 3) (by decide), if_pos z, Option.bind_some, if_neg (by decide), l.2.2.1.1, xg_in (show i < 403 by omega) (by decide), nI_clamp (by omega), e65, ite_lt (by omega) (by omega), ite_le (by omega) (by omega)]
    have cb : f_X3_takeNumber_17 (nI a) (nI b) g = if d < a then (xl (f_X3_note_17 5 (nI i) g) fun w1 => (f_X3_take_17 3 w1).bind fun w2 => some (nI d, w2)) else if d ≤ b then ((f_X3_take_17 3 g).bind fun w3 => some (nI d, w3)) else (xl (f_X3_note_17 5 (nI i) g) fun w1 => (f_X3_take_17 3 w1).bind fun w2 => some (nI d, w2)) := by
      unfold f_X3_takeNumber_17
      rw [cv g l.1.2.1 l.2.1.1, l.2.1.1, ite_lt (by omega) (by omega), ite_le (by omega) (by omega)]
    by_cases bad : d < a ∨ ¬ d ≤ b
    · obtain ⟨g1, h1, n1, n2, n3, n4, n5⟩ := p_note hK l (p := 5) ⟨by decide, by decide⟩ l.1.1 (fun y => (l.2.2.2.2 y).2.2.1)
      obtain ⟨g2, h2, t1, t2, t3, t4, t5⟩ := p_goes hK n5 z (by decide)
      refine ⟨nI d, nI d, g2, h2, ?_, ?_, (n3.wk rfl).th (t3.wk rfl), (n4.wk rfl).th (t4.wk rfl), ?_⟩
      · rw [cb, show f_X3_note_17 5 (nI i) g = g1 from n1, xl_e, show f_X3_take_17 3 g1 = some g2 from t1, Option.bind_some]
        rcases bad with y | y
        · rw [if_pos y]
        · rw [if_neg (show ¬ d < a by omega), if_neg y]
      · rw [rb, show f_X12_wrong_60 5 (nI i) h = some h1 from n2, Option.bind_some, t2, Option.bind_some]
        rcases bad with y | y
        · rw [if_pos y]
        · rw [if_neg (show ¬ d < a by omega), if_neg y]
      · refine t5.imp (fun y => ?_) id
        refine ⟨d, _, _, y.1, by have := y.2; rw [show max i (i + 1) = i + 1 by omega] at this; exact this, rfl, rfl, hd, fun u => ?_, fun u => ?_⟩
        · rw [if_neg u]; exact u
        · exfalso
          revert u
          split
          · decide
          · intro u; contradiction
    · obtain ⟨g2, h2, t1, t2, t3, t4, t5⟩ := p_goes hK l z (by decide)
      refine ⟨nI d, nI d, g2, h2, ?_, ?_, t3.wk rfl, t4.wk rfl, ?_⟩
      · rw [cb, if_neg (show ¬ d < a by omega), if_pos (show d ≤ b by omega), show f_X3_take_17 3 g = some g2 from t1, Option.bind_some]
      · rw [rb, if_neg (show ¬ d < a by omega), if_pos (show d ≤ b by omega), t2, Option.bind_some]
      · exact t5.imp (fun y => ⟨d, lf, lt, y.1, y.2.mono (by omega), rfl, rfl, hd, id, fun _ => by omega⟩) id
  · obtain ⟨h', e2, f2, d2⟩ : ∃ h', f_X12_bounded_60 (nI a) (nI b) h = some (nI a, h') ∧ xfrm fM h h' ∧ dR S 1 i h' := by
      obtain ⟨g', h', e1, e2, f1, f2, d1, d2⟩ := p_fail hK l (f := 1) (.inl rfl)
      refine ⟨h', ?_, f2, d2⟩
      unfold f_X12_bounded_60
      rw [l.2.2.1.2.1, if_neg (by decide), show f_X12_is_60 2 h = _ from r_is hK l (a := 3) (by decide), if_neg z, Option.bind_some, if_pos rfl, show f_X12_fail_60 1 h = some h' from e2]
      rfl
    have tk : ∀ w : xG, xfrm fN g w → ∃ g', f_X3_take_17 3 w = some g' ∧ xfrm (fT ++ fN) g g' ∧ dC K S V E 1 i g' := by
      intro w fw
      have fg : xfrm [(17, some 6)] w (xupd w.1 17 6 1, w.2) := xfrm.up xfrm.rf rfl
      have tw := l.1.2.1.ag (fw.agr (C := kTc) rfl)
      have w5 : w.1 17 5 = nI i := ((fw 17 5 rfl).1).trans l.2.1.1
      have w6 : w.1 17 6 = 0 := ((fw 17 6 rfl).1).trans l.2.1.2.1
      refine ⟨_, ?_, (fw.wk rfl).th (fg.wk rfl), .inl rfl, l.1.1, tw.ag (fg.agr rfl), ((fg 17 5 rfl).1).trans w5, rfl⟩
      unfold f_X3_take_17 f_X3_stop_17
      rw [w6, if_pos rfl, w5, (tw i l.1.1).1, Option.bind_some, if_neg (show ¬ nI (K i) = 3 from fun y => z ((nI_eq (b := 3) (by omega) (by decide)).mp y)), if_pos rfl, xl_e]
    have nt : ∃ w, f_X3_note_17 5 (g.1 17 5) g = w ∧ xfrm fN g w := by
      unfold f_X3_note_17
      split
      · exact ⟨_, rfl, xfrm.up (xfrm.up xfrm.rf rfl) rfl⟩
      · exact ⟨_, rfl, xfrm.rf⟩
    obtain ⟨wn, en, fn⟩ := nt
    obtain ⟨ga, a1, a2, a3⟩ := tk wn fn
    obtain ⟨gb, b1, b2, b3⟩ := tk g xfrm.rf
    unfold f_X3_takeNumber_17
    rw [en, xl_e, a1, b1, Option.bind_some, Option.bind_some]
    split
    · exact ⟨_, _, ga, h', rfl, e2, a2, f2.wk rfl, .inr ⟨1, i, a3, d2⟩⟩
    · split
      · exact ⟨_, _, gb, h', rfl, e2, b2, f2.wk rfl, .inr ⟨1, i, b3, d2⟩⟩
      · exact ⟨_, _, ga, h', rfl, e2, a2, f2.wk rfl, .inr ⟨1, i, a3, d2⟩⟩
end
