/-! laws told to both: step by step, live or dead -/
def kpC (s : Nat) (g g' : xG) : Prop := ∀ q, q < s → g'.1 33 q = g.1 33 q ∧ g'.1 34 q = g.1 34 q
def kpR (p : Nat) (h h' : xG) : Prop := ∀ q, q < p → h'.1 88 q = h.1 88 q ∧ h'.1 89 q = h.1 89 q
def kpO (pB : Nat) (h h' : xG) : Prop := ∀ q, q < pB ∨ pB + 420 ≤ q → h'.1 88 q = h.1 88 q ∧ h'.1 89 q = h.1 89 q
theorem kpC.rf {s : Nat} {g : xG} : kpC s g g := fun _ _ => ⟨rfl, rfl⟩
theorem kpR.rf {s : Nat} {g : xG} : kpR s g g := fun _ _ => ⟨rfl, rfl⟩
theorem kpO.rf {s : Nat} {g : xG} : kpO s g g := fun _ _ => ⟨rfl, rfl⟩
theorem kpC.tr {s t : Nat} {g w v : xG} (a : kpC s g w) (b : kpC t w v) (h : s ≤ t) : kpC s g v := fun q hq => ⟨((b q (by omega)).1).trans (a q hq).1, ((b q (by omega)).2).trans (a q hq).2⟩
theorem kpR.tr {s t : Nat} {g w v : xG} (a : kpR s g w) (b : kpR t w v) (h : s ≤ t) : kpR s g v := fun q hq => ⟨((b q (by omega)).1).trans (a q hq).1, ((b q (by omega)).2).trans (a q hq).2⟩
theorem kpO.tr {s : Nat} {g w v : xG} (a : kpO s g w) (b : kpO s w v) : kpO s g v := fun q hq => ⟨((b q hq).1).trans (a q hq).1, ((b q hq).2).trans (a q hq).2⟩
theorem kpC.fr {s : Nat} {A : List (Nat × Option Nat)} {g w : xG} (f : xfrm A g w) (h : xfree A [(33, none), (34, none)] = true) : kpC s g w := fun q _ => ⟨(f.agr h 33 q rfl).1, (f.agr h 34 q rfl).1⟩
theorem kpR.fr {s : Nat} {A : List (Nat × Option Nat)} {g w : xG} (f : xfrm A g w) (h : xfree A [(88, none), (89, none)] = true) : kpR s g w := fun q _ => ⟨(f.agr h 88 q rfl).1, (f.agr h 89 q rfl).1⟩
theorem kpO.fr {s : Nat} {A : List (Nat × Option Nat)} {g w : xG} (f : xfrm A g w) (h : xfree A [(88, none), (89, none)] = true) : kpO s g w := fun q _ => ⟨(f.agr h 88 q rfl).1, (f.agr h 89 q rfl).1⟩
theorem sgC.kp {s i : Nat} {c : List pI} {g w : xG} (h : sgC (dw g) i c) (k : kpC s g w) (hs : i + c.length ≤ s) : sgC (dw w) i c := sgC_up (g := dw g) (fun j _ h2 => k j (by omega)) h
theorem sgR.kp {s i : Nat} {c : List pI} {g w : xG} (h : sgR g i c) (k : kpR s g w) (hs : i + c.length ≤ s) : sgR w i c := sgR_up (fun j _ h2 => k j (by omega)) h
section
variable {K S : Nat → Nat} {V : Nat → Int64} {E : Nat}
theorem xagr.sub {A B : List (Nat × Option Nat)} {g w : xG} (a : xagr B g w) (h : xsubf A B = true) : xagr A g w := fun q k hc => a q k (by
  cases e : xcov B q k with
  | true => rfl
  | false => rw [xsubf_ok h e] at hc; cases hc)
def kLD : List (Nat × Option Nat) := kLh ++ [(60, some 42), (60, some 12), (60, some 14)]
/-- both live with their sizes, or both dead -/
def LD (K S : Nat → Nat) (V : Nat → Int64) (E b lf lt pB m : Nat) (C : Nat → Nat → Nat → Prop) (g h : xG) : Prop := (∃ i s p, lv K S V E i b lf lt g h ∧ (g.1 32 4 = nI s ∧ h.1 60 42 = nI p ∧ h.1 60 12 = nI 0) ∧ (s + m ≤ 8 + i ∧ pB ≤ p ∧ p ≤ pB + i) ∧ C i s p) ∨ dd K S V E g h
theorem LD.mono {b lf lt pB m : Nat} {C C' : Nat → Nat → Nat → Prop} {g h : xG} (z : LD K S V E b lf lt pB m C g h) (hC : ∀ i s p, C i s p → C' i s p) : LD K S V E b lf lt pB m C' g h := by
  rcases z with ⟨i, s, p, l, e, f, c⟩ | d
  · exact .inl ⟨i, s, p, l, e, f, hC i s p c⟩
  · exact .inr d
theorem LD.ag {b lf lt pB m : Nat} {C : Nat → Nat → Nat → Prop} {g h g' h' : xG} (z : LD K S V E b lf lt pB m C g h) (a : xagr ((32, some 4) :: kLc) g g') (c : xagr kLD h h') : LD K S V E b lf lt pB m C g' h' := by
  have a1 : xagr kLc g g' := a.sub rfl
  have c1 : xagr kLh h h' := c.sub rfl
  rcases z with ⟨i, s, p, l, ⟨e1, e2, e3⟩, f, d⟩ | d
  · exact .inl ⟨i, s, p, l.ag a1 c1, ⟨((a 32 4 rfl).1).trans e1, ((c 60 42 rfl).1).trans e2, ((c 60 12 rfl).1).trans e3⟩, f, d⟩
  · exact .inr (d.ag (a.sub rfl) (c.sub rfl))
theorem s_take (hK : tkK K S E) {b lf lt pB m a : Nat} {C : Nat → Nat → Nat → Prop} {g h : xG} (z : LD K S V E b lf lt pB m C g h) (ha : a ≤ 33) (ha0 : a ≠ 0) : ∃ g' h', f_X3_take_17 (nI a) g = some g' ∧ f_X12_must_60 (nI (kap a)) h = some h' ∧ xfrm fT g g' ∧ xfrm fM h h' ∧ LD K S V E b lf lt pB (m + 1) (fun i' s p => ∃ i, i' = i + 1 ∧ K i = a ∧ C i s p) g' h' := by
  rcases z with ⟨i, s, p, l, ⟨e1, e2, e3⟩, ⟨f1, f2, f3⟩, c⟩ | ⟨f, i, d1, d2⟩
  · obtain ⟨g', h', a1, a2, a3, a4, a5⟩ := p_take hK l ha ha0
    refine ⟨g', h', a1, a2, a3, a4, ?_⟩
    rcases a5 with ⟨k, i4, l'⟩ | d
    · exact .inl ⟨i + 1, s, p, l', ⟨((a3 32 4 rfl).1).trans e1, ((a4 60 42 rfl).1).trans e2, ((a4 60 12 rfl).1).trans e3⟩, ⟨by omega, f2, by omega⟩, i, rfl, k, c⟩
    · exact .inr d
  · exact ⟨g, h, cd_take d1 _, rd_must d2 _, xfrm.rf, xfrm.rf, .inr ⟨f, i, d1, d2⟩⟩
/-- the class adds a step -/
theorem s_add {b lf lt pB m k : Nat} {v : Int32} {C : Nat → Nat → Nat → Prop} {g h : xG} (hK : tkK K S E) (z : LD K S V E b lf lt pB (m + 1) C g h) : ∃ g', f_X2_add_32 (nI k) v g = g' ∧ xfrm [(32, some 4), (33, none), (34, none)] g g' ∧ LD K S V E b lf lt pB m (fun i s' p => ∃ s, s' = s + 1 ∧ s < 408 ∧ C i s p ∧ g'.1 33 s = nI k ∧ g'.1 34 s = v ∧ kpC s g g') g' h := by
  rcases z with ⟨i, s, p, l, ⟨e1, e2, e3⟩, ⟨f1, f2, f3⟩, c⟩ | ⟨f, i, d1, d2⟩
  · have hi := l.1.1
    have hE := hK.1
    obtain ⟨w, w1, w2, w3, w4, w5⟩ := c_emit (g := g) (z := s) (by omega) e1 (nI k) v
    refine ⟨w, w1, w5, .inl ⟨i, s + 1, p, l.ag (w5.agr rfl) xagr.rf, ⟨w2, e2, e3⟩, ⟨by omega, f2, f3⟩, s, rfl, by omega, c, ?_, ?_, fun q hq => ?_⟩⟩
    · rw [w3, if_pos rfl]
    · rw [w4, if_pos rfl]
    · rw [w3, w4, if_neg (by omega), if_neg (by omega)]
      exact ⟨rfl, rfl⟩
  · have w5 : xfrm [(32, some 4), (33, none), (34, none)] g (f_X2_add_32 (nI k) v g) := (fr_X2_add_32 _ rfl).wk rfl
    exact ⟨_, rfl, w5, .inr ⟨f, i, d1.ag (w5.agr rfl), d2⟩⟩
theorem p_sum (hK : tkK K S E) {i b lf lt s p pB : Nat} {g h : xG} (l : lv K S V E i b lf lt g h) (e1 : g.1 32 4 = nI s) (e2 : h.1 60 42 = nI p) (e3 : h.1 60 12 = nI 0) (hs : s + 1 ≤ 8 + i) (hp : p ≤ pB + i) (hB : pB ≤ 420) : ∃ g' h', f_X3_readSum_17 g = some g' ∧ f_X12_expression_60 h = some h' ∧ xfrm fEc g g' ∧ xfrm fEr h h' ∧ (∀ q, q < p ∨ pB + 420 ≤ q → h'.1 88 q = h.1 88 q ∧ h'.1 89 q = h.1 89 q) ∧ ((∃ i' c, lv K S V E i' b lf lt g' h' ∧ c.length + i ≤ i' ∧ 1 ≤ c.length ∧ shp 0 c = some 1 ∧ (g'.1 32 4 = nI (s + c.length) ∧ h'.1 60 42 = nI (p + c.length) ∧ h'.1 60 12 = nI 0) ∧ sgC (dw g') s c ∧ sgR h' p c ∧ kpC s g g') ∨ dd K S V E g' h') := by
  have hi := l.1.1
  have hE := hK.1
  have fc : xfrm [(17, some 4)] g (xupd g.1 17 4 0, g.2) := xfrm.up xfrm.rf rfl
  have fr : xfrm [(60, some 46)] h (xupd h.1 60 46 0, h.2) := xfrm.up xfrm.rf rfl
  have l0 : lv K S V E i b lf lt (xupd g.1 17 4 0, g.2) (xupd h.1 60 46 0, h.2) := l.ag (fc.agr rfl) (fr.agr rfl)
  have o0 : ops [] = 0 := rfl
  obtain ⟨g', h', a1, a2, a3, a4, a5, a6⟩ := (ex_run (gA := g) (hA := h) (b := b) (lf := lf) (lt := lt) (i0 := i) (s0 := s) (p0 := p) (pE := pB + 420) hK (by omega) (by omega) (by omega) E i 0 [] [] (xupd g.1 17 4 0, g.2) (xupd h.1 60 46 0, h.2) hE (by omega)).1 0 4000 4000 3999 (by omega) (by omega) (by omega) (by omega) ⟨l0, by rw [o0]; show 0 + 0 + i ≤ i; omega, .inl rfl, by decide, rfl, ⟨rfl, trivial, ((fc 32 4 rfl).1).trans e1, trivial, fun q _ => ⟨(fc 33 q rfl).1, (fc 34 q rfl).1⟩, fc.wk rfl⟩, ⟨((fr 60 12 rfl).1).trans e3, rfl, trivial, ((fr 60 42 rfl).1).trans e2, trivial, fun q _ => ⟨(fr 88 q rfl).1, (fr 89 q rfl).1⟩, fr.wk rfl⟩⟩
  refine ⟨g', h', a1, ?_, a3, a4, a5, ?_⟩
  · unfold f_X12_expression_60
    rw [e3, show xN = 3999 + 1 from rfl, f_X12_expression_60_12]
    rw [if_neg (show ¬ (1 : Int32) = 0 by decide), if_pos (show (xupd h.1 60 46 0) 60 13 = 0 from l0.2.2.1.2.1)]
    exact a2
  · rcases a6 with ⟨i', c, b1, b2, b3, b4, b5⟩ | d
    · refine .inl ⟨i', c, b1, b2, ?_, b3, ⟨b4.2.2.1, b5.2.2.2.1, b5.1⟩, b4.2.2.2.1, b5.2.2.2.2.1, b4.2.2.2.2.1⟩
      cases c with
      | nil => cases b3
      | cons x c => rw [List.length_cons]; omega
    · exact .inr d
/-- a sum, or none where dead -/
theorem s_sum (hK : tkK K S E) {b lf lt pB m : Nat} {C : Nat → Nat → Nat → Prop} {g h : xG} (z : LD K S V E b lf lt pB (m + 1) C g h) (hB : pB ≤ 420) : ∃ g' h', f_X3_readSum_17 g = some g' ∧ f_X12_expression_60 h = some h' ∧ (∀ k : xG → Option xG, (if (h.1 60 13) = 0 then (f_X12_expression_60 h).bind k else k h) = k (if (h.1 60 13) = 0 then h' else h)) ∧ xfrm fEc g g' ∧ xfrm fEr h h' ∧ kpO pB h h' ∧ LD K S V E b lf lt pB (m + 1) (fun i' s' p' => ∃ i s p c, C i s p ∧ c.length + i ≤ i' ∧ 1 ≤ c.length ∧ shp 0 c = some 1 ∧ s' = s + c.length ∧ p' = p + c.length ∧ sgC (dw g') s c ∧ sgR h' p c ∧ kpC s g g' ∧ kpR p h h') g' h' := by
  rcases z with ⟨i, s, p, l, ⟨e1, e2, e3⟩, ⟨f1, f2, f3⟩, c⟩ | ⟨f, i, d1, d2⟩
  · obtain ⟨g', h', a1, a2, a3, a4, a5, a6⟩ := p_sum hK l e1 e2 e3 (by omega) f3 hB
    refine ⟨g', h', a1, a2, fun k => ?_, a3, a4, fun q hq => a5 q (by omega), ?_⟩
    · rw [l.2.2.1.2.1, if_pos rfl, if_pos rfl, a2, Option.bind_some]
    · rcases a6 with ⟨i', c', b1, b2, b3, b4, b5, b6, b7, b8⟩ | d
      · exact .inl ⟨i', s + c'.length, p + c'.length, b1, b5, ⟨by omega, by omega, by omega⟩, i, s, p, c', c, b2, b3, b4, rfl, rfl, b6, b7, b8, fun q hq => a5 q (.inl hq)⟩
      · exact .inr d
  · have fc : xfrm [(17, some 4)] g (xupd g.1 17 4 0, g.2) := xfrm.up xfrm.rf rfl
    have fr : xfrm [(60, some 46)] h (xupd h.1 60 46 0, h.2) := xfrm.up xfrm.rf rfl
    have d3 := d1.ag (fc.agr rfl)
    have d4 := d2.ag (fr.agr rfl)
    refine ⟨(xupd g.1 17 4 0, g.2), (xupd h.1 60 46 0, h.2), ?_, ?_, fun k => ?_, fc.wk rfl, fr.wk rfl, kpO.fr fr rfl, .inr ⟨f, i, d3, d4⟩⟩
    · unfold f_X3_readSum_17
      exact cs_dead d3 3999 _ _ _
    · unfold f_X12_expression_60
      exact r12_dead d4 3999 _ _
    · rw [d2.2.1, if_neg (f12_ne d2.1), if_neg (f12_ne d2.1)]
end
