/-! laws told to both: a term, and the last one -/
def fTm : List (Nat × Option Nat) := fEr ++ [(60, some 36), (86, none), (87, none)]
def fLr : List (Nat × Option Nat) := fEr ++ [(60, some 36), (81, none), (82, none), (83, none), (84, none), (85, none), (86, none), (87, none)]
def kpB (b e : Nat) (h h' : xG) : Prop := ∀ q, q < b ∨ e ≤ q → h'.1 83 q = h.1 83 q ∧ h'.1 84 q = h.1 84 q ∧ h'.1 85 q = h.1 85 q ∧ h'.1 86 q = h.1 86 q ∧ h'.1 87 q = h.1 87 q
def kp8 (x : Nat) (h h' : xG) : Prop := ∀ q, q ≠ x → h'.1 81 q = h.1 81 q ∧ h'.1 82 q = h.1 82 q
theorem kpB.tr {b e b1 e1 : Nat} {h w v : xG} (x : kpB b e h w) (y : kpB b1 e1 w v) (hb : b ≤ b1) (he : e1 ≤ e) : kpB b e h v := fun q hq => by
  obtain ⟨a1, a2, a3, a4, a5⟩ := x q hq
  obtain ⟨b1, b2, b3, b4, b5⟩ := y q (by omega)
  exact ⟨b1.trans a1, b2.trans a2, b3.trans a3, b4.trans a4, b5.trans a5⟩
theorem kpB.fr {b e : Nat} {A : List (Nat × Option Nat)} {h w : xG} (f : xfrm A h w) (hA : xfree A [(83, none), (84, none), (85, none), (86, none), (87, none)] = true) : kpB b e h w := fun q _ => ⟨(f.agr hA 83 q rfl).1, (f.agr hA 84 q rfl).1, (f.agr hA 85 q rfl).1, (f.agr hA 86 q rfl).1, (f.agr hA 87 q rfl).1⟩
theorem kp8.tr {x : Nat} {h w v : xG} (a : kp8 x h w) (b : kp8 x w v) : kp8 x h v := fun q hq => ⟨((b q hq).1).trans (a q hq).1, ((b q hq).2).trans (a q hq).2⟩
theorem kp8.fr {x : Nat} {A : List (Nat × Option Nat)} {h w : xG} (f : xfrm A h w) (hA : xfree A [(81, none), (82, none)] = true) : kp8 x h w := fun q _ => ⟨(f.agr hA 81 q rfl).1, (f.agr hA 82 q rfl).1⟩
/-- a law, whatever is written elsewhere -/
def BC (s s' : Nat) (bs : List (List pI × List pI × List pI)) (e : List pI) (g : xG) : Prop := ∀ w, (∀ q, s ≤ q → q < s' → w.1 33 q = g.1 33 q ∧ w.1 34 q = g.1 34 q) → brC (dw w) s bs e
def BR (p p' b : Nat) (bs : List (List pI × List pI × List pI)) (e : List pI) (h : xG) : Prop := ∀ w, (∀ q, b ≤ q → q ≤ b + bs.length → w.1 83 q = h.1 83 q ∧ w.1 84 q = h.1 84 q ∧ w.1 85 q = h.1 85 q ∧ w.1 86 q = h.1 86 q ∧ w.1 87 q = h.1 87 q) → (∀ q, p ≤ q → q < p' → w.1 88 q = h.1 88 q ∧ w.1 89 q = h.1 89 q) → brR w b bs e
section
variable {K S : Nat → Nat} {V : Nat → Int64} {E : Nat}
theorem LD.szs {b lf lt pB m : Nat} {C : Nat → Nat → Nat → Prop} {g h : xG} (z : LD K S V E b lf lt pB m C g h) : LD K S V E b lf lt pB m (fun i s p => C i s p ∧ g.1 32 4 = nI s ∧ h.1 60 42 = nI p ∧ s ≤ 8 + i ∧ p ≤ pB + i ∧ i ≤ E) g h := by
  rcases z with ⟨i, s, p, l, ⟨e1, e2, e3⟩, ⟨f1, f2, f3⟩, c⟩ | d
  · exact .inl ⟨i, s, p, l, ⟨e1, e2, e3⟩, ⟨f1, f2, f3⟩, c, e1, e2, by omega, f3, l.1.1⟩
  · exact .inr d
theorem LD.wk {b lf lt pB m n : Nat} {C : Nat → Nat → Nat → Prop} {g h : xG} (z : LD K S V E b lf lt pB m C g h) (hn : n ≤ m) : LD K S V E b lf lt pB n C g h := by
  rcases z with ⟨i, s, p, l, e, ⟨f1, f2, f3⟩, c⟩ | d
  · exact .inl ⟨i, s, p, l, e, ⟨by omega, f2, f3⟩, c⟩
  · exact .inr d
theorem s_sumIf (hK : tkK K S E) {b lf lt pB m : Nat} {C : Nat → Nat → Nat → Prop} {g h : xG} (z : LD K S V E b lf lt pB (m + 1) C g h) (hB : pB ≤ 420) : ∃ g' h', f_X3_readSum_17 g = some g' ∧ (∀ k k2 : xG → Option xG, k2 h = k h → (if (h.1 60 13) = 0 then (f_X12_expression_60 h).bind k else k2 h) = k h') ∧ xfrm fEc g g' ∧ xfrm fEr h h' ∧ kpO pB h h' ∧ LD K S V E b lf lt pB (m + 1) (fun i' s' p' => ∃ i s p c, C i s p ∧ c.length + i ≤ i' ∧ 1 ≤ c.length ∧ shp 0 c = some 1 ∧ s' = s + c.length ∧ p' = p + c.length ∧ sgC (dw g') s c ∧ sgR h' p c ∧ kpC s g g' ∧ kpR p h h') g' h' := by
  rcases z with ⟨i, s, p, l, e, f, c⟩ | ⟨f, i, d1, d2⟩
  · have hz := l.2.2.1.2.1
    obtain ⟨g', h', a1, a2, a3, a4, a5, a6, a7⟩ := s_sum (m := m) (C := C) hK (.inl ⟨i, s, p, l, e, f, c⟩) hB
    refine ⟨g', h', a1, fun k k2 _ => ?_, a4, a5, a6, a7⟩
    rw [hz, if_pos rfl, a2, Option.bind_some]
  · have fc : xfrm [(17, some 4)] g (xupd g.1 17 4 0, g.2) := xfrm.up xfrm.rf rfl
    have d3 := d1.ag (fc.agr rfl)
    refine ⟨(xupd g.1 17 4 0, g.2), h, ?_, fun k k2 hk => ?_, fc.wk rfl, xfrm.rf, kpO.rf, .inr ⟨f, i, d3, d2⟩⟩
    · unfold f_X3_readSum_17
      exact cs_dead d3 3999 _ _ _
    · rw [d2.2.1, if_neg (f12_ne d2.1), hk]
theorem s_term (hK : tkK K S E) {b lf lt pB m br : Nat} {C : Nat → Nat → Nat → Prop} {g h : xG} (z : LD K S V E b lf lt pB (m + 1) C g h) (hB : pB ≤ 420) (hb : h.1 60 36 = nI br) (hbr : br < 260) : ∃ g' h', f_X3_readSum_17 g = some g' ∧ f_X12_term_60 h = some h' ∧ xfrm fEc g g' ∧ xfrm fTm h h' ∧ kpO pB h h' ∧ h'.1 60 36 = nI (br + 1) ∧ kpB br (br + 1) h h' ∧ LD K S V E b lf lt pB (m + 1) (fun i' s' p' => ∃ i s p c, C i s p ∧ c.length + i ≤ i' ∧ 1 ≤ c.length ∧ shp 0 c = some 1 ∧ s' = s + c.length ∧ p' = p + c.length ∧ sgC (dw g') s c ∧ sgR h' p c ∧ kpC s g g' ∧ kpR p h h' ∧ h'.1 86 br = nI p ∧ h'.1 87 br = nI (p + c.length)) g' h' := by
  have f0 : xfrm [(86, none)] h (xupd h.1 86 br (h.1 60 42), h.2) := xfrm.up xfrm.rf rfl
  have z0 := (z.szs).ag (g' := g) xagr.rf (f0.agr (C := kLD) rfl)
  obtain ⟨g1, h1, a1, a2, a3, a4, a5, a6⟩ := s_sumIf hK z0 hB
  have b36 : h1.1 60 36 = nI br := ((a4 60 36 rfl).1).trans (((f0 60 36 rfl).1).trans hb)
  have f1 : xfrm [(87, none), (60, some 36)] h1 (xupd (xupd h1.1 87 br (h1.1 60 42)) 60 36 (nI (br + 1)), h1.2) := xfrm.up (xfrm.up xfrm.rf rfl) rfl
  have z1 := (a6.szs).ag (g' := g1) xagr.rf (f1.agr (C := kLD) rfl)
  have fa : xfrm fTm h (xupd (xupd h1.1 87 br (h1.1 60 42)) 60 36 (nI (br + 1)), h1.2) := ((f0.wk (B := fTm) rfl).th (a4.wk rfl)).th (f1.wk rfl)
  refine ⟨g1, (xupd (xupd h1.1 87 br (h1.1 60 42)) 60 36 (nI (br + 1)), h1.2), a1, ?_, a3, fa, ((kpO.fr f0 rfl).tr a5).tr (kpO.fr f1 rfl), rfl, fun q hq => ⟨(fa 83 q rfl).1, (fa 84 q rfl).1, (fa 85 q rfl).1, ?_, ?_⟩, z1.mono fun i' s' p' hc => ?_⟩
  · unfold f_X12_term_60
    rw [hb, xg_in hbr (by decide), nI_clamp (by omega)]
    refine Eq.trans (a2 (fun w1 => f_X12_term_60_24 w1) (fun w1 => f_X12_term_60_24 w1) rfl) ?_
    unfold f_X12_term_60_24
    rw [b36, xg_in hbr (by decide), nI_clamp (by omega), nI_1]
  · rw [((f1 86 q rfl).1).trans ((a4 86 q rfl).1)]
    show xupd h.1 86 br (h.1 60 42) 86 q = h.1 86 q
    exact xu_ne (by omega)
  · show xupd (xupd h1.1 87 br (h1.1 60 42)) 60 36 (nI (br + 1)) 87 q = h.1 87 q
    rw [xu_q (show (87 : Nat) ≠ 60 by decide), xu_ne (by omega)]
    exact ((a4 87 q rfl).1).trans ((f0 87 q rfl).1)
  · obtain ⟨⟨i, s, p, c, ⟨c0, -, c42, -⟩, c1, c2, c3, c4, c5, c6, c7, c8, c9⟩, -, e42, -⟩ := hc
    refine ⟨i, s, p, c, c0, c1, c2, c3, c4, c5, c6, sgR.kp c7 (kpR.fr (s := p + c.length) f1 rfl) (Nat.le_refl _), c8, ((kpR.fr (s := p) f0 rfl).tr c9 (Nat.le_refl _)).tr (kpR.fr (s := p) f1 rfl) (Nat.le_refl _), ?_, ?_⟩
    · rw [((f1 86 br rfl).1).trans ((a4 86 br rfl).1), ← c42]
      show xupd h.1 86 br (h.1 60 42) 86 br = h.1 60 42
      exact xu_eq
    · show xupd (xupd h1.1 87 br (h1.1 60 42)) 60 36 (nI (br + 1)) 87 br = _
      rw [xu_q (show (87 : Nat) ≠ 60 by decide), xu_eq, e42, c5]
/-- what a law that was told leaves -/
def lwE (C : Nat → Nat → Nat → Prop) (j L k br : Nat) (l2 : Int32) (g h g' h' : xG) (i' s' p' : Nat) : Prop := ∃ i s p bs e, C i s p ∧ i + 7 * bs.length + 2 ≤ i' ∧ s ≤ s' ∧ p ≤ p' ∧ lOK (bs, e) ∧ bs.length + j ≤ 4 ∧ h'.1 60 36 = nI (br + bs.length + 1) ∧ BC s s' bs e g' ∧ BR p p' br bs e h' ∧ kpC s g g' ∧ kpR p h h' ∧ h'.1 81 (4 * L + k) = l2 ∧ h'.1 82 (4 * L + k) = nI (br + bs.length + 1)
theorem s_fin (hK : tkK K S E) {b lf lt pB br L k j : Nat} {l2 : Int32} {C : Nat → Nat → Nat → Prop} {g h : xG} (z : LD K S V E b lf lt pB 2 C g h) (hB : pB ≤ 420) (hb : h.1 60 36 = nI br) (hbr : br < 260) (hL : h.1 60 19 = nI L) (hL2 : L < 2) (hk : k < 4) (hj : j ≤ 4) : ∃ g' h', ((f_X3_readSum_17 g).bind fun w9 => xl (f_X2_add_32 0 0 w9) fun w10 => f_X3_take_17 4 w10) = some g' ∧ f_X12_tellLaw_60_129 (nI k) l2 h = some h' ∧ xfrm fEc g g' ∧ xfrm fLr h h' ∧ kpO pB h h' ∧ kpB br (br + 1) h h' ∧ kp8 (4 * L + k) h h' ∧ LD K S V E b lf lt pB 2 (lwE C j L k br l2 g h g' h') g' h' := by
  have f0 : xfrm [(83, none)] h (xupd h.1 83 br (0 &&& 1), h.2) := xfrm.up xfrm.rf rfl
  have z0 := z.ag (g' := g) xagr.rf (f0.agr (C := kLD) rfl)
  obtain ⟨g1, h1, a1, a2, a3, a4, a5, a6, a7, a8⟩ := s_term hK z0 hB (((f0 60 36 rfl).1).trans hb) hbr
  obtain ⟨g2, b1, b2, b3⟩ := s_add (k := 0) (v := 0) hK a8
  obtain ⟨g3, h3, c1, c2, c3, c4, c5⟩ := s_take hK b3 (a := 4) (by decide) (by decide)
  have fc : xfrm fEc g g3 := (a3.th (b2.wk rfl)).th (c3.wk rfl)
  have e1 : ((f_X3_readSum_17 g).bind fun w9 => xl (f_X2_add_32 0 0 w9) fun w10 => f_X3_take_17 4 w10) = some g3 := by
    rw [a1, Option.bind_some, show f_X2_add_32 0 0 g1 = g2 from b1, xl_e]
    exact c1
  have e2 : f_X12_tellLaw_60_129 (nI k) l2 h = if (h3.1 60 13) ≤ 0 then some (xupd (xupd h3.1 81 (4 * L + k) l2) 82 (4 * L + k) (h3.1 60 36), h3.2) else some h3 := by
    have g19 : h3.1 60 19 = nI L := ((c4 60 19 rfl).1).trans (((a4 60 19 rfl).1).trans (((f0 60 19 rfl).1).trans hL))
    unfold f_X12_tellLaw_60_129
    rw [hb, xg_in hbr (by decide), nI_clamp (by omega), a2, Option.bind_some, show f_X12_must_60 4 h1 = some h3 from c2, Option.bind_some, g19, i4, xg_in (show 4 * L + k < 8 by omega) (by decide), xg_in (show 4 * L + k < 8 by omega) (by decide), nI_clamp (by omega)]
  have fr : xfrm fLr h h3 := ((f0.wk (B := fLr) rfl).th (a4.wk rfl)).th (c4.wk rfl)
  have kO : kpO pB h h3 := ((kpO.fr f0 rfl).tr a5).tr (kpO.fr c4 rfl)
  have kB : kpB br (br + 1) h h3 := by
    have x : kpB br (br + 1) h (xupd h.1 83 br (0 &&& 1), h.2) := fun q hq => ⟨(show xupd h.1 83 br (0 &&& 1) 83 q = h.1 83 q from xu_ne (by omega)), (f0 84 q rfl).1, (f0 85 q rfl).1, (f0 86 q rfl).1, (f0 87 q rfl).1⟩
    exact (x.tr a7 (Nat.le_refl _) (Nat.le_refl _)).tr (kpB.fr (b := br) (e := br + 1) c4 rfl) (Nat.le_refl _) (Nat.le_refl _)
  have k8 : kp8 (4 * L + k) h h3 := ((kp8.fr f0 rfl).tr (kp8.fr a4 rfl)).tr (kp8.fr c4 rfl)
  rcases c5 with ⟨i', s', p', l, ⟨q1, q2, q3⟩, ⟨q4, q5, q6⟩, i3, rfl, -, s2, rfl, h408, ⟨i0, s0, p0, c, hC, c1', c2', c3', rfl, rfl, c6, c7, c8, c9, c10, c11⟩, w33, w34, kk⟩ | d
  · have f4 : xfrm [(81, none), (82, none)] h3 (xupd (xupd h3.1 81 (4 * L + k) l2) 82 (4 * L + k) (h3.1 60 36), h3.2) := xfrm.up (xfrm.up xfrm.rf rfl) rfl
    have l4 := l.ag (g' := g3) xagr.rf (f4.agr (C := kLh) rfl)
    have h36 : h3.1 60 36 = nI (br + 1) := ((c4 60 36 rfl).1).trans a6
    have hi := l.1.1
    have hE4 := hK.1
    refine ⟨g3, (xupd (xupd h3.1 81 (4 * L + k) l2) 82 (4 * L + k) (h3.1 60 36), h3.2), e1, ?_, fc, fr.th (f4.wk rfl), kO.tr (kpO.fr f4 rfl), kB.tr (kpB.fr (b := br) (e := br + 1) f4 rfl) (Nat.le_refl _) (Nat.le_refl _), fun q hq => ?_, .inl ⟨i3 + 1, s0 + c.length + 1, p0 + c.length, l4, ⟨q1, ((f4 60 42 rfl).1).trans q2, ((f4 60 12 rfl).1).trans q3⟩, ⟨by omega, q5, q6⟩, i0, s0, p0, [], c, hC, ?_, by omega, by omega, ⟨fun q hq => absurd hq List.not_mem_nil, c3'⟩, by simpa using hj, ?_, fun w hw => ⟨?_, h408, ?_⟩, fun w hw1 hw2 => ⟨?_, p0, ?_, ?_, ?_, by omega⟩, ?_, ?_, ?_, ?_⟩⟩
    · rw [e2, l.2.2.1.2.1, if_pos (by decide)]
    · constructor
      · show xupd (xupd h3.1 81 (4 * L + k) l2) 82 (4 * L + k) (h3.1 60 36) 81 q = _
        rw [xu_q (by decide), xu_ne hq]
        exact (k8 q hq).1
      · show xupd (xupd h3.1 81 (4 * L + k) l2) 82 (4 * L + k) (h3.1 60 36) 82 q = _
        rw [xu_ne hq, xu_q (by decide)]
        exact (k8 q hq).2
    · show i0 + 7 * 0 + 2 ≤ i3 + 1
      omega
    · exact ((f4 60 36 rfl).1).trans h36
    · refine sgC_up (g := dw g3) (fun q h1 h2 => hw q h1 (by omega)) ?_
      exact sgC.kp c6 (kk.tr (kpC.fr (s := s0 + c.length) c3 rfl) (Nat.le_refl _)) (Nat.le_refl _)
    · show w.1 33 (s0 + c.length) = nI 0
      rw [(hw (s0 + c.length) (by omega) (by omega)).1, (c3 33 _ rfl).1, w33]
    · rw [(hw1 br (Nat.le_refl _) (by omega)).1, (f4 83 br rfl).1, (c4 83 br rfl).1, (a4 83 br rfl).1]
      show xupd h.1 83 br (0 &&& 1) 83 br = 0
      exact xu_eq
    · rw [(hw1 br (Nat.le_refl _) (by omega)).2.2.2.1, (f4 86 br rfl).1, (c4 86 br rfl).1, c10]
    · rw [(hw1 br (Nat.le_refl _) (by omega)).2.2.2.2, (f4 87 br rfl).1, (c4 87 br rfl).1, c11]
    · refine sgR_up (fun q h1 h2 => hw2 q h1 h2) ?_
      exact sgR.kp c7 ((kpR.fr (s := p0 + c.length) c4 rfl).tr (kpR.fr (s := p0 + c.length) f4 rfl) (Nat.le_refl _)) (Nat.le_refl _)
    · exact (c8.tr kk (by omega)).tr (kpC.fr (s := s0 + c.length) c3 rfl) (by omega)
    · exact (((kpR.fr (s := p0) f0 rfl).tr c9 (Nat.le_refl _)).tr (kpR.fr (s := p0) c4 rfl) (Nat.le_refl _)).tr (kpR.fr (s := p0) f4 rfl) (Nat.le_refl _)
    · show xupd (xupd h3.1 81 (4 * L + k) l2) 82 (4 * L + k) (h3.1 60 36) 81 (4 * L + k) = _
      rw [xu_q (by decide), xu_eq]
    · show xupd (xupd h3.1 81 (4 * L + k) l2) 82 (4 * L + k) (h3.1 60 36) 82 (4 * L + k) = _
      rw [xu_eq, h36]
      rfl
  · refine ⟨g3, h3, e1, ?_, fc, fr, kO, kB, k8, .inr d⟩
    obtain ⟨f, i, d1, d2⟩ := d
    rw [e2, d2.2.1, if_neg (f12_nle d2.1)]
end
