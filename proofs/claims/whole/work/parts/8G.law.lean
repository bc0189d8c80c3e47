/-! laws told to both: the branches, and the whole law -/
def fIf : List (Nat × Option Nat) := fEr ++ [(60, some 36), (83, none), (84, none), (85, none), (86, none), (87, none)]
def ifC (s : Nat) (a b t : List pI) (g : xG) : Prop := sgC (dw g) s a ∧ sgC (dw g) (s + a.length) b ∧ (s + a.length + b.length < 408 ∧ g.1 33 (s + a.length + b.length) = nI 3 ∧ g.1 34 (s + a.length + b.length) = nI (s + a.length + b.length + 1 + t.length + 1)) ∧ sgC (dw g) (s + a.length + b.length + 1) t ∧ s + a.length + b.length + 1 + t.length < 408 ∧ g.1 33 (s + a.length + b.length + 1 + t.length) = nI 0
def ifR (br p : Nat) (a b t : List pI) (h : xG) : Prop := h.1 83 br = 1 ∧ h.1 84 br = nI p ∧ h.1 85 br = nI (p + a.length) ∧ h.1 86 br = nI (p + a.length + b.length) ∧ h.1 87 br = nI (p + a.length + b.length + t.length) ∧ sgR h p a ∧ sgR h (p + a.length) b ∧ sgR h (p + a.length + b.length) t ∧ p + a.length + b.length + t.length ≤ 840
section
variable {K S : Nat → Nat} {V : Nat → Int64} {E : Nat}
theorem s_if (hK : tkK K S E) {b lf lt pB br i s p : Nat} {g h : xG} (l : lv K S V E i b lf lt g h) (ez : g.1 32 4 = nI s ∧ h.1 60 42 = nI p ∧ h.1 60 12 = nI 0) (bz : s + 2 ≤ 8 + i ∧ pB ≤ p ∧ p ≤ pB + i) (h22 : K i = 22) (hB : pB ≤ 420) (hb : h.1 60 36 = nI br) (hbr : br < 260) : ∃ g' h', f_X3_readIf_17 g = some g' ∧ (∀ k12 l1 l2 l3, f_X12_tellLaw_60_38 k12 l1 l2 l3 h = k12 l1 l2 (l3 + 1) h') ∧ xfrm fEc g g' ∧ xfrm fIf h h' ∧ kpO pB h h' ∧ h'.1 60 36 = nI (br + 1) ∧ kpB br (br + 1) h h' ∧ LD K S V E b lf lt pB 2 (fun i' s' p' => ∃ x y t, i + 7 ≤ i' ∧ (shp 0 x = some 1 ∧ shp 0 y = some 1 ∧ shp 0 t = some 1) ∧ s' = s + x.length + y.length + 1 + t.length + 1 ∧ p' = p + x.length + y.length + t.length ∧ ifC s x y t g' ∧ ifR br p x y t h' ∧ kpC s g g' ∧ kpR p h h') g' h' := by
  obtain ⟨g1, h1, a1, a2, a3, a4, a5⟩ := p_goes hK l h22 (by decide)
  have zA : LD K S V E b lf lt pB 3 (fun i' s' p' => i' = i + 1 ∧ s' = s ∧ p' = p) g1 h1 := by
    rcases a5 with ⟨i4, l'⟩ | d
    · exact .inl ⟨i + 1, s, p, l', ⟨((a3 32 4 rfl).1).trans ez.1, ((a4 60 42 rfl).1).trans ez.2.1, ((a4 60 12 rfl).1).trans ez.2.2⟩, ⟨by omega, bz.2.1, by omega⟩, rfl, rfl, rfl⟩
    · exact .inr d
  have fA : xfrm [(83, none), (84, none)] h1 (xupd (xupd h1.1 83 br (1 &&& 1)) 84 br (h1.1 60 42), h1.2) := xfrm.up (xfrm.up xfrm.rf rfl) rfl
  have zB := (zA.szs).ag (g' := g1) xagr.rf (fA.agr (C := kLD) rfl)
  obtain ⟨g2, h2, b1, b2, -, b4, b5, b6, zC⟩ := s_sum hK zB hB
  obtain ⟨g3, h3, c1, c2, c3, c4, zD⟩ := s_take hK zC (a := 10) (by decide) (by decide)
  have fD : xfrm [(85, none)] h3 (xupd h3.1 85 br (h3.1 60 42), h3.2) := xfrm.up xfrm.rf rfl
  have zE := (zD.szs).ag (g' := g3) xagr.rf (fD.agr (C := kLD) rfl)
  obtain ⟨g4, h4, d1, d2, d3, d4, d5, zF⟩ := s_sumIf hK zE hB
  obtain ⟨g5, h5, e1, e2, e3, e4, zG⟩ := s_take hK zF (a := 23) (by decide) (by decide)
  obtain ⟨g6, f1, f2, zH⟩ := s_add (k := 3) (v := 0) hK zG.szs
  have h36a : h1.1 60 36 = nI br := ((a4 60 36 rfl).1).trans hb
  have h36b : h3.1 60 36 = nI br := ((c4 60 36 rfl).1).trans (((b5 60 36 rfl).1).trans (((fA 60 36 rfl).1).trans h36a))
  have h36c : h5.1 60 36 = nI br := ((e4 60 36 rfl).1).trans (((d4 60 36 rfl).1).trans (((fD 60 36 rfl).1).trans h36b))
  obtain ⟨g7, h7, i1, i2, i3, i4', i5, i6, i7, zI⟩ := s_term hK zH hB h36c hbr
  obtain ⟨g8, h8, j1, j2, j3, j4, zJ⟩ := s_take hK zI (a := 24) (by decide) (by decide)
  obtain ⟨g9, k1, k2, zK⟩ := s_add (k := 0) (v := 0) hK zJ
  have fS : xfrm [(34, none)] g9 (f_X2_skipToHere_32 (f_X2_size_32 g5) g9) := (fr_X2_skipToHere_32 _ rfl).wk rfl
  have zL := (zK.szs).ag (h' := h8) (fS.agr (C := (32, some 4) :: kLc) rfl) xagr.rf
  refine ⟨_, h8, ?_, fun k12 l1 l2 l3 => ?_, (((((((((a3.wk (B := fEc) rfl).th b4).th (c3.wk rfl)).th d3).th (e3.wk rfl)).th (f2.wk rfl)).th i3).th (j3.wk rfl)).th (k2.wk rfl)).th (fS.wk rfl), (((((((a4.wk (B := fIf) rfl).th (fA.wk rfl)).th (b5.wk rfl)).th (c4.wk rfl)).th (fD.wk rfl)).th (d4.wk rfl)).th (e4.wk rfl)).th ((i4'.wk rfl)) |>.th (j4.wk rfl), (((((((kpO.fr a4 rfl).tr (kpO.fr fA rfl)).tr b6).tr (kpO.fr c4 rfl)).tr (kpO.fr fD rfl)).tr d5).tr (kpO.fr e4 rfl)).tr i5 |>.tr (kpO.fr j4 rfl), ((j4 60 36 rfl).1).trans i6, ?_, (zL.wk (n := 2) (by decide)).mono fun i' s' p' hc => ?_⟩
  · unfold f_X3_readIf_17
    rw [show f_X3_take_17 22 g = some g1 from a1, Option.bind_some, b1, Option.bind_some, show f_X3_take_17 10 g2 = some g3 from c1, Option.bind_some, d1, Option.bind_some, show f_X3_take_17 23 g4 = some g5 from e1, Option.bind_some, show f_X2_add_32 3 0 g5 = g6 from f1, xl_e, i1, Option.bind_some, show f_X3_take_17 24 g7 = some g8 from j1, Option.bind_some, show f_X2_add_32 0 0 g8 = g9 from k1, xl_e, xl_e]
  · unfold f_X12_tellLaw_60_38
    rw [l.2.2.1.2.1, if_pos (by decide), a2, Option.bind_some, h36a, xg_in hbr (by decide), xg_in hbr (by decide), nI_clamp (by omega), b2, Option.bind_some, show f_X12_must_60 13 h2 = some h3 from c2, Option.bind_some, h36b, xg_in hbr (by decide), nI_clamp (by omega)]
    refine Eq.trans (d2 (fun w11 => (f_X12_must_60 30 w11).bind fun w12 => (f_X12_term_60 w12).bind fun w13 => (f_X12_must_60 31 w13).bind fun w14 => k12 l1 l2 (l3 + 1) w14) (fun w11 => (f_X12_must_60 30 w11).bind fun w12 => (f_X12_term_60 w12).bind fun w13 => (f_X12_must_60 31 w13).bind fun w14 => k12 l1 l2 (l3 + 1) w14) rfl) ?_
    rw [show f_X12_must_60 30 h4 = some h5 from e2, Option.bind_some, i2, Option.bind_some, show f_X12_must_60 31 h7 = some h8 from j2, Option.bind_some]
  · have x1 : kpB br (br + 1) h h1 := kpB.fr a4 rfl
    have x2 : kpB br (br + 1) h1 (xupd (xupd h1.1 83 br (1 &&& 1)) 84 br (h1.1 60 42), h1.2) := fun q hq => ⟨by
      show xupd (xupd h1.1 83 br (1 &&& 1)) 84 br (h1.1 60 42) 83 q = h1.1 83 q
      rw [xu_q (by decide), xu_ne (by omega)], by
      show xupd (xupd h1.1 83 br (1 &&& 1)) 84 br (h1.1 60 42) 84 q = h1.1 84 q
      rw [xu_ne (by omega), xu_q (by decide)], (fA 85 q rfl).1, (fA 86 q rfl).1, (fA 87 q rfl).1⟩
    have x3 : kpB br (br + 1) h3 (xupd h3.1 85 br (h3.1 60 42), h3.2) := fun q hq => ⟨(fD 83 q rfl).1, (fD 84 q rfl).1, (show xupd h3.1 85 br (h3.1 60 42) 85 q = h3.1 85 q from xu_ne (by omega)), (fD 86 q rfl).1, (fD 87 q rfl).1⟩
    have rr := Nat.le_refl
    exact (((((((x1.tr x2 (rr _) (rr _)).tr (kpB.fr (b := br) (e := br + 1) b5 rfl) (rr _) (rr _)).tr (kpB.fr (b := br) (e := br + 1) c4 rfl) (rr _) (rr _)).tr x3 (rr _) (rr _)).tr (kpB.fr (b := br) (e := br + 1) d4 rfl) (rr _) (rr _)).tr (kpB.fr (b := br) (e := br + 1) e4 rfl) (rr _) (rr _)).tr i7 (rr _) (rr _)).tr (kpB.fr (b := br) (e := br + 1) j4 rfl) (rr _) (rr _)
  · obtain ⟨⟨s8, rfl, h408, ⟨i7', rfl, -, i6', s6, p6, t, ⟨s5, rfl, h408', ⟨⟨i4, rfl, -, i3', s3, p3, y, ⟨⟨i2', rfl, -, i1', s1, p1, x, ⟨⟨rfl, rfl, rfl⟩, -, m42, -, -, hiE⟩, mx1, mx2, mx3, rfl, rfl, mx4, mx5, mx6, mx7⟩, -, n42, -, -, -⟩, my1, my2, my3, rfl, rfl, my4, my5, my6, my7⟩, o32, o42, -, -, -⟩, q33, q34, qk⟩, mt1, mt2, mt3, rfl, rfl, mt4, mt5, mt6, mt7, mt8, mt9⟩, u33, u34, uk⟩, v32, v42, v8, vp, vi⟩ := hc
    have hE4 := hK.1
    have skp : ∀ q, (f_X2_skipToHere_32 (f_X2_size_32 g5) g9).1 33 q = g9.1 33 q ∧ (f_X2_skipToHere_32 (f_X2_size_32 g5) g9).1 34 q = if q = s1 + x.length + y.length then nI (s1 + x.length + y.length + 1 + t.length + 1) else g9.1 34 q := fun q => ⟨(fS 33 q rfl).1, by
      unfold f_X2_skipToHere_32 f_X2_size_32
      rw [xl_e, o32, v32, xput_in (show s1 + x.length + y.length < 408 by omega) (by decide)]
      show xupd g9.1 34 (s1 + x.length + y.length) _ 34 q = _
      rw [xu_at]
      simp only [true_and]⟩
    -- from g2, g4, g7 on
    have ka : kpC (s1 + x.length) g2 (f_X2_skipToHere_32 (f_X2_size_32 g5) g9) := fun q hq => by
      have y1 := (((((((kpC.fr (s := s1 + x.length) c3 rfl).tr my6 (Nat.le_refl _)).tr (kpC.fr (s := s1 + x.length) e3 rfl) (Nat.le_refl _)).tr qk (by omega)).tr mt6 (by omega)).tr (kpC.fr (s := s1 + x.length) j3 rfl) (Nat.le_refl _)).tr uk (by omega)) q hq
      rw [(skp q).1, (skp q).2, if_neg (by omega)]
      exact y1
    have kb : kpC (s1 + x.length + y.length) g4 (f_X2_skipToHere_32 (f_X2_size_32 g5) g9) := fun q hq => by
      have y1 := (((((kpC.fr (s := s1 + x.length + y.length) e3 rfl).tr qk (by omega)).tr mt6 (by omega)).tr (kpC.fr (s := s1 + x.length + y.length) j3 rfl) (Nat.le_refl _)).tr uk (by omega)) q hq
      rw [(skp q).1, (skp q).2, if_neg (by omega)]
      exact y1
    have kc : ∀ q, s1 + x.length + y.length < q → q < s1 + x.length + y.length + 1 + t.length → (f_X2_skipToHere_32 (f_X2_size_32 g5) g9).1 33 q = g7.1 33 q ∧ (f_X2_skipToHere_32 (f_X2_size_32 g5) g9).1 34 q = g7.1 34 q := fun q h1 h2 => by
      have y1 := ((kpC.fr (s := s1 + x.length + y.length + 1 + t.length) j3 rfl).tr uk (Nat.le_refl _)) q h2
      rw [(skp q).1, (skp q).2, if_neg (by omega)]
      exact y1
    have kd : (f_X2_skipToHere_32 (f_X2_size_32 g5) g9).1 33 (s1 + x.length + y.length) = nI 3 := by
      have y1 := ((mt6.tr (kpC.fr (s := s1 + x.length + y.length + 1) j3 rfl) (Nat.le_refl _)).tr uk (by omega)) (s1 + x.length + y.length) (by omega)
      rw [(skp _).1, y1.1, q33]
    have r1 : kpR (p1 + x.length) h2 h8 := ((((((kpR.fr (s := p1 + x.length) c4 rfl).tr (kpR.fr (s := p1 + x.length) fD rfl) (Nat.le_refl _)).tr my7 (Nat.le_refl _)).tr (kpR.fr (s := p1 + x.length) e4 rfl) (Nat.le_refl _)).tr mt7 (by omega)).tr (kpR.fr (s := p1 + x.length) j4 rfl) (Nat.le_refl _))
    have r2 : kpR (p1 + x.length + y.length) h4 h8 := ((kpR.fr (s := p1 + x.length + y.length) e4 rfl).tr mt7 (Nat.le_refl _)).tr (kpR.fr (s := p1 + x.length + y.length) j4 rfl) (Nat.le_refl _)
    have r3 : kpR (p1 + x.length + y.length + t.length) h7 h8 := kpR.fr j4 rfl
    refine ⟨x, y, t, by omega, ⟨mx3, my3, mt3⟩, rfl, rfl, ⟨mx4.kp ka (Nat.le_refl _), my4.kp kb (Nat.le_refl _), ⟨h408', kd, ?_⟩, sgC_up (g := dw g7) (fun q h1 h2 => kc q (by omega) h2) mt4, h408, ?_⟩, ⟨?_, ?_, ?_, ?_, ?_, mx5.kp r1 (Nat.le_refl _), my5.kp r2 (Nat.le_refl _), mt5.kp r3 (Nat.le_refl _), by omega⟩, ((kpC.fr (s := s1) a3 rfl).tr mx6 (Nat.le_refl _)).tr ka (by omega), ((((kpR.fr (s := p1) a4 rfl).tr (kpR.fr (s := p1) fA rfl) (Nat.le_refl _)).tr mx7 (Nat.le_refl _)).tr r1 (by omega))⟩
    · rw [(skp _).2, if_pos rfl]
    · rw [(skp _).1, u33]
    · rw [(j4 83 br rfl).1, (i4' 83 br rfl).1, (e4 83 br rfl).1, (d4 83 br rfl).1, (fD 83 br rfl).1, (c4 83 br rfl).1, (b5 83 br rfl).1]
      show xupd (xupd h1.1 83 br (1 &&& 1)) 84 br (h1.1 60 42) 83 br = 1
      rw [xu_q (by decide), xu_eq]
      rfl
    · rw [(j4 84 br rfl).1, (i4' 84 br rfl).1, (e4 84 br rfl).1, (d4 84 br rfl).1, (fD 84 br rfl).1, (c4 84 br rfl).1, (b5 84 br rfl).1, ← m42]
      show xupd (xupd h1.1 83 br (1 &&& 1)) 84 br (h1.1 60 42) 84 br = _
      rw [xu_eq]
    · rw [(j4 85 br rfl).1, (i4' 85 br rfl).1, (e4 85 br rfl).1, (d4 85 br rfl).1, ← n42]
      show xupd h3.1 85 br (h3.1 60 42) 85 br = _
      rw [xu_eq]
    · rw [(j4 86 br rfl).1, mt8]
    · rw [(j4 87 br rfl).1, mt9]
end
