/-! told: a road, in step -/
section
variable {K S : Nat → Nat} {V : Nat → Int64} {E : Nat}
theorem tell_road (hK : tkK K S E) {M i : Nat} {g h : xG} (z : tl K S V E M i g h) (hi14 : K i = 14) : tlO K S V E M i h ((f_X3_readRoad_17 g).bind fun w7 => f_X3_take_17 4 w7) (f_X12_tellOne_60 h) := by
  obtain ⟨lf, lt, T, Rn, P, s, br, p, ⟨l, n, hR, e10⟩, ⟨e70, e71, e75, e19, hM⟩, ⟨ez, bz, e36, hb1, hb2⟩, hc⟩ := z
  obtain ⟨r1, r2, r3⟩ := lv_r l hK
  have hkap : kap (K i) = 21 := by rw [hi14]; rfl
  have hT7 := n.1
  have hP6 := n.2.1
  have bs : ∀ (o : Option xG), (o.bind fun w => some w) = o := fun o => by cases o <;> rfl
  obtain ⟨g1, h1, a1, a2, a3, a4, a5⟩ := p_more (had := Rn) (most := 10) hK l hi14 (by decide) hR (by decide)
  have h119 : h1.1 60 19 = nI M := ((a4 60 19 rfl).1).trans e19
  have h171 : h1.1 71 M = nI Rn := ((a4 71 M rfl).1).trans e71
  have rr : f_X12_tellOne_60 h = if (h1.1 60 13) = 0 then f_X12_tellRoad_60 h1 else some h1 := by
    unfold f_X12_tellOne_60
    rw [l.2.2.1.1, xg_in (show i < 403 by omega) (by decide), nI_clamp (by omega), r1, hkap, if_neg (show ¬ nI 21 = (20 : Int32) by decide), if_pos (show nI 21 = (21 : Int32) from rfl), e19, xg_in hM (by decide), nI_clamp (by omega), e71, show f_X12_roomFor_60 (nI Rn) 10 h = some h1 from a2, Option.bind_some]
    simp only [bs]
  have cc : ∀ x1 w2 x2 w3, f_X3_takeTown_17 g1 = some (x1, w2) → f_X3_takeTown_17 w2 = some (x2, w3) → ((f_X3_readRoad_17 g).bind fun w9 => f_X3_take_17 4 w9) = (f_X3_takeNumber_17 1 99 (if x1 = x2 then f_X3_note_17 3 (w2.1 17 5) w3 else w3)).bind fun w7 => f_X3_take_17 4 (f_X4_addRoad_23 x1 x2 w7.1 w7.2) := fun x1 w2 x2 w3 t1 t2 => by
    unfold f_X3_readRoad_17 f_X4_roads_23
    rw [e10, show f_X3_takeOneMore_17 14 (nI Rn) 10 g = some g1 from a1, Option.bind_some, t1, Option.bind_some, t2, Option.bind_some]
    by_cases e : x1 = x2
    · rw [if_pos e, if_pos e, xl_e]
      simp only [xl_e]
      cases f_X3_takeNumber_17 1 99 (f_X3_note_17 3 (w2.1 17 5) w3) <;> rfl
    · rw [if_neg e, if_neg e]
      simp only [xl_e]
      cases f_X3_takeNumber_17 1 99 w3 <;> rfl
  have fA : ∀ x1 x2 x3 w, xfrm [(23, some 10), (25, none), (26, none), (27, none)] w (f_X4_addRoad_23 x1 x2 x3 w) := fun x1 x2 x3 w => (fr_X4_addRoad_23 _ rfl).wk rfl
  rw [rr]
  rcases a5 with ⟨hR10, i4, l1⟩ | ⟨f, j, d1, d2⟩
  · have zA : NL K S V E T P (fun i' lf' lt' => i' = i + 1 ∧ lf' = lf ∧ lt' = lt) g1 h1 := by
      refine ⟨⟨n.1, n.2.1, (a3 23 9 rfl).1.trans n.2.2.1, (a3 23 11 rfl).1.trans n.2.2.2.1, ?_⟩, .inl ⟨i + 1, lf, lt, l1.mono (by omega), n.ag (a3.agr rfl) (a4.agr rfl) id, rfl, rfl, rfl⟩⟩
      obtain ⟨at_, hat, -⟩ := n.2.2.2.2
      exact (a4 60 20 rfl).1.trans hat.2.1
    obtain ⟨x1, y1, g2, h2, b1, b2, b3, b4, zB⟩ := n_town hK zA
    have k2 : xfrm [(72, none)] h2 (xupd h2.1 72 (10 * M + Rn) y1, h2.2) := xfrm.up xfrm.rf rfl
    have zB2 : NL K S V E T P (fun i' lf' lt' => (∃ i0 lf0 lt0, i' = i0 + 1 ∧ (i0 = i + 1 ∧ lf0 = lf ∧ lt0 = lt) ∧ (lf0 ≠ 0 → lf' = lf0 ∧ lt' = lt0) ∧ (lf' = 0 → ∃ t, t < T ∧ x1 = nI t ∧ y1 = nI t) ∧ (lf0 = 0 → lf' ≠ 0 → lt' = i0 ∧ y1 = -1)) ∧ g2.1 17 5 = nI i' ∧ h2.1 60 11 = nI i' ∧ (lf' ≠ 0 → lt' < i')) g2 h2 := ⟨zB.1, zB.2.imp (fun ⟨i', lf', lt', l, n, c⟩ => ⟨i', lf', lt', l, n, c, l.2.1.1, l.2.2.1.1, fun y => (l.2.2.2.2 y).2.2.1⟩) id⟩
    obtain ⟨x2, y2, g3, h3, c1, c2, c3, c4, zC⟩ := n_town hK (zB2.ag (g' := g2) xagr.rf (k2.agr rfl))
    have k3 : xfrm [(73, none)] h3 (xupd h3.1 73 (10 * M + Rn) y2, h3.2) := xfrm.up xfrm.rf rfl
    have h372 : h3.1 72 (10 * M + Rn) = y1 := by
      rw [(c4 72 (10 * M + Rn) rfl).1]
      show xupd h2.1 72 (10 * M + Rn) y1 72 (10 * M + Rn) = y1
      exact xu_eq
    have mid : ∃ g4 h4, (if x1 = x2 then f_X3_note_17 3 (g2.1 17 5) g3 else g3) = g4 ∧ f_X12_tellRoad_60 h1 = f_X12_tellRoad_60_80 (nI (10 * M + Rn)) h4 ∧ xfrm fN g3 g4 ∧ xfrm fW (xupd h3.1 73 (10 * M + Rn) y2, h3.2) h4 ∧ NL K S V E T P (fun i' lf' _ => i' = i + 1 + 1 + 1 ∧ (lf ≠ 0 → lf' ≠ 0) ∧ (lf' = 0 → ∃ t1 t2, t1 < T ∧ t2 < T ∧ t1 ≠ t2 ∧ x1 = nI t1 ∧ y1 = nI t1 ∧ x2 = nI t2 ∧ y2 = nI t2)) g4 h4 := by
      have tp : f_X12_tellRoad_60 h1 = if (h3.1 60 13) = 0 then (if y1 < 0 then some (xupd h3.1 73 (10 * M + Rn) y2, h3.2) else if y1 = y2 then f_X12_wrong_60 3 (h2.1 60 11) (xupd h3.1 73 (10 * M + Rn) y2, h3.2) else some (xupd h3.1 73 (10 * M + Rn) y2, h3.2)).bind (f_X12_tellRoad_60_80 (nI (10 * M + Rn))) else f_X12_tellRoad_60_80 (nI (10 * M + Rn)) (xupd h3.1 73 (10 * M + Rn) y2, h3.2) := by
        unfold f_X12_tellRoad_60
        rw [h119, xg_in hM (by decide), nI_clamp (show M < 2 ^ 31 by omega), h171, i10, nI_clamp (show 10 * M + Rn < 2 ^ 31 by omega), b2, Option.bind_some, xg_in' (show 10 * M + Rn < 20 by omega) (by decide), c2, Option.bind_some, xg_in' (show 10 * M + Rn < 20 by omega) (by decide), xg_in' (show 10 * M + Rn < 20 by omega) (by decide), h372, xg_in' (show 10 * M + Rn < 20 by omega) (by decide), xg_in' (show 10 * M + Rn < 20 by omega) (by decide), show xupd h3.1 73 (10 * M + Rn) y2 73 (10 * M + Rn) = y2 from xu_eq]
        by_cases e13 : h3.1 60 13 = 0
        · rw [if_pos e13, if_pos e13]
          by_cases e1 : y1 < 0
          · rw [if_pos e1, if_pos e1]; rfl
          · rw [if_neg e1, if_neg e1]
            by_cases e2 : y1 = y2
            · rw [if_pos e2, if_pos e2]
            · rw [if_neg e2, if_neg e2]; rfl
        · rw [if_neg e13, if_neg e13]
      have zC2 := zC.ag (g' := g3) xagr.rf (k3.agr rfl)
      rcases zC2.2 with ⟨i3, lf3, lt3, l3, n3, i2, lf2, lt2, rfl, ⟨⟨i1, lf1, lt1, rfl, ⟨rfl, rfl, rfl⟩, q1, q2, q3⟩, e5, e11, hlt⟩, u1, u2, u3⟩ | ⟨f, j, d1, d2⟩
      · have hx : lf3 = 0 → ∃ t1 t2, t1 < T ∧ t2 < T ∧ x1 = nI t1 ∧ y1 = nI t1 ∧ x2 = nI t2 ∧ y2 = nI t2 := fun y => by
          have z2 : lf2 = 0 := Classical.byContradiction fun yy => yy ((u1 yy).1.symm.trans y)
          obtain ⟨t1, ht1, ex1, ey1⟩ := q2 z2
          obtain ⟨t2, ht2, ex2, ey2⟩ := u2 y
          exact ⟨t1, t2, ht1, ht2, ex1, ey1, ex2, ey2⟩
        have hw : lf3 ≠ 0 → lt3 < i + 1 + 1 ∨ y2 = -1 := fun y => by
          by_cases z2 : lf2 = 0
          · exact .inr (u3 z2 y).2
          · left
            rw [(u1 z2).2]
            exact hlt z2
        obtain ⟨g4, h4, m1, m2, m3, m4, lf', lt', m5, m6, m7⟩ := n_same hK hT7 l3 hx hw
        refine ⟨g4, h4, ?_, ?_, m3, m4, zC2.cts (m3.agr rfl) (m4.agr rfl) (.inl ⟨i + 1 + 1 + 1, lf', lt', m5, n3.ag (m3.agr rfl) (m4.agr rfl) m6, rfl, fun y => m6 (fun yy => ?_), fun y => ?_⟩)⟩
        · rw [e5]; exact m1
        · rw [tp, if_pos (show h3.1 60 13 = 0 from l3.2.2.1.2.1), e11, m2, Option.bind_some]
        · have z2 : lf2 = 0 := Classical.byContradiction fun y2 => y2 ((u1 y2).1.symm.trans yy)
          exact y ((q1 y).1.symm.trans z2)
        · have z3 : lf3 = 0 := Classical.byContradiction fun yy => m6 yy y
          obtain ⟨t1, t2, ht1, ht2, ex1, ey1, ex2, ey2⟩ := hx z3
          exact ⟨t1, t2, ht1, ht2, fun yy => m7 y (by rw [ex1, ex2, yy]), ex1, ey1, ex2, ey2⟩
      · obtain ⟨gn, o1, o2⟩ := c_note_f 3 (g2.1 17 5) g3
        have ng : ¬ h3.1 60 13 = 0 := by
          have := d2.2.1
          exact fun y => f12_ne d2.1 (this.symm.trans y)
        by_cases e : x1 = x2
        · refine ⟨gn, (xupd h3.1 73 (10 * M + Rn) y2, h3.2), by rw [if_pos e]; exact o1, by rw [tp, if_neg ng], o2, xfrm.rf, zC2.cts (o2.agr rfl) xagr.rf (.inr ⟨f, j, d1.ag (o2.agr rfl), d2⟩)⟩
        · exact ⟨g3, (xupd h3.1 73 (10 * M + Rn) y2, h3.2), by rw [if_neg e], by rw [tp, if_neg ng], xfrm.rf, xfrm.rf, zC2.cts xagr.rf xagr.rf (.inr ⟨f, j, d1, d2⟩)⟩
    obtain ⟨g4, h4, d1, d2, d3, d4, zD⟩ := mid
    obtain ⟨x3, y3, g5, h5, e1, e2, e3, e4, zE⟩ := n_num (a := 1) (b := 99) hK zD (by decide) (by decide)
    have k5 : xfrm [(74, none)] h5 (xupd h5.1 74 (10 * M + Rn) y3, h5.2) := xfrm.up xfrm.rf rfl
    have fA := fA x1 x2 x3 g5
    obtain ⟨g6, h6, o1, o2, o3, o4, zF⟩ := n_take (a := 4) hK (zE.ag (g' := f_X4_addRoad_23 x1 x2 x3 g5) (fA.agr rfl) (k5.agr rfl)) (by decide) (by decide)
    have q19 : h6.1 60 19 = nI M := ((o4 60 19 rfl).1).trans (((k5 60 19 rfl).1).trans (((e4 60 19 rfl).1).trans (((d4 60 19 rfl).1).trans (((k3 60 19 rfl).1).trans (((c4 60 19 rfl).1).trans (((k2 60 19 rfl).1).trans (((b4 60 19 rfl).1).trans h119)))))))
    have q71 : h6.1 71 M = nI Rn := ((o4 71 M rfl).1).trans (((k5 71 M rfl).1).trans (((e4 71 M rfl).1).trans (((d4 71 M rfl).1).trans (((k3 71 M rfl).1).trans (((c4 71 M rfl).1).trans (((k2 71 M rfl).1).trans (((b4 71 M rfl).1).trans h171)))))))
    have sd : sdO M h h6 := (((((((((sdO.fr a4 rfl).tr (sdO.fr b4 rfl)).tr (sdO.r (c := 72) (by omega) (by omega))).tr (sdO.fr c4 rfl)).tr (sdO.r (c := 73) (by omega) (by omega))).tr (sdO.fr d4 rfl)).tr (sdO.fr e4 rfl)).tr (sdO.r (c := 74) (by omega) (by omega))).tr (sdO.fr o4 rfl))
    have rt : f_X12_tellRoad_60_80 (nI (10 * M + Rn)) h4 = if (h6.1 60 13) = 0 then some (xupd h6.1 71 M (nI (Rn + 1)), h6.2) else some h6 := by
      unfold f_X12_tellRoad_60_80
      rw [show f_X12_bounded_60 1 99 h4 = some (y3, h5) from e2, Option.bind_some, nI_clamp (show 10 * M + Rn < 2 ^ 31 by omega), xg_in' (show 10 * M + Rn < 20 by omega) (by decide), show f_X12_must_60 4 (xupd h5.1 74 (10 * M + Rn) y3, h5.2) = some h6 from o2, Option.bind_some, q19, xg_in hM (by decide), xg_in hM (by decide), nI_clamp (by omega), q71, nI_1]
    rw [cc x1 g2 x2 g3 b1 c1, d1, show f_X3_takeNumber_17 1 99 g4 = some (x3, g5) from e1, Option.bind_some, l1.2.2.1.2.1, if_pos rfl, d2, rt]
    rw [show f_X3_take_17 4 (f_X4_addRoad_23 x1 x2 x3 g5) = some g6 from o1]
    rcases zF.2 with ⟨i6, lf6, lt6, l6, n6, i5, rfl, k4, i4', lfc, ltc, rfl, ⟨rfl, qd1, qd2⟩, qe1, qe2⟩ | ⟨f, j, m1, m2⟩
    · have fg : xfrm [(17, some 5), (17, some 6), (17, some 7), (17, some 8), (23, some 10), (25, none), (26, none), (27, none)] g g6 := ((((((a3.wk (B := [(17, some 5), (17, some 6), (17, some 7), (17, some 8), (23, some 10), (25, none), (26, none), (27, none)]) rfl).th (b3.wk rfl)).th (c3.wk rfl)).th (d3.wk rfl)).th (e3.wk rfl)).th (fA.wk rfl)).th (o3.wk rfl)
      have f6 : xfrm [(71, none)] h6 (xupd h6.1 71 M (nI (Rn + 1)), h6.2) := xfrm.up xfrm.rf rfl
      have fh : xfrm [(60, some 11), (60, some 13), (60, some 14), (60, some 15), (60, some 16), (71, none), (72, none), (73, none), (74, none)] h (xupd h6.1 71 M (nI (Rn + 1)), h6.2) := (((((((((a4.wk (B := [(60, some 11), (60, some 13), (60, some 14), (60, some 15), (60, some 16), (71, none), (72, none), (73, none), (74, none)]) rfl).th (b4.wk rfl)).th (k2.wk rfl)).th (c4.wk rfl)).th (k3.wk rfl)).th (d4.wk rfl)).th (e4.wk rfl)).th (k5.wk rfl)).th (o4.wk rfl)).th (f6.wk rfl)
      have t10 : g5.1 23 10 = nI Rn := ((e3 23 10 rfl).1).trans (((d3 23 10 rfl).1).trans (((c3 23 10 rfl).1).trans (((b3 23 10 rfl).1).trans (((a3 23 10 rfl).1).trans e10))))
      have ea : f_X4_addRoad_23 x1 x2 x3 g5 = (xupd (xupd (xupd (xupd g5.1 25 Rn x1) 26 Rn x2) 27 Rn x3) 23 10 (nI (Rn + 1)), g5.2) := by
        unfold f_X4_addRoad_23
        rw [xl_e, t10, xput_in hR10 (by decide)]
        dsimp only
        rw [xl_e, show xupd g5.1 25 Rn x1 23 10 = nI Rn from t10, xput_in hR10 (by decide)]
        dsimp only
        rw [xl_e, show xupd (xupd g5.1 25 Rn x1) 26 Rn x2 23 10 = nI Rn from t10, xput_in hR10 (by decide)]
        dsimp only
        rw [show xupd (xupd (xupd g5.1 25 Rn x1) 26 Rn x2) 27 Rn x3 23 10 = nI Rn from t10, nI_1]
      have e2310 : g6.1 23 10 = nI (Rn + 1) := by
        rw [(o3 23 10 rfl).1, ea]
        show xupd (xupd (xupd (xupd g5.1 25 Rn x1) 26 Rn x2) 27 Rn x3) 23 10 (nI (Rn + 1)) 23 10 = _
        exact xu_eq
      refine ⟨g6, (xupd h6.1 71 M (nI (Rn + 1)), h6.2), rfl, by rw [l6.2.2.1.2.1, if_pos rfl], sd.tr (sdO.m (c := 71) (by omega)), .inl ⟨i + 1 + 1 + 1 + 1 + 1, by omega, lf6, lt6, T, Rn + 1, P, s, br, p, ⟨(l6.ag xagr.rf (f6.agr (C := kLh) rfl)).mono (by omega), n6.ag xagr.rf (f6.agr rfl) id, by omega, e2310⟩, ⟨((fh 70 M rfl).1).trans e70, (show (xupd h6.1 71 M (nI (Rn + 1))) 71 M = nI (Rn + 1) from xu_eq), ((fh 75 M rfl).1).trans e75, ((fh 60 19 rfl).1).trans e19, hM⟩, ⟨⟨((fg 32 4 rfl).1).trans ez.1, ((fh 60 42 rfl).1).trans ez.2.1, ((fh 60 12 rfl).1).trans ez.2.2⟩, ⟨by omega, bz.2.1, by omega⟩, ((fh 60 36 rfl).1).trans e36, hb1, by omega⟩, fun zz => ?_⟩⟩
      have z4 : lfc = 0 := Classical.byContradiction fun yy => qe1 yy zz
      have z1 : lf = 0 := Classical.byContradiction fun yy => qd1 yy z4
      obtain ⟨R, hcnt, c1', c2', c3', c4'⟩ := hc z1
      obtain ⟨t1, t2, ht1, ht2, ht12, ex1, ey1, ex2, ey2⟩ := qd2 z4
      obtain ⟨dd', hd0, hd9, ex3, ey3⟩ := qe2 zz
      have hrR : rR R = Rn := hcnt.2.1
      have o72 : ∀ q, h6.1 72 q = if q = 10 * M + Rn then y1 else h.1 72 q := fun q => by
        rw [(o4 72 q rfl).1, (k5 72 q rfl).1, (e4 72 q rfl).1, (d4 72 q rfl).1, (k3 72 q rfl).1, (c4 72 q rfl).1, ← (a4 72 q rfl).1, ← (b4 72 q rfl).1]
        show xupd h2.1 72 (10 * M + Rn) y1 72 q = _
        rw [xu_at]
        simp only [true_and]
      have o73 : ∀ q, h6.1 73 q = if q = 10 * M + Rn then y2 else h.1 73 q := fun q => by
        rw [(o4 73 q rfl).1, (k5 73 q rfl).1, (e4 73 q rfl).1, (d4 73 q rfl).1, ← (a4 73 q rfl).1, ← (b4 73 q rfl).1, ← (k2 73 q rfl).1, ← (c4 73 q rfl).1]
        show xupd h3.1 73 (10 * M + Rn) y2 73 q = _
        rw [xu_at]
        simp only [true_and]
      have o74 : ∀ q, h6.1 74 q = if q = 10 * M + Rn then y3 else h.1 74 q := fun q => by
        rw [(o4 74 q rfl).1, ← (a4 74 q rfl).1, ← (b4 74 q rfl).1, ← (k2 74 q rfl).1, ← (c4 74 q rfl).1, ← (k3 74 q rfl).1, ← (d4 74 q rfl).1, ← (e4 74 q rfl).1]
        show xupd h5.1 74 (10 * M + Rn) y3 74 q = _
        rw [xu_at]
        simp only [true_and]
      have oc : ∀ q, g6.1 25 q = (if q = Rn then x1 else g.1 25 q) ∧ g6.1 26 q = (if q = Rn then x2 else g.1 26 q) ∧ g6.1 27 q = (if q = Rn then x3 else g.1 27 q) := fun q => by
        have fb : xfrm [(17, some 5), (17, some 6), (17, some 7), (17, some 8)] g g5 := ((((a3.wk (B := [(17, some 5), (17, some 6), (17, some 7), (17, some 8)]) rfl).th (b3.wk rfl)).th (c3.wk rfl)).th (d3.wk rfl)).th (e3.wk rfl)
        rw [(o3 25 q rfl).1, (o3 26 q rfl).1, (o3 27 q rfl).1, ea, ← (fb 25 q rfl).1, ← (fb 26 q rfl).1, ← (fb 27 q rfl).1]
        refine ⟨?_, ?_, ?_⟩
        · show xupd (xupd (xupd (xupd g5.1 25 Rn x1) 26 Rn x2) 27 Rn x3) 23 10 (nI (Rn + 1)) 25 q = _
          rw [xu_q (by decide), xu_q (by decide), xu_q (by decide), xu_at]
          simp only [true_and]
        · show xupd (xupd (xupd (xupd g5.1 25 Rn x1) 26 Rn x2) 27 Rn x3) 23 10 (nI (Rn + 1)) 26 q = _
          rw [xu_q (by decide), xu_q (by decide), xu_at, xu_q (by decide)]
          simp only [true_and]
        · show xupd (xupd (xupd (xupd g5.1 25 Rn x1) 26 Rn x2) 27 Rn x3) 23 10 (nI (Rn + 1)) 27 q = _
          rw [xu_q (by decide), xu_at, xu_q (by decide), xu_q (by decide)]
          simp only [true_and]
      refine ⟨rAddR R t1 t2 dd', ⟨hcnt.1, by show rR R + 1 = Rn + 1; rw [hrR], hcnt.2.2⟩, ?_, ?_, ⟨rAddR_ok c3'.1 (by omega) (by rw [hcnt.1]; exact ht1) (by rw [hcnt.1]; exact ht2) ht12 ⟨hd0, hd9⟩, c3'.2⟩, fun k hk => (c4' k hk).kp (fun q _ => ⟨(fg 33 q rfl).1, (fg 34 q rfl).1⟩) (fun q _ => ⟨(fh 88 q rfl).1, (fh 89 q rfl).1⟩) (fun q _ => ⟨(fh 83 q rfl).1, (fh 84 q rfl).1, (fh 85 q rfl).1, (fh 86 q rfl).1, (fh 87 q rfl).1⟩) (fg 35 k rfl).1 ⟨(fh 81 _ rfl).1, (fh 82 _ rfl).1⟩ (Nat.le_refl _) (Nat.le_refl _) (Nat.le_refl _)⟩
      · obtain ⟨⟨q1, q2, q3, q4, q5⟩, q7, q8⟩ := c1'
        refine ⟨⟨(fg 23 9 rfl).1.trans q1, ?_, (fg 23 11 rfl).1.trans q3, (fg 23 12 rfl).1.trans q4, (fg 23 13 rfl).1.trans q5⟩, fun r hr => ?_, fun p hp => ?_⟩
        · show g6.1 23 10 = nI (rR R + 1)
          rw [hrR, e2310]
        · have hr' : r < rR R + 1 := hr
          show g6.1 25 r = nI (if r = rR R then t1 else rA R r) ∧ g6.1 26 r = nI (if r = rR R then t2 else rB R r) ∧ g6.1 27 r = nI (if r = rR R then dd' else rM R r)
          rw [(oc r).1, (oc r).2.1, (oc r).2.2, hrR]
          by_cases zp : r = Rn
          · rw [if_pos zp, if_pos zp, if_pos zp, if_pos zp, if_pos zp, if_pos zp]
            exact ⟨ex1, ex2, ex3⟩
          · rw [if_neg zp, if_neg zp, if_neg zp, if_neg zp, if_neg zp, if_neg zp]
            exact q7 r (by omega)
        · obtain ⟨b1, b2, b3⟩ := q8 p hp
          exact ⟨(fg 29 p rfl).1.trans b1, (fg 30 p rfl).1.trans b2, (fg 31 p rfl).1.trans b3⟩
      · obtain ⟨⟨q1, q2, q3, q4, q5⟩, q7, q8⟩ := c2'
        refine ⟨⟨(fh 70 M rfl).1.trans q1, ?_, (fh 75 M rfl).1.trans q3, (fh 79 M rfl).1.trans q4, (fh 80 M rfl).1.trans q5⟩, fun r hr => ?_, fun p hp => ?_⟩
        · show (xupd h6.1 71 M (nI (Rn + 1))) 71 M = nI (rR R + 1)
          rw [xu_eq, hrR]
        · have hr' : r < rR R + 1 := hr
          rw [(f6 72 _ rfl).1, (f6 73 _ rfl).1, (f6 74 _ rfl).1, o72, o73, o74]
          show (if 10 * M + r = 10 * M + Rn then y1 else h.1 72 (10 * M + r)) = nI (if r = rR R then t1 else rA R r) ∧ (if 10 * M + r = 10 * M + Rn then y2 else h.1 73 (10 * M + r)) = nI (if r = rR R then t2 else rB R r) ∧ (if 10 * M + r = 10 * M + Rn then y3 else h.1 74 (10 * M + r)) = nI (if r = rR R then dd' else rM R r)
          rw [hrR]
          by_cases zp : r = Rn
          · have zq : 10 * M + r = 10 * M + Rn := by omega
            rw [if_pos zp, if_pos zp, if_pos zp, if_pos zq, if_pos zq, if_pos zq]
            exact ⟨ey1, ey2, ey3⟩
          · have zq : ¬ 10 * M + r = 10 * M + Rn := by omega
            rw [if_neg zp, if_neg zp, if_neg zp, if_neg zq, if_neg zq, if_neg zq]
            exact q7 r (by omega)
        · obtain ⟨b1, b2, b3⟩ := q8 p hp
          exact ⟨(fh 76 _ rfl).1.trans b1, (fh 77 _ rfl).1.trans b2, (fh 78 _ rfl).1.trans b3⟩
    · exact ⟨g6, h6, rfl, by rw [m2.2.1, if_neg (f12_ne m2.1)], sd, .inr ⟨f, j, m1, m2⟩⟩
  · obtain ⟨x1, g2, b1, b2⟩ := cd_town d1 hT7 ((a3 23 9 rfl).1.trans n.2.2.1)
    have t9 : g2.1 23 9 = nI T := ((b2 23 9 rfl).1).trans ((a3 23 9 rfl).1.trans n.2.2.1)
    have m2 := d1.ag (b2.agr rfl)
    obtain ⟨x2, g3, c1, c2⟩ := cd_town m2 hT7 t9
    have m3 := m2.ag (c2.agr rfl)
    have mid : ∃ g4, (if x1 = x2 then f_X3_note_17 3 (g2.1 17 5) g3 else g3) = g4 ∧ xfrm fN g3 g4 := by
      obtain ⟨gn, o1, o2⟩ := c_note_f 3 (g2.1 17 5) g3
      by_cases e : x1 = x2
      · exact ⟨gn, by rw [if_pos e]; exact o1, o2⟩
      · exact ⟨g3, by rw [if_neg e], xfrm.rf⟩
    obtain ⟨g4, e1, e2⟩ := mid
    have m4 := m3.ag (e2.agr rfl)
    obtain ⟨x3, g5, o1, o2⟩ := cd_num m4 1 99
    have m5 := (m4.ag (o2.agr rfl)).ag ((fA x1 x2 x3 g5).agr rfl)
    rw [cc x1 g2 x2 g3 b1 c1, e1, o1, Option.bind_some, d2.2.1, if_neg (f12_ne d2.1)]
    exact ⟨_, h1, cd_take m5 4, rfl, sdO.fr a4 rfl, .inr ⟨f, j, m5, d2⟩⟩
end
