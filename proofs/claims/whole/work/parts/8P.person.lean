/-! told: a person, in step -/
section
variable {K S : Nat → Nat} {V : Nat → Int64} {E : Nat}
theorem tell_person (hK : tkK K S E) {M i : Nat} {g h : xG} (z : tl K S V E M i g h) (hi15 : K i = 15) : tlO K S V E M i h ((f_X3_readPerson_17 g).bind fun w9 => f_X3_take_17 4 w9) (f_X12_tellOne_60 h) := by
  obtain ⟨lf, lt, T, Rn, P, s, br, p, ⟨l, n, hR, e10⟩, ⟨e70, e71, e75, e19, hM⟩, ⟨ez, bz, e36, hb1, hb2⟩, hc⟩ := z
  obtain ⟨r1, r2, r3⟩ := lv_r l hK
  have hkap : kap (K i) = 22 := by rw [hi15]; rfl
  have hT7 := n.1
  have hP6 := n.2.1
  have bs : ∀ (o : Option xG), (o.bind fun w => some w) = o := fun o => by cases o <;> rfl
  obtain ⟨g1, h1, a1, a2, a3, a4, a5⟩ := p_more (had := P) (most := 6) hK l hi15 (by decide) hP6 (by decide)
  have h119 : h1.1 60 19 = nI M := ((a4 60 19 rfl).1).trans e19
  have h175 : h1.1 75 M = nI P := ((a4 75 M rfl).1).trans e75
  have rr : f_X12_tellOne_60 h = if (h1.1 60 13) = 0 then f_X12_tellPerson_60 h1 else some h1 := by
    unfold f_X12_tellOne_60
    rw [l.2.2.1.1, xg_in (show i < 403 by omega) (by decide), nI_clamp (by omega), r1, hkap, if_neg (show ¬ nI 22 = (20 : Int32) by decide), if_neg (show ¬ nI 22 = (21 : Int32) by decide), if_pos (show nI 22 = (22 : Int32) from rfl), e19, xg_in hM (by decide), nI_clamp (by omega), e75, show f_X12_roomFor_60 (nI P) 6 h = some h1 from a2, Option.bind_some]
    simp only [bs]
  have cc : ∀ v w2 x2 w3 x3 w4 x4 w5, f_X3_takeNewName_17 g1 = some (v, w2) → f_X3_takeNumber_17 0 9 w2 = some (x2, w3) → f_X3_takeTown_17 w3 = some (x3, w4) → f_X3_takeTown_17 w4 = some (x4, w5) → ((f_X3_readPerson_17 g).bind fun w9 => f_X3_take_17 4 w9) = f_X3_take_17 4 (f_X4_addPerson_23 v x2 x3 x4 w5) := fun v w2 x2 w3 x3 w4 x4 w5 t1 t2 t3 t4 => by
    unfold f_X3_readPerson_17 f_X4_people_23
    rw [n.2.2.2.1, show f_X3_takeOneMore_17 15 (nI P) 6 g = some g1 from a1, Option.bind_some, t1, Option.bind_some, t2, Option.bind_some, t3, Option.bind_some, t4, Option.bind_some, xl_e, Option.bind_some]
  have fA : ∀ v x2 x3 x4 w, xfrm [(23, some 11), (28, none), (29, none), (30, none), (31, none)] w (f_X4_addPerson_23 v x2 x3 x4 w) := fun v x2 x3 x4 w => (fr_X4_addPerson_23 _ rfl).wk rfl
  rw [rr]
  rcases a5 with ⟨hP, i4, l1⟩ | ⟨f, j, d1, d2⟩
  · have zA : NL K S V E T P (fun i' lf' lt' => i' = i + 1 ∧ lf' = lf ∧ lt' = lt) g1 h1 := by
      refine ⟨⟨n.1, n.2.1, (a3 23 9 rfl).1.trans n.2.2.1, (a3 23 11 rfl).1.trans n.2.2.2.1, ?_⟩, .inl ⟨i + 1, lf, lt, l1.mono (by omega), n.ag (a3.agr rfl) (a4.agr rfl) id, rfl, rfl, rfl⟩⟩
      obtain ⟨at_, hat, -⟩ := n.2.2.2.2
      exact (a4 60 20 rfl).1.trans hat.2.1
    obtain ⟨v, y, g2, h2, b1, b2, b3, b4, zB⟩ := n_name hK zA
    obtain ⟨x2, y2, g3, h3, c1, c2, c3, c4, zC⟩ := n_num (a := 0) (b := 9) hK zB (by decide) (by decide)
    have k3 : xfrm [(76, none)] h3 (xupd h3.1 76 (6 * M + P) y2, h3.2) := xfrm.up xfrm.rf rfl
    obtain ⟨x3, y3, g4, h4, d1, d2, d3, d4, zD⟩ := n_town hK (zC.ag (g' := g3) xagr.rf (k3.agr rfl))
    have k4 : xfrm [(77, none)] h4 (xupd h4.1 77 (6 * M + P) y3, h4.2) := xfrm.up xfrm.rf rfl
    obtain ⟨x4, y4, g5, h5, e1, e2, e3, e4, zE⟩ := n_town hK (zD.ag (g' := g4) xagr.rf (k4.agr rfl))
    have k5 : xfrm [(78, none)] h5 (xupd h5.1 78 (6 * M + P) y4, h5.2) := xfrm.up xfrm.rf rfl
    have zF := zE.ag (g' := g5) xagr.rf (k5.agr rfl)
    have fA := fA v x2 x3 x4 g5
    have q19 : h5.1 60 19 = nI M := ((e4 60 19 rfl).1).trans (((k4 60 19 rfl).1).trans (((d4 60 19 rfl).1).trans (((k3 60 19 rfl).1).trans (((c4 60 19 rfl).1).trans (((b4 60 19 rfl).1).trans h119)))))
    have q75 : h5.1 75 M = nI P := ((e4 75 M rfl).1).trans (((k4 75 M rfl).1).trans (((d4 75 M rfl).1).trans (((k3 75 M rfl).1).trans (((c4 75 M rfl).1).trans (((b4 75 M rfl).1).trans h175)))))
    have sd5 : sdO M h (xupd h5.1 78 (6 * M + P) y4, h5.2) := (((((((sdO.fr a4 rfl).tr (sdO.fr b4 rfl)).tr (sdO.fr c4 rfl)).tr (sdO.p (c := 76) (by omega) (by omega))).tr (sdO.fr d4 rfl)).tr (sdO.p (c := 77) (by omega) (by omega))).tr (sdO.fr e4 rfl)).tr (sdO.p (c := 78) (by omega) (by omega))
    have tp : f_X12_tellPerson_60 h1 = (f_X12_endsName_60 y 10 (xupd h5.1 78 (6 * M + P) y4, h5.2)).bind fun w5 => if (w5.1 60 13) = 0 then xg (¬ ((w5.1 60 19) < 0 ∨ 2 ≤ (w5.1 60 19).toNatClampNeg)) (xg (¬ ((w5.1 60 19) < 0 ∨ 2 ≤ (w5.1 60 19).toNatClampNeg)) (some (xupd w5.1 75 (w5.1 60 19).toNatClampNeg ((w5.1 75 (w5.1 60 19).toNatClampNeg) + 1), w5.2))) else some w5 := by
      unfold f_X12_tellPerson_60
      rw [h119, xg_in hM (by decide), nI_clamp (by omega), h175, i6, nI_clamp (show 6 * M + P < 2 ^ 31 by omega), b2, Option.bind_some, show f_X12_bounded_60 0 9 h2 = some (y2, h3) from c2, Option.bind_some, xg_in' (show 6 * M + P < 12 by omega) (by decide), d2, Option.bind_some, xg_in' (show 6 * M + P < 12 by omega) (by decide), e2, Option.bind_some, xg_in' (show 6 * M + P < 12 by omega) (by decide)]
    rw [cc v g2 x2 g3 x3 g4 x4 g5 b1 c1 d1 e1, l1.2.2.1.2.1, if_pos rfl, tp]
    rcases zF.2 with ⟨i5, lf5, lt5, l5, n5, i4', lfd, ltd, rfl, ⟨i3', lfc, ltc, rfl, ⟨i2', lfb, ltb, rfl, ⟨i1', lfa, lta, rfl, ⟨rfl, rfl, rfl⟩, hiE, k2, rfl, rfl, qn1, qn2⟩, qb1, qb2⟩, qc1, qc2, qc3⟩, qd1, qd2, qd3⟩ | ⟨f, j, m1, m2⟩
    · obtain ⟨g6, h6, o1, o2, o3, o4, o5⟩ := p_take hK (l5.ag (fA.agr (C := kLc) rfl) xagr.rf) (a := 4) (by decide) (by decide)
      rw [show f_X3_take_17 4 (f_X4_addPerson_23 (V (i + 1)) x2 x3 x4 g5) = some g6 from o1]
      have fg : xfrm [(17, some 5), (17, some 6), (17, some 7), (17, some 8), (23, some 11), (28, none), (29, none), (30, none), (31, none)] g g6 := ((((((a3.wk (B := [(17, some 5), (17, some 6), (17, some 7), (17, some 8), (23, some 11), (28, none), (29, none), (30, none), (31, none)]) rfl).th (b3.wk rfl)).th (c3.wk rfl)).th (d3.wk rfl)).th (e3.wk rfl)).th (fA.wk rfl)).th (o3.wk rfl)
      have sd := sd5.tr (sdO.fr o4 rfl)
      rcases o5 with ⟨k4', i5', l6⟩ | ⟨f, j, m1, m2⟩
      · obtain ⟨nT, nP, n9, n11, at_, ⟨n13, n20, n69⟩, nrel⟩ := n5
        have e20 : h6.1 60 20 = nI (T + P) := ((o4 60 20 rfl).1).trans n20
        have f5 : xfrm [(60, some 20), (68, none), (69, none), (75, none)] h6 (xupd (xupd (xupd h6.1 69 (T + P) 10) 60 20 (nI (T + P + 1))) 75 M (nI (P + 1)), xupdL h6.2 68 (T + P) (h6.2 66 (i + 1))) := xfrm.up (xfrm.up (xfrm.up (xfrm.ul xfrm.rf rfl) rfl) rfl) rfl
        have fh : xfrm [(60, some 11), (60, some 13), (60, some 14), (60, some 15), (60, some 16), (60, some 20), (68, none), (69, none), (75, none), (76, none), (77, none), (78, none)] h (xupd (xupd (xupd h6.1 69 (T + P) 10) 60 20 (nI (T + P + 1))) 75 M (nI (P + 1)), xupdL h6.2 68 (T + P) (h6.2 66 (i + 1))) := (((((((((a4.wk (B := [(60, some 11), (60, some 13), (60, some 14), (60, some 15), (60, some 16), (60, some 20), (68, none), (69, none), (75, none), (76, none), (77, none), (78, none)]) rfl).th (b4.wk rfl)).th (c4.wk rfl)).th (k3.wk rfl)).th (d4.wk rfl)).th (k4.wk rfl)).th (e4.wk rfl)).th (k5.wk rfl)).th (o4.wk rfl)).th (f5.wk rfl)
        have h619 : h6.1 60 19 = nI M := ((o4 60 19 rfl).1).trans (((k5 60 19 rfl).1).trans q19)
        have h675 : h6.1 75 M = nI P := ((o4 75 M rfl).1).trans (((k5 75 M rfl).1).trans q75)
        have ea : f_X4_addPerson_23 (V (i + 1)) x2 x3 x4 g5 = (xupd (xupd (xupd (xupd g5.1 29 P x2) 30 P x3) 31 P x4) 23 11 (nI (P + 1)), xupdL g5.2 28 P (V (i + 1))) := by
          unfold f_X4_addPerson_23
          rw [xl_e, n11, xlput_in hP (by decide)]
          dsimp only
          rw [xl_e, n11, xput_in hP (by decide)]
          dsimp only
          rw [xl_e, show xupd g5.1 29 P x2 23 11 = nI P from n11, xput_in hP (by decide)]
          dsimp only
          rw [xl_e, show xupd (xupd g5.1 29 P x2) 30 P x3 23 11 = nI P from n11, xput_in hP (by decide)]
          dsimp only
          rw [show xupd (xupd (xupd g5.1 29 P x2) 30 P x3) 31 P x4 23 11 = nI P from n11, nI_1]
        refine ⟨g6, (xupd (xupd (xupd h6.1 69 (T + P) 10) 60 20 (nI (T + P + 1))) 75 M (nI (P + 1)), xupdL h6.2 68 (T + P) (h6.2 66 (i + 1))), rfl, ?_, sd.tr ?_, .inl ⟨i + 1 + 1 + 1 + 1 + 1 + 1, by omega, lf5, lt5, T, Rn, P + 1, s, br, p, ⟨(l6.ag xagr.rf (f5.agr (C := kLh) rfl)).mono (by omega), ⟨hT7, by omega, ((fg 23 9 rfl).1).trans n.2.2.1, ?_, (fun j => if j = T + P then 10 else at_ j), ⟨by omega, ?_, fun j hj => ?_⟩, fun zz => ?_⟩, hR, ((fg 23 10 rfl).1).trans e10⟩, ⟨((fh 70 M rfl).1).trans e70, ((fh 71 M rfl).1).trans e71, (show (xupd (xupd (xupd h6.1 69 (T + P) 10) 60 20 (nI (T + P + 1))) 75 M (nI (P + 1))) 75 M = nI (P + 1) from xu_eq), ((fh 60 19 rfl).1).trans e19, hM⟩, ⟨⟨((fg 32 4 rfl).1).trans ez.1, ((fh 60 42 rfl).1).trans ez.2.1, ((fh 60 12 rfl).1).trans ez.2.2⟩, ⟨by omega, bz.2.1, by omega⟩, ((fh 60 36 rfl).1).trans e36, hb1, by omega⟩, fun zz => ?_⟩⟩
        · unfold f_X12_endsName_60
          rw [show f_X12_must_60 4 (xupd h5.1 78 (6 * M + P) y4, h5.2) = some h6 from o2, Option.bind_some, l6.2.2.1.2.1, if_pos (by decide), xg_in (show i + 1 < 403 by omega) (by decide), e20, xg_in (show T + P < 13 by omega) (by decide), xg_in (show T + P < 13 by omega) (by decide), nI_clamp (by omega), nI_clamp (by omega), Option.bind_some]
          rw [nI_1]
          have key : ∀ w : xG, w.1 60 13 = 0 → w.1 60 19 = nI M → w.1 75 M = nI P → (if (w.1 60 13) = 0 then xg (¬ ((w.1 60 19) < 0 ∨ 2 ≤ (w.1 60 19).toNatClampNeg)) (xg (¬ ((w.1 60 19) < 0 ∨ 2 ≤ (w.1 60 19).toNatClampNeg)) (some (xupd w.1 75 (w.1 60 19).toNatClampNeg ((w.1 75 (w.1 60 19).toNatClampNeg) + 1), w.2))) else some w) = some (xupd w.1 75 M (nI (P + 1)), w.2) := fun w w1 w2 w3 => by
            rw [w1, if_pos rfl, w2, xg_in hM (by decide), xg_in hM (by decide), nI_clamp (by omega), w3, nI_1]
          exact key (xupd (xupd h6.1 69 (T + P) 10) 60 20 (nI (T + P + 1)), xupdL h6.2 68 (T + P) (h6.2 66 (i + 1))) l6.2.2.1.2.1 h619 h675
        · have f5' : xfrm [(60, some 20), (68, none), (69, none)] h6 (xupd (xupd h6.1 69 (T + P) 10) 60 20 (nI (T + P + 1)), xupdL h6.2 68 (T + P) (h6.2 66 (i + 1))) := xfrm.up (xfrm.up (xfrm.ul xfrm.rf rfl) rfl) rfl
          exact (sdO.fr f5' rfl).tr (sdO.m (c := 75) (by omega))
        · rw [(o3 23 11 rfl).1, ea]
          show xupd (xupd (xupd (xupd g5.1 29 P x2) 30 P x3) 31 P x4) 23 11 (nI (P + 1)) 23 11 = _
          exact xu_eq
        · show (xupd (xupd (xupd h6.1 69 (T + P) 10) 60 20 (nI (T + P + 1))) 75 M (nI (P + 1))) 60 20 = nI (T + (P + 1))
          rw [xu_q (by decide), xu_eq]
          rfl
        · have o69 : ∀ j, (xupd (xupd (xupd h6.1 69 (T + P) 10) 60 20 (nI (T + P + 1))) 75 M (nI (P + 1))) 69 j = if j = T + P then 10 else h6.1 69 j := fun j => by
            rw [xu_q (by decide), xu_q (by decide), xu_at]
            simp only [true_and]
          show (xupd (xupd (xupd h6.1 69 (T + P) 10) 60 20 (nI (T + P + 1))) 75 M (nI (P + 1))) 69 j = nI (if j = T + P then 10 else at_ j) ∧ (if j = T + P then 10 else at_ j) ≤ 10
          rw [o69]
          by_cases zj : j = T + P
          · rw [if_pos zj, if_pos zj]
            exact ⟨rfl, by omega⟩
          · rw [if_neg zj, if_neg zj, (o4 69 j rfl).1]
            exact n69 j (by omega)
        · have v66 : h6.2 66 (i + 1) = V (i + 1) := by
            rw [(o4 66 (i + 1) rfl).2]
            exact (l5.1.2.2 (i + 1) hiE).2.2.1 k2
          refine nmRel_addP (nrel zz) (v := V (i + 1)) (fun t => ?_) (fun p => ?_) (fun j => ?_) (fun j => rfl)
          · rw [(o3 24 t rfl).2]
            exact (fA 24 t rfl).2
          · rw [(o3 28 p rfl).2, ea]
            show xupdL g5.2 28 P (V (i + 1)) 28 p = _
            by_cases zj : p = P
            · rw [if_pos zj, zj, xuL_eq]
            · rw [if_neg zj, xuL_ne zj]
          · show xupdL h6.2 68 (T + P) (h6.2 66 (i + 1)) 68 j = _
            by_cases zj : j = T + P
            · rw [if_pos zj, zj, xuL_eq, v66]
            · rw [if_neg zj, xuL_ne zj]
              exact (o4 68 j rfl).2
        · have z4 : lfd = 0 := Classical.byContradiction fun yy => yy ((qd1 yy).1.symm.trans zz)
          have z3 : lfc = 0 := Classical.byContradiction fun yy => yy ((qc1 yy).1.symm.trans z4)
          have z2 : lfb = 0 := Classical.byContradiction fun yy => qb1 yy z3
          have z1 : lfa = 0 := Classical.byContradiction fun yy => qn1 yy z2
          obtain ⟨R, hcnt, c1', c2', c3', c4'⟩ := hc z1
          obtain ⟨t4, ht4, ex4, ey4⟩ := qd2 zz
          obtain ⟨t3, ht3, ex3, ey3⟩ := qc2 z4
          obtain ⟨dd', hd0, hd9, ex2, ey2⟩ := qb2 z3
          have hrP : rP R = P := hcnt.2.2
          have o76 : ∀ q, h6.1 76 q = if q = 6 * M + P then y2 else h.1 76 q := fun q => by
            rw [(o4 76 q rfl).1, (k5 76 q rfl).1, (e4 76 q rfl).1, (k4 76 q rfl).1, (d4 76 q rfl).1, ← (a4 76 q rfl).1, ← (b4 76 q rfl).1, ← (c4 76 q rfl).1]
            show xupd h3.1 76 (6 * M + P) y2 76 q = _
            rw [xu_at]
            simp only [true_and]
          have o77 : ∀ q, h6.1 77 q = if q = 6 * M + P then y3 else h.1 77 q := fun q => by
            rw [(o4 77 q rfl).1, (k5 77 q rfl).1, (e4 77 q rfl).1, ← (a4 77 q rfl).1, ← (b4 77 q rfl).1, ← (c4 77 q rfl).1, ← (k3 77 q rfl).1, ← (d4 77 q rfl).1]
            show xupd h4.1 77 (6 * M + P) y3 77 q = _
            rw [xu_at]
            simp only [true_and]
          have o78 : ∀ q, h6.1 78 q = if q = 6 * M + P then y4 else h.1 78 q := fun q => by
            rw [(o4 78 q rfl).1, ← (a4 78 q rfl).1, ← (b4 78 q rfl).1, ← (c4 78 q rfl).1, ← (k3 78 q rfl).1, ← (d4 78 q rfl).1, ← (k4 78 q rfl).1, ← (e4 78 q rfl).1]
            show xupd h5.1 78 (6 * M + P) y4 78 q = _
            rw [xu_at]
            simp only [true_and]
          have oc : ∀ q, g6.1 29 q = (if q = P then x2 else g.1 29 q) ∧ g6.1 30 q = (if q = P then x3 else g.1 30 q) ∧ g6.1 31 q = (if q = P then x4 else g.1 31 q) := fun q => by
            have fb : xfrm [(17, some 5), (17, some 6), (17, some 7), (17, some 8)] g g5 := ((((a3.wk (B := [(17, some 5), (17, some 6), (17, some 7), (17, some 8)]) rfl).th (b3.wk rfl)).th (c3.wk rfl)).th (d3.wk rfl)).th (e3.wk rfl)
            rw [(o3 29 q rfl).1, (o3 30 q rfl).1, (o3 31 q rfl).1, ea, ← (fb 29 q rfl).1, ← (fb 30 q rfl).1, ← (fb 31 q rfl).1]
            refine ⟨?_, ?_, ?_⟩
            · show xupd (xupd (xupd (xupd g5.1 29 P x2) 30 P x3) 31 P x4) 23 11 (nI (P + 1)) 29 q = _
              rw [xu_q (by decide), xu_q (by decide), xu_q (by decide), xu_at]
              simp only [true_and]
            · show xupd (xupd (xupd (xupd g5.1 29 P x2) 30 P x3) 31 P x4) 23 11 (nI (P + 1)) 30 q = _
              rw [xu_q (by decide), xu_q (by decide), xu_at, xu_q (by decide)]
              simp only [true_and]
            · show xupd (xupd (xupd (xupd g5.1 29 P x2) 30 P x3) 31 P x4) 23 11 (nI (P + 1)) 31 q = _
              rw [xu_q (by decide), xu_at, xu_q (by decide), xu_q (by decide)]
              simp only [true_and]
          refine ⟨rAddP R (nI dd') t3 t4, ⟨hcnt.1, hcnt.2.1, by show rP R + 1 = P + 1; rw [hrP]⟩, ?_, ?_, ⟨rAddP_ok c3'.1 (by omega) (by rw [hcnt.1]; exact ht3) (by rw [hcnt.1]; exact ht4), c3'.2⟩, fun k hk => (c4' k hk).kp (fun q _ => ⟨(fg 33 q rfl).1, (fg 34 q rfl).1⟩) (fun q _ => ⟨(fh 88 q rfl).1, (fh 89 q rfl).1⟩) (fun q _ => ⟨(fh 83 q rfl).1, (fh 84 q rfl).1, (fh 85 q rfl).1, (fh 86 q rfl).1, (fh 87 q rfl).1⟩) (fg 35 k rfl).1 ⟨(fh 81 _ rfl).1, (fh 82 _ rfl).1⟩ (Nat.le_refl _) (Nat.le_refl _) (Nat.le_refl _)⟩
          · obtain ⟨⟨q1, q2, q3, q4, q5⟩, q7, q8⟩ := c1'
            refine ⟨⟨(fg 23 9 rfl).1.trans q1, (fg 23 10 rfl).1.trans q2, ?_, (fg 23 12 rfl).1.trans q4, (fg 23 13 rfl).1.trans q5⟩, fun r hr => ?_, fun p hp => ?_⟩
            · show g6.1 23 11 = nI (rP R + 1)
              rw [hrP, (o3 23 11 rfl).1, ea]
              show xupd (xupd (xupd (xupd g5.1 29 P x2) 30 P x3) 31 P x4) 23 11 (nI (P + 1)) 23 11 = _
              exact xu_eq
            · obtain ⟨b1, b2, b3⟩ := q7 r hr
              exact ⟨(fg 25 r rfl).1.trans b1, (fg 26 r rfl).1.trans b2, (fg 27 r rfl).1.trans b3⟩
            · have hp' : p < rP R + 1 := hp
              show g6.1 29 p = (if p = rP R then nI dd' else rH R p) ∧ g6.1 30 p = nI (if p = rP R then t3 else rO R p) ∧ g6.1 31 p = nI (if p = rP R then t4 else rF R p)
              rw [(oc p).1, (oc p).2.1, (oc p).2.2, hrP]
              by_cases zp : p = P
              · rw [if_pos zp, if_pos zp, if_pos zp, if_pos zp, if_pos zp, if_pos zp]
                exact ⟨ex2, ex3, ex4⟩
              · rw [if_neg zp, if_neg zp, if_neg zp, if_neg zp, if_neg zp, if_neg zp]
                exact q8 p (by omega)
          · obtain ⟨⟨q1, q2, q3, q4, q5⟩, q7, q8⟩ := c2'
            refine ⟨⟨(fh 70 M rfl).1.trans q1, (fh 71 M rfl).1.trans q2, ?_, (fh 79 M rfl).1.trans q4, (fh 80 M rfl).1.trans q5⟩, fun r hr => ?_, fun p hp => ?_⟩
            · show (xupd (xupd (xupd h6.1 69 (T + P) 10) 60 20 (nI (T + P + 1))) 75 M (nI (P + 1))) 75 M = nI (rP R + 1)
              rw [xu_eq, hrP]
            · obtain ⟨b1, b2, b3⟩ := q7 r hr
              exact ⟨(fh 72 _ rfl).1.trans b1, (fh 73 _ rfl).1.trans b2, (fh 74 _ rfl).1.trans b3⟩
            · have hp' : p < rP R + 1 := hp
              rw [(f5 76 _ rfl).1, (f5 77 _ rfl).1, (f5 78 _ rfl).1, o76, o77, o78]
              show (if 6 * M + p = 6 * M + P then y2 else h.1 76 (6 * M + p)) = (if p = rP R then nI dd' else rH R p) ∧ (if 6 * M + p = 6 * M + P then y3 else h.1 77 (6 * M + p)) = nI (if p = rP R then t3 else rO R p) ∧ (if 6 * M + p = 6 * M + P then y4 else h.1 78 (6 * M + p)) = nI (if p = rP R then t4 else rF R p)
              rw [hrP]
              by_cases zp : p = P
              · have zq : 6 * M + p = 6 * M + P := by omega
                rw [if_pos zp, if_pos zp, if_pos zp, if_pos zq, if_pos zq, if_pos zq]
                exact ⟨ey2, ey3, ey4⟩
              · have zq : ¬ 6 * M + p = 6 * M + P := by omega
                rw [if_neg zp, if_neg zp, if_neg zp, if_neg zq, if_neg zq, if_neg zq]
                exact q8 p (by omega)
      · refine ⟨g6, h6, rfl, ?_, sd, .inr ⟨f, j, m1, m2⟩⟩
        unfold f_X12_endsName_60
        rw [show f_X12_must_60 4 (xupd h5.1 78 (6 * M + P) y4, h5.2) = some h6 from o2, Option.bind_some, m2.2.1, if_neg (f12_nle m2.1), Option.bind_some, m2.2.1, if_neg (f12_ne m2.1)]
    · have m3 := m1.ag (fA.agr rfl)
      refine ⟨_, (xupd h5.1 78 (6 * M + P) y4, h5.2), cd_take m3 4, ?_, sd5, .inr ⟨f, j, m3, m2⟩⟩
      rw [rd_ends m2, Option.bind_some, if_neg (show ¬ (xupd h5.1 78 (6 * M + P) y4, h5.2).1 60 13 = 0 from by rw [m2.2.1]; exact f12_ne m2.1)]
  · obtain ⟨v, g2, b1, b2⟩ := cd_name d1 hT7 hP6 ((a3 23 9 rfl).1.trans n.2.2.1) ((a3 23 11 rfl).1.trans n.2.2.2.1)
    have t9 : g2.1 23 9 = nI T := ((b2 23 9 rfl).1).trans ((a3 23 9 rfl).1.trans n.2.2.1)
    have m2 := d1.ag (b2.agr rfl)
    obtain ⟨x2, g3, c1, c2⟩ := cd_num m2 0 9
    have m3 := m2.ag (c2.agr rfl)
    obtain ⟨x3, g4, d3, d4⟩ := cd_town m3 hT7 (((c2 23 9 rfl).1).trans t9)
    have m4 := m3.ag (d4.agr rfl)
    obtain ⟨x4, g5, e1, e2⟩ := cd_town m4 hT7 (((d4 23 9 rfl).1).trans (((c2 23 9 rfl).1).trans t9))
    have m5 := (m4.ag (e2.agr rfl)).ag ((fA v x2 x3 x4 g5).agr rfl)
    rw [cc v g2 x2 g3 x3 g4 x4 g5 b1 c1 d3 e1, d2.2.1, if_neg (f12_ne d2.1)]
    exact ⟨_, h1, cd_take m5 4, rfl, sdO.fr a4 rfl, .inr ⟨f, j, m5, d2⟩⟩
end
