/-! told: a town -/
theorem nmRel_addT {T P : Nat} {tn pn nm tn' pn' nm' : Nat → Int64} {at_ at' : Nat → Nat} {v : Int64} (h : nmRel T P tn pn nm at_) (hv : ∀ t, t < T → tn t ≠ v) (e1 : ∀ t, tn' t = if t = T then v else tn t) (e2 : ∀ p, pn' p = pn p) (e3 : ∀ j, nm' j = if j = T + P then v else nm j) (e4 : ∀ j, at' j = if j = T + P then T else at_ j) : nmRel (T + 1) P tn' pn' nm' at' := by
  obtain ⟨h1, h2, h3, h4⟩ := h
  refine ⟨fun t ht => ?_, fun p hp => ?_, fun j hj => ?_, fun t t' ht ht' e => ?_⟩
  · by_cases z : t = T
    · exact ⟨T + P, by omega, by rw [e3, e1, if_pos rfl, if_pos z], by rw [e4, if_pos rfl, z]⟩
    · obtain ⟨j, a1, a2, a3⟩ := h1 t (by omega)
      exact ⟨j, by omega, by rw [e3, e1, if_neg (by omega), if_neg z, a2], by rw [e4, if_neg (by omega), a3]⟩
  · obtain ⟨j, a1, a2, a3⟩ := h2 p hp
    exact ⟨j, by omega, by rw [e3, e2, if_neg (by omega), a2], by rw [e4, if_neg (by omega), a3]⟩
  · by_cases z : j = T + P
    · have e5 : at' j = T := by rw [e4, if_pos z]
      exact .inl ⟨by omega, by rw [e3, if_pos z, e1, e5, if_pos rfl]⟩
    · have e5 : at' j = at_ j := by rw [e4, if_neg z]
      rcases h3 j (by omega) with ⟨a1, a2⟩ | ⟨a1, p, a2, a3⟩
      · exact .inl ⟨by omega, by rw [e3, if_neg z, e1, e5, if_neg (by omega), a2]⟩
      · exact .inr ⟨by omega, p, a2, by rw [e3, if_neg z, e2, a3]⟩
  · rw [e1, e1] at e
    by_cases z : t = T
    · by_cases z' : t' = T
      · rw [z, z']
      · rw [if_pos z, if_neg z'] at e
        exact absurd e.symm (hv t' (by omega))
    · by_cases z' : t' = T
      · rw [if_neg z, if_pos z'] at e
        exact absurd e (hv t (by omega))
      · rw [if_neg z, if_neg z'] at e
        exact h4 t t' (by omega) (by omega) e
section
variable {K S : Nat → Nat} {V : Nat → Int64} {E : Nat}
theorem tell_town (hK : tkK K S E) {M i : Nat} {g h : xG} (z : tl K S V E M i g h) (hi13 : K i = 13) : tlO K S V E M i h ((f_X3_readTown_17 g).bind fun w5 => f_X3_take_17 4 w5) (f_X12_tellOne_60 h) := by
  obtain ⟨lf, lt, T, Rn, P, s, br, p, ⟨l, n, hR, e10⟩, ⟨e70, e71, e75, e19, hM⟩, ⟨ez, bz, e36, hb1, hb2⟩, hc⟩ := z
  obtain ⟨r1, r2, r3⟩ := lv_r l hK
  have hkap : kap (K i) = 20 := by rw [hi13]; rfl
  have hT7 := n.1
  have hP6 := n.2.1
  obtain ⟨g1, h1, a1, a2, a3, a4, a5⟩ := p_more (had := T) (most := 7) hK l hi13 (by decide) hT7 (by decide)
  have h119 : h1.1 60 19 = nI M := ((a4 60 19 rfl).1).trans e19
  have rr : f_X12_tellOne_60 h = if (h1.1 60 13) ≤ 0 then ((f_X12_named_60 h1).bind fun w2 => xg (¬ ((w2.2.1 60 19) < 0 ∨ 2 ≤ (w2.2.1 60 19).toNatClampNeg)) ((f_X12_endsName_60 w2.1 (w2.2.1 70 (w2.2.1 60 19).toNatClampNeg) w2.2).bind fun w3 => if (w3.1 60 13) = 0 then xg (¬ ((w3.1 60 19) < 0 ∨ 2 ≤ (w3.1 60 19).toNatClampNeg)) (xg (¬ ((w3.1 60 19) < 0 ∨ 2 ≤ (w3.1 60 19).toNatClampNeg)) (some (xupd w3.1 70 (w3.1 60 19).toNatClampNeg ((w3.1 70 (w3.1 60 19).toNatClampNeg) + 1), w3.2))) else some w3)) else some h1 := by
    unfold f_X12_tellOne_60
    rw [l.2.2.1.1, xg_in (show i < 403 by omega) (by decide), nI_clamp (by omega), r1, hkap, if_pos (show nI 20 = (20 : Int32) from rfl), e19, xg_in hM (by decide), nI_clamp (by omega), e70, show f_X12_roomFor_60 (nI T) 7 h = some h1 from a2, Option.bind_some]
  have cc : ((f_X3_readTown_17 g).bind fun w5 => f_X3_take_17 4 w5) = (f_X3_takeNewName_17 g1).bind fun w2 => f_X3_take_17 4 (f_X4_addTown_23 w2.1 w2.2) := by
    unfold f_X3_readTown_17 f_X4_towns_23
    rw [n.2.2.1, show f_X3_takeOneMore_17 13 (nI T) 7 g = some g1 from a1, Option.bind_some]
    cases f_X3_takeNewName_17 g1 <;> rfl
  rw [cc, rr]
  have fA : ∀ v w, xfrm [(23, some 9), (24, none)] w (f_X4_addTown_23 v w) := fun v w => (fr_X4_addTown_23 _ rfl).wk rfl
  rcases a5 with ⟨hT, i4, l1⟩ | ⟨f, j, d1, d2⟩
  · have zA : NL K S V E T P (fun i' lf' lt' => i' = i + 1 ∧ lf' = lf ∧ lt' = lt) g1 h1 := by
      refine ⟨⟨n.1, n.2.1, (a3 23 9 rfl).1.trans n.2.2.1, (a3 23 11 rfl).1.trans n.2.2.2.1, ?_⟩, .inl ⟨i + 1, lf, lt, l1.mono (by omega), n.ag (a3.agr rfl) (a4.agr rfl) id, rfl, rfl, rfl⟩⟩
      obtain ⟨at_, hat, -⟩ := n.2.2.2.2
      exact (a4 60 20 rfl).1.trans hat.2.1
    obtain ⟨v, y, g2, h2, b1, b2, b3, b4, zB⟩ := n_name hK zA
    have h219 : h2.1 60 19 = nI M := ((b4 60 19 rfl).1).trans h119
    have h270 : h2.1 70 M = nI T := ((b4 70 M rfl).1).trans (((a4 70 M rfl).1).trans e70)
    have f3 := fA v g2
    rw [b1, Option.bind_some, l1.2.2.1.2.1, if_pos (by decide), b2, Option.bind_some, h219, xg_in hM (by decide), nI_clamp (by omega), h270]
    rcases zB.2 with ⟨i2, lf2, lt2, l2, n2, i1, lf1, lt1, rfl, ⟨rfl, rfl, rfl⟩, hiE, k2, rfl, rfl, q1, q2⟩ | ⟨f, j, d1, d2⟩
    · obtain ⟨g4, h4, c1, c2, c3, c4, c5⟩ := p_take hK (l2.ag (f3.agr (C := kLc) rfl) xagr.rf) (a := 4) (by decide) (by decide)
      have fg : xfrm [(17, some 5), (17, some 6), (17, some 7), (17, some 8), (23, some 9), (24, none)] g g4 := (((a3.wk (B := [(17, some 5), (17, some 6), (17, some 7), (17, some 8), (23, some 9), (24, none)]) rfl).th (b3.wk rfl)).th (f3.wk rfl)).th (c3.wk rfl)
      rw [show f_X3_take_17 4 (f_X4_addTown_23 (V (i + 1)) g2) = some g4 from c1]
      have sd : sdO M h h4 := ((sdO.fr a4 rfl).tr (sdO.fr b4 rfl)).tr (sdO.fr c4 rfl)
      rcases c5 with ⟨k4, i5, l4⟩ | ⟨f, j, d1, d2⟩
      · obtain ⟨nT, nP, n9, n11, at_, ⟨n13, n20, n69⟩, nrel⟩ := n2
        have e20 : h4.1 60 20 = nI (T + P) := ((c4 60 20 rfl).1).trans n20
        have f5 : xfrm [(60, some 20), (68, none), (69, none), (70, none)] h4 (xupd (xupd (xupd h4.1 69 (T + P) (nI T)) 60 20 (nI (T + P + 1))) 70 M (nI (T + 1)), xupdL h4.2 68 (T + P) (h4.2 66 (i + 1))) := xfrm.up (xfrm.up (xfrm.up (xfrm.ul xfrm.rf rfl) rfl) rfl) rfl
        have fh : xfrm [(60, some 11), (60, some 13), (60, some 14), (60, some 15), (60, some 16), (60, some 20), (68, none), (69, none), (70, none)] h (xupd (xupd (xupd h4.1 69 (T + P) (nI T)) 60 20 (nI (T + P + 1))) 70 M (nI (T + 1)), xupdL h4.2 68 (T + P) (h4.2 66 (i + 1))) := (((a4.wk (B := [(60, some 11), (60, some 13), (60, some 14), (60, some 15), (60, some 16), (60, some 20), (68, none), (69, none), (70, none)]) rfl).th (b4.wk rfl)).th (c4.wk rfl)).th (f5.wk rfl)
        have g9 : g4.1 23 9 = nI (T + 1) ∧ ∀ t, g4.2 24 t = if t = T then V (i + 1) else g2.2 24 t := by
          have e9 : g2.1 23 9 = nI T := n9
          have ea : f_X4_addTown_23 (V (i + 1)) g2 = (xupd g2.1 23 9 (nI (T + 1)), xupdL g2.2 24 T (V (i + 1))) := by
            unfold f_X4_addTown_23
            rw [xl_e, e9, xlput_in hT (by decide)]
            dsimp only
            rw [e9, nI_1]
          refine ⟨?_, fun t => ?_⟩
          · rw [(c3 23 9 rfl).1, ea]
            show xupd g2.1 23 9 (nI (T + 1)) 23 9 = _
            exact xu_eq
          · rw [(c3 24 t rfl).2, ea]
            show xupdL g2.2 24 T (V (i + 1)) 24 t = _
            by_cases zt : t = T
            · rw [if_pos zt, zt, xuL_eq]
            · rw [if_neg zt, xuL_ne zt]
        refine ⟨g4, _, rfl, ?_, sd.tr ?_, .inl ⟨i + 1 + 1 + 1, by omega, lf2, lt2, T + 1, Rn, P, s, br, p, ⟨(l4.ag xagr.rf (f5.agr (C := kLh) rfl)).mono (by omega), ⟨by omega, hP6, g9.1, ((fg 23 11 rfl).1).trans n.2.2.2.1, (fun j => if j = T + P then T else at_ j), ⟨by omega, ?_, fun j hj => ?_⟩, fun zz => ?_⟩, hR, ((fg 23 10 rfl).1).trans e10⟩, ⟨(show xupd (xupd (xupd h4.1 69 (T + P) (nI T)) 60 20 (nI (T + P + 1))) 70 M (nI (T + 1)) 70 M = nI (T + 1) from xu_eq), ((fh 71 M rfl).1).trans e71, ((fh 75 M rfl).1).trans e75, ((fh 60 19 rfl).1).trans e19, hM⟩, ⟨⟨((fg 32 4 rfl).1).trans ez.1, ((fh 60 42 rfl).1).trans ez.2.1, ((fh 60 12 rfl).1).trans ez.2.2⟩, ⟨by omega, bz.2.1, by omega⟩, ((fh 60 36 rfl).1).trans e36, hb1, by omega⟩, fun zz => ?_⟩⟩
        · unfold f_X12_endsName_60
          rw [show f_X12_must_60 4 h2 = some h4 from c2, Option.bind_some, l4.2.2.1.2.1, if_pos (by decide), xg_in (show i + 1 < 403 by omega) (by decide), e20, xg_in (show T + P < 13 by omega) (by decide), xg_in (show T + P < 13 by omega) (by decide), nI_clamp (by omega), nI_clamp (by omega), Option.bind_some]
          rw [nI_1]
          have key : ∀ w : xG, w.1 60 13 = 0 → w.1 60 19 = nI M → w.1 70 M = nI T → (if (w.1 60 13) = 0 then xg (¬ ((w.1 60 19) < 0 ∨ 2 ≤ (w.1 60 19).toNatClampNeg)) (xg (¬ ((w.1 60 19) < 0 ∨ 2 ≤ (w.1 60 19).toNatClampNeg)) (some (xupd w.1 70 (w.1 60 19).toNatClampNeg ((w.1 70 (w.1 60 19).toNatClampNeg) + 1), w.2))) else some w) = some (xupd w.1 70 M (nI (T + 1)), w.2) := fun w w1 w2 w3 => by
            rw [w1, if_pos rfl, w2, xg_in hM (by decide), xg_in hM (by decide), nI_clamp (by omega), w3, nI_1]
          exact key (xupd (xupd h4.1 69 (T + P) (nI T)) 60 20 (nI (T + P + 1)), xupdL h4.2 68 (T + P) (h4.2 66 (i + 1))) l4.2.2.1.2.1 (((c4 60 19 rfl).1).trans h219) (((c4 70 M rfl).1).trans h270)
        · have f5' : xfrm [(60, some 20), (68, none), (69, none)] h4 (xupd (xupd h4.1 69 (T + P) (nI T)) 60 20 (nI (T + P + 1)), xupdL h4.2 68 (T + P) (h4.2 66 (i + 1))) := xfrm.up (xfrm.up (xfrm.ul xfrm.rf rfl) rfl) rfl
          exact (sdO.fr f5' rfl).tr (sdO.m (c := 70) (by omega))
        · show xupd (xupd (xupd h4.1 69 (T + P) (nI T)) 60 20 (nI (T + P + 1))) 70 M (nI (T + 1)) 60 20 = nI (T + 1 + P)
          rw [xu_q (by decide), xu_eq]
          congr 1
          omega
        · have o69 : ∀ j, (xupd (xupd (xupd h4.1 69 (T + P) (nI T)) 60 20 (nI (T + P + 1))) 70 M (nI (T + 1))) 69 j = if j = T + P then nI T else h4.1 69 j := fun j => by
            rw [xu_q (by decide), xu_q (by decide), xu_at]
            simp only [true_and]
          show (xupd (xupd (xupd h4.1 69 (T + P) (nI T)) 60 20 (nI (T + P + 1))) 70 M (nI (T + 1))) 69 j = nI (if j = T + P then T else at_ j) ∧ (if j = T + P then T else at_ j) ≤ 10
          rw [o69]
          by_cases zj : j = T + P
          · rw [if_pos zj, if_pos zj]
            exact ⟨rfl, by omega⟩
          · rw [if_neg zj, if_neg zj, (c4 69 j rfl).1]
            exact n69 j (by omega)
        · have lf0 := q2 zz
          have k2' := b3.agr (C := kNc) rfl
          have v66 : h4.2 66 (i + 1) = V (i + 1) := by
            rw [(c4 66 (i + 1) rfl).2]
            exact (l2.1.2.2 (i + 1) hiE).2.2.1 k2
          refine nmRel_addT (nrel zz) (v := V (i + 1)) (fun t ht => ?_) g9.2 (fun p => ?_) (fun j => ?_) (fun j => rfl)
          · rw [(k2' 24 t rfl).2]
            exact lf0.2 t ht
          · rw [(c3 28 p rfl).2]
            exact (f3 28 p rfl).2
          · show xupdL h4.2 68 (T + P) (h4.2 66 (i + 1)) 68 j = _
            by_cases zj : j = T + P
            · rw [if_pos zj, zj, xuL_eq, v66]
            · rw [if_neg zj, xuL_ne zj]
              exact (c4 68 j rfl).2
        · have lf0 : lf1 = 0 := Classical.byContradiction fun yy => q1 yy zz
          obtain ⟨R, hcnt, c1', c2', c3', c4'⟩ := hc lf0
          refine ⟨rAddT R, ⟨by show rT R + 1 = T + 1; rw [hcnt.1], hcnt.2⟩, ?_, ?_, rAddT_ok c3'.1 (by rw [hcnt.1]; exact hT) c3'.2, fun k hk => (c4' k hk).kp (fun q _ => ⟨(fg 33 q rfl).1, (fg 34 q rfl).1⟩) (fun q _ => ⟨(fh 88 q rfl).1, (fh 89 q rfl).1⟩) (fun q _ => ⟨(fh 83 q rfl).1, (fh 84 q rfl).1, (fh 85 q rfl).1, (fh 86 q rfl).1, (fh 87 q rfl).1⟩) (fg 35 k rfl).1 ⟨(fh 81 _ rfl).1, (fh 82 _ rfl).1⟩ (Nat.le_refl _) (Nat.le_refl _) (Nat.le_refl _)⟩
          · obtain ⟨⟨q1, q2, q3, q4, q5⟩, q7, q8⟩ := c1'
            refine ⟨⟨?_, (fg 23 10 rfl).1.trans q2, (fg 23 11 rfl).1.trans q3, (fg 23 12 rfl).1.trans q4, (fg 23 13 rfl).1.trans q5⟩, fun r hr => ?_, fun p hp => ?_⟩
            · show g4.1 23 9 = nI (rT R + 1)
              rw [hcnt.1]
              exact g9.1
            · obtain ⟨b1, b2, b3⟩ := q7 r hr
              exact ⟨(fg 25 r rfl).1.trans b1, (fg 26 r rfl).1.trans b2, (fg 27 r rfl).1.trans b3⟩
            · obtain ⟨b1, b2, b3⟩ := q8 p hp
              exact ⟨(fg 29 p rfl).1.trans b1, (fg 30 p rfl).1.trans b2, (fg 31 p rfl).1.trans b3⟩
          · obtain ⟨⟨q1, q2, q3, q4, q5⟩, q7, q8⟩ := c2'
            refine ⟨⟨?_, (fh 71 M rfl).1.trans q2, (fh 75 M rfl).1.trans q3, (fh 79 M rfl).1.trans q4, (fh 80 M rfl).1.trans q5⟩, fun r hr => ?_, fun p hp => ?_⟩
            · show xupd (xupd (xupd h4.1 69 (T + P) (nI T)) 60 20 (nI (T + P + 1))) 70 M (nI (T + 1)) 70 M = nI (rT R + 1)
              rw [xu_eq, hcnt.1]
            · obtain ⟨b1, b2, b3⟩ := q7 r hr
              exact ⟨(fh 72 _ rfl).1.trans b1, (fh 73 _ rfl).1.trans b2, (fh 74 _ rfl).1.trans b3⟩
            · obtain ⟨b1, b2, b3⟩ := q8 p hp
              exact ⟨(fh 76 _ rfl).1.trans b1, (fh 77 _ rfl).1.trans b2, (fh 78 _ rfl).1.trans b3⟩
      · refine ⟨g4, h4, rfl, ?_, sd, .inr ⟨f, j, d1, d2⟩⟩
        unfold f_X12_endsName_60
        rw [show f_X12_must_60 4 h2 = some h4 from c2, Option.bind_some, d2.2.1, if_neg (f12_nle d2.1), Option.bind_some, d2.2.1, if_neg (f12_ne d2.1)]
    · have d3 := d1.ag (f3.agr rfl)
      refine ⟨_, h2, cd_take d3 4, ?_, (sdO.fr a4 rfl).tr (sdO.fr b4 rfl), .inr ⟨f, j, d3, d2⟩⟩
      rw [rd_ends d2, Option.bind_some, d2.2.1, if_neg (f12_ne d2.1)]
  · obtain ⟨x, g2, b1, b2⟩ := cd_name d1 hT7 hP6 ((a3 23 9 rfl).1.trans n.2.2.1) ((a3 23 11 rfl).1.trans n.2.2.2.1)
    have d3 := (d1.ag (b2.agr rfl)).ag ((fA x g2).agr rfl)
    rw [b1, Option.bind_some, d2.2.1, if_neg (f12_nle d2.1)]
    exact ⟨_, h1, cd_take d3 4, rfl, sdO.fr a4 rfl, .inr ⟨f, j, d3, d2⟩⟩
end
