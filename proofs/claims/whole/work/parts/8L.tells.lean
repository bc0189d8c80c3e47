/-! told: a capital, a town -/
def rAddT (R : pR) : pR := ((R.1.1 + 1, R.1.2.1, R.1.2.2.1, R.1.2.2.2), R.2)
theorem rAddT_ok {R : pR} (h : rOK R) (h7 : rT R < 7) (h0 : rT R = 0 → rC R = 0) : rOK (rAddT R) ∧ (rT (rAddT R) = 0 → rC (rAddT R) = 0) := by
  obtain ⟨⟨h1, h2, h3, h4⟩, h5, h6, h8, h9⟩ := h
  refine ⟨⟨⟨by show rT R + 1 ≤ 7; omega, h2, h3, h4⟩, fun _ => ?_, fun r hr => ?_, fun p hp => ?_, h9⟩, fun y => ?_⟩
  · show rC R < rT R + 1
    by_cases z : rT R = 0
    · rw [h0 z]; omega
    · have := h5 (by omega); omega
  · obtain ⟨a1, a2, a3⟩ := h6 r hr
    exact ⟨by show rA R r < rT R + 1; omega, by show rB R r < rT R + 1; omega, a3⟩
  · obtain ⟨a1, a2⟩ := h8 p hp
    exact ⟨by show rO R p < rT R + 1; omega, by show rF R p < rT R + 1; omega⟩
  · have : rT R + 1 = 0 := y
    omega
section
variable {K S : Nat → Nat} {V : Nat → Int64} {E : Nat}
theorem tell_capital (hK : tkK K S E) {M i : Nat} {g h : xG} (z : tl K S V E M i g h) (hi16 : K i = 16) : tlO K S V E M i h ((f_X3_readCapital_17 g).bind fun w11 => f_X3_take_17 4 w11) (f_X12_tellOne_60 h) := by
  obtain ⟨lf, lt, T, Rn, P, s, br, p, ⟨l, n, hR, e10⟩, ⟨e70, e71, e75, e19, hM⟩, ⟨ez, bz, e36, hb1, hb2⟩, hc⟩ := z
  obtain ⟨r1, r2, r3⟩ := lv_r l hK
  have hkap : kap (K i) = 23 := by rw [hi16]; rfl
  have bs : ∀ (o : Option xG), (o.bind fun w => some w) = o := fun o => by cases o <;> rfl
  obtain ⟨g1, h1, a1, a2, a3, a4, a5⟩ := p_goes hK l hi16 (by decide)
  have zA : NL K S V E T P (fun i' lf' lt' => i' = i + 1 ∧ lf' = lf ∧ lt' = lt) g1 h1 := by
    refine ⟨⟨n.1, n.2.1, (a3 23 9 rfl).1.trans n.2.2.1, (a3 23 11 rfl).1.trans n.2.2.2.1, ?_⟩, ?_⟩
    · obtain ⟨at_, hat, -⟩ := n.2.2.2.2
      exact (a4 60 20 rfl).1.trans hat.2.1
    · rcases a5 with ⟨i4, l'⟩ | d
      · exact .inl ⟨i + 1, lf, lt, l'.mono (by omega), n.ag (a3.agr rfl) (a4.agr rfl) id, rfl, rfl, rfl⟩
      · exact .inr d
  obtain ⟨x, y, g2, h2, b1, b2, b3, b4, zB⟩ := n_town hK zA
  have f3 : xfrm [(23, some 12)] g2 (xupd g2.1 23 12 x, g2.2) := xfrm.up xfrm.rf rfl
  have k3 : xfrm [(79, none)] h2 (xupd h2.1 79 M y, h2.2) := xfrm.up xfrm.rf rfl
  obtain ⟨g4, h4, c1, c2, c3, c4, zD⟩ := n_take hK (zB.ag (f3.agr rfl) (k3.agr rfl)) (a := 4) (by decide) (by decide)
  have fg : xfrm [(17, some 5), (17, some 6), (17, some 7), (17, some 8), (23, some 12)] g g4 := (((a3.wk (B := [(17, some 5), (17, some 6), (17, some 7), (17, some 8), (23, some 12)]) rfl).th (b3.wk rfl)).th (f3.wk rfl)).th (c3.wk rfl)
  have fh : xfrm [(60, some 11), (60, some 13), (60, some 14), (60, some 15), (60, some 16), (79, none)] h h4 := (((a4.wk (B := [(60, some 11), (60, some 13), (60, some 14), (60, some 15), (60, some 16), (79, none)]) rfl).th (b4.wk rfl)).th (k3.wk rfl)).th (c4.wk rfl)
  refine ⟨g4, h4, ?_, ?_, (((sdO.fr a4 rfl).tr (sdO.fr b4 rfl)).tr (sdO.m (by omega))).tr (sdO.fr c4 rfl), ?_⟩
  · unfold f_X3_readCapital_17 f_X4_setCapital_23
    rw [show f_X3_take_17 16 g = some g1 from a1, Option.bind_some, b1, Option.bind_some, xl_e, Option.bind_some]
    exact c1
  · unfold f_X12_tellOne_60
    rw [l.2.2.1.1, xg_in (show i < 403 by omega) (by decide), nI_clamp (by omega), r1, hkap, if_neg (show ¬ nI 23 = (20 : Int32) by decide), if_neg (show ¬ nI 23 = (21 : Int32) by decide), if_neg (show ¬ nI 23 = (22 : Int32) by decide), if_pos (show nI 23 = (23 : Int32) from rfl), a2, Option.bind_some, b2, Option.bind_some, show h1.1 60 19 = nI M from ((a4 60 19 rfl).1).trans e19, xg_in hM (by decide), nI_clamp (by omega), bs]
    exact c2
  · rcases zD.2 with ⟨i', lf', lt', l', n', i1, rfl, -, i2, lf2, lt2, rfl, ⟨rfl, rfl, rfl⟩, q1, q2, q3⟩ | d
    · refine .inl ⟨i + 1 + 1 + 1, by omega, lf', lt', T, Rn, P, s, br, p, ⟨l', n', hR, ((fg 23 10 rfl).1).trans e10⟩, ⟨((fh 70 M rfl).1).trans e70, ((fh 71 M rfl).1).trans e71, ((fh 75 M rfl).1).trans e75, ((fh 60 19 rfl).1).trans e19, hM⟩, ⟨⟨((fg 32 4 rfl).1).trans ez.1, ((fh 60 42 rfl).1).trans ez.2.1, ((fh 60 12 rfl).1).trans ez.2.2⟩, ⟨by omega, bz.2.1, by omega⟩, ((fh 60 36 rfl).1).trans e36, hb1, by omega⟩, fun zz => ?_⟩
      have lf0 : lf2 = 0 := Classical.byContradiction fun yy => yy ((q1 yy).1.symm.trans zz)
      obtain ⟨R, hcnt, c1', c2', c3', c4'⟩ := hc lf0
      obtain ⟨t, ht, ex, ey⟩ := q2 zz
      have ht' : t < rT R := by rw [hcnt.1]; exact ht
      have hT7 := c3'.1.1.1
      refine ⟨rSetC R t, hcnt, ?_, ?_, ⟨⟨⟨c3'.1.1.1, c3'.1.1.2.1, c3'.1.1.2.2.1, by show t < 7; omega⟩, fun _ => ht', c3'.1.2.2⟩, fun yy => by
        have : rT R = 0 := yy
        omega⟩, fun k hk => (c4' k hk).kp (fun q _ => ⟨(fg 33 q rfl).1, (fg 34 q rfl).1⟩) (fun q _ => ⟨(fh 88 q rfl).1, (fh 89 q rfl).1⟩) (fun q _ => ⟨(fh 83 q rfl).1, (fh 84 q rfl).1, (fh 85 q rfl).1, (fh 86 q rfl).1, (fh 87 q rfl).1⟩) (fg 35 k rfl).1 ⟨(fh 81 _ rfl).1, (fh 82 _ rfl).1⟩ (Nat.le_refl _) (Nat.le_refl _) (Nat.le_refl _)⟩
      · obtain ⟨⟨q1, q2, q3, q4, q5⟩, q7, q8⟩ := c1'
        refine ⟨⟨(fg 23 9 rfl).1.trans q1, (fg 23 10 rfl).1.trans q2, (fg 23 11 rfl).1.trans q3, ?_, (fg 23 13 rfl).1.trans q5⟩, fun r hr => ?_, fun p hp => ?_⟩
        · show g4.1 23 12 = nI t
          rw [(c3 23 12 rfl).1, ← ex]
          show xupd g2.1 23 12 x 23 12 = x
          exact xu_eq
        · obtain ⟨b1, b2, b3⟩ := q7 r hr
          exact ⟨(fg 25 r rfl).1.trans b1, (fg 26 r rfl).1.trans b2, (fg 27 r rfl).1.trans b3⟩
        · obtain ⟨b1, b2, b3⟩ := q8 p hp
          exact ⟨(fg 29 p rfl).1.trans b1, (fg 30 p rfl).1.trans b2, (fg 31 p rfl).1.trans b3⟩
      · obtain ⟨⟨q1, q2, q3, q4, q5⟩, q7, q8⟩ := c2'
        refine ⟨⟨(fh 70 M rfl).1.trans q1, (fh 71 M rfl).1.trans q2, (fh 75 M rfl).1.trans q3, ?_, (fh 80 M rfl).1.trans q5⟩, fun r hr => ?_, fun p hp => ?_⟩
        · rw [(c4 79 M rfl).1]
          show xupd h2.1 79 M y 79 M = nI t
          rw [xu_eq, ey]
        · obtain ⟨b1, b2, b3⟩ := q7 r hr
          exact ⟨(fh 72 _ rfl).1.trans b1, (fh 73 _ rfl).1.trans b2, (fh 74 _ rfl).1.trans b3⟩
        · obtain ⟨b1, b2, b3⟩ := q8 p hp
          exact ⟨(fh 76 _ rfl).1.trans b1, (fh 77 _ rfl).1.trans b2, (fh 78 _ rfl).1.trans b3⟩
    · exact .inr d
end
