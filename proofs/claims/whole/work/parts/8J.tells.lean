/-! told: a seed, a capital, and what cannot be told -/
theorem sdO.m {M c : Nat} {h : xG} {v : Int32} (hc : c = 70 ∨ c = 71 ∨ c = 75 ∨ c = 79 ∨ c = 80) : sdO M h (xupd h.1 c M v, h.2) := by
  have e1 : ∀ d q, q ≠ M → xupd h.1 c M v d q = h.1 d q := fun d q hq => by rw [xu_at, if_neg (fun y => hq y.2)]
  have e2 : ∀ d q, d ≠ c → xupd h.1 c M v d q = h.1 d q := fun d q hd => xu_q hd
  exact ⟨fun q hq => ⟨e1 70 q hq, e1 71 q hq, e1 75 q hq, e1 79 q hq, e1 80 q hq⟩, fun q _ => ⟨e2 72 q (by omega), e2 73 q (by omega), e2 74 q (by omega)⟩, fun q _ => ⟨e2 76 q (by omega), e2 77 q (by omega), e2 78 q (by omega)⟩, fun q _ => ⟨e2 81 q (by omega), e2 82 q (by omega)⟩, fun q _ => ⟨e2 83 q (by omega), e2 84 q (by omega), e2 85 q (by omega), e2 86 q (by omega), e2 87 q (by omega)⟩, fun q _ => ⟨e2 88 q (by omega), e2 89 q (by omega)⟩⟩
def rSetS (R : pR) (v : Int32) : pR := (R.1, R.2.1, R.2.2.1, v, R.2.2.2.2)
def rSetC (R : pR) (c : Nat) : pR := ((R.1.1, R.1.2.1, R.1.2.2.1, c), R.2)
section
variable {K S : Nat → Nat} {V : Nat → Int64} {E : Nat}
theorem r_bounded {i b lf lt : Nat} {g h : xG} (hK : tkK K S E) (l : lv K S V E i b lf lt g h) : ∃ y, f_X12_bounded_60 0 9999 h = (f_X12_must_60 2 h).bind (fun w => some (y, w)) ∧ (K i = 3 → ∃ d, V i = lN d ∧ d ≤ 9999 ∧ y = nI d) := by
  obtain ⟨r1, r2, r3⟩ := lv_r l hK
  have bs : ∀ (o : Option xG) (y : Int32), ((o.bind fun w => some w).bind fun w => some (y, w)) = o.bind fun w => some (y, w) := fun o y => by cases o <;> rfl
  unfold f_X12_bounded_60 f_X12_must_60
  rw [l.2.2.1.2.1, if_neg (show ¬ (0 : Int32) < 0 by decide), show f_X12_is_60 2 h = _ from r_is hK l (a := 3) (by decide), Option.bind_some, Option.bind_some]
  by_cases z : K i = 3
  · obtain ⟨d, hd, ev, e65⟩ := (l.1.2.2 i l.1.1).2.2.2 z
    rw [if_pos z, if_neg (show ¬ (1 : Int32) = 0 by decide), if_neg (show ¬ (1 : Int32) = 0 by decide), l.2.2.1.1, xg_in (show i < 403 by omega) (by decide), nI_clamp (by omega), e65, if_neg (nI_pos (show d < 2 ^ 31 by omega)), show (9999 : Int32) = nI 9999 from rfl, ite_le (by omega) (by decide), if_pos hd]
    exact ⟨nI d, (bs _ _).symm, fun _ => ⟨d, ev, hd, rfl⟩⟩
  · rw [if_neg z, if_pos rfl, if_pos rfl]
    exact ⟨0, (bs _ _).symm, fun y => absurd y z⟩
theorem tell_seed (hK : tkK K S E) {M i : Nat} {g h : xG} (z : tl K S V E M i g h) (hi21 : K i = 21) : tlO K S V E M i h ((f_X3_readSeed_17 g).bind fun w16 => f_X3_take_17 4 w16) (f_X12_tellOne_60 h) := by
  obtain ⟨lf, lt, T, Rn, P, s, br, p, ⟨l, n, hR, e10⟩, ⟨e70, e71, e75, e19, hM⟩, ⟨ez, bz, e36, hb1, hb2⟩, hc⟩ := z
  obtain ⟨r1, r2, r3⟩ := lv_r l hK
  have hkap : kap (K i) = 28 := by rw [hi21]; rfl
  have bs : ∀ (o : Option xG), (o.bind fun w => some w) = o := fun o => by cases o <;> rfl
  have rr : f_X12_tellOne_60 h = (f_X12_goesOn_60 h).bind fun w16 => (f_X12_bounded_60 0 9999 w16).bind fun w17 => xg (¬ ((w16.1 60 19) < 0 ∨ 2 ≤ (w16.1 60 19).toNatClampNeg)) (f_X12_must_60 4 (xupd w17.2.1 80 (w16.1 60 19).toNatClampNeg w17.1, w17.2.2)) := by
    unfold f_X12_tellOne_60
    rw [l.2.2.1.1, xg_in (show i < 403 by omega) (by decide), nI_clamp (by omega), r1, hkap, if_neg (show ¬ nI 28 = (20 : Int32) by decide), if_neg (show ¬ nI 28 = (21 : Int32) by decide), if_neg (show ¬ nI 28 = (22 : Int32) by decide), if_neg (show ¬ nI 28 = (23 : Int32) by decide), if_neg (show ¬ nI 28 = (24 : Int32) by decide), if_neg (show ¬ nI 28 = (25 : Int32) by decide), if_neg (show ¬ nI 28 = (26 : Int32) by decide), if_neg (show ¬ nI 28 = (27 : Int32) by decide), if_pos (show nI 28 = (28 : Int32) from rfl)]
    simp only [bs]
  obtain ⟨g1, h1, a1, a2, a3, a4, a5⟩ := p_goes hK l hi21 (by decide)
  have e19' : h1.1 60 19 = nI M := ((a4 60 19 rfl).1).trans e19
  rw [rr, a2, Option.bind_some]
  have cc : ∀ v, (f_X9_valueOf_18 (g1.1 17 5) g1).toInt32 = v → ((f_X3_readSeed_17 g).bind fun w16 => f_X3_take_17 4 w16) = (f_X3_take_17 3 (xupd g1.1 23 13 v, g1.2)).bind fun w => f_X3_take_17 4 w := fun v hv => by
    unfold f_X3_readSeed_17 f_X4_setSeed_23
    rw [show f_X3_take_17 21 g = some g1 from a1, Option.bind_some, xl_e, hv, bs]
  have f2 : ∀ v, xfrm [(23, some 13)] g1 (xupd g1.1 23 13 v, g1.2) := fun v => xfrm.up xfrm.rf rfl
  have f3 : ∀ (w : xG) v, xfrm [(80, none)] w (xupd w.1 80 M v, w.2) := fun w v => xfrm.up xfrm.rf rfl
  rcases a5 with ⟨i4, l1⟩ | ⟨f, j, d1, d2⟩
  · have l2 := l1.ag ((f2 ((V (i + 1)).toInt32)).agr (C := kLc) rfl) xagr.rf
    obtain ⟨y, y1, y2⟩ := r_bounded hK l1
    obtain ⟨g3, h3, b1, b2, b3, b4, b5⟩ := p_take hK l2 (a := 3) (by decide) (by decide)
    have e19'' : h3.1 60 19 = nI M := ((b4 60 19 rfl).1).trans e19'
    rw [cc _ (by rw [l1.2.1.1, (l1.1.2.1 _ l1.1.1).2.2]), show f_X3_take_17 3 (xupd g1.1 23 13 ((V (i + 1)).toInt32), g1.2) = some g3 from b1, Option.bind_some, y1, show f_X12_must_60 2 h1 = some h3 from b2, Option.bind_some, Option.bind_some, e19', xg_in hM (by decide), nI_clamp (by omega)]
    rcases b5 with ⟨k3, i5, l3⟩ | ⟨f, j, d1, d2⟩
    · obtain ⟨g4, h4, c1, c2, c3, c4, c5⟩ := p_take hK (l3.ag xagr.rf ((f3 h3 y).agr (C := kLh) rfl)) (a := 4) (by decide) (by decide)
      rw [show f_X3_take_17 4 g3 = some g4 from c1]
      refine ⟨g4, h4, rfl, c2, (((sdO.fr a4 rfl).tr (sdO.fr b4 rfl)).tr (sdO.m (by omega))).tr (sdO.fr c4 rfl), ?_⟩
      rcases c5 with ⟨k4, i6, l4⟩ | d
      · have fg : xfrm [(17, some 5), (17, some 6), (23, some 13)] g g4 := (((a3.wk (B := [(17, some 5), (17, some 6), (23, some 13)]) rfl).th ((f2 _).wk rfl)).th (b3.wk rfl)).th (c3.wk rfl)
        have fh : xfrm [(60, some 11), (60, some 13), (60, some 14), (80, none)] h h4 := (((a4.wk (B := [(60, some 11), (60, some 13), (60, some 14), (80, none)]) rfl).th (b4.wk rfl)).th ((f3 h3 y).wk rfl)).th (c4.wk rfl)
        have hl := l4.1.1
        refine .inl ⟨i + 1 + 1 + 1, by omega, lf, lt, T, Rn, P, s, br, p, ⟨l4.mono (by omega), n.ag (fg.agr rfl) (fh.agr rfl) id, hR, ((fg 23 10 rfl).1).trans e10⟩, ⟨((fh 70 M rfl).1).trans e70, ((fh 71 M rfl).1).trans e71, ((fh 75 M rfl).1).trans e75, ((fh 60 19 rfl).1).trans e19, hM⟩, ⟨⟨((fg 32 4 rfl).1).trans ez.1, ((fh 60 42 rfl).1).trans ez.2.1, ((fh 60 12 rfl).1).trans ez.2.2⟩, ⟨by omega, bz.2.1, by omega⟩, ((fh 60 36 rfl).1).trans e36, hb1, by omega⟩, fun zz => ?_⟩
        obtain ⟨R, hcnt, c1', c2', c3', c4'⟩ := hc zz
        obtain ⟨dd', ev, hd9, ey⟩ := y2 k3
        have ev' : (V (i + 1)).toInt32 = nI dd' := by rw [ev, lN_i]
        refine ⟨rSetS R (nI dd'), hcnt, ?_, ?_, c3', fun k hk => (c4' k hk).kp (fun q _ => ⟨(fg 33 q rfl).1, (fg 34 q rfl).1⟩) (fun q _ => ⟨(fh 88 q rfl).1, (fh 89 q rfl).1⟩) (fun q _ => ⟨(fh 83 q rfl).1, (fh 84 q rfl).1, (fh 85 q rfl).1, (fh 86 q rfl).1, (fh 87 q rfl).1⟩) (fg 35 k rfl).1 ⟨(fh 81 _ rfl).1, (fh 82 _ rfl).1⟩ (Nat.le_refl _) (Nat.le_refl _) (Nat.le_refl _)⟩
        · obtain ⟨⟨q1, q2, q3, q4, q5⟩, q7, q8⟩ := c1'
          refine ⟨⟨(fg 23 9 rfl).1.trans q1, (fg 23 10 rfl).1.trans q2, (fg 23 11 rfl).1.trans q3, (fg 23 12 rfl).1.trans q4, ?_⟩, fun r hr => ?_, fun p hp => ?_⟩
          · show g4.1 23 13 = nI dd'
            rw [(c3 23 13 rfl).1, (b3 23 13 rfl).1, ← ev']
            show xupd g1.1 23 13 (V (i + 1)).toInt32 23 13 = _
            exact xu_eq
          · obtain ⟨b1, b2, b3⟩ := q7 r hr
            exact ⟨(fg 25 r rfl).1.trans b1, (fg 26 r rfl).1.trans b2, (fg 27 r rfl).1.trans b3⟩
          · obtain ⟨b1, b2, b3⟩ := q8 p hp
            exact ⟨(fg 29 p rfl).1.trans b1, (fg 30 p rfl).1.trans b2, (fg 31 p rfl).1.trans b3⟩
        · obtain ⟨⟨q1, q2, q3, q4, q5⟩, q7, q8⟩ := c2'
          refine ⟨⟨(fh 70 M rfl).1.trans q1, (fh 71 M rfl).1.trans q2, (fh 75 M rfl).1.trans q3, (fh 79 M rfl).1.trans q4, ?_⟩, fun r hr => ?_, fun p hp => ?_⟩
          · rw [(c4 80 M rfl).1, ey]
            show xupd h3.1 80 M (nI dd') 80 M = nI dd'
            exact xu_eq
          · obtain ⟨b1, b2, b3⟩ := q7 r hr
            exact ⟨(fh 72 _ rfl).1.trans b1, (fh 73 _ rfl).1.trans b2, (fh 74 _ rfl).1.trans b3⟩
          · obtain ⟨b1, b2, b3⟩ := q8 p hp
            exact ⟨(fh 76 _ rfl).1.trans b1, (fh 77 _ rfl).1.trans b2, (fh 78 _ rfl).1.trans b3⟩
      · exact .inr d
    · have d3 := d2.ag ((f3 h3 y).agr rfl)
      refine ⟨g3, (xupd h3.1 80 M y, h3.2), cd_take d1 4, rd_must d3 4, ((sdO.fr a4 rfl).tr (sdO.fr b4 rfl)).tr (sdO.m (by omega)), .inr ⟨f, j, d1, d3⟩⟩
  · have d3 := d1.ag ((f2 ((f_X9_valueOf_18 (g1.1 17 5) g1).toInt32)).agr rfl)
    have d4 := d2.ag ((f3 h1 0).agr rfl)
    rw [cc _ rfl, cd_take d3, Option.bind_some, rd_bounded d2, Option.bind_some, e19', xg_in hM (by decide), nI_clamp (by omega)]
    exact ⟨_, (xupd h1.1 80 M 0, h1.2), cd_take d3 4, rd_must d4 4, (sdO.fr a4 rfl).tr (sdO.m (by omega)), .inr ⟨f, j, d3, d4⟩⟩
theorem tell_none (hK : tkK K S E) {M i : Nat} {g h : xG} (z : tl K S V E M i g h) (hk : K i < 13 ∨ 21 < K i) : tlO K S V E M i h (xl (f_X3_stop_17 1 g) fun w18 => f_X3_take_17 4 w18) (f_X12_tellOne_60 h) := by
  obtain ⟨lf, lt, T, Rn, P, s, br, p, ⟨l, n, hR, e10⟩, -, -, -⟩ := z
  obtain ⟨r1, r2, r3⟩ := lv_r l hK
  obtain ⟨g1, h1, a1, a2, a3, a4, a5, a6⟩ := p_fail hK l (f := 1) (.inl rfl)
  have k33 := hK.2.2.2.1 i
  have kk : ∀ k, k ≤ 33 → (k < 13 ∨ 21 < k) → (kap k < 20 ∨ 28 < kap k) ∧ kap k ≤ 40 := by decide +kernel
  obtain ⟨k1, k40⟩ := kk (K i) k33 hk
  have ne : ∀ a, 20 ≤ a → a ≤ 28 → ¬ nI (kap (K i)) = nI a := fun a h1 h2 y => by
    have := (nI_eq (a := kap (K i)) (b := a) (by omega) (by omega)).mp y
    omega
  have c266 : ∀ x, f_X12_tellOne_60_266 x h = some h1 := fun x => by
    unfold f_X12_tellOne_60_266
    rw [show f_X12_fail_60 1 h = some h1 from a2, Option.bind_some, a6.2.1, if_neg (f12_nle a6.1)]
  have c235 : f_X12_tellOne_60_235 h = some h1 := by
    unfold f_X12_tellOne_60_235
    rw [l.2.2.1.1, xg_in (show i < 403 by omega) (by decide), nI_clamp (by omega), r1, c266]
    have ng : ∀ a, a ≤ 40 → (a < 24 ↔ nI a - 24 < (0 : Int32)) := by decide +kernel
    by_cases y : kap (K i) < 24
    · rw [if_pos ((ng _ k40).mp y)]
    · rw [if_neg (fun x => y ((ng _ k40).mpr x)), xg_in' (show i < 403 by omega) (by decide), show (27 : Int32) = nI 27 from rfl, ite_le (by omega) (by decide), if_neg (by omega)]
  refine ⟨g1, h1, ?_, ?_, sdO.fr a4 rfl, .inr ⟨1, i, a5, a6⟩⟩
  · rw [show f_X3_stop_17 1 g = g1 from a1, xl_e, cd_take a5]
  · unfold f_X12_tellOne_60
    rw [l.2.2.1.1, xg_in (show i < 403 by omega) (by decide), nI_clamp (by omega), r1, if_neg (show ¬ nI (kap (K i)) = (20 : Int32) from ne 20 (by decide) (by decide)), if_neg (show ¬ nI (kap (K i)) = (21 : Int32) from ne 21 (by decide) (by decide)), if_neg (show ¬ nI (kap (K i)) = (22 : Int32) from ne 22 (by decide) (by decide)), if_neg (show ¬ nI (kap (K i)) = (23 : Int32) from ne 23 (by decide) (by decide)), if_neg (show ¬ nI (kap (K i)) = (24 : Int32) from ne 24 (by decide) (by decide)), if_neg (show ¬ nI (kap (K i)) = (25 : Int32) from ne 25 (by decide) (by decide)), if_neg (show ¬ nI (kap (K i)) = (26 : Int32) from ne 26 (by decide) (by decide)), if_neg (show ¬ nI (kap (K i)) = (27 : Int32) from ne 27 (by decide) (by decide)), if_neg (show ¬ nI (kap (K i)) = (28 : Int32) from ne 28 (by decide) (by decide)), c235]
end
