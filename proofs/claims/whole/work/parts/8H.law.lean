/-! laws told to both: the whole law -/
section
variable {K S : Nat → Nat} {V : Nat → Int64} {E : Nat}
theorem bindt {α : Type} (o : Option xG) (k : xG → xG) (t : xG → Option α) : ((o.bind fun w9 => xl (k w9) fun w10 => some w10).bind t) = o.bind fun w9 => xl (k w9) fun w10 => t w10 := by cases o <;> rfl
theorem law_fin {m j : Nat} {g : xG} (hj : j ≤ 5) (h : j = 5 ∨ g.1 17 6 ≠ 0 ∨ ∃ x, f_X9_kindAt_18 (g.1 17 5) g = some x ∧ x ≠ 22) : ((f_X3_readLaw_17_26 (m + 1) (nI j) g).bind fun w => f_X3_take_17 4 w) = (f_X3_readSum_17 g).bind fun w9 => xl (f_X2_add_32 0 0 w9) fun w10 => f_X3_take_17 4 w10 := by
  refine Eq.trans ?_ (bindt (f_X3_readSum_17 g) (fun w => f_X2_add_32 0 0 w) (fun w => f_X3_take_17 4 w))
  refine congrArg (fun o : Option xG => o.bind fun w => f_X3_take_17 4 w) ?_
  rw [f_X3_readLaw_17_26]
  rw [show (4 : Int32) = nI 4 from rfl, ite_lt (by decide) (by omega)]
  by_cases h4 : 4 < j
  · rw [if_pos h4]
  · rw [if_neg h4]
    by_cases h6 : g.1 17 6 = 0
    · rw [if_pos h6]
      rcases h with h | h | ⟨x, h1, h2⟩
      · omega
      · exact absurd h6 h
      · rw [h1, Option.bind_some, if_neg h2]
    · rw [if_neg h6]
theorem dead_fin {f i : Nat} {g : xG} (d : dC K S V E f i g) : ∃ g', ((f_X3_readSum_17 g).bind fun w9 => xl (f_X2_add_32 0 0 w9) fun w10 => f_X3_take_17 4 w10) = some g' ∧ xfrm fEc g g' ∧ dC K S V E f i g' := by
  have fc : xfrm [(17, some 4)] g (xupd g.1 17 4 0, g.2) := xfrm.up xfrm.rf rfl
  have d1 := d.ag (fc.agr rfl)
  have w5 : xfrm [(32, some 4), (33, none), (34, none)] (xupd g.1 17 4 0, g.2) (f_X2_add_32 0 0 (xupd g.1 17 4 0, g.2)) := (fr_X2_add_32 _ rfl).wk rfl
  have d2 := d1.ag (w5.agr rfl)
  refine ⟨_, ?_, (fc.wk (B := fEc) rfl).th (w5.wk rfl), d2⟩
  rw [show f_X3_readSum_17 g = some (xupd g.1 17 4 0, g.2) from cs_dead d1 3999 _ _ _, Option.bind_some, xl_e, cd_take d2]
theorem law_run (hK : tkK K S E) {b lf lt pB L k : Nat} {l2 : Int32} (hB : pB ≤ 420) (hL2 : L < 2) (hk : k < 4) : ∀ (r j br : Nat) (C : Nat → Nat → Nat → Prop) (g h : xG), j + r = 4 → LD K S V E b lf lt pB 2 C g h → h.1 60 36 = nI br → br + r + 1 ≤ 260 → h.1 60 19 = nI L → ∀ m q, r + 2 ≤ m → r + 1 ≤ q → ∃ g' h', ((f_X3_readLaw_17_26 m (nI j) g).bind fun w => f_X3_take_17 4 w) = some g' ∧ f_X12_tellLaw_60_12 q (nI k) l2 (nI j) h = some h' ∧ xfrm fEc g g' ∧ xfrm fLr h h' ∧ kpO pB h h' ∧ kpB br (br + r + 1) h h' ∧ kp8 (4 * L + k) h h' ∧ LD K S V E b lf lt pB 2 (lwE C j L k br l2 g h g' h') g' h' := by
  intro r
  induction r with
  | zero =>
    intro j br C g h hj z hb hbr hL m q hm hq
    obtain ⟨m', rfl⟩ : ∃ m', m = m' + 1 + 1 := ⟨m - 2, by omega⟩
    obtain ⟨q', rfl⟩ : ∃ q', q = q' + 1 := ⟨q - 1, by omega⟩
    by_cases h22 : ∃ i, lv K S V E i b lf lt g h ∧ K i = 22
    · obtain ⟨i, l, h22⟩ := h22
      obtain ⟨g1, h1, a1, a2, a3, a4, a5, a6⟩ := p_fail hK l (f := 2) (.inr rfl)
      obtain ⟨g2, b1, b2, b3⟩ := dead_fin a5
      have kg := (l.1.2.1 i l.1.1).1
      refine ⟨g2, h1, ?_, ?_, (a3.wk (B := fEc) rfl).th b2, a4.wk rfl, kpO.fr a4 rfl, kpB.fr a4 rfl, kp8.fr a4 rfl, .inr ⟨2, i, b3, a6⟩⟩
      · rw [f_X3_readLaw_17_26]
        rw [if_neg (show ¬ (4 : Int32) < nI j from nI_nlt (a := 4) (by omega) (by decide)), l.2.1.2.1, if_pos rfl, l.2.1.1, kg, Option.bind_some, h22, if_pos (show nI 22 = (22 : Int32) from rfl), show j = 4 by omega, if_pos (show nI 4 = (4 : Int32) from rfl), show f_X3_stop_17 2 g = g1 from a1, xl_e, nI_1, law_fin (j := 4 + 1) (by decide) (.inl rfl), b1]
      · rw [f_X12_tellLaw_60_12]
        rw [l.2.2.1.2.1, if_pos rfl, show f_X12_is_60 29 h = _ from r_is hK l (a := 22) (by decide), if_pos h22, Option.bind_some, if_neg (show ¬ (1 : Int32) = 0 by decide), show j = 4 by omega, if_pos (show nI 4 = (4 : Int32) from rfl), show f_X12_fail_60 2 h = some h1 from a2, Option.bind_some]
        unfold f_X12_tellLaw_60_38
        rw [a6.2.1, if_neg (f12_nle a6.1)]
    · obtain ⟨g', h', c1, c2, c3, c4, c5, c6, c7, c8⟩ := s_fin (l2 := l2) hK z hB hb (by omega) hL hL2 hk (show j ≤ 4 by omega)
      refine ⟨g', h', ?_, ?_, c3, c4, c5, c6, c7, c8⟩
      · rw [law_fin (by omega) ?_, c1]
        rcases z with ⟨i, s, p, l, -⟩ | ⟨f, i, d1, d2⟩
        · have k33 := hK.2.2.2.1 i
          refine .inr (.inr ⟨nI (K i), by rw [l.2.1.1]; exact (l.1.2.1 i l.1.1).1, fun y => h22 ⟨i, l, (nI_eq (b := 22) (by omega) (by decide)).mp y⟩⟩)
        · exact .inr (.inl (by rw [d1.2.2.2.2]; exact f12_ne d1.1))
      · rw [f_X12_tellLaw_60_12]
        rcases z with ⟨i, s, p, l, -⟩ | ⟨f, i, d1, d2⟩
        · rw [l.2.2.1.2.1, if_pos rfl, show f_X12_is_60 29 h = _ from r_is hK l (a := 22) (by decide), if_neg (fun y => h22 ⟨i, l, y⟩), Option.bind_some, if_pos rfl, c2]
        · rw [d2.2.1, if_neg (f12_ne d2.1), c2]
  | succ r ih =>
    intro j br C g h hj z hb hbr hL m q hm hq
    obtain ⟨m', rfl⟩ : ∃ m', m = m' + 1 := ⟨m - 1, by omega⟩
    obtain ⟨q', rfl⟩ : ∃ q', q = q' + 1 := ⟨q - 1, by omega⟩
    by_cases h22 : ∃ i s p, (lv K S V E i b lf lt g h ∧ (g.1 32 4 = nI s ∧ h.1 60 42 = nI p ∧ h.1 60 12 = nI 0) ∧ (s + 2 ≤ 8 + i ∧ pB ≤ p ∧ p ≤ pB + i) ∧ C i s p) ∧ K i = 22
    · obtain ⟨i, s, p, ⟨l, ez, bz, hC⟩, h22⟩ := h22
      obtain ⟨g1, h1, a1, a2, a3, a4, a5, a6, a7, z1⟩ := s_if hK l ez bz h22 hB hb (by omega)
      have kg := (l.1.2.1 i l.1.1).1
      obtain ⟨g2, h2, b1, b2, b3, b4, b5, b6, b7, b8⟩ := ih (j + 1) (br + 1) _ g1 h1 (by omega) z1 a6 (by omega) (((a4 60 19 rfl).1).trans hL) m' q' (by omega) (by omega)
      refine ⟨g2, h2, ?_, ?_, a3.th b3, (a4.wk (B := fLr) rfl).th b4, a5.tr b5, fun q hq => ?_, (kp8.fr a4 rfl).tr b7, b8.mono fun i' s' p' hc => ?_⟩
      · rw [f_X3_readLaw_17_26]
        rw [if_neg (show ¬ (4 : Int32) < nI j from nI_nlt (a := 4) (by omega) (by decide)), l.2.1.2.1, if_pos rfl, l.2.1.1, kg, Option.bind_some, h22, if_pos (show nI 22 = (22 : Int32) from rfl), if_neg (show ¬ nI j = (4 : Int32) from fun y => by have := (nI_eq (b := 4) (by omega) (by decide)).mp y; omega), a1, Option.bind_some, nI_1, b1]
      · rw [f_X12_tellLaw_60_12]
        rw [l.2.2.1.2.1, if_pos rfl, show f_X12_is_60 29 h = _ from r_is hK l (a := 22) (by decide), if_pos h22, Option.bind_some, if_neg (show ¬ (1 : Int32) = 0 by decide), if_neg (show ¬ nI j = (4 : Int32) from fun y => by have := (nI_eq (b := 4) (by omega) (by decide)).mp y; omega), a2, nI_1, b2]
      · obtain ⟨y1, y2, y3, y4, y5⟩ := a7 q (by omega)
        obtain ⟨x1, x2, x3, x4, x5⟩ := b6 q (by omega)
        exact ⟨x1.trans y1, x2.trans y2, x3.trans y3, x4.trans y4, x5.trans y5⟩
      · obtain ⟨i1, s1, p1, bs, e, ⟨x, y, t, i7, ⟨m1, m2, m3⟩, hs1, hp1, hC1, hR1, kc, kr⟩, n1, n2, n3, n4, n5, n6, n7, n8, n9, n10, n11, n12⟩ := hc
        refine ⟨i, s, p, (x, y, t) :: bs, e, hC, ?_, by omega, by omega, ⟨fun q hq => ?_, n4.2⟩, ?_, ?_, fun w hw => ?_, fun w hw1 hw2 => ?_, kc.tr n9 (by omega), kr.tr n10 (by omega), n11, ?_⟩
        · rw [List.length_cons]; omega
        · rcases List.mem_cons.mp hq with rfl | hq
          · exact ⟨m1, m2, m3⟩
          · exact n4.1 q hq
        · rw [List.length_cons]; omega
        · rw [n6, List.length_cons]
          congr 1
          omega
        · obtain ⟨q1, q2, ⟨q3, q4, q5⟩, q6, q7, q8⟩ := hC1
          have up : ∀ q, s ≤ q → q < s1 → w.1 33 q = g1.1 33 q ∧ w.1 34 q = g1.1 34 q := fun q h1 h2 => ⟨((hw q h1 (by omega)).1).trans (n9 q h2).1, ((hw q h1 (by omega)).2).trans (n9 q h2).2⟩
          refine ⟨sgC_up (g := dw g1) (fun q h1 h2 => up q (by omega) (by omega)) q1, sgC_up (g := dw g1) (fun q h1 h2 => up q (by omega) (by omega)) q2, ⟨q3, ?_, ?_⟩, sgC_up (g := dw g1) (fun q h1 h2 => up q (by omega) (by omega)) q6, ⟨q7, ?_⟩, ?_⟩
          · exact ((up _ (by omega) (by omega)).1).trans q4
          · exact ((up _ (by omega) (by omega)).2).trans q5
          · exact ((up _ (by omega) (by omega)).1).trans q8
          · rw [← hs1]
            exact n7 w fun q h1 h2 => hw q (by omega) h2
        · obtain ⟨q1, q2, q3, q4, q5, q6, q7, q8, q9⟩ := hR1
          have e0 : ∀ q, p ≤ q → q < p1 → w.1 88 q = h1.1 88 q ∧ w.1 89 q = h1.1 89 q := fun q x1 x2 => ⟨((hw2 q x1 (by omega)).1).trans (n10 q x2).1, ((hw2 q x1 (by omega)).2).trans (n10 q x2).2⟩
          obtain ⟨y1, y2, y3, y4, y5⟩ := hw1 br (Nat.le_refl _) (by omega)
          obtain ⟨x1, x2, x3, x4, x5⟩ := b6 br (by omega)
          refine ⟨⟨(y1.trans x1).trans q1, p, (y2.trans x2).trans q2, (y3.trans x3).trans q3, (y4.trans x4).trans q4, (y5.trans x5).trans q5, sgR_up (fun q h1 h2 => e0 q (by omega) (by omega)) q6, sgR_up (fun q h1 h2 => e0 q (by omega) (by omega)) q7, sgR_up (fun q h1 h2 => e0 q (by omega) (by omega)) q8, q9⟩, ?_⟩
          exact n8 w (fun q h1 h2 => hw1 q (by omega) (by rw [List.length_cons]; omega)) fun q h1 h2 => hw2 q (by omega) h2
        · rw [n12, List.length_cons]
          congr 1
          omega
    · obtain ⟨g', h', c1, c2, c3, c4, c5, c6, c7, c8⟩ := s_fin (l2 := l2) hK z hB hb (by omega) hL hL2 hk (show j ≤ 4 by omega)
      refine ⟨g', h', ?_, ?_, c3, c4, c5, fun q hq => c6 q (by omega), c7, c8⟩
      · rw [law_fin (by omega) ?_, c1]
        rcases z with ⟨i, s, p, l, zz⟩ | ⟨f, i, d1, d2⟩
        · have k33 := hK.2.2.2.1 i
          refine .inr (.inr ⟨nI (K i), by rw [l.2.1.1]; exact (l.1.2.1 i l.1.1).1, fun y => h22 ⟨i, s, p, ⟨l, zz⟩, (nI_eq (b := 22) (by omega) (by decide)).mp y⟩⟩)
        · exact .inr (.inl (by rw [d1.2.2.2.2]; exact f12_ne d1.1))
      · rw [f_X12_tellLaw_60_12]
        rcases z with ⟨i, s, p, l, zz⟩ | ⟨f, i, d1, d2⟩
        · rw [l.2.2.1.2.1, if_pos rfl, show f_X12_is_60 29 h = _ from r_is hK l (a := 22) (by decide), if_neg (fun y => h22 ⟨i, s, p, ⟨l, zz⟩, y⟩), Option.bind_some, if_pos rfl, c2]
        · rw [d2.2.1, if_neg (f12_ne d2.1), c2]
theorem p_law (hK : tkK K S E) {b lf lt pB L k br i s p : Nat} {g h : xG} (hB : pB ≤ 420) (hL2 : L < 2) (hk : k < 4) (l : lv K S V E i b lf lt g h) (ez : g.1 32 4 = nI s ∧ h.1 60 42 = nI p ∧ h.1 60 12 = nI 0) (bz : s ≤ 8 + i ∧ pB ≤ p ∧ p ≤ pB + i) (hk17 : K i = 17 + k) (hb : h.1 60 36 = nI br) (hbr : br + 5 ≤ 260) (hL : h.1 60 19 = nI L) : ∃ g' h', ((f_X3_readLaw_17 (nI (17 + k)) g).bind fun w14 => f_X3_take_17 4 w14) = some g' ∧ ((f_X12_goesOn_60 h).bind fun w14 => f_X12_tellLaw_60 (nI k) w14) = some h' ∧ xfrm (fEc ++ [(35, none)]) g g' ∧ xfrm fLr h h' ∧ kpO pB h h' ∧ kpB br (br + 5) h h' ∧ kp8 (4 * L + k) h h' ∧ (∀ q, q ≠ k → g'.1 35 q = g.1 35 q) ∧ LD K S V E b lf lt pB 0 (fun i' s' p' => ∃ bs e, i + 7 * bs.length + 4 ≤ i' ∧ s ≤ s' ∧ p ≤ p' ∧ lOK (bs, e) ∧ bs.length ≤ 4 ∧ h'.1 60 36 = nI (br + bs.length + 1) ∧ BC s s' bs e g' ∧ BR p p' br bs e h' ∧ kpC s g g' ∧ kpR p h h' ∧ g'.1 35 k = nI s ∧ h'.1 81 (4 * L + k) = nI br ∧ h'.1 82 (4 * L + k) = nI (br + bs.length + 1)) g' h' := by
  obtain ⟨g1, h1, a1, a2, a3, a4, a5⟩ := p_goes hK l hk17 (by omega)
  have zA : LD K S V E b lf lt pB 1 (fun i' s' p' => i' = i + 1 ∧ s' = s ∧ p' = p) g1 h1 := by
    rcases a5 with ⟨i4, l'⟩ | d
    · exact .inl ⟨i + 1, s, p, l', ⟨((a3 32 4 rfl).1).trans ez.1, ((a4 60 42 rfl).1).trans ez.2.1, ((a4 60 12 rfl).1).trans ez.2.2⟩, ⟨by omega, bz.2.1, by omega⟩, rfl, rfl, rfl⟩
    · exact .inr d
  obtain ⟨g2, h2, b1, b2, b3, b4, zB⟩ := s_take hK zA (a := 5) (by decide) (by decide)
  have f3 : xfrm [(35, none)] g2 (xupd g2.1 35 k (g2.1 32 4), g2.2) := xfrm.up xfrm.rf rfl
  have zC := (zB.szs).ag (h' := h2) (f3.agr (C := (32, some 4) :: kLc) rfl) xagr.rf
  have h36 : h2.1 60 36 = nI br := ((b4 60 36 rfl).1).trans (((a4 60 36 rfl).1).trans hb)
  obtain ⟨g4, h4, c1, c2, c3, c4, c5, c6, c7, c8⟩ := law_run (l2 := nI br) hK hB hL2 hk 4 0 br _ _ h2 (by decide) zC h36 (by omega) (((b4 60 19 rfl).1).trans (((a4 60 19 rfl).1).trans hL)) 4000 4000 (by decide) (by decide)
  refine ⟨g4, h4, ?_, ?_, (((a3.wk (B := fEc ++ [(35, none)]) rfl).th (b3.wk rfl)).th (f3.wk rfl)).th (c3.wk rfl), ((a4.wk (B := fLr) rfl).th (b4.wk rfl)).th c4, ((kpO.fr a4 rfl).tr (kpO.fr b4 rfl)).tr c5, ?_, ((kp8.fr a4 rfl).tr (kp8.fr b4 rfl)).tr c7, fun q hq => ?_, (c8.wk (n := 0) (by decide)).mono fun i' s' p' hc => ?_⟩
  · unfold f_X3_readLaw_17
    rw [a1, Option.bind_some, show f_X3_take_17 5 g1 = some g2 from b1, Option.bind_some, xl_e]
    unfold f_X2_begin_32
    rw [show nI (17 + k) - 17 = nI k from by
      have := pk_sub (a := 17 + k) (b := 17) (by omega)
      rw [show 17 + k - 17 = k by omega] at this
      exact this, xl_e, xput_in hk (by decide)]
    exact c1
  · unfold f_X12_tellLaw_60
    rw [a2, Option.bind_some, show f_X12_must_60 5 h1 = some h2 from b2, Option.bind_some, h36]
    exact c2
  · have rr := Nat.le_refl
    exact ((kpB.fr (b := br) (e := br + 5) a4 rfl).tr (kpB.fr (b := br) (e := br + 5) b4 rfl) (rr _) (rr _)).tr c6 (rr _) (rr _)
  · rw [(c3 35 q rfl).1]
    show xupd g2.1 35 k (g2.1 32 4) 35 q = _
    rw [xu_ne hq, (b3 35 q rfl).1, (a3 35 q rfl).1]
  · obtain ⟨i1, s1, p1, bs, e, ⟨⟨i2, rfl, -, rfl, rfl, rfl⟩, e32, -⟩, n1, n2, n3, n4, n5, n6, n7, n8, n9, n10, n11, n12⟩ := hc
    refine ⟨bs, e, by omega, n2, n3, n4, by omega, n6, n7, n8, ((((kpC.fr (s := s1) a3 rfl).tr (kpC.fr (s := s1) b3 rfl) (Nat.le_refl _)).tr (kpC.fr (s := s1) f3 rfl) (Nat.le_refl _)).tr n9 (Nat.le_refl _)), ((kpR.fr (s := p1) a4 rfl).tr (kpR.fr (s := p1) b4 rfl) (Nat.le_refl _)).tr n10 (Nat.le_refl _), ?_, n11, n12⟩
    rw [(c3 35 k rfl).1]
    show xupd g2.1 35 k (g2.1 32 4) 35 k = _
    rw [xu_eq, e32]
end
