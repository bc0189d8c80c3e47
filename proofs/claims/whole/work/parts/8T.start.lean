/-! both begin to be told: the plain draft -/
theorem xl_n {α β : Type} (a : α) (k : α → β) : xl a k = k a := Eq.trans (xl_e a k) rfl
theorem c_plain1 {g : xG} {k : Nat} {x : Int32} (hk : k < 4) (hx : x = nI k) (e4 : g.1 32 4 = nI (2 * k)) (a b : Int32) : ∃ w, f_X2_add_32 0 0 (f_X2_add_32 a b (f_X2_begin_32 x g)) = w ∧ w.1 32 4 = nI (2 * (k + 1)) ∧ (∀ j, w.1 35 j = if j = k then nI (2 * k) else g.1 35 j) ∧ (∀ j, w.1 33 j = if j = 2 * k then a else if j = 2 * k + 1 then 0 else g.1 33 j) ∧ (∀ j, w.1 34 j = if j = 2 * k then b else if j = 2 * k + 1 then 0 else g.1 34 j) ∧ xfrm [(32, some 4), (33, none), (34, none), (35, none)] g w := by
  have f0 : xfrm [(32, some 4), (33, none), (34, none), (35, none)] g (xupd g.1 35 k (nI (2 * k)), g.2) := xfrm.up xfrm.rf rfl
  have e0 : f_X2_begin_32 x g = (xupd g.1 35 k (nI (2 * k)), g.2) := by
    rw [hx]
    unfold f_X2_begin_32
    rw [xl_e, e4, xput_in hk (by decide)]
  obtain ⟨w1, a1, a2, a3, a4, a5⟩ := c_emit (g := (xupd g.1 35 k (nI (2 * k)), g.2)) (z := 2 * k) (by omega) (by
    show xupd g.1 35 k (nI (2 * k)) 32 4 = _
    rw [xu_q (by decide), e4]) a b
  obtain ⟨w2, b1, b2, b3, b4, b5⟩ := c_emit (g := w1) (z := 2 * k + 1) (by omega) a2 0 0
  refine ⟨w2, by rw [e0, a1, b1], b2, fun j => ?_, fun j => ?_, fun j => ?_, (f0.th (a5.wk rfl)).th (b5.wk rfl)⟩
  · rw [(b5 35 j rfl).1, (a5 35 j rfl).1]
    show xupd g.1 35 k (nI (2 * k)) 35 j = _
    rw [xu_at]
    simp only [true_and]
  · rw [b3, a3]
    show (if j = 2 * k + 1 then 0 else if j = 2 * k then a else xupd g.1 35 k (nI (2 * k)) 33 j) = _
    rw [xu_q (by decide)]
    by_cases z : j = 2 * k
    · rw [if_neg (by omega), if_pos z, if_pos z]
    · rw [if_neg z, if_neg z]
  · rw [b4, a4]
    show (if j = 2 * k + 1 then 0 else if j = 2 * k then b else xupd g.1 35 k (nI (2 * k)) 34 j) = _
    rw [xu_q (by decide)]
    by_cases z : j = 2 * k
    · rw [if_neg (by omega), if_pos z, if_pos z]
    · rw [if_neg z, if_neg z]
theorem c_plain (g : xG) : ∃ w, f_X2_clear_32 g = w ∧ w.1 32 4 = nI 8 ∧ (∀ k, k < 4 → w.1 35 k = nI (2 * k) ∧ BC (2 * k) (2 * k + 2) (lDef k).1 (lDef k).2 w) ∧ xfrm [(32, some 4), (33, none), (34, none), (35, none)] g w := by
  have f0 : xfrm [(32, some 4), (33, none), (34, none), (35, none)] g (xupd g.1 32 4 0, g.2) := xfrm.up xfrm.rf rfl
  obtain ⟨w0, a1, a2, a3, a4, a5, a6⟩ := c_plain1 (g := (xupd g.1 32 4 0, g.2)) (k := 0) (x := 0) (by decide) rfl (by show xupd g.1 32 4 0 32 4 = nI (2 * 0); rw [xu_eq, Nat.mul_zero]; rfl) 2 0
  obtain ⟨w1, b1, b2, b3, b4, b5, b6⟩ := c_plain1 (g := w0) (k := 1) (x := 1) (by decide) rfl a2 2 0
  obtain ⟨w2, c1, c2, c3, c4, c5, c6⟩ := c_plain1 (g := w1) (k := 2) (x := 2) (by decide) rfl b2 1 1
  obtain ⟨w3, d1, d2, d3, d4, d5, d6⟩ := c_plain1 (g := w2) (k := 3) (x := 3) (by decide) rfl c2 1 0
  have e : f_X2_clear_32 g = w3 := by
    unfold f_X2_clear_32
    simp only [xl_n]
    rw [a1, b1, c1, d1]
  have law : ∀ k (x y : Int32), k < 4 → (∃ m, (lDef k) = ([], [(m, y)]) ∧ m < 2 ∧ nI (cStp m) = x) → w3.1 33 (2 * k) = x → w3.1 34 (2 * k) = y → w3.1 33 (2 * k + 1) = 0 → BC (2 * k) (2 * k + 2) (lDef k).1 (lDef k).2 w3 := by
    rintro k x y hk ⟨m, hm, hm2, hm3⟩ h1 h2 h3 v hv
    rw [hm]
    refine ⟨⟨⟨by omega, ?_, fun _ => ?_⟩, trivial⟩, ?_, ?_⟩
    · show v.1 33 (2 * k) = _
      rw [(hv _ (Nat.le_refl _) (by omega)).1, h1, hm3]
    · show v.1 34 (2 * k) = _
      rw [(hv _ (Nat.le_refl _) (by omega)).2, h2]
    · show 2 * k + 1 < 408
      omega
    · show v.1 33 (2 * k + 1) = _
      rw [(hv _ (by omega) (by omega)).1, h3]
      rfl
  refine ⟨w3, e, d2, fun k hk => ?_, (((f0.th a6).th b6).th c6).th d6⟩
  have c4' : k = 0 ∨ k = 1 ∨ k = 2 ∨ k = 3 := by omega
  rcases c4' with rfl | rfl | rfl | rfl
  · exact ⟨by rw [d3, if_neg (by decide), c3, if_neg (by decide), b3, if_neg (by decide), a3, if_pos rfl], law 0 2 0 hk ⟨1, rfl, by decide, rfl⟩ (by rw [d4, if_neg (by decide), if_neg (by decide), c4, if_neg (by decide), if_neg (by decide), b4, if_neg (by decide), if_neg (by decide), a4, if_pos rfl]) (by rw [d5, if_neg (by decide), if_neg (by decide), c5, if_neg (by decide), if_neg (by decide), b5, if_neg (by decide), if_neg (by decide), a5, if_pos rfl]) (by rw [d4, if_neg (by decide), if_neg (by decide), c4, if_neg (by decide), if_neg (by decide), b4, if_neg (by decide), if_neg (by decide), a4, if_neg (by decide), if_pos rfl])⟩
  · exact ⟨by rw [d3, if_neg (by decide), c3, if_neg (by decide), b3, if_pos rfl], law 1 2 0 hk ⟨1, rfl, by decide, rfl⟩ (by rw [d4, if_neg (by decide), if_neg (by decide), c4, if_neg (by decide), if_neg (by decide), b4, if_pos rfl]) (by rw [d5, if_neg (by decide), if_neg (by decide), c5, if_neg (by decide), if_neg (by decide), b5, if_pos rfl]) (by rw [d4, if_neg (by decide), if_neg (by decide), c4, if_neg (by decide), if_neg (by decide), b4, if_neg (by decide), if_pos rfl])⟩
  · exact ⟨by rw [d3, if_neg (by decide), c3, if_pos rfl], law 2 1 1 hk ⟨0, rfl, by decide, rfl⟩ (by rw [d4, if_neg (by decide), if_neg (by decide), c4, if_pos rfl]) (by rw [d5, if_neg (by decide), if_neg (by decide), c5, if_pos rfl]) (by rw [d4, if_neg (by decide), if_neg (by decide), c4, if_neg (by decide), if_pos rfl])⟩
  · exact ⟨by rw [d3, if_pos rfl], law 3 1 0 hk ⟨0, rfl, by decide, rfl⟩ (by rw [d4, if_pos rfl]) (by rw [d5, if_pos rfl]) (by rw [d4, if_neg (by decide), if_pos rfl])⟩
theorem r_plain {h : xG} {M : Nat} (hM : M < 2) : ∃ w, f_X12_plain_60 (nI M) h = some w ∧ sdO M h w ∧ xfrm [(70, none), (71, none), (75, none), (79, none), (80, none), (81, none), (82, none)] h w ∧ (w.1 70 M = 0 ∧ w.1 71 M = 0 ∧ w.1 75 M = 0 ∧ w.1 79 M = 0 ∧ w.1 80 M = 0) ∧ ∀ k, k < 4 → w.1 81 (4 * M + k) = 0 ∧ w.1 82 (4 * M + k) = 0 := by
  unfold f_X12_plain_60
  rw [xg_in hM (by decide), xg_in hM (by decide), xg_in hM (by decide), xg_in hM (by decide), xg_in hM (by decide), nI_clamp (show M < 2 ^ 31 by omega)]
  have s0 : sdO M h (xupd (xupd (xupd (xupd (xupd h.1 70 M 0) 71 M 0) 75 M 0) 79 M 0) 80 M 0, h.2) := ((((sdO.m (c := 70) (by omega)).tr (sdO.m (c := 71) (by omega))).tr (sdO.m (c := 75) (by omega))).tr (sdO.m (c := 79) (by omega))).tr (sdO.m (c := 80) (by omega))
  have f0 : xfrm [(70, none), (71, none), (75, none), (79, none), (80, none), (81, none), (82, none)] h (xupd (xupd (xupd (xupd (xupd h.1 70 M 0) 71 M 0) 75 M 0) 79 M 0) 80 M 0, h.2) := xfrm.up (xfrm.up (xfrm.up (xfrm.up (xfrm.up xfrm.rf rfl) rfl) rfl) rfl) rfl
  have v0 : (xupd (xupd (xupd (xupd (xupd h.1 70 M 0) 71 M 0) 75 M 0) 79 M 0) 80 M 0) 70 M = 0 ∧ (xupd (xupd (xupd (xupd (xupd h.1 70 M 0) 71 M 0) 75 M 0) 79 M 0) 80 M 0) 71 M = 0 ∧ (xupd (xupd (xupd (xupd (xupd h.1 70 M 0) 71 M 0) 75 M 0) 79 M 0) 80 M 0) 75 M = 0 ∧ (xupd (xupd (xupd (xupd (xupd h.1 70 M 0) 71 M 0) 75 M 0) 79 M 0) 80 M 0) 79 M = 0 ∧ (xupd (xupd (xupd (xupd (xupd h.1 70 M 0) 71 M 0) 75 M 0) 79 M 0) 80 M 0) 80 M = 0 := by
    refine ⟨?_, ?_, ?_, ?_, xu_eq⟩
    · rw [xu_q (by decide), xu_q (by decide), xu_q (by decide), xu_q (by decide), xu_eq]
    · rw [xu_q (by decide), xu_q (by decide), xu_q (by decide), xu_eq]
    · rw [xu_q (by decide), xu_q (by decide), xu_eq]
    · rw [xu_q (by decide), xu_eq]
  generalize (xupd (xupd (xupd (xupd (xupd h.1 70 M 0) 71 M 0) 75 M 0) 79 M 0) 80 M 0) = I at s0 f0 v0
  obtain ⟨v1, v2, v3, v4, v5⟩ := v0
  refine lp (fun m k (w : xG) => f_X12_plain_60_37 m (nI M) k w) (fun l w => xfrm [(81, none), (82, none)] (I, h.2) w ∧ ∀ q, (w.1 81 q = if 4 * M ≤ q ∧ q < 4 * M + l then 0 else I 81 q) ∧ (w.1 82 q = if 4 * M ≤ q ∧ q < 4 * M + l then 0 else I 82 q)) 4 (fun o => ∃ w, o = some w ∧ sdO M h w ∧ xfrm [(70, none), (71, none), (75, none), (79, none), (80, none), (81, none), (82, none)] h w ∧ (w.1 70 M = 0 ∧ w.1 71 M = 0 ∧ w.1 75 M = 0 ∧ w.1 79 M = 0 ∧ w.1 80 M = 0) ∧ ∀ k, k < 4 → w.1 81 (4 * M + k) = 0 ∧ w.1 82 (4 * M + k) = 0) ?_ ?_ xN 0 _ (Nat.zero_le _) (by decide) ⟨xfrm.rf, fun q => ⟨by rw [if_neg (by omega)], by rw [if_neg (by omega)]⟩⟩
  · rintro m l w hl ⟨f, e⟩
    refine .inl ?_
    simp only [f_X12_plain_60_37]
    rw [if_neg (show ¬ (4 : Int32) ≤ nI l from nI_ge (b := 4) hl (by decide)), i4, xg_in (show 4 * M + l < 8 by omega) (by decide), xg_in (show 4 * M + l < 8 by omega) (by decide), nI_clamp (by omega), nI_1]
    refine ⟨_, rfl, xfrm.up (xfrm.up f rfl) rfl, fun q => ⟨?_, ?_⟩⟩
    · show xupd (xupd w.1 81 (4 * M + l) 0) 82 (4 * M + l) 0 81 q = _
      rw [xu_q (by decide), xu_at]
      by_cases z : q = 4 * M + l
      · rw [if_pos ⟨rfl, z⟩, if_pos (by omega)]
      · rw [if_neg (fun y => z y.2), (e q).1]
        by_cases z2 : 4 * M ≤ q ∧ q < 4 * M + l
        · rw [if_pos z2, if_pos (by omega)]
        · rw [if_neg z2, if_neg (by omega)]
    · show xupd (xupd w.1 81 (4 * M + l) 0) 82 (4 * M + l) 0 82 q = _
      rw [xu_at]
      by_cases z : q = 4 * M + l
      · rw [if_pos ⟨rfl, z⟩, if_pos (by omega)]
      · rw [if_neg (fun y => z y.2), xu_q (by decide), (e q).2]
        by_cases z2 : 4 * M ≤ q ∧ q < 4 * M + l
        · rw [if_pos z2, if_pos (by omega)]
        · rw [if_neg z2, if_neg (by omega)]
  · rintro m w ⟨f, e⟩
    simp only [f_X12_plain_60_37]
    rw [if_pos (show (4 : Int32) ≤ nI 4 by decide)]
    refine ⟨w, rfl, s0.tr ?_, f0.th (f.wk rfl), ⟨((f 70 M rfl).1).trans v1, ((f 71 M rfl).1).trans v2, ((f 75 M rfl).1).trans v3, ((f 79 M rfl).1).trans v4, ((f 80 M rfl).1).trans v5⟩, fun k hk => ⟨by rw [(e _).1, if_pos (by omega)], by rw [(e _).2, if_pos (by omega)]⟩⟩
    have f' : xfrm [(81, none), (82, none)] (I, h.2) w := f
    exact ⟨fun q _ => ⟨(f 70 q rfl).1, (f 71 q rfl).1, (f 75 q rfl).1, (f 79 q rfl).1, (f 80 q rfl).1⟩, fun q _ => ⟨(f 72 q rfl).1, (f 73 q rfl).1, (f 74 q rfl).1⟩, fun q _ => ⟨(f 76 q rfl).1, (f 77 q rfl).1, (f 78 q rfl).1⟩, fun q hq => ⟨by rw [(e q).1, if_neg (by omega)], by rw [(e q).2, if_neg (by omega)]⟩, fun q _ => ⟨(f 83 q rfl).1, (f 84 q rfl).1, (f 85 q rfl).1, (f 86 q rfl).1, (f 87 q rfl).1⟩, fun q _ => ⟨(f 88 q rfl).1, (f 89 q rfl).1⟩⟩
/-- the realm that nothing was told of -/
def rNil : pR := ((0, 0, 0, 0), ((fun _ => 0), (fun _ => 0), (fun _ => 0)), ((fun _ => 0), (fun _ => 0), (fun _ => 0)), 0, lDef)
theorem rNil_ok : rOK rNil := by
  refine ⟨⟨by decide, by decide, by decide, by decide⟩, fun h => absurd h (by decide), fun r hr => absurd hr (Nat.not_lt_zero r), fun r hr => absurd hr (Nat.not_lt_zero r), fun k hk => ?_⟩
  show lOK (lDef k)
  have c4' : k = 0 ∨ k = 1 ∨ k = 2 ∨ k = 3 := by omega
  rcases c4' with rfl | rfl | rfl | rfl <;> exact ⟨fun q hq => absurd hq List.not_mem_nil, by decide⟩
section
variable {K S : Nat → Nat} {V : Nat → Int64} {E : Nat}
theorem tl_init (hK : tkK K S E) {L : Nat} {g h : xG} (tc : tkC K S V E g) (th : tkH K S V E h) (hL : L < 2) (e18 : h.1 60 18 = nI L) : ∃ g1 h1, (xupd (xupd (xupd (f_X4_clear_23 g).1 17 5 0) 17 6 0) 17 7 0, (f_X4_clear_23 g).2) = g1 ∧ rdT h = f_X12_read_60_112 xN h1 ∧ sdO (1 - L) h h1 ∧ xfrm [(60, some 11), (60, some 12), (60, some 13), (60, some 15), (60, some 19), (60, some 20), (60, some 36), (60, some 42), (70, none), (71, none), (75, none), (79, none), (80, none), (81, none), (82, none)] h h1 ∧ tl K S V E (1 - L) 0 g1 h1 := by
  obtain ⟨w, a1, a2, a3, a4⟩ := c_plain (xupd (xupd (xupd (xupd (xupd g.1 23 9 0) 23 10 0) 23 11 0) 23 12 0) 23 13 0, g.2)
  have ec : f_X4_clear_23 g = w := by
    unfold f_X4_clear_23
    rw [xl_e, a1]
  have hML : (1 : Int32) - nI L = nI (1 - L) := by
    have : L = 0 ∨ L = 1 := by omega
    rcases this with rfl | rfl <;> rfl
  obtain ⟨M, hMd⟩ : ∃ M, M = 1 - L := ⟨_, rfl⟩
  rw [← hMd] at hML ⊢
  have hM : M < 2 := by omega
  obtain ⟨v, b1, b2, b3, ⟨b4, b5, b6, b7, b8⟩, b9⟩ := r_plain (M := M) (h := (xupd (xupd (xupd (xupd (xupd (xupd h.1 60 11 0) 60 12 0) 60 13 0) 60 15 0) 60 19 (nI M)) 60 20 0, h.2)) hM
  have fc : xfrm [(17, some 5), (17, some 6), (17, some 7), (23, none), (32, some 4), (33, none), (34, none), (35, none)] g (xupd (xupd (xupd w.1 17 5 0) 17 6 0) 17 7 0, w.2) := by
    have q0 : xfrm [(17, some 5), (17, some 6), (17, some 7), (23, none), (32, some 4), (33, none), (34, none), (35, none)] g (xupd (xupd (xupd (xupd (xupd g.1 23 9 0) 23 10 0) 23 11 0) 23 12 0) 23 13 0, g.2) := xfrm.up (xfrm.up (xfrm.up (xfrm.up (xfrm.up xfrm.rf rfl) rfl) rfl) rfl) rfl
    exact xfrm.up (xfrm.up (xfrm.up (q0.th (a4.wk rfl)) rfl) rfl) rfl
  have fr : xfrm [(60, some 11), (60, some 12), (60, some 13), (60, some 15), (60, some 19), (60, some 20), (60, some 36), (60, some 42), (70, none), (71, none), (75, none), (79, none), (80, none), (81, none), (82, none)] h (xupd (xupd v.1 60 36 (nI (130 * M))) 60 42 (nI (420 * M)), v.2) := by
    have q0 : xfrm [(60, some 11), (60, some 12), (60, some 13), (60, some 15), (60, some 19), (60, some 20), (60, some 36), (60, some 42), (70, none), (71, none), (75, none), (79, none), (80, none), (81, none), (82, none)] h (xupd (xupd (xupd (xupd (xupd (xupd h.1 60 11 0) 60 12 0) 60 13 0) 60 15 0) 60 19 (nI M)) 60 20 0, h.2) := xfrm.up (xfrm.up (xfrm.up (xfrm.up (xfrm.up (xfrm.up xfrm.rf rfl) rfl) rfl) rfl) rfl) rfl
    exact xfrm.up (xfrm.up (q0.th (b3.wk rfl)) rfl) rfl
  have sd : sdO M h (xupd (xupd v.1 60 36 (nI (130 * M))) 60 42 (nI (420 * M)), v.2) := by
    have q0 : xfrm [(60, none)] h (xupd (xupd (xupd (xupd (xupd (xupd h.1 60 11 0) 60 12 0) 60 13 0) 60 15 0) 60 19 (nI M)) 60 20 0, h.2) := xfrm.up (xfrm.up (xfrm.up (xfrm.up (xfrm.up (xfrm.up xfrm.rf rfl) rfl) rfl) rfl) rfl) rfl
    have q1 : xfrm [(60, none)] v (xupd (xupd v.1 60 36 (nI (130 * M))) 60 42 (nI (420 * M)), v.2) := xfrm.up (xfrm.up xfrm.rf rfl) rfl
    exact ((sdO.fr q0 rfl).tr b2).tr (sdO.fr q1 rfl)
  have v19 : v.1 60 19 = nI M := by
    rw [(b3 60 19 rfl).1]
    show xupd (xupd (xupd (xupd (xupd (xupd h.1 60 11 0) 60 12 0) 60 13 0) 60 15 0) 60 19 (nI M)) 60 20 0 60 19 = nI M
    rw [xu_ne (by decide), xu_eq]
  refine ⟨_, (xupd (xupd v.1 60 36 (nI (130 * M))) 60 42 (nI (420 * M)), v.2), rfl, ?_, sd, fr, ?_⟩
  · unfold rdT
    rw [e18, hML, b1, Option.bind_some, v19, show (130 : Int32) = nI 130 from rfl, show (420 : Int32) = nI 420 from rfl, pk_mul, pk_mul]
  rw [ec]
  have g23 : ∀ j, w.1 23 j = (xupd (xupd (xupd (xupd (xupd g.1 23 9 0) 23 10 0) 23 11 0) 23 12 0) 23 13 0) 23 j := fun j => (a4 23 j rfl).1
  have c23 : w.1 23 9 = nI 0 ∧ w.1 23 10 = nI 0 ∧ w.1 23 11 = nI 0 ∧ w.1 23 12 = nI 0 ∧ w.1 23 13 = nI 0 := by
    rw [g23, g23, g23, g23, g23]
    refine ⟨?_, ?_, ?_, ?_, xu_eq⟩
    · rw [xu_ne (by decide), xu_ne (by decide), xu_ne (by decide), xu_ne (by decide), xu_eq]; rfl
    · rw [xu_ne (by decide), xu_ne (by decide), xu_ne (by decide), xu_eq]; rfl
    · rw [xu_ne (by decide), xu_ne (by decide), xu_eq]; rfl
    · rw [xu_ne (by decide), xu_eq]; rfl
  have k17 : xfrm [(17, none)] w (xupd (xupd (xupd w.1 17 5 0) 17 6 0) 17 7 0, w.2) := xfrm.up (xfrm.up (xfrm.up xfrm.rf rfl) rfl) rfl
  have k60 : xfrm [(60, some 36), (60, some 42)] v (xupd (xupd v.1 60 36 (nI (130 * M))) 60 42 (nI (420 * M)), v.2) := xfrm.up (xfrm.up xfrm.rf rfl) rfl
  have r0 : ∀ q, q = 11 ∨ q = 12 ∨ q = 13 ∨ q = 15 ∨ q = 20 → v.1 60 q = nI 0 := fun q hq => by
    rw [(b3 60 q rfl).1]
    show xupd (xupd (xupd (xupd (xupd (xupd h.1 60 11 0) 60 12 0) 60 13 0) 60 15 0) 60 19 (nI M)) 60 20 0 60 q = nI 0
    rcases hq with rfl | rfl | rfl | rfl | rfl
    · rw [xu_ne (by decide), xu_ne (by decide), xu_ne (by decide), xu_ne (by decide), xu_ne (by decide), xu_eq]; rfl
    · rw [xu_ne (by decide), xu_ne (by decide), xu_ne (by decide), xu_ne (by decide), xu_eq]; rfl
    · rw [xu_ne (by decide), xu_ne (by decide), xu_ne (by decide), xu_eq]; rfl
    · rw [xu_ne (by decide), xu_ne (by decide), xu_eq]; rfl
    · rw [xu_eq]; rfl
  have r1 : ∀ q, q = 11 ∨ q = 12 ∨ q = 13 ∨ q = 15 ∨ q = 20 → (xupd (xupd v.1 60 36 (nI (130 * M))) 60 42 (nI (420 * M))) 60 q = nI 0 := fun q hq => by
    rw [xu_ne (by omega), xu_ne (by omega)]
    exact r0 q hq
  refine ⟨0, 0, 0, 0, 0, 8, 130 * M, 420 * M, ⟨⟨⟨Nat.zero_le _, tc.ag (fc.agr rfl), th.ag (fr.agr rfl)⟩, ⟨?_, ?_, (show xupd (xupd (xupd w.1 17 5 0) 17 6 0) 17 7 0 17 7 = nI 0 from xu_eq)⟩, ⟨r1 11 (by omega), r1 13 (by omega), r1 15 (by omega)⟩, by decide, fun y => absurd rfl y⟩, ⟨by decide, by decide, ((k17 23 9 rfl).1).trans c23.1, ((k17 23 11 rfl).1).trans c23.2.2.1, fun _ => 0, ⟨by decide, r1 20 (by omega), fun j hj => absurd hj (Nat.not_lt_zero j)⟩, fun _ => ⟨fun j hj => absurd hj (Nat.not_lt_zero j), fun j hj => absurd hj (Nat.not_lt_zero j), fun j hj => absurd hj (Nat.not_lt_zero j), fun j _ hj => absurd hj (Nat.not_lt_zero j)⟩⟩, by decide, ((k17 23 10 rfl).1).trans c23.2.1⟩, ⟨((k60 70 M rfl).1).trans b4, ((k60 71 M rfl).1).trans b5, ((k60 75 M rfl).1).trans b6, ((k60 60 19 rfl).1).trans v19, hM⟩, ⟨⟨((k17 32 4 rfl).1).trans a2, (show xupd (xupd v.1 60 36 (nI (130 * M))) 60 42 (nI (420 * M)) 60 42 = nI (420 * M) from xu_eq), r1 12 (by omega)⟩, ⟨by omega, Nat.le_refl _, by omega⟩, ?_, Nat.le_refl _, by omega⟩, fun _ => ⟨rNil, ⟨rfl, rfl, rfl⟩, ?_, ?_, ⟨rNil_ok, fun _ => rfl⟩, fun k hk => ?_⟩⟩
  · show xupd (xupd (xupd w.1 17 5 0) 17 6 0) 17 7 0 17 5 = nI 0
    rw [xu_ne (by decide), xu_ne (by decide), xu_eq]; rfl
  · show xupd (xupd (xupd w.1 17 5 0) 17 6 0) 17 7 0 17 6 = 0
    rw [xu_ne (by decide), xu_eq]
  · show xupd (xupd v.1 60 36 (nI (130 * M))) 60 42 (nI (420 * M)) 60 36 = nI (130 * M)
    rw [xu_ne (by decide), xu_eq]
  · exact ⟨⟨((k17 23 9 rfl).1).trans c23.1, ((k17 23 10 rfl).1).trans c23.2.1, ((k17 23 11 rfl).1).trans c23.2.2.1, ((k17 23 12 rfl).1).trans c23.2.2.2.1, ((k17 23 13 rfl).1).trans c23.2.2.2.2⟩, fun r hr => absurd hr (Nat.not_lt_zero r), fun r hr => absurd hr (Nat.not_lt_zero r)⟩
  · exact ⟨⟨((k60 70 M rfl).1).trans b4, ((k60 71 M rfl).1).trans b5, ((k60 75 M rfl).1).trans b6, ((k60 79 M rfl).1).trans b7, ((k60 80 M rfl).1).trans b8⟩, fun r hr => absurd hr (Nat.not_lt_zero r), fun r hr => absurd hr (Nat.not_lt_zero r)⟩
  · obtain ⟨x1, x2⟩ := a3 k hk
    refine ⟨2 * k, 2 * k + 2, by omega, ((k17 35 k rfl).1).trans x1, fun u hu => x2 u fun q h1 h2 => ⟨((hu q h1 h2).1).trans (k17 33 q rfl).1, ((hu q h1 h2).2).trans (k17 34 q rfl).1⟩, .inl ⟨((k60 81 _ rfl).1).trans (b9 k hk).1, ((k60 82 _ rfl).1).trans (b9 k hk).2, rfl⟩⟩
end
