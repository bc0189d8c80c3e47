/-! a realm begins anew -/
def lwG (R : pR) (L : Nat) (h : xG) : Prop := ∀ k, k < 4 → (h.1 81 (4 * L + k) = 0 ∧ h.1 82 (4 * L + k) = 0 ∧ rL R k = lDef k) ∨ ∃ b p0 p1, 130 * L ≤ b ∧ b + (rL R k).1.length + 1 ≤ 130 * L + 130 ∧ 420 * L ≤ p0 ∧ p1 ≤ 420 * L + 420 ∧ h.1 81 (4 * L + k) = nI b ∧ h.1 82 (4 * L + k) = nI (b + (rL R k).1.length + 1) ∧ BR p0 p1 b (rL R k).1 (rL R k).2 h
theorem BR.to {p p' b : Nat} {bs : List (List pI × List pI × List pI)} {e : List pI} {h w : xG} (x : BR p p' b bs e h) (n : ∀ q, b ≤ q → q ≤ b + bs.length → w.1 83 q = h.1 83 q ∧ w.1 84 q = h.1 84 q ∧ w.1 85 q = h.1 85 q ∧ w.1 86 q = h.1 86 q ∧ w.1 87 q = h.1 87 q) (k : ∀ q, p ≤ q → q < p' → w.1 88 q = h.1 88 q ∧ w.1 89 q = h.1 89 q) : BR p p' b bs e w := fun v hv1 hv2 => x v (fun q h1 h2 => by
  obtain ⟨y1, y2, y3, y4, y5⟩ := hv1 q h1 h2
  obtain ⟨x1, x2, x3, x4, x5⟩ := n q h1 h2
  exact ⟨y1.trans x1, y2.trans x2, y3.trans x3, y4.trans x4, y5.trans x5⟩) fun q h1 h2 => ⟨((hv2 q h1 h2).1).trans (k q h1 h2).1, ((hv2 q h1 h2).2).trans (k q h1 h2).2⟩
theorem lwG.ag {R : pR} {L : Nat} {h w : xG} (x : lwG R L h) (a : xagr kLr h w) : lwG R L w := fun k hk => by
  rcases x k hk with ⟨e1, e2, e3⟩ | ⟨b, p0, p1, e1, e2, e3, e4, e5, e6, e7⟩
  · exact .inl ⟨((a 81 _ rfl).1).trans e1, ((a 82 _ rfl).1).trans e2, e3⟩
  · exact .inr ⟨b, p0, p1, e1, e2, e3, e4, ((a 81 _ rfl).1).trans e5, ((a 82 _ rfl).1).trans e6, e7.to (fun q _ _ => ⟨(a 83 q rfl).1, (a 84 q rfl).1, (a 85 q rfl).1, (a 86 q rfl).1, (a 87 q rfl).1⟩) (fun q _ _ => ⟨(a 88 q rfl).1, (a 89 q rfl).1⟩)⟩
theorem lwG.lwR {R : pR} {L : Nat} {h : xG} (x : lwG R L h) (hL : L < 2) : lwR h L R := fun k hk => by
  rcases x k hk with ⟨e1, e2, e3⟩ | ⟨b, p0, p1, e1, e2, e3, e4, e5, e6, e7⟩
  · exact .inr ⟨e1.trans e2.symm, e3⟩
  · exact .inl ⟨b, e5, e6, by omega, e7 h (fun q _ _ => ⟨rfl, rfl, rfl, rfl, rfl⟩) fun q _ _ => ⟨rfl, rfl⟩⟩
theorem lwG.sd {R : pR} {L : Nat} {h w : xG} (x : lwG R L h) (hL : L < 2) (s : sdO (1 - L) h w) : lwG R L w := fun k hk => by
  obtain ⟨s1, s2, s3, s4, s5, s6⟩ := s
  rcases x k hk with ⟨e1, e2, e3⟩ | ⟨b, p0, p1, e1, e2, e3, e4, e5, e6, e7⟩
  · exact .inl ⟨((s4 _ (by omega)).1).trans e1, ((s4 _ (by omega)).2).trans e2, e3⟩
  · exact .inr ⟨b, p0, p1, e1, e2, e3, e4, ((s4 _ (by omega)).1).trans e5, ((s4 _ (by omega)).2).trans e6, e7.to (fun q h1 h2 => s5 q (by omega)) (fun q h1 h2 => s6 q (by omega))⟩
theorem rmR_sd {R : pR} {L : Nat} {h w : xG} (hR : rOK R) (x : rmR h L R) (s : sdO (1 - L) h w) (e : w.1 60 18 = nI L) : rmR w L R := by
  have h6 := hR.p
  have h10 := hR.r
  obtain ⟨⟨hL, e18, eT, eR, eP, eC, eS⟩, x1, x2⟩ := x
  obtain ⟨s1, s2, s3, s4, s5, s6⟩ := s
  obtain ⟨a1, a2, a3, a4, a5⟩ := s1 L (by omega)
  refine ⟨⟨hL, e, a1.trans eT, a2.trans eR, a3.trans eP, a4.trans eC, a5.trans eS⟩, fun r hr => ?_, fun p hp => ?_⟩
  · obtain ⟨b1, b2, b3⟩ := s2 (10 * L + r) (by omega)
    obtain ⟨c1, c2, c3⟩ := x1 r hr
    exact ⟨b1.trans c1, b2.trans c2, b3.trans c3⟩
  · obtain ⟨b1, b2, b3⟩ := s3 (6 * L + p) (by omega)
    obtain ⟨c1, c2, c3⟩ := x2 p hp
    exact ⟨b1.trans c1, b2.trans c2, b3.trans c3⟩
/-- the row that a realm begins with -/
def rw0 (R : pR) : Nat → Int32 := fun k => if k < 6 then (if k < rP R then nI (rF R k) else 0) else if k < 12 then -2 else if k = 38 then -2 else 0
theorem rw0_ok {R : pR} (hR : rOK R) : rowOK R (rw0 R) := by
  have h6 := hR.p
  refine ⟨⟨0, by decide, rfl⟩, fun p hp => ⟨⟨rF R p, (hR.2.2.2.1 p hp).2, ?_⟩, .inl ?_, .inl ?_, 0, by decide, ?_⟩, fun p h1 h2 => ⟨?_, ?_⟩⟩
  · unfold rw0
    rw [if_pos (by omega), if_pos hp]
  · unfold rw0
    rw [if_neg (by omega), if_pos (by omega)]
  · unfold rw0
    rw [if_neg (by omega), if_neg (by omega), if_neg (by omega)]
  · unfold rw0
    rw [if_neg (by omega), if_neg (by omega), if_neg (by omega)]
    rfl
  · unfold rw0
    rw [if_neg (by omega), if_neg (by omega), if_neg (by omega)]
  · unfold rw0
    rw [if_neg (by omega), if_neg (by omega), if_neg (by omega)]
theorem cx (g : xG) (a b n q j : Nat) : (xcopy g a b n).1 q j = if q = b then (if j < n then g.1 a j else g.1 b j) else g.1 q j := by
  by_cases z : q = b
  · subst z
    simp [xcopy, xrow]
  · simp [xcopy, xrow, z]
theorem c_copyDraft {R : pR} {g : xG} (hR : rOK R) (h : rmC (dw g) R) (hl : ∀ k, k < 4 → ∃ s0 s1, s1 ≤ 408 ∧ g.1 35 k = nI s0 ∧ BC s0 s1 (rL R k).1 (rL R k).2 g) : rmC (f_X4_copyFrom_3_23 g) R ∧ lwC (f_X4_copyFrom_3_23 g) R := by
  have h6 := hR.p
  have h10 := hR.r
  have e : ∀ q j, (f_X4_copyFrom_3_23 g).1 q j = if q = 3 then (if j = 13 then g.1 23 13 else if j = 12 then g.1 23 12 else if j = 11 then g.1 23 11 else if j = 10 then g.1 23 10 else if j = 9 then g.1 23 9 else g.1 3 j) else if q = 12 then (if j = 4 then g.1 32 4 else g.1 12 j) else if q = 15 then (if j < 4 then g.1 35 j else g.1 15 j) else if q = 14 then (if j < 408 then g.1 34 j else g.1 14 j) else if q = 13 then (if j < 408 then g.1 33 j else g.1 13 j) else if q = 11 then (if j < 6 then g.1 31 j else g.1 11 j) else if q = 10 then (if j < 6 then g.1 30 j else g.1 10 j) else if q = 9 then (if j < 6 then g.1 29 j else g.1 9 j) else if q = 7 then (if j < 10 then g.1 27 j else g.1 7 j) else if q = 6 then (if j < 10 then g.1 26 j else g.1 6 j) else if q = 5 then (if j < 10 then g.1 25 j else g.1 5 j) else g.1 q j := by
    intro q j
    unfold f_X4_copyFrom_3_23 f_X2_copyFrom_12_32
    simp only [xl_n, xu_at, cx]
    by_cases z3 : q = 3
    · subst z3
      simp
    · by_cases z12 : q = 12
      · subst z12
        simp
      · simp [z3, z12]
  refine ⟨?_, fun k hk => ?_⟩
  · obtain ⟨⟨q1, q2, q3, q4, q5⟩, q7, q8⟩ := h
    refine ⟨⟨?_, ?_, ?_, ?_, ?_⟩, fun r hr => ?_, fun p hp => ?_⟩
    · rw [e]; exact q1
    · rw [e]; exact q2
    · rw [e]; exact q3
    · rw [e]; exact q4
    · rw [e]; exact q5
    · obtain ⟨b1, b2, b3⟩ := q7 r hr
      refine ⟨?_, ?_, ?_⟩
      · rw [e]
        show (if r < 10 then g.1 25 r else g.1 5 r) = _
        rw [if_pos (by omega)]; exact b1
      · rw [e]
        show (if r < 10 then g.1 26 r else g.1 6 r) = _
        rw [if_pos (by omega)]; exact b2
      · rw [e]
        show (if r < 10 then g.1 27 r else g.1 7 r) = _
        rw [if_pos (by omega)]; exact b3
    · obtain ⟨b1, b2, b3⟩ := q8 p hp
      refine ⟨?_, ?_, ?_⟩
      · rw [e]
        show (if p < 6 then g.1 29 p else g.1 9 p) = _
        rw [if_pos (by omega)]; exact b1
      · rw [e]
        show (if p < 6 then g.1 30 p else g.1 10 p) = _
        rw [if_pos (by omega)]; exact b2
      · rw [e]
        show (if p < 6 then g.1 31 p else g.1 11 p) = _
        rw [if_pos (by omega)]; exact b3
  · obtain ⟨s0, s1, l1, l2, l3⟩ := hl k hk
    refine ⟨s0, ?_, ?_⟩
    · rw [e]
      show (if k < 4 then g.1 35 k else g.1 15 k) = _
      rw [if_pos hk]; exact l2
    · have x := l3 (fun q => if q = 33 then (f_X4_copyFrom_3_23 g).1 13 else if q = 34 then (f_X4_copyFrom_3_23 g).1 14 else if q = 35 then (f_X4_copyFrom_3_23 g).1 15 else g.1 q, (f_X4_copyFrom_3_23 g).2) (fun q h1 h2 => by
        constructor
        · show (f_X4_copyFrom_3_23 g).1 13 q = _
          rw [e]
          show (if q < 408 then g.1 33 q else g.1 13 q) = _
          rw [if_pos (by omega)]
        · show (f_X4_copyFrom_3_23 g).1 14 q = _
          rw [e]
          show (if q < 408 then g.1 34 q else g.1 14 q) = _
          rw [if_pos (by omega)])
      refine brC.ag (fun q k hq => ?_) x
      refine ⟨?_, rfl⟩
      have : q = 13 ∨ q = 14 ∨ q = 15 := by
        by_cases z1 : q = 13
        · exact .inl z1
        by_cases z2 : q = 14
        · exact .inr (.inl z2)
        by_cases z3 : q = 15
        · exact .inr (.inr z3)
        exfalso
        have z1' : ¬ 13 = q := fun y => z1 y.symm
        have z2' : ¬ 14 = q := fun y => z2 y.symm
        have z3' : ¬ 15 = q := fun y => z3 y.symm
        simp [xcov, kLw, z1, z2, z3, z1', z2', z3'] at hq
      rcases this with rfl | rfl | rfl
      · rfl
      · rfl
      · rfl
theorem c_begins {R : pR} {g : xG} (hR : rOK R) (h : rmC g R) : ∃ w, f_X6_begin_48_3 g = some w ∧ xfrm [(49, none)] g w ∧ stF (rP R) (rw0 R) (w.1 49) ∧ w.1 49 4 = 0 := by
  have h6 := hR.p
  have eP : g.1 3 11 = nI (rP R) := h.1.2.2.1
  have second : ∀ v : xG, xfrm [(49, none)] g v → (∀ q, q < 35 → v.1 49 q = if q = 1 then -2 else 0) → ∃ w, f_X6_begin_48_3_33 xN 0 v = some w ∧ xfrm [(49, none)] g w ∧ ∀ q, q < 35 → w.1 49 q = if 5 ≤ q ∧ q < 5 + rP R then nI (rF R (q - 5)) else if 11 ≤ q ∧ q < 11 + rP R then -2 else if q = 1 then -2 else 0 := fun v f0 e0 => by
    refine lp (fun m k (w : xG) => f_X6_begin_48_3_33 m k w) (fun l w => xfrm [(49, none)] g w ∧ ∀ q, q < 35 → w.1 49 q = if 5 ≤ q ∧ q < 5 + l then nI (rF R (q - 5)) else if 11 ≤ q ∧ q < 11 + l then -2 else if q = 1 then -2 else 0) (rP R) (fun o => ∃ w, o = some w ∧ xfrm [(49, none)] g w ∧ ∀ q, q < 35 → w.1 49 q = if 5 ≤ q ∧ q < 5 + rP R then nI (rF R (q - 5)) else if 11 ≤ q ∧ q < 11 + rP R then -2 else if q = 1 then -2 else 0) ?_ ?_ xN 0 v (Nat.zero_le _) (by show rP R < 4000 + 0; omega) ⟨f0, fun q hq => by rw [e0 q hq, if_neg (show ¬ (5 ≤ q ∧ q < 5 + 0) by omega), if_neg (show ¬ (11 ≤ q ∧ q < 11 + 0) by omega)]⟩
    · rintro m l w hl ⟨f, e⟩
      refine .inl ?_
      simp only [f_X6_begin_48_3_33]
      unfold f_X4_people_3 f_X4_firstPlaceOf_3 f_X6_setOf_48
      rw [(f 3 11 rfl).1, eP, if_neg (nI_ge hl (by omega)), xl_e, xl_e, xl_e, xl_e, xat_in (show l < 6 by omega) (by decide), (f 11 l rfl).1, (h.2.2 l hl).2.2, show (5 : Int32) + nI l = nI (5 + l) from nI_add 5 l, show (11 : Int32) + nI l = nI (11 + l) from nI_add 11 l, xput_in (show 5 + l < 35 by omega) (by decide), xput_in (show 11 + l < 35 by omega) (by decide), nI_1]
      refine ⟨_, rfl, xfrm.up (xfrm.up f rfl) rfl, fun q hq => ?_⟩
      show xupd (xupd w.1 49 (5 + l) (nI (rF R l))) 49 (11 + l) (-2) 49 q = _
      by_cases z1 : q = 11 + l
      · rw [z1, xu_eq, if_neg (by omega), if_pos (by omega)]
      · rw [xu_ne z1]
        by_cases z2 : q = 5 + l
        · rw [z2, xu_eq, if_pos (by omega), show 5 + l - 5 = l by omega]
        · rw [xu_ne z2, e q hq]
          by_cases z3 : 5 ≤ q ∧ q < 5 + l
          · rw [if_pos z3, if_pos (by omega)]
          · rw [if_neg z3, if_neg (show ¬ (5 ≤ q ∧ q < 5 + (l + 1)) by omega)]
            by_cases z4 : 11 ≤ q ∧ q < 11 + l
            · rw [if_pos z4, if_pos (by omega)]
            · rw [if_neg z4, if_neg (show ¬ (11 ≤ q ∧ q < 11 + (l + 1)) by omega)]
    · rintro m w ⟨f, e⟩
      simp only [f_X6_begin_48_3_33]
      unfold f_X4_people_3
      rw [(f 3 11 rfl).1, eP, if_pos (nI_le (Nat.le_refl _) (by omega))]
      exact ⟨w, rfl, f, e⟩
  have first : ∃ w, f_X6_begin_48_3 g = some w ∧ xfrm [(49, none)] g w ∧ ∀ q, q < 35 → w.1 49 q = if 5 ≤ q ∧ q < 5 + rP R then nI (rF R (q - 5)) else if 11 ≤ q ∧ q < 11 + rP R then -2 else if q = 1 then -2 else 0 := by
    unfold f_X6_begin_48_3
    refine lp (fun m k (w : xG) => f_X6_begin_48_3_2 m k w) (fun l w => xfrm [(49, none)] g w ∧ ∀ q, q < l → w.1 49 q = 0) 35 (fun o => ∃ w, o = some w ∧ xfrm [(49, none)] g w ∧ ∀ q, q < 35 → w.1 49 q = if 5 ≤ q ∧ q < 5 + rP R then nI (rF R (q - 5)) else if 11 ≤ q ∧ q < 11 + rP R then -2 else if q = 1 then -2 else 0) ?_ ?_ xN 0 g (Nat.zero_le _) (by decide) ⟨xfrm.rf, fun q hq => absurd hq (Nat.not_lt_zero q)⟩
    · rintro m l w hl ⟨f, e⟩
      refine .inl ?_
      simp only [f_X6_begin_48_3_2]
      rw [if_neg (show ¬ (35 : Int32) ≤ nI l from nI_ge (b := 35) hl (by decide)), xg_in hl (by decide), nI_clamp (by omega), nI_1]
      refine ⟨_, rfl, xfrm.up f rfl, fun q hq => ?_⟩
      show xupd w.1 49 l 0 49 q = 0
      by_cases z : q = l
      · rw [z, xu_eq]
      · rw [xu_ne z]; exact e q (by omega)
    · rintro m w ⟨f, e⟩
      simp only [f_X6_begin_48_3_2]
      unfold f_X6_set_48
      rw [if_pos (show (35 : Int32) ≤ nI 35 by decide), xl_e, xl_e, show (1 : Int32) = nI 1 from rfl, xput_in (show 1 < 35 by decide) (by decide)]
      refine second _ (xfrm.up f rfl) fun q hq => ?_
      show xupd w.1 49 1 (-2) 49 q = _
      by_cases z : q = 1
      · rw [z, xu_eq, if_pos rfl]
      · rw [xu_ne z, if_neg z]; exact e q hq
  obtain ⟨w, w1, w2, w3⟩ := first
  have z38 : rw0 R 37 = 0 ∧ rw0 R 38 = -2 ∧ rw0 R 39 = 0 ∧ rw0 R 36 = 0 := ⟨rfl, rfl, rfl, rfl⟩
  refine ⟨w, w1, w2, ⟨⟨?_, ?_, ?_, ?_, ?_⟩, fun p hp => ⟨?_, ?_, ?_, ?_, ?_⟩⟩, ?_⟩
  · rw [w3 0 (by decide), if_neg (by omega), if_neg (by omega), if_neg (by decide), z38.1]
  · rw [w3 1 (by decide), if_neg (by omega), if_neg (by omega), if_pos rfl, z38.2.1]
  · rw [w3 2 (by decide), if_neg (by omega), if_neg (by omega), if_neg (by decide), z38.2.2.1]
  · rw [w3 4 (by decide), if_neg (by omega), if_neg (by omega), if_neg (by decide), z38.2.2.2]
  · have b0 : ∀ n, n ≤ 6 → bq (fun p => decide (rw0 R (30 + p) = 1)) n = 0 := by
      intro n
      induction n with
      | zero => intro _; rfl
      | succ n ih =>
        intro hn
        rw [bq_s, ih (by omega)]
        have : rw0 R (30 + n) = 0 := by
          unfold rw0
          rw [if_neg (by omega), if_neg (by omega), if_neg (by omega)]
        rw [this]
        rfl
    rw [w3 3 (by decide), if_neg (by omega), if_neg (by omega), if_neg (by decide), b0 _ h6]
    rfl
  · rw [w3 _ (by omega), if_pos (by omega), show 5 + p - 5 = p by omega]
    unfold rw0
    rw [if_pos (by omega), if_pos hp]
  · rw [w3 _ (by omega), if_neg (by omega), if_pos (by omega)]
    unfold rw0
    rw [if_neg (by omega), if_pos (by omega)]
  · rw [w3 _ (by omega), if_neg (by omega), if_neg (by omega), if_neg (by omega)]
    unfold rw0
    rw [if_neg (by omega), if_neg (by omega), if_neg (by omega)]
  · rw [w3 _ (by omega), if_neg (by omega), if_neg (by omega), if_neg (by omega)]
    unfold rw0
    rw [if_neg (by omega), if_neg (by omega), if_neg (by omega)]
  · rw [w3 _ (by omega), if_neg (by omega), if_neg (by omega), if_neg (by omega)]
    unfold rw0
    rw [if_neg (by omega), if_neg (by omega), if_neg (by omega)]
  · rw [w3 4 (by decide), if_neg (by omega), if_neg (by omega), if_neg (by decide)]
theorem r_begins {R : pR} {M : Nat} {h : xG} (hR : rOK R) (hM : M < 2) (e18 : h.1 60 18 = nI M) (d : rmD h M R) : ∃ w, f_X12_begins_60 h = some w ∧ xfrm [(60, some 52), (60, some 53), (94, none)] h w ∧ ∀ k, k < 40 → w.1 94 k = rw0 R k := by
  have h6 := hR.p
  have eP : h.1 75 M = nI (rP R) := d.1.2.2.1
  have second : ∀ v : xG, xfrm [(60, some 52), (60, some 53), (94, none)] h v → (∀ q, q < 40 → v.1 94 q = if 6 ≤ q ∧ q < 12 then -2 else 0) → ∃ w, f_X12_begins_60_40 xN 0 v = some w ∧ xfrm [(60, some 52), (60, some 53), (94, none)] h w ∧ ∀ k, k < 40 → w.1 94 k = rw0 R k := fun v f0 e0 => by
    refine lp (fun m k (w : xG) => f_X12_begins_60_40 m k w) (fun l w => xfrm [(60, some 52), (60, some 53), (94, none)] h w ∧ ∀ q, q < 40 → w.1 94 q = if q < l then nI (rF R q) else if 6 ≤ q ∧ q < 12 then -2 else 0) (rP R) (fun o => ∃ w, o = some w ∧ xfrm [(60, some 52), (60, some 53), (94, none)] h w ∧ ∀ k, k < 40 → w.1 94 k = rw0 R k) ?_ ?_ xN 0 v (Nat.zero_le _) (by show rP R < 4000 + 0; omega) ⟨f0, fun q hq => by rw [e0 q hq, if_neg (Nat.not_lt_zero q)]⟩
    · rintro m l w hl ⟨f, e⟩
      refine .inl ?_
      simp only [f_X12_begins_60_40]
      rw [(f 60 18 rfl).1, e18, xg_in hM (by decide), nI_clamp (show M < 2 ^ 31 by omega), (f 75 M rfl).1, eP, if_neg (nI_ge hl (by omega)), i6, xg_in (show 6 * M + l < 12 by omega) (by decide), xg_in (show l < 40 by omega) (by decide), nI_clamp (show 6 * M + l < 2 ^ 31 by omega), nI_clamp (show l < 2 ^ 31 by omega), nI_1, (f 78 _ rfl).1, (d.2.2 l hl).2.2]
      refine ⟨_, rfl, xfrm.up f rfl, fun q hq => ?_⟩
      show xupd w.1 94 l (nI (rF R l)) 94 q = _
      by_cases z : q = l
      · rw [z, xu_eq, if_pos (by omega)]
      · rw [xu_ne z, e q hq]
        by_cases z2 : q < l
        · rw [if_pos z2, if_pos (by omega)]
        · rw [if_neg z2, if_neg (show ¬ q < l + 1 by omega)]
    · rintro m w ⟨f, e⟩
      simp only [f_X12_begins_60_40]
      rw [(f 60 18 rfl).1, e18, xg_in hM (by decide), nI_clamp (show M < 2 ^ 31 by omega), (f 75 M rfl).1, eP, if_pos (nI_le (Nat.le_refl _) (by omega)), show (38 : Int32) = nI 38 from rfl, xg_in (show 38 < 40 by decide) (by decide), xg_in' hM (by decide), nI_clamp (show 38 < 2 ^ 31 by decide)]
      refine ⟨_, rfl, xfrm.up (xfrm.up (xfrm.up f rfl) rfl) rfl, fun k hk => ?_⟩
      show xupd (xupd (xupd w.1 94 38 (-2)) 60 52 (w.1 80 M)) 60 53 0 94 k = _
      rw [xu_q (by decide), xu_q (by decide)]
      unfold rw0
      by_cases z : k = 38
      · rw [z, xu_eq]
        rfl
      · rw [xu_ne z, e k hk]
        by_cases z1 : k < rP R
        · rw [if_pos z1, if_pos (by omega), if_pos z1]
        · rw [if_neg z1]
          by_cases z2 : k < 6
          · rw [if_neg (by omega), if_pos z2, if_neg z1]
          · rw [if_neg z2]
            by_cases z3 : k < 12
            · rw [if_pos (by omega), if_pos z3]
            · rw [if_neg (by omega), if_neg z3, if_neg z]
  unfold f_X12_begins_60
  refine lp (fun m k (w : xG) => f_X12_begins_60_2 m k w) (fun l w => xfrm [(60, some 52), (60, some 53), (94, none)] h w ∧ ∀ q, q < l → w.1 94 q = if 6 ≤ q ∧ q < 12 then -2 else 0) 40 (fun o => ∃ w, o = some w ∧ xfrm [(60, some 52), (60, some 53), (94, none)] h w ∧ ∀ k, k < 40 → w.1 94 k = rw0 R k) ?_ ?_ xN 0 h (Nat.zero_le _) (by decide) ⟨xfrm.rf, fun q hq => absurd hq (Nat.not_lt_zero q)⟩
  · rintro m l w hl ⟨f, e⟩
    refine .inl ?_
    simp only [f_X12_begins_60_2]
    rw [if_neg (show ¬ (40 : Int32) ≤ nI l from nI_ge (b := 40) hl (by decide)), show (6 : Int32) = nI 6 from rfl, show (12 : Int32) = nI 12 from rfl, ite_lt (by omega) (by decide), ite_le (by decide) (by omega), xg_in hl (by decide), xg_in hl (by decide), nI_clamp (by omega), nI_1]
    have up : ∀ x : Int32, x = (if 6 ≤ l ∧ l < 12 then -2 else 0) → xfrm [(60, some 52), (60, some 53), (94, none)] h (xupd w.1 94 l x, w.2) ∧ ∀ q, q < l + 1 → (xupd w.1 94 l x) 94 q = if 6 ≤ q ∧ q < 12 then -2 else 0 := fun x hx => ⟨xfrm.up f rfl, fun q hq => by
      by_cases z : q = l
      · rw [z, xu_eq, hx]
      · rw [xu_ne z]; exact e q (by omega)⟩
    by_cases z1 : l < 6
    · rw [if_pos z1]
      exact ⟨_, rfl, up 0 (by rw [if_neg (by omega)])⟩
    · rw [if_neg z1]
      by_cases z2 : 12 ≤ l
      · rw [if_pos z2]
        exact ⟨_, rfl, up 0 (by rw [if_neg (by omega)])⟩
      · rw [if_neg z2]
        exact ⟨_, rfl, up (-2) (by rw [if_pos (by omega)])⟩
  · rintro m w ⟨f, e⟩
    simp only [f_X12_begins_60_2]
    rw [if_pos (show (40 : Int32) ≤ nI 40 by decide)]
    exact second w f e
