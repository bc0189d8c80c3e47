/-! what is told of the draft, by both; and a law told -/
def rmD (h : xG) (M : Nat) (R : pR) : Prop := (h.1 70 M = nI (rT R) ∧ h.1 71 M = nI (rR R) ∧ h.1 75 M = nI (rP R) ∧ h.1 79 M = nI (rC R) ∧ h.1 80 M = rS R) ∧ (∀ r, r < rR R → h.1 72 (10 * M + r) = nI (rA R r) ∧ h.1 73 (10 * M + r) = nI (rB R r) ∧ h.1 74 (10 * M + r) = nI (rM R r)) ∧ (∀ p, p < rP R → h.1 76 (6 * M + p) = rH R p ∧ h.1 77 (6 * M + p) = nI (rO R p) ∧ h.1 78 (6 * M + p) = nI (rF R p))
def kRd : List (Nat × Option Nat) := [(70, none), (71, none), (72, none), (73, none), (74, none), (75, none), (76, none), (77, none), (78, none), (79, none), (80, none)]
def kRc : List (Nat × Option Nat) := [(23, none), (25, none), (26, none), (27, none), (29, none), (30, none), (31, none)]
theorem rmD.ag {h h' : xG} {M : Nat} {R : pR} (r : rmD h M R) (a : xagr kRd h h') : rmD h' M R := by
  obtain ⟨⟨h1, h2, h3, h4, h5⟩, h7, h8⟩ := r
  refine ⟨⟨(a 70 M rfl).1.trans h1, (a 71 M rfl).1.trans h2, (a 75 M rfl).1.trans h3, (a 79 M rfl).1.trans h4, (a 80 M rfl).1.trans h5⟩, fun r hr => ?_, fun p hp => ?_⟩
  · obtain ⟨b1, b2, b3⟩ := h7 r hr
    exact ⟨(a 72 _ rfl).1.trans b1, (a 73 _ rfl).1.trans b2, (a 74 _ rfl).1.trans b3⟩
  · obtain ⟨b1, b2, b3⟩ := h8 p hp
    exact ⟨(a 76 _ rfl).1.trans b1, (a 77 _ rfl).1.trans b2, (a 78 _ rfl).1.trans b3⟩
theorem rmC.dag {g g' : xG} {R : pR} (r : rmC (dw g) R) (a : xagr kRc g g') : rmC (dw g') R := by
  obtain ⟨⟨h1, h2, h3, h4, h5⟩, h7, h8⟩ := r
  refine ⟨⟨(a 23 9 rfl).1.trans h1, (a 23 10 rfl).1.trans h2, (a 23 11 rfl).1.trans h3, (a 23 12 rfl).1.trans h4, (a 23 13 rfl).1.trans h5⟩, fun r hr => ?_, fun p hp => ?_⟩
  · obtain ⟨b1, b2, b3⟩ := h7 r hr
    exact ⟨(a 25 r rfl).1.trans b1, (a 26 r rfl).1.trans b2, (a 27 r rfl).1.trans b3⟩
  · obtain ⟨b1, b2, b3⟩ := h8 p hp
    exact ⟨(a 29 p rfl).1.trans b1, (a 30 p rfl).1.trans b2, (a 31 p rfl).1.trans b3⟩
theorem BC.kp {s s' t : Nat} {bs : List (List pI × List pI × List pI)} {e : List pI} {g w : xG} (b : BC s s' bs e g) (k : kpC t g w) (h : s' ≤ t) : BC s s' bs e w := fun v hv => b v fun q h1 h2 => ⟨((hv q h1 h2).1).trans (k q (by omega)).1, ((hv q h1 h2).2).trans (k q (by omega)).2⟩
theorem BR.kp {p p' b c t : Nat} {bs : List (List pI × List pI × List pI)} {e : List pI} {h w : xG} (x : BR p p' b bs e h) (k : kpR t h w) (ht : p' ≤ t) (n : ∀ q, q < c → w.1 83 q = h.1 83 q ∧ w.1 84 q = h.1 84 q ∧ w.1 85 q = h.1 85 q ∧ w.1 86 q = h.1 86 q ∧ w.1 87 q = h.1 87 q) (hc : b + bs.length + 1 ≤ c) : BR p p' b bs e w := fun v hv1 hv2 => x v (fun q h1 h2 => by
  obtain ⟨y1, y2, y3, y4, y5⟩ := hv1 q h1 h2
  obtain ⟨x1, x2, x3, x4, x5⟩ := n q (by omega)
  exact ⟨y1.trans x1, y2.trans x2, y3.trans x3, y4.trans x4, y5.trans x5⟩) fun q h1 h2 => ⟨((hv2 q h1 h2).1).trans (k q (by omega)).1, ((hv2 q h1 h2).2).trans (k q (by omega)).2⟩
/-- one law of the draft: br and p end what the reference has used, s what the class has -/
def lw1 (M s br p k : Nat) (l : pL) (g h : xG) : Prop := ∃ s0 s1, s1 ≤ s ∧ g.1 35 k = nI s0 ∧ BC s0 s1 l.1 l.2 g ∧ ((h.1 81 (4 * M + k) = 0 ∧ h.1 82 (4 * M + k) = 0 ∧ l = lDef k) ∨ ∃ b p0 p1, 130 * M ≤ b ∧ b + l.1.length + 1 ≤ br ∧ 420 * M ≤ p0 ∧ p1 ≤ p ∧ h.1 81 (4 * M + k) = nI b ∧ h.1 82 (4 * M + k) = nI (b + l.1.length + 1) ∧ BR p0 p1 b l.1 l.2 h)
theorem lw1.kp {M s br p s' br' p' k : Nat} {l : pL} {g h g' h' : xG} (x : lw1 M s br p k l g h) (a : kpC s g g') (b : kpR p h h') (n : ∀ q, q < br → h'.1 83 q = h.1 83 q ∧ h'.1 84 q = h.1 84 q ∧ h'.1 85 q = h.1 85 q ∧ h'.1 86 q = h.1 86 q ∧ h'.1 87 q = h.1 87 q) (c : g'.1 35 k = g.1 35 k) (d : h'.1 81 (4 * M + k) = h.1 81 (4 * M + k) ∧ h'.1 82 (4 * M + k) = h.1 82 (4 * M + k)) (hs : s ≤ s') (hb : br ≤ br') (hp : p ≤ p') : lw1 M s' br' p' k l g' h' := by
  obtain ⟨s0, s1, h1, h2, h3, h4⟩ := x
  refine ⟨s0, s1, by omega, c.trans h2, h3.kp a h1, ?_⟩
  rcases h4 with ⟨e1, e2, e3⟩ | ⟨q, p0, p1, e1, e2, e3, e4, e5, e6, e7⟩
  · exact .inl ⟨d.1.trans e1, d.2.trans e2, e3⟩
  · exact .inr ⟨q, p0, p1, e1, by omega, e3, by omega, d.1.trans e5, d.2.trans e6, e7.kp b e4 n e2⟩
def ct (M s br p : Nat) (R : pR) (g h : xG) : Prop := rmC (dw g) R ∧ rmD h M R ∧ (rOK R ∧ (rT R = 0 → rC R = 0)) ∧ ∀ k, k < 4 → lw1 M s br p k (rL R k) g h
def kCc : List (Nat × Option Nat) := kRc ++ [(33, none), (34, none), (35, none)]
def kCh : List (Nat × Option Nat) := kRd ++ kLr
theorem ct.ag {M s br p s' br' p' : Nat} {R : pR} {g h g' h' : xG} (x : ct M s br p R g h) (a : xagr kCc g g') (c : xagr kCh h h') (hs : s ≤ s') (hb : br ≤ br') (hp : p ≤ p') : ct M s' br' p' R g' h' := ⟨x.1.dag a.l, x.2.1.ag c.l, x.2.2.1, fun k hk => (x.2.2.2 k hk).kp (fun q _ => ⟨(a 33 q rfl).1, (a 34 q rfl).1⟩) (fun q _ => ⟨(c 88 q rfl).1, (c 89 q rfl).1⟩) (fun q _ => ⟨(c 83 q rfl).1, (c 84 q rfl).1, (c 85 q rfl).1, (c 86 q rfl).1, (c 87 q rfl).1⟩) (a 35 k rfl).1 ⟨(c 81 _ rfl).1, (c 82 _ rfl).1⟩ hs hb hp⟩
def rSetL (R : pR) (k : Nat) (l : pL) : pR := (R.1, R.2.1, R.2.2.1, R.2.2.2.1, fun j => if j = k then l else R.2.2.2.2 j)
theorem rSetL_ok {R : pR} {k : Nat} {l : pL} (h : rOK R) (hl : lOK l) : rOK (rSetL R k l) := ⟨h.1, h.2.1, h.2.2.1, h.2.2.2.1, fun j hj => by
  show lOK (if j = k then l else R.2.2.2.2 j)
  by_cases z : j = k
  · rw [if_pos z]; exact hl
  · rw [if_neg z]; exact h.2.2.2.2 j hj⟩
/-- what the reference never touches while it reads to side M -/
def sdO (M : Nat) (h h' : xG) : Prop := (∀ q, q ≠ M → h'.1 70 q = h.1 70 q ∧ h'.1 71 q = h.1 71 q ∧ h'.1 75 q = h.1 75 q ∧ h'.1 79 q = h.1 79 q ∧ h'.1 80 q = h.1 80 q) ∧ (∀ q, q < 10 * M ∨ 10 * M + 10 ≤ q → h'.1 72 q = h.1 72 q ∧ h'.1 73 q = h.1 73 q ∧ h'.1 74 q = h.1 74 q) ∧ (∀ q, q < 6 * M ∨ 6 * M + 6 ≤ q → h'.1 76 q = h.1 76 q ∧ h'.1 77 q = h.1 77 q ∧ h'.1 78 q = h.1 78 q) ∧ (∀ q, q < 4 * M ∨ 4 * M + 4 ≤ q → h'.1 81 q = h.1 81 q ∧ h'.1 82 q = h.1 82 q) ∧ kpB (130 * M) (130 * M + 130) h h' ∧ kpO (420 * M) h h'
theorem sdO.rf {M : Nat} {h : xG} : sdO M h h := ⟨fun _ _ => ⟨rfl, rfl, rfl, rfl, rfl⟩, fun _ _ => ⟨rfl, rfl, rfl⟩, fun _ _ => ⟨rfl, rfl, rfl⟩, fun _ _ => ⟨rfl, rfl⟩, fun _ _ => ⟨rfl, rfl, rfl, rfl, rfl⟩, kpO.rf⟩
theorem sdO.tr {M : Nat} {h w v : xG} (x : sdO M h w) (y : sdO M w v) : sdO M h v := by
  obtain ⟨x1, x2, x3, x4, x5, x6⟩ := x
  obtain ⟨y1, y2, y3, y4, y5, y6⟩ := y
  refine ⟨fun q hq => ?_, fun q hq => ?_, fun q hq => ?_, fun q hq => ?_, x5.tr y5 (Nat.le_refl _) (Nat.le_refl _), x6.tr y6⟩
  · obtain ⟨a1, a2, a3, a4, a5⟩ := x1 q hq
    obtain ⟨b1, b2, b3, b4, b5⟩ := y1 q hq
    exact ⟨b1.trans a1, b2.trans a2, b3.trans a3, b4.trans a4, b5.trans a5⟩
  · obtain ⟨a1, a2, a3⟩ := x2 q hq
    obtain ⟨b1, b2, b3⟩ := y2 q hq
    exact ⟨b1.trans a1, b2.trans a2, b3.trans a3⟩
  · obtain ⟨a1, a2, a3⟩ := x3 q hq
    obtain ⟨b1, b2, b3⟩ := y3 q hq
    exact ⟨b1.trans a1, b2.trans a2, b3.trans a3⟩
  · exact ⟨((y4 q hq).1).trans (x4 q hq).1, ((y4 q hq).2).trans (x4 q hq).2⟩
theorem sdO.fr {M : Nat} {A : List (Nat × Option Nat)} {h w : xG} (f : xfrm A h w) (hA : xfree A (kRd ++ kLr) = true) : sdO M h w := by
  have a := f.agr hA
  exact ⟨fun q _ => ⟨(a 70 q rfl).1, (a 71 q rfl).1, (a 75 q rfl).1, (a 79 q rfl).1, (a 80 q rfl).1⟩, fun q _ => ⟨(a 72 q rfl).1, (a 73 q rfl).1, (a 74 q rfl).1⟩, fun q _ => ⟨(a 76 q rfl).1, (a 77 q rfl).1, (a 78 q rfl).1⟩, fun q _ => ⟨(a 81 q rfl).1, (a 82 q rfl).1⟩, fun q _ => ⟨(a 83 q rfl).1, (a 84 q rfl).1, (a 85 q rfl).1, (a 86 q rfl).1, (a 87 q rfl).1⟩, fun q _ => ⟨(a 88 q rfl).1, (a 89 q rfl).1⟩⟩
section
variable {K S : Nat → Nat} {V : Nat → Int64} {E : Nat}
/-- between two tells, both live -/
def tl (K S : Nat → Nat) (V : Nat → Int64) (E M i : Nat) (g h : xG) : Prop := ∃ lf lt T Rn P s br p, (lv K S V E i i lf lt g h ∧ nmP T P lf g h ∧ Rn ≤ 10 ∧ g.1 23 10 = nI Rn) ∧ (h.1 70 M = nI T ∧ h.1 71 M = nI Rn ∧ h.1 75 M = nI P ∧ h.1 60 19 = nI M ∧ M < 2) ∧ ((g.1 32 4 = nI s ∧ h.1 60 42 = nI p ∧ h.1 60 12 = nI 0) ∧ (s ≤ 8 + i ∧ 420 * M ≤ p ∧ p ≤ 420 * M + i) ∧ h.1 60 36 = nI br ∧ 130 * M ≤ br ∧ 4 * br ≤ 520 * M + i) ∧ (lf = 0 → ∃ R, (rT R = T ∧ rR R = Rn ∧ rP R = P) ∧ ct M s br p R g h)
/-- what a tell does: both answer, and go on alike or die alike -/
def tlO (K S : Nat → Nat) (V : Nat → Int64) (E M i : Nat) (h : xG) (o o' : Option xG) : Prop := ∃ g' h', o = some g' ∧ o' = some h' ∧ sdO M h h' ∧ ((∃ i', i < i' ∧ tl K S V E M i' g' h') ∨ dd K S V E g' h')
theorem tell_law (hK : tkK K S E) {M i k : Nat} {g h : xG} (z : tl K S V E M i g h) (hk : k < 4) (hi17 : K i = 17 + k) : tlO K S V E M i h ((f_X3_readLaw_17 (nI (17 + k)) g).bind fun w14 => f_X3_take_17 4 w14) (f_X12_tellOne_60 h) := by
  obtain ⟨lf, lt, T, Rn, P, s, br, p, ⟨l, n, hR, e10⟩, ⟨e70, e71, e75, e19, hM⟩, ⟨ez, bz, e36, hb1, hb2⟩, hc⟩ := z
  have hi := l.1.1
  have hE4 := hK.1
  obtain ⟨r1, r2, r3⟩ := lv_r l hK
  have hkap : kap (K i) = 24 + k := by
    rw [hi17]
    unfold kap
    rw [if_pos (by omega)]
    omega
  obtain ⟨g', h', a1, a2, a3, a4, a5, a6, a7, a8, a9⟩ := p_law (pB := 420 * M) (L := M) hK (by omega) hM hk l ez bz hi17 e36 (by omega) e19
  refine ⟨g', h', a1, ?_, ?_, ?_⟩
  · rw [← a2]
    unfold f_X12_tellOne_60
    rw [l.2.2.1.1, xg_in (show i < 403 by omega) (by decide), nI_clamp (by omega), r1, hkap]
    have c20 : ∀ a, a < 24 → ¬ nI (24 + k) = nI a := fun a ha y => by have := (nI_eq (a := 24 + k) (b := a) (by omega) (by omega)).mp y; omega
    rw [if_neg (show ¬ nI (24 + k) = (20 : Int32) from c20 20 (by decide)), if_neg (show ¬ nI (24 + k) = (21 : Int32) from c20 21 (by decide)), if_neg (show ¬ nI (24 + k) = (22 : Int32) from c20 22 (by decide)), if_neg (show ¬ nI (24 + k) = (23 : Int32) from c20 23 (by decide))]
    have c235 : f_X12_tellOne_60_235 h = (f_X12_goesOn_60 h).bind fun w14 => f_X12_tellLaw_60 (nI k) w14 := by
      have e24 : nI (24 + k) - 24 = nI k := by
        have := pk_sub (a := 24 + k) (b := 24) (by omega)
        rw [show 24 + k - 24 = k by omega] at this
        exact this
      have bs : ∀ (o : Option xG), (o.bind fun w => some w) = o := fun o => by cases o <;> rfl
      unfold f_X12_tellOne_60_235
      rw [l.2.2.1.1, xg_in (show i < 403 by omega) (by decide), nI_clamp (by omega), r1, hkap, e24, if_neg (nI_pos (show k < 2 ^ 31 by omega)), xg_in' (show i < 403 by omega) (by decide), show (27 : Int32) = nI 27 from rfl, ite_le (by omega) (by decide), if_pos (by omega), l.2.2.1.2.1, if_pos (by decide)]
      simp only [bs]
    rw [c235]
    have c4 : k = 0 ∨ k = 1 ∨ k = 2 ∨ k = 3 := by omega
    rcases c4 with rfl | rfl | rfl | rfl
    · rw [if_pos (show nI (24 + 0) = (24 : Int32) from rfl)]
    · rw [if_neg (show ¬ nI (24 + 1) = (24 : Int32) by decide), if_pos (show nI (24 + 1) = (25 : Int32) from rfl)]
    · rw [if_neg (show ¬ nI (24 + 2) = (24 : Int32) by decide), if_neg (show ¬ nI (24 + 2) = (25 : Int32) by decide), if_pos (show nI (24 + 2) = (26 : Int32) from rfl)]
    · rw [if_neg (show ¬ nI (24 + 3) = (24 : Int32) by decide), if_neg (show ¬ nI (24 + 3) = (25 : Int32) by decide), if_neg (show ¬ nI (24 + 3) = (26 : Int32) by decide), if_pos (show nI (24 + 3) = (27 : Int32) from rfl)]
  · have a := a4.agr (C := kRd) rfl
    exact ⟨fun q _ => ⟨(a 70 q rfl).1, (a 71 q rfl).1, (a 75 q rfl).1, (a 79 q rfl).1, (a 80 q rfl).1⟩, fun q _ => ⟨(a 72 q rfl).1, (a 73 q rfl).1, (a 74 q rfl).1⟩, fun q _ => ⟨(a 76 q rfl).1, (a 77 q rfl).1, (a 78 q rfl).1⟩, fun q hq => a7 q (by omega), fun q hq => a6 q (by omega), a5⟩
  · rcases a9 with ⟨i', s', p', l', ez', bz', bs, e, m1, m2, m3, m4, m5, m6, m7, m8, m9, m10, m11, m12, m13⟩ | d
    · refine .inl ⟨i', by omega, lf, lt, T, Rn, P, s', br + bs.length + 1, p', ⟨l'.mono (by omega), n.ag (a3.agr rfl) (a4.agr rfl) id, hR, ((a3 23 10 rfl).1).trans e10⟩, ⟨((a4 70 M rfl).1).trans e70, ((a4 71 M rfl).1).trans e71, ((a4 75 M rfl).1).trans e75, ((a4 60 19 rfl).1).trans e19, hM⟩, ⟨ez', ⟨by omega, bz'.2⟩, m6, by omega, by omega⟩, fun z => ?_⟩
      obtain ⟨R, hcnt, c1, c2, c3, c4⟩ := hc z
      refine ⟨rSetL R k (bs, e), hcnt, c1.dag (a3.agr rfl), c2.ag (a4.agr rfl), ⟨rSetL_ok c3.1 m4, c3.2⟩, fun j hj => ?_⟩
      show lw1 M s' (br + bs.length + 1) p' j (if j = k then (bs, e) else rL R j) g' h'
      by_cases y : j = k
      · subst y
        rw [if_pos rfl]
        exact ⟨s, s', Nat.le_refl _, m11, m7, .inr ⟨br, p, p', hb1, Nat.le_refl _, bz.2.1, Nat.le_refl _, m12, m13, m8⟩⟩
      · rw [if_neg y]
        exact (c4 j hj).kp m9 m10 (fun q hq => a6 q (.inl hq)) (a8 j y) (a7 _ (by omega)) m2 (by omega) m3
    · exact .inr d
end
