/-! told with names: steps over 'both live, or both dead' -/
def fTN : List (Nat × Option Nat) := fT ++ fN
def fMW : List (Nat × Option Nat) := fM ++ fW
theorem nI_any (x : Int32) : ∃ j, x = nI j := ⟨x.toBitVec.toNat, by
  unfold nI
  apply Int32.toBitVec_inj.mp
  simp⟩
section
variable {K S : Nat → Nat} {V : Nat → Int64} {E : Nat}
def NL (K S : Nat → Nat) (V : Nat → Int64) (E T P : Nat) (C : Nat → Nat → Nat → Prop) (g h : xG) : Prop := (T ≤ 7 ∧ P ≤ 6 ∧ g.1 23 9 = nI T ∧ g.1 23 11 = nI P ∧ h.1 60 20 = nI (T + P)) ∧ ((∃ i lf lt, lv K S V E i i lf lt g h ∧ nmP T P lf g h ∧ C i lf lt) ∨ dd K S V E g h)
theorem NL.mono {T P : Nat} {C C' : Nat → Nat → Nat → Prop} {g h : xG} (z : NL K S V E T P C g h) (hC : ∀ i lf lt, C i lf lt → C' i lf lt) : NL K S V E T P C' g h := ⟨z.1, z.2.imp (fun ⟨i, lf, lt, l, n, c⟩ => ⟨i, lf, lt, l, n, hC i lf lt c⟩) id⟩
theorem NL.ag {T P : Nat} {C : Nat → Nat → Nat → Prop} {g h g' h' : xG} (z : NL K S V E T P C g h) (a : xagr (kLc ++ kNc) g g') (c : xagr (kLh ++ kNh ++ [(60, some 14)]) h h') : NL K S V E T P C g' h' := by
  obtain ⟨⟨h1, h2, h3, h4, h5⟩, z⟩ := z
  refine ⟨⟨h1, h2, (a 23 9 rfl).1.trans h3, (a 23 11 rfl).1.trans h4, (c 60 20 rfl).1.trans h5⟩, ?_⟩
  rcases z with ⟨i, lf, lt, l, n, x⟩ | d
  · exact .inl ⟨i, lf, lt, l.ag a.l c.l.l, n.ag a.r c.l.r id, x⟩
  · exact .inr (d.ag (a.sub rfl) (c.sub rfl))
theorem NL.cts {T P : Nat} {C D : Nat → Nat → Nat → Prop} {g h g' h' : xG} (z : NL K S V E T P C g h) (a : xagr kNc g g') (c : xagr kNh h h') (y : (∃ i lf lt, lv K S V E i i lf lt g' h' ∧ nmP T P lf g' h' ∧ D i lf lt) ∨ dd K S V E g' h') : NL K S V E T P D g' h' := ⟨⟨z.1.1, z.1.2.1, (a 23 9 rfl).1.trans z.1.2.2.1, (a 23 11 rfl).1.trans z.1.2.2.2.1, (c 60 20 rfl).1.trans z.1.2.2.2.2⟩, y⟩
theorem n_take (hK : tkK K S E) {T P a : Nat} {C : Nat → Nat → Nat → Prop} {g h : xG} (z : NL K S V E T P C g h) (ha : a ≤ 33) (ha0 : a ≠ 0) : ∃ g' h', f_X3_take_17 (nI a) g = some g' ∧ f_X12_must_60 (nI (kap a)) h = some h' ∧ xfrm fTN g g' ∧ xfrm fMW h h' ∧ NL K S V E T P (fun i' lf lt => ∃ i, i' = i + 1 ∧ K i = a ∧ C i lf lt) g' h' := by
  rcases z.2 with ⟨i, lf, lt, l, n, c⟩ | ⟨f, i, d1, d2⟩
  · obtain ⟨g', h', a1, a2, a3, a4, a5⟩ := p_take hK l ha ha0
    refine ⟨g', h', a1, a2, a3.wk rfl, a4.wk rfl, z.cts (a3.agr rfl) (a4.agr rfl) ?_⟩
    rcases a5 with ⟨k, i4, l'⟩ | d
    · exact .inl ⟨i + 1, lf, lt, l'.mono (by omega), n.ag (a3.agr rfl) (a4.agr rfl) id, i, rfl, k, c⟩
    · exact .inr d
  · exact ⟨g, h, cd_take d1 _, rd_must d2 _, xfrm.rf, xfrm.rf, z.cts xagr.rf xagr.rf (.inr ⟨f, i, d1, d2⟩)⟩
theorem n_town (hK : tkK K S E) {T P : Nat} {C : Nat → Nat → Nat → Prop} {g h : xG} (z : NL K S V E T P C g h) : ∃ x y g' h', f_X3_takeTown_17 g = some (x, g') ∧ f_X12_known_60 h = some (y, h') ∧ xfrm fTN g g' ∧ xfrm fMW h h' ∧ NL K S V E T P (fun i' lf' lt' => ∃ i lf lt, i' = i + 1 ∧ C i lf lt ∧ (lf ≠ 0 → lf' = lf ∧ lt' = lt) ∧ (lf' = 0 → ∃ t, t < T ∧ x = nI t ∧ y = nI t) ∧ (lf = 0 → lf' ≠ 0 → lt' = i ∧ y = -1)) g' h' := by
  rcases z.2 with ⟨i, lf, lt, l, n, c⟩ | ⟨f, i, d1, d2⟩
  · obtain ⟨x, y, g', h', a1, a2, a3, a4, a5⟩ := p_town hK l n
    refine ⟨x, y, g', h', a1, a2, a3, a4, z.cts (a3.agr rfl) (a4.agr rfl) ?_⟩
    rcases a5 with ⟨lf', lt', i4, l', q1, q2, q3⟩ | d
    · exact .inl ⟨i + 1, lf', lt', l', n.ag (a3.agr rfl) (a4.agr rfl) (fun y => by rw [(q1 y).1]; exact y), i, lf, lt, rfl, c, q1, q2, q3⟩
    · exact .inr d
  · obtain ⟨x, g', a1, a2⟩ := cd_town d1 z.1.1 z.1.2.2.1
    exact ⟨x, -1, g', h, a1, rd_known d2, a2.wk rfl, xfrm.rf, z.cts (a2.agr rfl) xagr.rf (.inr ⟨f, i, d1.ag (a2.agr rfl), d2⟩)⟩
theorem n_num (hK : tkK K S E) {T P a b : Nat} {C : Nat → Nat → Nat → Prop} {g h : xG} (z : NL K S V E T P C g h) (hab : a ≤ b) (hb : b ≤ 9999) : ∃ x y g' h', f_X3_takeNumber_17 (nI a) (nI b) g = some (x, g') ∧ f_X12_bounded_60 (nI a) (nI b) h = some (y, h') ∧ xfrm fTN g g' ∧ xfrm fMW h h' ∧ NL K S V E T P (fun i' lf' _ => ∃ i lf lt, i' = i + 1 ∧ C i lf lt ∧ (lf ≠ 0 → lf' ≠ 0) ∧ (lf' = 0 → ∃ d, a ≤ d ∧ d ≤ b ∧ x = nI d ∧ y = nI d)) g' h' := by
  rcases z.2 with ⟨i, lf, lt, l, n, c⟩ | ⟨f, i, d1, d2⟩
  · obtain ⟨x, y, g', h', a1, a2, a3, a4, a5⟩ := p_num hK l hab hb
    refine ⟨x, y, g', h', a1, a2, a3, a4, z.cts (a3.agr rfl) (a4.agr rfl) ?_⟩
    rcases a5 with ⟨d, lf', lt', i4, l', q1, q2, q3, q4, q5⟩ | d
    · exact .inl ⟨i + 1, lf', lt', l', n.ag (a3.agr rfl) (a4.agr rfl) q4, i, lf, lt, rfl, c, q4, fun y => ⟨d, (q5 y).1, (q5 y).2, q1, q2⟩⟩
    · exact .inr d
  · obtain ⟨x, g', a1, a2⟩ := cd_num d1 (nI a) (nI b)
    exact ⟨x, nI a, g', h, a1, rd_bounded d2 _ _, a2.wk rfl, xfrm.rf, z.cts (a2.agr rfl) xagr.rf (.inr ⟨f, i, d1.ag (a2.agr rfl), d2⟩)⟩
theorem n_name (hK : tkK K S E) {T P : Nat} {C : Nat → Nat → Nat → Prop} {g h : xG} (z : NL K S V E T P C g h) : ∃ x y g' h', f_X3_takeNewName_17 g = some (x, g') ∧ f_X12_named_60 h = some (y, h') ∧ xfrm fTN g g' ∧ xfrm fMW h h' ∧ NL K S V E T P (fun i' lf' _ => ∃ i lf lt, i' = i + 1 ∧ C i lf lt ∧ i ≤ E ∧ K i = 2 ∧ x = V i ∧ y = nI i ∧ (lf ≠ 0 → lf' ≠ 0) ∧ (lf' = 0 → (∀ p, p < P → g.2 28 p ≠ V i) ∧ ∀ t, t < T → g.2 24 t ≠ V i)) g' h' := by
  rcases z.2 with ⟨i, lf, lt, l, n, c⟩ | ⟨f, i, d1, d2⟩
  · obtain ⟨g', h', a1, a2, a3, a4, a5⟩ := p_name hK l n
    refine ⟨V i, nI i, g', h', a1, a2, a3, a4, z.cts (a3.agr rfl) (a4.agr rfl) ?_⟩
    rcases a5 with ⟨lf', lt', i4, k2, l', q1, q2⟩ | d
    · exact .inl ⟨i + 1, lf', lt', l', n.ag (a3.agr rfl) (a4.agr rfl) q1, i, lf, lt, rfl, c, l.1.1, k2, rfl, rfl, q1, q2⟩
    · exact .inr d
  · obtain ⟨x, g', a1, a2⟩ := cd_name d1 z.1.1 z.1.2.1 z.1.2.2.1 z.1.2.2.2.1
    obtain ⟨j, hj⟩ := nI_any (h.1 60 11)
    refine ⟨x, nI j, g', h, a1, ?_, a2.wk rfl, xfrm.rf, z.cts (a2.agr rfl) xagr.rf (.inr ⟨f, i, d1.ag (a2.agr rfl), d2⟩)⟩
    unfold f_X12_named_60
    rw [rd_must d2, Option.bind_some, hj, rd_named12 d2 z.1.2.2.2.2 (by have := z.1.1; have := z.1.2.1; omega)]
end
