/-! names -/
section
variable {K S : Nat → Nat} {V : Nat → Int64} {E : Nat}
theorem c_townNamed {g : xG} {T : Nat} (hT : T ≤ 7) (e9 : g.1 23 9 = nI T) (v : Int64) : (∃ t, t < T ∧ g.2 24 t = v ∧ f_X4_townNamed_23 v g = some (nI t)) ∨ ((∀ t, t < T → g.2 24 t ≠ v) ∧ f_X4_townNamed_23 v g = some (-1)) := by
  unfold f_X4_townNamed_23
  refine lp (fun m i (_ : Unit) => f_X4_townNamed_23_2 g m v i) (fun k _ => ∀ t, t < k → g.2 24 t ≠ v) T (fun o => (∃ t, t < T ∧ g.2 24 t = v ∧ o = some (nI t)) ∨ ((∀ t, t < T → g.2 24 t ≠ v) ∧ o = some (-1))) ?_ ?_ xN 0 () (Nat.zero_le _) (by show T < 4000 + 0; omega) (fun t ht => by omega)
  · intro m k _ hk e
    simp only [f_X4_townNamed_23_2]
    rw [e9, if_neg (nI_ge hk (by omega)), xlat_in (show k < 7 by omega) (by decide), nI_1]
    by_cases z : g.2 24 k = v
    · rw [if_pos ((lg_cmp_eq _ _).mpr z)]
      exact .inr (.inl ⟨k, hk, z, rfl⟩)
    · rw [if_neg (fun y => z ((lg_cmp_eq _ _).mp y))]
      exact .inl ⟨(), rfl, fun t ht => by
        by_cases y : t = k
        · rw [y]; exact z
        · exact e t (by omega)⟩
  · intro m _ e
    simp only [f_X4_townNamed_23_2]
    rw [e9, if_pos (nI_le (Nat.le_refl _) (by omega))]
    exact .inr ⟨e, rfl⟩
theorem c_hasName {g : xG} {T P : Nat} (hT : T ≤ 7) (hP : P ≤ 6) (e9 : g.1 23 9 = nI T) (e11 : g.1 23 11 = nI P) (v : Int64) : (((∃ p, p < P ∧ g.2 28 p = v) ∨ ∃ t, t < T ∧ g.2 24 t = v) ∧ f_X4_hasName_23 v g = some 1) ∨ ((∀ p, p < P → g.2 28 p ≠ v) ∧ (∀ t, t < T → g.2 24 t ≠ v) ∧ f_X4_hasName_23 v g = some 0) := by
  unfold f_X4_hasName_23
  refine lp (fun m i (_ : Unit) => f_X4_hasName_23_2 g m v i) (fun k _ => ∀ t, t < k → g.2 28 t ≠ v) P (fun o => (((∃ p, p < P ∧ g.2 28 p = v) ∨ ∃ t, t < T ∧ g.2 24 t = v) ∧ o = some 1) ∨ ((∀ p, p < P → g.2 28 p ≠ v) ∧ (∀ t, t < T → g.2 24 t ≠ v) ∧ o = some 0)) ?_ ?_ xN 0 () (Nat.zero_le _) (by show P < 4000 + 0; omega) (fun t ht => by omega)
  · intro m k _ hk e
    simp only [f_X4_hasName_23_2]
    rw [e11, if_neg (nI_ge hk (by omega)), xlat_in (show k < 6 by omega) (by decide), nI_1]
    by_cases z : g.2 28 k = v
    · rw [if_pos ((lg_cmp_eq _ _).mpr z)]
      exact .inr (.inl ⟨.inl ⟨k, hk, z⟩, rfl⟩)
    · rw [if_neg (fun y => z ((lg_cmp_eq _ _).mp y))]
      exact .inl ⟨(), rfl, fun t ht => by
        by_cases y : t = k
        · rw [y]; exact z
        · exact e t (by omega)⟩
  · intro m _ e
    simp only [f_X4_hasName_23_2]
    rw [e11, if_pos (nI_le (Nat.le_refl _) (by omega))]
    rcases c_townNamed hT e9 v with ⟨t, ht, h1, h2⟩ | ⟨h1, h2⟩
    · rw [h2, Option.bind_some, if_neg (nI_pos (by omega))]
      exact .inl ⟨.inr ⟨t, ht, h1⟩, rfl⟩
    · rw [h2, Option.bind_some, if_pos (by decide)]
      exact .inr ⟨e, h1, rfl⟩
/-- the reference's names: n of them -/
def nmH (n : Nat) (at_ : Nat → Nat) (h : xG) : Prop := n ≤ 13 ∧ h.1 60 20 = nI n ∧ ∀ j, j < n → h.1 69 j = nI (at_ j) ∧ at_ j ≤ 10
def nmRel (T P : Nat) (tn pn nm : Nat → Int64) (at_ : Nat → Nat) : Prop := (∀ t, t < T → ∃ j, j < T + P ∧ nm j = tn t ∧ at_ j = t) ∧ (∀ p, p < P → ∃ j, j < T + P ∧ nm j = pn p ∧ at_ j = 10) ∧ (∀ j, j < T + P → (at_ j < T ∧ nm j = tn (at_ j)) ∨ (at_ j = 10 ∧ ∃ p, p < P ∧ nm j = pn p)) ∧ ∀ t t', t < T → t' < T → tn t = tn t' → t = t'
/-- a town that is named: the reference -/
theorem r_known {h : xG} {n i : Nat} {at_ : Nat → Nat} (hn : nmH n at_ h) (hi : i ≤ 400) : (∃ j, j < n ∧ h.2 68 j = h.2 66 i ∧ at_ j < 10 ∧ f_X12_known_60_21 xN (nI i) 0 h = some (nI (at_ j), h)) ∨ ((∀ j, j < n → h.2 68 j = h.2 66 i → ¬ at_ j < 10) ∧ f_X12_known_60_21 xN (nI i) 0 h = (f_X12_wrong_60 4 (nI i) h).bind fun w2 => some (-1, w2)) := by
  obtain ⟨n13, e20, e69⟩ := hn
  refine lp (fun m k (_ : Unit) => f_X12_known_60_21 m (nI i) k h) (fun k _ => ∀ j, j < k → h.2 68 j = h.2 66 i → ¬ at_ j < 10) n (fun o => (∃ j, j < n ∧ h.2 68 j = h.2 66 i ∧ at_ j < 10 ∧ o = some (nI (at_ j), h)) ∨ ((∀ j, j < n → h.2 68 j = h.2 66 i → ¬ at_ j < 10) ∧ o = (f_X12_wrong_60 4 (nI i) h).bind fun w2 => some (-1, w2))) ?_ ?_ xN 0 () (Nat.zero_le _) (by show n < 4000 + 0; omega) (fun t ht => by omega)
  · intro m k _ hk e
    obtain ⟨a1, a2⟩ := e69 k hk
    simp only [f_X12_known_60_21]
    rw [e20, if_neg (nI_ge hk (by omega)), xg_in (show k < 13 by omega) (by decide), xg_in (show i < 403 by omega) (by decide), xg_in (show k < 13 by omega) (by decide), nI_clamp (show k < 2 ^ 31 by omega), nI_clamp (show i < 2 ^ 31 by omega), nI_1, a1]
    by_cases z : h.2 68 k = h.2 66 i
    · rw [if_pos ((lg_cmp_eq _ _).mpr z)]
      by_cases y : at_ k < 10
      · rw [if_neg (show ¬ (10 : Int32) ≤ nI (at_ k) from nI_ge (b := 10) y (by decide)), xg_in' (show k < 13 by omega) (by decide)]
        exact .inr (.inl ⟨k, hk, z, y, rfl⟩)
      · rw [if_pos (show (10 : Int32) ≤ nI (at_ k) from nI_le (a := 10) (by omega) (by omega))]
        exact .inl ⟨(), rfl, fun j hj hx => by
          by_cases x : j = k
          · rw [x]; exact y
          · exact e j (by omega) hx⟩
    · rw [if_neg (fun y => z ((lg_cmp_eq _ _).mp y))]
      exact .inl ⟨(), rfl, fun j hj hx => by
        by_cases x : j = k
        · rw [x] at hx; exact absurd hx z
        · exact e j (by omega) hx⟩
  · intro m _ e
    simp only [f_X12_known_60_21]
    rw [e20, if_pos (nI_le (Nat.le_refl _) (by omega))]
    exact .inr ⟨e, rfl⟩
/-- counts and names: what a live pair holds of its draft, to name things -/
def nmP (T P : Nat) (lf : Nat) (g h : xG) : Prop := T ≤ 7 ∧ P ≤ 6 ∧ g.1 23 9 = nI T ∧ g.1 23 11 = nI P ∧ ∃ at_, nmH (T + P) at_ h ∧ (lf = 0 → nmRel T P (g.2 24) (g.2 28) (h.2 68) at_)
def kNc : List (Nat × Option Nat) := [(23, some 9), (23, some 11), (24, none), (28, none)]
def kNh : List (Nat × Option Nat) := [(60, some 20), (68, none), (69, none)]
theorem nmP.ag {T P lf lf' : Nat} {g h g' h' : xG} (n : nmP T P lf g h) (a : xagr kNc g g') (c : xagr kNh h h') (hl : lf ≠ 0 → lf' ≠ 0) : nmP T P lf' g' h' := by
  obtain ⟨n1, n2, n3, n4, at_, ⟨n5, n6, n7⟩, n8⟩ := n
  refine ⟨n1, n2, ((a 23 9 rfl).1).trans n3, ((a 23 11 rfl).1).trans n4, at_, ⟨n5, ((c 60 20 rfl).1).trans n6, fun j hj => ⟨((c 69 j rfl).1).trans (n7 j hj).1, (n7 j hj).2⟩⟩, fun z => ?_⟩
  rw [a.f2 (q := 24) fun _ => rfl, a.f2 (q := 28) fun _ => rfl, c.f2 (q := 68) fun _ => rfl]
  exact n8 (Classical.byContradiction fun y => hl y z)
/-- the class takes a token that isn't there -/
theorem c_miss {i a : Nat} {w : xG} (hK : tkK K S E) (hi : i ≤ E) (tw : tkC K S V E w) (w5 : w.1 17 5 = nI i) (w6 : w.1 17 6 = 0) (ha : a ≤ 33) (z : K i ≠ a) : ∃ g', f_X3_take_17 (nI a) w = some g' ∧ xfrm fT w g' ∧ dC K S V E 1 i g' := by
  have k33 := hK.2.2.2.1 i
  have fg : xfrm [(17, some 6)] w (xupd w.1 17 6 1, w.2) := xfrm.up xfrm.rf rfl
  refine ⟨_, ?_, fg.wk rfl, .inl rfl, hi, tw.ag (fg.agr rfl), ((fg 17 5 rfl).1).trans w5, rfl⟩
  unfold f_X3_take_17 f_X3_stop_17
  rw [w6, if_pos rfl, w5, (tw i hi).1, Option.bind_some, if_neg (fun y => z ((nI_eq (by omega) (by omega)).mp y)), if_pos rfl, xl_e]
theorem c_note_f (p : Int32) (q : Int32) (g : xG) : ∃ w, f_X3_note_17 p q g = w ∧ xfrm fN g w := by
  unfold f_X3_note_17
  split
  · exact ⟨_, rfl, xfrm.up (xfrm.up xfrm.rf rfl) rfl⟩
  · exact ⟨_, rfl, xfrm.rf⟩
theorem r_miss {i b lf lt a : Nat} {g h : xG} (hK : tkK K S E) (l : lv K S V E i b lf lt g h) (ha : a ≤ 33) (ha0 : a ≠ 0) (z : K i ≠ a) : ∃ h', f_X12_must_60 (nI (kap a)) h = some h' ∧ xfrm fM h h' ∧ dR S 1 i h' := by
  obtain ⟨g', h', e1, e2, f1, f2, d1, d2⟩ := p_fail hK l (f := 1) (.inl rfl)
  refine ⟨h', ?_, f2, d2⟩
  unfold f_X12_must_60
  rw [r_is hK l ha, if_neg z, Option.bind_some, if_pos rfl, show f_X12_fail_60 1 h = some h' from e2]
  rfl
theorem next_E {i : Nat} (hK : tkK K S E) (hi : i ≤ E) (h4 : i < 400) (z : K i ≠ 0) : i + 1 ≤ E := by
  refine Classical.byContradiction fun y => ?_
  have : i = E := by omega
  have k0 := hK.2.2.1 (by omega)
  rw [← this] at k0
  exact z k0
theorem c_hit {i a : Nat} {w : xG} (hK : tkK K S E) (hi : i ≤ E) (tw : tkC K S V E w) (w5 : w.1 17 5 = nI i) (w6 : w.1 17 6 = 0) (z : K i = a) : ∃ g', f_X3_take_17 (nI a) w = some g' ∧ xfrm fT w g' ∧ ((i < 400 ∧ g'.1 17 5 = nI (i + 1) ∧ g'.1 17 6 = 0) ∨ (i = 400 ∧ dC K S V E 2 i g')) := by
  have hE := hK.1
  by_cases y : i < 400
  · have fg : xfrm [(17, some 5)] w (xupd w.1 17 5 (nI (i + 1)), w.2) := xfrm.up xfrm.rf rfl
    refine ⟨_, ?_, fg.wk rfl, .inl ⟨y, rfl, ((fg 17 6 rfl).1).trans w6⟩⟩
    unfold f_X3_take_17
    rw [w6, if_pos rfl, w5, (tw i hi).1, Option.bind_some, z, if_pos rfl, if_pos (show nI i < (400 : Int32) from nI_lt (b := 400) y (by decide)), nI_1]
  · have fg : xfrm [(17, some 6)] w (xupd w.1 17 6 2, w.2) := xfrm.up xfrm.rf rfl
    refine ⟨_, ?_, fg.wk rfl, .inr ⟨by omega, .inr rfl, hi, tw.ag (fg.agr rfl), ((fg 17 5 rfl).1).trans w5, rfl⟩⟩
    unfold f_X3_take_17 f_X3_stop_17
    rw [w6, if_pos rfl, w5, (tw i hi).1, Option.bind_some, z, if_pos rfl, if_neg (show ¬ nI i < (400 : Int32) from nI_nlt (b := 400) (by omega) (by omega)), if_pos rfl, xl_e]
theorem r_hit {i b lf lt a : Nat} {g h : xG} (hK : tkK K S E) (l : lv K S V E i b lf lt g h) (ha : a ≤ 33) (z : K i = a) : ∃ h', f_X12_must_60 (nI (kap a)) h = some h' ∧ xfrm fM h h' ∧ ((i < 400 ∧ h'.1 60 11 = nI (i + 1) ∧ h'.1 60 13 = 0) ∨ (i = 400 ∧ dR S 2 i h')) := by
  obtain ⟨r1, r2, r3⟩ := lv_r l hK
  unfold f_X12_must_60
  rw [r_is hK l ha, if_pos z, Option.bind_some, if_neg (by decide)]
  unfold f_X12_goesOn_60
  rw [l.2.2.1.1]
  by_cases y : i = 400
  · obtain ⟨g', h', e1, e2, f1, f2, d1, d2⟩ := p_fail hK l (f := 2) (.inr rfl)
    rw [y, if_pos (show nI 400 = 400 from rfl), show f_X12_fail_60 2 h = some h' from e2]
    exact ⟨h', rfl, f2, .inr ⟨rfl, y ▸ d2⟩⟩
  · have fh : xfrm [(60, some 11)] h (xupd h.1 60 11 (nI (i + 1)), h.2) := xfrm.up xfrm.rf rfl
    rw [if_neg (show ¬ nI i = (400 : Int32) from fun u => y ((nI_eq (b := 400) (by omega) (by decide)).mp u)), nI_1]
    exact ⟨_, rfl, fh.wk rfl, .inl ⟨by omega, rfl, ((fh 60 13 rfl).1).trans l.2.2.1.2.1⟩⟩
theorem lv_next {i b b' lf lt lf' lt' : Nat} {g h g' h' : xG} (l : lv K S V E i b lf lt g h) (fg : xfrm (fT ++ fN) g g') (fh : xfrm (fM ++ fW) h h') (hE : i + 1 ≤ E) (a1 : g'.1 17 5 = nI (i + 1)) (a2 : g'.1 17 6 = 0) (a3 : g'.1 17 7 = nI lf') (b1 : h'.1 60 11 = nI (i + 1)) (b2 : h'.1 60 13 = 0) (b3 : h'.1 60 15 = nI lf') (h5 : lf' ≤ 5) (c : lf' ≠ 0 → g'.1 17 8 = nI lt' ∧ h'.1 60 16 = nI (S lt') ∧ lt' < b' ∧ lt' ≤ E) : lv K S V E (i + 1) b' lf' lt' g' h' := ⟨⟨hE, l.1.2.1.ag (fg.agr rfl), l.1.2.2.ag (fh.agr rfl)⟩, ⟨a1, a2, a3⟩, ⟨b1, b2, b3⟩, h5, c⟩
theorem c_note {g : xG} {lf : Nat} (h : g.1 17 7 = nI lf) (hl : lf ≤ 5) (p j : Nat) : ∃ g', f_X3_note_17 (nI p) (nI j) g = g' ∧ xfrm fN g g' ∧ (lf = 0 → g'.1 17 7 = nI p ∧ g'.1 17 8 = nI j) ∧ (lf ≠ 0 → g' = g) := by
  unfold f_X3_note_17
  rw [h]
  by_cases z : lf = 0
  · subst z
    rw [if_pos nI_0]
    exact ⟨_, rfl, xfrm.up (xfrm.up xfrm.rf rfl) rfl, fun _ => ⟨rfl, rfl⟩, fun y => absurd rfl y⟩
  · rw [if_neg (nI_ne0 (by omega) (by omega))]
    exact ⟨_, rfl, xfrm.rf, fun y => absurd y z, fun _ => rfl⟩
theorem r_wrong {h : xG} {lf lt j : Nat} (hK : tkK K S E) (t : tkH K S V E h) (hj : j ≤ E) (h13 : h.1 60 13 = 0) (h15 : h.1 60 15 = nI lf) (hl : lf ≤ 5) (h16 : lf ≠ 0 → h.1 60 16 = nI (S lt) ∧ lt < j) (p : Nat) : ∃ h', f_X12_wrong_60 (nI p) (nI j) h = some h' ∧ xfrm fW h h' ∧ (lf = 0 → h'.1 60 15 = nI p ∧ h'.1 60 16 = nI (S j)) ∧ (lf ≠ 0 → h' = h) := by
  have hE := hK.1
  have r2 := (t j hj).2.1
  unfold f_X12_wrong_60
  rw [xg_in (show j < 403 by omega) (by decide), h13, if_neg (by decide), h15, nI_clamp (by omega), r2]
  by_cases z : lf = 0
  · subst z
    rw [if_pos nI_0]
    exact ⟨_, rfl, xfrm.up (xfrm.up xfrm.rf rfl) rfl, fun _ => ⟨rfl, rfl⟩, fun y => absurd rfl y⟩
  · obtain ⟨q1, q2⟩ := h16 z
    have s1 := hK.2.2.2.2.1 lt j q2 hj
    have s2 := hK.2.2.2.2.2 j
    rw [if_neg (nI_ne0 (by omega) (by omega)), q1, if_pos (nI_lt s1 (by omega))]
    exact ⟨_, rfl, xfrm.rf, fun y => absurd y z, fun _ => rfl⟩
/-- a town told ahead -/
theorem p_town {i lf lt T P : Nat} {g h : xG} (hK : tkK K S E) (l : lv K S V E i i lf lt g h) (n : nmP T P lf g h) : ∃ x y g' h', f_X3_takeTown_17 g = some (x, g') ∧ f_X12_known_60 h = some (y, h') ∧ xfrm (fT ++ fN) g g' ∧ xfrm (fM ++ fW) h h' ∧ ((∃ lf' lt', i < 400 ∧ lv K S V E (i + 1) (i + 1) lf' lt' g' h' ∧ (lf ≠ 0 → lf' = lf ∧ lt' = lt) ∧ (lf' = 0 → ∃ t, t < T ∧ x = nI t ∧ y = nI t) ∧ (lf = 0 → lf' ≠ 0 → lt' = i ∧ y = -1)) ∨ dd K S V E g' h') := by
  obtain ⟨n1, n2, n3, n4, at_, hH, hrel⟩ := n
  obtain ⟨r1, r2, r3⟩ := lv_r l hK
  have vg := (l.1.2.1 i l.1.1).2.2
  have l5 := l.2.2.2.1
  have cf : f_X3_takeTown_17 g = (f_X4_townNamed_23 (V i) g).bind fun w1 => if 0 ≤ w1 then (f_X3_take_17 2 g).bind fun w2 => some (w1, w2) else xl (f_X3_note_17 4 (nI i) g) fun w3 => (f_X3_take_17 2 w3).bind fun w4 => some (w1, w4) := by
    unfold f_X3_takeTown_17
    rw [l.2.1.1, vg]
  by_cases z : K i = 2
  · have v66 := (l.1.2.2 i l.1.1).2.2.1 z
    obtain ⟨h2, t2, t4, t5⟩ := r_hit hK l (a := 2) (by decide) z
    obtain ⟨w, w1, w2, w3, w4⟩ := c_note l.2.1.2.2 l5 4 i
    obtain ⟨ga, ca, fa, oa⟩ := c_hit hK l.1.1 l.1.2.1 l.2.1.1 l.2.1.2.1 z
    obtain ⟨gb, cb, fb, ob⟩ := c_hit hK l.1.1 (l.1.2.1.ag (w2.agr (C := kTc) rfl)) (((w2 17 5 rfl).1).trans l.2.1.1) (((w2 17 6 rfl).1).trans l.2.1.2.1) z
    have rk : f_X12_known_60 h = if h2.1 60 13 ≤ 0 then f_X12_known_60_21 xN (nI i) 0 h2 else some (-1, h2) := by
      unfold f_X12_known_60
      rw [show f_X12_must_60 1 h = some h2 from t2, Option.bind_some, l.2.2.1.1]
    rw [cf]
    rcases t5 with ⟨i4, t5, t6⟩ | ⟨i4, t5⟩
    · -- both go on
      have hE := next_E hK l.1.1 i4 (by omega)
      have oa' := oa.resolve_right (fun y => by omega)
      have ob' := ob.resolve_right (fun y => by omega)
      have hH2 : nmH (T + P) at_ h2 := ⟨hH.1, ((t4 60 20 rfl).1).trans hH.2.1, fun j hj => ⟨((t4 69 j rfl).1).trans (hH.2.2 j hj).1, (hH.2.2 j hj).2⟩⟩
      have e68 : ∀ j, h2.2 68 j = h.2 68 j := fun j => (t4 68 j rfl).2
      have e66 : h2.2 66 i = V i := ((t4 66 i rfl).2).trans v66
      have th2 := l.1.2.2.ag (t4.agr (C := kTh) rfl)
      have e15 : h2.1 60 15 = nI lf := ((t4 60 15 rfl).1).trans l.2.2.1.2.2
      have e16 : lf ≠ 0 → h2.1 60 16 = nI (S lt) ∧ lt < i := fun y => ⟨((t4 60 16 rfl).1).trans (l.2.2.2.2 y).2.1, (l.2.2.2.2 y).2.2.1⟩
      obtain ⟨h3, x1, x2, x3, x4⟩ := r_wrong hK th2 l.1.1 t6 e15 l5 e16 4
      rw [rk, t6, if_pos (by decide)]
      -- the two ends: found and nothing noted; not found and noted
      have found : ∀ x y : Int32, (lf = 0 → ∃ t, t < T ∧ x = nI t ∧ y = nI t) → ∃ lf' lt', i < 400 ∧ lv K S V E (i + 1) (i + 1) lf' lt' ga h2 ∧ (lf ≠ 0 → lf' = lf ∧ lt' = lt) ∧ (lf' = 0 → ∃ t, t < T ∧ x = nI t ∧ y = nI t) ∧ (lf = 0 → lf' ≠ 0 → lt' = i ∧ y = -1) := fun x y hxy => ⟨lf, lt, i4, lv_next l (fa.wk rfl) (t4.wk rfl) hE oa'.2.1 oa'.2.2 (((fa 17 7 rfl).1).trans l.2.1.2.2) t5 t6 e15 l5 (fun u => ⟨((fa 17 8 rfl).1).trans (l.2.2.2.2 u).1, (e16 u).1, by have := (e16 u).2; omega, (l.2.2.2.2 u).2.2.2⟩), fun _ => ⟨rfl, rfl⟩, hxy, fun u v => absurd u v⟩
      rcases c_townNamed n1 n3 (V i) with ⟨t, ht, q1, q⟩ | ⟨q1, q⟩
      · rw [q, Option.bind_some, if_pos (nI_pos' (by omega)), show f_X3_take_17 2 g = some ga from ca, Option.bind_some]
        rcases r_known hH2 r3 with ⟨j, hj, j1, j2, j3⟩ | ⟨j1, j2⟩
        · refine ⟨_, _, ga, h2, rfl, j3, fa.wk rfl, t4.wk rfl, .inl (found _ _ (fun u => ⟨t, ht, rfl, ?_⟩))⟩
          obtain ⟨-, -, m3, m4⟩ := hrel u
          rw [e68, e66] at j1
          rcases m3 j hj with ⟨a1, a2⟩ | ⟨a1, -⟩
          · rw [m4 _ _ a1 ht (a2.symm.trans (j1.trans q1.symm))]
          · omega
        · by_cases u : lf = 0
          · exfalso
            obtain ⟨m1, -, -, -⟩ := hrel u
            obtain ⟨j, hj, a1, a2⟩ := m1 t ht
            exact j1 j hj (by rw [e68, e66, a1, q1]) (by omega)
          · have := x4 u
            rw [j2, show f_X12_wrong_60 4 (nI i) h2 = some h3 from x1, Option.bind_some, this]
            exact ⟨_, _, ga, h2, rfl, rfl, fa.wk rfl, t4.wk rfl, .inl (found _ _ (fun v => absurd v u))⟩
      · rw [q, Option.bind_some, if_neg (by decide), show f_X3_note_17 4 (nI i) g = w from w1, xl_e, show f_X3_take_17 2 w = some gb from cb, Option.bind_some]
        by_cases u : lf = 0
        · rcases r_known hH2 r3 with ⟨j, hj, j1, j2, j3⟩ | ⟨j1, j2⟩
          · exfalso
            obtain ⟨-, -, m3, -⟩ := hrel u
            rw [e68, e66] at j1
            rcases m3 j hj with ⟨a1, a2⟩ | ⟨a1, -⟩
            · exact q1 _ a1 (a2.symm.trans j1)
            · omega
          · rw [j2, show f_X12_wrong_60 4 (nI i) h2 = some h3 from x1, Option.bind_some]
            refine ⟨_, _, gb, h3, rfl, rfl, (w2.wk rfl).th (fb.wk rfl), (t4.wk rfl).th (x2.wk rfl), .inl ⟨4, i, i4, lv_next l ((w2.wk rfl).th (fb.wk rfl)) ((t4.wk rfl).th (x2.wk rfl)) hE ob'.2.1 ob'.2.2 (((fb 17 7 rfl).1).trans (w3 u).1) (((x2 60 11 rfl).1).trans t5) (((x2 60 13 rfl).1).trans t6) (x3 u).1 (by decide) (fun _ => ⟨((fb 17 8 rfl).1).trans (w3 u).2, (x3 u).2, by omega, l.1.1⟩), fun v => absurd u v, fun v => absurd v (by decide), fun _ _ => ⟨rfl, rfl⟩⟩⟩
        · have hwg := w4 u
          subst hwg
          have hab : gb = ga := by
            rw [ca] at cb
            exact (Option.some.inj cb).symm
          subst hab
          rcases r_known hH2 r3 with ⟨j, hj, j1, j2, j3⟩ | ⟨j1, j2⟩
          · exact ⟨_, _, gb, h2, rfl, j3, fa.wk rfl, t4.wk rfl, .inl (found _ _ (fun v => absurd v u))⟩
          · rw [j2, show f_X12_wrong_60 4 (nI i) h2 = some h3 from x1, Option.bind_some, x4 u]
            exact ⟨_, _, gb, h2, rfl, rfl, fa.wk rfl, t4.wk rfl, .inl (found _ _ (fun v => absurd v u))⟩
    · -- no room for it
      have oa' := oa.resolve_left (fun y => by omega)
      have ob' := ob.resolve_left (fun y => by omega)
      rw [rk, t5.2.1, if_neg (by decide)]
      rcases c_townNamed n1 n3 (V i) with ⟨t, ht, q1, q⟩ | ⟨q1, q⟩
      · rw [q, Option.bind_some, if_pos (nI_pos' (by omega)), show f_X3_take_17 2 g = some ga from ca, Option.bind_some]
        exact ⟨_, _, ga, h2, rfl, rfl, fa.wk rfl, t4.wk rfl, .inr ⟨2, i, oa'.2, t5⟩⟩
      · rw [q, Option.bind_some, if_neg (by decide), show f_X3_note_17 4 (nI i) g = w from w1, xl_e, show f_X3_take_17 2 w = some gb from cb, Option.bind_some]
        exact ⟨_, _, gb, h2, rfl, rfl, (w2.wk rfl).th (fb.wk rfl), t4.wk rfl, .inr ⟨2, i, ob'.2, t5⟩⟩
  · obtain ⟨h', e2, f2, d2⟩ := r_miss hK l (a := 2) (by decide) (by decide) z
    have rk : f_X12_known_60 h = some (-1, h') := by
      unfold f_X12_known_60
      rw [show f_X12_must_60 1 h = some h' from e2, Option.bind_some, d2.2.1, if_neg (f12_nle d2.1)]
    rw [cf]
    rcases c_townNamed n1 n3 (V i) with ⟨t, ht, -, q⟩ | ⟨-, q⟩
    · obtain ⟨g', c1, c2, c3⟩ := c_miss hK l.1.1 l.1.2.1 l.2.1.1 l.2.1.2.1 (a := 2) (by decide) z
      rw [q, Option.bind_some, if_pos (nI_pos' (by omega)), show f_X3_take_17 2 g = some g' from c1, Option.bind_some]
      exact ⟨_, _, g', h', rfl, rk, c2.wk rfl, f2.wk rfl, .inr ⟨1, i, c3, d2⟩⟩
    · obtain ⟨w, w1, w2⟩ := c_note_f 4 (nI i) g
      obtain ⟨g', c1, c2, c3⟩ := c_miss hK l.1.1 (l.1.2.1.ag (w2.agr (C := kTc) rfl)) (((w2 17 5 rfl).1).trans l.2.1.1) (((w2 17 6 rfl).1).trans l.2.1.2.1) (a := 2) (by decide) z
      rw [q, Option.bind_some, if_neg (by decide), w1, xl_e, show f_X3_take_17 2 w = some g' from c1, Option.bind_some]
      exact ⟨_, _, g', h', rfl, rk, (w2.wk rfl).th (c2.wk rfl), f2.wk rfl, .inr ⟨1, i, c3, d2⟩⟩
end
