/-! more prims: new names, room, and the class's dead runs -/
section
variable {K S : Nat → Nat} {V : Nat → Int64} {E : Nat}
theorem r_named12 {h : xG} {n i lf lt : Nat} {at_ : Nat → Nat} (hK : tkK K S E) (t : tkH K S V E h) (hi : i ≤ E) (hn : nmH n at_ h) (h13 : h.1 60 13 = 0) (h15 : h.1 60 15 = nI lf) (hl : lf ≤ 5) (h16 : lf ≠ 0 → h.1 60 16 = nI (S lt) ∧ lt < i) : ∃ h', f_X12_named_60_12 xN (nI i) 0 h = some (nI i, h') ∧ xfrm fW h h' ∧ (lf ≠ 0 → h' = h) ∧ (lf = 0 → ((∀ j, j < n → h.2 68 j ≠ h.2 66 i) ∧ h' = h) ∨ ((∃ j, j < n ∧ h.2 68 j = h.2 66 i) ∧ h'.1 60 15 = nI 3 ∧ h'.1 60 16 = nI (S i))) := by
  obtain ⟨n13, e20, e69⟩ := hn
  have hE := hK.1
  have hS := hK.2.2.2.2.2 i
  refine lp (fun m k (w : xG) => f_X12_named_60_12 m (nI i) k w) (fun k w => xfrm fW h w ∧ (lf ≠ 0 → w = h) ∧ (lf = 0 → ((∀ j, j < k → h.2 68 j ≠ h.2 66 i) ∧ w = h) ∨ ((∃ j, j < n ∧ h.2 68 j = h.2 66 i) ∧ w.1 60 15 = nI 3 ∧ w.1 60 16 = nI (S i)))) n (fun o => ∃ h', o = some (nI i, h') ∧ xfrm fW h h' ∧ (lf ≠ 0 → h' = h) ∧ (lf = 0 → ((∀ j, j < n → h.2 68 j ≠ h.2 66 i) ∧ h' = h) ∨ ((∃ j, j < n ∧ h.2 68 j = h.2 66 i) ∧ h'.1 60 15 = nI 3 ∧ h'.1 60 16 = nI (S i)))) ?_ ?_ xN 0 h (Nat.zero_le _) (by show n < 4000 + 0; omega) ⟨xfrm.rf, fun _ => rfl, fun _ => .inl ⟨fun j hj => by omega, rfl⟩⟩
  · rintro m k w hk ⟨f, e1, e2⟩
    refine .inl ?_
    simp only [f_X12_named_60_12]
    rw [(f 60 20 rfl).1, e20, if_neg (nI_ge hk (by omega)), (f 60 13 rfl).1, h13, if_pos rfl, xg_in (show k < 13 by omega) (by decide), xg_in (show i < 403 by omega) (by decide), nI_clamp (show k < 2 ^ 31 by omega), nI_clamp (show i < 2 ^ 31 by omega), (f 68 k rfl).2, (f 66 i rfl).2, nI_1]
    by_cases z : h.2 68 k = h.2 66 i
    · rw [if_pos ((lg_cmp_eq _ _).mpr z)]
      by_cases u : lf = 0
      · rcases e2 u with ⟨q1, q2⟩ | ⟨q1, q2, q3⟩
        · subst q2
          obtain ⟨h3, x1, x2, x3, x4⟩ := r_wrong hK t hi h13 h15 hl h16 3
          rw [show f_X12_wrong_60 3 (nI i) w = some h3 from x1, Option.bind_some]
          exact ⟨h3, rfl, x2, fun v => absurd u v, fun _ => .inr ⟨⟨k, hk, z⟩, x3 u⟩⟩
        · have : f_X12_wrong_60 3 (nI i) w = some w := by
            unfold f_X12_wrong_60
            rw [xg_in (show i < 403 by omega) (by decide), (f 60 13 rfl).1, h13, if_neg (by decide), q2, if_neg (by decide), nI_clamp (by omega), (f 64 i rfl).1, (t i hi).2.1, q3, if_neg (nI_nlt (Nat.le_refl _) (by omega)), if_pos rfl, if_neg (by decide)]
          rw [this, Option.bind_some]
          exact ⟨w, rfl, f, fun v => absurd u v, fun _ => .inr ⟨q1, q2, q3⟩⟩
      · have ew := e1 u
        subst ew
        obtain ⟨h3, x1, x2, x3, x4⟩ := r_wrong hK t hi h13 h15 hl h16 3
        rw [show f_X12_wrong_60 3 (nI i) w = some h3 from x1, Option.bind_some, x4 u]
        exact ⟨w, rfl, f, fun _ => rfl, fun v => absurd v u⟩
    · rw [if_neg (fun y => z ((lg_cmp_eq _ _).mp y))]
      refine ⟨w, rfl, f, e1, fun u => (e2 u).imp (fun y => ⟨fun j hj => ?_, y.2⟩) id⟩
      by_cases x : j = k
      · rw [x]; exact z
      · exact y.1 j (by omega)
  · rintro m w ⟨f, e1, e2⟩
    simp only [f_X12_named_60_12]
    rw [(f 60 20 rfl).1, e20, if_pos (nI_le (Nat.le_refl _) (by omega))]
    exact ⟨w, rfl, f, e1, e2⟩
theorem rd_named12 {f i j : Nat} {h : xG} (d : dR S f i h) {n : Nat} (hn : h.1 60 20 = nI n) (hn2 : n < 2 ^ 31) : f_X12_named_60_12 xN (nI j) 0 h = some (nI j, h) := by
  show f_X12_named_60_12 (3999 + 1) (nI j) 0 h = _
  rw [f_X12_named_60_12]
  rw [hn, d.2.1, if_neg (f12_ne d.1)]
  split <;> rfl
/-- a new name -/
theorem p_name {i lf lt T P : Nat} {g h : xG} (hK : tkK K S E) (l : lv K S V E i i lf lt g h) (n : nmP T P lf g h) : ∃ g' h', f_X3_takeNewName_17 g = some (V i, g') ∧ f_X12_named_60 h = some (nI i, h') ∧ xfrm (fT ++ fN) g g' ∧ xfrm (fM ++ fW) h h' ∧ ((∃ lf' lt', i < 400 ∧ K i = 2 ∧ lv K S V E (i + 1) (i + 1) lf' lt' g' h' ∧ (lf ≠ 0 → lf' ≠ 0) ∧ (lf' = 0 → (∀ p, p < P → g.2 28 p ≠ V i) ∧ ∀ t, t < T → g.2 24 t ≠ V i)) ∨ dd K S V E g' h') := by
  obtain ⟨n1, n2, n3, n4, at_, hH, hrel⟩ := n
  obtain ⟨r1, r2, r3⟩ := lv_r l hK
  have vg := (l.1.2.1 i l.1.1).2.2
  have l5 := l.2.2.2.1
  have cf : f_X3_takeNewName_17 g = (f_X4_hasName_23 (V i) g).bind fun w1 => if w1 = 0 then (f_X3_take_17 2 g).bind fun w2 => some (V i, w2) else xl (f_X3_note_17 3 (nI i) g) fun w3 => (f_X3_take_17 2 w3).bind fun w4 => some (V i, w4) := by
    unfold f_X3_takeNewName_17
    rw [l.2.1.1, vg]
  obtain ⟨w, w1, w2, w3, w4⟩ := c_note l.2.1.2.2 l5 3 i
  by_cases z : K i = 2
  · have v66 := (l.1.2.2 i l.1.1).2.2.1 z
    obtain ⟨h2, t2, t4, t5⟩ := r_hit hK l (a := 2) (by decide) z
    obtain ⟨ga, ca, fa, oa⟩ := c_hit hK l.1.1 l.1.2.1 l.2.1.1 l.2.1.2.1 z
    obtain ⟨gb, cb, fb, ob⟩ := c_hit hK l.1.1 (l.1.2.1.ag (w2.agr (C := kTc) rfl)) (((w2 17 5 rfl).1).trans l.2.1.1) (((w2 17 6 rfl).1).trans l.2.1.2.1) z
    have rk : f_X12_named_60 h = f_X12_named_60_12 xN (nI i) 0 h2 := by
      unfold f_X12_named_60
      rw [show f_X12_must_60 1 h = some h2 from t2, Option.bind_some, l.2.2.1.1]
    rw [cf, rk]
    have hH2 : nmH (T + P) at_ h2 := ⟨hH.1, ((t4 60 20 rfl).1).trans hH.2.1, fun j hj => ⟨((t4 69 j rfl).1).trans (hH.2.2 j hj).1, (hH.2.2 j hj).2⟩⟩
    rcases t5 with ⟨i4, t5, t6⟩ | ⟨i4, t5⟩
    · have hE := next_E hK l.1.1 i4 (by omega)
      have oa' := oa.resolve_right (fun y => by omega)
      have ob' := ob.resolve_right (fun y => by omega)
      have e68 : ∀ j, h2.2 68 j = h.2 68 j := fun j => (t4 68 j rfl).2
      have e66 : h2.2 66 i = V i := ((t4 66 i rfl).2).trans v66
      have th2 := l.1.2.2.ag (t4.agr (C := kTh) rfl)
      have e15 : h2.1 60 15 = nI lf := ((t4 60 15 rfl).1).trans l.2.2.1.2.2
      have e16 : lf ≠ 0 → h2.1 60 16 = nI (S lt) ∧ lt < i := fun y => ⟨((t4 60 16 rfl).1).trans (l.2.2.2.2 y).2.1, (l.2.2.2.2 y).2.2.1⟩
      obtain ⟨h3, x1, x2, x3, x4⟩ := r_named12 hK th2 l.1.1 hH2 t6 e15 l5 e16
      rw [x1]
      have none : ∀ h3, h3 = h2 → (lf = 0 → (∀ p, p < P → g.2 28 p ≠ V i) ∧ ∀ t, t < T → g.2 24 t ≠ V i) → ∃ lf' lt', i < 400 ∧ K i = 2 ∧ lv K S V E (i + 1) (i + 1) lf' lt' ga h3 ∧ (lf ≠ 0 → lf' ≠ 0) ∧ (lf' = 0 → (∀ p, p < P → g.2 28 p ≠ V i) ∧ ∀ t, t < T → g.2 24 t ≠ V i) := fun h3 e q => ⟨lf, lt, i4, z, e ▸ lv_next l (fa.wk rfl) (t4.wk rfl) hE oa'.2.1 oa'.2.2 (((fa 17 7 rfl).1).trans l.2.1.2.2) t5 t6 e15 l5 (fun u => ⟨((fa 17 8 rfl).1).trans (l.2.2.2.2 u).1, (e16 u).1, by have := (e16 u).2; omega, (l.2.2.2.2 u).2.2.2⟩), id, q⟩
      by_cases u : lf = 0
      · obtain ⟨m1, m2, m3, m4⟩ := hrel u
        rcases c_hasName n1 n2 n3 n4 (V i) with ⟨q1, q⟩ | ⟨q1, q2, q⟩
        · rw [q, Option.bind_some, if_neg (by decide), show f_X3_note_17 3 (nI i) g = w from w1, xl_e, show f_X3_take_17 2 w = some gb from cb, Option.bind_some]
          rcases x4 u with ⟨y1, -⟩ | ⟨-, y2, y3⟩
          · exfalso
            rcases q1 with ⟨p, hp, q1⟩ | ⟨t, ht, q1⟩
            · obtain ⟨j, hj, a1, -⟩ := m2 p hp
              exact y1 j hj (by rw [e68, e66, a1, q1])
            · obtain ⟨j, hj, a1, -⟩ := m1 t ht
              exact y1 j hj (by rw [e68, e66, a1, q1])
          · exact ⟨gb, h3, rfl, rfl, (w2.wk rfl).th (fb.wk rfl), (t4.wk rfl).th (x2.wk rfl), .inl ⟨3, i, i4, z, lv_next l ((w2.wk rfl).th (fb.wk rfl)) ((t4.wk rfl).th (x2.wk rfl)) hE ob'.2.1 ob'.2.2 (((fb 17 7 rfl).1).trans (w3 u).1) (((x2 60 11 rfl).1).trans t5) (((x2 60 13 rfl).1).trans t6) y2 (by decide) (fun _ => ⟨((fb 17 8 rfl).1).trans (w3 u).2, y3, by omega, l.1.1⟩), fun _ => by decide, fun v => absurd v (by decide)⟩⟩
        · rw [q, Option.bind_some, if_pos rfl, show f_X3_take_17 2 g = some ga from ca, Option.bind_some]
          rcases x4 u with ⟨-, y2⟩ | ⟨⟨j, hj, y1⟩, -⟩
          · exact ⟨ga, h3, rfl, rfl, fa.wk rfl, (t4.wk rfl).th (x2.wk rfl), .inl (none h3 y2 (fun _ => ⟨q1, q2⟩))⟩
          · exfalso
            rw [e68, e66] at y1
            rcases m3 j hj with ⟨a1, a2⟩ | ⟨-, p, hp, a2⟩
            · exact q2 _ a1 (a2.symm.trans y1)
            · exact q1 p hp (a2.symm.trans y1)
      · have hh := x3 u
        have hwg := w4 u
        subst hwg
        have hab : gb = ga := by
          rw [ca] at cb
          exact (Option.some.inj cb).symm
        subst hab
        have both : ∀ v, f_X4_hasName_23 (V i) w = some v → ∃ g' h', ((f_X4_hasName_23 (V i) w).bind fun w1 => if w1 = 0 then (f_X3_take_17 2 w).bind fun w2 => some (V i, w2) else xl (f_X3_note_17 3 (nI i) w) fun w3 => (f_X3_take_17 2 w3).bind fun w4 => some (V i, w4)) = some (V i, g') ∧ (some (nI i, h3) : Option (Int32 × xG)) = some (nI i, h') ∧ xfrm (fT ++ fN) w g' ∧ xfrm (fM ++ fW) h h' ∧ ((∃ lf' lt', i < 400 ∧ K i = 2 ∧ lv K S V E (i + 1) (i + 1) lf' lt' g' h' ∧ (lf ≠ 0 → lf' ≠ 0) ∧ (lf' = 0 → (∀ p, p < P → w.2 28 p ≠ V i) ∧ ∀ t, t < T → w.2 24 t ≠ V i)) ∨ dd K S V E g' h') := by
          intro v hv
          refine ⟨gb, h3, ?_, rfl, fa.wk rfl, (t4.wk rfl).th (x2.wk rfl), .inl (none h3 hh (fun y => absurd y u))⟩
          rw [hv, Option.bind_some, show f_X3_note_17 3 (nI i) w = w from w1, xl_e, show f_X3_take_17 2 w = some gb from ca, Option.bind_some]
          split <;> rfl
        rcases c_hasName n1 n2 n3 n4 (V i) with ⟨-, q⟩ | ⟨-, -, q⟩
        · exact both _ q
        · exact both _ q
    · have oa' := oa.resolve_left (fun y => by omega)
      have ob' := ob.resolve_left (fun y => by omega)
      rw [rd_named12 t5 hH2.2.1 (by have := hH2.1; omega)]
      rcases c_hasName n1 n2 n3 n4 (V i) with ⟨-, q⟩ | ⟨-, -, q⟩
      · rw [q, Option.bind_some, if_neg (by decide), show f_X3_note_17 3 (nI i) g = w from w1, xl_e, show f_X3_take_17 2 w = some gb from cb, Option.bind_some]
        exact ⟨gb, h2, rfl, rfl, (w2.wk rfl).th (fb.wk rfl), t4.wk rfl, .inr ⟨2, i, ob'.2, t5⟩⟩
      · rw [q, Option.bind_some, if_pos rfl, show f_X3_take_17 2 g = some ga from ca, Option.bind_some]
        exact ⟨ga, h2, rfl, rfl, fa.wk rfl, t4.wk rfl, .inr ⟨2, i, oa'.2, t5⟩⟩
  · obtain ⟨h', e2, f2, d2⟩ := r_miss hK l (a := 2) (by decide) (by decide) z
    have rk : f_X12_named_60 h = some (nI i, h') := by
      unfold f_X12_named_60
      rw [show f_X12_must_60 1 h = some h' from e2, Option.bind_some, l.2.2.1.1]
      exact rd_named12 d2 (n := T + P) (((f2 60 20 rfl).1).trans hH.2.1) (by have := hH.1; omega)
    rw [cf]
    rcases c_hasName n1 n2 n3 n4 (V i) with ⟨-, q⟩ | ⟨-, -, q⟩
    · obtain ⟨g', c1, c2, c3⟩ := c_miss hK l.1.1 (l.1.2.1.ag (w2.agr (C := kTc) rfl)) (((w2 17 5 rfl).1).trans l.2.1.1) (((w2 17 6 rfl).1).trans l.2.1.2.1) (a := 2) (by decide) z
      rw [q, Option.bind_some, if_neg (by decide), show f_X3_note_17 3 (nI i) g = w from w1, xl_e, show f_X3_take_17 2 w = some g' from c1, Option.bind_some]
      exact ⟨g', h', rfl, rk, (w2.wk rfl).th (c2.wk rfl), f2.wk rfl, .inr ⟨1, i, c3, d2⟩⟩
    · obtain ⟨g', c1, c2, c3⟩ := c_miss hK l.1.1 l.1.2.1 l.2.1.1 l.2.1.2.1 (a := 2) (by decide) z
      rw [q, Option.bind_some, if_pos rfl, show f_X3_take_17 2 g = some g' from c1, Option.bind_some]
      exact ⟨g', h', rfl, rk, c2.wk rfl, f2.wk rfl, .inr ⟨1, i, c3, d2⟩⟩
/-- room for one more -/
theorem p_more {i b lf lt a had most : Nat} {g h : xG} (hK : tkK K S E) (l : lv K S V E i b lf lt g h) (ha : K i = a) (ha0 : a ≠ 0) (hm : had ≤ most) (hm2 : most ≤ 10) : ∃ g' h', f_X3_takeOneMore_17 (nI a) (nI had) (nI most) g = some g' ∧ f_X12_roomFor_60 (nI had) (nI most) h = some h' ∧ xfrm fT g g' ∧ xfrm fM h h' ∧ ((had < most ∧ i < 400 ∧ lv K S V E (i + 1) b lf lt g' h') ∨ dd K S V E g' h') := by
  unfold f_X3_takeOneMore_17 f_X12_roomFor_60
  rw [ite_lt (by omega) (by omega), ite_eqn (by omega) (by omega), l.2.2.1.2.1, if_pos rfl]
  by_cases z : had < most
  · obtain ⟨g', h', e1, e2, f1, f2, o⟩ := p_goes hK l ha ha0
    rw [if_pos z, e1, if_neg (show ¬ had = most by omega), e2]
    exact ⟨g', h', rfl, rfl, f1, f2, o.imp (fun y => ⟨z, y⟩) id⟩
  · obtain ⟨g', h', e1, e2, f1, f2, d1, d2⟩ := p_fail hK l (f := 2) (.inr rfl)
    rw [if_neg z, show f_X3_stop_17 2 g = g' from e1, xl_e, cd_take d1, if_pos (show had = most by omega), show f_X12_fail_60 2 h = some h' from e2, Option.bind_some, Option.bind_some, d2.2.1, if_neg (f12_ne d2.1)]
    exact ⟨g', h', rfl, rfl, f1, f2, .inr ⟨2, i, d1, d2⟩⟩
/-! the class's dead runs -/
theorem cd_town {f i T : Nat} {g : xG} (d : dC K S V E f i g) (hT : T ≤ 7) (e9 : g.1 23 9 = nI T) : ∃ x g', f_X3_takeTown_17 g = some (x, g') ∧ xfrm fN g g' := by
  unfold f_X3_takeTown_17
  obtain ⟨w, w1, w2⟩ := c_note_f 4 (g.1 17 5) g
  rcases c_townNamed hT e9 (f_X9_valueOf_18 (g.1 17 5) g) with ⟨t, ht, q1, q⟩ | ⟨q1, q⟩
  · rw [q, Option.bind_some, if_pos (nI_pos' (by omega)), cd_take d, Option.bind_some]
    exact ⟨_, g, rfl, xfrm.rf⟩
  · rw [q, Option.bind_some, if_neg (by decide), w1, xl_e, cd_take (d.ag (w2.agr rfl)), Option.bind_some]
    exact ⟨_, w, rfl, w2⟩
theorem cd_num {f i : Nat} {g : xG} (d : dC K S V E f i g) (a b : Int32) : ∃ x g', f_X3_takeNumber_17 a b g = some (x, g') ∧ xfrm fN g g' := by
  unfold f_X3_takeNumber_17
  obtain ⟨w, w1, w2⟩ := c_note_f 5 (g.1 17 5) g
  rw [w1, xl_e, cd_take d, cd_take (d.ag (w2.agr rfl)), Option.bind_some, Option.bind_some]
  split
  · exact ⟨_, w, rfl, w2⟩
  · split
    · exact ⟨_, g, rfl, xfrm.rf⟩
    · exact ⟨_, w, rfl, w2⟩
theorem cd_name {f i T P : Nat} {g : xG} (d : dC K S V E f i g) (hT : T ≤ 7) (hP : P ≤ 6) (e9 : g.1 23 9 = nI T) (e11 : g.1 23 11 = nI P) : ∃ x g', f_X3_takeNewName_17 g = some (x, g') ∧ xfrm fN g g' := by
  unfold f_X3_takeNewName_17
  obtain ⟨w, w1, w2⟩ := c_note_f 3 (g.1 17 5) g
  rw [w1]
  rcases c_hasName hT hP e9 e11 (f_X9_valueOf_18 (g.1 17 5) g) with ⟨-, q⟩ | ⟨-, -, q⟩
  · rw [q, Option.bind_some, if_neg (by decide), xl_e, cd_take (d.ag (w2.agr rfl)), Option.bind_some]
    exact ⟨_, w, rfl, w2⟩
  · rw [q, Option.bind_some, if_pos rfl, cd_take d, Option.bind_some]
    exact ⟨_, g, rfl, xfrm.rf⟩
/-! the reference's dead runs -/
theorem rd_known {f i : Nat} {h : xG} (d : dR S f i h) : f_X12_known_60 h = some (-1, h) := by
  unfold f_X12_known_60
  rw [rd_must d, Option.bind_some, d.2.1, if_neg (f12_nle d.1)]
theorem rd_bounded {f i : Nat} {h : xG} (d : dR S f i h) (a b : Int32) : f_X12_bounded_60 a b h = some (a, h) := by
  unfold f_X12_bounded_60
  rw [d.2.1, if_pos (f12_pos d.1), rd_fail d]
  rfl
theorem rd_ends {f i : Nat} {h : xG} (d : dR S f i h) (a b : Int32) : f_X12_endsName_60 a b h = some h := by
  unfold f_X12_endsName_60
  rw [rd_must d, Option.bind_some, d.2.1, if_neg (f12_nle d.1)]
theorem rd_goes {f i : Nat} {h : xG} (d : dR S f i h) : ∃ h', f_X12_goesOn_60 h = some h' ∧ xfrm [(60, some 11)] h h' := by
  unfold f_X12_goesOn_60
  rw [rd_fail d, Option.bind_some]
  split
  · exact ⟨h, rfl, xfrm.rf⟩
  · exact ⟨_, rfl, xfrm.up xfrm.rf rfl⟩
end
