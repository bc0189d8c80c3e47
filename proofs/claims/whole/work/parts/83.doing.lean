/-! undone, held, gone on from; told; the tape -/
section
variable {W : Nat → Int64} {R : pR} {L : Nat}
/-- the class measures anew behind a row that was taken back -/
theorem c_again {g w : xG} {ρ' : Nat → Int32} {c : Nat} (hR : rOK R) (h1 : rmC w R) (h2 : lwC w R) (hs : stF (rP R) ρ' (w.1 49)) (hc : ρ' 36 = nI c) (hc2 : c < 1024) : ∃ v, f_X10_measure_38 (f_X6_get_48 4 w) w = some v ∧ jC_44_48 R ρ' c v ∧ xfrm [(38, some 2), (39, none)] w v := by
  obtain ⟨v, e, m1, m2, f⟩ := c_measure38 (c := c) hR (by omega) h1
  have f' : xfrm [(38, some 2), (39, none)] w v := f
  refine ⟨v, ?_, ⟨h1.ag (f'.agr rfl), h2.ag (f'.agr rfl), m1, m2, ?_⟩, f'⟩
  · rw [c_cl48 hs, hc, e]
  · rw [show v.1 49 = w.1 49 from funext fun k => (f' 49 k rfl).1]
    exact hs
theorem m_undo : mD W R L f_X11_undo_0 f_X12_undo_60 := by
  intro g h
  obtain ⟨h0, ⟨s1, s2, s3, c, hc0, s4, s5⟩, h2, ⟨n, nw, hn, hw, u1, u2, u3, u4⟩, h4, h5, h6⟩ := id h
  by_cases z : n = 0
  · subst z
    exact m_none h (v := 0) (by unfold f_X11_undo_0; rw [u1, if_neg (by decide)]) (by unfold f_X12_undo_60; rw [u2, if_pos nI_0])
  obtain ⟨a1, a2⟩ := u4 (n - 1) (by omega)
  rw [show (nw + 41 + (n - 1) - n) % 40 = nw by omega] at a2
  obtain ⟨c', hc', ec'⟩ := a1.1
  obtain ⟨w1, e1, f1, t1⟩ := c_take52 (g := g) hw
  obtain ⟨w2, ew2⟩ : ∃ w : xG, w = (xupd (xupd w1.1 0 14 (nI ((nw + 39) % 40))) 0 13 (nI (n - 1)), w1.2) := ⟨_, rfl⟩
  have f2 : xfrm [(0, some 13), (0, some 14)] w1 w2 := ew2 ▸ xfrm.up (xfrm.up xfrm.rf rfl) rfl
  have f12 : xfrm [(49, none), (0, some 13), (0, some 14)] g w2 := (f1.wk rfl).th (f2.wk rfl)
  have hs2 : stF (rP R) (fun k => g.1 96 (40 * (n - 1) + k)) (w2.1 49) := stF_eq h0.p a2 (fun _ _ => rfl) (fun i hi => ((f2 49 i rfl).1).trans (t1 i hi))
  obtain ⟨w3, e3, j3, f3⟩ := c_again (g := g) h0 (s5.1.ag (f12.agr rfl)) (s5.2.1.ag (f12.agr rfl)) hs2 ec' hc'
  have f13 : xfrm [(49, none), (0, some 13), (0, some 14), (38, some 2), (39, none)] g w3 := (f12.wk rfl).th (f3.wk rfl)
  have cl : f_X11_undo_0 g = some (1, w3) := by
    unfold f_X11_undo_0
    have d13 : (w1.1 0 13 - 1 : Int32) = nI (n - 1) := by
      rw [(f1 0 13 rfl).1, u1]
      exact pk_sub (b := 1) (by omega)
    have d14 : ((w1.1 0 14 + 40 - 1) - (w1.1 0 14 + 40 - 1) / 40 * 40 : Int32) = nI ((nw + 39) % 40) := by
      rw [(f1 0 14 rfl).1, u3, show (nI nw + 40 - 1 : Int32) = nI (nw + 39) from by
        rw [show (40 : Int32) = nI 40 from rfl, nI_add]
        exact nI_pred (nw + 39), md40 _ (by omega)]
    have g13 : xupd w1.1 0 14 (nI ((nw + 39) % 40)) 0 13 = w1.1 0 13 := xu_ne (by decide)
    rw [u1, if_pos (show 0 < nI n from nI_lt (a := 0) (by omega) (by omega)), u3, e1, Option.bind_some, xg_t (by decide), d14, d13, ← ew2, e3, Option.bind_some]
  have rf : ∃ w4, f_X12_undo_60 w3 = some (1, w4) ∧ xfrm [(60, some 55), (93, none)] w3 w4 ∧ w4.1 60 55 = nI (n - 1) ∧ ∀ k, k < 40 → w4.1 93 k = g.1 96 (40 * (n - 1) + k) := by
    have i55 : w3.1 60 55 = nI n := ((f13 60 55 rfl).1).trans u2
    unfold f_X12_undo_60
    rw [i55, if_neg (nI_ne0 (by omega) (by omega)), show (nI n - 1 : Int32) = nI (n - 1) from pk_sub (b := 1) (by omega)]
    refine lp (fun m i (w : xG) => f_X12_undo_60_21 m i w) (fun k w => xfrm [(60, some 55), (93, none)] w3 w ∧ w.1 60 55 = nI (n - 1) ∧ ∀ i, i < k → w.1 93 i = g.1 96 (40 * (n - 1) + i)) 40 (fun o => ∃ w4, o = some (1, w4) ∧ xfrm [(60, some 55), (93, none)] w3 w4 ∧ w4.1 60 55 = nI (n - 1) ∧ ∀ k, k < 40 → w4.1 93 k = g.1 96 (40 * (n - 1) + k)) ?_ ?_ xN 0 (xupd w3.1 60 55 (nI (n - 1)), w3.2) (Nat.zero_le _) (by decide) ⟨xfrm.up xfrm.rf rfl, rfl, fun i hi => by omega⟩
    · rintro m k w hk ⟨f, e55, e⟩
      refine .inl ?_
      simp only [f_X12_undo_60_21]
      rw [if_neg (show ¬ (40 : Int32) ≤ nI k from nI_ge hk (by decide)), e55, i40, xg_in (show 40 * (n - 1) + k < 1600 by omega) (by decide), xg_in hk (by decide), nI_clamp (show k < 2 ^ 31 by omega), nI_clamp (show 40 * (n - 1) + k < 2 ^ 31 by omega), nI_1, (f 96 _ rfl).1, (f13 96 _ rfl).1]
      refine ⟨_, rfl, xfrm.up f rfl, ?_, fun i hi => ?_⟩
      · show xupd w.1 93 k (g.1 96 (40 * (n - 1) + k)) 60 55 = _
        rw [xu_q (by decide)]
        exact e55
      · dsimp only
        rw [xu_at]
        by_cases y : i = k
        · rw [if_pos ⟨rfl, y⟩, y]
        · rw [if_neg (fun x => y x.2), e i (by omega)]
    · rintro m w ⟨f, e55, e⟩
      simp only [f_X12_undo_60_21]
      rw [if_pos (show (40 : Int32) ≤ nI 40 by decide)]
      exact ⟨w, rfl, f, e55, e⟩
  obtain ⟨w4, e4, f4, q55, q93⟩ := rf
  have fa : xfrm [(49, none), (0, some 13), (0, some 14), (38, some 2), (39, none), (60, some 55), (93, none)] g w4 := (f13.wk rfl).th (f4.wk rfl)
  have j4 := j3.ag (f4.agr (C := kJ_44_48) rfl)
  refine ⟨1, w3, w4, cl, e4, h0, ?_, h2.ag (fa.agr rfl), ?_, h4.ag (fa.agr rfl), h5.ag (fa.agr rfl), h6.ag (fa.agr rfl)⟩
  · exact ⟨s1.ag (fa.agr rfl), s2.ag (fa.agr rfl), rowOK_eq h0 a1 q93, c', hc', (q93 36 (by decide)).trans ec', j4.1, j4.2.1, j4.2.2.1, j4.2.2.2.1, stF_eq h0.p j4.2.2.2.2 q93 (fun _ _ => rfl)⟩
  · refine ⟨n - 1, (nw + 39) % 40, by omega, by omega, ?_, q55, ?_, fun jj hj => ?_⟩
    · rw [(f4 0 13 rfl).1, (f3 0 13 rfl).1, ew2]
      rfl
    · rw [(f4 0 14 rfl).1, (f3 0 14 rfl).1, ew2]
      rfl
    · obtain ⟨b1, b2⟩ := u4 jj (by omega)
      rw [show ((nw + 39) % 40 + 41 + jj - (n - 1)) % 40 = (nw + 41 + jj - n) % 40 by omega]
      rw [show w4.1 96 = g.1 96 from funext fun k => (fa 96 k rfl).1, show w4.1 53 = g.1 53 from funext fun k => (fa 53 k rfl).1]
      exact ⟨b1, b2⟩
theorem aS (x : Int32) : (f_X11_isSlot x = 0 ∧ f_X12_in x 0 2 = 0) ∨ ∃ s, s < 3 ∧ x = nI s ∧ f_X11_isSlot (nI s) = 1 ∧ f_X12_in (nI s) 0 2 = 1 := by
  rcases pk_ix x (n := 3) (by decide) with h | h | ⟨j, h, rfl⟩
  · exact .inl ⟨if_pos h, in_neg h⟩
  · have a := Int32.le_iff_toInt_le.mp h
    rw [nI_toInt (by decide)] at a
    refine .inl ⟨?_, in_ge (Int32.lt_iff_toInt_lt.mpr (by rw [show (2 : Int32).toInt = 2 from rfl]; omega))⟩
    unfold f_X11_isSlot
    rw [show (3 : Int32) = nI 3 from rfl, if_pos h]
    exact ite_self _
  · refine .inr ⟨j, h, rfl, ?_, ?_⟩
    · unfold f_X11_isSlot
      rw [if_neg (nI_pos (by omega)), if_neg (show ¬ (3 : Int32) ≤ nI j from nI_ge (b := 3) h (by decide))]
    · exact in_lt (P := 3) (by decide) h
theorem m_hold (x : Int32) : mD W R L (f_X11_hold_0 x) (f_X12_hold_60 x) := by
  intro g h
  obtain ⟨h0, ⟨s1, s2, s3, c, hc0, s4, s5⟩, h2, h3, ⟨u1, u2⟩, h5, h6⟩ := id h
  rcases aS x with ⟨b1, b2⟩ | ⟨s, hs, rfl, b1, b2⟩
  · exact m_none h (by unfold f_X11_hold_0; rw [b1, if_pos rfl]) (by unfold f_X12_hold_60; rw [b2, if_pos rfl])
  obtain ⟨w1, e1, f1, t1, t2⟩ := c_keep54 (g := g) hs
  obtain ⟨w2, ew2⟩ : ∃ w : xG, w = (xupd w1.1 0 15 (nI (bq (fun s => decide (g.1 101 s = 1)) 3) ||| nI (2 ^ s)), w1.2) := ⟨_, rfl⟩
  have f2 : xfrm [(0, some 15)] w1 w2 := ew2 ▸ xfrm.up xfrm.rf rfl
  have f12 : xfrm [(55, none), (0, some 15)] g w2 := (f1.wk rfl).th (f2.wk rfl)
  have cl : f_X11_hold_0 (nI s) g = some (1, w2) := by
    unfold f_X11_hold_0
    rw [b1, if_neg (by decide), e1, Option.bind_some, (f1 0 15 rfl).1, u1, bi_bit s (by omega), ew2]
  have rf : ∃ w4, f_X12_hold_60 (nI s) w2 = some (1, w4) ∧ xfrm [(101, none), (102, none)] w2 w4 ∧ (∀ q, w4.1 101 q = if q = s then 1 else g.1 101 q) ∧ (∀ q, (∀ k, k < 40 → q ≠ 40 * s + k) → w4.1 102 q = g.1 102 q) ∧ ∀ k, k < 40 → w4.1 102 (40 * s + k) = g.1 93 k := by
    unfold f_X12_hold_60
    rw [b2, if_neg (by decide), xg_in hs (by decide), nI_clamp (by omega)]
    refine lp (fun m i (w : xG) => f_X12_hold_60_20 m (nI s) i w) (fun k w => xfrm [(101, none), (102, none)] w2 w ∧ (∀ q, w.1 101 q = if q = s then 1 else g.1 101 q) ∧ (∀ q, (∀ k, k < 40 → q ≠ 40 * s + k) → w.1 102 q = g.1 102 q) ∧ ∀ i, i < k → w.1 102 (40 * s + i) = g.1 93 i) 40 (fun o => ∃ w4, o = some (1, w4) ∧ xfrm [(101, none), (102, none)] w2 w4 ∧ (∀ q, w4.1 101 q = if q = s then 1 else g.1 101 q) ∧ (∀ q, (∀ k, k < 40 → q ≠ 40 * s + k) → w4.1 102 q = g.1 102 q) ∧ ∀ k, k < 40 → w4.1 102 (40 * s + k) = g.1 93 k) ?_ ?_ xN 0 (xupd w2.1 101 s (1 &&& 1), w2.2) (Nat.zero_le _) (by decide) ⟨xfrm.up xfrm.rf rfl, fun q => ?_, fun q _ => (f12 102 q rfl).1, fun i hi => by omega⟩
    · rintro m k w hk ⟨f, e101, e0, e⟩
      refine .inl ?_
      simp only [f_X12_hold_60_20]
      rw [if_neg (show ¬ (40 : Int32) ≤ nI k from nI_ge hk (by decide)), i40, xg_in hk (by decide), xg_in (show 40 * s + k < 120 by omega) (by decide), nI_clamp (show k < 2 ^ 31 by omega), nI_clamp (show 40 * s + k < 2 ^ 31 by omega), nI_1, (f 93 k rfl).1, (f12 93 k rfl).1]
      refine ⟨_, rfl, xfrm.up f rfl, fun q => ?_, fun q hq => ?_, fun i hi => ?_⟩
      · show xupd w.1 102 (40 * s + k) (g.1 93 k) 101 q = _
        rw [xu_q (by decide)]
        exact e101 q
      · dsimp only
        rw [xu_at, if_neg (fun y => hq k hk y.2), e0 q hq]
      · dsimp only
        rw [xu_at]
        by_cases y : i = k
        · rw [if_pos ⟨rfl, by rw [y]⟩, y]
        · rw [if_neg (fun x => y (by omega)), e i (by omega)]
    · rintro m w ⟨f, e101, e0, e⟩
      simp only [f_X12_hold_60_20]
      rw [if_pos (show (40 : Int32) ≤ nI 40 by decide)]
      exact ⟨w, rfl, f, e101, e0, e⟩
    · dsimp only
      rw [xu_at]
      by_cases y : q = s
      · rw [if_pos ⟨rfl, y⟩, if_pos y]
        rfl
      · rw [if_neg (fun x => y x.2), if_neg y, (f12 101 q rfl).1]
  obtain ⟨w4, e4, f4, q101, q0, q102⟩ := rf
  have fa : xfrm [(55, none), (0, some 15), (101, none), (102, none)] g w4 := (f12.wk rfl).th (f4.wk rfl)
  refine ⟨1, w2, w4, cl, e4, h0, h.2.1.ag (fa.agr rfl), h2.ag (fa.agr rfl), h3.ag (fa.agr rfl), ⟨?_, fun t ht => ?_⟩, h5.ag (fa.agr rfl), h6.ag (fa.agr rfl)⟩
  · rw [(f4 0 15 rfl).1, ew2]
    show (nI (bq (fun s => decide (g.1 101 s = 1)) 3) ||| nI (2 ^ s)) = _
    rw [nb_or]
    congr 1
    refine bq_set hs ?_ (fun q hq => ?_)
    · rw [q101, if_pos rfl]
      rfl
    · rw [q101, if_neg hq]
  · have e55 : ∀ q, w4.1 55 q = w1.1 55 q := fun q => ((f4 55 q rfl).1).trans (f2 55 q rfl).1
    by_cases y : t = s
    · subst y
      refine ⟨.inr (by rw [q101, if_pos rfl]), fun _ => ⟨rowOK_eq h0 s3 q102, stF_eq h0.p s5.2.2.2.2 q102 (fun i hi => (e55 _).trans (t2 i hi))⟩⟩
    · obtain ⟨v1, v2⟩ := u2 t ht
      have e101 : w4.1 101 t = g.1 101 t := (q101 t).trans (if_neg y)
      rw [e101]
      refine ⟨v1, fun v => ?_⟩
      obtain ⟨v3, v4⟩ := v2 v
      have e102 : ∀ k, k < 40 → w4.1 102 (40 * t + k) = g.1 102 (40 * t + k) := fun k hk => q0 _ (fun k' hk' => by omega)
      exact ⟨rowOK_eq h0 v3 e102, stF_eq h0.p v4 e102 (fun i hi => (e55 _).trans (t1 _ (fun i' hi' => by omega)))⟩
theorem m_restore (x : Int32) : mD W R L (f_X11_restore_0 x) (f_X12_restore_60 x) := by
  intro g h
  obtain ⟨h0, ⟨s1, s2, s3, c, hc0, s4, s5⟩, h2, ⟨n, nw, hn, hw, p1, p2, p3, p4⟩, ⟨u1, u2⟩, h5, h6⟩ := id h
  rcases aS x with ⟨b1, b2⟩ | ⟨s, hs, rfl, b1, b2⟩
  · exact m_none h (by unfold f_X11_restore_0; rw [b1, if_pos rfl]) (by unfold f_X12_restore_60; rw [b2, if_pos rfl])
  have hl := bq_lt (fun s => decide (g.1 101 s = 1)) 3
  have ht := bq_bit (fun s => decide (g.1 101 s = 1)) 3 s
  obtain ⟨v1, v2⟩ := u2 s hs
  by_cases z : g.1 101 s = 1
  · obtain ⟨a1, a2⟩ := v2 z
    obtain ⟨c', hc', ec'⟩ := a1.1
    obtain ⟨w1, e1, f1, t1⟩ := c_take54 (g := g) hs
    obtain ⟨w2, ew2⟩ : ∃ w : xG, w = (xupd w1.1 0 13 0, w1.2) := ⟨_, rfl⟩
    have f2 : xfrm [(0, some 13)] w1 w2 := ew2 ▸ xfrm.up xfrm.rf rfl
    have f12 : xfrm [(49, none), (0, some 13)] g w2 := (f1.wk rfl).th (f2.wk rfl)
    have hs2 : stF (rP R) (fun k => g.1 102 (40 * s + k)) (w2.1 49) := stF_eq h0.p a2 (fun _ _ => rfl) (fun i hi => ((f2 49 i rfl).1).trans (t1 i hi))
    obtain ⟨w3, e3, j3, f3⟩ := c_again (g := g) h0 (s5.1.ag (f12.agr rfl)) (s5.2.1.ag (f12.agr rfl)) hs2 ec' hc'
    have f13 : xfrm [(49, none), (0, some 13), (38, some 2), (39, none)] g w3 := (f12.wk rfl).th (f3.wk rfl)
    have cl : f_X11_restore_0 (nI s) g = some (1, w3) := by
      unfold f_X11_restore_0
      rw [b1, if_neg (by decide), u1, bi_bit s (by omega), if_neg (fun y => by
        rw [(bi_in (by omega) (by omega)).mp y] at ht
        simp [hs, z] at ht), e1, Option.bind_some, ← ew2, e3, Option.bind_some]
    have rf : ∃ w4, f_X12_restore_60 (nI s) w3 = some (1, w4) ∧ xfrm [(60, some 55), (93, none)] w3 w4 ∧ w4.1 60 55 = 0 ∧ ∀ k, k < 40 → w4.1 93 k = g.1 102 (40 * s + k) := by
      unfold f_X12_restore_60
      rw [b2, if_neg (by decide), xg_in hs (by decide), nI_clamp (by omega), (f13 101 s rfl).1, z, if_neg (by decide)]
      refine lp (fun m i (w : xG) => f_X12_restore_60_22 m (nI s) i w) (fun k w => xfrm [(93, none)] w3 w ∧ ∀ i, i < k → w.1 93 i = g.1 102 (40 * s + i)) 40 (fun o => ∃ w4, o = some (1, w4) ∧ xfrm [(60, some 55), (93, none)] w3 w4 ∧ w4.1 60 55 = 0 ∧ ∀ k, k < 40 → w4.1 93 k = g.1 102 (40 * s + k)) ?_ ?_ xN 0 w3 (Nat.zero_le _) (by decide) ⟨xfrm.rf, fun i hi => by omega⟩
      · rintro m k w hk ⟨f, e⟩
        refine .inl ?_
        simp only [f_X12_restore_60_22]
        rw [if_neg (show ¬ (40 : Int32) ≤ nI k from nI_ge hk (by decide)), i40, xg_in (show 40 * s + k < 120 by omega) (by decide), xg_in hk (by decide), nI_clamp (show k < 2 ^ 31 by omega), nI_clamp (show 40 * s + k < 2 ^ 31 by omega), nI_1, (f 102 _ rfl).1, (f13 102 _ rfl).1]
        refine ⟨_, rfl, xfrm.up f rfl, fun i hi => ?_⟩
        dsimp only
        rw [xu_at]
        by_cases y : i = k
        · rw [if_pos ⟨rfl, y⟩, y]
        · rw [if_neg (fun x => y x.2), e i (by omega)]
      · rintro m w ⟨f, e⟩
        simp only [f_X12_restore_60_22]
        rw [if_pos (show (40 : Int32) ≤ nI 40 by decide)]
        refine ⟨_, rfl, xfrm.up (f.wk rfl) rfl, rfl, fun k hk => ?_⟩
        show xupd w.1 60 55 0 93 k = _
        rw [xu_q (by decide)]
        exact e k hk
    obtain ⟨w4, e4, f4, q55, q93⟩ := rf
    have fa : xfrm [(49, none), (0, some 13), (38, some 2), (39, none), (60, some 55), (93, none)] g w4 := (f13.wk rfl).th (f4.wk rfl)
    have j4 := j3.ag (f4.agr (C := kJ_44_48) rfl)
    refine ⟨1, w3, w4, cl, e4, h0, ?_, h2.ag (fa.agr rfl), ?_, h.2.2.2.2.1.ag (fa.agr rfl), h5.ag (fa.agr rfl), h6.ag (fa.agr rfl)⟩
    · exact ⟨s1.ag (fa.agr rfl), s2.ag (fa.agr rfl), rowOK_eq h0 a1 q93, c', hc', (q93 36 (by decide)).trans ec', j4.1, j4.2.1, j4.2.2.1, j4.2.2.2.1, stF_eq h0.p j4.2.2.2.2 q93 (fun _ _ => rfl)⟩
    · refine ⟨0, nw, by omega, hw, ?_, q55, ((fa 0 14 rfl).1).trans p3, fun jj hj => by omega⟩
      rw [(f4 0 13 rfl).1, (f3 0 13 rfl).1, ew2]
      rfl
  · have z0 : g.1 101 s = 0 := v1.resolve_right z
    refine m_none h (v := 0) ?_ ?_
    · unfold f_X11_restore_0
      rw [b1, if_neg (by decide), u1, bi_bit s (by omega), if_pos ((bi_in (by omega) (by omega)).mpr (by
        rw [ht]
        simp [z]))]
    · unfold f_X12_restore_60
      rw [b2, if_neg (by decide), xg_in hs (by decide), nI_clamp (by omega), z0, if_pos rfl]
theorem m_tell (x : Int32) {y : Int32} (hy : y = 0 ∨ y = 1) : mD W R L (f_X11_tell_0 x y) (f_X12_tell_60 x y) := by
  intro g h
  obtain ⟨h0, h1, h2, h3, h4, ⟨n, hn, t1, t2, t3⟩, h6⟩ := id h
  have ey : y &&& 1 = y := by rcases hy with rfl | rfl <;> decide
  have bad : f_X12_in x 0 999 = 0 → f_X12_tell_60 x y g = some (-1, g) := by
    intro hb
    unfold f_X12_tell_60 f_X12_isStrokes
    rw [hb, if_pos rfl]
    exact ite_self _
  rcases pk_ix x (n := 1000) (by decide) with hx | hx | ⟨v, hv, rfl⟩
  · exact m_none h (by unfold f_X11_tell_0 f_X0_add_56; rw [if_pos hx]; rfl) (bad (in_neg hx))
  · have a := Int32.le_iff_toInt_le.mp hx
    rw [nI_toInt (by decide)] at a
    have b : (999 : Int32) < x := Int32.lt_iff_toInt_lt.mpr (by rw [show (999 : Int32).toInt = 999 from rfl]; omega)
    refine m_none h (v := -1) ?_ (bad (in_ge b))
    unfold f_X11_tell_0 f_X0_add_56
    rw [if_pos b, ite_self]
    rfl
  · have c1 : ¬ (999 : Int32) < nI v := nI_nlt (a := 999) (by omega) (by decide)
    by_cases z : n = 20
    · subst z
      refine m_none h (v := -1) ?_ ?_
      · unfold f_X11_tell_0 f_X0_add_56
        rw [if_neg (nI_pos (by omega)), if_neg c1, t1, if_neg (by decide), if_neg (by decide)]
        rfl
      · unfold f_X12_tell_60
        rw [t2, if_pos (show nI 20 = 20 from rfl)]
    · obtain ⟨w1, ew1⟩ : ∃ w : xG, w = (xupd (xupd (xupd g.1 57 n (nI v)) 58 n y) 56 5 (nI (n + 1)), g.2) := ⟨_, rfl⟩
      have f1 : xfrm [(56, some 5), (57, none), (58, none)] g w1 := ew1 ▸ xfrm.up (xfrm.up (xfrm.up xfrm.rf rfl) rfl) rfl
      obtain ⟨w2, ew2⟩ : ∃ w : xG, w = (xupd (xupd (xupd w1.1 98 n (nI v)) 99 n y) 60 58 (nI (n + 1)), w1.2) := ⟨_, rfl⟩
      have f2 : xfrm [(60, some 58), (98, none), (99, none)] w1 w2 := ew2 ▸ xfrm.up (xfrm.up (xfrm.up xfrm.rf rfl) rfl) rfl
      have fa : xfrm [(56, some 5), (57, none), (58, none), (60, some 58), (98, none), (99, none)] g w2 := (f1.wk rfl).th (f2.wk rfl)
      refine ⟨nI n, w1, w2, ?_, ?_, h0, h1.ag (fa.agr rfl), h2.ag (fa.agr rfl), h3.ag (fa.agr rfl), h4.ag (fa.agr rfl), ⟨n + 1, by omega, ?_, ?_, fun i hi => ?_⟩, h6.ag (fa.agr rfl)⟩
      · unfold f_X11_tell_0 f_X0_add_56
        rw [if_neg (nI_pos (by omega)), if_neg c1, t1, if_neg (nI_pos (by omega)), if_pos (show nI n < 20 from nI_lt (b := 20) (by omega) (by decide)), xl_e, xput_in (show n < 20 by omega) (by decide)]
        obtain ⟨wa, ewa⟩ : ∃ w : xG, w = (xupd g.1 57 n (nI v), g.2) := ⟨_, rfl⟩
        have t1' : wa.1 56 5 = nI n := by
          rw [ewa]
          show xupd g.1 57 n (nI v) 56 5 = _
          rw [xu_q (by decide)]
          exact t1
        rw [← ewa, t1', xg_in (show n < 20 by omega) (by decide), nI_clamp (by omega), ey, nI_1, nI_pred, Option.bind_some, ewa, ew1]
      · unfold f_X12_tell_60
        rw [show w1.1 60 58 = nI n from ((f1 60 58 rfl).1).trans t2, if_neg (show ¬ nI n = (20 : Int32) from fun q => z ((nI_eq (b := 20) (by omega) (by decide)).mp q)), show f_X12_isStrokes (nI v) = 1 from in_lt (P := 1000) (by decide) hv, if_neg (by decide), xg_in (show n < 20 by omega) (by decide), xg_in (show n < 20 by omega) (by decide), nI_clamp (by omega), ey, nI_1, nI_pred, ← ew2]
      · rw [(f2 56 5 rfl).1, ew1]
        rfl
      · rw [ew2]
        rfl
      · rw [(f2 57 i rfl).1, (f2 58 i rfl).1, ew2]
        dsimp only
        rw [xu_q (show 98 ≠ 60 by decide), xu_q (show 98 ≠ 99 by decide), xu_at, xu_q (show 99 ≠ 60 by decide), xu_at, xu_q (show (99 : Nat) ≠ 98 by decide), (f1 98 i rfl).1, (f1 99 i rfl).1, ew1]
        dsimp only
        rw [xu_q (show 57 ≠ 56 by decide), xu_q (show 57 ≠ 58 by decide), xu_at, xu_q (show 58 ≠ 56 by decide), xu_at, xu_q (show (58 : Nat) ≠ 57 by decide)]
        by_cases q : i = n
        · rw [if_pos ⟨rfl, q⟩, if_pos ⟨rfl, q⟩, if_pos ⟨rfl, q⟩, if_pos ⟨rfl, q⟩]
          exact ⟨rfl, rfl, hy⟩
        · rw [if_neg (fun u => q u.2), if_neg (fun u => q u.2), if_neg (fun u => q u.2), if_neg (fun u => q u.2)]
          exact t3 i (by omega)
theorem m_forget : mD W R L (fun g => some (f_X11_forget_0 g)) (fun g => some (f_X12_forget_60 g)) := by
  intro g h
  obtain ⟨h0, h1, h2, h3, h4, ⟨n, hn, t1, t2, t3⟩, h6⟩ := id h
  obtain ⟨w1, ew1⟩ : ∃ w : xG, w = (xupd g.1 56 5 0, g.2) := ⟨_, rfl⟩
  have f1 : xfrm [(56, some 5)] g w1 := ew1 ▸ xfrm.up xfrm.rf rfl
  obtain ⟨w2, ew2⟩ : ∃ w : xG, w = (xupd w1.1 60 58 0, w1.2) := ⟨_, rfl⟩
  have f2 : xfrm [(60, some 58)] w1 w2 := ew2 ▸ xfrm.up xfrm.rf rfl
  have fa : xfrm [(56, some 5), (60, some 58)] g w2 := (f1.wk rfl).th (f2.wk rfl)
  refine ⟨nI n, w1, w2, ?_, ?_, h0, h1.ag (fa.agr rfl), h2.ag (fa.agr rfl), h3.ag (fa.agr rfl), h4.ag (fa.agr rfl), ⟨0, by omega, ?_, ?_, fun i hi => by omega⟩, h6.ag (fa.agr rfl)⟩
  · show some (g.1 56 5, (xupd g.1 56 5 0, g.2)) = some (nI n, w1)
    rw [t1, ← ew1]
  · show some (w1.1 60 58, (xupd w1.1 60 58 0, w1.2)) = some (nI n, w2)
    rw [show w1.1 60 58 = nI n from ((f1 60 58 rfl).1).trans t2, ← ew2]
  · rw [(f2 56 5 rfl).1, ew1]
    rfl
  · rw [ew2]
    rfl
theorem m_back (x : Int32) : mD W R L (fun g => some (f_X11_back_0 x g)) (fun g => some (f_X12_back_60 x g)) := by
  intro g h
  obtain ⟨h0, h1, ⟨hp, n, hn, t1, t2, t3⟩, h3, h4, h5, h6⟩ := id h
  rcases pk_ix x (n := n + 1) (by omega) with hx | hx | ⟨v, hv, rfl⟩
  · refine ⟨-1, g, g, ?_, ?_, h⟩
    · show some (f_X11_back_0 x g) = _
      unfold f_X11_back_0 f_X8_cut_1
      rw [if_pos hx, xl_e, if_pos rfl]
    · show some (f_X12_back_60 x g) = _
      unfold f_X12_back_60
      rw [if_pos hx]
  · have a := Int32.le_iff_toInt_le.mp hx
    rw [nI_toInt (by omega)] at a
    have b : ¬ x ≤ nI n := fun q => by
      have := Int32.le_iff_toInt_le.mp q
      rw [nI_toInt (by omega)] at this
      omega
    refine ⟨-1, g, g, ?_, ?_, h⟩
    · show some (f_X11_back_0 x g) = _
      unfold f_X11_back_0 f_X8_cut_1
      rw [t1, if_neg b, ite_self, xl_e, if_pos rfl]
    · show some (f_X12_back_60 x g) = _
      unfold f_X12_back_60
      rw [t2, if_neg b, ite_self]
  · obtain ⟨w1, ew1⟩ : ∃ w : xG, w = (xupd g.1 1 1 (nI (n - v)), g.2) := ⟨_, rfl⟩
    have f1 : xfrm [(1, some 1)] g w1 := ew1 ▸ xfrm.up xfrm.rf rfl
    obtain ⟨w2, ew2⟩ : ∃ w : xG, w = (xupd w1.1 60 2 (nI (n - v)), w1.2) := ⟨_, rfl⟩
    have f2 : xfrm [(60, some 2)] w1 w2 := ew2 ▸ xfrm.up xfrm.rf rfl
    have fa : xfrm [(1, some 1), (60, some 2)] g w2 := (f1.wk rfl).th (f2.wk rfl)
    refine ⟨nI (n - v), w1, w2, ?_, ?_, h0, h1.ag (fa.agr rfl), ⟨?_, n - v, by omega, ?_, ?_, fun i hi => ?_⟩, h3.ag (fa.agr rfl), h4.ag (fa.agr rfl), h5.ag (fa.agr rfl), h6.ag (fa.agr rfl)⟩
    · show some (f_X11_back_0 (nI v) g) = _
      unfold f_X11_back_0 f_X8_cut_1
      rw [t1, if_neg (nI_pos (by omega)), if_pos (nI_le (by omega) (by omega)), xl_e, if_neg (show ¬ (1 : Int32) = 0 by decide), pk_sub (by omega), ← ew1]
      show some (w1.1 1 1, w1) = _
      rw [ew1]
      rfl
    · show some (f_X12_back_60 (nI v) w1) = _
      unfold f_X12_back_60
      rw [show w1.1 60 2 = nI n from ((f1 60 2 rfl).1).trans t2, if_neg (nI_pos (by omega)), if_pos (nI_le (by omega) (by omega)), pk_sub (by omega), ← ew2]
    · rw [(fa 0 16 rfl).1, (fa 60 17 rfl).1]
      exact hp
    · rw [(f2 1 1 rfl).1, ew1]
      rfl
    · rw [ew2]
      rfl
    · rw [(fa 2 i rfl).1, (fa 61 i rfl).1]
      exact t3 i (by omega)
theorem m_place : mD W R L (fun g => some (f_X11_place_0 g, g)) (fun g => some (f_X12_place_60 g, g)) := by
  intro g h
  refine ⟨g.1 0 16, g, g, rfl, ?_, h⟩
  show some (g.1 60 17, g) = _
  rw [h.2.2.1.1]
/-! twenty bytes more -/
def bVc (p : Int32) (s : Nat) : Int32 := (((p.toUInt32 >>> ((nI s).toUInt32 &&& Int32.toUInt32 31)).toInt32).toInt8.toInt32).toInt8.toInt32
def bVr (p : Int32) (s : Nat) : Int32 := ((p >>> (nI s &&& 31)).toInt8.toInt32).toInt8.toInt32
theorem bV_eq (p : Int32) {s : Nat} (hs : s = 24 ∨ s = 16 ∨ s = 8 ∨ s = 0) : bVc p s = bVr p s := by
  unfold bVc bVr
  congr 3
  apply Int8.toBitVec_inj.1
  apply BitVec.eq_of_getLsbD_eq
  intro i hi
  have key : ∀ k, k ≤ 24 → (BitVec.signExtend 8 (p.toBitVec >>> k)).getLsbD i = (BitVec.signExtend 8 (p.toBitVec.sshiftRight k)).getLsbD i := by
    intro k hk
    rw [BitVec.getLsbD_signExtend, BitVec.getLsbD_signExtend, BitVec.getLsbD_ushiftRight, BitVec.getLsbD_sshiftRight]
    rw [if_pos (show i < 32 by omega), if_pos (show i < 32 by omega), decide_eq_true hi]
    simp [show k + i < 32 by omega, show ¬ 32 ≤ i by omega]
  rcases hs with rfl | rfl | rfl | rfl
  · exact key 24 (by decide)
  · exact key 16 (by decide)
  · exact key 8 (by decide)
  · exact key 0 (by decide)
end
