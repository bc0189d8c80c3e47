/-! read: both read the same -/
def allLt (C : List (Nat × Option Nat)) : Bool := C.all fun e => Nat.blt e.1 60
def allGe (C : List (Nat × Option Nat)) : Bool := C.all fun e => Nat.ble 60 e.1
theorem xcov_mem {C : List (Nat × Option Nat)} {q k : Nat} (h : xcov C q k = true) : ∃ e, e ∈ C ∧ e.1 = q := by
  unfold xcov at h
  obtain ⟨e, he, h2⟩ := List.any_eq_true.mp h
  refine ⟨e, he, ?_⟩
  have := (Bool.and_eq_true_iff.mp h2).1
  exact Nat.eq_of_beq_eq_true this
theorem lt_cov {C : List (Nat × Option Nat)} {q k : Nat} (hC : allLt C = true) (hq : 60 ≤ q) : xcov C q k = false := by
  by_cases h : xcov C q k = true
  · obtain ⟨e, he, rfl⟩ := xcov_mem h
    have h3 := List.all_eq_true.mp hC e he
    have h4 := Nat.le_of_ble_eq_true h3
    omega
  · exact Bool.eq_false_iff.mpr h
theorem ge_cov {C : List (Nat × Option Nat)} {q k : Nat} (hC : allGe C = true) (hq : q < 60) : xcov C q k = false := by
  by_cases h : xcov C q k = true
  · obtain ⟨e, he, rfl⟩ := xcov_mem h
    have h3 := List.all_eq_true.mp hC e he
    have h4 := Nat.le_of_ble_eq_true h3
    omega
  · exact Bool.eq_false_iff.mpr h
def agL (g w : xG) : Prop := ∀ q k, q < 60 → w.1 q k = g.1 q k ∧ w.2 q k = g.2 q k
def agG (g w : xG) : Prop := ∀ q k, 60 ≤ q → w.1 q k = g.1 q k ∧ w.2 q k = g.2 q k
theorem ag2 {FP FP' C : List (Nat × Option Nat)} {g h g' h' w : xG} (fc : xfrm FP g g') (fr : xfrm FP' h h') (hr : agG g h) (w1 : agL g' w) (w2 : agG h' w) (hC : xfree FP C = true) (hC' : xfree FP' C = true) : xagr C g w := fun q k hq => by
  by_cases z : q < 60
  · have a := fc.agr hC q k hq
    have b := w1 q k z
    exact ⟨b.1.trans a.1, b.2.trans a.2⟩
  · have a := fr.agr hC' q k hq
    have b := w2 q k (by omega)
    have c := hr q k (by omega)
    exact ⟨(b.1.trans a.1).trans c.1, (b.2.trans a.2).trans c.2⟩
theorem agR {FP' C : List (Nat × Option Nat)} {h h' w : xG} (fr : xfrm FP' h h') (w2 : agG h' w) (hC' : xfree FP' C = true) (hg : ∀ q k, xcov C q k = true → 60 ≤ q) : xagr C h w := fun q k hq => by
  have a := fr.agr hC' q k hq
  have b := w2 q k (hg q k hq)
  exact ⟨b.1.trans a.1, b.2.trans a.2⟩
theorem all_ge {C : List (Nat × Option Nat)} (hC : allGe C = true) : ∀ q k, xcov C q k = true → 60 ≤ q := fun q k h => by
  obtain ⟨e, he, rfl⟩ := xcov_mem h
  exact Nat.le_of_ble_eq_true (List.all_eq_true.mp hC e he)
theorem all_lt {C : List (Nat × Option Nat)} (hC : allLt C = true) : ∀ q k, xcov C q k = true → q < 60 := fun q k h => by
  obtain ⟨e, he, rfl⟩ := xcov_mem h
  have h3 := Nat.le_of_ble_eq_true (List.all_eq_true.mp hC e he)
  omega
theorem agG.ag {C : List (Nat × Option Nat)} {h w : xG} (a : agG h w) (hC : allGe C = true) : xagr C h w := fun q k hq => a q k (all_ge hC q k hq)
theorem agL.ag {C : List (Nat × Option Nat)} {h w : xG} (a : agL h w) (hC : allLt C = true) : xagr C h w := fun q k hq => a q k (all_lt hC q k hq)
def mMM (W : Nat → Int64) (R : pR) (L : Nat) (g : xG) : Prop := mM W R L g ∧ lwG R L g
theorem c_anew {R : pR} {g : xG} (hR : rOK R) (h : rmC g R) (hl : lwC g R) : ∃ w, f_X11_beginAnew_0 g = some w ∧ jC_44_48 R (rw0 R) 0 w ∧ w.1 0 13 = 0 ∧ w.1 0 15 = 0 ∧ w.1 56 5 = 0 := by
  obtain ⟨w1, a1, a2, a3, a4⟩ := c_begins hR h
  obtain ⟨w2, b1, b2, b3, b4⟩ := c_measure38 (c := 0) hR (by decide) (h.ag (a2.agr rfl))
  have f3 : xfrm [(0, some 13), (0, some 15), (56, some 5)] w2 (xupd (xupd (xupd w2.1 56 5 0) 0 13 0) 0 15 0, w2.2) := xfrm.up (xfrm.up (xfrm.up xfrm.rf rfl) rfl) rfl
  refine ⟨(xupd (xupd (xupd w2.1 56 5 0) 0 13 0) 0 15 0, w2.2), ?_, ⟨(((h.ag (a2.agr rfl)).ag (b4.agr rfl)).ag (f3.agr rfl)), (((hl.ag (a2.agr rfl)).ag (b4.agr rfl)).ag (f3.agr rfl)), ((f3 38 2 rfl).1).trans b2, fun x y hx hy => ((f3 39 _ rfl).1).trans (b3 x y hx hy), ?_⟩, ?_, (show xupd (xupd (xupd w2.1 56 5 0) 0 13 0) 0 15 0 0 15 = 0 from xu_eq), ?_⟩
  · unfold f_X11_beginAnew_0 f_X6_get_48 f_X0_clear_56
    rw [a1, Option.bind_some, show (4 : Int32) = nI 4 from rfl, xat_in (show 4 < 35 by decide) (by decide), a4, show f_X10_measure_38 0 w1 = some w2 from b1, Option.bind_some]
    rfl
  · have e1 : (xupd (xupd (xupd w2.1 56 5 0) 0 13 0) 0 15 0) 49 = w1.1 49 := funext fun k => ((f3 49 k rfl).1).trans (b4 49 k rfl).1
    show stF (rP R) (rw0 R) ((xupd (xupd (xupd w2.1 56 5 0) 0 13 0) 0 15 0) 49)
    rw [e1]
    exact a3
  · show xupd (xupd (xupd w2.1 56 5 0) 0 13 0) 0 15 0 0 13 = 0
    rw [xu_ne (by decide), xu_eq]
  · show xupd (xupd (xupd w2.1 56 5 0) 0 13 0) 0 15 0 56 5 = 0
    rw [xu_q (by decide), xu_q (by decide), xu_eq]
theorem r_219 (h : xG) : ∃ w, f_X12_read_60_219 xN 0 h = some (0, w) ∧ xfrm [(101, none)] h w ∧ ∀ s, s < 3 → w.1 101 s = 0 := by
  refine lp (fun m k (w : xG) => f_X12_read_60_219 m k w) (fun l w => xfrm [(101, none)] h w ∧ ∀ s, s < l → w.1 101 s = 0) 3 (fun o => ∃ w, o = some (0, w) ∧ xfrm [(101, none)] h w ∧ ∀ s, s < 3 → w.1 101 s = 0) ?_ ?_ xN 0 h (Nat.zero_le _) (by decide) ⟨xfrm.rf, fun s hs => absurd hs (Nat.not_lt_zero s)⟩
  · rintro m l w hl ⟨f, e⟩
    refine .inl ?_
    simp only [f_X12_read_60_219]
    rw [if_neg (show ¬ (3 : Int32) ≤ nI l from nI_ge (b := 3) hl (by decide)), xg_in hl (by decide), nI_clamp (by omega), nI_1]
    refine ⟨_, rfl, xfrm.up f rfl, fun s hs => ?_⟩
    show xupd w.1 101 l (0 &&& 1) 101 s = 0
    by_cases z : s = l
    · rw [z, xu_eq]; rfl
    · rw [xu_ne z]; exact e s (by omega)
  · rintro m w ⟨f, e⟩
    simp only [f_X12_read_60_219]
    rw [if_pos (show (3 : Int32) ≤ nI 3 by decide)]
    exact ⟨w, rfl, f, e⟩
theorem i_nle {f : Nat} (h : f ≠ 0) (h2 : f < 2 ^ 31) : ¬ nI f ≤ (0 : Int32) := fun y => by
  have := Int32.le_iff_toInt_le.mp y
  rw [nI_toInt h2, show (0 : Int32).toInt = 0 from rfl] at this
  omega
theorem i_ne0 {f : Nat} (h : f ≠ 0) (h2 : f < 2 ^ 31) : ¬ nI f = (0 : Int32) := fun y => h ((nI_eq (b := 0) h2 (by decide)).mp y)
def fpR : List (Nat × Option Nat) := [(60, some 2), (60, some 4), (60, some 10), (60, some 11), (60, some 12), (60, some 13), (60, some 14), (60, some 15), (60, some 16), (60, some 17), (60, some 19), (60, some 20), (60, some 36), (60, some 42), (60, some 46), (62, none), (63, none), (64, none), (65, none), (66, none), (68, none), (69, none), (70, none), (71, none), (72, none), (73, none), (74, none), (75, none), (76, none), (77, none), (78, none), (79, none), (80, none), (81, none), (82, none), (83, none), (84, none), (85, none), (86, none), (87, none), (88, none), (89, none), (90, none)]
def fpC : List (Nat × Option Nat) := (0, some 16) :: (1, some 1) :: fp_X3_readText_17
/-- what was not read leaves all as it was -/
theorem rd_fails {W : Nat → Int64} {R : pR} {L : Nat} {g h g' h' w : xG} (hM : mMM W R L g) (hr : agG g h) (fc : xfrm fpC g g') (fr : xfrm fpR h h') (sd : sdO (1 - L) h h') (e16 : g'.1 0 16 = h'.1 60 17) (e11 : g'.1 1 1 = 0) (e2 : h'.1 60 2 = 0) (w1 : agL g' w) (w2 : agG h' w) : mMM W R L w := by
  obtain ⟨⟨h0, ⟨s1, s2, s3, c, hc, s4, s5⟩, hTp, hUn, hSl, hHe, hWd⟩, hlw⟩ := hM
  have hL := s1.1.1
  have lw : lwG R L w := ((hlw.ag (hr.ag rfl)).sd hL sd).ag (w2.ag rfl)
  have e18 : h'.1 60 18 = nI L := ((fr 60 18 rfl).1).trans (((hr 60 18 (by decide)).1).trans s1.1.2.1)
  have rm : rmR w L R := (rmR_sd h0 (s1.ag (hr.ag rfl)) sd e18).ag (w2.ag rfl)
  have a93 : xagr [(93, none)] g w := ag2 fc fr hr w1 w2 rfl rfl
  have e93 : w.1 93 = g.1 93 := a93.f fun _ => rfl
  refine ⟨⟨h0, ⟨rm, lw.lwR hL, by rw [e93]; exact s3, c, hc, by rw [e93]; exact s4, by rw [e93]; exact s5.ag (ag2 fc fr hr w1 w2 rfl rfl)⟩, ?_, hUn.ag (ag2 fc fr hr w1 w2 rfl rfl), hSl.ag (ag2 fc fr hr w1 w2 rfl rfl), hHe.ag (ag2 fc fr hr w1 w2 rfl rfl), hWd.ag (ag2 fc fr hr w1 w2 rfl rfl)⟩, lw⟩
  exact ⟨((w1 0 16 (by decide)).1.trans e16).trans (w2 60 17 (by decide)).1.symm, 0, by decide, (w1 1 1 (by decide)).1.trans e11, (w2 60 2 (by decide)).1.trans e2, fun i hi => absurd hi (Nat.not_lt_zero i)⟩
/-- what was read is begun -/
theorem rd_begins {W : Nat → Int64} {R R' : pR} {L M s br p : Nat} {g h g' h' gd hd w : xG} (hM : mMM W R L g) (hr : agG g h) (fc : xfrm fp_X11_read_0 g g') (fr : xfrm fp_X12_read_60 h h') (hM2 : M < 2) (hs : s ≤ 408) (hb : br ≤ 130 * M + 130) (hp : p ≤ 420 * M + 420) (ht : ct M s br p R' gd hd) (fd : xfrm [(60, some 2), (60, some 17), (60, some 18), (60, some 52), (60, some 53), (60, some 55), (60, some 58), (93, none), (94, none), (101, none)] hd h') (j : jC_44_48 R' (rw0 R') 0 g') (z13 : g'.1 0 13 = 0) (z15 : g'.1 0 15 = 0) (z56 : g'.1 56 5 = 0) (e18 : h'.1 60 18 = nI M) (e93 : ∀ k, k < 40 → h'.1 93 k = rw0 R' k) (z55 : h'.1 60 55 = 0) (z58 : h'.1 60 58 = 0) (z101 : ∀ s, s < 3 → h'.1 101 s = 0) (e16 : g'.1 0 16 = h'.1 60 17) (e11 : g'.1 1 1 = 0) (e2 : h'.1 60 2 = 0) (w1 : agL g' w) (w2 : agG h' w) : mMM W R' M w := by
  obtain ⟨⟨h0, ⟨s1, s2, s3, c, hc, s4, s5⟩, hTp, hUn, hSl, hHe, hWd⟩, hlw⟩ := hM
  obtain ⟨t1, t2, ⟨t3, -⟩, t4⟩ := ht
  have h6 := t3.p
  have lw : lwG R' M h' := fun k hk => by
    obtain ⟨s0, s1, a1, a2, a3, a4⟩ := t4 k hk
    rcases a4 with ⟨b1, b2, b3⟩ | ⟨b, p0, p1, b1, b2, b3, b4, b5, b6, b7⟩
    · exact .inl ⟨((fd 81 _ rfl).1).trans b1, ((fd 82 _ rfl).1).trans b2, b3⟩
    · exact .inr ⟨b, p0, p1, b1, by omega, b3, by omega, ((fd 81 _ rfl).1).trans b5, ((fd 82 _ rfl).1).trans b6, b7.to (fun q _ _ => ⟨(fd 83 q rfl).1, (fd 84 q rfl).1, (fd 85 q rfl).1, (fd 86 q rfl).1, (fd 87 q rfl).1⟩) (fun q _ _ => ⟨(fd 88 q rfl).1, (fd 89 q rfl).1⟩)⟩
  have lww : lwG R' M w := lw.ag (w2.ag rfl)
  have rm' : rmR h' M R' := by
    obtain ⟨⟨q1, q2, q3, q4, q5⟩, q7, q8⟩ := t2.ag (fd.agr rfl)
    exact ⟨⟨hM2, e18, q1, q2, q3, q4, q5⟩, q7, q8⟩
  have rm : rmR w M R' := rm'.ag (w2.ag rfl)
  have e93w : ∀ k, k < 40 → w.1 93 k = rw0 R' k := fun k hk => ((w2 93 k (by decide)).1).trans (e93 k hk)
  have jw : jC_44_48 R' (w.1 93) 0 w := by
    obtain ⟨j1, j2, j3, j4, j5⟩ := j.ag (w1.ag (C := kJ_44_48) rfl)
    exact ⟨j1, j2, j3, j4, stF_eq h6 j5 e93w fun k _ => rfl⟩
  refine ⟨⟨t3, ⟨rm, lww.lwR hM2, rowOK_eq t3 (rw0_ok t3) e93w, 0, by decide, (e93w 36 (by decide)).trans rfl, jw⟩, ?_, ?_, ⟨?_, fun s hs => ?_⟩, ?_, hWd.ag (ag2 fc fr hr w1 w2 rfl rfl)⟩, lww⟩
  · exact ⟨((w1 0 16 (by decide)).1.trans e16).trans (w2 60 17 (by decide)).1.symm, 0, by decide, (w1 1 1 (by decide)).1.trans e11, (w2 60 2 (by decide)).1.trans e2, fun i hi => absurd hi (Nat.not_lt_zero i)⟩
  · obtain ⟨n, nw, u1, u2, u3, u4, u5, u6⟩ := hUn
    have a14 : xagr [(0, some 14)] g w := ag2 fc fr hr w1 w2 rfl rfl
    exact ⟨0, nw, by decide, u2, (w1 0 13 (by decide)).1.trans z13, (w2 60 55 (by decide)).1.trans z55, ((a14 0 14 rfl).1).trans u5, fun j hj => absurd hj (Nat.not_lt_zero j)⟩
  · have e101 : ∀ s, s < 3 → w.1 101 s = 0 := fun s hs => ((w2 101 s (by decide)).1).trans (z101 s hs)
    have b0 : bq (fun s => decide (w.1 101 s = 1)) 3 = 0 := by
      have := bq_eq (f := fun s => decide (w.1 101 s = 1)) (h := fun _ => false) (n := 3) (fun k hk => by
        show decide (w.1 101 k = 1) = false
        rw [e101 k hk]
        rfl)
      rw [this]
      rfl
    rw [b0]
    exact (w1 0 15 (by decide)).1.trans z15
  · have e : w.1 101 s = 0 := ((w2 101 s (by decide)).1).trans (z101 s hs)
    exact ⟨.inl e, fun y => by rw [e] at y; exact absurd y (by decide)⟩
  · exact ⟨0, by decide, (w1 56 5 (by decide)).1.trans z56, (w2 60 58 (by decide)).1.trans z58, fun i hi => absurd hi (Nat.not_lt_zero i)⟩
theorem m_read2 {W : Nat → Int64} {R : pR} {L : Nat} {g h : xG} (hi : ∀ u w, u < 21 → w < 21 → W u = W w → u = w) (hM : mMM W R L g) (hr : agG g h) : ∃ v g' h' R' L', f_X11_read_0 g = some (v, g') ∧ f_X12_read_60 h = some (v, h') ∧ ∀ w : xG, agL g' w → agG h' w → mMM W R' L' w := by
  obtain ⟨⟨h0, ⟨s1, -⟩, ⟨e16, n, hn, e11, e602, et⟩, -, -, -, hWd⟩, -⟩ := id hM
  have hL := s1.1.1
  obtain ⟨K, S, V, E, g1, h1, c1, c2, hK, tc, th, f1, z2⟩ := m_cut (g := g) (h := h) hi hn e11 (((hr 60 2 (by decide)).1).trans e602) (fun i hi => (et i hi).trans ((hr 61 i (by decide)).1).symm) (fun u hu => (hWd u hu).1) (fun u hu => ((hr 67 u (by decide)).2).trans (hWd u hu).2)
  obtain ⟨g2, h2, d1, d2, d3, f2, d4⟩ := tl_init hK tc th hL (((f1 60 18 rfl).1).trans (((hr 60 18 (by decide)).1).trans s1.1.2.1))
  have hE := hK.1
  obtain ⟨v, g3, h3, e1, e2, e3, f3, e4⟩ := loop_all hK E 0 0 xN xN g2 h2 (by omega) d4 (Nat.le_refl _) (by show E + 2 ≤ 4000; omega) (by show E + 2 ≤ 4000; omega)
  have cr : f_X3_readText_17 g = some (v, g3) := by
    unfold f_X3_readText_17
    rw [c1, Option.bind_some, xl_e]
    show f_X3_readText_17_35 xN (nI 0) (xupd (xupd (xupd (f_X4_clear_23 g1).1 17 5 0) 17 6 0) 17 7 0, (f_X4_clear_23 g1).2) = _
    rw [d1, e1]
  have rr : f_X12_read_60 h = f_X12_read_60_134 h3 := by rw [c2, d2, e2]
  have fg3 := fr_X3_readText_17 _ cr
  have sd : sdO (1 - L) h h3 := ((sdO.fr f1 rfl).tr d3).tr e3
  have z23 : h3.1 60 2 = 0 := ((f3 60 2 rfl).1).trans (((f2 60 2 rfl).1).trans z2)
  have fh3 : xfrm fpR h h3 := ((f1.wk rfl).th (f2.wk rfl)).th (f3.wk rfl)
  have c0 : f_X11_read_0 g = if v = 0 then (f_X11_beginAnew_0 (f_X4_copyFrom_3_23 (xupd (xupd g3.1 0 16 (f_X3_faultPlace_17 g3)) 1 1 0, g3.2))).bind fun w4 => some (v, w4) else some (v, (xupd (xupd g3.1 0 16 (f_X3_faultPlace_17 g3)) 1 1 0, g3.2)) := by
    unfold f_X11_read_0 f_X8_clear_1
    rw [cr, Option.bind_some, xl_e]
    by_cases z : v = 0
    · rw [if_pos z, if_pos z, xl_e]
    · rw [if_neg z, if_neg z]
  have fgF : xfrm fpC g (xupd (xupd g3.1 0 16 (f_X3_faultPlace_17 g3)) 1 1 0, g3.2) := xfrm.up (xfrm.up (fg3.wk rfl) rfl) rfl
  have fhF : ∀ x : Int32, xfrm fpR h (xupd h3.1 60 17 x, h3.2) := fun x => xfrm.up fh3 rfl
  have k17 : ∀ x : Int32, xfrm [(60, some 17)] h3 (xupd h3.1 60 17 x, h3.2) := fun x => xfrm.up xfrm.rf rfl
  have fails : ∀ x : Int32, ¬ v = 0 → f_X3_faultPlace_17 g3 = x → f_X12_read_60_134 h3 = some (v, (xupd h3.1 60 17 x, h3.2)) → ∃ v g' h' R' L', f_X11_read_0 g = some (v, g') ∧ f_X12_read_60 h = some (v, h') ∧ ∀ w : xG, agL g' w → agG h' w → mMM W R' L' w := fun x hv hx h134 => by
    refine ⟨v, _, (xupd h3.1 60 17 x, h3.2), R, L, by rw [c0, if_neg hv], by rw [rr, h134], fun w w1 w2 => rd_fails hM hr fgF (fhF x) (sd.tr (sdO.fr (k17 x) rfl)) ?_ (show xupd (xupd g3.1 0 16 (f_X3_faultPlace_17 g3)) 1 1 0 1 1 = 0 from xu_eq) ?_ w1 w2⟩
    · show xupd (xupd g3.1 0 16 (f_X3_faultPlace_17 g3)) 1 1 0 0 16 = xupd h3.1 60 17 x 60 17
      rw [xu_q (by decide), xu_eq, xu_eq, hx]
    · show xupd h3.1 60 17 x 60 2 = 0
      rw [xu_ne (by decide), z23]
  rcases e4 with ⟨i', z, hv⟩ | ⟨⟨f, jj, q1, q2⟩, hv⟩
  · obtain ⟨lf, lt, T, Rn, P, s, br, p, ⟨l, nn, hR10, e10⟩, ⟨e70, e71, e75, e19, hM2⟩, ⟨ez, bz, e36, hb1, hb2⟩, hc⟩ := z
    have hi' := l.1.1
    by_cases zf : lf = 0
    · have v0 : v = 0 := by rw [hv, l.2.1.2.2, zf]; rfl
      obtain ⟨R', -, ht⟩ := hc zf
      have fp0 : f_X3_faultPlace_17 g3 = -1 := by
        unfold f_X3_faultPlace_17
        rw [l.2.1.2.1, if_pos rfl, l.2.1.2.2, zf, if_pos (show nI 0 = (0 : Int32) from rfl)]
      have kF : xfrm [(0, some 16), (1, some 1)] g3 (xupd (xupd g3.1 0 16 (f_X3_faultPlace_17 g3)) 1 1 0, g3.2) := xfrm.up (xfrm.up xfrm.rf rfl) rfl
      obtain ⟨t1, t2, ⟨t3, t5⟩, t4⟩ := id ht
      obtain ⟨cA, cB⟩ := c_copyDraft (g := (xupd (xupd g3.1 0 16 (f_X3_faultPlace_17 g3)) 1 1 0, g3.2)) t3 (t1.dag (kF.agr rfl)) (fun k hk => by
        obtain ⟨s0, s1, a1, a2, a3, a4⟩ := t4 k hk
        exact ⟨s0, s1, by omega, ((kF 35 k rfl).1).trans a2, fun u hu => a3 u fun q h1 h2 => ⟨((hu q h1 h2).1).trans (kF 33 q rfl).1, ((hu q h1 h2).2).trans (kF 34 q rfl).1⟩⟩)
      obtain ⟨gE, b1, b2, b3, b4, b5⟩ := c_anew t3 cA cB
      have cF : f_X11_read_0 g = some (v, gE) := by rw [c0, if_pos v0, b1, Option.bind_some]
      obtain ⟨hB, r1, r2, r3⟩ := r_begins (h := (xupd (xupd h3.1 60 17 (-1)) 60 18 (h3.1 60 19), h3.2)) t3 hM2 (by
        show xupd (xupd h3.1 60 17 (-1)) 60 18 (h3.1 60 19) 60 18 = nI (1 - L)
        rw [xu_eq, e19]) (t2.ag (xfrm.agr (FP := [(60, some 17), (60, some 18)]) (xfrm.up (xfrm.up xfrm.rf rfl) rfl) rfl))
      obtain ⟨hC, o1, o2, o3⟩ := r_keeps (g := hB)
      obtain ⟨hD, y1, y2, y3⟩ := r_219 (xupd (xupd hC.1 60 55 0) 60 58 0, hC.2)
      have rF : f_X12_read_60 h = some (0, hD) := by
        rw [rr]
        unfold f_X12_read_60_134
        rw [l.2.2.1.2.1, if_pos (by decide), l.2.2.1.2.2, zf, if_pos (show nI 0 ≤ (0 : Int32) by decide)]
        unfold f_X12_read_60_164
        rw [l.2.2.1.2.1, if_pos (by decide), l.2.2.1.2.2, zf, if_pos (show nI 0 ≤ (0 : Int32) by decide), r1, Option.bind_some, o1, Option.bind_some, y1]
      have fd : xfrm [(60, some 2), (60, some 17), (60, some 18), (60, some 52), (60, some 53), (60, some 55), (60, some 58), (93, none), (94, none), (101, none)] h3 hD := by
        have p1 : xfrm [(60, some 2), (60, some 17), (60, some 18), (60, some 52), (60, some 53), (60, some 55), (60, some 58), (93, none), (94, none), (101, none)] h3 (xupd (xupd h3.1 60 17 (-1)) 60 18 (h3.1 60 19), h3.2) := xfrm.up (xfrm.up xfrm.rf rfl) rfl
        have p2 : xfrm [(60, some 2), (60, some 17), (60, some 18), (60, some 52), (60, some 53), (60, some 55), (60, some 58), (93, none), (94, none), (101, none)] hC (xupd (xupd hC.1 60 55 0) 60 58 0, hC.2) := xfrm.up (xfrm.up xfrm.rf rfl) rfl
        exact (((p1.th (r2.wk rfl)).th (o2.wk rfl)).th p2).th (y2.wk rfl)
      have fl : xfrm [(60, some 52), (60, some 53), (60, some 55), (60, some 58), (93, none), (94, none), (101, none)] (xupd (xupd h3.1 60 17 (-1)) 60 18 (h3.1 60 19), h3.2) hD := by
        have p2 : xfrm [(60, some 52), (60, some 53), (60, some 55), (60, some 58), (93, none), (94, none), (101, none)] hC (xupd (xupd hC.1 60 55 0) 60 58 0, hC.2) := xfrm.up (xfrm.up xfrm.rf rfl) rfl
        exact (((r2.wk rfl).th (o2.wk rfl)).th p2).th (y2.wk rfl)
      have fA := fr_X4_copyFrom_3_23 (g := (xupd (xupd g3.1 0 16 (f_X3_faultPlace_17 g3)) 1 1 0, g3.2)) _ rfl
      have fB := fr_X11_beginAnew_0 _ b1
      refine ⟨v, gE, hD, R', 1 - L, cF, by rw [rF, v0], fun w w1 w2 => rd_begins hM hr (fr_X11_read_0 _ cF) (fr_X12_read_60 _ rF) hM2 (show s ≤ 408 by omega) (show br ≤ 130 * (1 - L) + 130 by omega) (show p ≤ 420 * (1 - L) + 420 by omega) ht fd b2 b3 b4 b5 ?_ (fun k hk => ?_) ?_ ?_ y3 ?_ ?_ ?_ w1 w2⟩
      · rw [(fl 60 18 rfl).1]
        show xupd (xupd h3.1 60 17 (-1)) 60 18 (h3.1 60 19) 60 18 = nI (1 - L)
        rw [xu_eq, e19]
      · rw [(y2 93 k rfl).1]
        show xupd (xupd hC.1 60 55 0) 60 58 0 93 k = _
        rw [xu_q (by decide), xu_q (by decide), o3 k hk, r3 k hk]
      · rw [(y2 60 55 rfl).1]
        show xupd (xupd hC.1 60 55 0) 60 58 0 60 55 = _
        rw [xu_ne (by decide), xu_eq]
      · rw [(y2 60 58 rfl).1]
        show xupd (xupd hC.1 60 55 0) 60 58 0 60 58 = _
        rw [xu_eq]
      · rw [(fB 0 16 rfl).1, (fA 0 16 rfl).1, (fl 60 17 rfl).1]
        show xupd (xupd g3.1 0 16 (f_X3_faultPlace_17 g3)) 1 1 0 0 16 = xupd (xupd h3.1 60 17 (-1)) 60 18 (h3.1 60 19) 60 17
        rw [xu_q (by decide), xu_eq, xu_ne (by decide), xu_eq, fp0]
      · rw [(fB 1 1 rfl).1, (fA 1 1 rfl).1]
        show xupd (xupd g3.1 0 16 (f_X3_faultPlace_17 g3)) 1 1 0 1 1 = 0
        exact xu_eq
      · rw [(fl 60 2 rfl).1]
        show xupd (xupd h3.1 60 17 (-1)) 60 18 (h3.1 60 19) 60 2 = 0
        rw [xu_ne (by decide), xu_ne (by decide), z23]
    · have l5 := l.2.2.2.1
      have hv' : ¬ v = 0 := by rw [hv, l.2.1.2.2]; exact i_ne0 zf (by omega)
      obtain ⟨y1, y2, y3, y4⟩ := l.2.2.2.2 zf
      refine fails (nI (S lt)) hv' ?_ ?_
      · unfold f_X3_faultPlace_17
        rw [l.2.1.2.1, if_pos rfl, l.2.1.2.2, if_neg (i_ne0 zf (by omega)), y1, (l.1.2.1 lt y4).2.1]
      · unfold f_X12_read_60_134
        rw [l.2.2.1.2.1, if_pos (by decide), l.2.2.1.2.2, if_neg (i_nle zf (by omega)), y2]
        unfold f_X12_read_60_164
        rw [l.2.2.1.2.1, if_pos (by decide), l.2.2.1.2.2, if_neg (i_nle zf (by omega)), hv, l.2.1.2.2]
  · have hv' : ¬ v = 0 := by rw [hv, q1.2.2.2.2]; exact f12_ne q1.1
    refine fails (nI (S jj)) hv' ?_ ?_
    · unfold f_X3_faultPlace_17
      rw [q1.2.2.2.2, if_neg (f12_ne q1.1), q1.2.2.2.1, (q1.2.2.1 jj q1.2.1).2.1]
    · unfold f_X12_read_60_134
      rw [q2.2.1, if_neg (f12_nle q2.1), q2.2.2]
      unfold f_X12_read_60_164
      rw [q2.2.1, if_neg (f12_nle q2.1), hv, q1.2.2.2.2]
theorem m_read {W : Nat → Int64} {R : pR} {L : Nat} {g : xG} (hi : ∀ u w, u < 21 → w < 21 → W u = W w → u = w) (hM : mMM W R L g) : ∃ v w1 w2 R' L', f_X11_read_0 g = some (v, w1) ∧ f_X12_read_60 w1 = some (v, w2) ∧ mMM W R' L' w2 := by
  obtain ⟨v, g', h', R', L', a1, a2, a3⟩ := m_read2 (h := g) hi hM (fun q k _ => ⟨rfl, rfl⟩)
  have f1 := fr_X11_read_0 _ a1
  obtain ⟨v2, g2, h2, R2, L2, b1, b2, b3⟩ := m_read2 (h := g') hi hM (fun q k hq => f1 q k (lt_cov rfl hq))
  rw [a1] at b1
  obtain ⟨rfl, rfl⟩ := Prod.mk.inj (Option.some.inj b1)
  have f2 := fr_X12_read_60 _ b2
  exact ⟨v, g', h2, R2, L2, a1, b2, b3 h2 (fun q k hq => f2 q k (ge_cov rfl hq)) fun q k _ => ⟨rfl, rfl⟩⟩
