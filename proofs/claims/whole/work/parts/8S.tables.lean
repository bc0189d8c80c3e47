/-! the tables of tokens of both -/
theorem b255_at : ∀ i : Fin 32, ((255 : Int32).toBitVec)[i.1] = decide (i.1 < 8) := by decide
theorem b8_255 (x : Int32) : (x.toInt8.toInt32) &&& 255 = x &&& 255 := by
  apply Int32.toBitVec_inj.mp
  rw [Int32.toBitVec_and, Int32.toBitVec_and, Int8.toBitVec_toInt32, Int32.toBitVec_toInt8]
  apply BitVec.eq_of_getElem_eq
  intro i hi
  rw [BitVec.getElem_and, BitVec.getElem_and, b255_at ⟨i, hi⟩]
  by_cases z : i < 8
  · rw [BitVec.getElem_signExtend, dif_pos z, BitVec.getElem_signExtend, dif_pos hi]
  · rw [decide_eq_false z, Bool.and_false, Bool.and_false]
theorem b255_lt (x : Int32) : (x &&& 255).toBitVec.toNat < 256 := by
  rw [Int32.toBitVec_and, BitVec.toNat_and]
  exact Nat.lt_of_le_of_lt Nat.and_le_right (by decide)
theorem nI_bv (x : Int32) : x = nI x.toBitVec.toNat := by
  unfold nI
  apply Int32.toBitVec_inj.mp
  simp
/-- the reference's read behind its cut -/
def rdT (w1 : xG) : Option (Int32 × xG) := (f_X12_plain_60 (1 - (w1.1 60 18)) (xupd (xupd (xupd (xupd (xupd (xupd w1.1 60 11 0) 60 12 0) 60 13 0) 60 15 0) 60 19 (1 - (w1.1 60 18))) 60 20 0, w1.2)).bind fun w2 => f_X12_read_60_112 xN (xupd (xupd w2.1 60 36 (130 * (w2.1 60 19))) 60 42 (420 * (w2.1 60 19)), w2.2)
theorem r60_end {m : Nat} {l : Int32} {w : xG} (h : w.1 60 4 ≤ l) : f_X12_read_60_10 (m + 1) l w = (f_X12_cut_60 (xupd w.1 60 2 0, w.2)).bind rdT := by
  unfold rdT
  simp only [f_X12_read_60_10]
  rw [if_pos h]
theorem r60_step {m n l : Nat} {w : xG} (e4 : w.1 60 4 = nI n) (hl : l < n) (hn : n ≤ 2000) : f_X12_read_60_10 (m + 1) (nI l) w = f_X12_read_60_10 m (nI (l + 1)) (xupd w.1 62 l ((w.1 61 l).toInt8.toInt32), w.2) := by
  simp only [f_X12_read_60_10]
  rw [e4, if_neg (nI_ge hl (by omega)), xg_in (show l < 2000 by omega) (by decide), xg_in (show l < 2000 by omega) (by decide), nI_clamp (by omega), nI_1]
theorem r_text {h : xG} {n : Nat} (hn : n ≤ 2000) (e2 : h.1 60 2 = nI n) : ∃ w, f_X12_read_60 h = (f_X12_cut_60 (xupd w.1 60 2 0, w.2)).bind rdT ∧ xfrm [(60, some 4), (62, none)] h w ∧ w.1 60 4 = nI n ∧ ∀ i, i < n → w.1 62 i = ((h.1 61 i).toInt8).toInt32 := by
  have f0 : xfrm [(60, some 4), (62, none)] h (xupd h.1 60 4 (h.1 60 2), h.2) := xfrm.up xfrm.rf rfl
  have e0 : (xupd h.1 60 4 (h.1 60 2)) 60 4 = nI n := by rw [xu_eq, e2]
  have er : f_X12_read_60 h = f_X12_read_60_10 xN (nI 0) (xupd h.1 60 4 (h.1 60 2), h.2) := rfl
  rw [er]
  have key := lp (fun m k (w : xG) => f_X12_read_60_10 m k w) (fun l w => xfrm [(60, some 4), (62, none)] h w ∧ w.1 60 4 = nI n ∧ ∀ i, i < l → w.1 62 i = ((h.1 61 i).toInt8).toInt32) n (fun o => ∃ w, o = (f_X12_cut_60 (xupd w.1 60 2 0, w.2)).bind rdT ∧ xfrm [(60, some 4), (62, none)] h w ∧ w.1 60 4 = nI n ∧ ∀ i, i < n → w.1 62 i = ((h.1 61 i).toInt8).toInt32) (by
    rintro m l w hl ⟨f, e4, e⟩
    refine .inl ?_
    refine ⟨_, r60_step e4 hl hn, xfrm.up f rfl, ?_, fun i hi => ?_⟩
    · show xupd w.1 62 l ((w.1 61 l).toInt8.toInt32) 60 4 = _
      rw [xu_q (by decide), e4]
    · show xupd w.1 62 l ((w.1 61 l).toInt8.toInt32) 62 i = _
      by_cases z : i = l
      · rw [z, xu_eq, (f 61 l rfl).1]
      · rw [xu_ne z]
        exact e i (by omega)) (by
    rintro m w ⟨f, e4, e⟩
    exact ⟨w, r60_end (by rw [e4]; exact nI_le (Nat.le_refl _) (by omega)), f, e4, e⟩) xN 0 (xupd h.1 60 4 (h.1 60 2), h.2) (Nat.zero_le _) (by show n < 4000 + 0; omega) ⟨f0, e0, fun i hi => absurd hi (Nat.not_lt_zero i)⟩
  exact key
theorem wKd_3 (W : Nat → Int64) (v : Int64) : wKd W v 21 ≠ 0 ∧ wKd W v 21 ≠ 3 := by
  rcases wKd_ne0 W v with h | h <;> omega
theorem kap_0 : kap 0 = 0 := rfl
/-- both tables, from the scan and the cut -/
theorem m_tables {W : Nat → Int64} {n : Nat} {gE hE : xG} (hn : n ≤ 2000) (hW : ∀ w, w < 21 → gE.2 22 w = W w) (e5 : gE.1 18 5 = nI n) (t : tkEnd W n gE hE) : ∃ K S V E g1, f_X9_scan_18_1_116 xN 0 gE = some g1 ∧ xfrm [(19, none)] gE g1 ∧ tkK K S E ∧ tkC K S V E g1 ∧ tkH K S V E hE := by
  obtain ⟨k, hk, hP, hM, hend⟩ := t
  have hN : ∃ N, N ≤ 402 ∧ gE.1 18 4 = nI N ∧ k ≤ N ∧ ((k ≤ 400 ∧ N = k ∧ hE.1 63 k = 0 ∧ hE.1 64 k = nI n) ∨ (k = 401 ∧ 401 ≤ N)) := by
    rcases hend with ⟨a, b, c, d⟩ | ⟨a, N, b, c, d⟩
    · exact ⟨k, by omega, b, Nat.le_refl _, .inl ⟨a, rfl, c, d⟩⟩
    · exact ⟨N, c, d, by omega, .inr ⟨a, b⟩⟩
  obtain ⟨N, hN2, e4, hkN, hend⟩ := hN
  obtain ⟨g1, s1, s2, s3⟩ := c_words hW hN2 e4
  have e4' : g1.1 18 4 = nI N := ((s2 18 4 rfl).1).trans e4
  have e5' : g1.1 18 5 = nI n := ((s2 18 5 rfl).1).trans e5
  have row : ∀ j, j < k → ∃ a b s, 1 ≤ a ∧ a ≤ 12 ∧ b ≤ 33 ∧ b ≠ 0 ∧ (b = 2 → a = 2) ∧ (b = 3 → a = 3) ∧ s < 2000 ∧ g1.1 19 j = nI b ∧ g1.1 20 j = nI s ∧ hE.1 64 j = nI s ∧ hE.1 63 j = nI (kap b) ∧ (a = 2 → hE.2 66 j = gE.2 21 j) ∧ (a = 3 → ∃ d, d ≤ 9999 ∧ gE.2 21 j = lN d ∧ hE.1 65 j = nI d) := fun j hj => by
    obtain ⟨a, s, h1, h2, h3, h4, h5, h6, h7, h8, h9⟩ := hP j hj
    have h33 := wKd_33 W (gE.2 21 j)
    obtain ⟨w0, w3⟩ := wKd_3 W (gE.2 21 j)
    have s3j := s3 j (by omega)
    generalize wKd W (gE.2 21 j) 21 = kd at h7 h33 w0 w3 s3j
    by_cases z : a = 2
    · rw [if_pos z] at h7
      rw [h4, if_pos (show nI a = (2 : Int32) by rw [z]; rfl)] at s3j
      exact ⟨a, kd, s, h1, h2, h33, w0, fun _ => z, fun y => absurd y w3, h3, s3j, ((s2 20 j rfl).1).trans h5, h6, h7, h8, h9⟩
    · rw [if_neg z] at h7
      rw [h4, if_neg (show ¬ nI a = (2 : Int32) from fun y => z ((nI_eq (b := 2) (by omega) (by decide)).mp y))] at s3j
      exact ⟨a, a, s, h1, h2, by omega, by omega, id, id, h3, s3j, ((s2 20 j rfl).1).trans h5, h6, h7, h8, h9⟩
  have kc : ∀ j, j < N → j < 402 → f_X9_kindAt_18 (nI j) g1 = some (g1.1 19 j) := fun j hj hj2 => by
    unfold f_X9_kindAt_18
    rw [if_neg (nI_pos (by omega)), e4', if_neg (nI_ge hj (by omega)), if_neg (show ¬ (402 : Int32) ≤ nI j from nI_ge (b := 402) hj2 (by decide)), xg_in hj2 (by decide), nI_clamp (by omega)]
  have sc : ∀ j, j < N → j < 402 → f_X9_startOf_18 (nI j) g1 = g1.1 20 j := fun j hj hj2 => by
    unfold f_X9_startOf_18
    rw [e4', if_neg (nI_ge hj (by omega)), xat_in hj2 (by decide)]
  have vc : ∀ j, j < N → j < 402 → f_X9_valueOf_18 (nI j) g1 = g1.2 21 j := fun j hj hj2 => by
    unfold f_X9_valueOf_18
    rw [e4', if_neg (nI_ge hj (by omega)), xlat_in hj2 (by decide)]
  have mono : ∀ j j', j < j' → j' < k → (g1.1 20 j).toNatClampNeg < (g1.1 20 j').toNatClampNeg := fun j j' h1 h2 => by
    obtain ⟨s', a1, a2, a3⟩ := hM j' h2
    obtain ⟨s, b1, b2⟩ := a3 j h1
    rw [(s2 20 j rfl).1, (s2 20 j' rfl).1, a1, b1, nI_clamp (by omega), nI_clamp (by omega)]
    exact b2
  have slt : ∀ j, j < k → (g1.1 20 j).toNatClampNeg < n := fun j h1 => by
    obtain ⟨s', a1, a2, a3⟩ := hM j h1
    rw [(s2 20 j rfl).1, a1, nI_clamp (by omega)]
    exact a2
  refine ⟨fun j => if j < k then (g1.1 19 j).toNatClampNeg else 0, fun j => if j < k then (g1.1 20 j).toNatClampNeg else n, fun j => if j < k then g1.2 21 j else 0, min k 400, g1, s1, s2, ⟨by omega, fun j hj => ?_, fun hE4 => ?_, fun j => ?_, fun j j' h1 h2 => ?_, fun j => ?_⟩, fun j hj => ?_, fun j hj => ?_⟩
  · obtain ⟨a, b, s, h1, h2, h4, h5, h6, h7, h8, h9, h10⟩ := row j (by omega)
    show (if j < k then (g1.1 19 j).toNatClampNeg else 0) ≠ 0
    rw [if_pos (by omega), h9, nI_clamp (by omega)]
    exact h5
  · show (if min k 400 < k then (g1.1 19 (min k 400)).toNatClampNeg else 0) = 0
    rw [if_neg (by omega)]
  · show (if j < k then (g1.1 19 j).toNatClampNeg else 0) ≤ 33
    by_cases z : j < k
    · obtain ⟨a, b, s, h1, h2, h4, h5, h6, h7, h8, h9, h10⟩ := row j z
      rw [if_pos z, h9, nI_clamp (by omega)]
      exact h4
    · rw [if_neg z]; omega
  · show (if j < k then (g1.1 20 j).toNatClampNeg else n) < (if j' < k then (g1.1 20 j').toNatClampNeg else n)
    rw [if_pos (by omega)]
    by_cases z : j' < k
    · rw [if_pos z]
      exact mono j j' h1 z
    · rw [if_neg z]
      exact slt j (by omega)
  · show (if j < k then (g1.1 20 j).toNatClampNeg else n) ≤ 2000
    by_cases z : j < k
    · rw [if_pos z]
      have := slt j z
      omega
    · rw [if_neg z]; exact hn
  · show f_X9_kindAt_18 (nI j) g1 = some (nI (if j < k then (g1.1 19 j).toNatClampNeg else 0)) ∧ f_X9_startOf_18 (nI j) g1 = nI (if j < k then (g1.1 20 j).toNatClampNeg else n) ∧ f_X9_valueOf_18 (nI j) g1 = (if j < k then g1.2 21 j else 0)
    by_cases z : j < k
    · obtain ⟨a, b, s, h1, h2, h4, h5, h6, h7, h8, h9, h10, h11⟩ := row j z
      rw [if_pos z, if_pos z, if_pos z, kc j (by omega) (by omega), sc j (by omega) (by omega), vc j (by omega) (by omega), h9, h10, nI_clamp (by omega), nI_clamp (by omega)]
      exact ⟨rfl, rfl, rfl⟩
    · rw [if_neg z, if_neg z, if_neg z]
      have hNk : N = j := by omega
      unfold f_X9_kindAt_18 f_X9_startOf_18 f_X9_valueOf_18
      rw [if_neg (nI_pos (show j < 2 ^ 31 by omega)), e4', e5', if_pos (nI_le (show N ≤ j by omega) (by omega)), if_pos (nI_le (show N ≤ j by omega) (by omega)), if_pos (nI_le (show N ≤ j by omega) (by omega))]
      exact ⟨rfl, rfl, rfl⟩
  · show hE.1 63 j = nI (kap (if j < k then (g1.1 19 j).toNatClampNeg else 0)) ∧ hE.1 64 j = nI (if j < k then (g1.1 20 j).toNatClampNeg else n) ∧ ((if j < k then (g1.1 19 j).toNatClampNeg else 0) = 2 → hE.2 66 j = (if j < k then g1.2 21 j else 0)) ∧ ((if j < k then (g1.1 19 j).toNatClampNeg else 0) = 3 → ∃ d, d ≤ 9999 ∧ (if j < k then g1.2 21 j else 0) = lN d ∧ hE.1 65 j = nI d)
    by_cases z : j < k
    · obtain ⟨a, b, s, h1, h2, h4, h5, h6, h7, h8, h9, h10, h11, h12, h13, h14⟩ := row j z
      rw [if_pos z, if_pos z, if_pos z, h9, h10, nI_clamp (by omega), nI_clamp (by omega), (s2 21 j rfl).2]
      exact ⟨h12, h11, fun y => h13 (h6 y), fun y => h14 (h7 y)⟩
    · rw [if_neg z, if_neg z, if_neg z]
      rcases hend with ⟨a, b, c, d⟩ | ⟨a, b⟩
      · have : j = k := by omega
        subst this
        exact ⟨c, d, fun y => absurd y (by decide), fun y => absurd y (by decide)⟩
      · omega
/-- the class's scan and the reference's cut of the same text -/
theorem m_cut {W : Nat → Int64} {n : Nat} {g h : xG} (hi : ∀ u w, u < 21 → w < 21 → W u = W w → u = w) (hn : n ≤ 2000) (e1 : g.1 1 1 = nI n) (e2 : h.1 60 2 = nI n) (et : ∀ i, i < n → g.1 2 i = h.1 61 i) (hW : ∀ w, w < 21 → g.2 22 w = W w) (hW' : ∀ w, w < 21 → h.2 67 w = W w) : ∃ K S V E g1 h1, f_X9_scan_18_1 g = some g1 ∧ f_X12_read_60 h = rdT h1 ∧ tkK K S E ∧ tkC K S V E g1 ∧ tkH K S V E h1 ∧ xfrm [(60, some 2), (60, some 4), (60, some 10), (62, none), (63, none), (64, none), (65, none), (66, none)] h h1 ∧ h1.1 60 2 = 0 := by
  obtain ⟨w, r1, r2, r3, r4⟩ := r_text hn e2
  have hn0 := hn
  have sy := scan_sync (W := W) (n := n) (β := fun i => (h.1 61 i &&& 255).toBitVec.toNat) hn (fun i => b255_lt _) hi n 0 0 xN xN 0 (xupd (xupd g.1 18 4 0) 18 5 (nI n), g.2) (xupd (xupd w.1 60 2 0) 60 10 0, w.2) (by omega) (by omega) ⟨(show xupd (xupd g.1 18 4 0) 18 5 (nI n) 18 5 = nI n from xu_eq), fun i hi => by
    show xupd (xupd g.1 18 4 0) 18 5 (nI n) 2 i &&& 255 = _
    rw [xu_q (by decide), xu_q (by decide), et i hi]
    exact nI_bv _⟩ ⟨by
    show xupd (xupd w.1 60 2 0) 60 10 0 60 4 = nI n
    rw [xu_ne (by decide), xu_ne (by decide), r3], fun i hi => by
    show xupd (xupd w.1 60 2 0) 60 10 0 62 i &&& 255 = _
    rw [xu_q (by decide), xu_q (by decide), r4 i hi, b8_255]
    exact nI_bv _⟩ (fun u hu => by
    show w.2 67 u = W u
    rw [(r2 67 u rfl).2]
    exact hW' u hu) (by
    show xupd (xupd g.1 18 4 0) 18 5 (nI n) 18 4 = nI 0
    rw [xu_ne (by decide), xu_eq]
    rfl) (show xupd (xupd w.1 60 2 0) 60 10 0 60 10 = nI 0 from xu_eq) (by omega) (fun j hj => absurd hj (Nat.not_lt_zero j)) (fun j hj => absurd hj (Nat.not_lt_zero j)) (fun _ hq y => by
      rcases hq with q | q <;> rw [q] at y <;> exact absurd y (by decide)) (by show n + 2 ≤ 4000 + 0; omega) (by show n + 2 ≤ 4000; omega)
  obtain ⟨gE, hE, s1, s2, s3, s4⟩ := sy
  obtain ⟨K, S, V, E, g1, q1, q2, q3, q4, q5⟩ := m_tables hn (fun u hu => by
    rw [(s4 22 u rfl).2]
    exact hW u hu) (by
    rw [(s4 18 5 rfl).1]
    show xupd (xupd g.1 18 4 0) 18 5 (nI n) 18 5 = nI n
    exact xu_eq) s3
  have cu : f_X12_cut_60 (xupd w.1 60 2 0, w.2) = some hE := s2
  have fc : xfrm [(60, some 10), (63, none), (64, none), (65, none), (66, none)] (xupd w.1 60 2 0, w.2) hE := (fr_X12_cut_60 _ cu).wk rfl
  refine ⟨K, S, V, E, g1, hE, ?_, ?_, q3, q4, q5, ?_, ?_⟩
  · unfold f_X9_scan_18_1 f_X8_size_1
    show f_X9_scan_18_1_17 xN 0 0 (xupd (xupd g.1 18 4 0) 18 5 ((xupd g.1 18 4 0) 1 1), g.2) = some g1
    rw [xu_q (show (1 : Nat) ≠ 18 by decide), e1, ← q1, ← s1]
    rfl
  · rw [r1, cu, Option.bind_some]
  · have f2 : xfrm [(60, some 2), (60, some 4), (60, some 10), (62, none), (63, none), (64, none), (65, none), (66, none)] h (xupd w.1 60 2 0, w.2) := xfrm.up (r2.wk rfl) rfl
    exact f2.th (fc.wk rfl)
  · rw [(fc 60 2 rfl).1]
    show xupd w.1 60 2 0 60 2 = 0
    exact xu_eq
