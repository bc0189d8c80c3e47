/-! what the two constructors leave -/
def zI : Nat → Nat → Int32 := fun _ _ => 0
def zL : Nat → Nat → Int64 := fun _ _ => 0
theorem xz (q : Nat) : xrow zI q (fun _ => 0) = zI := by
  funext p k
  unfold xrow zI
  split <;> rfl
theorem xz' (q : Nat) : xrow (fun _ _ => (0 : Int32)) q (fun _ => 0) = zI := xz q
theorem xzL (q : Nat) : xrowL zL q (fun _ => 0) = zL := by
  funext p k
  unfold xrowL zL
  split <;> rfl
def wds : List Int32 → Nat → Int64 → (Nat → Int64) → (Nat → Int64)
  | [], _, _, T => T
  | c :: cs, k, v, T => if c = 32 then wds cs (k + 1) 0 (vp_updL T k v) else wds cs k (f_X9_withLetter v c) T
def spc : List Int32 → Nat
  | [] => 0
  | c :: cs => if c = 32 then spc cs + 1 else spc cs
def wTx : List Int32 := xByts.getD 0 []
def wTb : List Int64 := [405230, 365260, 232608281, 1185305196, 49450627, 7657836787, 3902167, 65782603, 377761, 249, 399641, 107681, 4419, 330800656, 123042611, 369988, 2968, 12387257, 1831504, 10790420, 8930039]
def wW : Nat → Int64 := wds wTx 0 0 (fun _ => 0)
theorem wW_tab : ∀ u, u < 21 → wW u = wTb.getD u 0 := by decide +kernel
theorem wTb_inj : ∀ u, u < 21 → ∀ w, w < 21 → wTb.getD u 0 = wTb.getD w 0 → u = w := by decide +kernel
theorem wW_inj : ∀ u w, u < 21 → w < 21 → wW u = wW w → u = w := fun u w hu hw e => wTb_inj u hu w hw (by rw [← wW_tab u hu, ← wW_tab w hw, e])
theorem wTx_at : ∀ i, i < 122 → f_J0_charAt_5068e_z0 (nI i) = some (wTx.getD i 0) := by decide +kernel
theorem wTx_len : wTx.length = 122 := by decide +kernel
theorem wTx_spc : spc wTx = 21 := by decide +kernel
theorem w_loop : ∀ (cs : List Int32) (i k m : Nat) (v : Int64) (I : Nat → Nat → Int32) (J : Nat → Nat → Int64), cs = wTx.drop i → i + cs.length = 122 → k + spc cs ≤ 21 → cs.length < m → ∃ J', f_tl_c_17_18_46 m (nI k) v (nI i) (I, J) = some (I, J') ∧ J' 22 = wds cs k v (J 22) ∧ ∀ q, q ≠ 22 → J' q = J q := by
  intro cs
  induction cs with
  | nil =>
    intro i k m v I J h1 h2 h3 h4
    obtain ⟨m', rfl⟩ : ∃ m', m = m' + 1 := ⟨m - 1, by omega⟩
    have hi : i = 122 := h2
    subst hi
    simp only [f_tl_c_17_18_46]
    rw [if_pos (show f_J0_length_8abf5_z0 ≤ nI 122 by decide +kernel)]
    exact ⟨J, rfl, rfl, fun _ _ => rfl⟩
  | cons c cs ih =>
    intro i k m v I J h1 h2 h3 h4
    obtain ⟨m', rfl⟩ : ∃ m', m = m' + 1 := ⟨m - 1, by omega⟩
    have hl : i + (cs.length + 1) = 122 := h2
    have hl4 : cs.length + 1 < m' + 1 := h4
    have hd : cs = wTx.drop (i + 1) := by
      have := congrArg List.tail h1
      rw [List.tail_drop] at this
      exact this
    have hc : wTx.getD i 0 = c := by
      have h5 : (wTx.drop i)[0]? = some c := by rw [← h1]; rfl
      rw [List.getElem?_drop] at h5
      rw [List.getD_eq_getElem?_getD, show wTx[i]? = some c from h5]
      rfl
    simp only [f_tl_c_17_18_46]
    rw [if_neg (show ¬ f_J0_length_8abf5_z0 ≤ nI i from by
      rw [show f_J0_length_8abf5_z0 = nI 122 by decide +kernel]
      exact nI_ge (by omega) (by decide)), wTx_at i (by omega), Option.bind_some, hc]
    by_cases z : c = 32
    · rw [if_pos z, xl_e]
      have sp : spc (c :: cs) = spc cs + 1 := by
        show (if c = 32 then spc cs + 1 else spc cs) = _
        rw [if_pos z]
      have wd : wds (c :: cs) k v (J 22) = wds cs (k + 1) 0 (vp_updL (J 22) k v) := by
        show (if c = 32 then wds cs (k + 1) 0 (vp_updL (J 22) k v) else wds cs k (f_X9_withLetter v c) (J 22)) = _
        rw [if_pos z]
      rw [xlput_in (show k < 21 by omega) (by decide), nI_1, nI_1]
      obtain ⟨J', e1, e2, e3⟩ := ih (i + 1) (k + 1) m' 0 I (xupdL J 22 k v) hd (by omega) (by omega) (by omega)
      refine ⟨J', e1, ?_, fun q hq => ?_⟩
      · rw [e2, wd]
        show wds cs (k + 1) 0 (xupdL J 22 k v 22) = _
        rw [show xupdL J 22 k v 22 = vp_updL (J 22) k v from by simp [xupdL]]
      · rw [e3 q hq]
        show (if q = 22 then _ else J q) = J q
        rw [if_neg hq]
    · rw [if_neg z]
      have sp : spc (c :: cs) = spc cs := by
        show (if c = 32 then spc cs + 1 else spc cs) = _
        rw [if_neg z]
      have wd : wds (c :: cs) k v (J 22) = wds cs k (f_X9_withLetter v c) (J 22) := by
        show (if c = 32 then wds cs (k + 1) 0 (vp_updL (J 22) k v) else wds cs k (f_X9_withLetter v c) (J 22)) = _
        rw [if_neg z]
      rw [nI_1]
      obtain ⟨J', e1, e2, e3⟩ := ih (i + 1) k m' (f_X9_withLetter v c) I J hd (by omega) (by omega) (by omega)
      exact ⟨J', e1, by rw [e2, wd], e3⟩
theorem c_emitL {g : xG} {z : Nat} (hz : z < 408) (e4 : g.1 12 4 = nI z) (p q : Int32) : ∃ w, f_X2_add_12 p q g = w ∧ w.1 12 4 = nI (z + 1) ∧ (∀ j, w.1 13 j = if j = z then p else g.1 13 j) ∧ (∀ j, w.1 14 j = if j = z then q else g.1 14 j) ∧ xfrm [(12, some 4), (13, none), (14, none)] g w := by
  unfold f_X2_add_12
  rw [xl_e, e4, xput_in hz (by decide), xl_e]
  rw [show (xupd g.1 13 z p, g.2).1 12 4 = nI z from e4, xput_in hz (by decide)]
  dsimp only
  rw [show xupd (xupd g.1 13 z p) 14 z q 12 4 = nI z from e4, nI_1]
  refine ⟨_, rfl, rfl, fun j => ?_, fun j => ?_, xfrm.up (xfrm.up (xfrm.up xfrm.rf rfl) rfl) rfl⟩
  · show xupd (xupd (xupd g.1 13 z p) 14 z q) 12 4 (nI (z + 1)) 13 j = _
    rw [xu_q (show (13 : Nat) ≠ 12 by decide), xu_q (show (13 : Nat) ≠ 14 by decide), xu_at]
    by_cases y : j = z
    · rw [if_pos ⟨rfl, y⟩, if_pos y]
    · rw [if_neg (fun x => y x.2), if_neg y]
  · show xupd (xupd (xupd g.1 13 z p) 14 z q) 12 4 (nI (z + 1)) 14 j = _
    rw [xu_q (show (14 : Nat) ≠ 12 by decide), xu_at]
    by_cases y : j = z
    · rw [if_pos ⟨rfl, y⟩, if_pos y]
    · rw [if_neg (fun x => y x.2), if_neg y, xu_q (show (14 : Nat) ≠ 13 by decide)]
theorem c_plain1L {g : xG} {k : Nat} {x : Int32} (hk : k < 4) (hx : x = nI k) (e4 : g.1 12 4 = nI (2 * k)) (a b : Int32) : ∃ w, f_X2_add_12 0 0 (f_X2_add_12 a b (f_X2_begin_12 x g)) = w ∧ w.1 12 4 = nI (2 * (k + 1)) ∧ (∀ j, w.1 15 j = if j = k then nI (2 * k) else g.1 15 j) ∧ (∀ j, w.1 13 j = if j = 2 * k then a else if j = 2 * k + 1 then 0 else g.1 13 j) ∧ (∀ j, w.1 14 j = if j = 2 * k then b else if j = 2 * k + 1 then 0 else g.1 14 j) ∧ xfrm [(12, some 4), (13, none), (14, none), (15, none)] g w := by
  have f0 : xfrm [(12, some 4), (13, none), (14, none), (15, none)] g (xupd g.1 15 k (nI (2 * k)), g.2) := xfrm.up xfrm.rf rfl
  have e0 : f_X2_begin_12 x g = (xupd g.1 15 k (nI (2 * k)), g.2) := by
    rw [hx]
    unfold f_X2_begin_12
    rw [xl_e, e4, xput_in hk (by decide)]
  obtain ⟨w1, a1, a2, a3, a4, a5⟩ := c_emitL (g := (xupd g.1 15 k (nI (2 * k)), g.2)) (z := 2 * k) (by omega) (by
    show xupd g.1 15 k (nI (2 * k)) 12 4 = _
    rw [xu_q (by decide), e4]) a b
  obtain ⟨w2, b1, b2, b3, b4, b5⟩ := c_emitL (g := w1) (z := 2 * k + 1) (by omega) a2 0 0
  refine ⟨w2, by rw [e0, a1, b1], b2, fun j => ?_, fun j => ?_, fun j => ?_, (f0.th (a5.wk rfl)).th (b5.wk rfl)⟩
  · rw [(b5 15 j rfl).1, (a5 15 j rfl).1]
    show xupd g.1 15 k (nI (2 * k)) 15 j = _
    rw [xu_at]
    simp only [true_and]
  · rw [b3, a3]
    show (if j = 2 * k + 1 then 0 else if j = 2 * k then a else xupd g.1 15 k (nI (2 * k)) 13 j) = _
    rw [xu_q (by decide)]
    by_cases z : j = 2 * k
    · rw [if_neg (by omega), if_pos z, if_pos z]
    · rw [if_neg z, if_neg z]
  · rw [b4, a4]
    show (if j = 2 * k + 1 then 0 else if j = 2 * k then b else xupd g.1 15 k (nI (2 * k)) 14 j) = _
    rw [xu_q (by decide)]
    by_cases z : j = 2 * k
    · rw [if_neg (by omega), if_pos z, if_pos z]
    · rw [if_neg z, if_neg z]
theorem c_plainL (g : xG) : ∃ w, f_X2_clear_12 g = w ∧ w.1 12 4 = nI 8 ∧ (∀ k, k < 4 → w.1 15 k = nI (2 * k) ∧ brC w (2 * k) (lDef k).1 (lDef k).2) ∧ xfrm [(12, some 4), (13, none), (14, none), (15, none)] g w := by
  have f0 : xfrm [(12, some 4), (13, none), (14, none), (15, none)] g (xupd g.1 12 4 0, g.2) := xfrm.up xfrm.rf rfl
  obtain ⟨w0, a1, a2, a3, a4, a5, a6⟩ := c_plain1L (g := (xupd g.1 12 4 0, g.2)) (k := 0) (x := 0) (by decide) rfl (by show xupd g.1 12 4 0 12 4 = nI (2 * 0); rw [xu_eq, Nat.mul_zero]; rfl) 2 0
  obtain ⟨w1, b1, b2, b3, b4, b5, b6⟩ := c_plain1L (g := w0) (k := 1) (x := 1) (by decide) rfl a2 2 0
  obtain ⟨w2, c1, c2, c3, c4, c5, c6⟩ := c_plain1L (g := w1) (k := 2) (x := 2) (by decide) rfl b2 1 1
  obtain ⟨w3, d1, d2, d3, d4, d5, d6⟩ := c_plain1L (g := w2) (k := 3) (x := 3) (by decide) rfl c2 1 0
  have e : f_X2_clear_12 g = w3 := by
    unfold f_X2_clear_12
    simp only [xl_n]
    rw [a1, b1, c1, d1]
  have law : ∀ k (x y : Int32), k < 4 → (∃ m, (lDef k) = ([], [(m, y)]) ∧ m < 2 ∧ nI (cStp m) = x) → w3.1 13 (2 * k) = x → w3.1 14 (2 * k) = y → w3.1 13 (2 * k + 1) = 0 → brC w3 (2 * k) (lDef k).1 (lDef k).2 := by
    rintro k x y hk ⟨m, hm, hm2, hm3⟩ h1 h2 h3
    rw [hm]
    refine ⟨⟨⟨by omega, ?_, fun _ => ?_⟩, trivial⟩, ?_, ?_⟩
    · rw [h1, hm3]
    · exact h2
    · show 2 * k + 1 < 408
      omega
    · show w3.1 13 (2 * k + 1) = _
      rw [h3]
      rfl
  refine ⟨w3, e, d2, fun k hk => ?_, (((f0.th a6).th b6).th c6).th d6⟩
  have c4' : k = 0 ∨ k = 1 ∨ k = 2 ∨ k = 3 := by omega
  rcases c4' with rfl | rfl | rfl | rfl
  · exact ⟨by rw [d3, if_neg (by decide), c3, if_neg (by decide), b3, if_neg (by decide), a3, if_pos rfl], law 0 2 0 hk ⟨1, rfl, by decide, rfl⟩ (by rw [d4, if_neg (by decide), if_neg (by decide), c4, if_neg (by decide), if_neg (by decide), b4, if_neg (by decide), if_neg (by decide), a4, if_pos rfl]) (by rw [d5, if_neg (by decide), if_neg (by decide), c5, if_neg (by decide), if_neg (by decide), b5, if_neg (by decide), if_neg (by decide), a5, if_pos rfl]) (by rw [d4, if_neg (by decide), if_neg (by decide), c4, if_neg (by decide), if_neg (by decide), b4, if_neg (by decide), if_neg (by decide), a4, if_neg (by decide), if_pos rfl])⟩
  · exact ⟨by rw [d3, if_neg (by decide), c3, if_neg (by decide), b3, if_pos rfl], law 1 2 0 hk ⟨1, rfl, by decide, rfl⟩ (by rw [d4, if_neg (by decide), if_neg (by decide), c4, if_neg (by decide), if_neg (by decide), b4, if_pos rfl]) (by rw [d5, if_neg (by decide), if_neg (by decide), c5, if_neg (by decide), if_neg (by decide), b5, if_pos rfl]) (by rw [d4, if_neg (by decide), if_neg (by decide), c4, if_neg (by decide), if_neg (by decide), b4, if_neg (by decide), if_pos rfl])⟩
  · exact ⟨by rw [d3, if_neg (by decide), c3, if_pos rfl], law 2 1 1 hk ⟨0, rfl, by decide, rfl⟩ (by rw [d4, if_neg (by decide), if_neg (by decide), c4, if_pos rfl]) (by rw [d5, if_neg (by decide), if_neg (by decide), c5, if_pos rfl]) (by rw [d4, if_neg (by decide), if_neg (by decide), c4, if_neg (by decide), if_pos rfl])⟩
  · exact ⟨by rw [d3, if_pos rfl], law 3 1 0 hk ⟨0, rfl, by decide, rfl⟩ (by rw [d4, if_pos rfl]) (by rw [d5, if_pos rfl]) (by rw [d4, if_neg (by decide), if_pos rfl])⟩

theorem rmC_nil {g : xG} (h : g.1 3 9 = 0 ∧ g.1 3 10 = 0 ∧ g.1 3 11 = 0 ∧ g.1 3 12 = 0 ∧ g.1 3 13 = 0) : rmC g rNil := ⟨⟨h.1, h.2.1, h.2.2.1, h.2.2.2.1, h.2.2.2.2⟩, fun r hr => absurd hr (Nat.not_lt_zero r), fun r hr => absurd hr (Nat.not_lt_zero r)⟩
/-- the class's constructor -/
theorem w_class : ∃ w J, f_n_c (zI, zL) = some w ∧ jC_44_48 rNil (rw0 rNil) 0 w ∧ (w.1 0 13 = 0 ∧ w.1 0 15 = 0 ∧ w.1 56 5 = 0) ∧ xfrm fp_tl_c (xupd zI 0 16 (-1), J) w ∧ (∀ u, u < 21 → J 22 u = wW u) ∧ ∀ q k, q ≠ 22 → J q k = 0 := by
  obtain ⟨J, e1, e2, e3⟩ := w_loop wTx 0 0 xN 0 zI zL rfl (by rw [wTx_len]) (by rw [wTx_spc]; omega) (by rw [wTx_len]; decide)
  have n18 : f_n_c_17_18 (zI, zL) = some (zI, J) := by
    unfold f_n_c_17_18
    rw [xz, xz, xzL, xzL]
    exact e1
  have L24 : xrowL (xrowL J 24 (fun _ => 0)) 8 (fun _ => 0) = J := by
    funext p
    by_cases z : p = 22
    · subst z
      simp [xrowL]
    · unfold xrowL
      rw [e3 p z]
      split
      · rfl
      · split <;> rfl
  have L2428 : xrowL (xrowL J 24 (fun _ => 0)) 28 (fun _ => 0) = J := by
    funext p
    by_cases z : p = 22
    · subst z
      simp [xrowL]
    · unfold xrowL
      rw [e3 p z]
      split
      · rfl
      · split <;> rfl
  have n17 : f_n_c_17 (zI, zL) = some (zI, J) := by
    unfold f_n_c_17
    rw [show f_n_c_17_18 (xrow (zI, zL).1 18 (fun _ => 0), (zI, zL).2) = some (zI, J) from by rw [show (xrow (zI, zL).1 18 (fun _ => 0)) = zI from xz 18]; exact n18, Option.bind_some, xl_e]
    unfold f_n_c_17_23 f_n_c_17_23_32
    simp only [xl_n, xz, L2428]
  have nc : f_n_c (zI, zL) = f_tl_c (xupd zI 0 16 (-1), J) := by
    unfold f_n_c f_n_c_1 f_n_c_3 f_n_c_3_12
    simp only [xl_n, xz, xzL]
    rw [n17, Option.bind_some]
    unfold f_n_c_38 f_n_c_40 f_n_c_42 f_n_c_44 f_n_c_46 f_n_c_48 f_n_c_50 f_n_c_52 f_n_c_54 f_n_c_56
    simp only [xl_n, xz]
  obtain ⟨w, a1, a2, a3, a4⟩ := c_plainL (xupd (xupd (xupd (xupd (xupd (xupd zI 0 16 (-1)) 3 9 0) 3 10 0) 3 11 0) 3 12 0) 3 13 0, J)
  have cl : f_X4_clear_3 (xupd zI 0 16 (-1), J) = w := by
    unfold f_X4_clear_3
    rw [xl_e, a1]
  have g3 : ∀ j, w.1 3 j = (xupd (xupd (xupd (xupd (xupd (xupd zI 0 16 (-1)) 3 9 0) 3 10 0) 3 11 0) 3 12 0) 3 13 0) 3 j := fun j => (a4 3 j rfl).1
  have rm : rmC w rNil := rmC_nil (by
    rw [g3, g3, g3, g3, g3]
    refine ⟨?_, ?_, ?_, ?_, xu_eq⟩
    · rw [xu_ne (by decide), xu_ne (by decide), xu_ne (by decide), xu_ne (by decide), xu_eq]
    · rw [xu_ne (by decide), xu_ne (by decide), xu_ne (by decide), xu_eq]
    · rw [xu_ne (by decide), xu_ne (by decide), xu_eq]
    · rw [xu_ne (by decide), xu_eq])
  obtain ⟨w2, b1, b2, b3, b4, b5⟩ := c_anew rNil_ok rm (fun k hk => ⟨2 * k, (a3 k hk).1, (a3 k hk).2⟩)
  have tl : f_tl_c (xupd zI 0 16 (-1), J) = some w2 := by
    unfold f_tl_c
    rw [xl_e, cl, b1, Option.bind_some]
  exact ⟨w2, J, by rw [nc, tl], b2, ⟨b3, b4, b5⟩, fr_tl_c _ tl, fun u hu => by rw [e2]; rfl, fun q k hq => by rw [e3 q hq]; rfl⟩
theorem xzw {I : Nat → Nat → Int32} {q : Nat} (h : ∀ k, I q k = 0) : xrow I q (fun _ => 0) = I := by
  funext p k
  unfold xrow
  by_cases z : p = q
  · rw [if_pos z, z, h k]
  · rw [if_neg z]
theorem xzwL {I : Nat → Nat → Int64} {q : Nat} (h : ∀ k, I q k = 0) : xrowL I q (fun _ => 0) = I := by
  funext p k
  unfold xrowL
  by_cases z : p = q
  · rw [if_pos z, z, h k]
  · rw [if_neg z]
def lt67 (J : Nat → Nat → Int64) : Nat → Nat → Int64 := (xupdL (xupdL (xupdL (xupdL (xupdL (xupdL (xupdL (xupdL (xupdL (xupdL (xupdL (xupdL (xupdL (xupdL (xupdL (xupdL (xupdL (xupdL (xupdL (xupdL (xupdL J 67 0 (f_X12_letters 116 111 119 110 0 0 0)) 67 1 (f_X12_letters 114 111 97 100 0 0 0)) 67 2 (f_X12_letters 112 101 114 115 111 110 0)) 67 3 (f_X12_letters 99 97 112 105 116 97 108)) 67 4 (f_X12_letters 99 108 97 105 109 115 0)) 67 5 (f_X12_letters 115 116 114 111 107 101 115)) 67 6 (f_X12_letters 103 105 102 116 115 0 0)) 67 7 (f_X12_letters 100 111 117 98 116 115 0)) 67 8 (f_X12_letters 115 101 101 100 0 0 0)) 67 9 (f_X12_letters 105 102 0 0 0 0 0)) 67 10 (f_X12_letters 116 104 101 110 0 0 0)) 67 11 (f_X12_letters 101 108 115 101 0 0 0)) 67 12 (f_X12_letters 102 97 114 0 0 0 0)) 67 13 (f_X12_letters 119 97 108 107 101 100 0)) 67 14 (f_X12_letters 104 111 110 101 115 116 0)) 67 15 (f_X12_letters 114 117 110 103 0 0 0)) 67 16 (f_X12_letters 100 97 121 0 0 0 0)) 67 17 (f_X12_letters 119 104 105 99 104 0 0)) 67 18 (f_X12_letters 99 108 97 105 109 0 0)) 67 19 (f_X12_letters 116 104 101 114 101 0 0)) 67 20 (f_X12_letters 112 117 114 115 101 0 0))
theorem lt67_at (J : Nat → Nat → Int64) : ∀ u, u < 21 → lt67 J 67 u = wW u := by
  intro u hu
  rw [wW_tab u hu]
  have c21 : u = 0 ∨ u = 1 ∨ u = 2 ∨ u = 3 ∨ u = 4 ∨ u = 5 ∨ u = 6 ∨ u = 7 ∨ u = 8 ∨ u = 9 ∨ u = 10 ∨ u = 11 ∨ u = 12 ∨ u = 13 ∨ u = 14 ∨ u = 15 ∨ u = 16 ∨ u = 17 ∨ u = 18 ∨ u = 19 ∨ u = 20 := by omega
  rcases c21 with rfl | rfl | rfl | rfl | rfl | rfl | rfl | rfl | rfl | rfl | rfl | rfl | rfl | rfl | rfl | rfl | rfl | rfl | rfl | rfl | rfl
  · unfold lt67
    rw [xuL_ne (by decide), xuL_ne (by decide), xuL_ne (by decide), xuL_ne (by decide), xuL_ne (by decide), xuL_ne (by decide), xuL_ne (by decide), xuL_ne (by decide), xuL_ne (by decide), xuL_ne (by decide), xuL_ne (by decide), xuL_ne (by decide), xuL_ne (by decide), xuL_ne (by decide), xuL_ne (by decide), xuL_ne (by decide), xuL_ne (by decide), xuL_ne (by decide), xuL_ne (by decide), xuL_ne (by decide), xuL_eq]
    decide +kernel
  · unfold lt67
    rw [xuL_ne (by decide), xuL_ne (by decide), xuL_ne (by decide), xuL_ne (by decide), xuL_ne (by decide), xuL_ne (by decide), xuL_ne (by decide), xuL_ne (by decide), xuL_ne (by decide), xuL_ne (by decide), xuL_ne (by decide), xuL_ne (by decide), xuL_ne (by decide), xuL_ne (by decide), xuL_ne (by decide), xuL_ne (by decide), xuL_ne (by decide), xuL_ne (by decide), xuL_ne (by decide), xuL_eq]
    decide +kernel
  · unfold lt67
    rw [xuL_ne (by decide), xuL_ne (by decide), xuL_ne (by decide), xuL_ne (by decide), xuL_ne (by decide), xuL_ne (by decide), xuL_ne (by decide), xuL_ne (by decide), xuL_ne (by decide), xuL_ne (by decide), xuL_ne (by decide), xuL_ne (by decide), xuL_ne (by decide), xuL_ne (by decide), xuL_ne (by decide), xuL_ne (by decide), xuL_ne (by decide), xuL_ne (by decide), xuL_eq]
    decide +kernel
  · unfold lt67
    rw [xuL_ne (by decide), xuL_ne (by decide), xuL_ne (by decide), xuL_ne (by decide), xuL_ne (by decide), xuL_ne (by decide), xuL_ne (by decide), xuL_ne (by decide), xuL_ne (by decide), xuL_ne (by decide), xuL_ne (by decide), xuL_ne (by decide), xuL_ne (by decide), xuL_ne (by decide), xuL_ne (by decide), xuL_ne (by decide), xuL_ne (by decide), xuL_eq]
    decide +kernel
  · unfold lt67
    rw [xuL_ne (by decide), xuL_ne (by decide), xuL_ne (by decide), xuL_ne (by decide), xuL_ne (by decide), xuL_ne (by decide), xuL_ne (by decide), xuL_ne (by decide), xuL_ne (by decide), xuL_ne (by decide), xuL_ne (by decide), xuL_ne (by decide), xuL_ne (by decide), xuL_ne (by decide), xuL_ne (by decide), xuL_ne (by decide), xuL_eq]
    decide +kernel
  · unfold lt67
    rw [xuL_ne (by decide), xuL_ne (by decide), xuL_ne (by decide), xuL_ne (by decide), xuL_ne (by decide), xuL_ne (by decide), xuL_ne (by decide), xuL_ne (by decide), xuL_ne (by decide), xuL_ne (by decide), xuL_ne (by decide), xuL_ne (by decide), xuL_ne (by decide), xuL_ne (by decide), xuL_ne (by decide), xuL_eq]
    decide +kernel
  · unfold lt67
    rw [xuL_ne (by decide), xuL_ne (by decide), xuL_ne (by decide), xuL_ne (by decide), xuL_ne (by decide), xuL_ne (by decide), xuL_ne (by decide), xuL_ne (by decide), xuL_ne (by decide), xuL_ne (by decide), xuL_ne (by decide), xuL_ne (by decide), xuL_ne (by decide), xuL_ne (by decide), xuL_eq]
    decide +kernel
  · unfold lt67
    rw [xuL_ne (by decide), xuL_ne (by decide), xuL_ne (by decide), xuL_ne (by decide), xuL_ne (by decide), xuL_ne (by decide), xuL_ne (by decide), xuL_ne (by decide), xuL_ne (by decide), xuL_ne (by decide), xuL_ne (by decide), xuL_ne (by decide), xuL_ne (by decide), xuL_eq]
    decide +kernel
  · unfold lt67
    rw [xuL_ne (by decide), xuL_ne (by decide), xuL_ne (by decide), xuL_ne (by decide), xuL_ne (by decide), xuL_ne (by decide), xuL_ne (by decide), xuL_ne (by decide), xuL_ne (by decide), xuL_ne (by decide), xuL_ne (by decide), xuL_ne (by decide), xuL_eq]
    decide +kernel
  · unfold lt67
    rw [xuL_ne (by decide), xuL_ne (by decide), xuL_ne (by decide), xuL_ne (by decide), xuL_ne (by decide), xuL_ne (by decide), xuL_ne (by decide), xuL_ne (by decide), xuL_ne (by decide), xuL_ne (by decide), xuL_ne (by decide), xuL_eq]
    decide +kernel
  · unfold lt67
    rw [xuL_ne (by decide), xuL_ne (by decide), xuL_ne (by decide), xuL_ne (by decide), xuL_ne (by decide), xuL_ne (by decide), xuL_ne (by decide), xuL_ne (by decide), xuL_ne (by decide), xuL_ne (by decide), xuL_eq]
    decide +kernel
  · unfold lt67
    rw [xuL_ne (by decide), xuL_ne (by decide), xuL_ne (by decide), xuL_ne (by decide), xuL_ne (by decide), xuL_ne (by decide), xuL_ne (by decide), xuL_ne (by decide), xuL_ne (by decide), xuL_eq]
    decide +kernel
  · unfold lt67
    rw [xuL_ne (by decide), xuL_ne (by decide), xuL_ne (by decide), xuL_ne (by decide), xuL_ne (by decide), xuL_ne (by decide), xuL_ne (by decide), xuL_ne (by decide), xuL_eq]
    decide +kernel
  · unfold lt67
    rw [xuL_ne (by decide), xuL_ne (by decide), xuL_ne (by decide), xuL_ne (by decide), xuL_ne (by decide), xuL_ne (by decide), xuL_ne (by decide), xuL_eq]
    decide +kernel
  · unfold lt67
    rw [xuL_ne (by decide), xuL_ne (by decide), xuL_ne (by decide), xuL_ne (by decide), xuL_ne (by decide), xuL_ne (by decide), xuL_eq]
    decide +kernel
  · unfold lt67
    rw [xuL_ne (by decide), xuL_ne (by decide), xuL_ne (by decide), xuL_ne (by decide), xuL_ne (by decide), xuL_eq]
    decide +kernel
  · unfold lt67
    rw [xuL_ne (by decide), xuL_ne (by decide), xuL_ne (by decide), xuL_ne (by decide), xuL_eq]
    decide +kernel
  · unfold lt67
    rw [xuL_ne (by decide), xuL_ne (by decide), xuL_ne (by decide), xuL_eq]
    decide +kernel
  · unfold lt67
    rw [xuL_ne (by decide), xuL_ne (by decide), xuL_eq]
    decide +kernel
  · unfold lt67
    rw [xuL_ne (by decide), xuL_eq]
    decide +kernel
  · unfold lt67
    rw [xuL_eq]
    decide +kernel
/-- the reference's constructor, behind a world that holds nothing of it -/
theorem w_ref {g : xG} (hz : ∀ q k, 60 ≤ q → g.1 q k = 0 ∧ g.2 q k = 0) : ∃ w, f_n_m g = some w ∧ (∀ q k, q < 60 → w.1 q k = g.1 q k ∧ w.2 q k = g.2 q k) ∧ rmR w 0 rNil ∧ lwG rNil 0 w ∧ (∀ k, k < 40 → w.1 93 k = rw0 rNil k) ∧ (w.1 60 17 = -1 ∧ w.1 60 2 = 0 ∧ w.1 60 55 = 0 ∧ w.1 60 58 = 0) ∧ (∀ s, w.1 101 s = 0) ∧ ∀ u, u < 21 → w.2 67 u = wW u := by
  have e0 : f_n_m g = f_tl_m (xupd g.1 60 17 (-1), g.2) := by
    have f : ∀ q, 60 ≤ q → xrow g.1 q (fun _ => 0) = g.1 := fun q hq => xzw fun k => (hz q k hq).1
    have f' : ∀ q, 61 ≤ q → xrow (xupd g.1 60 17 (-1)) q (fun _ => 0) = xupd g.1 60 17 (-1) := fun q hq => xzw fun k => by rw [xu_q (by omega)]; exact (hz q k (by omega)).1
    have f'' : ∀ q, 60 ≤ q → xrowL g.2 q (fun _ => 0) = g.2 := fun q hq => xzwL fun k => (hz q k hq).2
    unfold f_n_m
    rw [f 61 (by decide), f 62 (by decide), f 63 (by decide), f 64 (by decide), f 65 (by decide), f'' 66 (by decide), f'' 67 (by decide), f'' 68 (by decide)]
    rw [f' 69 (by decide), f' 70 (by decide), f' 71 (by decide), f' 72 (by decide), f' 73 (by decide), f' 74 (by decide), f' 75 (by decide), f' 76 (by decide), f' 77 (by decide), f' 78 (by decide), f' 79 (by decide), f' 80 (by decide), f' 81 (by decide), f' 82 (by decide), f' 83 (by decide), f' 84 (by decide), f' 85 (by decide), f' 86 (by decide), f' 87 (by decide), f' 88 (by decide), f' 89 (by decide), f' 90 (by decide), f' 91 (by decide), f' 92 (by decide), f' 93 (by decide), f' 94 (by decide), f' 95 (by decide), f' 96 (by decide), f' 97 (by decide), f' 98 (by decide), f' 99 (by decide), f' 100 (by decide), f' 101 (by decide), f' 102 (by decide)]
  obtain ⟨v0, a1, a2, a3, a4, a5⟩ := r_plain (M := 0) (h := (xupd g.1 60 17 (-1), g.2)) (by decide)
  obtain ⟨v1, b1, b2, b3, b4, b5⟩ := r_plain (M := 1) (h := v0) (by decide)
  have f1 : xfrm [(70, none), (71, none), (75, none), (79, none), (80, none), (81, none), (82, none)] (xupd g.1 60 17 (-1), g.2) v1 := a3.th b3
  have z1 : ∀ q k, 60 ≤ q → ¬ (q = 60 ∧ k = 17) → xcov [(70, none), (71, none), (75, none), (79, none), (80, none), (81, none), (82, none)] q k = false → v1.1 q k = 0 := fun q k h1 h2 h3 => by
    rw [(f1 q k h3).1]
    show xupd g.1 60 17 (-1) q k = 0
    rw [xu_at, if_neg h2]
    exact (hz q k h1).1
  obtain ⟨s1, s2, s3, s4, s5, s6⟩ := b2
  obtain ⟨c70, c71, c75, c79, c80⟩ := s1 0 (by decide)
  have k67 : xfrm [(67, none)] v1 (v1.1, lt67 v1.2) := (xfrm.ul (xfrm.ul (xfrm.ul (xfrm.ul (xfrm.ul (xfrm.ul (xfrm.ul (xfrm.ul (xfrm.ul (xfrm.ul (xfrm.ul (xfrm.ul (xfrm.ul (xfrm.ul (xfrm.ul (xfrm.ul (xfrm.ul (xfrm.ul (xfrm.ul (xfrm.ul (xfrm.ul xfrm.rf rfl) rfl) rfl) rfl) rfl) rfl) rfl) rfl) rfl) rfl) rfl) rfl) rfl) rfl) rfl) rfl) rfl) rfl) rfl) rfl) rfl)
  have rd0 : rmD v1 0 rNil := ⟨⟨c70.trans a4.1, c71.trans a4.2.1, c75.trans a4.2.2.1, c79.trans a4.2.2.2.1, c80.trans a4.2.2.2.2⟩, fun r hr => absurd hr (Nat.not_lt_zero r), fun r hr => absurd hr (Nat.not_lt_zero r)⟩
  have l67 := lt67_at v1.2
  obtain ⟨w3, d1, d2, d3⟩ := r_begins (M := 0) (h := (v1.1, lt67 v1.2)) rNil_ok (by decide) (z1 60 18 (by decide) (by decide) rfl) (rd0.ag (k67.agr rfl))
  obtain ⟨w4, e1, e2, e3⟩ := r_keeps (g := w3)
  have em : f_tl_m (xupd g.1 60 17 (-1), g.2) = some w4 := by
    unfold f_tl_m
    rw [show f_X12_plain_60 0 (xupd g.1 60 17 (-1), g.2) = some v0 from a1, Option.bind_some, show f_X12_plain_60 1 v0 = some v1 from b1, Option.bind_some]
    iterate 21 refine (xg_t (by decide +kernel)).trans ?_
    show ((f_X12_begins_60 (v1.1, lt67 v1.2)).bind fun w3 => (f_X12_keepsRow_60 w3).bind fun w4 => some w4) = some w4
    rw [d1, Option.bind_some, e1, Option.bind_some]
  have f2 : xfrm [(60, some 52), (60, some 53), (67, none), (93, none), (94, none)] v1 w4 := ((k67.wk rfl).th (d2.wk rfl)).th (e2.wk rfl)
  refine ⟨w4, by rw [e0, em], fun q k hq => ?_, ?_, fun k hk => .inl ⟨?_, ?_, rfl⟩, fun k hk => (e3 k hk).trans (d3 k hk), ⟨?_, ?_, ?_, ?_⟩, fun s => ?_, fun u hu => ?_⟩
  · have x1 := f2 q k (ge_cov rfl hq)
    have x2 := f1 q k (ge_cov rfl hq)
    refine ⟨(x1.1.trans x2.1).trans ?_, x1.2.trans x2.2⟩
    show xupd g.1 60 17 (-1) q k = g.1 q k
    exact xu_q (by omega)
  · obtain ⟨q1, q2, q3⟩ := rd0.ag (f2.agr (C := kRd) rfl)
    exact ⟨⟨by decide, ((f2 60 18 rfl).1).trans (z1 60 18 (by decide) (by decide) rfl), q1⟩, q2, q3⟩
  · exact ((f2 81 _ rfl).1).trans (((s4 _ (by omega)).1).trans (a5 k hk).1)
  · exact ((f2 82 _ rfl).1).trans (((s4 _ (by omega)).2).trans (a5 k hk).2)
  · rw [(f2 60 17 rfl).1, (f1 60 17 rfl).1]
    show xupd g.1 60 17 (-1) 60 17 = -1
    exact xu_eq
  · exact ((f2 60 2 rfl).1).trans (z1 60 2 (by decide) (by decide) rfl)
  · exact ((f2 60 55 rfl).1).trans (z1 60 55 (by decide) (by decide) rfl)
  · exact ((f2 60 58 rfl).1).trans (z1 60 58 (by decide) (by decide) rfl)
  · exact ((f2 101 s rfl).1).trans (z1 101 s (by decide) (fun y => absurd y.1 (by decide)) rfl)
  · rw [(e2 67 u rfl).2, (d2 67 u rfl).2]
    exact l67 u hu
/-- the world behind both constructors -/
theorem w_begin : ∃ w1 w2, f_n_c (zI, zL) = some w1 ∧ ((xrow w1.1 60 (fun _ => 0), w1.2) : xG) = w1 ∧ f_n_m w1 = some w2 ∧ mMM wW rNil 0 w2 := by
  obtain ⟨w1, J, a1, a2, ⟨a3, a4, a5⟩, a6, a7, a8⟩ := w_class
  have hz : ∀ q k, 60 ≤ q → w1.1 q k = 0 ∧ w1.2 q k = 0 := fun q k hq => by
    have := a6 q k (lt_cov rfl hq)
    refine ⟨this.1.trans ?_, this.2.trans (a8 q k (by omega))⟩
    show xupd zI 0 16 (-1) q k = 0
    rw [xu_q (by omega)]
    rfl
  obtain ⟨w2, b1, b2, b3, b4, b5, ⟨b6, b7, b8, b9⟩, b10, b11⟩ := w_ref hz
  have h6 := rNil_ok.p
  have b2' : agL w1 w2 := b2
  refine ⟨w1, w2, a1, by rw [xzw fun k => (hz 60 k (by decide)).1], b1, ⟨rNil_ok, ⟨b3, b4.lwR (by decide), rowOK_eq rNil_ok (rw0_ok rNil_ok) b5, 0, by decide, (b5 36 (by decide)).trans rfl, ?_⟩, ?_, ?_, ⟨?_, fun s hs => ?_⟩, ?_, fun u hu => ⟨?_, b11 u hu⟩⟩, b4⟩
  · obtain ⟨j1, j2, j3, j4, j5⟩ := a2.ag (b2'.ag (C := kJ_44_48) rfl)
    exact ⟨j1, j2, j3, j4, stF_eq h6 j5 b5 fun k _ => rfl⟩
  · refine ⟨?_, 0, by decide, ?_, b7, fun i hi => absurd hi (Nat.not_lt_zero i)⟩
    · rw [(b2 0 16 (by decide)).1, (a6 0 16 rfl).1, b6]
      show xupd zI 0 16 (-1) 0 16 = -1
      exact xu_eq
    · rw [(b2 1 1 (by decide)).1, (a6 1 1 rfl).1]
      rfl
  · refine ⟨0, 0, by decide, by decide, (b2 0 13 (by decide)).1.trans a3, b8, ?_, fun j hj => absurd hj (Nat.not_lt_zero j)⟩
    rw [(b2 0 14 (by decide)).1, (a6 0 14 rfl).1]
    show xupd zI 0 16 (-1) 0 14 = nI 0
    rw [xu_ne (by decide)]
    rfl
  · have b0 : bq (fun s => decide (w2.1 101 s = 1)) 3 = 0 := by
      have := bq_eq (f := fun s => decide (w2.1 101 s = 1)) (h := fun _ => false) (n := 3) (fun k hk => by
        show decide (w2.1 101 k = 1) = false
        rw [b10 k]
        rfl)
      rw [this]
      rfl
    rw [b0]
    exact (b2 0 15 (by decide)).1.trans a4
  · exact ⟨.inl (b10 s), fun y => by rw [b10 s] at y; exact absurd y (by decide)⟩
  · exact ⟨0, by decide, (b2 56 5 (by decide)).1.trans a5, b9, fun i hi => absurd hi (Nat.not_lt_zero i)⟩
  · rw [(b2 22 u (by decide)).2, (a6 22 u rfl).2]
    exact a7 u hu
theorem w_all (xs : Nat → Int32) (Ls : Nat) (hLs : Ls ≤ 3072) : ∃ w1 w2 out, f_n_c (zI, zL) = some w1 ∧ ((xrow w1.1 60 (fun _ => 0), w1.2) : xG) = w1 ∧ f_n_m w1 = some w2 ∧ f_law xs Ls w2 = some out ∧ out.1 = 1 := by
  obtain ⟨w1, w2, e1, ez, e2, h⟩ := w_begin
  obtain ⟨out, o1, o2⟩ := law_all wW_inj xs Ls hLs xN 0 rNil 0 w2 h (Nat.zero_le _) (by show Ls < 0 + 6 * 4000; omega)
  exact ⟨w1, w2, out, e1, ez, e2, o1, o2⟩
