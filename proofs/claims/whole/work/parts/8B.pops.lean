/-! the draft as a realm; steps emitted; what waits comes out -/
def dw (g : xG) : xG := (fun q => if q = 3 then g.1 23 else if q = 5 then g.1 25 else if q = 6 then g.1 26 else if q = 7 then g.1 27 else if q = 9 then g.1 29 else if q = 10 then g.1 30 else if q = 11 then g.1 31 else if q = 13 then g.1 33 else if q = 14 then g.1 34 else if q = 15 then g.1 35 else g.1 q, g.2)
def opc (k : Nat) : pI := (k - 4, 0)
def bnd (k : Nat) : Nat := if k = 6 ∨ k = 7 then 1 else if k = 8 ∨ k = 9 then 2 else 0
theorem c_bnd : ∀ k, k < 40 → f_X3_bindingOf (nI k) = nI (bnd k) := by decide +kernel
def wst (t : Nat → Nat) (f : Nat → Int32) : List Nat → Prop
  | [] => True
  | x :: W => f W.length = nI (t x) ∧ wst t f W
theorem wst_up {t : Nat → Nat} {f f' : Nat → Int32} : ∀ {W : List Nat}, wst t f W → (∀ j, j < W.length → f' j = f j) → wst t f' W
  | [], _, _ => trivial
  | x :: W, ⟨a, b⟩, e => ⟨(e _ (by simp)).trans a, wst_up b (fun j hj => e j (by simp; omega))⟩
theorem wst_app {t : Nat → Nat} {f : Nat → Int32} : ∀ {l W : List Nat}, wst t f (l ++ W) → wst t f W
  | [], _, h => h
  | _ :: l, W, h => wst_app (l := l) h.2
theorem sgC_app {g : xG} : ∀ {c d : List pI} {i : Nat}, sgC g i (c ++ d) ↔ sgC g i c ∧ sgC g (i + c.length) d
  | [], d, i => by simp [sgC]
  | (k, v) :: c, d, i => by
    rw [List.cons_append]
    simp only [sgC, List.length_cons]
    rw [sgC_app (c := c), show i + 1 + c.length = i + (c.length + 1) by omega]
    exact and_assoc.symm
theorem sgR_app {g : xG} : ∀ {c d : List pI} {i : Nat}, sgR g i (c ++ d) ↔ sgR g i c ∧ sgR g (i + c.length) d
  | [], d, i => by simp [sgR]
  | (k, v) :: c, d, i => by
    rw [List.cons_append]
    simp only [sgR, List.length_cons]
    rw [sgR_app (c := c), show i + 1 + c.length = i + (c.length + 1) by omega]
    exact and_assoc.symm
theorem sgC_up {g w : xG} : ∀ {c : List pI} {i : Nat}, (∀ j, i ≤ j → j < i + c.length → w.1 13 j = g.1 13 j ∧ w.1 14 j = g.1 14 j) → sgC g i c → sgC w i c
  | [], _, _, _ => trivial
  | (k, v) :: c, i, e, ⟨⟨h1, h2, h3⟩, h4⟩ => ⟨⟨h1, (e i (Nat.le_refl _) (by simp)).1.trans h2, fun hk => (e i (Nat.le_refl _) (by simp)).2.trans (h3 hk)⟩, sgC_up (fun j h5 h6 => e j (by omega) (by simp; omega)) h4⟩
theorem sgR_up {g w : xG} : ∀ {c : List pI} {i : Nat}, (∀ j, i ≤ j → j < i + c.length → w.1 88 j = g.1 88 j ∧ w.1 89 j = g.1 89 j) → sgR g i c → sgR w i c
  | [], _, _, _ => trivial
  | (k, v) :: c, i, e, ⟨⟨h1, h2, h3⟩, h4⟩ => ⟨⟨h1, (e i (Nat.le_refl _) (by simp)).1.trans h2, fun hk => (e i (Nat.le_refl _) (by simp)).2.trans (h3 hk)⟩, sgR_up (fun j h5 h6 => e j (by omega) (by simp; omega)) h4⟩
theorem shp_c (n k : Nat) (v : Int32) (c : List pI) : shp n ((k, v) :: c) = if k < 2 then (if n < 15 ∧ (k = 1 → v.toNatClampNeg < 9 ∧ v = nI v.toNatClampNeg) then shp (n + 1) c else none) else if 2 ≤ n ∧ k < 6 then shp (n - 1) c else none := rfl
theorem shp_app {d : List pI} : ∀ {c : List pI} {n m : Nat}, shp n c = some m → shp n (c ++ d) = shp m d
  | [], n, m, h => by cases h; rfl
  | (k, v) :: c, n, m, h => by
    rw [List.cons_append]
    rw [shp_c] at h ⊢
    by_cases z : k < 2
    · rw [if_pos z] at h ⊢
      by_cases y : n < 15 ∧ (k = 1 → v.toNatClampNeg < 9 ∧ v = nI v.toNatClampNeg)
      · rw [if_pos y] at h ⊢
        exact shp_app h
      · rw [if_neg y] at h
        cases h
    · rw [if_neg z] at h ⊢
      by_cases y : 2 ≤ n ∧ k < 6
      · rw [if_pos y] at h ⊢
        exact shp_app h
      · rw [if_neg y] at h
        cases h
theorem shp_ops : ∀ {l : List Nat} {n : Nat}, (∀ k ∈ l, 6 ≤ k ∧ k ≤ 9) → shp (n + l.length + 1) (l.map opc) = some (n + 1)
  | [], n, _ => rfl
  | k :: l, n, h => by
    obtain ⟨k1, k2⟩ := h k (by simp)
    rw [List.map_cons]
    show shp (n + (l.length + 1) + 1) ((k - 4, 0) :: l.map opc) = _
    rw [shp_c]
    rw [if_neg (show ¬ k - 4 < 2 by omega), if_pos (show 2 ≤ n + (l.length + 1) + 1 ∧ k - 4 < 6 by omega), show n + (l.length + 1) + 1 - 1 = n + l.length + 1 by omega]
    exact shp_ops (fun x hx => h x (by simp [hx]))
/-- the class adds a step -/
theorem c_emit {g : xG} {z : Nat} (hz : z < 408) (e4 : g.1 32 4 = nI z) (p q : Int32) : ∃ w, f_X2_add_32 p q g = w ∧ w.1 32 4 = nI (z + 1) ∧ (∀ j, w.1 33 j = if j = z then p else g.1 33 j) ∧ (∀ j, w.1 34 j = if j = z then q else g.1 34 j) ∧ xfrm [(32, some 4), (33, none), (34, none)] g w := by
  unfold f_X2_add_32
  rw [xl_e, e4, xput_in hz (by decide), xl_e]
  rw [show (xupd g.1 33 z p, g.2).1 32 4 = nI z from e4, xput_in hz (by decide)]
  dsimp only
  rw [show xupd (xupd g.1 33 z p) 34 z q 32 4 = nI z from e4, nI_1]
  refine ⟨_, rfl, rfl, fun j => ?_, fun j => ?_, xfrm.up (xfrm.up (xfrm.up xfrm.rf rfl) rfl) rfl⟩
  · show xupd (xupd (xupd g.1 33 z p) 34 z q) 32 4 (nI (z + 1)) 33 j = _
    rw [xu_q (show (33 : Nat) ≠ 32 by decide), xu_q (show (33 : Nat) ≠ 34 by decide), xu_at]
    by_cases y : j = z
    · rw [if_pos ⟨rfl, y⟩, if_pos y]
    · rw [if_neg (fun x => y x.2), if_neg y]
  · show xupd (xupd (xupd g.1 33 z p) 34 z q) 32 4 (nI (z + 1)) 34 j = _
    rw [xu_q (show (34 : Nat) ≠ 32 by decide), xu_at]
    by_cases y : j = z
    · rw [if_pos ⟨rfl, y⟩, if_pos y]
    · rw [if_neg (fun x => y x.2), if_neg y, xu_q (show (34 : Nat) ≠ 33 by decide)]
theorem r_emit {h : xG} {z : Nat} (hz : z < 840) (e4 : h.1 60 42 = nI z) (p q : Int32) : ∃ w, f_X12_emit_60 p q h = some w ∧ w.1 60 42 = nI (z + 1) ∧ (∀ j, w.1 88 j = if j = z then p else h.1 88 j) ∧ (∀ j, w.1 89 j = if j = z then q else h.1 89 j) ∧ xfrm [(60, some 42), (88, none), (89, none)] h w := by
  unfold f_X12_emit_60
  rw [e4, xg_in hz (by decide), xg_in hz (by decide), nI_clamp (by omega), nI_1]
  refine ⟨_, rfl, rfl, fun j => ?_, fun j => ?_, xfrm.up (xfrm.up (xfrm.up xfrm.rf rfl) rfl) rfl⟩
  · show xupd (xupd (xupd h.1 88 z p) 89 z q) 60 42 (nI (z + 1)) 88 j = _
    rw [xu_q (show (88 : Nat) ≠ 60 by decide), xu_q (show (88 : Nat) ≠ 89 by decide), xu_at]
    by_cases y : j = z
    · rw [if_pos ⟨rfl, y⟩, if_pos y]
    · rw [if_neg (fun x => y x.2), if_neg y]
  · show xupd (xupd (xupd h.1 88 z p) 89 z q) 60 42 (nI (z + 1)) 89 j = _
    rw [xu_q (show (89 : Nat) ≠ 60 by decide), xu_at]
    by_cases y : j = z
    · rw [if_pos ⟨rfl, y⟩, if_pos y]
    · rw [if_neg (fun x => y x.2), if_neg y, xu_q (show (89 : Nat) ≠ 88 by decide)]
theorem dw_13 (g : xG) (j : Nat) : (dw g).1 13 j = g.1 33 j := rfl
theorem dw_14 (g : xG) (j : Nat) : (dw g).1 14 j = g.1 34 j := rfl
def stEnd (rest : List Nat) (b : Nat) : Prop := rest = [] ∨ ∃ x r, rest = x :: r ∧ x < 34 ∧ bnd x < b
theorem c_pop {b : Nat} {rest : List Nat} (hb : 1 ≤ b) (hb2 : b ≤ 2) (hr : stEnd rest b) : ∀ (l : List Nat) (g : xG) (z fuel : Nat), (∀ k ∈ l, 6 ≤ k ∧ k ≤ 9 ∧ b ≤ bnd k) → g.1 17 4 = nI (l ++ rest).length → wst id (g.1 37) (l ++ rest) → (l ++ rest).length ≤ 21 → g.1 32 4 = nI z → z + l.length ≤ 408 → l.length < fuel → ∃ g', f_X3_addWaiting_17_7 fuel (nI b) (nI (l ++ rest).length - 1) g = some g' ∧ g'.1 17 4 = nI rest.length ∧ g'.1 32 4 = nI (z + l.length) ∧ sgC (dw g') z (l.map opc) ∧ (∀ q, q < z → g'.1 33 q = g.1 33 q ∧ g'.1 34 q = g.1 34 q) ∧ xfrm [(17, some 4), (32, some 4), (33, none), (34, none)] g g'
  | [], g, z, fuel, _, e4, ew, h21, ez, hz, hf => by
    obtain ⟨m, rfl⟩ : ∃ m, fuel = m + 1 := ⟨fuel - 1, by omega⟩
    refine ⟨g, ?_, e4, ez, trivial, fun _ _ => ⟨rfl, rfl⟩, xfrm.rf⟩
    simp only [f_X3_addWaiting_17_7, List.nil_append]
    rcases hr with rfl | ⟨x, r, rfl, hx, hx2⟩
    · rw [if_pos (by decide)]
    · have hlen : r.length < 21 := by
        have : ([] ++ (x :: r) : List Nat).length = r.length + 1 := rfl
        omega
      rw [List.length_cons, show (nI (r.length + 1) - 1 : Int32) = nI r.length from nI_pred _, if_neg (nI_pos (by omega)), xat_in hlen (by decide), show g.1 37 r.length = nI x from ew.1, c_bnd x (by omega), if_pos (nI_lt hx2 (by omega))]
  | k :: l, g, z, fuel, hk, e4, ew, h21, ez, hz, hf => by
    obtain ⟨m, rfl⟩ : ∃ m, fuel = m + 1 := ⟨fuel - 1, by omega⟩
    obtain ⟨k1, k2, k3⟩ := hk k (by simp)
    rw [List.cons_append] at e4 ew h21 ⊢
    rw [List.length_cons] at e4 h21 hz hf ⊢
    rw [show (k :: l).length = l.length + 1 from rfl]
    have hlen : (l ++ rest).length < 21 := by omega
    obtain ⟨w1, a1, a2, a3, a4, a5⟩ := c_emit (show z < 408 by omega) ez (4 + (nI k - 6)) 0
    have f2 : xfrm [(17, some 4)] w1 (xupd w1.1 17 4 (nI (l ++ rest).length), w1.2) := xfrm.up xfrm.rf rfl
    have f12 : xfrm [(17, some 4), (32, some 4), (33, none), (34, none)] g (xupd w1.1 17 4 (nI (l ++ rest).length), w1.2) := (a5.wk rfl).th (f2.wk rfl)
    obtain ⟨g', b1, b2, b3, b4, b5, b6⟩ := c_pop hb hb2 hr l (xupd w1.1 17 4 (nI (l ++ rest).length), w1.2) (z + 1) m (fun x hx => hk x (by simp [hx])) rfl (wst_up ew.2 (fun j _ => (f12 37 j rfl).1)) (by omega) (((f2 32 4 rfl).1).trans a2) (by omega) (by omega)
    refine ⟨g', ?_, b2, b3.trans (by rw [show z + 1 + l.length = z + (l.length + 1) by omega]), ?_, fun q hq => ?_, f12.th b6⟩
    · simp only [f_X3_addWaiting_17_7]
      have hbk : b ≤ bnd k := k3
      have bk2 : bnd k ≤ 2 := by unfold bnd; split <;> (try split) <;> omega
      rw [show (nI ((l ++ rest).length + 1) - 1 : Int32) = nI (l ++ rest).length from nI_pred _, if_neg (nI_pos (by omega)), xat_in hlen (by decide), show g.1 37 (l ++ rest).length = nI k from ew.1, c_bnd k (by omega), if_neg (nI_nlt hbk (by omega)), a1, xl_e, show (nI (l ++ rest).length + (-1) : Int32) = nI (l ++ rest).length - 1 from (Int32.sub_eq_add_neg _ 1).symm, b1]
    · rw [List.map_cons]
      refine ⟨⟨by omega, ?_, fun y => absurd y (by omega)⟩, b4⟩
      rw [dw_13, (b5 z (by omega)).1, (f2 33 z rfl).1, a3, if_pos rfl, show (6 : Int32) = nI 6 from rfl, pk_sub (by omega), show (4 : Int32) = nI 4 from rfl, nI_add]
      unfold cStp
      rw [if_neg (by omega), if_neg (by omega)]
      congr 1
      omega
    · rw [(b5 q (by omega)).1, (b5 q (by omega)).2, (f2 33 q rfl).1, (f2 34 q rfl).1, a3, a4, if_neg (by omega), if_neg (by omega)]
      exact ⟨rfl, rfl⟩
theorem r_pop {b : Nat} {rest : List Nat} (hb : b = 1 ∨ b = 2) (hr : rest = [] ∨ ∃ x r, rest = x :: r ∧ (x = 11 ∨ (b = 2 ∧ (x = 6 ∨ x = 7)))) : ∀ (l : List Nat) (h : xG) (z fuel : Nat), (∀ k ∈ l, 6 ≤ k ∧ k ≤ 9 ∧ b ≤ bnd k) → h.1 60 46 = nI (l ++ rest).length → wst kap (h.1 90) (l ++ rest) → (l ++ rest).length ≤ 64 → h.1 60 42 = nI z → z + l.length ≤ 840 → l.length < fuel → ∃ h', f_X12_comesOut_60_0 fuel (if b = 2 then 1 else 0) h = some h' ∧ h'.1 60 46 = nI rest.length ∧ h'.1 60 42 = nI (z + l.length) ∧ sgR h' z (l.map opc) ∧ (∀ q, q < z ∨ z + l.length ≤ q → h'.1 88 q = h.1 88 q ∧ h'.1 89 q = h.1 89 q) ∧ xfrm [(60, some 42), (60, some 46), (88, none), (89, none)] h h'
  | [], h, z, fuel, _, e4, ew, h21, ez, hz, hf => by
    obtain ⟨m, rfl⟩ : ∃ m, fuel = m + 1 := ⟨fuel - 1, by omega⟩
    refine ⟨h, ?_, e4, ez, trivial, fun _ _ => ⟨rfl, rfl⟩, xfrm.rf⟩
    simp only [f_X12_comesOut_60_0]
    rw [List.nil_append] at e4 ew h21
    rw [e4]
    rcases hr with rfl | ⟨x, r, rfl, hx⟩
    · rw [if_pos (by decide)]
    · have hlen : r.length < 64 := by
        have : (x :: r : List Nat).length = r.length + 1 := rfl
        omega
      rw [List.length_cons, if_neg (nI_nle (by omega) (by omega)), show (nI (r.length + 1) - 1 : Int32) = nI r.length from nI_pred _, xg_in hlen (by decide), nI_clamp (by omega), show h.1 90 r.length = nI (kap x) from ew.1]
      rcases hx with rfl | ⟨rfl, rfl | rfl⟩
      · rw [if_pos (by decide)]
      · rw [if_neg (by decide), if_neg (by decide), if_pos (by decide)]
      · rw [if_neg (by decide), if_neg (by decide), if_neg (by decide), if_pos (by decide)]
  | k :: l, h, z, fuel, hk, e4, ew, h21, ez, hz, hf => by
    obtain ⟨m, rfl⟩ : ∃ m, fuel = m + 1 := ⟨fuel - 1, by omega⟩
    obtain ⟨k1, k2, k3⟩ := hk k (by simp)
    rw [List.cons_append] at e4 ew h21
    rw [List.length_cons] at e4 h21 hz hf
    rw [show (k :: l).length = l.length + 1 from rfl]
    have hlen : (l ++ rest).length < 64 := by omega
    have f0 : xfrm [(60, some 46)] h (xupd h.1 60 46 (nI (l ++ rest).length), h.2) := xfrm.up xfrm.rf rfl
    obtain ⟨w1, a1, a2, a3, a4, a5⟩ := r_emit (h := (xupd h.1 60 46 (nI (l ++ rest).length), h.2)) (show z < 840 by omega) (((f0 60 42 rfl).1).trans ez) (nI (k - 4)) 0
    have f12 : xfrm [(60, some 42), (60, some 46), (88, none), (89, none)] h w1 := (f0.wk rfl).th (a5.wk rfl)
    obtain ⟨h', b1, b2, b3, b4, b5, b6⟩ := r_pop hb hr l w1 (z + 1) m (fun x hx => hk x (by simp [hx])) (((a5 60 46 rfl).1).trans rfl) (wst_up ew.2 (fun j _ => (f12 90 j rfl).1)) (by omega) a2 (by omega) (by omega)
    have st : f_X12_comesOut_60_0 (m + 1) (if b = 2 then 1 else 0) h = f_X12_comesOut_60_0 m (if b = 2 then 1 else 0) w1 := by
      simp only [f_X12_comesOut_60_0]
      unfold f_X12_comesOut_60_42
      rw [e4, if_neg (nI_nle (by omega) (by omega)), show (nI ((l ++ rest).length + 1) - 1 : Int32) = nI (l ++ rest).length from nI_pred _, xg_in hlen (by decide), nI_clamp (by omega), show h.1 90 (l ++ rest).length = nI (kap k) from ew.1]
      rcases (show k = 6 ∨ k = 7 ∨ k = 8 ∨ k = 9 by omega) with rfl | rfl | rfl | rfl
      · have hb1 : b = 1 := by
          have : b ≤ 1 := k3
          omega
        subst hb1
        rw [if_neg (by decide), if_pos (by decide), if_pos (by decide), show f_X12_emit_60 2 0 _ = some w1 from a1, Option.bind_some]
      · have hb1 : b = 1 := by
          have : b ≤ 1 := k3
          omega
        subst hb1
        rw [if_neg (by decide), if_pos (by decide), if_neg (by decide), if_pos (by decide), show f_X12_emit_60 3 0 _ = some w1 from a1, Option.bind_some]
      · rw [if_neg (by decide), if_neg (show ¬ nI (kap 8) = (8 : Int32) by decide), if_neg (show ¬ nI (kap 8) = (9 : Int32) by decide), if_pos (show nI (kap 8) = (10 : Int32) by decide), show f_X12_emit_60 4 0 _ = some w1 from a1, Option.bind_some]
        exact ite_self _
      · rw [if_neg (by decide), if_neg (show ¬ nI (kap 9) = (8 : Int32) by decide), if_neg (show ¬ nI (kap 9) = (9 : Int32) by decide), if_neg (show ¬ nI (kap 9) = (10 : Int32) by decide), show f_X12_emit_60 5 0 _ = some w1 from a1, Option.bind_some]
        exact ite_self _
    refine ⟨h', st.trans b1, b2, b3.trans (by rw [show z + 1 + l.length = z + (l.length + 1) by omega]), ?_, fun q hq => ?_, f12.th b6⟩
    · rw [List.map_cons]
      refine ⟨⟨by omega, ?_, fun y => absurd y (by omega)⟩, b4⟩
      rw [(b5 z (.inl (by omega))).1, a3, if_pos rfl]
    · have hq' : q < z + 1 ∨ z + 1 + l.length ≤ q := by omega
      rw [(b5 q hq').1, (b5 q hq').2, a3, a4, if_neg (by omega), if_neg (by omega), (f0 88 q rfl).1, (f0 89 q rfl).1]
      exact ⟨rfl, rfl⟩
