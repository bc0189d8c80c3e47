/-! bytes and what they begin -/
def kc (c : Nat) : Nat := if c = 9 ∨ c = 10 ∨ c = 13 ∨ c = 32 then 0 else if 97 ≤ c ∧ c ≤ 122 then 2 else if 48 ≤ c ∧ c ≤ 57 then 3 else if c = 59 then 4 else if c = 61 then 5 else if c = 43 then 6 else if c = 45 then 7 else if c = 42 then 8 else if c = 47 then 9 else if c = 60 then 10 else if c = 40 then 11 else if c = 41 then 12 else 1
theorem c_kind : ∀ c, c < 256 → f_X9_kindBegunBy (nI c) = some (nI (kc c)) := by decide +kernel
theorem kc_12 : ∀ c, c < 256 → kc c ≤ 12 := by decide +kernel
theorem kc_2 : ∀ c, c < 256 → (kc c = 2 ↔ 97 ≤ c ∧ c ≤ 122) := by decide +kernel
theorem kc_3 : ∀ c, c < 256 → (kc c = 3 ↔ 48 ≤ c ∧ c ≤ 57) := by decide +kernel
theorem kc_0 : ∀ c, c < 256 → (kc c = 0 ↔ c = 9 ∨ c = 10 ∨ c = 13 ∨ c = 32) := by decide +kernel
def nvS (β : Nat → Nat) (s : Nat) : Nat → Int64
  | 0 => 0
  | l + 1 => f_X9_withLetter (nvS β s l) (nI (β (s + l)))
def dN (β : Nat → Nat) (s : Nat) : Nat → Nat
  | 0 => 0
  | l + 1 => 10 * dN β s l + (β (s + l) - 48)
/-- the bytes of the class's tape -/
def tpC (n : Nat) (β : Nat → Nat) (g : xG) : Prop := g.1 18 5 = nI n ∧ ∀ i, i < n → g.1 2 i &&& 255 = nI (β i)
theorem tpC.byte {n : Nat} {β : Nat → Nat} {g : xG} (h : tpC n β g) (hn : n ≤ 2000) {i : Nat} (hi : i < n) : f_X8_byteAt_1 (nI i) g = some (nI (β i)) := by
  unfold f_X8_byteAt_1
  rw [if_neg (nI_pos (by omega)), if_neg (show ¬ (2000 : Int32) ≤ nI i from nI_ge (b := 2000) (by omega) (by decide)), xg_in (show i < 2000 by omega) (by decide), nI_clamp (by omega), h.2 i hi]
theorem tpC.fr {n : Nat} {β : Nat → Nat} {g w : xG} (h : tpC n β g) (f : xfrm [(18, some 4), (19, none), (20, none), (21, none)] g w) : tpC n β w := ⟨((f 18 5 rfl).1).trans h.1, fun i hi => by rw [(f 2 i rfl).1]; exact h.2 i hi⟩
def fTk : List (Nat × Option Nat) := [(18, some 4), (19, none), (20, none), (21, none)]
/-- one step of the class's scan: a blank, a sign, the first of a run, a further one -/
theorem c_scan1 {n : Nat} {β : Nat → Nat} {g : xG} {k i : Nat} (h : tpC n β g) (hn : n ≤ 2000) (hi : i < n) (hk : k < 402) (e4 : g.1 18 4 = nI k) (hb : β i < 256) (m : Nat) (bf : Int32) : f_X9_scan_18_1_17 (m + 1) bf (nI i) g = if kc (β i) = 2 ∨ kc (β i) = 3 then f_X9_scan_18_1_66 (f_X9_scan_18_1_17 m) bf (nI i) (nI (β i)) (nI (kc (β i))) 1 g else f_X9_scan_18_1_66 (f_X9_scan_18_1_17 m) bf (nI i) (nI (β i)) (nI (kc (β i))) 0 g := by
  have h12 := kc_12 (β i) hb
  simp only [f_X9_scan_18_1_17]
  rw [h.1, if_neg (nI_ge hi (by omega)), e4, if_neg (show ¬ (402 : Int32) ≤ nI k from nI_ge (b := 402) hk (by decide)), h.byte hn hi, Option.bind_some, c_kind _ hb, Option.bind_some]
  unfold f_X9_scan_18_1_61
  by_cases z2 : kc (β i) = 2
  · rw [z2, if_pos (show nI 2 = 2 from rfl), if_pos (.inl rfl)]
  · rw [if_neg (show ¬ nI (kc (β i)) = 2 from fun y => z2 ((nI_eq (b := 2) (by omega) (by decide)).mp y))]
    by_cases z3 : kc (β i) = 3
    · rw [z3, if_pos (show nI 3 = 3 from rfl), if_pos (.inr rfl)]
    · rw [if_neg (show ¬ nI (kc (β i)) = 3 from fun y => z3 ((nI_eq (b := 3) (by omega) (by decide)).mp y)), if_neg (fun y => y.elim z2 z3)]
theorem c_begin {g : xG} {k i q : Nat} (hk : k < 402) (e4 : g.1 18 4 = nI k) : ∃ w, f_X9_begin_18 (nI q) (nI i) g = w ∧ xfrm fTk g w ∧ w.1 18 4 = nI (k + 1) ∧ (∀ j, w.1 19 j = if j = k then nI q else g.1 19 j) ∧ (∀ j, w.1 20 j = if j = k then nI i else g.1 20 j) ∧ ∀ j, w.2 21 j = if j = k then 0 else g.2 21 j := by
  unfold f_X9_begin_18
  rw [xl_e, e4, xput_in hk (by decide), xl_e]
  rw [show (xupd g.1 19 k (nI q), g.2).1 18 4 = nI k from e4, xput_in hk (by decide), xl_e]
  rw [show (xupd (xupd g.1 19 k (nI q), g.2).1 20 k (nI i), (xupd g.1 19 k (nI q), g.2).2).1 18 4 = nI k from e4, xlput_in hk (by decide)]
  dsimp only
  rw [show xupd (xupd g.1 19 k (nI q)) 20 k (nI i) 18 4 = nI k from e4, nI_1]
  refine ⟨_, rfl, ?_, rfl, fun j => ?_, fun j => ?_, fun j => ?_⟩
  · exact xfrm.up (xfrm.ul (xfrm.up (xfrm.up xfrm.rf rfl) rfl) rfl) rfl
  · show xupd (xupd (xupd g.1 19 k (nI q)) 20 k (nI i)) 18 4 (nI (k + 1)) 19 j = _
    rw [xu_q (show (19 : Nat) ≠ 18 by decide), xu_q (show (19 : Nat) ≠ 20 by decide), xu_at]
    by_cases z : j = k
    · rw [if_pos ⟨rfl, z⟩, if_pos z]
    · rw [if_neg (fun y => z y.2), if_neg z]
  · show xupd (xupd (xupd g.1 19 k (nI q)) 20 k (nI i)) 18 4 (nI (k + 1)) 20 j = _
    rw [xu_q (show (20 : Nat) ≠ 18 by decide), xu_at]
    by_cases z : j = k
    · rw [if_pos ⟨rfl, z⟩, if_pos z]
    · rw [if_neg (fun y => z y.2), if_neg z, xu_q (show (20 : Nat) ≠ 19 by decide)]
  · show xupdL g.2 21 k 0 21 j = _
    by_cases z : j = k
    · rw [z, xuL_eq, if_pos rfl]
    · rw [xuL_ne z, if_neg z]
/-- a run's token: how it stands behind l of its bytes -/
def rnC (β : Nat → Nat) (q s k l : Nat) (g : xG) : Prop := g.1 18 4 = nI (k + 1) ∧ g.1 20 k = nI s ∧ if l ≤ (if q = 2 then 8 else 4) then g.1 19 k = nI q ∧ g.2 21 k = (if q = 2 then nvS β s l else lN (dN β s l)) else g.1 19 k = 1
theorem c_grow {g : xG} {β : Nat → Nat} {q s k l : Nat} (hq : q = 2 ∨ q = 3) (hk : k < 402) (hs : s + l < 2000) (h : rnC β q s k l g) (hb : q = 3 → 48 ≤ β (s + l)) (h256 : β (s + l) < 256) : ∃ w, f_X9_grow_18 (nI q) (nI (β (s + l))) (nI (s + l)) g = w ∧ rnC β q s k (l + 1) w ∧ (∀ j, j ≠ k → w.1 19 j = g.1 19 j ∧ w.2 21 j = g.2 21 j) ∧ xfrm [(19, none), (21, none)] g w := by
  obtain ⟨e4, e20, hr⟩ := h
  have est : f_X9_startOf_18 (nI k) g = nI s := by
    unfold f_X9_startOf_18
    rw [e4, if_neg (nI_ge (by omega) (by omega)), xat_in hk (by decide), e20]
  have eva : f_X9_valueOf_18 (nI k) g = g.2 21 k := by
    unfold f_X9_valueOf_18
    rw [e4, if_neg (nI_ge (by omega) (by omega)), xlat_in hk (by decide)]
  have elen : (nI (s + l) - nI s + 1 : Int32) = nI (l + 1) := by
    rw [pk_sub (by omega), nI_1, show s + l - s = l by omega]
  have body : ∀ lim : Nat, lim = (if q = 2 then 8 else 4) → ∃ w, f_X9_grow_18_33 (nI q) (nI (β (s + l))) (nI k) (nI lim) (nI (l + 1)) g = w ∧ rnC β q s k (l + 1) w ∧ (∀ j, j ≠ k → w.1 19 j = g.1 19 j ∧ w.2 21 j = g.2 21 j) ∧ xfrm [(19, none), (21, none)] g w := by
    intro lim hlim
    have l8 : lim ≤ 8 := by rw [hlim]; split <;> omega
    unfold f_X9_grow_18_33
    rw [ite_le (by omega) (by omega), eva]
    by_cases z : l + 1 ≤ lim
    · rw [if_pos z]
      rw [if_pos (by omega)] at hr
      obtain ⟨h19, h21⟩ := hr
      rcases hq with rfl | rfl
      · rw [if_pos (show nI 2 = 2 from rfl), xl_e, xlput_in hk (by decide)]
        refine ⟨_, rfl, ⟨e4, e20, ?_⟩, fun j hj => ⟨rfl, (xuL_ne hj : xupdL g.2 21 k _ 21 j = g.2 21 j)⟩, xfrm.ul xfrm.rf rfl⟩
        rw [← hlim, if_pos z, if_pos rfl]
        refine ⟨h19, ?_⟩
        show xupdL g.2 21 k _ 21 k = _
        rw [xuL_eq, h21, if_pos rfl]
        rfl
      · rw [if_neg (show ¬ nI 3 = 2 by decide), xl_e, xlput_in hk (by decide)]
        refine ⟨_, rfl, ⟨e4, e20, ?_⟩, fun j hj => ⟨rfl, (xuL_ne hj : xupdL g.2 21 k _ 21 j = g.2 21 j)⟩, xfrm.ul xfrm.rf rfl⟩
        rw [← hlim, if_pos z, if_neg (by decide)]
        refine ⟨h19, ?_⟩
        show xupdL g.2 21 k _ 21 k = _
        rw [xuL_eq, h21, if_neg (by decide), show (10 : Int64) = lN 10 from rfl, lN_mul, show (nI (β (s + l)) - 48 : Int32) = nI (β (s + l) - 48) from pk_sub (b := 48) (hb rfl), nI_l (by omega), lN_add, Nat.mul_comm]
        rfl
    · rw [if_neg z, xl_e, xput_in hk (by decide)]
      refine ⟨_, rfl, ⟨?_, ?_, ?_⟩, fun j hj => ⟨(xu_ne hj : xupd g.1 19 k _ 19 j = g.1 19 j), rfl⟩, xfrm.up xfrm.rf rfl⟩
      · exact e4
      · exact e20
      · rw [← hlim, if_neg z]
        show xupd g.1 19 k 1 19 k = 1
        exact xu_eq
  unfold f_X9_grow_18
  rw [e4, show (nI (k + 1) - 1 : Int32) = nI k from nI_pred k, est, elen]
  rcases hq with rfl | rfl
  · rw [if_pos (show nI 2 = 2 from rfl)]
    exact body 8 rfl
  · rw [if_neg (show ¬ nI 3 = 2 by decide)]
    exact body 4 rfl
/-- run lengths -/
theorem run_len {P : Nat → Prop} [DecidablePred P] {n : Nat} : ∀ (d s : Nat), s + d = n → ∃ j, s + j ≤ n ∧ (∀ t, t < j → P (s + t)) ∧ (s + j < n → ¬ P (s + j))
  | 0, s, h => ⟨0, by omega, fun t ht => by omega, fun h' => by omega⟩
  | d + 1, s, h => by
    by_cases z : P s
    · obtain ⟨j, h1, h2, h3⟩ := run_len (P := P) (n := n) d (s + 1) (by omega)
      refine ⟨j + 1, by omega, fun t ht => ?_, fun h' => ?_⟩
      · match t with
        | 0 => exact z
        | t + 1 =>
          have := h2 t (by omega)
          rw [show s + 1 + t = s + (t + 1) by omega] at this
          exact this
      · have := h3 (by omega)
        rw [show s + 1 + j = s + (j + 1) by omega] at this
        exact this
    · exact ⟨0, by omega, fun t ht => by omega, fun _ => z⟩
/-- the class scans a run: from its first byte on, to behind it, or to where it has 402 tokens -/
theorem c_more {n : Nat} {β : Nat → Nat} {q s k : Nat} (hn : n ≤ 2000) (hq : q = 2 ∨ q = 3) (hb : ∀ i, β i < 256) (hk : k + 1 < 402) : ∀ (j l m : Nat) (g : xG), s + l + j ≤ n → (∀ t, t < j → kc (β (s + l + t)) = q) → tpC n β g → rnC β q s k l g → ∃ w, f_X9_scan_18_1_17 (m + j) (nI q) (nI (s + l)) g = f_X9_scan_18_1_17 m (nI q) (nI (s + l + j)) w ∧ tpC n β w ∧ rnC β q s k (l + j) w ∧ (∀ t, t ≠ k → w.1 19 t = g.1 19 t ∧ w.2 21 t = g.2 21 t) ∧ xfrm [(19, none), (21, none)] g w
  | 0, l, m, g, h1, h2, ht, hr => ⟨g, rfl, ht, hr, fun _ _ => ⟨rfl, rfl⟩, xfrm.rf⟩
  | j + 1, l, m, g, h1, h2, ht, hr => by
    have e := h2 0 (by omega)
    rw [Nat.add_zero] at e
    have hq3 : q = 3 → 48 ≤ β (s + l) := fun z => ((kc_3 _ (hb _)).mp (e.trans z)).1
    obtain ⟨w1, g1, g2, g3, g4⟩ := c_grow hq (show k < 402 by omega) (by omega) hr hq3 (hb _)
    have st : f_X9_scan_18_1_17 (m + j + 1) (nI q) (nI (s + l)) g = f_X9_scan_18_1_17 (m + j) (nI q) (nI (s + l + 1)) w1 := by
      rw [c_scan1 ht hn (by omega) hk hr.1 (hb _), e, if_pos hq]
      unfold f_X9_scan_18_1_66
      rw [if_neg (show ¬ nI q = 0 by rcases hq with rfl | rfl <;> decide), if_neg (show ¬ (1 : Int32) = 0 by decide), if_pos rfl]
      unfold f_X9_scan_18_1_91
      rw [if_neg (show ¬ (1 : Int32) = 0 by decide), g1, xl_e, nI_1]
    obtain ⟨w2, p1, p2, p3, p4, p5⟩ := c_more hn hq hb hk j (l + 1) m w1 (by omega) (fun t ht' => by
      have := h2 (t + 1) (by omega)
      rw [show s + (l + 1) + t = s + l + (t + 1) by omega]
      exact this) (ht.fr (g4.wk rfl)) g2
    refine ⟨w2, ?_, p2, ?_, fun t ht' => ⟨((p4 t ht').1).trans (g3 t ht').1, ((p4 t ht').2).trans (g3 t ht').2⟩, g4.th p5⟩
    · rw [show m + (j + 1) = m + j + 1 from rfl, st, show s + l + 1 = s + (l + 1) by omega, p1, show s + (l + 1) + j = s + l + (j + 1) by omega]
    · rw [show l + (j + 1) = l + 1 + j by omega]
      exact p3
theorem c_frst {n : Nat} {β : Nat → Nat} {q s k : Nat} {g : xG} {bf : Int32} (hn : n ≤ 2000) (hq : q = 2 ∨ q = 3) (hb : ∀ i, β i < 256) (hk : k < 402) (hs : s < n) (e : kc (β s) = q) (ht : tpC n β g) (e4 : g.1 18 4 = nI k) (hbf : bf ≠ nI q) (m : Nat) : ∃ w, f_X9_scan_18_1_17 (m + 1) bf (nI s) g = f_X9_scan_18_1_17 m (nI q) (nI (s + 1)) w ∧ tpC n β w ∧ rnC β q s k 1 w ∧ (∀ t, t ≠ k → w.1 19 t = g.1 19 t ∧ w.1 20 t = g.1 20 t ∧ w.2 21 t = g.2 21 t) ∧ xfrm fTk g w := by
  obtain ⟨w1, b1, b2, b3, b4, b5, b6⟩ := c_begin (g := g) (i := s) (q := q) hk e4
  have hr : rnC β q s k 0 w1 := by
    refine ⟨b3, (b5 k).trans (if_pos rfl), ?_⟩
    rw [if_pos (Nat.zero_le _)]
    refine ⟨(b4 k).trans (if_pos rfl), ((b6 k).trans (if_pos rfl)).trans ?_⟩
    rcases hq with rfl | rfl <;> rfl
  have hq3 : q = 3 → 48 ≤ β (s + 0) := fun z => ((kc_3 _ (hb _)).mp (e.trans z)).1
  obtain ⟨w2, g1, g2, g3, g4⟩ := c_grow hq hk (l := 0) (by omega) hr hq3 (hb _)
  refine ⟨w2, ?_, (ht.fr b2).fr (g4.wk rfl), g2, fun t ht' => ⟨((g3 t ht').1).trans ((b4 t).trans (if_neg ht')), ((g4 20 t rfl).1).trans ((b5 t).trans (if_neg ht')), ((g3 t ht').2).trans ((b6 t).trans (if_neg ht'))⟩, b2.th (g4.wk rfl)⟩
  rw [c_scan1 ht hn hs hk e4 (hb _), e, if_pos hq]
  unfold f_X9_scan_18_1_66
  rw [if_neg (show ¬ nI q = 0 by rcases hq with rfl | rfl <;> decide), if_neg (show ¬ (1 : Int32) = 0 by decide), if_neg (fun y => hbf y.symm)]
  unfold f_X9_scan_18_1_84
  rw [b1, xl_e]
  unfold f_X9_scan_18_1_91
  rw [if_neg (show ¬ (1 : Int32) = 0 by decide), show f_X9_grow_18 (nI q) (nI (β s)) (nI s) w1 = w2 from g1, xl_e, nI_1]
theorem c_blank {n : Nat} {β : Nat → Nat} {s k : Nat} {g : xG} {bf : Int32} (hn : n ≤ 2000) (hb : ∀ i, β i < 256) (hk : k < 402) (hs : s < n) (e : kc (β s) = 0) (ht : tpC n β g) (e4 : g.1 18 4 = nI k) (m : Nat) : f_X9_scan_18_1_17 (m + 1) bf (nI s) g = f_X9_scan_18_1_17 m 0 (nI (s + 1)) g := by
  rw [c_scan1 ht hn hs hk e4 (hb _), e, if_neg (by decide)]
  unfold f_X9_scan_18_1_66 f_X9_scan_18_1_91
  rw [if_pos (show nI 0 = 0 from rfl), if_pos rfl, nI_1]
  rfl
theorem c_sign {n : Nat} {β : Nat → Nat} {s k : Nat} {g : xG} {bf : Int32} (hn : n ≤ 2000) (hb : ∀ i, β i < 256) (hk : k < 402) (hs : s < n) (e0 : kc (β s) ≠ 0) (e2 : kc (β s) ≠ 2) (e3 : kc (β s) ≠ 3) (ht : tpC n β g) (e4 : g.1 18 4 = nI k) (m : Nat) : ∃ w, f_X9_scan_18_1_17 (m + 1) bf (nI s) g = f_X9_scan_18_1_17 m (nI (kc (β s))) (nI (s + 1)) w ∧ tpC n β w ∧ w.1 18 4 = nI (k + 1) ∧ w.1 19 k = nI (kc (β s)) ∧ w.1 20 k = nI s ∧ (∀ t, t ≠ k → w.1 19 t = g.1 19 t ∧ w.1 20 t = g.1 20 t ∧ w.2 21 t = g.2 21 t) ∧ xfrm fTk g w := by
  have h12 := kc_12 (β s) (hb _)
  obtain ⟨w1, b1, b2, b3, b4, b5, b6⟩ := c_begin (g := g) (i := s) (q := kc (β s)) hk e4
  refine ⟨w1, ?_, ht.fr b2, b3, (b4 k).trans (if_pos rfl), (b5 k).trans (if_pos rfl), fun t ht' => ⟨(b4 t).trans (if_neg ht'), (b5 t).trans (if_neg ht'), (b6 t).trans (if_neg ht')⟩, b2⟩
  rw [c_scan1 ht hn hs hk e4 (hb _), if_neg (fun y => y.elim e2 e3)]
  unfold f_X9_scan_18_1_66
  rw [if_neg (nI_ne0 (by omega) (by omega)), if_pos rfl]
  unfold f_X9_scan_18_1_84
  rw [b1, xl_e]
  unfold f_X9_scan_18_1_91
  rw [if_pos rfl, nI_1]
/-- words: the kind of a name -/
def wKd (W : Nat → Int64) (v : Int64) : Nat → Nat
  | 0 => 2
  | w + 1 => if wKd W v w = 2 ∧ W w = v then 13 + w else wKd W v w
