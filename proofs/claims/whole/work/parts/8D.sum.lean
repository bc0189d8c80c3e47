/-! a sum read by both -/
section
variable {K S : Nat → Nat} {V : Nat → Int64} {E : Nat}
def exI (K S : Nat → Nat) (V : Nat → Int64) (E i0 s0 p0 pE b lf lt : Nat) (gA hA : xG) (w n : Nat) (W : List Nat) (c : List pI) (i : Nat) (g h : xG) : Prop := lv K S V E i b lf lt g h ∧ c.length + ops W + i0 ≤ i ∧ okW n W ∧ n ≤ 6 ∧ shp 0 c = some (ops W + w) ∧ eC s0 gA W c g ∧ eR p0 pE hA n W c h
def exO (K S : Nat → Nat) (V : Nat → Int64) (E i0 s0 p0 pE b lf lt : Nat) (gA hA : xG) (g h : xG) : Prop := xfrm fEc gA g ∧ xfrm fEr hA h ∧ (∀ q, q < p0 ∨ pE ≤ q → h.1 88 q = hA.1 88 q ∧ h.1 89 q = hA.1 89 q) ∧ ((∃ i' c, lv K S V E i' b lf lt g h ∧ c.length + i0 ≤ i' ∧ shp 0 c = some 1 ∧ eC s0 gA [] c g ∧ eR p0 pE hA 0 [] c h) ∨ dd K S V E g h)
theorem exO.dead {i0 s0 p0 pE b lf lt n : Nat} {gA hA g h : xG} {W W' : List Nat} {c c' : List pI} (e : eC s0 gA W c g) (r : eR p0 pE hA n W' c' h) (d : dd K S V E g h) : exO K S V E i0 s0 p0 pE b lf lt gA hA g h := ⟨e.2.2.2.2.2, r.2.2.2.2.2.2, r.2.2.2.2.2.1, .inr d⟩
theorem cs_dead {f i : Nat} {g : xG} (d : dC K S V E f i g) (m : Nat) (l1 l2 l3 : Int32) : f_X3_readSum_17_11 (m + 1) l1 l2 l3 g = some g := by
  simp only [f_X3_readSum_17_11]
  rw [d.2.2.2.2, if_neg (f12_ne d.1)]
  exact ite_self _
theorem r23_dead {f i : Nat} {h : xG} (d : dR S f i h) (k12 : Int32 → Int32 → xG → Option xG) (q : Nat) (l1 : Int32) : f_X12_expression_60_23 k12 (q + 1) l1 h = some h := by
  simp only [f_X12_expression_60_23]
  unfold f_X12_unit_60
  rw [rd_is d, Option.bind_some, if_pos rfl, rd_is d, Option.bind_some, if_pos rfl, d.2.1, if_neg (f12_ne d.1), rd_fail d, Option.bind_some, Option.bind_some, d.2.1, if_neg (f12_nle d.1)]
theorem r12_dead {f i : Nat} {h : xG} (d : dR S f i h) (r : Nat) (l1 l2 : Int32) : f_X12_expression_60_12 (r + 1) l1 l2 h = some h := by
  simp only [f_X12_expression_60_12]
  rw [d.2.1, if_neg (f12_ne d.1)]
  exact ite_self _
theorem cs_A {i b lf lt n t : Nat} {g h : xG} (hK : tkK K S E) (l : lv K S V E i b lf lt g h) (ht : t ≤ 400) (m : Nat) : f_X3_readSum_17_11 (m + 1) 1 (nI n) (nI t) g = if K i = 11 then ((f_X3_takeOneMore_17 (nI 11) (nI n) (nI 6) g).bind fun w12 => xl (f_X3_putAside_17 (nI 11) w12) fun w13 => f_X3_readSum_17_11 m 1 (nI (n + 1)) (nI (t + 1)) w13) else f_X3_readSum_17_70 (f_X3_readSum_17_11 m) 1 (nI n) (nI t) (nI (K i)) g := by
  have k33 := hK.2.2.2.1 i
  simp only [f_X3_readSum_17_11]
  rw [if_neg (show ¬ (400 : Int32) < nI t from nI_nlt (a := 400) ht (by decide)), l.2.1.2.1, if_pos rfl, l.2.1.1, (l.1.2.1 i l.1.1).1, Option.bind_some, if_neg (show ¬ (1 : Int32) = 0 by decide), nI_1, nI_1]
  by_cases z : K i = 11
  · rw [z, if_pos (show nI 11 = (11 : Int32) from rfl), if_pos rfl]
    rfl
  · rw [if_neg (show ¬ nI (K i) = (11 : Int32) from fun y => z ((nI_eq (b := 11) (by omega) (by decide)).mp y)), if_neg z]
theorem cs_B {i b lf lt n t : Nat} {g h : xG} (l : lv K S V E i b lf lt g h) (ht : t ≤ 400) (m : Nat) : f_X3_readSum_17_11 (m + 1) 0 (nI n) (nI t) g = f_X3_readSum_17_70 (f_X3_readSum_17_11 m) 0 (nI n) (nI t) (nI (K i)) g := by
  simp only [f_X3_readSum_17_11]
  rw [if_neg (show ¬ (400 : Int32) < nI t from nI_nlt (a := 400) ht (by decide)), l.2.1.2.1, if_pos rfl, l.2.1.1, (l.1.2.1 i l.1.1).1, Option.bind_some, if_pos trivial]
theorem r145 {i b lf lt : Nat} {g h : xG} (hK : tkK K S E) (l : lv K S V E i b lf lt g h) (k12 : Int32 → Int32 → xG → Option xG) : f_X12_expression_60_145 k12 0 h = if 1 ≤ bnd (K i) then f_X12_expression_60_234 k12 0 1 (if bnd (K i) = 2 then 1 else 0) h else f_X12_expression_60_186 k12 0 0 h := by
  have e8 := r_is hK l (a := 6) (by decide)
  have e9 := r_is hK l (a := 7) (by decide)
  have e10 := r_is hK l (a := 8) (by decide)
  have e15 := r_is hK l (a := 9) (by decide)
  have i186 : f_X12_expression_60_186 k12 0 1 h = (f_X12_is_60 10 h).bind fun w5 => if w5 = 0 then (f_X12_is_60 15 h).bind fun w8 => if w8 = 0 then f_X12_expression_60_234 k12 0 1 0 h else f_X12_expression_60_234 k12 0 1 1 h else f_X12_expression_60_234 k12 0 1 1 h := by
    unfold f_X12_expression_60_186 f_X12_expression_60_229
    rw [if_neg (show ¬ (1 : Int32) = 0 by decide)]
  unfold f_X12_expression_60_145 f_X12_expression_60_181
  rw [i186, show f_X12_is_60 8 h = _ from e8, show f_X12_is_60 9 h = _ from e9, show f_X12_is_60 10 h = _ from e10, show f_X12_is_60 15 h = _ from e15]
  simp only [Option.bind_some]
  by_cases z6 : K i = 6
  · rw [if_pos z6, if_neg (show ¬ (1 : Int32) = 0 by decide), z6]
    rfl
  · rw [if_neg z6, if_pos rfl]
    by_cases z7 : K i = 7
    · rw [if_pos z7, if_neg (show ¬ (1 : Int32) = 0 by decide), z7]
      rfl
    · rw [if_neg z7, if_pos rfl]
      by_cases z8 : K i = 8
      · rw [if_pos z8, if_neg (show ¬ (1 : Int32) = 0 by decide), z8]
        rfl
      · rw [if_neg z8, if_pos rfl]
        by_cases z9 : K i = 9
        · rw [if_pos z9, if_neg (show ¬ (1 : Int32) = 0 by decide), z9]
          rfl
        · have hb : bnd (K i) = 0 := by
            unfold bnd
            rw [if_neg (by omega), if_neg (by omega)]
          rw [if_neg z9, if_pos rfl, hb]
          rfl
theorem lvl_split {l rest : List Nat} {n k : Nat} (hl : lvl l) (hu : under n rest) (hk : 1 ≤ bnd k) : ∃ l1 l2, l = l1 ++ l2 ∧ (∀ x ∈ l1, 6 ≤ x ∧ x ≤ 9 ∧ bnd k ≤ bnd x) ∧ (∀ x ∈ l2, 6 ≤ x ∧ x ≤ 9 ∧ 1 ≤ bnd x) ∧ stEnd (l2 ++ rest) (bnd k) ∧ ((l2 ++ rest) = [] ∨ ∃ x r, l2 ++ rest = x :: r ∧ (x = 11 ∨ (bnd k = 2 ∧ (x = 6 ∨ x = 7)))) ∧ lvl (k :: l2) ∧ bnd k ≤ 2 ∧ (bnd k = 1 ∨ bnd k = 2) := by
  have hu1 : ∀ b, 1 ≤ b → stEnd rest b ∧ (rest = [] ∨ ∃ x r, rest = x :: r ∧ (x = 11 ∨ (b = 2 ∧ (x = 6 ∨ x = 7)))) := fun b hb => by
    rcases hu with ⟨-, rfl⟩ | ⟨n', r, -, rfl, -⟩
    · exact ⟨.inl rfl, .inl rfl⟩
    · exact ⟨.inr ⟨11, r, rfl, by decide, by show bnd 11 < b; have : bnd 11 = 0 := rfl; omega⟩, .inr ⟨11, r, rfl, .inl rfl⟩⟩
  have hk' : (k = 6 ∨ k = 7) ∧ bnd k = 1 ∨ (k = 8 ∨ k = 9) ∧ bnd k = 2 := by
    unfold bnd at hk ⊢
    by_cases z : k = 6 ∨ k = 7
    · rw [if_pos z]; exact .inl ⟨z, rfl⟩
    · by_cases y : k = 8 ∨ k = 9
      · rw [if_neg z, if_pos y]; exact .inr ⟨y, rfl⟩
      · rw [if_neg z, if_neg y] at hk; omega
  rcases hk' with ⟨z, e⟩ | ⟨z, e⟩
  · rw [e]
    refine ⟨l, [], by simp, lvl_mem hl, (fun x hx => absurd hx List.not_mem_nil), (hu1 1 (by decide)).1, (hu1 1 (by decide)).2, .inr (.inl ⟨k, z, rfl⟩), by decide, .inl rfl⟩
  · rw [e]
    have m2 : ∀ m, (m = 8 ∨ m = 9) → 6 ≤ m ∧ m ≤ 9 ∧ 2 ≤ bnd m := fun m hm => by rcases hm with rfl | rfl <;> decide
    have p1 : ∀ p, (p = 6 ∨ p = 7) → (6 ≤ p ∧ p ≤ 9 ∧ 1 ≤ bnd p) ∧ p < 34 ∧ bnd p < 2 := fun p hp => by rcases hp with rfl | rfl <;> decide
    rcases hl with rfl | ⟨p, hp, rfl⟩ | ⟨m, hm, rfl⟩ | ⟨m, p, hm, hp, rfl⟩
    · exact ⟨[], [], rfl, (fun x hx => absurd hx List.not_mem_nil), (fun x hx => absurd hx List.not_mem_nil), (hu1 2 (by decide)).1, (hu1 2 (by decide)).2, .inr (.inr (.inl ⟨k, z, rfl⟩)), by decide, .inr rfl⟩
    · refine ⟨[], [p], rfl, (fun x hx => absurd hx List.not_mem_nil), fun x hx => ?_, .inr ⟨p, rest, rfl, (p1 p hp).2⟩, .inr ⟨p, rest, rfl, .inr ⟨rfl, hp⟩⟩, .inr (.inr (.inr ⟨k, p, z, hp, rfl⟩)), by decide, .inr rfl⟩
      have : x = p := by simpa using hx
      rw [this]; exact (p1 p hp).1
    · refine ⟨[m], [], rfl, fun x hx => ?_, (fun x hx => absurd hx List.not_mem_nil), (hu1 2 (by decide)).1, (hu1 2 (by decide)).2, .inr (.inr (.inl ⟨k, z, rfl⟩)), by decide, .inr rfl⟩
      have : x = m := by simpa using hx
      rw [this]; exact m2 m hm
    · refine ⟨[m], [p], rfl, fun x hx => ?_, fun x hx => ?_, .inr ⟨p, rest, rfl, (p1 p hp).2⟩, .inr ⟨p, rest, rfl, .inr ⟨rfl, hp⟩⟩, .inr (.inr (.inr ⟨k, p, z, hp, rfl⟩)), by decide, .inr rfl⟩
      · have : x = m := by simpa using hx
        rw [this]; exact m2 m hm
      · have : x = p := by simpa using hx
        rw [this]; exact (p1 p hp).1
theorem eR.opn {p0 pE n n' : Nat} {hA h : xG} {W : List Nat} {c : List pI} (e : eR p0 pE hA n W c h) : eR p0 pE hA n' W c (xupd h.1 60 12 (nI n'), h.2) ∧ xfrm [(60, some 12)] h (xupd h.1 60 12 (nI n'), h.2) := by
  have f : xfrm [(60, some 12)] h (xupd h.1 60 12 (nI n'), h.2) := xfrm.up xfrm.rf rfl
  obtain ⟨e1, e2, e3, e4, e5, e6, e7⟩ := e
  exact ⟨⟨rfl, ((f 60 46 rfl).1).trans e2, wst_up e3 (fun j _ => (f 90 j rfl).1), ((f 60 42 rfl).1).trans e4, sgR_up (fun j _ _ => ⟨(f 88 j rfl).1, (f 89 j rfl).1⟩) e5, fun q hq => ⟨((f 88 q rfl).1).trans (e6 q hq).1, ((f 89 q rfl).1).trans (e6 q hq).2⟩, e7.th (f.wk rfl)⟩, f⟩
theorem eC.drop {s0 x : Nat} {gA g : xG} {W : List Nat} {c : List pI} (e : eC s0 gA (x :: W) c g) : eC s0 gA W c (xupd g.1 17 4 (g.1 17 4 - 1), g.2) ∧ xfrm [(17, some 4)] g (xupd g.1 17 4 (g.1 17 4 - 1), g.2) := by
  have f : xfrm [(17, some 4)] g (xupd g.1 17 4 (g.1 17 4 - 1), g.2) := xfrm.up xfrm.rf rfl
  obtain ⟨e1, e2, e3, e4, e5, e6⟩ := e
  refine ⟨⟨?_, wst_up e2.2 (fun j _ => (f 37 j rfl).1), ((f 32 4 rfl).1).trans e3, sgC_up (g := dw g) (fun j _ _ => ⟨(f 33 j rfl).1, (f 34 j rfl).1⟩) e4, fun q hq => ⟨((f 33 q rfl).1).trans (e5 q hq).1, ((f 34 q rfl).1).trans (e5 q hq).2⟩, e6.th (f.wk rfl)⟩, f⟩
  show g.1 17 4 - 1 = nI W.length
  rw [e1, List.length_cons, is1]
theorem eR.drop {p0 pE n x : Nat} {hA h : xG} {W : List Nat} {c : List pI} (e : eR p0 pE hA (n + 1) (x :: W) c h) : eR p0 pE hA n W c (xupd (xupd h.1 60 46 (h.1 60 46 - 1)) 60 12 (h.1 60 12 - 1), h.2) ∧ xfrm [(60, some 12), (60, some 46)] h (xupd (xupd h.1 60 46 (h.1 60 46 - 1)) 60 12 (h.1 60 12 - 1), h.2) := by
  have f : xfrm [(60, some 12), (60, some 46)] h (xupd (xupd h.1 60 46 (h.1 60 46 - 1)) 60 12 (h.1 60 12 - 1), h.2) := xfrm.up (xfrm.up xfrm.rf rfl) rfl
  obtain ⟨e1, e2, e3, e4, e5, e6, e7⟩ := e
  refine ⟨⟨?_, ?_, wst_up e3.2 (fun j _ => (f 90 j rfl).1), ((f 60 42 rfl).1).trans e4, sgR_up (fun j _ _ => ⟨(f 88 j rfl).1, (f 89 j rfl).1⟩) e5, fun q hq => ⟨((f 88 q rfl).1).trans (e6 q hq).1, ((f 89 q rfl).1).trans (e6 q hq).2⟩, e7.th (f.wk rfl)⟩, f⟩
  · show h.1 60 12 - 1 = nI n
    rw [e1, is1]
  · show h.1 60 46 - 1 = nI W.length
    rw [e2, List.length_cons, is1]
/-- the top level comes out, dead or not -/
theorem eR.top {p0 pE n : Nat} {hA h : xG} {W : List Nat} {c : List pI} (e : eR p0 pE hA n W c h) (hW : okW n W) (hn : n ≤ 6) (hz : p0 + c.length + ops W ≤ pE) (hE : pE ≤ 840) : ∃ h' W' c', f_X12_comesOut_60 0 h = some h' ∧ eR p0 pE hA n W' c' h' ∧ xfrm [(60, some 42), (60, some 46), (88, none), (89, none)] h h' := by
  have hlen := okW_len hW
  obtain ⟨tp, rest, rfl, hl, hu⟩ := okW_top hW
  rw [ops_app (lvl_mem hl)] at hz
  obtain ⟨h', b1, b2, b3⟩ := e.pop (b := 1) (.inl rfl) (under_st hu).2 (lvl_mem hl) (by omega) (by omega) hE
  exact ⟨h', _, _, b1, b2, b3⟩
theorem r96_dead {p0 pE n f i : Nat} {hA h : xG} {W : List Nat} {c : List pI} (d : dR S f i h) (e : eR p0 pE hA n W c h) (hW : okW n W) (hn : n ≤ 6) (hz : p0 + c.length + ops W ≤ pE) (hE : pE ≤ 840) (k12 : Int32 → Int32 → xG → Option xG) (q : Nat) : ∃ h' W' c', f_X12_expression_60_96 k12 (q + 1) 0 h = some h' ∧ eR p0 pE hA n W' c' h' ∧ dR S f i h' := by
  obtain ⟨h', W', c', a1, a2, a3⟩ := e.top hW hn hz hE
  refine ⟨h', W', c', ?_, a2, d.ag (a3.agr rfl)⟩
  simp only [f_X12_expression_60_96]
  unfold f_X12_expression_60_145 f_X12_expression_60_181 f_X12_expression_60_186
  simp only [rd_is d, Option.bind_some, rd_fail d, if_true, a1, ite_self]
theorem c_none {i b lf lt n : Nat} {g h : xG} (hK : tkK K S E) (l : lv K S V E i b lf lt g h) (hn : n ≤ 6) (hb : bnd (K i) = 0) (hz : K i = 12 → n = 0) (k11 : Int32 → Int32 → Int32 → xG → Option xG) (t : Int32) : f_X3_readSum_17_70 k11 0 (nI n) t (nI (K i)) g = (f_X3_addWaiting_17 1 g).bind fun w4 => if n = 0 then some w4 else xl (f_X3_stop_17 1 w4) fun w5 => some w5 := by
  have k33 := hK.2.2.2.1 i
  have z0 : (nI n ≤ (0 : Int32)) ↔ n = 0 := by
    rw [show (0 : Int32) = nI 0 from rfl, nI_leI (by omega) (by decide)]; omega
  unfold f_X3_readSum_17_70
  rw [if_pos rfl, c_bnd (K i) (by omega), hb, if_pos (show nI 0 ≤ (0 : Int32) by decide), show (12 : Int32) = nI 12 from rfl, ite_eqn (by omega) (by decide)]
  by_cases y : K i = 12
  · rw [if_pos y]
    have := hz y
    subst this
    rw [if_pos (by decide)]
    congr 1
  · rw [if_neg y]
    by_cases n0 : n = 0
    · subst n0
      simp only [show (nI 0 ≤ (0 : Int32)) = True from eq_true (by decide), if_true]
    · simp only [z0, n0, if_false]
theorem ex_run (hK : tkK K S E) {i0 s0 p0 pE b lf lt : Nat} {gA hA : xG} (hs : s0 + 400 ≤ 407 + i0) (hp : p0 + 401 ≤ pE + i0) (hpE : pE ≤ 840) : ∀ (d i n : Nat) (W : List Nat) (c : List pI) (g h : xG), d ≤ 400 → E ≤ i + d → (∀ t m q r, t + i0 ≤ i → d + 2 ≤ m → d + 2 ≤ q → d + 2 ≤ r → exI K S V E i0 s0 p0 pE b lf lt gA hA 0 n W c i g h → ∃ g' h', f_X3_readSum_17_11 m 1 (nI n) (nI t) g = some g' ∧ f_X12_expression_60_23 (f_X12_expression_60_12 r) q 0 h = some h' ∧ exO K S V E i0 s0 p0 pE b lf lt gA hA g' h') ∧ (∀ t m q r, t + i0 ≤ i → d + 2 ≤ m → d + 2 ≤ q → d + 2 ≤ r → exI K S V E i0 s0 p0 pE b lf lt gA hA 1 n W c i g h → ∃ g' h', f_X3_readSum_17_11 m 0 (nI n) (nI t) g = some g' ∧ f_X12_expression_60_96 (f_X12_expression_60_12 r) q 0 h = some h' ∧ exO K S V E i0 s0 p0 pE b lf lt gA hA g' h') := by
  intro d
  induction d using Nat.strongRecOn with
  | ind d ih =>
    intro i n W c g h hd4 hd
    have hE4 := hK.1
    refine ⟨fun t m q r ht hm hq hr I => ?_, fun t m q r ht hm hq hr I => ?_⟩
    · obtain ⟨l, hc, hW, hn, hsh, eC0, eR0⟩ := I
      obtain ⟨m', rfl⟩ : ∃ m', m = m' + 1 + 1 := ⟨m - 2, by omega⟩
      obtain ⟨q', rfl⟩ : ∃ q', q = q' + 1 + 1 := ⟨q - 2, by omega⟩
      obtain ⟨hW1, hW2⟩ := okW_len hW
      have hi := l.1.1
      have k33 := hK.2.2.2.1 i
      rw [cs_A hK l (by omega)]
      by_cases z11 : K i = 11
      · -- a bracket
        rw [if_pos z11]
        have c1 : f_X3_takeOneMore_17 (nI 11) (nI n) (nI 6) g = if n < 6 then ((f_X3_take_17 (nI 11) g).bind fun w1 => some w1) else (xl (f_X3_stop_17 2 g) fun w2 => (f_X3_take_17 (nI 11) w2).bind fun w3 => some w3) := by
          unfold f_X3_takeOneMore_17
          rw [ite_lt (by omega) (by decide)]
        have r1 : f_X12_expression_60_23 (f_X12_expression_60_12 r) (q' + 1 + 1) 0 h = if n = 6 then (f_X12_fail_60 2 h).bind fun w18 => f_X12_expression_60_46 (f_X12_expression_60_12 r) (f_X12_expression_60_23 (f_X12_expression_60_12 r) (q' + 1)) 0 w18 else f_X12_expression_60_46 (f_X12_expression_60_12 r) (f_X12_expression_60_23 (f_X12_expression_60_12 r) (q' + 1)) 0 h := by
          rw [f_X12_expression_60_23]
          rw [show f_X12_is_60 6 h = _ from r_is hK l (a := 11) (by decide), if_pos z11, Option.bind_some, if_neg (show ¬ (1 : Int32) = 0 by decide), eR0.1, show (6 : Int32) = nI 6 from rfl, ite_eqn (by omega) (by decide)]
        rw [c1, r1]
        by_cases z6 : n = 6
        · obtain ⟨g1, h1, a1, a2, a3, a4, a5, a6⟩ := p_fail hK l (f := 2) (.inr rfl)
          obtain ⟨g2, b1, b2, b3⟩ := (eC0.go a3).push (by omega) 11
          have d2 := a5.ag (b3.agr (C := kDc) rfl)
          obtain ⟨e3, f3⟩ := (eR0.go a4).opn (n' := n + 1)
          have d3 := a6.ag (f3.agr (C := kDr) rfl)
          obtain ⟨h4, e4, f4⟩ := rd_goes d3
          have d4 := d3.ag (f4.agr (C := kDr) rfl)
          have e5 := e3.go (f4.wk rfl)
          obtain ⟨e6, f6⟩ := e5.push (show W.length < 64 by omega) 11
          have d6 := d4.ag (f6.agr (C := kDr) rfl)
          rw [if_neg (by omega), show f_X3_stop_17 2 g = g1 from a1, xl_e, cd_take a5, Option.bind_some, Option.bind_some, b1, xl_e, cs_dead d2, if_pos z6, show f_X12_fail_60 2 h = some h1 from a2, Option.bind_some]
          refine ⟨g2, _, rfl, ?_, exO.dead b2 e6 ⟨2, i, d2, d6⟩⟩
          unfold f_X12_expression_60_46
          rw [show h1.1 60 12 = nI n from (eR0.go a4).1, nI_1, e4, Option.bind_some, show h4.1 60 46 = nI W.length from e5.2.1, xg_in (show W.length < 64 by omega) (by decide), nI_clamp (by omega), nI_1]
          exact r23_dead d6 _ _ _
        · obtain ⟨e3, f3⟩ := eR0.opn (n' := n + 1)
          have l3 : lv K S V E i b lf lt g (xupd h.1 60 12 (nI (n + 1)), h.2) := l.ag xagr.rf (f3.agr rfl)
          obtain ⟨g1, h1, a1, a2, a3, a4, a5⟩ := p_goes hK l3 z11 (by decide)
          obtain ⟨g2, b1, b2, b3⟩ := (eC0.go a3).push (by omega) 11
          have e5 := e3.go a4
          obtain ⟨e6, f6⟩ := e5.push (show W.length < 64 by omega) 11
          rw [if_pos (by omega), a1, Option.bind_some, Option.bind_some, b1, xl_e, if_neg z6]
          have rr : f_X12_expression_60_46 (f_X12_expression_60_12 r) (f_X12_expression_60_23 (f_X12_expression_60_12 r) (q' + 1)) 0 h = f_X12_expression_60_23 (f_X12_expression_60_12 r) (q' + 1) 0 (xupd (xupd h1.1 90 W.length (nI (kap 11))) 60 46 (nI (W.length + 1)), h1.2) := by
            unfold f_X12_expression_60_46
            rw [eR0.1, nI_1, a2, Option.bind_some, show h1.1 60 46 = nI W.length from e5.2.1, xg_in (show W.length < 64 by omega) (by decide), nI_clamp (by omega), nI_1]
            rfl
          rw [rr]
          rcases a5 with ⟨i4, l5⟩ | ⟨f, j, d1, d2⟩
          · have l6 := (l5.ag (b3.agr (C := kLc) rfl) (f6.agr (C := kLh) rfl))
            have hi1 := l5.1.1
            exact (ih (d - 1) (by omega) (i + 1) (n + 1) (11 :: W) c g2 _ (by omega) (by omega)).1 (t + 1) (m' + 1) (q' + 1) r (by omega) (by omega) (by omega) (by omega) ⟨l6, by
              show c.length + ((if 11 = 11 then 0 else 1) + ops W) + i0 ≤ i + 1
              rw [if_pos rfl]; omega, ⟨[], W, rfl, .inl rfl, hW⟩, by omega, by
              show shp 0 c = some ((if 11 = 11 then 0 else 1) + ops W + 0)
              rw [if_pos rfl, Nat.zero_add]
              exact hsh, b2, e6⟩
          · have d3 := d1.ag (b3.agr (C := kDc) rfl)
            have d4 := d2.ag (f6.agr (C := kDr) rfl)
            rw [cs_dead d3, r23_dead d4]
            exact ⟨_, _, rfl, rfl, exO.dead b2 e6 ⟨f, j, d3, d4⟩⟩
      · rw [if_neg z11]
        have r0 : f_X12_expression_60_23 (f_X12_expression_60_12 r) (q' + 1 + 1) 0 h = (f_X12_unit_60 h).bind fun w2 => if (w2.1 60 13) ≤ 0 then f_X12_expression_60_96 (f_X12_expression_60_12 r) xN 0 w2 else some w2 := by
          rw [f_X12_expression_60_23]
          rw [show f_X12_is_60 6 h = _ from r_is hK l (a := 11) (by decide), if_neg z11, Option.bind_some, if_pos rfl]
        have c0 : f_X3_readSum_17_70 (f_X3_readSum_17_11 (m' + 1)) 1 (nI n) (nI t) (nI (K i)) g = (f_X3_readUnit_17 (nI (K i)) g).bind fun w11 => f_X3_readSum_17_11 (m' + 1) 0 (nI n) (nI (t + 1)) w11 := by
          unfold f_X3_readSum_17_70
          rw [if_neg (show ¬ (1 : Int32) = 0 by decide), nI_1]
        rw [c0, r0]
        -- a unit that is there: one step, one token
        have unit : ∀ (k : Nat) (v : Int32), k < 2 → (k = 1 → v.toNatClampNeg < 9 ∧ v = nI v.toNatClampNeg) → K i ≠ 0 → f_X3_readUnit_17 (nI (K i)) g = (xl (f_X2_add_32 (nI (cStp k)) v g) fun w5 => (f_X3_take_17 (nI (K i)) w5).bind fun w6 => some w6) → f_X12_unit_60 h = ((f_X12_emit_60 (nI k) v h).bind fun w7 => (f_X12_goesOn_60 w7).bind fun w8 => some w8) → ∃ g' h', ((f_X3_readUnit_17 (nI (K i)) g).bind fun w11 => f_X3_readSum_17_11 (m' + 1) 0 (nI n) (nI (t + 1)) w11) = some g' ∧ ((f_X12_unit_60 h).bind fun w2 => if (w2.1 60 13) ≤ 0 then f_X12_expression_60_96 (f_X12_expression_60_12 r) xN 0 w2 else some w2) = some h' ∧ exO K S V E i0 s0 p0 pE b lf lt gA hA g' h' := by
          intro k v hk hv hk0 hcu hru
          obtain ⟨g1, a1, a2, a3⟩ := eC0.emit (by omega) k v
          obtain ⟨h1, b1, b2, b3⟩ := eR0.emit (by omega) hpE k v
          have l1 := l.ag (a3.agr (C := kLc) rfl) (b3.agr (C := kLh) rfl)
          obtain ⟨g2, h2, c1, c2, c3, c4, c5⟩ := p_goes hK l1 rfl hk0
          rw [hcu, hru, a1, xl_e, c1, b1, Option.bind_some, Option.bind_some, Option.bind_some, c2, Option.bind_some, Option.bind_some]
          rcases c5 with ⟨i4, l5⟩ | ⟨f, j, d1, d2⟩
          · have hi1 := l5.1.1
            rw [l5.2.2.1.2.1, if_pos (by decide)]
            refine (ih (d - 1) (by omega) (i + 1) n W (c ++ [(k, v)]) g2 h2 (by omega) (by omega)).2 (t + 1) (m' + 1) xN r (by omega) (by omega) (by show d - 1 + 2 ≤ 4000; omega) (by omega) ⟨l5, ?_, hW, hn, ?_, a2.go c3, b2.go c4⟩
            · rw [List.length_append]
              show c.length + 1 + ops W + i0 ≤ i + 1
              omega
            · rw [shp_app hsh, shp_c, if_pos hk, if_pos ⟨by omega, hv⟩]
              rfl
          · rw [d2.2.1, if_neg (f12_nle d2.1), cs_dead d1]
            exact ⟨_, _, rfl, rfl, exO.dead (a2.go c3) (b2.go c4) ⟨f, j, d1, d2⟩⟩
        have is3 := r_is hK l (a := 3) (by decide)
        obtain ⟨r1, r2, r3⟩ := lv_r l hK
        by_cases z3 : K i = 3
        · obtain ⟨dd', hd', ev, e65⟩ := (l.1.2.2 i l.1.1).2.2.2 z3
          refine unit 0 (nI dd') (by decide) (fun y => by cases y) (by omega) ?_ ?_
          · unfold f_X3_readUnit_17
            rw [z3, if_pos (show nI 3 = (3 : Int32) from rfl), l.2.1.1, (l.1.2.1 i l.1.1).2.2, ev, lN_i]
            rfl
          · unfold f_X12_unit_60
            rw [show f_X12_is_60 2 h = _ from is3, if_pos z3, Option.bind_some, if_neg (show ¬ (1 : Int32) = 0 by decide), l.2.2.1.1, xg_in (show i < 403 by omega) (by decide), nI_clamp (by omega), e65]
            rfl
        have cu : f_X3_readUnit_17 (nI (K i)) g = if K i < 25 then (xl (f_X3_stop_17 1 g) fun w1 => some w1) else (xl (f_X2_add_32 2 (nI (K i - 25)) g) fun w3 => (f_X3_take_17 (nI (K i)) w3).bind fun w4 => some w4) := by
          unfold f_X3_readUnit_17
          rw [if_neg (show ¬ nI (K i) = (3 : Int32) from fun y => z3 ((nI_eq (b := 3) (by omega) (by decide)).mp y)), show (25 : Int32) = nI 25 from rfl, ite_lt (by omega) (by decide), if_neg (show ¬ (33 : Int32) < nI (K i) from nI_nlt (a := 33) k33 (by decide))]
          by_cases y : K i < 25
          · rw [if_pos y, if_pos y]
          · rw [if_neg y, if_neg y, pk_sub (by omega)]
        have kk : kap (K i) < 32 ↔ K i < 25 := by
          unfold kap
          by_cases y : 13 ≤ K i
          · rw [if_pos y]; omega
          · rw [if_neg y]
            constructor
            · intro; omega
            · intro
              repeat' split
              all_goals omega
        have k40 := kap_40 (K i) k33
        have ru : f_X12_unit_60 h = if K i < 25 then ((f_X12_fail_60 1 h).bind fun w3 => some w3) else ((f_X12_emit_60 1 (nI (K i - 25)) h).bind fun w5 => (f_X12_goesOn_60 w5).bind fun w6 => some w6) := by
          unfold f_X12_unit_60
          rw [show f_X12_is_60 2 h = _ from is3, if_neg z3, Option.bind_some, if_pos rfl, l.2.2.1.2.1, if_pos rfl, l.2.2.1.1, xg_in (show i < 403 by omega) (by decide), nI_clamp (by omega), r1, show (32 : Int32) = nI 32 from rfl, ite_lt (by omega) (by decide), xg_in' (show i < 403 by omega) (by decide), if_neg (show ¬ (40 : Int32) < nI (kap (K i)) from nI_nlt (a := 40) k40 (by decide)), xg_in' (show i < 403 by omega) (by decide)]
          by_cases y : K i < 25
          · rw [if_pos (kk.mpr y), if_pos y]
          · have e7 : kap (K i) = K i + 7 := by
              unfold kap
              rw [if_pos (by omega)]
            rw [if_neg (fun u => y (kk.mp u)), if_neg y, e7, pk_sub (by omega), show K i + 7 - 32 = K i - 25 by omega]
        by_cases z25 : K i < 25
        · obtain ⟨g1, h1, a1, a2, a3, a4, a5, a6⟩ := p_fail hK l (f := 1) (.inl rfl)
          rw [cu, if_pos z25, show f_X3_stop_17 1 g = g1 from a1, xl_e, Option.bind_some, cs_dead a5, ru, if_pos z25, show f_X12_fail_60 1 h = some h1 from a2, Option.bind_some, Option.bind_some, a6.2.1, if_neg (by decide)]
          exact ⟨_, _, rfl, rfl, exO.dead (eC0.go a3) (eR0.go a4) ⟨1, i, a5, a6⟩⟩
        · refine unit 1 (nI (K i - 25)) (by decide) (fun _ => ?_) (by omega) ?_ ?_
          · rw [nI_clamp (by omega)]
            exact ⟨by omega, rfl⟩
          · rw [cu, if_neg z25]
            rfl
          · rw [ru, if_neg z25]
            rfl
    · obtain ⟨l, hc, hW, hn, hsh, eC0, eR0⟩ := I
      obtain ⟨m', rfl⟩ : ∃ m', m = m' + 1 + 1 := ⟨m - 2, by omega⟩
      obtain ⟨q', rfl⟩ : ∃ q', q = q' + 1 + 1 := ⟨q - 2, by omega⟩
      obtain ⟨r', rfl⟩ : ∃ r', r = r' + 1 := ⟨r - 1, by omega⟩
      obtain ⟨hW1, hW2⟩ := okW_len hW
      have hi := l.1.1
      have k33 := hK.2.2.2.1 i
      obtain ⟨r1, r2, r3⟩ := lv_r l hK
      rw [cs_B l (by omega)]
      obtain ⟨tp, rest, rfl, hl, hu⟩ := okW_top hW
      rw [ops_app (lvl_mem hl)] at hc hsh hW2
      have z0 : (nI n ≤ (0 : Int32)) ↔ n = 0 := by
        rw [show (0 : Int32) = nI 0 from rfl, nI_leI (by omega) (by decide)]; omega
      have r0 : (K i = 12 → n = 0) → f_X12_expression_60_96 (f_X12_expression_60_12 (r' + 1)) (q' + 1 + 1) 0 h = f_X12_expression_60_145 (f_X12_expression_60_12 (r' + 1)) 0 h := fun hz => by
        rw [f_X12_expression_60_96]
        rw [show f_X12_is_60 7 h = _ from r_is hK l (a := 12) (by decide), Option.bind_some, eR0.1]
        by_cases y : K i = 12
        · rw [if_pos y, if_neg (show ¬ (1 : Int32) = 0 by decide), if_pos (z0.mpr (hz y))]
        · rw [if_neg y, if_pos rfl]
      by_cases zb : 1 ≤ bnd (K i)
      · -- an operator
        have k11 : K i ≠ 11 := fun y => by rw [y] at zb; exact absurd zb (by decide)
        have k0 : K i ≠ 0 := fun y => by rw [y] at zb; exact absurd zb (by decide)
        have k12 : K i ≠ 12 := fun y => by rw [y] at zb; exact absurd zb (by decide)
        obtain ⟨l1, l2, rfl, hl1, hl2, hs1, hs2, hl3, hb2, hb3⟩ := lvl_split (n := n) hl hu zb
        rw [List.append_assoc] at eC0 eR0 hW1
        rw [List.length_append] at hc hsh hW1
        obtain ⟨g1, a1, a2, a3⟩ := eC0.pop (b := bnd (K i)) zb hb2 hs1 hl1 (by rw [List.length_append]; omega) (by omega)
        obtain ⟨h1, b1, b2, b3⟩ := eR0.pop (b := bnd (K i)) hb3 hs2 hl1 (by rw [List.length_append]; omega) (by omega) hpE
        obtain ⟨b4, b5⟩ := b2.push (show (l2 ++ rest).length < 64 by omega) (K i)
        have lq := l.ag (a3.agr (C := kLc) rfl) ((b3.agr (C := kLh) rfl).tr (b5.agr (C := kLh) rfl))
        obtain ⟨g2, h2, c1, c2, c3, c4, c5⟩ := p_goes hK lq rfl k0
        obtain ⟨g3, d1, d2, d3⟩ := (a2.go c3).push (by omega) (K i)
        have e5 := b4.go c4
        have cc : f_X3_readSum_17_70 (f_X3_readSum_17_11 (m' + 1)) 0 (nI n) (nI t) (nI (K i)) g = f_X3_readSum_17_11 (m' + 1) 1 (nI n) (nI (t + 1)) g3 := by
          unfold f_X3_readSum_17_70
          rw [if_pos rfl, c_bnd (K i) (by omega), if_neg (show ¬ nI (bnd (K i)) ≤ (0 : Int32) from fun y => by
            rw [show (0 : Int32) = nI 0 from rfl, nI_leI (by omega) (by decide)] at y; omega), a1, Option.bind_some, c1, Option.bind_some, d1, xl_e, nI_1]
        have rr : f_X12_expression_60_145 (f_X12_expression_60_12 (r' + 1)) 0 h = f_X12_expression_60_12 (r' + 1) 0 1 h2 := by
          rw [r145 hK l, if_pos zb]
          unfold f_X12_expression_60_234
          rw [b1, Option.bind_some, show h1.1 60 11 = nI i from ((b3 60 11 rfl).1).trans l.2.2.1.1, xg_in (show i < 403 by omega) (by decide), b2.2.1, xg_in (show (l2 ++ rest).length < 64 by omega) (by decide), nI_clamp (by omega), nI_clamp (by omega), show h1.1 63 i = nI (kap (K i)) from ((b3 63 i rfl).1).trans r1, nI_1, c2, Option.bind_some]
        rw [cc, r0 (fun y => absurd y k12), rr]
        have hsh' : shp 0 (c ++ l1.map opc) = some (ops (K i :: (l2 ++ rest)) + 0) := by
          rw [shp_app hsh, show l1.length + l2.length + ops rest + 1 = (l2.length + ops rest) + l1.length + 1 by omega, shp_ops (fun k hk => ⟨(hl1 k hk).1, (hl1 k hk).2.1⟩)]
          show _ = some ((if K i = 11 then 0 else 1) + ops (l2 ++ rest) + 0)
          rw [if_neg k11, ops_app hl2]
          congr 1
          omega
        rcases c5 with ⟨i4, l5⟩ | ⟨f, j, d4, d5⟩
        · have l6 := l5.ag (d3.agr (C := kLc) rfl) (xagr.rf)
          have hi1 := l5.1.1
          rw [f_X12_expression_60_12]
          rw [if_neg (show ¬ (1 : Int32) = 0 by decide), l5.2.2.1.2.1, if_pos rfl]
          refine (ih (d - 1) (by omega) (i + 1) n (K i :: (l2 ++ rest)) (c ++ l1.map opc) g3 h2 (by omega) (by omega)).1 (t + 1) (m' + 1) xN r' (by omega) (by omega) (by show d - 1 + 2 ≤ 4000; omega) (by omega) ⟨l6, ?_, okW_of (l := K i :: l2) hu hl3, hn, hsh', d2, e5⟩
          rw [List.length_append, List.length_map]
          show c.length + l1.length + ((if K i = 11 then 0 else 1) + ops (l2 ++ rest)) + i0 ≤ i + 1
          rw [if_neg k11, ops_app hl2]
          omega
        · have d6 := d4.ag (d3.agr (C := kDc) rfl)
          rw [cs_dead d6, r12_dead d5]
          exact ⟨_, _, rfl, rfl, exO.dead d2 e5 ⟨f, j, d6, d5⟩⟩
      · have hb0 : bnd (K i) = 0 := by omega
        obtain ⟨hs1, hs2⟩ := under_st hu
        have hlm := lvl_mem hl
        by_cases zc : K i = 12 ∧ 0 < n
        · -- a bracket closes
          obtain ⟨z12, hn0⟩ := zc
          rcases hu with ⟨y, -⟩ | ⟨n', rs, rfl, rfl, hrs⟩
          · omega
          obtain ⟨g1, a1, a2, a3⟩ := eC0.pop (b := 1) (by decide) (by decide) hs1 hlm (by omega) (by omega)
          obtain ⟨h1, b1, b2, b3⟩ := eR0.pop (b := 1) (.inl rfl) hs2 hlm (by omega) (by omega) hpE
          obtain ⟨b4, b5⟩ := b2.drop
          have lq := l.ag (a3.agr (C := kLc) rfl) ((b3.agr (C := kLh) rfl).tr (b5.agr (C := kLh) rfl))
          obtain ⟨g2, h2, c1, c2, c3, c4, c5⟩ := p_goes hK lq z12 (by decide)
          obtain ⟨d2, d3⟩ := (a2.go c3).drop
          have e5 := b4.go c4
          have cc : f_X3_readSum_17_70 (f_X3_readSum_17_11 (m' + 1)) 0 (nI (n' + 1)) (nI t) (nI (K i)) g = f_X3_readSum_17_11 (m' + 1) 0 (nI n') (nI (t + 1)) (xupd g2.1 17 4 (g2.1 17 4 - 1), g2.2) := by
            unfold f_X3_readSum_17_70
            rw [if_pos rfl, z12, show f_X3_bindingOf (nI 12) = nI 0 from c_bnd 12 (by decide), if_pos (show nI 0 ≤ (0 : Int32) by decide), if_pos (show nI 12 = (12 : Int32) from rfl), if_neg (fun y => by have := z0.mp y; omega), show f_X3_addWaiting_17 1 g = some g1 from a1, Option.bind_some, c1, Option.bind_some, show nI (n' + 1) + (-1) = nI n' from im1 _, nI_1]
          have rr : f_X12_expression_60_96 (f_X12_expression_60_12 (r' + 1)) (q' + 1 + 1) 0 h = f_X12_expression_60_96 (f_X12_expression_60_12 (r' + 1)) (q' + 1) 0 h2 := by
            rw [f_X12_expression_60_96]
            rw [show f_X12_is_60 7 h = _ from r_is hK l (a := 12) (by decide), Option.bind_some, eR0.1, if_pos z12, if_neg (show ¬ (1 : Int32) = 0 by decide), if_neg (fun y => by have := z0.mp y; omega), show f_X12_comesOut_60 0 h = some h1 from b1, Option.bind_some, c2, Option.bind_some]
          rw [cc, rr]
          have o11 : ops (11 :: rs) = ops rs := by
            show (if 11 = 11 then 0 else 1) + ops rs = ops rs
            rw [if_pos rfl, Nat.zero_add]
          rw [o11] at hc hsh hW2
          rcases c5 with ⟨i4, l5⟩ | ⟨f, j, d4, d5⟩
          · have hi1 := l5.1.1
            refine (ih (d - 1) (by omega) (i + 1) n' rs (c ++ tp.map opc) _ h2 (by omega) (by omega)).2 (t + 1) (m' + 1) (q' + 1) (r' + 1) (by omega) (by omega) (by omega) (by omega) ⟨l5.ag (d3.agr (C := kLc) rfl) xagr.rf, ?_, hrs, by omega, ?_, d2, e5⟩
            · rw [List.length_append, List.length_map]
              omega
            · rw [shp_app hsh, show tp.length + ops rs + 1 = ops rs + tp.length + 1 by omega, shp_ops (fun k hk => ⟨(hlm k hk).1, (hlm k hk).2.1⟩)]
          · have d6 := d4.ag (d3.agr (C := kDc) rfl)
            obtain ⟨h3, W3, c3', f1, f2, f3⟩ := r96_dead d5 e5 hrs (by omega) (by rw [List.length_append, List.length_map]; omega) hpE (f_X12_expression_60_12 (r' + 1)) q'
            rw [cs_dead d6, f1]
            exact ⟨_, _, rfl, rfl, exO.dead d2 f2 ⟨f, j, d6, f3⟩⟩
        · -- nothing more
          have hz : K i = 12 → n = 0 := fun y => by omega
          obtain ⟨g1, a1, a2, a3⟩ := eC0.pop (b := 1) (by decide) (by decide) hs1 hlm (by omega) (by omega)
          have rr : f_X12_expression_60_96 (f_X12_expression_60_12 (r' + 1)) (q' + 1 + 1) 0 h = if n = 0 then f_X12_comesOut_60 0 h else ((f_X12_fail_60 1 h).bind fun w10 => f_X12_comesOut_60 0 w10) := by
            rw [r0 hz, r145 hK l, if_neg zb]
            unfold f_X12_expression_60_186
            rw [if_pos rfl, eR0.1]
            have bs : ∀ (o : Option xG), (o.bind fun w => some w) = o := fun o => by cases o <;> rfl
            simp only [z0, bs]
          rw [c_none hK l hn hb0 hz, rr, show f_X3_addWaiting_17 1 g = some g1 from a1, Option.bind_some]
          by_cases n0 : n = 0
          · subst n0
            obtain ⟨h1, b1, b2, b3⟩ := eR0.pop (b := 1) (.inl rfl) hs2 hlm (by omega) (by omega) hpE
            rw [if_pos rfl, if_pos rfl, show f_X12_comesOut_60 0 h = some h1 from b1]
            rcases hu with ⟨-, rfl⟩ | ⟨n', rs, y, -⟩
            · refine ⟨_, _, rfl, rfl, a2.2.2.2.2.2, b2.2.2.2.2.2.2, b2.2.2.2.2.2.1, .inl ⟨i, _, l.ag (a3.agr rfl) (b3.agr rfl), ?_, ?_, a2, b2⟩⟩
              · rw [List.length_append, List.length_map]
                omega
              · have o0 : ops [] = 0 := rfl
                rw [o0] at hsh
                rw [shp_app hsh, show tp.length + 0 + 1 = 0 + tp.length + 1 by omega, shp_ops (fun k hk => ⟨(hlm k hk).1, (hlm k hk).2.1⟩)]
            · omega
          · obtain ⟨g2, h1, c1, c2, c3, c4, c5, c6⟩ := p_fail hK (l.ag (a3.agr (C := kLc) rfl) xagr.rf) (f := 1) (.inl rfl)
            obtain ⟨h2, W3, c3', f1, f2, f3⟩ := (eR0.go c4).top hW hn (by rw [ops_app hlm]; omega) hpE
            rw [if_neg n0, if_neg n0, show f_X3_stop_17 1 g1 = g2 from c1, xl_e, show f_X12_fail_60 1 h = some h1 from c2, Option.bind_some, f1]
            exact ⟨_, _, rfl, rfl, exO.dead (a2.go c3) f2 ⟨1, i, c5, c6.ag (f3.agr rfl)⟩⟩
end
