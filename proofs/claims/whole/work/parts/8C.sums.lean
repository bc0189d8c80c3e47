/-! sums: the class's and the reference's, in step -/
def ops : List Nat → Nat
  | [] => 0
  | x :: W => (if x = 11 then 0 else 1) + ops W
def lvl (l : List Nat) : Prop := l = [] ∨ (∃ p, (p = 6 ∨ p = 7) ∧ l = [p]) ∨ (∃ m, (m = 8 ∨ m = 9) ∧ l = [m]) ∨ ∃ m p, (m = 8 ∨ m = 9) ∧ (p = 6 ∨ p = 7) ∧ l = [m, p]
def okW : Nat → List Nat → Prop
  | 0, W => lvl W
  | n + 1, W => ∃ l r, W = l ++ 11 :: r ∧ lvl l ∧ okW n r
theorem lvl_mem {l : List Nat} (h : lvl l) : ∀ k ∈ l, 6 ≤ k ∧ k ≤ 9 ∧ 1 ≤ bnd k := by
  rcases h with rfl | ⟨p, hp, rfl⟩ | ⟨m, hm, rfl⟩ | ⟨m, p, hm, hp, rfl⟩
  · intro k hk; cases hk
  · intro k hk
    have : k = p := by simpa using hk
    subst this
    rcases hp with rfl | rfl <;> decide
  · intro k hk
    have : k = m := by simpa using hk
    subst this
    rcases hm with rfl | rfl <;> decide
  · intro k hk
    have : k = m ∨ k = p := by simpa using hk
    rcases this with rfl | rfl
    · rcases hm with rfl | rfl <;> decide
    · rcases hp with rfl | rfl <;> decide
theorem lvl_2 {l : List Nat} (h : lvl l) : l.length ≤ 2 := by
  rcases h with rfl | ⟨p, hp, rfl⟩ | ⟨m, hm, rfl⟩ | ⟨m, p, hm, hp, rfl⟩ <;> simp
theorem ops_app : ∀ {l W : List Nat}, (∀ k ∈ l, 6 ≤ k ∧ k ≤ 9 ∧ 1 ≤ bnd k) → ops (l ++ W) = l.length + ops W
  | [], W, _ => by simp
  | x :: l, W, h => by
    have hx := h x (by simp)
    rw [List.cons_append]
    show (if x = 11 then 0 else 1) + ops (l ++ W) = (l.length + 1) + ops W
    rw [if_neg (by omega), ops_app (fun k hk => h k (by simp [hk]))]
    omega
/-- the top level, and what is under it -/
def under (n : Nat) (rest : List Nat) : Prop := (n = 0 ∧ rest = []) ∨ ∃ n' r, n = n' + 1 ∧ rest = 11 :: r ∧ okW n' r
theorem okW_top {n : Nat} {W : List Nat} (h : okW n W) : ∃ l rest, W = l ++ rest ∧ lvl l ∧ under n rest := by
  cases n with
  | zero => exact ⟨W, [], by simp, h, .inl ⟨rfl, rfl⟩⟩
  | succ n =>
    obtain ⟨l, r, e, h1, h2⟩ := h
    exact ⟨l, 11 :: r, e, h1, .inr ⟨n, r, rfl, rfl, h2⟩⟩
theorem okW_of {n : Nat} {l rest : List Nat} (h : under n rest) (hl : lvl l) : okW n (l ++ rest) := by
  rcases h with ⟨rfl, rfl⟩ | ⟨n', r, rfl, rfl, h⟩
  · rw [List.append_nil]
    exact hl
  · exact ⟨l, r, rfl, hl, h⟩
theorem okW_len : ∀ {n : Nat} {W : List Nat}, okW n W → W.length ≤ 3 * n + 2 ∧ ops W ≤ 2 * n + 2
  | 0, W, h => by
    have a := lvl_2 h
    have b := ops_app (W := []) (lvl_mem h)
    rw [List.append_nil] at b
    have c : ops [] = 0 := rfl
    omega
  | n + 1, W, ⟨l, r, e, h1, h2⟩ => by
    have a := lvl_2 h1
    have b := okW_len h2
    subst e
    rw [ops_app (lvl_mem h1), List.length_append, List.length_cons]
    have c : ops (11 :: r) = ops r := by
      show (if 11 = 11 then 0 else 1) + ops r = ops r
      rw [if_pos rfl, Nat.zero_add]
    rw [c]
    omega
theorem under_st {n : Nat} {rest : List Nat} (h : under n rest) : stEnd rest 1 ∧ (rest = [] ∨ ∃ x r, rest = x :: r ∧ (x = 11 ∨ (1 = 2 ∧ (x = 6 ∨ x = 7)))) := by
  rcases h with ⟨-, rfl⟩ | ⟨n', r, -, rfl, -⟩
  · exact ⟨.inl rfl, .inl rfl⟩
  · exact ⟨.inr ⟨11, r, rfl, by decide, by decide⟩, .inr ⟨11, r, rfl, .inl rfl⟩⟩
def fEc : List (Nat × Option Nat) := [(17, some 4), (17, some 5), (17, some 6), (32, some 4), (33, none), (34, none), (37, none)]
def fEr : List (Nat × Option Nat) := [(60, some 11), (60, some 12), (60, some 13), (60, some 14), (60, some 42), (60, some 46), (88, none), (89, none), (90, none)]
section
variable {K S : Nat → Nat} {V : Nat → Int64} {E : Nat}
def eC (s0 : Nat) (gA : xG) (W : List Nat) (c : List pI) (g : xG) : Prop := g.1 17 4 = nI W.length ∧ wst id (g.1 37) W ∧ g.1 32 4 = nI (s0 + c.length) ∧ sgC (dw g) s0 c ∧ (∀ q, q < s0 → g.1 33 q = gA.1 33 q ∧ g.1 34 q = gA.1 34 q) ∧ xfrm fEc gA g
def eR (p0 pE : Nat) (hA : xG) (n : Nat) (W : List Nat) (c : List pI) (h : xG) : Prop := h.1 60 12 = nI n ∧ h.1 60 46 = nI W.length ∧ wst kap (h.1 90) W ∧ h.1 60 42 = nI (p0 + c.length) ∧ sgR h p0 c ∧ (∀ q, q < p0 ∨ pE ≤ q → h.1 88 q = hA.1 88 q ∧ h.1 89 q = hA.1 89 q) ∧ xfrm fEr hA h
/-- a step of tokens leaves both as they are -/
theorem eC.go {s0 : Nat} {gA g g' : xG} {W : List Nat} {c : List pI} (e : eC s0 gA W c g) (f : xfrm fT g g') : eC s0 gA W c g' := ⟨((f 17 4 rfl).1).trans e.1, wst_up e.2.1 (fun j _ => (f 37 j rfl).1), ((f 32 4 rfl).1).trans e.2.2.1, sgC_up (g := dw g) (fun j _ _ => ⟨(f 33 j rfl).1, (f 34 j rfl).1⟩) e.2.2.2.1, fun q hq => ⟨((f 33 q rfl).1).trans (e.2.2.2.2.1 q hq).1, ((f 34 q rfl).1).trans (e.2.2.2.2.1 q hq).2⟩, e.2.2.2.2.2.th (f.wk rfl)⟩
theorem eR.go {p0 pE n : Nat} {hA h h' : xG} {W : List Nat} {c : List pI} (e : eR p0 pE hA n W c h) (f : xfrm fM h h') : eR p0 pE hA n W c h' := ⟨((f 60 12 rfl).1).trans e.1, ((f 60 46 rfl).1).trans e.2.1, wst_up e.2.2.1 (fun j _ => (f 90 j rfl).1), ((f 60 42 rfl).1).trans e.2.2.2.1, sgR_up (fun j _ _ => ⟨(f 88 j rfl).1, (f 89 j rfl).1⟩) e.2.2.2.2.1, fun q hq => ⟨((f 88 q rfl).1).trans (e.2.2.2.2.2.1 q hq).1, ((f 89 q rfl).1).trans (e.2.2.2.2.2.1 q hq).2⟩, e.2.2.2.2.2.2.th (f.wk rfl)⟩
/-- one step more of the code -/
theorem eC.emit {s0 : Nat} {gA g : xG} {W : List Nat} {c : List pI} (e : eC s0 gA W c g) (hz : s0 + c.length < 408) (k : Nat) (v : Int32) : ∃ g', f_X2_add_32 (nI (cStp k)) v g = g' ∧ eC s0 gA W (c ++ [(k, v)]) g' ∧ xfrm [(32, some 4), (33, none), (34, none)] g g' := by
  obtain ⟨e1, e2, e3, e4, e5, e6⟩ := e
  obtain ⟨w, w1, w2, w3, w4, w5⟩ := c_emit hz e3 (nI (cStp k)) v
  refine ⟨w, w1, ⟨((w5 17 4 rfl).1).trans e1, wst_up e2 (fun j _ => (w5 37 j rfl).1), by rw [w2, List.length_append]; rfl, sgC_app.mpr ⟨sgC_up (fun j h1 h2 => ?_) e4, ⟨⟨hz, ?_, fun _ => ?_⟩, trivial⟩⟩, fun q hq => ?_, e6.th (w5.wk rfl)⟩, w5⟩
  · rw [dw_13, dw_14, w3, w4, if_neg (by omega), if_neg (by omega)]
    exact ⟨rfl, rfl⟩
  · rw [dw_13, w3, if_pos rfl]
  · rw [dw_14, w4, if_pos rfl]
  · rw [w3, w4, if_neg (by omega), if_neg (by omega)]
    exact e5 q hq
theorem eR.emit {p0 pE n : Nat} {hA h : xG} {W : List Nat} {c : List pI} (e : eR p0 pE hA n W c h) (hz : p0 + c.length < pE) (hE : pE ≤ 840) (k : Nat) (v : Int32) : ∃ h', f_X12_emit_60 (nI k) v h = some h' ∧ eR p0 pE hA n W (c ++ [(k, v)]) h' ∧ xfrm [(60, some 42), (88, none), (89, none)] h h' := by
  obtain ⟨e1, e2, e3, e4, e5, e6, e7⟩ := e
  obtain ⟨w, w1, w2, w3, w4, w5⟩ := r_emit (show p0 + c.length < 840 by omega) e4 (nI k) v
  refine ⟨w, w1, ⟨((w5 60 12 rfl).1).trans e1, ((w5 60 46 rfl).1).trans e2, wst_up e3 (fun j _ => (w5 90 j rfl).1), by rw [w2, List.length_append]; rfl, sgR_app.mpr ⟨sgR_up (fun j h1 h2 => ?_) e5, ⟨⟨by omega, ?_, fun _ => ?_⟩, trivial⟩⟩, fun q hq => ?_, e7.th (w5.wk rfl)⟩, w5⟩
  · rw [w3, w4, if_neg (by omega), if_neg (by omega)]
    exact ⟨rfl, rfl⟩
  · rw [w3, if_pos rfl]
  · rw [w4, if_pos rfl]
  · rw [w3, w4, if_neg (by omega), if_neg (by omega)]
    exact e6 q hq
/-- an operator, or a bracket, put aside -/
theorem eC.push {s0 : Nat} {gA g : xG} {W : List Nat} {c : List pI} (e : eC s0 gA W c g) (hz : W.length < 21) (x : Nat) : ∃ g', f_X3_putAside_17 (nI x) g = g' ∧ eC s0 gA (x :: W) c g' ∧ xfrm [(17, some 4), (37, none)] g g' := by
  obtain ⟨e1, e2, e3, e4, e5, e6⟩ := e
  unfold f_X3_putAside_17
  rw [xl_e, e1, xput_in hz (by decide)]
  dsimp only
  rw [show xupd g.1 37 W.length (nI x) 17 4 = nI W.length from e1, nI_1]
  have w5 : xfrm [(17, some 4), (37, none)] g (xupd (xupd g.1 37 W.length (nI x)) 17 4 (nI (W.length + 1)), g.2) := xfrm.up (xfrm.up xfrm.rf rfl) rfl
  refine ⟨_, rfl, ⟨rfl, ⟨?_, wst_up e2 (fun j hj => ?_)⟩, ((w5 32 4 rfl).1).trans e3, sgC_up (g := dw g) (fun j _ _ => ⟨(w5 33 j rfl).1, (w5 34 j rfl).1⟩) e4, fun q hq => ⟨((w5 33 q rfl).1).trans (e5 q hq).1, ((w5 34 q rfl).1).trans (e5 q hq).2⟩, e6.th (w5.wk rfl)⟩, w5⟩
  · show xupd (xupd g.1 37 W.length (nI x)) 17 4 (nI (W.length + 1)) 37 W.length = _
    rw [xu_q (show (37 : Nat) ≠ 17 by decide), xu_eq]
    rfl
  · show xupd (xupd g.1 37 W.length (nI x)) 17 4 (nI (W.length + 1)) 37 j = _
    rw [xu_q (show (37 : Nat) ≠ 17 by decide), xu_ne (by omega)]
theorem eR.push {p0 pE n : Nat} {hA h : xG} {W : List Nat} {c : List pI} (e : eR p0 pE hA n W c h) (hz : W.length < 64) (x : Nat) : eR p0 pE hA n (x :: W) c (xupd (xupd h.1 90 W.length (nI (kap x))) 60 46 (nI (W.length + 1)), h.2) ∧ xfrm [(60, some 46), (90, none)] h (xupd (xupd h.1 90 W.length (nI (kap x))) 60 46 (nI (W.length + 1)), h.2) := by
  obtain ⟨e1, e2, e3, e4, e5, e6, e7⟩ := e
  have w5 : xfrm [(60, some 46), (90, none)] h (xupd (xupd h.1 90 W.length (nI (kap x))) 60 46 (nI (W.length + 1)), h.2) := xfrm.up (xfrm.up xfrm.rf rfl) rfl
  refine ⟨⟨((w5 60 12 rfl).1).trans e1, rfl, ⟨?_, wst_up e3 (fun j hj => ?_)⟩, ((w5 60 42 rfl).1).trans e4, sgR_up (fun j _ _ => ⟨(w5 88 j rfl).1, (w5 89 j rfl).1⟩) e5, fun q hq => ⟨((w5 88 q rfl).1).trans (e6 q hq).1, ((w5 89 q rfl).1).trans (e6 q hq).2⟩, e7.th (w5.wk rfl)⟩, w5⟩
  · show xupd (xupd h.1 90 W.length (nI (kap x))) 60 46 (nI (W.length + 1)) 90 W.length = _
    rw [xu_q (show (90 : Nat) ≠ 60 by decide), xu_eq]
  · show xupd (xupd h.1 90 W.length (nI (kap x))) 60 46 (nI (W.length + 1)) 90 j = _
    rw [xu_q (show (90 : Nat) ≠ 60 by decide), xu_ne (by omega)]
/-- what waits comes out -/
theorem eC.pop {s0 b : Nat} {gA g : xG} {l rest : List Nat} {c : List pI} (e : eC s0 gA (l ++ rest) c g) (hb : 1 ≤ b) (hb2 : b ≤ 2) (hr : stEnd rest b) (hl : ∀ k ∈ l, 6 ≤ k ∧ k ≤ 9 ∧ b ≤ bnd k) (h21 : (l ++ rest).length ≤ 21) (hz : s0 + c.length + l.length ≤ 408) : ∃ g', f_X3_addWaiting_17 (nI b) g = some g' ∧ eC s0 gA rest (c ++ l.map opc) g' ∧ xfrm [(17, some 4), (32, some 4), (33, none), (34, none)] g g' := by
  obtain ⟨e1, e2, e3, e4, e5, e6⟩ := e
  have hlen : l.length ≤ 21 := by rw [List.length_append] at h21; omega
  obtain ⟨g', w1, w2, w3, w4, w5, w6⟩ := c_pop hb hb2 hr l g (s0 + c.length) xN hl e1 e2 h21 e3 hz (by show l.length < 4000; omega)
  refine ⟨g', ?_, ⟨w2, wst_up (wst_app e2) (fun j _ => (w6 37 j rfl).1), ?_, sgC_app.mpr ⟨sgC_up (g := dw g) (fun j h1 h2 => w5 j h2) e4, w4⟩, fun q hq => ⟨((w5 q (by omega)).1).trans (e5 q hq).1, ((w5 q (by omega)).2).trans (e5 q hq).2⟩, e6.th (w6.wk rfl)⟩, w6⟩
  · unfold f_X3_addWaiting_17
    rw [e1]
    exact w1
  · rw [w3, List.length_append, List.length_map, Nat.add_assoc]
theorem eR.pop {p0 pE n b : Nat} {hA h : xG} {l rest : List Nat} {c : List pI} (e : eR p0 pE hA n (l ++ rest) c h) (hb : b = 1 ∨ b = 2) (hr : rest = [] ∨ ∃ x r, rest = x :: r ∧ (x = 11 ∨ (b = 2 ∧ (x = 6 ∨ x = 7)))) (hl : ∀ k ∈ l, 6 ≤ k ∧ k ≤ 9 ∧ b ≤ bnd k) (h21 : (l ++ rest).length ≤ 64) (hz : p0 + c.length + l.length ≤ pE) (hE : pE ≤ 840) : ∃ h', f_X12_comesOut_60 (if b = 2 then 1 else 0) h = some h' ∧ eR p0 pE hA n rest (c ++ l.map opc) h' ∧ xfrm [(60, some 42), (60, some 46), (88, none), (89, none)] h h' := by
  obtain ⟨e1, e2, e3, e4, e5, e6, e7⟩ := e
  have hlen : l.length ≤ 64 := by rw [List.length_append] at h21; omega
  obtain ⟨h', w1, w2, w3, w4, w5, w6⟩ := r_pop hb hr l h (p0 + c.length) xN hl e2 e3 h21 e4 (by omega) (by show l.length < 4000; omega)
  refine ⟨h', w1, ⟨((w6 60 12 rfl).1).trans e1, w2, wst_up (wst_app e3) (fun j _ => (w6 90 j rfl).1), ?_, sgR_app.mpr ⟨sgR_up (fun j h1 h2 => w5 j (.inl h2)) e5, w4⟩, fun q hq => ⟨((w5 q (by omega)).1).trans (e6 q hq).1, ((w5 q (by omega)).2).trans (e6 q hq).2⟩, e7.th (w6.wk rfl)⟩, w6⟩
  rw [w3, List.length_append, List.length_map, Nat.add_assoc]
end
