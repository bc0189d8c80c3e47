/-! what is done by hand -/
def mD (W : Nat → Int64) (R : pR) (L : Nat) (F G : xG → Option (Int32 × xG)) : Prop := ∀ g, mM W R L g → ∃ v w1 w2, F g = some (v, w1) ∧ G w1 = some (v, w2) ∧ mM W R L w2
section
variable {W : Nat → Int64} {R : pR} {L : Nat}
theorem m_ask {F G : xG → Option (Int32 × xG)} (hq : ∀ c ρ, rOK R → rowOK R ρ → ρ 36 = nI c → c < 1024 → aQ R L c ρ F G) (hF : ∀ g out, F g = some out → xagr kM g out.2) (hG : ∀ g out, G g = some out → xagr kM g out.2) : mD W R L F G := by
  intro g h
  obtain ⟨h0, ⟨s1, s2, s3, c, hc0, s4, s5⟩, -⟩ := id h
  obtain ⟨v, q1, q2⟩ := hq c (g.1 93) h0 s3 s4 hc0
  obtain ⟨w1, e1⟩ := q1 g s5
  have a1 := hF g _ e1
  have h1 := h.ag a1
  obtain ⟨w2, e2⟩ := q2 w1 ⟨h1.2.1.1, h1.2.1.2.1, fun k _ => (a1 93 k rfl).1⟩
  exact ⟨v, w1, w2, e1, e2, h1.ag (hG w1 _ e2)⟩
theorem m_askH {F G : xG → Option (Int32 × xG)} (hq : ∀ c ρ hs hw n, rOK R → rowOK R ρ → ρ 36 = nI c → c < 1024 → n ≤ 20 → aH R L c ρ hs hw n F G) (hF : ∀ g out, F g = some out → xagr kM g out.2) (hG : ∀ g out, G g = some out → xagr kM g out.2) : mD W R L F G := by
  intro g h
  obtain ⟨h0, ⟨s1, s2, s3, c, hc0, s4, s5⟩, -, -, -, ⟨n, hn, t1, t2, t3⟩, -⟩ := id h
  obtain ⟨v, q1, q2⟩ := hq c (g.1 93) (g.1 57) (g.1 58) n h0 s3 s4 hc0 hn
  obtain ⟨w1, e1⟩ := q1 g s5 ⟨t1, fun _ _ => ⟨rfl, rfl⟩⟩
  have a1 := hF g _ e1
  have h1 := h.ag a1
  obtain ⟨w2, e2⟩ := q2 w1 ⟨h1.2.1.1, h1.2.1.2.1, fun k _ => (a1 93 k rfl).1⟩ ⟨((a1 60 58 rfl).1).trans t2, fun i hi => ⟨((a1 98 i rfl).1).trans (t3 i hi).1.symm, ((a1 99 i rfl).1).trans (t3 i hi).2.1.symm⟩⟩
  exact ⟨v, w1, w2, e1, e2, h1.ag (hG w1 _ e2)⟩
/-- nothing is done -/
theorem m_none {g : xG} (h : mM W R L g) {F G : xG → Option (Int32 × xG)} {v : Int32} (e1 : F g = some (v, g)) (e2 : G g = some (v, g)) : ∃ v w1 w2, F g = some (v, w1) ∧ G w1 = some (v, w2) ∧ mM W R L w2 := ⟨v, g, g, e1, e2, h⟩
theorem m_remember {g : xG} (h : mM W R L g) : ∃ w, f_X11_remember_0 g = some w ∧ xfrm [(0, some 13), (0, some 14), (53, none)] g w := by
  obtain ⟨-, -, -, ⟨n, nw, hn, hw, u1, u2, u3, u4⟩, -⟩ := h
  obtain ⟨w, e, f, -⟩ := c_remember hn hw u1 u3
  exact ⟨w, e, f⟩
theorem m_send40 {g : xG} (h : mM W R L g) {p : Nat} (hp : p < rP R) {s0 : Int32} (hs : s0 = -2 ∨ ∃ a, a < rT R ∧ s0 = nI a) : ∃ v w1 w2, f_X11_send_0_40 (nI p) s0 g = some (v, w1) ∧ f_X12_send_60_34 (nI p) s0 w1 = some (v, w2) ∧ mM W R L w2 := by
  obtain ⟨h0, ⟨s1, s2, s3, c, hc0, s4, s5⟩, -⟩ := id h
  have h6 := h0.p
  have r0 : ∀ w : xG, f_X12_send_60_34 (nI p) s0 w = if w.1 93 (6 + p) = s0 then some (0, w) else if w.1 93 p = s0 then some (0, w) else (f_X12_does_60 (6 + nI p) s0 w).bind fun w2 => if w2.1 = 0 then some (0, w2.2) else some (1, w2.2) := by
    intro w
    unfold f_X12_send_60_34
    rw [a6, xg_in (show 6 + p < 40 by omega) (by decide), xg_in (show p < 40 by omega) (by decide), nI_clamp (show 6 + p < 2 ^ 31 by omega), nI_clamp (show p < 2 ^ 31 by omega)]
  have c0 : f_X11_send_0_40 (nI p) s0 g = if s0 = g.1 93 (6 + p) then some (0, g) else if s0 = g.1 93 p then some (0, g) else (f_X11_remember_0 g).bind fun w1 => xl (f_X6_setOf_48 (nI p) 11 s0 w1) fun w2 => some (1, w2) := by
    unfold f_X11_send_0_40
    rw [c_go48 s5.2.2.2.2 h6 hp, c_pl48 s5.2.2.2.2 h6 hp]
  by_cases z1 : s0 = g.1 93 (6 + p)
  · exact m_none h (by rw [c0, if_pos z1]) (by rw [r0, if_pos z1.symm])
  by_cases z2 : s0 = g.1 93 p
  · exact m_none h (by rw [c0, if_neg z1, if_pos z2]) (by rw [r0, if_neg (fun y => z1 y.symm), if_pos z2.symm])
  obtain ⟨w1, e1, f1⟩ := m_remember h
  have j1 := s5.ag (f1.agr (C := kJ_44_48) rfl)
  have j2 := j1.up (sx_go (v := s0) j1.2.2.2.2 h6 hp)
  have f2 : xfrm [(49, none)] w1 (xupd w1.1 49 (11 + p) s0, w1.2) := xfrm.up xfrm.rf rfl
  obtain ⟨w3, e3, m3⟩ := m_do (k := 6 + p) (v := s0) h e1 (f2.wk rfl) (by omega) (rowOK_go h0 s3 hp hs) ((pk_un (by omega)).trans s4) hc0 j2
  refine ⟨1, (xupd w1.1 49 (11 + p) s0, w1.2), w3, ?_, ?_, m3⟩
  · rw [c0, if_neg z1, if_neg z2, e1, Option.bind_some, xl_e, show f_X6_setOf_48 (nI p) 11 s0 w1 = _ from c_set48 (k := 11) (by omega)]
  · have e93 : ∀ q, (xupd w1.1 49 (11 + p) s0, w1.2).1 93 q = g.1 93 q := fun q => ((f2 93 q rfl).1).trans (f1 93 q rfl).1
    rw [r0, e93, e93, if_neg (fun y => z1 y.symm), if_neg (fun y => z2 y.symm), a6, e3, Option.bind_some]
    rfl
theorem m_send (x y : Int32) : mD W R L (f_X11_send_0 x y) (f_X12_send_60 x y) := by
  intro g h
  obtain ⟨h0, ⟨s1, s2, s3, c, hc0, s4, s5⟩, -⟩ := id h
  rcases aP h0 x with ⟨a1, a2⟩ | ⟨p, hp, rfl, a1, a2⟩
  · exact m_none h (by unfold f_X11_send_0; rw [a1 g s5.1, if_pos rfl]) (by unfold f_X12_send_60; rw [a2 g L s1, Option.bind_some, if_pos rfl])
  by_cases z : y = -1
  · obtain ⟨v, w1, w2, e1, e2, m2⟩ := m_send40 h hp (s0 := -2) (.inl rfl)
    refine ⟨v, w1, w2, ?_, ?_, m2⟩
    · unfold f_X11_send_0 f_X11_send_0_29
      rw [a1 g s5.1, if_neg (by decide), if_pos z, if_pos z, e1]
    · have s1' : rmR w1 L R := s1.ag ((fr_X11_send_0_40 _ _ _ _ e1).agr rfl)
      unfold f_X12_send_60 f_X12_send_60_23
      rw [a2 w1 L s1', Option.bind_some, if_neg (by decide), if_pos z, if_pos z, e2]
  rcases aT h0 y with ⟨b1, b2⟩ | ⟨t, ht, rfl, b1, b2⟩
  · exact m_none h (by unfold f_X11_send_0; rw [a1 g s5.1, if_neg (by decide), if_neg z, b1 g s5.1, if_pos rfl]) (by unfold f_X12_send_60; rw [a2 g L s1, Option.bind_some, if_neg (by decide), if_neg z, b2 g L s1, Option.bind_some, if_pos rfl])
  · obtain ⟨v, w1, w2, e1, e2, m2⟩ := m_send40 h hp (s0 := nI t) (.inr ⟨t, ht, rfl⟩)
    refine ⟨v, w1, w2, ?_, ?_, m2⟩
    · unfold f_X11_send_0 f_X11_send_0_29
      rw [a1 g s5.1, if_neg (by decide), if_neg z, b1 g s5.1, if_neg (by decide), if_neg z, e1]
    · have s1' : rmR w1 L R := s1.ag ((fr_X11_send_0_40 _ _ _ _ e1).agr rfl)
      unfold f_X12_send_60 f_X12_send_60_23
      rw [a2 w1 L s1', Option.bind_some, if_neg (by decide), if_neg z, b2 w1 L s1', Option.bind_some, if_neg (by decide), if_neg z, e2]
theorem xor_1024 {c r : Nat} (hc : c < 1024) (hr : r < 10) : c ^^^ 2 ^ r < 1024 := Nat.xor_lt_two_pow (n := 10) hc (Nat.pow_lt_pow_right (by decide) hr)
theorem m_close (x : Int32) {y : Int32} (hy : y = 0 ∨ y = 1) : mD W R L (f_X11_close_0 x y) (f_X12_close_60 x y) := by
  intro g h
  obtain ⟨h0, ⟨s1, s2, s3, c, hc0, s4, s5⟩, -⟩ := id h
  have h6 := h0.p
  have h10 := h0.r
  rcases aR h0 x with ⟨a1, a2⟩ | ⟨r, hr, rfl, a1, a2⟩
  · exact m_none h (by unfold f_X11_close_0; rw [a1 g s5.1, if_pos rfl]) (by unfold f_X12_close_60; rw [a2 g L s1, Option.bind_some, if_pos rfl])
  have hl := xor_1024 hc0 (show r < 10 by omega)
  have r0 : ∀ w : xG, rmR w L R → w.1 93 36 = nI c → f_X12_close_60 (nI r) y w = if (if c.testBit r = true then (1 : Int32) else 0) = y then some (0, w) else (f_X12_does_60 36 (nI (c ^^^ 2 ^ r)) w).bind fun w2 => if w2.1 = 0 then some (0, w2.2) else some (1, w2.2) := by
    intro w hw h36
    unfold f_X12_close_60 f_X12_close_60_28
    rw [a2 w L hw, Option.bind_some, if_neg (by decide), xg_t (by decide), show (36 : Int32).toNatClampNeg = 36 from rfl, h36, bi_one (by omega) (by omega), bi_sh r (by omega), nb_xor, xg_t (by decide)]
    by_cases z : c.testBit r = true
    · rw [if_pos z, if_pos rfl]
    · rw [if_neg z, if_neg (by decide)]
  have c0 : f_X11_close_0 (nI r) y g = if y = (if c.testBit r = true then 0 else 1) then ((f_X11_remember_0 g).bind fun w1 => xl (f_X6_set_48 4 ((f_X6_get_48 4 w1) ^^^ (f_X11_bit (nI r))) w1) fun w2 => (f_X10_measure_38 (f_X6_get_48 4 w2) w2).bind fun w3 => some (1, w3)) else some (0, g) := by
    unfold f_X11_close_0
    rw [a1 g s5.1, if_neg (by decide), c_isOpen38 s5.1 h0 s5.2.2.1 (by omega) hr]
  by_cases z : y = (if c.testBit r = true then 0 else 1)
  · have z' : ¬ (if c.testBit r = true then (1 : Int32) else 0) = y := by
      rw [z]
      by_cases u : c.testBit r = true
      · rw [if_pos u, if_pos u]; decide
      · rw [if_neg u, if_neg u]; decide
    obtain ⟨w1, e1, f1⟩ := m_remember h
    have j1 := s5.ag (f1.agr (C := kJ_44_48) rfl)
    obtain ⟨w2, ew2⟩ : ∃ w2 : xG, w2 = (xupd w1.1 49 4 (nI (c ^^^ 2 ^ r)), w1.2) := ⟨_, rfl⟩
    have f2 : xfrm [(49, none)] w1 w2 := ew2 ▸ xfrm.up xfrm.rf rfl
    have j2 : jC_44_48 R (upd (g.1 93) 36 (nI (c ^^^ 2 ^ r))) c w2 := ew2 ▸ j1.up (sx_cl (v := nI (c ^^^ 2 ^ r)) j1.2.2.2.2 h6)
    obtain ⟨w3, e3, m1, m2, f3⟩ := c_measure38 (c := c ^^^ 2 ^ r) h0 (by omega) j2.1
    have f3' : xfrm [(38, some 2), (39, none)] w2 w3 := f3
    have j3 : jC_44_48 R (upd (g.1 93) 36 (nI (c ^^^ 2 ^ r))) (c ^^^ 2 ^ r) w3 := ⟨j2.1.ag (f3'.agr rfl), j2.2.1.ag (f3'.agr rfl), m1, m2, by
      rw [show w3.1 49 = w2.1 49 from funext fun k => (f3' 49 k rfl).1]
      exact j2.2.2.2.2⟩
    have f23 : xfrm fNew w1 w3 := (f2.wk rfl).th (f3'.wk rfl)
    obtain ⟨w4, e4, m4⟩ := m_do (k := 36) (v := nI (c ^^^ 2 ^ r)) h e1 f23 (by decide) (rowOK_cl h0 s3 hl) pk_us hl j3
    refine ⟨1, w3, w4, ?_, ?_, m4⟩
    · rw [c0, if_pos z, e1, Option.bind_some, xl_e, c_cl48 j1.2.2.2.2, s4, bi_bit r (by omega), nb_xor, show f_X6_set_48 4 (nI (c ^^^ 2 ^ r)) w1 = w2 from (c_put48 (k := 4) (by decide)).trans ew2.symm, c_cl48 j2.2.2.2.2, show upd (g.1 93) 36 (nI (c ^^^ 2 ^ r)) 36 = nI (c ^^^ 2 ^ r) from pk_us, e3, Option.bind_some]
    · have fa : xfrm [(0, some 13), (0, some 14), (53, none), (38, some 2), (39, none), (49, none), (16, none), (45, none)] g w3 := (f1.wk rfl).th (f23.wk rfl)
      rw [r0 w3 (s1.ag (fa.agr rfl)) (((fa 93 36 rfl).1).trans s4), if_neg z', show (36 : Int32) = nI 36 from rfl, e4, Option.bind_some]
      rfl
  · have z' : (if c.testBit r = true then (1 : Int32) else 0) = y := by
      by_cases u : c.testBit r = true
      · rw [if_pos u] at z ⊢
        rcases hy with q | q
        · exact absurd q z
        · exact q.symm
      · rw [if_neg u] at z ⊢
        rcases hy with q | q
        · exact q.symm
        · exact absurd q z
    exact m_none h (by rw [c0, if_neg z]) (by rw [r0 g s1 s4, if_pos z'])
theorem ad_bits : ∀ a, a < 64 → ∀ p, p < 6 → a.testBit p = true → nI a &&& (nI (2 ^ p) ^^^ (-1)) = nI (a ^^^ 2 ^ p) := by decide +kernel
theorem m_admit (x : Int32) : mD W R L (f_X11_admit_0 x) (f_X12_admit_60 x) := by
  intro g h
  obtain ⟨h0, ⟨s1, s2, s3, c, hc0, s4, s5⟩, -⟩ := id h
  have h6 := h0.p
  rcases aP h0 x with ⟨a1, a2⟩ | ⟨p, hp, rfl, a1, a2⟩
  · exact m_none h (by unfold f_X11_admit_0; rw [a1 g s5.1, if_pos rfl]) (by unfold f_X12_admit_60; rw [a2 g L s1, Option.bind_some, if_pos rfl])
  have r0 : ∀ w : xG, rmR w L R → f_X12_admit_60 (nI p) w = if w.1 93 (30 + p) = 1 then (f_X12_does_60 (nI (30 + p)) 0 w).bind fun w2 => if w2.1 = 0 then some (0, w2.2) else some (1, w2.2) else some (0, w) := by
    intro w hw
    unfold f_X12_admit_60
    rw [a2 w L hw, Option.bind_some, if_neg (by decide), a30, xg_in (show 30 + p < 40 by omega) (by decide), nI_clamp (by omega)]
  have c0 : f_X11_admit_0 (nI p) g = if g.1 93 (30 + p) = 1 then ((f_X11_remember_0 g).bind fun w1 => xl (f_X6_set_48 3 ((f_X6_get_48 3 w1) &&& ((f_X11_bit (nI p)) ^^^ (-1))) w1) fun w2 => some (1, w2)) else some (0, g) := by
    unfold f_X11_admit_0
    rw [a1 g s5.1, if_neg (by decide), c_isBarred48 s5.2.2.2.2 h6 hp]
    by_cases z : g.1 93 (30 + p) = 1
    · rw [if_pos z, if_pos z, if_neg (by decide)]
    · rw [if_neg z, if_neg z, if_pos rfl]
  by_cases z : g.1 93 (30 + p) = 1
  · obtain ⟨w1, e1, f1⟩ := m_remember h
    have j1 := s5.ag (f1.agr (C := kJ_44_48) rfl)
    have hl := bq_lt (fun q => decide (g.1 93 (30 + q) = 1)) (rP R)
    have h64 : 2 ^ rP R ≤ 2 ^ 6 := Nat.pow_le_pow_right (by decide) h6
    have ht : (bq (fun q => decide (g.1 93 (30 + q) = 1)) (rP R)).testBit p = true := by
      rw [bq_bit]
      simp [hp, z]
    have hv : nI (bq (fun q => decide (g.1 93 (30 + q) = 1)) (rP R)) &&& (nI (2 ^ p) ^^^ (-1)) = nI (bq (fun q => decide (upd (g.1 93) (30 + p) 0 (30 + q) = 1)) (rP R)) := by
      rw [ad_bits _ (by omega) p (by omega) ht]
      congr 1
      refine bq_xor hp ?_ (fun q hq => ?_)
      · rw [show upd (g.1 93) (30 + p) 0 (30 + p) = 0 from pk_us, z]
        rfl
      · show decide (upd (g.1 93) (30 + p) 0 (30 + q) = 1) = decide (g.1 93 (30 + q) = 1)
        rw [pk_un (by omega)]
    have j2 := j1.up (sx_bar (b := 0) j1.2.2.2.2 h6 hp hv.symm.symm)
    have f2 : xfrm [(49, none)] w1 (xupd w1.1 49 3 (nI (bq (fun q => decide (g.1 93 (30 + q) = 1)) (rP R)) &&& (nI (2 ^ p) ^^^ (-1))), w1.2) := xfrm.up xfrm.rf rfl
    obtain ⟨w3, e3, m3⟩ := m_do (k := 30 + p) (v := 0) h e1 (f2.wk rfl) (by omega) (rowOK_ba h0 s3 hp (.inl rfl)) ((pk_un (by omega)).trans s4) hc0 j2
    refine ⟨1, (xupd w1.1 49 3 (nI (bq (fun q => decide (g.1 93 (30 + q) = 1)) (rP R)) &&& (nI (2 ^ p) ^^^ (-1))), w1.2), w3, ?_, ?_, m3⟩
    · rw [c0, if_pos z, e1, Option.bind_some, xl_e, c_ba48 j1.2.2.2.2, bi_bit p (by omega), show f_X6_set_48 3 _ w1 = _ from c_put48 (k := 3) (by decide)]
    · rw [r0 _ (s1.ag (((f1.wk (B := fNew ++ [(0, some 13), (0, some 14), (53, none)]) rfl).th (f2.wk rfl)).agr rfl)), (f2 93 _ rfl).1, (f1 93 _ rfl).1, if_pos z, e3, Option.bind_some]
      rfl
  · exact m_none h (by rw [c0, if_neg z]) (by rw [r0 g s1, if_neg z])
theorem c_goDays2 {ρ : Nat → Int32} {c : Nat} (hR : rOK R) {g : xG} (h : jC_44_48 R ρ c g) (hc2 : c < 2 ^ 31) (ho : rowOK R ρ) {n : Nat} (hn : n ≤ 60) : ∃ w, f_X11_days_0_19 xN (nI n) 0 g = some (sGo R c (rS R) true ρ n 37, w) ∧ jC_44_48 R (sGo R c (rS R) true ρ n) c w ∧ xfrm [(16, none), (45, none), (49, none)] g w := by
  refine lp (fun m i (s : xG) => f_X11_days_0_19 m (nI n) i s) (fun k s => jC_44_48 R (sGo R c (rS R) true ρ k) c s ∧ xfrm [(16, none), (45, none), (49, none)] g s) n (fun o => ∃ w, o = some (sGo R c (rS R) true ρ n 37, w) ∧ jC_44_48 R (sGo R c (rS R) true ρ n) c w ∧ xfrm [(16, none), (45, none), (49, none)] g w) ?_ ?_ xN 0 g (Nat.zero_le _) (by show n < 4000 + 0; omega) ⟨h, xfrm.rf⟩
  · rintro m k w hk ⟨j, f⟩
    refine .inl ?_
    simp only [f_X11_days_0_19]
    obtain ⟨w2, q1, q2⟩ := c_noon_48 hR j hc2 (sGo_ok hR ho k) (rS R) true (dd := 1) rfl
    rw [if_neg (nI_ge hk (by omega)), show f_X4_seed_3 w = rS R from j.1.1.2.2.2.2, q1, Option.bind_some, nI_1]
    exact ⟨w2, rfl, q2, f.th (fr_X1_goThroughNoon_44_48 w2 q1)⟩
  · rintro m w ⟨j, f⟩
    simp only [f_X11_days_0_19]
    rw [if_pos (nI_le (Nat.le_refl _) (by omega)), c_day48 j.2.2.2.2]
    exact ⟨w, rfl, j, f⟩
theorem m_days (x : Int32) : mD W R L (f_X11_days_0 x) (f_X12_days_60 x) := by
  intro g h
  obtain ⟨h0, ⟨s1, s2, s3, c, hc0, s4, s5⟩, -⟩ := id h
  rcases aN x with ⟨b1, b2⟩ | ⟨n, hn, rfl, b1, b2⟩
  · exact m_none h (by unfold f_X11_days_0; rw [b1, if_pos rfl]) (by unfold f_X12_days_60; rw [b2, if_pos rfl])
  by_cases z : n = 0
  · subst z
    refine m_none h (v := g.1 93 37) ?_ ?_
    · unfold f_X11_days_0
      rw [b1, if_neg (by decide), if_pos (show nI 0 ≤ 0 by decide)]
      refine lpv (fun m i (_ : Unit) => f_X11_days_0_19 m (nI 0) i g) (fun _ => ()) 0 _ (fun n i hi => absurd hi (Nat.not_lt_zero i)) (fun n => ?_) xN 0 (Nat.le_refl _) (by decide)
      simp only [f_X11_days_0_19]
      rw [if_pos (show nI 0 ≤ nI 0 by decide), c_day48 s5.2.2.2.2]
    · unfold f_X12_days_60
      rw [b2, if_neg (by decide), if_pos (show nI 0 = 0 from rfl), xg_t (by decide)]
      rfl
  · obtain ⟨w1, e1, f1⟩ := m_remember h
    have j1 := s5.ag (f1.agr (C := kJ_44_48) rfl)
    obtain ⟨w2, e2, j2, f2⟩ := c_goDays2 h0 j1 (by omega) s3 hn
    have f12 : xfrm [(0, some 13), (0, some 14), (53, none), (38, some 2), (39, none), (49, none), (16, none), (45, none)] g w2 := (f1.wk rfl).th (f2.wk rfl)
    have hm : mR R L (g.1 93) w2 := ⟨s1.ag (f12.agr rfl), s2.ag (f12.agr rfl), fun q _ => (f12 93 q rfl).1⟩
    obtain ⟨w3, q1, q2, i52, i53, -⟩ := r_copies h0 hm s4 (by omega)
    obtain ⟨w4, p1, p2, p3⟩ := r_goes q2 h0 s3 s4 (by omega) i52 (d := true) i53 hn
    have f3 : xfrm fRef w2 w4 := ((fr_X12_copies_60 w3 q1).wk rfl).th (p3.wk rfl)
    obtain ⟨w5, t1, t2, t3⟩ := m_rec h e1 (f2.wk rfl) f3 p2.2.2.1 (sGo_ok h0 s3 n) ((sGo_36 h0 n).trans s4) hc0 j2
    refine ⟨sGo R c (rS R) true (g.1 93) n 37, w2, w5, ?_, ?_, t2⟩
    · unfold f_X11_days_0
      rw [b1, if_neg (by decide), if_neg (nI_nle (by omega) (by omega)), e1, Option.bind_some, e2]
    · unfold f_X12_days_60
      rw [b2, if_neg (by decide), if_neg (nI_ne0 (by omega) (by omega)), q1, Option.bind_some, p1, Option.bind_some, t1, Option.bind_some, xg_t (by decide), show (37 : Int32).toNatClampNeg = 37 from rfl, t3 37 (by decide)]
end
