/-! the longest way: sets of towns and where one stands, in their order -/
def lg0 (a : Nat) : Nat → Int32 := upd (fun _ => -1) (7 * 2 ^ a + a) 0
def lgT (R : pR) (k r : Nat) : Nat := 7 * (k / 7 ||| 2 ^ oth R r (k % 7)) + oth R r (k % 7)
def rlx (R : pR) (c k r : Nat) (P : Nat → Int32) : Nat → Int32 := if c.testBit r = false ∧ (rA R r = k % 7 ∨ rB R r = k % 7) ∧ (k / 7).testBit (oth R r (k % 7)) = false then (if P k + nI (rM R r) ≤ P (lgT R k r) then P else upd P (lgT R k r) (P k + nI (rM R r))) else P
def rls (R : pR) (c k : Nat) (P : Nat → Int32) : Nat → Nat → Int32
  | 0 => P
  | r + 1 => rlx R c k r (rls R c k P r)
theorem rls_s (R : pR) (c k : Nat) (P : Nat → Int32) (r : Nat) : rls R c k P (r + 1) = rlx R c k r (rls R c k P r) := rfl
def lgA (R : pR) (c a b : Nat) : Nat → Nat → Int32
  | 0 => lg0 a
  | k + 1 => if lgA R c a b k k < 0 ∨ k % 7 = b then lgA R c a b k else rls R c k (lgA R c a b k) (rR R)
theorem lgA_s (R : pR) (c a b k : Nat) : lgA R c a b (k + 1) = if lgA R c a b k k < 0 ∨ k % 7 = b then lgA R c a b k else rls R c k (lgA R c a b k) (rR R) := rfl
def lgB (R : pR) (c a b : Nat) : Nat → Int32
  | 0 => -2
  | k + 1 => if ¬ lgA R c a b k k < 0 ∧ k % 7 = b ∧ ¬ lgA R c a b k k ≤ lgB R c a b k then lgA R c a b k k else lgB R c a b k
theorem lgB_s (R : pR) (c a b k : Nat) : lgB R c a b (k + 1) = if ¬ lgA R c a b k k < 0 ∧ k % 7 = b ∧ ¬ lgA R c a b k k ≤ lgB R c a b k then lgA R c a b k k else lgB R c a b k := rfl
theorem or_more {s o : Nat} (h : s.testBit o = false) : s < s ||| 2 ^ o := by
  refine Nat.lt_of_le_of_ne Nat.left_le_or (fun e => ?_)
  rw [e, Nat.testBit_or, Nat.testBit_two_pow_self, Bool.or_true] at h
  cases h
theorem or_128 {s o : Nat} (hs : s < 128) (ho : o < 7) : s ||| 2 ^ o < 128 := Nat.or_lt_two_pow (n := 7) hs (Nat.pow_lt_pow_right (by decide) ho)
section
variable {R : pR} {L c : Nat} {ρ : Nat → Int32}
theorem oth_7 (hR : rOK R) {r t : Nat} (hr : r < rR R) : oth R r t < 7 := by
  have := oth_lt (t := t) hR hr
  have := hR.t
  omega
theorem lgT_div (hR : rOK R) {k r : Nat} (hr : r < rR R) : lgT R k r / 7 = (k / 7 ||| 2 ^ oth R r (k % 7)) ∧ lgT R k r % 7 = oth R r (k % 7) := by
  have := oth_7 (t := k % 7) hR hr
  unfold lgT
  omega
theorem lgT_896 (hR : rOK R) {k r : Nat} (hk : k < 896) (hr : r < rR R) : lgT R k r < 896 := by
  have a := oth_7 (t := k % 7) hR hr
  have b := or_128 (s := k / 7) (by omega) a
  unfold lgT
  omega
theorem rlx_ne (hR : rOK R) {k r j : Nat} {P : Nat → Int32} (hr : r < rR R) (hj : j / 7 ≤ k / 7) : rlx R c k r P j = P j := by
  unfold rlx
  split
  · next h =>
    split
    · rfl
    · refine pk_un (fun e => ?_)
      have a := (lgT_div hR (k := k) hr).1
      have b := or_more h.2.2
      rw [← e] at a
      omega
  · rfl
theorem rls_ne (hR : rOK R) {k j : Nat} {P : Nat → Int32} (hj : j / 7 ≤ k / 7) : ∀ n, n ≤ rR R → rls R c k P n j = P j
  | 0, _ => rfl
  | n + 1, h => by rw [rls_s, rlx_ne hR (by omega) hj, rls_ne hR hj n (by omega)]
/-- what stands there: -1, or a way's miles, of a set that holds its end; one with b in it ends there -/
def vOK (R : pR) (b : Nat) (P : Nat → Int32) : Prop := ∀ j, j < 896 → P j = -1 ∨ ∃ v, v ≤ 99 * (j / 7) ∧ P j = nI v ∧ j / 7 < 2 ^ rT R ∧ j % 7 < rT R ∧ (j / 7).testBit (j % 7) = true ∧ ((j / 7).testBit b = true → j % 7 = b)
theorem vOK_0 (hR : rOK R) {a b : Nat} (ha : a < rT R) : vOK R b (lg0 a) := by
  intro j hj
  have h7 := hR.t
  by_cases e : j = 7 * 2 ^ a + a
  · refine .inr ⟨0, Nat.zero_le _, by rw [e]; exact pk_us, ?_⟩
    have e1 : j / 7 = 2 ^ a := by omega
    have e2 : j % 7 = a := by omega
    rw [e1, e2]
    refine ⟨Nat.pow_lt_pow_right (by decide) ha, ha, Nat.testBit_two_pow_self, fun z => ?_⟩
    rw [Nat.testBit_two_pow] at z
    exact of_decide_eq_true z
  · exact .inl (pk_un e)
theorem vOK_rlx (hR : rOK R) {b k r : Nat} {P : Nat → Int32} (h : vOK R b P) (hk : k < 896) (hr : r < rR R) (hv : ¬ P k < 0) (hb : k % 7 ≠ b) : vOK R b (rlx R c k r P) := by
  unfold rlx
  split
  · next z =>
    split
    · exact h
    · intro j hj
      by_cases e : j = lgT R k r
      · have d := lgT_div hR (k := k) hr
        have hoth := oth_lt (t := k % 7) hR hr
        have hm := hR.m hr
        have more := or_more z.2.2
        rcases h k hk with y | ⟨u, u1, u2, u3, u4, u5, u6⟩
        · exact absurd (show P k < 0 by rw [y]; decide) hv
        · refine .inr ⟨u + rM R r, ?_, ?_, ?_⟩
          · rw [e, d.1]
            omega
          · rw [e, pk_us, u2, nI_add]
          · rw [e, d.1, d.2]
            refine ⟨Nat.or_lt_two_pow u3 (Nat.pow_lt_pow_right (by decide) hoth), hoth, ?_, fun y => ?_⟩
            · rw [Nat.testBit_or, Nat.testBit_two_pow_self, Bool.or_true]
            · rw [Nat.testBit_or, Bool.or_eq_true] at y
              rcases y with y | y
              · exact absurd (u6 y) hb
              · rw [Nat.testBit_two_pow] at y
                exact of_decide_eq_true y
      · rw [pk_un e]
        exact h j hj
  · exact h
theorem vOK_rls (hR : rOK R) {b k : Nat} {P : Nat → Int32} (h : vOK R b P) (hk : k < 896) (hv : ¬ P k < 0) (hb : k % 7 ≠ b) : ∀ n, n ≤ rR R → vOK R b (rls R c k P n)
  | 0, _ => h
  | n + 1, hn => vOK_rlx hR (vOK_rls hR h hk hv hb n (by omega)) hk (by omega) (by rw [rls_ne hR (Nat.le_refl _) n (by omega)]; exact hv) hb
theorem lgA_ok (hR : rOK R) {a b : Nat} (ha : a < rT R) : ∀ k, k ≤ 896 → vOK R b (lgA R c a b k)
  | 0, _ => vOK_0 hR ha
  | k + 1, hk => by
    rw [lgA_s]
    split
    · exact lgA_ok hR ha k (by omega)
    · next z => exact vOK_rls hR (lgA_ok hR ha k (by omega)) (by omega) (fun y => z (.inl y)) (fun y => z (.inr y)) _ (Nat.le_refl _)
theorem lgA_ne (hR : rOK R) {a b k j : Nat} (hj : j / 7 ≤ k / 7) : lgA R c a b (k + 1) j = lgA R c a b k j := by
  rw [lgA_s]
  split
  · rfl
  · exact rls_ne hR hj _ (Nat.le_refl _)
theorem lgB_2 (hR : rOK R) {a b : Nat} (ha : a < rT R) : ∀ k, k ≤ 896 → lgB R c a b k = -2 ∨ ∃ v, v ≤ 99 * 128 ∧ lgB R c a b k = nI v
  | 0, _ => .inl rfl
  | k + 1, hk => by
    rw [lgB_s]
    split
    · next z =>
      rcases lgA_ok (c := c) (b := b) hR ha k (by omega) k (by omega) with y | ⟨v, v1, v2, v3, -⟩
      · exact absurd (show lgA R c a b k k < 0 by rw [y]; decide) z.1
      · exact .inr ⟨v, by omega, v2⟩
    · exact lgB_2 hR ha k (by omega)
/-! the reference -/
theorem r_relax (hR : rOK R) (hc : ρ 36 = nI c) (hc2 : c < 1024) {g : xG} (h : jR L R ρ c g) {k : Nat} (hk : k < 896) {P : Nat → Int32} (hP : ∀ j, j < 896 → g.1 97 j = P j) (kk : Int32 → Int32 → Int32 → xG → Option (Int32 × xG)) (l2 l3 : Int32) : ∃ w, f_X12_longest_60_129 kk xN l2 l3 (nI k) (nI (k % 7)) 0 g = kk l2 l3 (nI (k + 1)) w ∧ (∀ j, j < 896 → w.1 97 j = rls R c k P (rR R) j) ∧ xfrm [(97, none)] g w := by
  have h10 := hR.r
  have h7 := hR.t
  refine lp (fun n i (s : xG) => f_X12_longest_60_129 kk n l2 l3 (nI k) (nI (k % 7)) i s) (fun r s => (∀ j, j < 896 → s.1 97 j = rls R c k P r j) ∧ xfrm [(97, none)] g s) (rR R) (fun o => ∃ w, o = kk l2 l3 (nI (k + 1)) w ∧ (∀ j, j < 896 → w.1 97 j = rls R c k P (rR R) j) ∧ xfrm [(97, none)] g w) ?_ ?_ xN 0 g (Nat.zero_le _) (by show rR R < 4000 + 0; omega) ⟨hP, xfrm.rf⟩
  · rintro n r w hr ⟨e97, f⟩
    refine .inl ?_
    have j := h.ag (f.agr (C := kJr) rfl)
    have hoth := oth_7 (t := k % 7) hR hr
    have hoth2 := or_128 (s := k / 7) (o := oth R r (k % 7)) (by omega) hoth
    obtain ⟨⟨⟨hL, e18, eT, eR, eP, eC, eS⟩, hrr, -⟩, -, -, -⟩ := id j
    simp only [f_X12_longest_60_129]
    rw [e18, xg_in hL (by decide), nI_clamp (show L < 2 ^ 31 by omega), eR, if_neg (nI_ge hr (by omega)), r_isOpen j hc (by omega) (by omega), Option.bind_some, r_isEnd j.1 hR hr (by omega), nI_1, rls_s]
    unfold rlx
    by_cases e : c.testBit r = true
    · rw [if_pos e, if_pos rfl, if_neg (fun y => by rw [y.1] at e; cases e)]
      exact ⟨w, rfl, e97, f⟩
    · rw [if_neg e, if_neg (show ¬ (1 : Int32) = 0 by decide), Option.bind_some]
      by_cases z : rA R r = k % 7 ∨ rB R r = k % 7
      · rw [if_pos z, if_neg (show ¬ (1 : Int32) = 0 by decide), xg_t (by decide), r_otherEnd j.1 hR hr z, Option.bind_some, Option.bind_some, Option.bind_some, show (nI k / 7 : Int32) = nI (k / 7) from pk_div (d := 7) (by omega) (by decide) (by decide), bi_one (by omega) (by omega)]
        by_cases y : (k / 7).testBit (oth R r (k % 7)) = true
        · rw [if_pos y, if_pos rfl, if_neg (fun x => by rw [x.2.2] at y; cases y)]
          exact ⟨w, rfl, e97, f⟩
        · have hT := lgT_896 (r := r) hR hk hr
          rw [if_neg y, if_neg (show ¬ (0 : Int32) = 1 by decide), xg_t (by decide), xg_in (show k < 896 by omega) (by decide), i10, xg_in (show 10 * L + r < 20 by omega) (by decide), bi_sh _ (by omega), nb_or, i7', show 7 * (k / 7 ||| 2 ^ oth R r (k % 7)) + oth R r (k % 7) = lgT R k r from rfl, xg_in hT (by decide), nI_clamp (show k < 2 ^ 31 by omega), nI_clamp (show 10 * L + r < 2 ^ 31 by omega), nI_clamp (show lgT R k r < 2 ^ 31 by omega), e97 k hk, (hrr r hr).2.2, e97 _ hT, if_pos (show c.testBit r = false ∧ (rA R r = k % 7 ∨ rB R r = k % 7) ∧ (k / 7).testBit (oth R r (k % 7)) = false from ⟨by simpa using e, z, by simpa using y⟩)]
          by_cases x : rls R c k P r k + nI (rM R r) ≤ rls R c k P r (lgT R k r)
          · rw [if_pos x, if_pos x]
            exact ⟨w, rfl, e97, f⟩
          · rw [if_neg x, if_neg x, xg_in' (show k < 896 by omega) (by decide), xg_in' (show 10 * L + r < 20 by omega) (by decide), xg_in' hT (by decide)]
            refine ⟨_, rfl, fun q hq => ?_, xfrm.up f rfl⟩
            dsimp only
            rw [xu_at]
            by_cases v : q = lgT R k r
            · rw [if_pos ⟨rfl, v⟩, v, pk_us]
            · rw [if_neg (fun u => v u.2), pk_un v, e97 q hq]
      · rw [if_neg z, if_pos rfl, if_neg (fun y => z y.2.1)]
        exact ⟨w, rfl, e97, f⟩
  · rintro n w ⟨e97, f⟩
    have j := h.ag (f.agr (C := kJr) rfl)
    obtain ⟨⟨⟨hL, e18, eT, eR, eP, eC, eS⟩, hrr, -⟩, -, -, -⟩ := id j
    simp only [f_X12_longest_60_129]
    rw [e18, xg_in hL (by decide), nI_clamp (show L < 2 ^ 31 by omega), eR, if_pos (nI_le (Nat.le_refl _) (by omega)), nI_1]
    exact ⟨w, rfl, e97, f⟩
theorem r_long64 (hR : rOK R) (hc : ρ 36 = nI c) (hc2 : c < 1024) {g : xG} (h : jR L R ρ c g) {a b : Nat} (ha : a < rT R) (hb : b < 7) (h97 : ∀ j, j < 896 → g.1 97 j = lg0 a j) : ∃ w, f_X12_longest_60_64 xN (nI b) (-2) 0 g = some (lgB R c a b 896, w) := by
  have h7 := hR.t
  refine lp (fun n i (s : Int32 × xG) => f_X12_longest_60_64 n (nI b) s.1 i s.2) (fun k s => s.1 = lgB R c a b k ∧ (∀ j, j < 896 → s.2.1 97 j = lgA R c a b k j) ∧ xfrm [(97, none)] g s.2) 896 (fun o => ∃ w, o = some (lgB R c a b 896, w)) ?_ ?_ xN 0 ((-2 : Int32), g) (Nat.zero_le _) (by decide) ⟨rfl, h97, xfrm.rf⟩
  · rintro n k ⟨l3, w⟩ hk ⟨e1, e97, f⟩
    dsimp only at e1 e97 f ⊢
    subst e1
    refine .inl ?_
    have j := h.ag (f.agr (C := kJr) rfl)
    have erem : (nI k - nI k / 7 * 7 : Int32) = nI (k % 7) := pk_rem (d := 7) (by omega) (by decide) (by decide)
    simp only [f_X12_longest_60_64]
    rw [if_neg (show ¬ (896 : Int32) ≤ nI k from nI_ge hk (by decide)), xg_in hk (by decide), nI_clamp (show k < 2 ^ 31 by omega), erem, ite_eqn (show k % 7 < 2 ^ 31 by omega) (by omega), ite_eqn (show k % 7 < 2 ^ 31 by omega) (by omega), ite_eqn (show k % 7 < 2 ^ 31 by omega) (by omega), e97 k hk, lgB_s]
    obtain ⟨w2, q1, q2, q3⟩ : ∃ w2, f_X12_longest_60_129 (f_X12_longest_60_64 n) xN (nI b) (lgB R c a b k) (nI k) (nI (k % 7)) 0 w = f_X12_longest_60_64 n (nI b) (lgB R c a b k) (nI (k + 1)) w2 ∧ (∀ j, j < 896 → w2.1 97 j = rls R c k (lgA R c a b k) (rR R) j) ∧ xfrm [(97, none)] w w2 := r_relax hR hc hc2 j hk e97 _ _ _
    by_cases z : lgA R c a b k k < 0
    · rw [if_neg (show ¬ 0 ≤ lgA R c a b k k from fun y => by
        have p1 := Int32.lt_iff_toInt_lt.mp z
        have p2 := Int32.le_iff_toInt_le.mp y
        omega), nI_1, if_neg (fun y => y.1 z)]
      refine ⟨(_, w), rfl, rfl, fun q hq => ?_, f⟩
      rw [lgA_s, if_pos (.inl z), e97 q hq]
    · rw [if_pos (show 0 ≤ lgA R c a b k k from Int32.le_iff_toInt_le.mpr (by
        have p1 : ¬ (lgA R c a b k k).toInt < (0 : Int32).toInt := fun y => z (Int32.lt_iff_toInt_lt.mpr y)
        omega)), xg_t (by decide)]
      by_cases y : k % 7 = b
      · rw [if_pos y, if_pos y, if_pos y, xg_in' hk (by decide), xg_in' hk (by decide), nI_1]
        by_cases x : lgA R c a b k k ≤ lgB R c a b k
        · rw [if_pos x, if_neg (fun u => u.2.2 x)]
          refine ⟨(_, w), rfl, rfl, fun q hq => ?_, f⟩
          rw [lgA_s, if_pos (.inr y), e97 q hq]
        · rw [if_neg x, if_pos ⟨z, y, x⟩]
          refine ⟨(_, w), rfl, rfl, fun q hq => ?_, f⟩
          rw [lgA_s, if_pos (.inr y), e97 q hq]
      · rw [if_neg y, if_neg y, q1, if_neg (fun u => y u.2.1)]
        refine ⟨(_, w2), rfl, rfl, fun q hq => ?_, f.tr q3 rfl⟩
        rw [lgA_s, if_neg (fun u => u.elim z y), q2 q hq]
  · rintro n ⟨l3, w⟩ ⟨e1, -, -⟩
    dsimp only at e1 ⊢
    simp only [f_X12_longest_60_64]
    rw [if_pos (show (896 : Int32) ≤ nI 896 from nI_le (Nat.le_refl _) (by decide)), e1]
    exact ⟨w, rfl⟩
theorem r_long (hR : rOK R) (hc : ρ 36 = nI c) (hc2 : c < 1024) {g : xG} (h : jR L R ρ c g) {a b : Nat} (ha : a < rT R) (hb : b < 7) : ∃ w, f_X12_longest_60_24 xN (nI a) (nI b) 0 g = some (lgB R c a b 896, w) := by
  have h7 := hR.t
  have hp := T_pow (show a ≤ 7 by omega)
  have hp7 : 2 ^ a ≤ 64 := Nat.pow_le_pow_right (n := 2) (j := 6) (by decide) (by omega)
  refine lp (fun n i (s : xG) => f_X12_longest_60_24 n (nI a) (nI b) i s) (fun k s => (∀ j, j < k → s.1 97 j = -1) ∧ xfrm [(97, none)] g s) 896 (fun o => ∃ w, o = some (lgB R c a b 896, w)) ?_ ?_ xN 0 g (Nat.zero_le _) (by decide) ⟨fun j hj => by omega, xfrm.rf⟩
  · rintro n k w hk ⟨e, f⟩
    refine .inl ?_
    simp only [f_X12_longest_60_24]
    rw [if_neg (show ¬ (896 : Int32) ≤ nI k from nI_ge hk (by decide)), xg_in hk (by decide), nI_clamp (by omega), nI_1]
    refine ⟨_, rfl, fun q hq => ?_, xfrm.up f rfl⟩
    dsimp only
    rw [xu_at]
    by_cases v : q = k
    · rw [if_pos ⟨rfl, v⟩]
    · rw [if_neg (fun u => v u.2), e q (by omega)]
  · rintro n w ⟨e, f⟩
    simp only [f_X12_longest_60_24]
    rw [if_pos (show (896 : Int32) ≤ nI 896 from nI_le (Nat.le_refl _) (by decide)), bi_sh a (by omega), i7', xg_in (show 7 * 2 ^ a + a < 896 by omega) (by decide), nI_clamp (by omega)]
    have f2 : xfrm [(97, none)] w (xupd w.1 97 (7 * 2 ^ a + a) 0, w.2) := xfrm.up xfrm.rf rfl
    refine r_long64 hR hc hc2 ((h.ag (f.agr rfl)).ag (f2.agr rfl)) ha hb (fun q hq => ?_)
    dsimp only
    rw [xu_at]
    unfold lg0 upd
    by_cases v : q = 7 * 2 ^ a + a
    · rw [if_pos ⟨rfl, v⟩, if_pos v]
    · rw [if_neg (fun u => v u.2), if_neg v, e q hq]
/-! the class -/
def lgC (b : Nat) (P C : Nat → Int32) : Prop := ∀ s t, s < 128 → t < 7 → (t = b ∨ s.testBit b = false) → C (7 * s + t) = if P (7 * s + t) < 0 then -2 else P (7 * s + t)
theorem c_goOn (hR : rOK R) (hc2 : c < 1024) {g : xG} (h : jC_44_48 R ρ c g) {s t b : Nat} (hs : s < 128) (ht : t < 7) {P : Nat → Int32} (hv : vOK R b P) (hC : lgC b P (g.1 43)) (hcase : (s.testBit b = true) ∨ (s.testBit b = false ∧ t ≠ b ∧ ¬ P (7 * s + t) < 0)) : ∃ w, f_X7_goOnFrom_42 (nI s) (nI t) g = some w ∧ lgC b (if s.testBit b = true then P else rls R c (7 * s + t) P (rR R)) (w.1 43) ∧ xfrm [(43, none)] g w := by
  have h10 := hR.r
  have h7 := hR.t
  have hk : 7 * s + t < 896 := by omega
  have e7 : (7 * s + t) / 7 = s := by omega
  have m7 : (7 * s + t) % 7 = t := by omega
  unfold f_X7_goOnFrom_42
  rw [i7, xat_in hk (by decide)]
  have hso : s.testBit b = false → g.1 43 (7 * s + t) = P (7 * s + t) := fun z => by
    rw [hC s t hs ht (.inr z)]
    rcases hcase with y | ⟨-, -, y⟩
    · rw [z] at y; cases y
    · rw [if_neg y]
  generalize g.1 43 (7 * s + t) = so at hso
  refine lp (fun n i (w : xG) => f_X7_goOnFrom_42_17 n (nI s) (nI t) so i w) (fun r w => lgC b (if s.testBit b = true then P else rls R c (7 * s + t) P r) (w.1 43) ∧ xfrm [(43, none)] g w) (rR R) (fun o => ∃ w, o = some w ∧ lgC b (if s.testBit b = true then P else rls R c (7 * s + t) P (rR R)) (w.1 43) ∧ xfrm [(43, none)] g w) ?_ ?_ xN 0 g (Nat.zero_le _) (by show rR R < 4000 + 0; omega) ⟨by
      split
      · exact hC
      · exact hC, xfrm.rf⟩
  · rintro n r w hr ⟨hw, f⟩
    refine .inl ?_
    have j := h.ag (f.agr (C := kJ_44_48) rfl)
    have hoth := oth_7 (t := t) hR hr
    have hoth2 := or_128 (s := s) (o := oth R r t) hs hoth
    simp only [f_X7_goOnFrom_42_17]
    rw [show f_X4_roads_3 w = nI (rR R) from j.1.1.2.1, if_neg (nI_ge hr (by omega)), c_isOpen38 j.1 hR j.2.2.1 (by omega) hr, c_across j.1 hR hr ht, c_mil j.1 hR hr, nI_1, rls_s]
    have same : ¬ (c.testBit r = false ∧ (rA R r = t ∨ rB R r = t) ∧ s.testBit (oth R r t) = false) → rlx R c (7 * s + t) r (rls R c (7 * s + t) P r) = rls R c (7 * s + t) P r := fun z => by
      unfold rlx
      rw [e7, m7, if_neg z]
    by_cases e : c.testBit r = true
    · rw [if_pos e, if_pos rfl, same (fun y => by rw [y.1] at e; cases e)]
      exact ⟨w, rfl, hw, f⟩
    · rw [if_neg e, if_neg (show ¬ (1 : Int32) = 0 by decide)]
      by_cases z : rA R r = t ∨ rB R r = t
      · rw [if_pos z, if_neg (nI_pos (by omega)), bi_bit _ (by omega)]
        by_cases y : s.testBit (oth R r t) = false
        · have hT : 7 * (s ||| 2 ^ oth R r t) + oth R r t < 896 := by omega
          rw [if_pos ((bi_in (by omega) (by omega)).mpr y), xl_e, nb_or, i7, xat_in hT (by decide), xput_in hT (by decide)]
          refine ⟨_, rfl, ?_, xfrm.up f rfl⟩
          rw [show (xupd w.1 43 (7 * (s ||| 2 ^ oth R r t) + oth R r t) (xmax (w.1 43 (7 * (s ||| 2 ^ oth R r t) + oth R r t)) (so + nI (rM R r))), w.2).1 43 = upd (w.1 43) (7 * (s ||| 2 ^ oth R r t) + oth R r t) (xmax (w.1 43 (7 * (s ||| 2 ^ oth R r t) + oth R r t)) (so + nI (rM R r))) from @xupd_same w.1 43 _ _]
          by_cases x : s.testBit b = true
          · rw [if_pos x] at hw ⊢
            intro s' t' hs' ht' hf
            by_cases v : 7 * s' + t' = 7 * (s ||| 2 ^ oth R r t) + oth R r t
            · exfalso
              have v1 : s' = s ||| 2 ^ oth R r t := by omega
              have v2 : t' = oth R r t := by omega
              rcases hf with u | u
              · rw [← v2, u, x] at y
                cases y
              · rw [v1, Nat.testBit_or, x, Bool.true_or] at u
                cases u
            · rw [pk_un v]
              exact hw s' t' hs' ht' hf
          · have x' : s.testBit b = false := by simpa using x
            rw [if_neg x] at hw ⊢
            rcases hcase with u | ⟨-, tb, pk⟩
            · exact absurd u x
            have vv := vOK_rls (c := c) hR hv hk pk (by rw [m7]; exact tb) r (by omega)
            have ep : rls R c (7 * s + t) P r (7 * s + t) = P (7 * s + t) := rls_ne hR (Nat.le_refl _) r (by omega)
            have hm := hR.m hr
            rcases vv (7 * s + t) hk with u | ⟨v0, v1, v2, -⟩
            · rw [ep] at u
              exact absurd (show P (7 * s + t) < 0 by rw [u]; decide) pk
            rw [e7] at v1
            have eso : so = nI v0 := by rw [hso x', ← ep, v2]
            have free : oth R r t = b ∨ (s ||| 2 ^ oth R r t).testBit b = false := by
              by_cases u : oth R r t = b
              · exact .inl u
              · refine .inr ?_
                rw [Nat.testBit_or, x', Nat.testBit_two_pow, decide_eq_false u]
                rfl
            have hCt := hw _ _ hoth2 hoth free
            have hrl : rlx R c (7 * s + t) r (rls R c (7 * s + t) P r) = if rls R c (7 * s + t) P r (7 * s + t) + nI (rM R r) ≤ rls R c (7 * s + t) P r (7 * (s ||| 2 ^ oth R r t) + oth R r t) then rls R c (7 * s + t) P r else upd (rls R c (7 * s + t) P r) (7 * (s ||| 2 ^ oth R r t) + oth R r t) (rls R c (7 * s + t) P r (7 * s + t) + nI (rM R r)) := by
              unfold rlx lgT
              rw [e7, m7, if_pos ⟨by simpa using e, z, y⟩]
            rw [hrl, v2, nI_add, hCt, eso, nI_add]
            rcases vv (7 * (s ||| 2 ^ oth R r t) + oth R r t) hT with u | ⟨u0, u1, u2, -⟩
            · rw [u, if_pos (show (-1 : Int32) < 0 by decide), if_neg (show ¬ nI (v0 + rM R r) ≤ -1 from fun q => by
                have q1 := Int32.le_iff_toInt_le.mp q
                rw [nI_toInt (by omega), show (-1 : Int32).toInt = -1 from rfl] at q1
                omega)]
              have em : xmax (-2) (nI (v0 + rM R r)) = nI (v0 + rM R r) := by
                unfold xmax
                rw [if_pos (show (-2 : Int32) < nI (v0 + rM R r) from Int32.lt_iff_toInt_lt.mpr (by
                  rw [nI_toInt (by omega), show (-2 : Int32).toInt = -2 from rfl]
                  omega))]
              rw [em]
              intro s' t' hs' ht' hf
              by_cases v : 7 * s' + t' = 7 * (s ||| 2 ^ oth R r t) + oth R r t
              · rw [v, pk_us, pk_us, if_neg (nI_pos (by omega))]
              · rw [pk_un v, pk_un v]
                exact hw s' t' hs' ht' hf
            · rw [show (7 * (s ||| 2 ^ oth R r t) + oth R r t) / 7 = s ||| 2 ^ oth R r t by omega] at u1
              rw [u2, if_neg (nI_pos (by omega)), mx_in (by omega) (by omega), ite_le (by omega) (by omega)]
              intro s' t' hs' ht' hf
              by_cases v : 7 * s' + t' = 7 * (s ||| 2 ^ oth R r t) + oth R r t
              · rw [v, pk_us]
                by_cases q : v0 + rM R r ≤ u0
                · rw [if_pos q, u2, if_neg (nI_pos (by omega)), Nat.max_eq_left q]
                · rw [if_neg q, pk_us, if_neg (nI_pos (by omega)), Nat.max_eq_right (by omega)]
              · rw [pk_un v]
                by_cases q : v0 + rM R r ≤ u0
                · rw [if_pos q]
                  exact hw s' t' hs' ht' hf
                · rw [if_neg q, pk_un v]
                  exact hw s' t' hs' ht' hf
        · rw [if_neg (fun q => y ((bi_in (by omega) (by omega)).mp q)), same (fun q => y q.2.2)]
          exact ⟨w, rfl, hw, f⟩
      · rw [if_neg z, if_pos (by decide), same (fun q => z q.2.1)]
        exact ⟨w, rfl, hw, f⟩
  · rintro n w ⟨hw, f⟩
    have j := h.ag (f.agr (C := kJ_44_48) rfl)
    simp only [f_X7_goOnFrom_42_17]
    rw [show f_X4_roads_3 w = nI (rR R) from j.1.1.2.1, if_pos (nI_le (Nat.le_refl _) (by omega))]
    exact ⟨w, rfl, hw, f⟩
theorem lg_skip1 (hR : rOK R) {a b k : Nat} (ha : a < rT R) (hk : k < 896) (h : k / 7 = 0 ∨ 2 ^ rT R ≤ k / 7 ∨ rT R ≤ k % 7) : lgA R c a b (k + 1) = lgA R c a b k ∧ lgB R c a b (k + 1) = lgB R c a b k := by
  have e : lgA R c a b k k < 0 := by
    rcases lgA_ok (c := c) (b := b) hR ha k (by omega) k hk with y | ⟨v, v1, v2, v3, v4, v5, v6⟩
    · rw [y]; decide
    · exfalso
      rcases h with h | h | h
      · rw [h, Nat.zero_testBit] at v5
        cases v5
      · omega
      · omega
  rw [lgA_s, lgB_s, if_pos (.inl e), if_neg (fun z => z.1 e)]
  exact ⟨rfl, rfl⟩
theorem lg_skip (hR : rOK R) {a b m : Nat} (ha : a < rT R) : ∀ d, m + d ≤ 896 → (∀ i, i < d → (m + i) / 7 = 0 ∨ 2 ^ rT R ≤ (m + i) / 7 ∨ rT R ≤ (m + i) % 7) → lgA R c a b (m + d) = lgA R c a b m ∧ lgB R c a b (m + d) = lgB R c a b m
  | 0, _, _ => ⟨rfl, rfl⟩
  | d + 1, h, hi => by
    obtain ⟨e1, e2⟩ := lg_skip hR ha d (by omega) (fun i h' => hi i (by omega))
    obtain ⟨q1, q2⟩ := lg_skip1 (c := c) (b := b) hR ha (k := m + d) (by omega) (hi d (by omega))
    exact ⟨q1.trans e1, q2.trans e2⟩
theorem lgA_const (hR : rOK R) {a b s q : Nat} (hq : q < 7) : ∀ u, u ≤ 7 → lgA R c a b (7 * s + u) (7 * s + q) = lgA R c a b (7 * s) (7 * s + q)
  | 0, _ => rfl
  | u + 1, h => (lgA_ne (k := 7 * s + u) hR (by omega)).trans (lgA_const hR hq u (by omega))
theorem lgB_set (hR : rOK R) {a b s : Nat} (hb : b < 7) : ∀ u, u ≤ 7 → lgB R c a b (7 * s + u) = if u ≤ b then lgB R c a b (7 * s) else if ¬ lgA R c a b (7 * s) (7 * s + b) < 0 ∧ ¬ lgA R c a b (7 * s) (7 * s + b) ≤ lgB R c a b (7 * s) then lgA R c a b (7 * s) (7 * s + b) else lgB R c a b (7 * s)
  | 0, _ => by rw [if_pos (Nat.zero_le _)]; rfl
  | u + 1, h => by
    have ih := lgB_set hR (a := a) (s := s) hb u (by omega)
    rw [show 7 * s + (u + 1) = (7 * s + u) + 1 from rfl, lgB_s, lgA_const hR (show u < 7 by omega) u (by omega), ih]
    by_cases z : u < b
    · rw [if_neg (fun y => absurd y.2.1 (by omega)), if_pos (by omega), if_pos (by omega)]
    · by_cases y : u = b
      · subst y
        rw [if_pos (Nat.le_refl _), if_neg (show ¬ u + 1 ≤ u by omega)]
        by_cases x : ¬ lgA R c a u (7 * s) (7 * s + u) < 0 ∧ ¬ lgA R c a u (7 * s) (7 * s + u) ≤ lgB R c a u (7 * s)
        · rw [if_pos ⟨x.1, by omega, x.2⟩, if_pos x]
        · rw [if_neg (fun q => x ⟨q.1, q.2.2⟩), if_neg x]
      · rw [if_neg (fun q => absurd q.2.1 (by omega)), if_neg (show ¬ u ≤ b by omega), if_neg (show ¬ u + 1 ≤ b by omega)]
theorem c_l66 (hR : rOK R) (hc2 : c < 1024) {g : xG} (h : jC_44_48 R ρ c g) {a b s : Nat} (ha : a < rT R) (hb : b < rT R) (hs1 : 1 ≤ s) (hs : s < 2 ^ rT R) (hC : lgC b (lgA R c a b (7 * s)) (g.1 43)) (k48 : Int32 → Int32 → Int32 → xG → Option (Int32 × xG)) (l3 : Int32) : ∃ w, f_X7_longestWay_42_66 k48 xN (nI b) l3 (nI s) 0 g = k48 (nI b) (xmax l3 (w.1 43 (7 * s + b))) (nI (s + 1)) w ∧ lgC b (lgA R c a b (7 * s + rT R)) (w.1 43) ∧ xfrm [(43, none)] g w := by
  have h7 := hR.t
  have hp := T_pow h7
  refine lp (fun n i (w : xG) => f_X7_longestWay_42_66 k48 n (nI b) l3 (nI s) i w) (fun t w => lgC b (lgA R c a b (7 * s + t)) (w.1 43) ∧ xfrm [(43, none)] g w) (rT R) (fun o => ∃ w, o = k48 (nI b) (xmax l3 (w.1 43 (7 * s + b))) (nI (s + 1)) w ∧ lgC b (lgA R c a b (7 * s + rT R)) (w.1 43) ∧ xfrm [(43, none)] g w) ?_ ?_ xN 0 g (Nat.zero_le _) (by show rT R < 4000 + 0; omega) ⟨hC, xfrm.rf⟩
  · rintro n t w ht ⟨hw, f⟩
    refine .inl ?_
    have j := h.ag (f.agr (C := kJ_44_48) rfl)
    have hk : 7 * s + t < 896 := by omega
    have e7 : (7 * s + t) / 7 = s := by omega
    have m7 : (7 * s + t) % 7 = t := by omega
    have vv := lgA_ok (c := c) (b := b) hR ha (7 * s + t) (by omega)
    simp only [f_X7_longestWay_42_66]
    rw [show f_X4_towns_3 w = nI (rT R) from j.1.1.1, if_neg (nI_ge ht (by omega)), i7, xat_in hk (by decide), nI_1]
    by_cases x : s.testBit b = true
    · have eP : lgA R c a b (7 * s + (t + 1)) = lgA R c a b (7 * s + t) := by
        rw [show 7 * s + (t + 1) = (7 * s + t) + 1 from rfl, lgA_s]
        by_cases tb : t = b
        · rw [if_pos (.inr (by rw [m7, tb]))]
        · rcases vv (7 * s + t) hk with y | ⟨v, v1, v2, v3, v4, v5, v6⟩
          · rw [if_pos (.inl (by rw [y]; decide))]
          · rw [e7, m7] at v6
            exact absurd (v6 x) tb
      by_cases y : w.1 43 (7 * s + t) < 0
      · rw [if_pos y, eP]
        exact ⟨w, rfl, hw, f⟩
      · obtain ⟨w2, q1, q2, q3⟩ := c_goOn hR hc2 j (by omega) (show t < 7 by omega) vv hw (.inl x)
        rw [if_pos x] at q2
        rw [if_neg y, q1, Option.bind_some, eP]
        exact ⟨w2, rfl, q2, f.tr q3 rfl⟩
    · have x' : s.testBit b = false := by simpa using x
      have eC := hw s t (by omega) (by omega) (.inr x')
      rcases vv (7 * s + t) hk with y | ⟨v, v1, v2, v3, v4, v5, v6⟩
      · have eP : lgA R c a b (7 * s + (t + 1)) = lgA R c a b (7 * s + t) := by
          rw [show 7 * s + (t + 1) = (7 * s + t) + 1 from rfl, lgA_s, if_pos (.inl (by rw [y]; decide))]
        rw [eC, y, if_pos (show (-1 : Int32) < 0 by decide), if_pos (show (-2 : Int32) < 0 by decide), eP]
        exact ⟨w, rfl, hw, f⟩
      · rw [e7] at v1
        have pk : ¬ lgA R c a b (7 * s + t) (7 * s + t) < 0 := by
          rw [v2]
          exact nI_pos (by omega)
        have tb : t ≠ b := by
          rintro rfl
          rw [e7, m7, x'] at v5
          cases v5
        obtain ⟨w2, q1, q2, q3⟩ := c_goOn hR hc2 j (by omega) (show t < 7 by omega) vv hw (.inr ⟨x', tb, pk⟩)
        rw [if_neg x] at q2
        rw [eC, if_neg pk, if_neg pk, q1, Option.bind_some]
        refine ⟨w2, rfl, ?_, f.tr q3 rfl⟩
        rw [show 7 * s + (t + 1) = (7 * s + t) + 1 from rfl, lgA_s, if_neg (fun z => z.elim pk (fun u => tb (by rw [← u, m7])))]
        exact q2
  · rintro n w ⟨hw, f⟩
    have j := h.ag (f.agr (C := kJ_44_48) rfl)
    simp only [f_X7_longestWay_42_66]
    rw [show f_X4_towns_3 w = nI (rT R) from j.1.1.1, if_pos (nI_le (Nat.le_refl _) (by omega)), i7, xat_in (by omega) (by decide), nI_1]
    exact ⟨w, rfl, hw, f⟩
theorem c_l48 (hR : rOK R) (hc2 : c < 1024) {g : xG} (h : jC_44_48 R ρ c g) {a b : Nat} (ha : a < rT R) (hb : b < rT R) (hC : lgC b (lg0 a) (g.1 43)) : ∃ w, f_X7_longestWay_42_48 xN (nI b) (-2) 1 g = some (lgB R c a b 896, w) := by
  have h7 := hR.t
  have hp := T_pow h7
  have h0 : 1 < 2 ^ rT R := Nat.one_lt_two_pow (by omega)
  obtain ⟨a7, b7⟩ := lg_skip (c := c) (a := a) (b := b) (m := 0) hR ha 7 (by decide) (fun i hi => .inl (by omega))
  refine lp (fun n i (s : Int32 × xG) => f_X7_longestWay_42_48 n (nI b) s.1 i s.2) (fun s t => 1 ≤ s ∧ t.1 = lgB R c a b (7 * s) ∧ lgC b (lgA R c a b (7 * s)) (t.2.1 43) ∧ xfrm [(43, none)] g t.2) (2 ^ rT R) (fun o => ∃ w, o = some (lgB R c a b 896, w)) ?_ ?_ xN 1 ((-2 : Int32), g) (by omega) (by show 2 ^ rT R < 4000 + 1; omega) ⟨Nat.le_refl _, b7.symm, by
      dsimp only
      rw [show 7 * 1 = 0 + 7 from rfl, a7]
      exact hC, xfrm.rf⟩
  · rintro n s ⟨l3, w⟩ hs ⟨hs1, e1, hw, f⟩
    dsimp only at e1 hw f ⊢
    refine .inl ?_
    have j := h.ag (f.agr (C := kJ_44_48) rfl)
    obtain ⟨w2, q1, q2, q3⟩ := c_l66 hR hc2 j ha hb hs1 hs hw (f_X7_longestWay_42_48 n) l3
    simp only [f_X7_longestWay_42_48]
    rw [show f_X4_towns_3 w = nI (rT R) from j.1.1.1, bi_bit _ (by omega), if_neg (nI_ge hs (by omega)), q1]
    refine ⟨(xmax l3 (w2.1 43 (7 * s + b)), w2), rfl, by omega, ?_, ?_, f.tr q3 rfl⟩
    · dsimp only
      have eC := q2 s b (by omega) (by omega) (.inl rfl)
      rw [lgA_const hR (by omega) _ h7] at eC
      rw [eC, e1, show 7 * (s + 1) = 7 * s + 7 from rfl, lgB_set hR (show b < 7 by omega) 7 (Nat.le_refl _), if_neg (show ¬ 7 ≤ b by omega)]
      have hB := lgB_2 (c := c) (b := b) hR ha (7 * s) (by omega)
      by_cases z : lgA R c a b (7 * s) (7 * s + b) < 0
      · rw [if_pos z, if_neg (fun y => y.1 z)]
        unfold xmax
        rw [if_neg (fun y => ?_)]
        have y1 := Int32.lt_iff_toInt_lt.mp y
        rcases hB with u | ⟨v, hv, u⟩
        · rw [u] at y1
          omega
        · rw [u, nI_toInt (by omega), show (-2 : Int32).toInt = -2 from rfl] at y1
          omega
      · rw [if_neg z]
        unfold xmax
        by_cases y : lgA R c a b (7 * s) (7 * s + b) ≤ lgB R c a b (7 * s)
        · rw [if_neg (show ¬ lgB R c a b (7 * s) < lgA R c a b (7 * s) (7 * s + b) from fun q => by
            have q1 := Int32.lt_iff_toInt_lt.mp q
            have q2 := Int32.le_iff_toInt_le.mp y
            omega), if_neg (fun q => q.2 y)]
        · rw [if_pos (show lgB R c a b (7 * s) < lgA R c a b (7 * s) (7 * s + b) from Int32.lt_iff_toInt_lt.mpr (by
            have q2 : ¬ (lgA R c a b (7 * s) (7 * s + b)).toInt ≤ (lgB R c a b (7 * s)).toInt := fun q => y (Int32.le_iff_toInt_le.mpr q)
            omega)), if_pos ⟨z, y⟩]
    · dsimp only
      obtain ⟨a8, -⟩ := lg_skip (c := c) (a := a) (b := b) (m := 7 * s + rT R) hR ha (7 - rT R) (by omega) (fun i hi => .inr (.inr (by omega)))
      rw [show 7 * (s + 1) = 7 * s + rT R + (7 - rT R) by omega, a8]
      exact q2
  · rintro n ⟨l3, w⟩ ⟨-, e1, hw, f⟩
    dsimp only at e1 hw f ⊢
    have j := h.ag (f.agr (C := kJ_44_48) rfl)
    obtain ⟨-, b8⟩ := lg_skip (c := c) (a := a) (b := b) (m := 7 * 2 ^ rT R) hR ha (896 - 7 * 2 ^ rT R) (by omega) (fun i hi => .inr (.inl (by omega)))
    rw [show 7 * 2 ^ rT R + (896 - 7 * 2 ^ rT R) = 896 by omega] at b8
    simp only [f_X7_longestWay_42_48]
    rw [show f_X4_towns_3 w = nI (rT R) from j.1.1.1, bi_bit _ (by omega), if_pos (nI_le (Nat.le_refl _) (by omega)), e1, b8]
    exact ⟨w, rfl⟩
theorem c_long (hR : rOK R) (hc2 : c < 1024) {g : xG} (h : jC_44_48 R ρ c g) {a b : Nat} (ha : a < rT R) (hb : b < rT R) : ∃ w, f_X7_longestWay_42 (nI a) (nI b) g = some (lgB R c a b 896, w) := by
  have h7 := hR.t
  have hp7 : 2 ^ a ≤ 64 := Nat.pow_le_pow_right (n := 2) (j := 6) (by decide) (by omega)
  unfold f_X7_longestWay_42
  refine lp (fun n i (s : xG) => f_X7_longestWay_42_2 n (nI a) (nI b) i s) (fun k s => (∀ j, j < k → s.1 43 j = -2) ∧ xfrm [(43, none)] g s) 896 (fun o => ∃ w, o = some (lgB R c a b 896, w)) ?_ ?_ xN 0 g (Nat.zero_le _) (by decide) ⟨fun j hj => by omega, xfrm.rf⟩
  · rintro n k w hk ⟨e, f⟩
    refine .inl ?_
    simp only [f_X7_longestWay_42_2]
    rw [if_neg (show ¬ (896 : Int32) ≤ nI k from nI_ge hk (by decide)), xg_in hk (by decide), nI_clamp (by omega), nI_1]
    refine ⟨_, rfl, fun q hq => ?_, xfrm.up f rfl⟩
    dsimp only
    rw [xu_at]
    by_cases v : q = k
    · rw [if_pos ⟨rfl, v⟩]
    · rw [if_neg (fun u => v u.2), e q (by omega)]
  · rintro n w ⟨e, f⟩
    simp only [f_X7_longestWay_42_2]
    rw [if_pos (show (896 : Int32) ≤ nI 896 from nI_le (Nat.le_refl _) (by decide)), bi_bit a (by omega), i7, xl_e, xput_in (show 7 * 2 ^ a + a < 896 by omega) (by decide)]
    have f2 : xfrm [(43, none)] w (xupd w.1 43 (7 * 2 ^ a + a) 0, w.2) := xfrm.up xfrm.rf rfl
    refine c_l48 hR hc2 ((h.ag (f.agr rfl)).ag (f2.agr rfl)) ha hb (fun s t hs ht _ => ?_)
    dsimp only
    rw [xu_at]
    unfold lg0 upd
    by_cases v : 7 * s + t = 7 * 2 ^ a + a
    · rw [if_pos ⟨rfl, v⟩, if_pos v, if_neg (show ¬ (0 : Int32) < 0 by decide)]
    · rw [if_neg (fun u => v u.2), if_neg v, e _ (by omega), if_pos (show (-1 : Int32) < 0 by decide)]
theorem q_longest (hR : rOK R) (ho : rowOK R ρ) (hc : ρ 36 = nI c) (hc2 : c < 1024) (x y : Int32) : aQ R L c ρ (f_X11_longest_0 x y) (f_X12_longest_60 x y) := by
  rcases aT hR x with ⟨a1, a2⟩ | ⟨a, ha, rfl, a1, a2⟩
  · refine ⟨-1, fun g h => ⟨g, ?_⟩, fun g h => ⟨g, ?_⟩⟩
    · unfold f_X11_longest_0
      rw [a1 g h.1, if_pos rfl]
    · unfold f_X12_longest_60
      rw [a2 g L h.1, Option.bind_some, if_pos rfl]
  rcases aT hR y with ⟨b1, b2⟩ | ⟨b, hb, rfl, b1, b2⟩
  · refine ⟨-1, fun g h => ⟨g, ?_⟩, fun g h => ⟨g, ?_⟩⟩
    · unfold f_X11_longest_0
      rw [a1 g h.1, if_neg (by decide), b1 g h.1, if_pos rfl]
    · unfold f_X12_longest_60
      rw [a2 g L h.1, Option.bind_some, if_neg (by decide), b2 g L h.1, Option.bind_some, if_pos rfl]
  have h7 := hR.t
  refine ⟨lgB R c a b 896, fun g h => ?_, fun g h => ?_⟩
  · obtain ⟨w, e⟩ := c_long hR hc2 h ha hb
    exact ⟨w, by unfold f_X11_longest_0; rw [a1 g h.1, if_neg (by decide), b1 g h.1, if_neg (by decide), e, Option.bind_some]⟩
  · obtain ⟨w1, e1, j1, -, -, -⟩ := r_copies hR h hc (by omega)
    obtain ⟨w2, e2⟩ := r_long hR hc hc2 j1 ha (show b < 7 by omega)
    exact ⟨w2, by unfold f_X12_longest_60; rw [a2 g L h.1, Option.bind_some, if_neg (by decide), b2 g L h.1, Option.bind_some, if_neg (by decide), e1, Option.bind_some, e2]⟩
end
