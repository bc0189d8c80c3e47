/-! words, and tokens of both -/
def kap (a : Nat) : Nat := if 13 ≤ a then a + 7 else if a = 1 then 3 else if a = 2 then 1 else if a = 3 then 2 else if a = 6 then 8 else if a = 7 then 9 else if a = 8 then 10 else if a = 9 then 15 else if a = 10 then 13 else if a = 11 then 6 else if a = 12 then 7 else a
theorem wKd_s (W : Nat → Int64) (v : Int64) (w : Nat) : wKd W v (w + 1) = if wKd W v w = 2 ∧ W w = v then 13 + w else wKd W v w := rfl
theorem wKd_keep {W : Nat → Int64} {v : Int64} {w : Nat} (h : wKd W v w ≠ 2) : ∀ n, wKd W v (w + n) = wKd W v w
  | 0 => rfl
  | n + 1 => by
    rw [show w + (n + 1) = w + n + 1 from rfl, wKd_s, wKd_keep h n, if_neg (fun y => h y.1)]
theorem wKd_has {W : Nat → Int64} {v : Int64} : ∀ {w : Nat}, wKd W v w ≠ 2 → ∃ u, u < w ∧ W u = v ∧ wKd W v w = 13 + u
  | 0, h => absurd rfl h
  | w + 1, h => by
    rw [wKd_s] at h ⊢
    by_cases z : wKd W v w = 2 ∧ W w = v
    · rw [if_pos z]
      exact ⟨w, by omega, z.2, rfl⟩
    · rw [if_neg z] at h ⊢
      obtain ⟨u, h1, h2, h3⟩ := wKd_has h
      exact ⟨u, by omega, h2, h3⟩
theorem wKd_33 (W : Nat → Int64) (v : Int64) : wKd W v 21 ≤ 33 := by
  by_cases h : wKd W v 21 = 2
  · omega
  · obtain ⟨u, h1, h2, h3⟩ := wKd_has h
    omega
theorem wKd_ne0 (W : Nat → Int64) (v : Int64) : wKd W v 21 = 2 ∨ 13 ≤ wKd W v 21 := by
  by_cases h : wKd W v 21 = 2
  · exact .inl h
  · obtain ⟨u, h1, h2, h3⟩ := wKd_has h
    exact .inr (by omega)
theorem c_word {W : Nat → Int64} {g : xG} (hW : ∀ w, w < 21 → g.2 22 w = W w) (v : Int64) : f_X9_kindOfWord_18 v g = some (nI (wKd W v 21)) := by
  unfold f_X9_kindOfWord_18
  refine lp (fun m i (_ : Unit) => f_X9_kindOfWord_18_2 g m v i) (fun w _ => wKd W v w = 2) 21 (fun o => o = some (nI (wKd W v 21))) ?_ ?_ xN 0 () (Nat.zero_le _) (by decide) rfl
  · intro m w _ hw e
    simp only [f_X9_kindOfWord_18_2]
    rw [if_neg (show ¬ (21 : Int32) ≤ nI w from nI_ge (b := 21) hw (by decide)), xg_in hw (by decide), nI_clamp (by omega), hW w hw, nI_1]
    by_cases z : W w = v
    · rw [if_pos ((lg_cmp_eq _ _).mpr z)]
      refine .inr ?_
      have e2 : wKd W v (w + 1) = 13 + w := by rw [wKd_s, if_pos ⟨e, z⟩]
      have e3 := wKd_keep (n := 21 - (w + 1)) (show wKd W v (w + 1) ≠ 2 by omega)
      rw [show w + 1 + (21 - (w + 1)) = 21 by omega, e2] at e3
      rw [e3, show (13 : Int32) = nI 13 from rfl, nI_add]
    · rw [if_neg (fun y => z ((lg_cmp_eq _ _).mp y))]
      exact .inl ⟨(), rfl, by rw [wKd_s, if_neg (fun y => z y.2), e]⟩
  · intro m _ e
    simp only [f_X9_kindOfWord_18_2]
    rw [if_pos (show (21 : Int32) ≤ nI 21 by decide), e]
    rfl
/-- the class's last pass: names that are words -/
theorem c_words {W : Nat → Int64} {g : xG} {N : Nat} (hW : ∀ w, w < 21 → g.2 22 w = W w) (hN : N ≤ 402) (e4 : g.1 18 4 = nI N) : ∃ w, f_X9_scan_18_1_116 xN 0 g = some w ∧ xfrm [(19, none)] g w ∧ ∀ j, j < N → w.1 19 j = if g.1 19 j = 2 then nI (wKd W (g.2 21 j) 21) else g.1 19 j := by
  refine lp (fun m i (w : xG) => f_X9_scan_18_1_116 m i w) (fun l w => xfrm [(19, none)] g w ∧ ∀ j, w.1 19 j = if j < l then (if g.1 19 j = 2 then nI (wKd W (g.2 21 j) 21) else g.1 19 j) else g.1 19 j) N (fun o => ∃ w, o = some w ∧ xfrm [(19, none)] g w ∧ ∀ j, j < N → w.1 19 j = if g.1 19 j = 2 then nI (wKd W (g.2 21 j) 21) else g.1 19 j) ?_ ?_ xN 0 g (Nat.zero_le _) (by show N < 4000 + 0; omega) ⟨xfrm.rf, fun j => by rw [if_neg (Nat.not_lt_zero j)]⟩
  · rintro m l w hl ⟨f, e⟩
    refine .inl ?_
    have e4' : w.1 18 4 = nI N := ((f 18 4 rfl).1).trans e4
    have ek : f_X9_kindAt_18 (nI l) w = some (g.1 19 l) := by
      unfold f_X9_kindAt_18
      rw [if_neg (nI_pos (by omega)), e4', if_neg (nI_ge hl (by omega)), if_neg (show ¬ (402 : Int32) ≤ nI l from nI_ge (b := 402) (by omega) (by decide)), xg_in (show l < 402 by omega) (by decide), nI_clamp (by omega), e l, if_neg (Nat.lt_irrefl l)]
    have ev : f_X9_valueOf_18 (nI l) w = g.2 21 l := by
      unfold f_X9_valueOf_18
      rw [e4', if_neg (nI_ge hl (by omega)), xlat_in (by omega) (by decide), (f 21 l rfl).2]
    simp only [f_X9_scan_18_1_116]
    rw [e4', if_neg (nI_ge hl (by omega)), ek, Option.bind_some, ev, c_word (fun u hu => ((f 22 u rfl).2).trans (hW u hu)), Option.bind_some, nI_1]
    by_cases z : g.1 19 l = 2
    · rw [if_pos z, xl_e, xput_in (show l < 402 by omega) (by decide)]
      refine ⟨_, rfl, xfrm.up f rfl, fun j => ?_⟩
      dsimp only
      rw [xu_at]
      by_cases y : j = l
      · rw [if_pos ⟨rfl, y⟩, y, if_pos (Nat.lt_succ_self l), if_pos z]
      · rw [if_neg (fun x => y x.2), e j]
        by_cases x : j < l
        · rw [if_pos x, if_pos (show j < l + 1 by omega)]
        · rw [if_neg x, if_neg (by omega)]
    · rw [if_neg z]
      refine ⟨w, rfl, f, fun j => ?_⟩
      rw [e j]
      by_cases y : j = l
      · rw [y, if_neg (Nat.lt_irrefl l), if_pos (Nat.lt_succ_self l), if_neg z]
      · by_cases x : j < l
        · rw [if_pos x, if_pos (show j < l + 1 by omega)]
        · rw [if_neg x, if_neg (by omega)]
  · rintro m w ⟨f, e⟩
    simp only [f_X9_scan_18_1_116]
    rw [(f 18 4 rfl).1, e4, if_pos (nI_le (Nat.le_refl _) (by omega))]
    exact ⟨w, rfl, f, fun j hj => by rw [e j, if_pos hj]⟩
/-! the reference -/
def tpR (n : Nat) (β : Nat → Nat) (h : xG) : Prop := h.1 60 4 = nI n ∧ ∀ i, i < n → h.1 62 i &&& 255 = nI (β i)
def fTr : List (Nat × Option Nat) := [(60, some 10), (63, none), (64, none), (65, none), (66, none)]
theorem tpR.fr {n : Nat} {β : Nat → Nat} {g w : xG} (h : tpR n β g) (f : xfrm fTr g w) : tpR n β w := ⟨((f 60 4 rfl).1).trans h.1, fun i hi => by rw [(f 62 i rfl).1]; exact h.2 i hi⟩
theorem tpR.byte {n : Nat} {β : Nat → Nat} {g : xG} (h : tpR n β g) (hn : n ≤ 2000) {i : Nat} (hi : i < n) : f_X12_byteAt_60 (nI i) g = some (nI (β i)) := by
  unfold f_X12_byteAt_60
  rw [h.1, if_neg (nI_ge hi (by omega)), xg_in (show i < 2000 by omega) (by decide), nI_clamp (by omega), h.2 i hi]
theorem tpR.none {n : Nat} {β : Nat → Nat} {g : xG} (h : tpR n β g) {i : Nat} (hi : n ≤ i) (hi2 : i < 2 ^ 31) : f_X12_byteAt_60 (nI i) g = some 0 := by
  unfold f_X12_byteAt_60
  rw [h.1, if_pos (nI_le hi hi2)]
theorem r_token {h : xG} {k : Nat} (hk : k < 403) (e10 : h.1 60 10 = nI k) (p1 p2 p3 : Int32) (p4 : Int64) : ∃ w, f_X12_token_60 p1 p2 p3 p4 h = some w ∧ w.1 60 10 = nI (k + 1) ∧ (w.1 63 k = p1 ∧ w.1 64 k = p2 ∧ w.1 65 k = p3 ∧ w.2 66 k = p4) ∧ (∀ j, j ≠ k → w.1 63 j = h.1 63 j ∧ w.1 64 j = h.1 64 j ∧ w.1 65 j = h.1 65 j ∧ w.2 66 j = h.2 66 j) ∧ xfrm fTr h w := by
  unfold f_X12_token_60
  rw [e10, xg_in hk (by decide), xg_in hk (by decide), xg_in hk (by decide), xg_in hk (by decide), nI_clamp (by omega), nI_1]
  refine ⟨_, rfl, rfl, ⟨?_, ?_, ?_, ?_⟩, fun j hj => ⟨?_, ?_, ?_, ?_⟩, ?_⟩
  · show xupd (xupd (xupd (xupd h.1 63 k p1) 64 k p2) 65 k p3) 60 10 (nI (k + 1)) 63 k = p1
    rw [xu_q (show (63 : Nat) ≠ 60 by decide), xu_q (show (63 : Nat) ≠ 65 by decide), xu_q (show (63 : Nat) ≠ 64 by decide), xu_eq]
  · show xupd (xupd (xupd (xupd h.1 63 k p1) 64 k p2) 65 k p3) 60 10 (nI (k + 1)) 64 k = p2
    rw [xu_q (show (64 : Nat) ≠ 60 by decide), xu_q (show (64 : Nat) ≠ 65 by decide), xu_eq]
  · show xupd (xupd (xupd (xupd h.1 63 k p1) 64 k p2) 65 k p3) 60 10 (nI (k + 1)) 65 k = p3
    rw [xu_q (show (65 : Nat) ≠ 60 by decide), xu_eq]
  · show xupdL h.2 66 k p4 66 k = p4
    exact xuL_eq
  · show xupd (xupd (xupd (xupd h.1 63 k p1) 64 k p2) 65 k p3) 60 10 (nI (k + 1)) 63 j = _
    rw [xu_q (show (63 : Nat) ≠ 60 by decide), xu_q (show (63 : Nat) ≠ 65 by decide), xu_q (show (63 : Nat) ≠ 64 by decide), xu_ne hj]
  · show xupd (xupd (xupd (xupd h.1 63 k p1) 64 k p2) 65 k p3) 60 10 (nI (k + 1)) 64 j = _
    rw [xu_q (show (64 : Nat) ≠ 60 by decide), xu_q (show (64 : Nat) ≠ 65 by decide), xu_ne hj, xu_q (show (64 : Nat) ≠ 63 by decide)]
  · show xupd (xupd (xupd (xupd h.1 63 k p1) 64 k p2) 65 k p3) 60 10 (nI (k + 1)) 65 j = _
    rw [xu_q (show (65 : Nat) ≠ 60 by decide), xu_ne hj, xu_q (show (65 : Nat) ≠ 64 by decide), xu_q (show (65 : Nat) ≠ 63 by decide)]
  · show xupdL h.2 66 k p4 66 j = _
    exact xuL_ne hj
  · exact xfrm.up (xfrm.ul (xfrm.up (xfrm.up (xfrm.up xfrm.rf rfl) rfl) rfl) rfl) rfl
theorem r_letter {c : Nat} (hc : c < 256) : f_X12_isLetter (nI c) = if kc c = 2 then 1 else 0 := by
  unfold f_X12_isLetter
  have := kc_2 c hc
  rw [show (97 : Int32) = nI 97 from rfl, show (122 : Int32) = nI 122 from rfl, ite_lt (by omega) (by decide), ite_lt (by decide) (by omega)]
  by_cases z : kc c = 2
  · rw [if_pos z, if_neg (by omega), if_neg (by omega)]
  · rw [if_neg z]
    by_cases y : c < 97
    · rw [if_pos y]
    · rw [if_neg y, if_pos (by omega)]
theorem r_digit {c : Nat} (hc : c < 256) : f_X12_isDigit (nI c) = if kc c = 3 then 1 else 0 := by
  unfold f_X12_isDigit
  have := kc_3 c hc
  rw [show (48 : Int32) = nI 48 from rfl, show (57 : Int32) = nI 57 from rfl, ite_lt (by omega) (by decide), ite_lt (by decide) (by omega)]
  by_cases z : kc c = 3
  · rw [if_pos z, if_neg (by omega), if_neg (by omega)]
  · rw [if_neg z]
    by_cases y : c < 48
    · rw [if_pos y]
    · rw [if_neg y, if_pos (by omega)]
theorem r_sign {c : Nat} (hc : c < 256) (e0 : kc c ≠ 0) (e2 : kc c ≠ 2) (e3 : kc c ≠ 3) (p1 p3 : Int32) (h : xG) : f_X12_sign_60 p1 (nI c) p3 h = (f_X12_token_60 (nI (kap (kc c))) p1 0 0 h).bind fun w => some (1, w) := by
  have ne : ∀ k, k < 256 → c ≠ k → ¬ nI c = nI k := fun k hk e y => e ((nI_eq (by omega) (by omega)).mp y)
  by_cases z1 : c = 59
  · subst z1; rfl
  by_cases z2 : c = 61
  · subst z2; rfl
  by_cases z3 : c = 40
  · subst z3; rfl
  by_cases z4 : c = 41
  · subst z4; rfl
  by_cases z5 : c = 43
  · subst z5; rfl
  by_cases z6 : c = 45
  · subst z6; rfl
  by_cases z7 : c = 42
  · subst z7; rfl
  by_cases z8 : c = 47
  · subst z8; rfl
  by_cases z9 : c = 60
  · subst z9; rfl
  have k1 : kc c = 1 := by
    have a0 := kc_0 c hc
    have a2 := kc_2 c hc
    have a3 := kc_3 c hc
    unfold kc
    rw [if_neg (by omega), if_neg (by omega), if_neg (by omega), if_neg z1, if_neg z2, if_neg z5, if_neg z6, if_neg z7, if_neg z8, if_neg z9, if_neg z3, if_neg z4]
  unfold f_X12_sign_60 f_X12_sign_60_43 f_X12_sign_60_55 f_X12_sign_60_65 f_X12_sign_60_75 f_X12_sign_60_85
  rw [if_neg (show ¬ nI c = 59 from ne 59 (by decide) z1), if_neg (show ¬ nI c = 61 from ne 61 (by decide) z2), if_neg (show ¬ nI c = 40 from ne 40 (by decide) z3), if_neg (show ¬ nI c = 41 from ne 41 (by decide) z4), if_neg (show ¬ nI c = 43 from ne 43 (by decide) z5), if_neg (show ¬ nI c = 45 from ne 45 (by decide) z6), if_neg (show ¬ nI c = 42 from ne 42 (by decide) z7), if_neg (show ¬ nI c = 47 from ne 47 (by decide) z8), if_neg (show ¬ nI c = 60 from ne 60 (by decide) z9), k1]
  rfl
/-- a name's or an int's bytes, gone through by the reference -/
theorem r_name {n : Nat} {β : Nat → Nat} {s j : Nat} {h : xG} (hn : n ≤ 2000) (hb : ∀ i, β i < 256) (ht : tpR n β h) (h1 : s + j ≤ n) (h2 : ∀ t, t < j → kc (β (s + t)) = 2) (h3 : s + j < n → kc (β (s + j)) ≠ 2) (k7 : Int32 → xG → Option xG) : f_X12_cut_60_85 k7 xN (nI s) 0 0 h = f_X12_cut_60_135 k7 (nI s) (nI j) (nvS β s (min j 8)) (if j ≤ 8 then 1 else 3) h := by
  refine lpv (fun m i (v : Int64) => f_X12_cut_60_85 k7 m (nI s) i v h) (fun l => nvS β s (min l 8)) j _ ?_ ?_ xN 0 (Nat.zero_le _) (by show j < 4000 + 0; omega)
  · intro m l hl
    have e := h2 l hl
    have eb := (kc_2 _ (hb (s + l))).mp e
    simp only [f_X12_cut_60_85]
    rw [nI_add, ht.byte hn (show s + l < n by omega), Option.bind_some, r_letter (hb _), if_pos e, if_neg (by decide), nI_1, Option.bind_some]
    by_cases z : 8 ≤ l
    · rw [if_pos (show (8 : Int32) ≤ nI l from nI_le (a := 8) z (by omega)), show min l 8 = 8 by omega, show min (l + 1) 8 = 8 by omega]
    · rw [if_neg (show ¬ (8 : Int32) ≤ nI l from nI_ge (b := 8) (by omega) (by decide)), show min l 8 = l by omega, show min (l + 1) 8 = l + 1 by omega]
      congr 1
      unfold f_X12_appends
      rw [if_neg (nI_ne0 (by omega) (by have := hb (s + l); omega)), Int64.mul_comm]
      rfl
  · intro m
    have e0 : ∃ c, f_X12_byteAt_60 (nI (s + j)) h = some (nI c) ∧ c < 256 ∧ kc c ≠ 2 := by
      by_cases z : s + j < n
      · exact ⟨β (s + j), ht.byte hn z, hb _, h3 z⟩
      · exact ⟨0, ht.none (by omega) (by omega), by decide, by decide⟩
    obtain ⟨c, q1, q2, q3⟩ := e0
    simp only [f_X12_cut_60_85]
    rw [nI_add, q1, Option.bind_some, r_letter q2, if_neg q3, if_pos rfl]
    by_cases z : j ≤ 8
    · rw [if_pos (show nI j ≤ (8 : Int32) from nI_le (b := 8) z (by decide)), if_pos z]
    · rw [if_neg (show ¬ nI j ≤ (8 : Int32) from nI_ge (a := 8) (by omega) (by omega)), if_neg z]
theorem r_int {n : Nat} {β : Nat → Nat} {s j : Nat} {h : xG} (hn : n ≤ 2000) (hb : ∀ i, β i < 256) (ht : tpR n β h) (h1 : s + j ≤ n) (h2 : ∀ t, t < j → kc (β (s + t)) = 3) (h3 : s + j < n → kc (β (s + j)) ≠ 3) (k7 : Int32 → xG → Option xG) : f_X12_cut_60_208 k7 xN (nI s) 0 0 h = (f_X12_token_60 (if j ≤ 4 then 2 else 3) (nI s) (nI (dN β s (min j 4))) 0 h).bind fun w => k7 (nI (s + j)) w := by
  refine lpv (fun m i (v : Int32) => f_X12_cut_60_208 k7 m (nI s) i v h) (fun l => nI (dN β s (min l 4))) j _ ?_ ?_ xN 0 (Nat.zero_le _) (by show j < 4000 + 0; omega)
  · intro m l hl
    have e := h2 l hl
    have eb := (kc_3 _ (hb (s + l))).mp e
    simp only [f_X12_cut_60_208]
    rw [nI_add, ht.byte hn (show s + l < n by omega), Option.bind_some, r_digit (hb _), if_pos e, if_neg (by decide), nI_1, Option.bind_some]
    by_cases z : 4 ≤ l
    · rw [if_pos (show (4 : Int32) ≤ nI l from nI_le (a := 4) z (by omega)), show min l 4 = 4 by omega, show min (l + 1) 4 = 4 by omega]
    · rw [if_neg (show ¬ (4 : Int32) ≤ nI l from nI_ge (b := 4) (by omega) (by decide)), show min l 4 = l by omega, show min (l + 1) 4 = l + 1 by omega]
      congr 1
      rw [show (10 : Int32) = nI 10 from rfl, pk_mul, nI_add, show (48 : Int32) = nI 48 from rfl, pk_sub (by omega)]
      congr 1
      show _ = 10 * dN β s l + (β (s + l) - 48)
      omega
  · intro m
    have e0 : ∃ c, f_X12_byteAt_60 (nI (s + j)) h = some (nI c) ∧ c < 256 ∧ kc c ≠ 3 := by
      by_cases z : s + j < n
      · exact ⟨β (s + j), ht.byte hn z, hb _, h3 z⟩
      · exact ⟨0, ht.none (by omega) (by omega), by decide, by decide⟩
    obtain ⟨c, q1, q2, q3⟩ := e0
    simp only [f_X12_cut_60_208]
    rw [nI_add, q1, Option.bind_some, r_digit q2, if_neg q3, if_pos rfl]
    by_cases z : j ≤ 4
    · rw [if_pos (show nI j ≤ (4 : Int32) from nI_le (b := 4) z (by decide)), if_pos z]
    · rw [if_neg (show ¬ nI j ≤ (4 : Int32) from nI_ge (a := 4) (by omega) (by omega)), if_neg z]
theorem r_named {W : Nat → Int64} {s j : Nat} {h : xG} (hW : ∀ w, w < 21 → h.2 67 w = W w) (hi : ∀ u w, u < 21 → w < 21 → W u = W w → u = w) (hj : j < 2 ^ 30) (hs : s < 2 ^ 30) (v : Int64) (k7 : Int32 → xG → Option xG) : f_X12_cut_60_135 k7 (nI s) (nI j) v (if j ≤ 8 then 1 else 3) h = (f_X12_token_60 (nI (kap (if j ≤ 8 then wKd W v 21 else 1))) (nI s) 0 v h).bind fun w => k7 (nI (s + j)) w := by
  unfold f_X12_cut_60_135
  by_cases z : j ≤ 8
  · rw [if_neg (show ¬ (8 : Int32) < nI j from nI_nlt (a := 8) z (by decide)), if_pos z, if_pos z]
    refine lpv (fun m i (a : Int32) => f_X12_cut_60_146 k7 m (nI s) (nI j) v a i h) (fun w => nI (kap (wKd W v w))) 21 _ ?_ ?_ xN 0 (Nat.zero_le _) (by decide)
    · intro m w hw
      simp only [f_X12_cut_60_146]
      rw [if_neg (show ¬ (21 : Int32) ≤ nI w from nI_ge (b := 21) hw (by decide)), xg_in hw (by decide), nI_clamp (by omega), hW w hw, nI_1, wKd_s]
      by_cases y : W w = v
      · rw [if_pos ((lg_cmp_eq _ _).mpr y)]
        have e2 : wKd W v w = 2 := by
          refine Classical.byContradiction fun x => ?_
          obtain ⟨u, u1, u2, -⟩ := wKd_has x
          have := hi u w (by omega) hw (u2.trans y.symm)
          omega
        rw [if_pos ⟨e2, y⟩, show (20 : Int32) = nI 20 from rfl, nI_add]
        unfold kap
        rw [if_pos (by omega), show 13 + w + 7 = 20 + w by omega]
      · rw [if_neg (fun x => y ((lg_cmp_eq _ _).mp x)), if_neg (fun x => y x.2)]
    · intro m
      simp only [f_X12_cut_60_146]
      rw [if_pos (show (21 : Int32) ≤ nI 21 by decide)]
      unfold f_X12_cut_60_179
      rw [nI_add]
  · rw [if_pos (show (8 : Int32) < nI j from nI_lt (a := 8) (by omega) (by omega)), if_neg z, if_neg z]
    unfold f_X12_cut_60_179
    rw [nI_add]
    rfl
