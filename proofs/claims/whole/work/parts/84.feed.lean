/-! twenty bytes more; what is counted -/
def apT (p : Int32) (n : Nat) (T : Nat → Int32) : Nat → Int32 := fun i => if i < n then T i else bVr p (24 - 8 * (i - n))
theorem sh8 : ∀ j, j < 4 → (24 - 8 * nI j : Int32) + (-8) = 24 - 8 * nI (j + 1) ∧ (24 - 8 * nI j : Int32) = nI (24 - 8 * j) := by decide
section
variable {W : Nat → Int64} {R : pR} {L : Nat}
theorem c_append {g : xG} {n : Nat} (p : Int32) {T : Nat → Int32} (hn : n + 4 ≤ 2000) (e11 : g.1 1 1 = nI n) (e2 : ∀ i, i < n → g.1 2 i = T i) : ∃ w, f_X8_append_1 p g = some w ∧ w.1 1 1 = nI (n + 4) ∧ ∀ i, i < n + 4 → w.1 2 i = apT p n T i := by
  unfold f_X8_append_1
  rw [show (24 : Int32) = 24 - 8 * nI 0 by decide]
  refine lp (fun m i (s : xG) => f_X8_append_1_3 m p (24 - 8 * i) s) (fun j w => w.1 1 1 = nI (n + j) ∧ ∀ i, i < n + j → w.1 2 i = apT p n T i) 4 (fun o => ∃ w, o = some w ∧ w.1 1 1 = nI (n + 4) ∧ ∀ i, i < n + 4 → w.1 2 i = apT p n T i) ?_ ?_ xN 0 g (Nat.zero_le _) (by decide) ⟨e11, fun i hi => (e2 i hi).trans (if_pos hi).symm⟩
  · rintro m j w hj ⟨e, e2⟩
    refine .inl ?_
    obtain ⟨q1, q2⟩ := sh8 j hj
    simp only [f_X8_append_1_3]
    rw [q1, q2, if_neg (nI_pos (by omega)), e, if_neg (nI_pos (by omega)), if_neg (show ¬ (2000 : Int32) ≤ nI (n + j) from nI_ge (b := 2000) (by omega) (by decide)), xg_in (show n + j < 2000 by omega) (by decide), nI_clamp (by omega), nI_1]
    refine ⟨_, rfl, rfl, fun i hi => ?_⟩
    show xupd (xupd w.1 2 (n + j) (bVc p (24 - 8 * j))) 1 1 (nI (n + j + 1)) 2 i = _
    rw [xu_q (show (2 : Nat) ≠ 1 by decide), xu_at]
    by_cases z : i = n + j
    · rw [if_pos ⟨rfl, z⟩, bV_eq p (by omega)]
      unfold apT
      rw [if_neg (by omega), show i - n = j by omega]
    · rw [if_neg (fun y => z y.2), e2 i (by omega)]
  · rintro m w ⟨e, e2⟩
    simp only [f_X8_append_1_3]
    rw [if_pos (show (24 - 8 * nI 4 : Int32) < 0 by decide)]
    exact ⟨w, rfl, e, e2⟩
theorem r_lays {g : xG} {n : Nat} (p : Int32) {T : Nat → Int32} (hn : n + 4 ≤ 2000) (e11 : g.1 60 2 = nI n) (e2 : ∀ i, i < n → g.1 61 i = T i) : ∃ w, f_X12_lays_60 p g = some w ∧ w.1 60 2 = nI (n + 4) ∧ ∀ i, i < n + 4 → w.1 61 i = apT p n T i := by
  unfold f_X12_lays_60
  rw [show (24 : Int32) = 24 - 8 * nI 0 by decide]
  refine lp (fun m i (s : xG) => f_X12_lays_60_3 m p (24 - 8 * i) s) (fun j w => w.1 60 2 = nI (n + j) ∧ ∀ i, i < n + j → w.1 61 i = apT p n T i) 4 (fun o => ∃ w, o = some w ∧ w.1 60 2 = nI (n + 4) ∧ ∀ i, i < n + 4 → w.1 61 i = apT p n T i) ?_ ?_ xN 0 g (Nat.zero_le _) (by decide) ⟨e11, fun i hi => (e2 i hi).trans (if_pos hi).symm⟩
  · rintro m j w hj ⟨e, e2⟩
    refine .inl ?_
    obtain ⟨q1, q2⟩ := sh8 j hj
    simp only [f_X12_lays_60_3]
    rw [q1, q2, if_neg (nI_pos (by omega)), e, xg_in (show n + j < 2000 by omega) (by decide), nI_clamp (by omega), nI_1]
    refine ⟨_, rfl, rfl, fun i hi => ?_⟩
    show xupd (xupd w.1 61 (n + j) (bVr p (24 - 8 * j))) 60 2 (nI (n + j + 1)) 61 i = _
    rw [xu_q (show (61 : Nat) ≠ 60 by decide), xu_at]
    by_cases z : i = n + j
    · rw [if_pos ⟨rfl, z⟩]
      unfold apT
      rw [if_neg (by omega), show i - n = j by omega]
    · rw [if_neg (fun y => z y.2), e2 i (by omega)]
  · rintro m w ⟨e, e2⟩
    simp only [f_X12_lays_60_3]
    rw [if_pos (show (24 - 8 * nI 4 : Int32) < 0 by decide)]
    exact ⟨w, rfl, e, e2⟩
theorem m_feed (a b c d e : Int32) : mD W R L (f_X11_feed_0 a b c d e) (f_X12_feed_60 a b c d e) := by
  intro g h
  obtain ⟨h0, h1, ⟨hp, n, hn, t1, t2, t3⟩, h3, h4, h5, h6⟩ := id h
  by_cases z : n ≤ 1980
  · obtain ⟨w1, e1, p1, q1⟩ := c_append (g := g) a (T := g.1 2) (by omega) t1 (fun _ _ => rfl)
    obtain ⟨w2, e2, p2, q2⟩ := c_append b (by omega) p1 q1
    obtain ⟨w3, e3, p3, q3⟩ := c_append c (by omega) p2 q2
    obtain ⟨w4, e4, p4, q4⟩ := c_append d (by omega) p3 q3
    obtain ⟨w5, e5, p5, q5⟩ := c_append e (by omega) p4 q4
    have cl : f_X11_feed_0 a b c d e g = some (nI (n + 20), w5) := by
      unfold f_X11_feed_0 f_X8_hasRoomForFive_1
      rw [t1, if_neg (show ¬ (1980 : Int32) < nI n from nI_nlt (a := 1980) (by omega) (by decide)), if_neg (by decide), e1, Option.bind_some, e2, Option.bind_some, e3, Option.bind_some, e4, Option.bind_some, e5, Option.bind_some]
      show some (w5.1 1 1, w5) = _
      rw [p5]
    have f1 : xfrm [(1, some 1), (2, none)] g w5 := fr_X11_feed_0 _ cl
    obtain ⟨v1, d1, r1, s1⟩ := r_lays (g := w5) a (T := g.1 2) (n := n) (by omega) (((f1 60 2 rfl).1).trans t2) (fun i hi => ((f1 61 i rfl).1).trans (t3 i hi).symm)
    obtain ⟨v2, d2, r2, s2⟩ := r_lays b (by omega) r1 s1
    obtain ⟨v3, d3, r3, s3⟩ := r_lays c (by omega) r2 s2
    obtain ⟨v4, d4, r4, s4⟩ := r_lays d (by omega) r3 s3
    obtain ⟨v5, d5, r5, s5⟩ := r_lays e (by omega) r4 s4
    have rl : f_X12_feed_60 a b c d e w5 = some (nI (n + 20), v5) := by
      unfold f_X12_feed_60
      rw [show w5.1 60 2 = nI n from ((f1 60 2 rfl).1).trans t2, show (nI n + 20 : Int32) = nI (n + 20) from nI_add n 20, if_pos (show nI (n + 20) ≤ (2000 : Int32) from nI_le (b := 2000) (by omega) (by decide)), d1, Option.bind_some, d2, Option.bind_some, d3, Option.bind_some, d4, Option.bind_some, d5, Option.bind_some, r5]
    have f2 : xfrm [(60, some 2), (61, none)] w5 v5 := fr_X12_feed_60 _ rl
    have fa : xfrm [(1, some 1), (2, none), (60, some 2), (61, none)] g v5 := (f1.wk rfl).th (f2.wk rfl)
    refine ⟨nI (n + 20), w5, v5, cl, rl, h0, h1.ag (fa.agr rfl), ⟨?_, n + 20, by omega, ?_, r5, fun i hi => ?_⟩, h3.ag (fa.agr rfl), h4.ag (fa.agr rfl), h5.ag (fa.agr rfl), h6.ag (fa.agr rfl)⟩
    · rw [(fa 0 16 rfl).1, (fa 60 17 rfl).1]
      exact hp
    · exact ((f2 1 1 rfl).1).trans p5
    · rw [(f2 2 i rfl).1, q5 i hi, s5 i hi]
  · refine m_none h (v := -1) ?_ ?_
    · unfold f_X11_feed_0 f_X8_hasRoomForFive_1
      rw [t1, if_pos (show (1980 : Int32) < nI n from nI_lt (a := 1980) (by omega) (by omega)), if_pos rfl]
    · unfold f_X12_feed_60
      rw [t2, show (nI n + 20 : Int32) = nI (n + 20) from nI_add n 20, if_neg (show ¬ nI (n + 20) ≤ (2000 : Int32) from nI_ge (a := 2000) (by omega) (by omega))]
/-! counts -/
def sSu (ρ : Nat → Int32) (b : Nat) : Nat → Int32
  | 0 => 0
  | p + 1 => sSu ρ b p + ρ (b + p)
theorem sSu_end {ρ : Nat → Int32} {b P : Nat} (h : ∀ p, P ≤ p → p < 6 → ρ (b + p) = 0) : ∀ d, P + d ≤ 6 → sSu ρ b (P + d) = sSu ρ b P
  | 0, _ => rfl
  | d + 1, hd => by
    show sSu ρ b (P + d) + ρ (b + (P + d)) = _
    rw [h (P + d) (by omega) (by omega), sSu_end h d (by omega)]
    exact Int32.add_zero _
def sMi (R : pR) (c : Nat) : Nat → Nat
  | 0 => 0
  | r + 1 => if c.testBit r = true then sMi R c r else sMi R c r + rM R r
theorem sMi_s (R : pR) (c r : Nat) : sMi R c (r + 1) = if c.testBit r = true then sMi R c r else sMi R c r + rM R r := rfl
theorem c_sum {g : xG} {P : Nat} {ρ : Nat → Int32} (h : stF P ρ (g.1 49)) (h6 : P ≤ 6) {k b : Nat} (hk : (k = 23 ∧ b = 18) ∨ (k = 29 ∧ b = 24)) : f_X6_sumOf_48 (nI k) (nI P) g = some (sSu ρ b P) := by
  unfold f_X6_sumOf_48
  refine lpv (fun n i a => f_X6_sumOf_48_5 g n (nI k) (nI P) a i) (fun p => sSu ρ b p) P _ ?_ ?_ xN 0 (Nat.zero_le _) (by show P < 4000 + 0; omega)
  · intro n p hp
    simp only [f_X6_sumOf_48_5]
    rw [if_neg (nI_ge hp (by omega)), nI_1]
    rcases hk with ⟨rfl, rfl⟩ | ⟨rfl, rfl⟩
    · rw [show f_X6_of_48 (nI p) (nI 23) g = ρ (18 + p) from c_ru48 h h6 hp]
      rfl
    · rw [show f_X6_of_48 (nI p) (nI 29) g = ρ (24 + p) from c_pu48 h h6 hp]
      rfl
  · intro n
    simp only [f_X6_sumOf_48_5]
    rw [if_pos (nI_le (Nat.le_refl _) (by omega))]
theorem r_sum {g : xG} {ρ : Nat → Int32} (h : ∀ k, k < 40 → g.1 93 k = ρ k) {b : Nat} (hb : b = 18 ∨ b = 24) : f_X12_sumNow_60 (nI b) g = some (sSu ρ b 6) := by
  unfold f_X12_sumNow_60
  refine lp (fun n i (a : Int32) => f_X12_sumNow_60_4 g n (nI b) a i) (fun k a => b ≤ k ∧ a = sSu ρ b (k - b)) (b + 6) (fun o => o = some (sSu ρ b 6)) ?_ ?_ xN b (0 : Int32) (by omega) (by show b + 6 < 4000 + b; omega) ⟨Nat.le_refl _, by rw [Nat.sub_self]; rfl⟩
  · rintro n k a hk ⟨hb2, rfl⟩
    refine .inl ?_
    simp only [f_X12_sumNow_60_4]
    rw [show (nI b + 6 : Int32) = nI (b + 6) from nI_add b 6, if_neg (nI_ge hk (by omega)), xg_in (show k < 40 by omega) (by decide), nI_clamp (by omega), h k (by omega), nI_1]
    refine ⟨_, rfl, by omega, ?_⟩
    rw [show k + 1 - b = (k - b) + 1 by omega]
    show _ = sSu ρ b (k - b) + ρ (b + (k - b))
    rw [show b + (k - b) = k by omega]
  · rintro n a ⟨-, rfl⟩
    simp only [f_X12_sumNow_60_4]
    rw [show (nI b + 6 : Int32) = nI (b + 6) from nI_add b 6, if_pos (nI_le (Nat.le_refl _) (by omega)), show b + 6 - b = 6 by omega]
theorem c_openMi {c : Nat} {g : xG} (hR : rOK R) (h : rmC g R) (hc : g.1 38 2 = nI c) (hc2 : c < 1024) : f_X7_openMiles_42 g = some (nI (sMi R c (rR R))) := by
  have h10 := hR.r
  unfold f_X7_openMiles_42
  refine lpv (fun n i a => f_X7_openMiles_42_4 g n a i) (fun r => nI (sMi R c r)) (rR R) _ ?_ ?_ xN 0 (Nat.zero_le _) (by show rR R < 4000 + 0; omega)
  · intro n r hr
    simp only [f_X7_openMiles_42_4]
    rw [show f_X4_roads_3 g = nI (rR R) from h.1.2.1, if_neg (nI_ge hr (by omega)), c_isOpen38 h hR hc (by omega) hr, c_mil h hR hr, nI_1, sMi_s, nI_add, show (nI (sMi R c r) + 0 : Int32) = nI (sMi R c r) from nI_add _ 0]
    by_cases e : c.testBit r = true
    · rw [if_pos e, if_pos rfl, if_pos e]
    · rw [if_neg e, if_neg (by decide), if_neg e]
  · intro n
    simp only [f_X7_openMiles_42_4]
    rw [show f_X4_roads_3 g = nI (rR R) from h.1.2.1, if_pos (nI_le (Nat.le_refl _) (by omega))]
theorem r_openMi {c : Nat} {ρ : Nat → Int32} {g : xG} (hR : rOK R) (h : jR L R ρ c g) (hc : ρ 36 = nI c) (hc2 : c < 1024) : f_X12_count_60_277 xN 0 0 g = some (nI (sMi R c (rR R)), g) := by
  have h10 := hR.r
  obtain ⟨⟨⟨hL, e18, eT, eR, eP, eC, eS⟩, hrr, -⟩, -, -, -⟩ := id h
  refine lpv (fun n i a => f_X12_count_60_277 n a i g) (fun r => nI (sMi R c r)) (rR R) _ ?_ ?_ xN 0 (Nat.zero_le _) (by show rR R < 4000 + 0; omega)
  · intro n r hr
    simp only [f_X12_count_60_277]
    rw [e18, xg_in hL (by decide), nI_clamp (show L < 2 ^ 31 by omega), eR, if_neg (nI_ge hr (by omega)), r_isOpen h hc (by omega) (by omega), Option.bind_some, i10, xg_in (show 10 * L + r < 20 by omega) (by decide), nI_clamp (show 10 * L + r < 2 ^ 31 by omega), (hrr r hr).2.2, nI_add, nI_1, sMi_s]
    by_cases e : c.testBit r = true
    · rw [if_pos e, if_pos rfl, if_pos e]
    · rw [if_neg e, if_neg (by decide), if_neg e]
  · intro n
    simp only [f_X12_count_60_277]
    rw [e18, xg_in hL (by decide), nI_clamp (show L < 2 ^ 31 by omega), eR, if_pos (nI_le (Nat.le_refl _) (by omega))]
def sGr (ρ : Nat → Int32) : Nat → Bool := fun p => !decide (ρ (6 + p) < 0)
theorem c_goers {g : xG} {P : Nat} {ρ : Nat → Int32} (h : stF P ρ (g.1 49)) (h6 : P ≤ 6) : f_X6_goers_48 (nI P) g = some (nI (bq (sGr ρ) P)) := by
  unfold f_X6_goers_48
  refine lpv (fun n i a => f_X6_goers_48_4 g n (nI P) a i) (fun p => nI (bq (sGr ρ) p)) P _ ?_ ?_ xN 0 (Nat.zero_le _) (by show P < 4000 + 0; omega)
  · intro n p hp
    simp only [f_X6_goers_48_4]
    rw [if_neg (nI_ge hp (by omega)), c_go48 h h6 hp, bi_bit p (by omega), bq_or, nI_1, bq_s]
    by_cases e : ρ (6 + p) < 0
    · rw [if_pos e, if_neg (by simp [sGr, e])]
    · rw [if_neg e, if_pos (by simp [sGr, e])]
  · intro n
    simp only [f_X6_goers_48_4]
    rw [if_pos (nI_le (Nat.le_refl _) (by omega))]
theorem r_goers {c : Nat} {ρ : Nat → Int32} {g : xG} (hR : rOK R) (h : jR L R ρ c g) : f_X12_count_60_236 xN 0 0 g = some (nI (bq (sGr ρ) (rP R)), g) := by
  have h6 := hR.p
  obtain ⟨⟨⟨hL, e18, eT, eR, eP, eC, eS⟩, hrr, -⟩, -, h3, -⟩ := id h
  refine lpv (fun n i a => f_X12_count_60_236 n a i g) (fun r => nI (bq (sGr ρ) r)) (rP R) _ ?_ ?_ xN 0 (Nat.zero_le _) (by show rP R < 4000 + 0; omega)
  · intro n p hp
    simp only [f_X12_count_60_236]
    rw [e18, xg_in hL (by decide), nI_clamp (show L < 2 ^ 31 by omega), eP, if_neg (nI_ge hp (by omega)), a6, xg_in (show 6 + p < 40 by omega) (by decide), nI_clamp (by omega), h3 (6 + p) (by omega), bi_sh p (by omega), bq_or, nI_1, bq_s]
    by_cases e : ρ (6 + p) < 0
    · rw [if_pos e, if_neg (by simp [sGr, e])]
    · rw [if_neg e, if_pos (by simp [sGr, e])]
  · intro n
    simp only [f_X12_count_60_236]
    rw [e18, xg_in hL (by decide), nI_clamp (show L < 2 ^ 31 by omega), eP, if_pos (nI_le (Nat.le_refl _) (by omega))]
theorem hb3 (f : Nat → Bool) : f_J6_bitCount_0f7a4 (nI (bq f 3)) = nI ((if f 0 = true then 1 else 0) + (if f 1 = true then 1 else 0) + (if f 2 = true then 1 else 0)) := by
  have key : ∀ a b d : Bool, f_J6_bitCount_0f7a4 (nI (if d = true then 2 ^ 2 + (if b = true then 2 ^ 1 + (if a = true then 2 ^ 0 + 0 else 0) else (if a = true then 2 ^ 0 + 0 else 0)) else (if b = true then 2 ^ 1 + (if a = true then 2 ^ 0 + 0 else 0) else (if a = true then 2 ^ 0 + 0 else 0)))) = nI ((if a = true then 1 else 0) + (if b = true then 1 else 0) + (if d = true then 1 else 0)) := by decide +kernel
  rw [bq_s, bq_s, bq_s]
  exact key (f 0) (f 1) (f 2)
theorem m_count (x : Int32) : mD W R L (fV (f_X11_count_0 x)) (f_X12_count_60 x) := by
  intro g h
  obtain ⟨h0, ⟨s1, s2, s3, c, hc0, s4, s5⟩, ⟨tp1, tn, htn, tp2, tp3, tp4⟩, ⟨un, unw, hun, hunw, u1, u2, u3, u4⟩, ⟨sl1, sl2⟩, ⟨hn, hhn, he1, he2, he3⟩, h6⟩ := id h
  have hP := h0.p
  obtain ⟨w1, e1, j1, -, -, km⟩ := r_copies h0 (ρ := g.1 93) ⟨s1, s2, fun _ _ => rfl⟩ s4 (by omega)
  have fr1 : xfrm [(60, some 52), (60, some 53), (94, none), (95, none)] g w1 := fr_X12_copies_60 w1 e1
  have hm1 : mM W R L w1 := h.ag (fr1.agr rfl)
  obtain ⟨⟨⟨hL, e18, eT, eR, eP, eC, eS⟩, hrr, -⟩, -, j3, -⟩ := id j1
  have fin : ∀ v, f_X11_count_0 x g = some v → f_X12_count_60 x g = some (v, w1) → ∃ v w1 w2, fV (f_X11_count_0 x) g = some (v, w1) ∧ f_X12_count_60 x w1 = some (v, w2) ∧ mM W R L w2 := fun v q1 q2 => ⟨v, g, w1, by unfold fV; rw [q1]; rfl, q2, hm1⟩
  by_cases k0 : x = 0
  · subst k0
    refine fin (nI (rT R)) ?_ ?_
    · unfold f_X11_count_0
      rw [if_pos rfl, show f_X4_towns_3 g = nI (rT R) from s5.1.1.1]
    · unfold f_X12_count_60
      rw [e1, Option.bind_some, if_pos rfl, e18, xg_in hL (by decide), nI_clamp (show L < 2 ^ 31 by omega), eT]
  by_cases k1 : x = 1
  · subst k1
    refine fin (nI (rR R)) ?_ ?_
    · unfold f_X11_count_0
      rw [if_neg k0, if_pos rfl, show f_X4_roads_3 g = nI (rR R) from s5.1.1.2.1]
    · unfold f_X12_count_60
      rw [e1, Option.bind_some, if_neg k0, if_pos rfl, e18, xg_in hL (by decide), nI_clamp (show L < 2 ^ 31 by omega), eR]
  by_cases k2 : x = 2
  · subst k2
    refine fin (nI (rP R)) ?_ ?_
    · unfold f_X11_count_0
      rw [if_neg k0, if_neg k1, if_pos rfl, show f_X4_people_3 g = nI (rP R) from s5.1.1.2.2.1]
    · unfold f_X12_count_60
      rw [e1, Option.bind_some, if_neg k0, if_neg k1, if_pos rfl, e18, xg_in hL (by decide), nI_clamp (show L < 2 ^ 31 by omega), eP]
  by_cases k3 : x = 3
  · subst k3
    refine fin (g.1 93 37) ?_ ?_
    · unfold f_X11_count_0
      rw [if_neg k0, if_neg k1, if_neg k2, if_pos rfl, c_day48 s5.2.2.2.2]
    · unfold f_X12_count_60
      rw [e1, Option.bind_some, if_neg k0, if_neg k1, if_neg k2, if_pos rfl, xg_t (by decide), show (37 : Int32).toNatClampNeg = 37 from rfl, j3 37 (by decide)]
  by_cases k4 : x = 4
  · subst k4
    refine fin (g.1 93 38) ?_ ?_
    · unfold f_X11_count_0
      rw [if_neg k0, if_neg k1, if_neg k2, if_neg k3, if_pos rfl, c_lr48 s5.2.2.2.2]
    · unfold f_X12_count_60
      rw [e1, Option.bind_some, if_neg k0, if_neg k1, if_neg k2, if_neg k3, if_pos rfl, xg_t (by decide), show (38 : Int32).toNatClampNeg = 38 from rfl, j3 38 (by decide)]
  by_cases k5 : x = 5
  · subst k5
    refine fin (g.1 93 39) ?_ ?_
    · unfold f_X11_count_0
      rw [if_neg k0, if_neg k1, if_neg k2, if_neg k3, if_neg k4, if_pos rfl, c_ls48 s5.2.2.2.2]
    · unfold f_X12_count_60
      rw [e1, Option.bind_some, if_neg k0, if_neg k1, if_neg k2, if_neg k3, if_neg k4, if_pos rfl, xg_t (by decide), show (39 : Int32).toNatClampNeg = 39 from rfl, j3 39 (by decide)]
  by_cases k6 : x = 6
  · subst k6
    refine fin (nI (bq (fun p => decide (g.1 93 (30 + p) = 1)) (rP R))) ?_ ?_
    · unfold f_X11_count_0
      rw [if_neg k0, if_neg k1, if_neg k2, if_neg k3, if_neg k4, if_neg k5, if_pos rfl, c_ba48 s5.2.2.2.2]
    · unfold f_X12_count_60
      rw [e1, Option.bind_some, if_neg k0, if_neg k1, if_neg k2, if_neg k3, if_neg k4, if_neg k5, if_pos rfl, r_barred h0 s3 j1, Option.bind_some]
  by_cases k7 : x = 7
  · subst k7
    refine fin (g.1 93 36) ?_ ?_
    · unfold f_X11_count_0
      rw [if_neg k0, if_neg k1, if_neg k2, if_neg k3, if_neg k4, if_neg k5, if_neg k6, if_pos rfl, c_cl48 s5.2.2.2.2]
    · unfold f_X12_count_60
      rw [e1, Option.bind_some, if_neg k0, if_neg k1, if_neg k2, if_neg k3, if_neg k4, if_neg k5, if_neg k6, if_pos rfl, xg_t (by decide), show (36 : Int32).toNatClampNeg = 36 from rfl, j3 36 (by decide)]
  by_cases k8 : x = 8
  · subst k8
    refine fin (nI tn) ?_ ?_
    · unfold f_X11_count_0
      rw [if_neg k0, if_neg k1, if_neg k2, if_neg k3, if_neg k4, if_neg k5, if_neg k6, if_neg k7, if_pos rfl, show f_X8_size_1 g = nI tn from tp2]
    · unfold f_X12_count_60
      rw [e1, Option.bind_some, if_neg k0, if_neg k1, if_neg k2, if_neg k3, if_neg k4, if_neg k5, if_neg k6, if_neg k7, if_pos rfl, show w1.1 60 2 = nI tn from ((fr1 60 2 rfl).1).trans tp3]
  by_cases k9 : x = 9
  · subst k9
    refine fin (nI un) ?_ ?_
    · unfold f_X11_count_0
      rw [if_neg k0, if_neg k1, if_neg k2, if_neg k3, if_neg k4, if_neg k5, if_neg k6, if_neg k7, if_neg k8, if_pos rfl, u1]
    · unfold f_X12_count_60
      rw [e1, Option.bind_some, if_neg k0, if_neg k1, if_neg k2, if_neg k3, if_neg k4, if_neg k5, if_neg k6, if_neg k7, if_neg k8, if_pos rfl, show w1.1 60 55 = nI un from ((fr1 60 55 rfl).1).trans u2]
  by_cases k10 : x = 10
  · subst k10
    refine fin (nI hn) ?_ ?_
    · unfold f_X11_count_0
      rw [if_neg k0, if_neg k1, if_neg k2, if_neg k3, if_neg k4, if_neg k5, if_neg k6, if_neg k7, if_neg k8, if_neg k9, if_pos rfl, show f_X0_size_56 g = nI hn from he1]
    · unfold f_X12_count_60
      rw [e1, Option.bind_some, if_neg k0, if_neg k1, if_neg k2, if_neg k3, if_neg k4, if_neg k5, if_neg k6, if_neg k7, if_neg k8, if_neg k9, if_pos rfl, show w1.1 60 58 = nI hn from ((fr1 60 58 rfl).1).trans he2]
  by_cases k11 : x = 11
  · subst k11
    refine fin _ (by unfold f_X11_count_0; rw [if_neg k0, if_neg k1, if_neg k2, if_neg k3, if_neg k4, if_neg k5, if_neg k6, if_neg k7, if_neg k8, if_neg k9, if_neg k10, if_pos rfl, sl1, hb3]) ?_
    unfold f_X12_count_60
    rw [e1, Option.bind_some, if_neg k0, if_neg k1, if_neg k2, if_neg k3, if_neg k4, if_neg k5, if_neg k6, if_neg k7, if_neg k8, if_neg k9, if_neg k10, if_pos rfl, xg_t (by decide)]
    unfold f_X12_count_60_184 f_X12_count_60_198
    rw [xg_t (by decide), xg_t (by decide), xg_t (by decide), xg_t (by decide), show (0 : Int32).toNatClampNeg = 0 from rfl, show (1 : Int32).toNatClampNeg = 1 from rfl, show (2 : Int32).toNatClampNeg = 2 from rfl, (fr1 101 0 rfl).1, (fr1 101 1 rfl).1, (fr1 101 2 rfl).1]
    rcases (sl2 0 (by decide)).1 with q0 | q0 <;> rcases (sl2 1 (by decide)).1 with q1 | q1 <;> rcases (sl2 2 (by decide)).1 with q2 | q2 <;> rw [q0, q1, q2] <;> rfl
  by_cases k12 : x = 12
  · subst k12
    refine fin (nI (sThere R (g.1 93))) ?_ ?_
    · unfold f_X11_count_0
      rw [if_neg k0, if_neg k1, if_neg k2, if_neg k3, if_neg k4, if_neg k5, if_neg k6, if_neg k7, if_neg k8, if_neg k9, if_neg k10, if_neg k11, if_pos rfl, show f_X4_capital_3 g = nI (rC R) from s5.1.1.2.2.2.1, show f_X4_people_3 g = nI (rP R) from s5.1.1.2.2.1, c_peopleIn48 s5.2.2.2.2 hP, Option.bind_some]
      rfl
    · unfold f_X12_count_60
      rw [e1, Option.bind_some, if_neg k0, if_neg k1, if_neg k2, if_neg k3, if_neg k4, if_neg k5, if_neg k6, if_neg k7, if_neg k8, if_neg k9, if_neg k10, if_neg k11, if_pos rfl, r_there j1 h0, Option.bind_some]
  by_cases k13 : x = 13
  · subst k13
    refine fin (sSu (g.1 93) 18 (rP R)) ?_ ?_
    · unfold f_X11_count_0
      rw [if_neg k0, if_neg k1, if_neg k2, if_neg k3, if_neg k4, if_neg k5, if_neg k6, if_neg k7, if_neg k8, if_neg k9, if_neg k10, if_neg k11, if_neg k12, if_pos rfl, show f_X4_people_3 g = nI (rP R) from s5.1.1.2.2.1, show f_X6_sumOf_48 23 (nI (rP R)) g = _ from c_sum s5.2.2.2.2 hP (k := 23) (.inl ⟨rfl, rfl⟩), Option.bind_some]
    · unfold f_X12_count_60
      rw [e1, Option.bind_some, if_neg k0, if_neg k1, if_neg k2, if_neg k3, if_neg k4, if_neg k5, if_neg k6, if_neg k7, if_neg k8, if_neg k9, if_neg k10, if_neg k11, if_neg k12, if_pos rfl, show f_X12_sumNow_60 18 w1 = some (sSu (g.1 93) 18 6) from r_sum (b := 18) km.2.2 (.inl rfl), Option.bind_some, show sSu (g.1 93) 18 6 = sSu (g.1 93) 18 (rP R) from by
        have := sSu_end (b := 18) (fun p a b => (s3.2.2 p a b).1) (6 - rP R) (by omega)
        rw [show rP R + (6 - rP R) = 6 by omega] at this
        exact this]
  by_cases k14 : x = 14
  · subst k14
    refine fin (sSu (g.1 93) 24 (rP R)) ?_ ?_
    · unfold f_X11_count_0
      rw [if_neg k0, if_neg k1, if_neg k2, if_neg k3, if_neg k4, if_neg k5, if_neg k6, if_neg k7, if_neg k8, if_neg k9, if_neg k10, if_neg k11, if_neg k12, if_neg k13, if_pos rfl, show f_X4_people_3 g = nI (rP R) from s5.1.1.2.2.1, show f_X6_sumOf_48 29 (nI (rP R)) g = _ from c_sum s5.2.2.2.2 hP (k := 29) (.inr ⟨rfl, rfl⟩), Option.bind_some]
    · unfold f_X12_count_60
      rw [e1, Option.bind_some, if_neg k0, if_neg k1, if_neg k2, if_neg k3, if_neg k4, if_neg k5, if_neg k6, if_neg k7, if_neg k8, if_neg k9, if_neg k10, if_neg k11, if_neg k12, if_neg k13, if_pos rfl, show f_X12_sumNow_60 24 w1 = some (sSu (g.1 93) 24 6) from r_sum (b := 24) km.2.2 (.inr rfl), Option.bind_some, show sSu (g.1 93) 24 6 = sSu (g.1 93) 24 (rP R) from by
        have := sSu_end (b := 24) (fun p a b => (s3.2.2 p a b).2) (6 - rP R) (by omega)
        rw [show rP R + (6 - rP R) = 6 by omega] at this
        exact this]
  by_cases k15 : x = 15
  · subst k15
    refine fin (nI (bq (sGr (g.1 93)) (rP R))) ?_ ?_
    · unfold f_X11_count_0
      rw [if_neg k0, if_neg k1, if_neg k2, if_neg k3, if_neg k4, if_neg k5, if_neg k6, if_neg k7, if_neg k8, if_neg k9, if_neg k10, if_neg k11, if_neg k12, if_neg k13, if_neg k14, if_pos rfl, show f_X4_people_3 g = nI (rP R) from s5.1.1.2.2.1, c_goers s5.2.2.2.2 hP, Option.bind_some]
    · unfold f_X12_count_60
      rw [e1, Option.bind_some, if_neg k0, if_neg k1, if_neg k2, if_neg k3, if_neg k4, if_neg k5, if_neg k6, if_neg k7, if_neg k8, if_neg k9, if_neg k10, if_neg k11, if_neg k12, if_neg k13, if_neg k14, if_pos rfl, r_goers h0 j1]
  by_cases k16 : x = 16
  · subst k16
    refine fin (nI (sMi R c (rR R))) ?_ ?_
    · unfold f_X11_count_0
      rw [if_neg k0, if_neg k1, if_neg k2, if_neg k3, if_neg k4, if_neg k5, if_neg k6, if_neg k7, if_neg k8, if_neg k9, if_neg k10, if_neg k11, if_neg k12, if_neg k13, if_neg k14, if_neg k15, if_pos rfl, c_openMi h0 s5.1 s5.2.2.1 hc0, Option.bind_some]
    · unfold f_X12_count_60
      rw [e1, Option.bind_some, if_neg k0, if_neg k1, if_neg k2, if_neg k3, if_neg k4, if_neg k5, if_neg k6, if_neg k7, if_neg k8, if_neg k9, if_neg k10, if_neg k11, if_neg k12, if_neg k13, if_neg k14, if_neg k15, if_pos rfl, r_openMi h0 j1 s4 hc0]
  refine fin (-1) ?_ ?_
  · unfold f_X11_count_0
    rw [if_neg k0, if_neg k1, if_neg k2, if_neg k3, if_neg k4, if_neg k5, if_neg k6, if_neg k7, if_neg k8, if_neg k9, if_neg k10, if_neg k11, if_neg k12, if_neg k13, if_neg k14, if_neg k15, if_neg k16]
  · unfold f_X12_count_60
    rw [e1, Option.bind_some, if_neg k0, if_neg k1, if_neg k2, if_neg k3, if_neg k4, if_neg k5, if_neg k6, if_neg k7, if_neg k8, if_neg k9, if_neg k10, if_neg k11, if_neg k12, if_neg k13, if_neg k14, if_neg k15, if_neg k16]
end
