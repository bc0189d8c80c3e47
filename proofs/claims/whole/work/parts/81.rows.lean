/-! rows kept and taken back -/
theorem md40 (a : Nat) (h : a < 2 ^ 31) : (nI a - nI a / 40 * 40 : Int32) = nI (a % 40) := pk_rem (d := 40) h (by decide) (by decide)
/-- the class keeps its state's row at a place of a shelf -/
theorem c_keep52 {g : xG} {s : Nat} (hs : s < 40) : ∃ w, f_X5_keep_52_48 (nI s) g = some w ∧ xfrm [(53, none)] g w ∧ (∀ q, (∀ i, i < 35 → q ≠ 35 * s + i) → w.1 53 q = g.1 53 q) ∧ ∀ i, i < 35 → w.1 53 (35 * s + i) = g.1 49 i := by
  unfold f_X5_keep_52_48
  refine lp (fun n i (w : xG) => f_X5_keep_52_48_2 n (nI s) i w) (fun k w => xfrm [(53, none)] g w ∧ (∀ q, (∀ i, i < 35 → q ≠ 35 * s + i) → w.1 53 q = g.1 53 q) ∧ ∀ i, i < k → w.1 53 (35 * s + i) = g.1 49 i) 35 (fun o => ∃ w, o = some w ∧ xfrm [(53, none)] g w ∧ (∀ q, (∀ i, i < 35 → q ≠ 35 * s + i) → w.1 53 q = g.1 53 q) ∧ ∀ i, i < 35 → w.1 53 (35 * s + i) = g.1 49 i) ?_ ?_ xN 0 g (Nat.zero_le _) (by decide) ⟨xfrm.rf, fun _ _ => rfl, fun i hi => by omega⟩
  · rintro n k w hk ⟨f, e1, e2⟩
    refine .inl ?_
    simp only [f_X5_keep_52_48_2]
    rw [if_neg (show ¬ (35 : Int32) ≤ nI k from nI_ge hk (by decide)), xl_e, i35, xput_in (show 35 * s + k < 1400 by omega) (by decide), show f_X6_get_48 (nI k) w = g.1 49 k from (xat_in hk (by decide)).trans (f 49 k rfl).1, nI_1]
    refine ⟨_, rfl, xfrm.up f rfl, fun q hq => ?_, fun i hi => ?_⟩
    · dsimp only
      rw [xu_at, if_neg (fun y => hq k hk y.2), e1 q hq]
    · dsimp only
      rw [xu_at]
      by_cases z : i = k
      · rw [if_pos ⟨rfl, by rw [z]⟩, z]
      · rw [if_neg (fun y => z (by omega)), e2 i (by omega)]
  · rintro n w ⟨f, e1, e2⟩
    simp only [f_X5_keep_52_48_2]
    rw [if_pos (show (35 : Int32) ≤ nI 35 by decide)]
    exact ⟨w, rfl, f, e1, e2⟩
theorem c_keep54 {g : xG} {s : Nat} (hs : s < 3) : ∃ w, f_X5_keep_54_48 (nI s) g = some w ∧ xfrm [(55, none)] g w ∧ (∀ q, (∀ i, i < 35 → q ≠ 35 * s + i) → w.1 55 q = g.1 55 q) ∧ ∀ i, i < 35 → w.1 55 (35 * s + i) = g.1 49 i := by
  unfold f_X5_keep_54_48
  refine lp (fun n i (w : xG) => f_X5_keep_54_48_2 n (nI s) i w) (fun k w => xfrm [(55, none)] g w ∧ (∀ q, (∀ i, i < 35 → q ≠ 35 * s + i) → w.1 55 q = g.1 55 q) ∧ ∀ i, i < k → w.1 55 (35 * s + i) = g.1 49 i) 35 (fun o => ∃ w, o = some w ∧ xfrm [(55, none)] g w ∧ (∀ q, (∀ i, i < 35 → q ≠ 35 * s + i) → w.1 55 q = g.1 55 q) ∧ ∀ i, i < 35 → w.1 55 (35 * s + i) = g.1 49 i) ?_ ?_ xN 0 g (Nat.zero_le _) (by decide) ⟨xfrm.rf, fun _ _ => rfl, fun i hi => by omega⟩
  · rintro n k w hk ⟨f, e1, e2⟩
    refine .inl ?_
    simp only [f_X5_keep_54_48_2]
    rw [if_neg (show ¬ (35 : Int32) ≤ nI k from nI_ge hk (by decide)), xl_e, i35, xput_in (show 35 * s + k < 105 by omega) (by decide), show f_X6_get_48 (nI k) w = g.1 49 k from (xat_in hk (by decide)).trans (f 49 k rfl).1, nI_1]
    refine ⟨_, rfl, xfrm.up f rfl, fun q hq => ?_, fun i hi => ?_⟩
    · dsimp only
      rw [xu_at, if_neg (fun y => hq k hk y.2), e1 q hq]
    · dsimp only
      rw [xu_at]
      by_cases z : i = k
      · rw [if_pos ⟨rfl, by rw [z]⟩, z]
      · rw [if_neg (fun y => z (by omega)), e2 i (by omega)]
  · rintro n w ⟨f, e1, e2⟩
    simp only [f_X5_keep_54_48_2]
    rw [if_pos (show (35 : Int32) ≤ nI 35 by decide)]
    exact ⟨w, rfl, f, e1, e2⟩
theorem c_take52 {g : xG} {s : Nat} (hs : s < 40) : ∃ w, f_X5_take_52_48 (nI s) g = some w ∧ xfrm [(49, none)] g w ∧ ∀ i, i < 35 → w.1 49 i = g.1 53 (35 * s + i) := by
  unfold f_X5_take_52_48
  refine lp (fun n i (w : xG) => f_X5_take_52_48_2 n (nI s) i w) (fun k w => xfrm [(49, none)] g w ∧ ∀ i, i < k → w.1 49 i = g.1 53 (35 * s + i)) 35 (fun o => ∃ w, o = some w ∧ xfrm [(49, none)] g w ∧ ∀ i, i < 35 → w.1 49 i = g.1 53 (35 * s + i)) ?_ ?_ xN 0 g (Nat.zero_le _) (by decide) ⟨xfrm.rf, fun i hi => by omega⟩
  · rintro n k w hk ⟨f, e2⟩
    refine .inl ?_
    simp only [f_X5_take_52_48_2]
    rw [if_neg (show ¬ (35 : Int32) ≤ nI k from nI_ge hk (by decide)), xl_e, i35, xat_in (show 35 * s + k < 1400 by omega) (by decide), c_put48 hk, nI_1, (f 53 (35 * s + k) rfl).1]
    refine ⟨_, rfl, xfrm.up f rfl, fun i hi => ?_⟩
    dsimp only
    rw [xu_at]
    by_cases z : i = k
    · rw [if_pos ⟨rfl, z⟩, z]
    · rw [if_neg (fun y => z y.2), e2 i (by omega)]
  · rintro n w ⟨f, e2⟩
    simp only [f_X5_take_52_48_2]
    rw [if_pos (show (35 : Int32) ≤ nI 35 by decide)]
    exact ⟨w, rfl, f, e2⟩
theorem c_take54 {g : xG} {s : Nat} (hs : s < 3) : ∃ w, f_X5_take_54_48 (nI s) g = some w ∧ xfrm [(49, none)] g w ∧ ∀ i, i < 35 → w.1 49 i = g.1 55 (35 * s + i) := by
  unfold f_X5_take_54_48
  refine lp (fun n i (w : xG) => f_X5_take_54_48_2 n (nI s) i w) (fun k w => xfrm [(49, none)] g w ∧ ∀ i, i < k → w.1 49 i = g.1 55 (35 * s + i)) 35 (fun o => ∃ w, o = some w ∧ xfrm [(49, none)] g w ∧ ∀ i, i < 35 → w.1 49 i = g.1 55 (35 * s + i)) ?_ ?_ xN 0 g (Nat.zero_le _) (by decide) ⟨xfrm.rf, fun i hi => by omega⟩
  · rintro n k w hk ⟨f, e2⟩
    refine .inl ?_
    simp only [f_X5_take_54_48_2]
    rw [if_neg (show ¬ (35 : Int32) ≤ nI k from nI_ge hk (by decide)), xl_e, i35, xat_in (show 35 * s + k < 105 by omega) (by decide), c_put48 hk, nI_1, (f 55 (35 * s + k) rfl).1]
    refine ⟨_, rfl, xfrm.up f rfl, fun i hi => ?_⟩
    dsimp only
    rw [xu_at]
    by_cases z : i = k
    · rw [if_pos ⟨rfl, z⟩, z]
    · rw [if_neg (fun y => z y.2), e2 i (by omega)]
  · rintro n w ⟨f, e2⟩
    simp only [f_X5_take_54_48_2]
    rw [if_pos (show (35 : Int32) ≤ nI 35 by decide)]
    exact ⟨w, rfl, f, e2⟩
theorem c_remember {g : xG} {n nw : Nat} (hn : n ≤ 40) (hw : nw < 40) (e13 : g.1 0 13 = nI n) (e14 : g.1 0 14 = nI nw) : ∃ w, f_X11_remember_0 g = some w ∧ xfrm [(0, some 13), (0, some 14), (53, none)] g w ∧ w.1 0 13 = nI (min (n + 1) 40) ∧ w.1 0 14 = nI ((nw + 1) % 40) ∧ (∀ q, (∀ i, i < 35 → q ≠ 35 * ((nw + 1) % 40) + i) → w.1 53 q = g.1 53 q) ∧ ∀ i, i < 35 → w.1 53 (35 * ((nw + 1) % 40) + i) = g.1 49 i := by
  unfold f_X11_remember_0
  rw [xg_t (by decide), e14, nI_1, md40 _ (by omega)]
  obtain ⟨w, e, f, h1, h2⟩ := c_keep52 (g := (xupd g.1 0 14 (nI ((nw + 1) % 40)), g.2)) (s := (nw + 1) % 40) (by omega)
  rw [e, Option.bind_some]
  have f0 : xfrm [(0, some 14)] g (xupd g.1 0 14 (nI ((nw + 1) % 40)), g.2) := xfrm.up xfrm.rf rfl
  have e13' : w.1 0 13 = nI n := ((f 0 13 rfl).1).trans (((f0 0 13 rfl).1).trans e13)
  rw [e13', nI_1, show (40 : Int32) = nI 40 from rfl, mn_in (by omega) (by decide)]
  refine ⟨_, rfl, ?_, rfl, ?_, fun q hq => ?_, fun i hi => ?_⟩
  · exact xfrm.up (fun q k hq => ⟨((f q k (xsubf_ok rfl hq)).1).trans (f0 q k (xsubf_ok rfl hq)).1, ((f q k (xsubf_ok rfl hq)).2).trans (f0 q k (xsubf_ok rfl hq)).2⟩) rfl
  · exact ((f 0 14 rfl).1).trans rfl
  · exact (h1 q hq).trans (f0 53 q rfl).1
  · exact (h2 i hi).trans (f0 49 i rfl).1
/-! the reference's -/
theorem r_keeps {g : xG} : ∃ w, f_X12_keepsRow_60 g = some w ∧ xfrm [(93, none)] g w ∧ ∀ k, k < 40 → w.1 93 k = g.1 94 k := by
  unfold f_X12_keepsRow_60
  refine lp (fun n i (w : xG) => f_X12_keepsRow_60_2 n i w) (fun k w => xfrm [(93, none)] g w ∧ ∀ i, i < k → w.1 93 i = g.1 94 i) 40 (fun o => ∃ w, o = some w ∧ xfrm [(93, none)] g w ∧ ∀ k, k < 40 → w.1 93 k = g.1 94 k) ?_ ?_ xN 0 g (Nat.zero_le _) (by decide) ⟨xfrm.rf, fun i hi => by omega⟩
  · rintro n k w hk ⟨f, e2⟩
    refine .inl ?_
    simp only [f_X12_keepsRow_60_2]
    rw [if_neg (show ¬ (40 : Int32) ≤ nI k from nI_ge hk (by decide)), xg_in hk (by decide), xg_in hk (by decide), nI_clamp (by omega), nI_1, (f 94 k rfl).1]
    refine ⟨_, rfl, xfrm.up f rfl, fun i hi => ?_⟩
    dsimp only
    rw [xu_at]
    by_cases z : i = k
    · rw [if_pos ⟨rfl, z⟩, z]
    · rw [if_neg (fun y => z y.2), e2 i (by omega)]
  · rintro n w ⟨f, e2⟩
    simp only [f_X12_keepsRow_60_2]
    rw [if_pos (show (40 : Int32) ≤ nI 40 by decide)]
    exact ⟨w, rfl, f, e2⟩
theorem r_rec51 {g : xG} {n : Nat} (hn : n < 40) (e55 : g.1 60 55 = nI n) : ∃ w, f_X12_records_60_51 xN 0 g = some w ∧ xfrm [(60, some 55), (93, none), (96, none)] g w ∧ w.1 60 55 = nI (n + 1) ∧ (∀ k, k < 40 → w.1 93 k = g.1 94 k) ∧ (∀ q, q < 40 * n → w.1 96 q = g.1 96 q) ∧ ∀ k, k < 40 → w.1 96 (40 * n + k) = g.1 93 k := by
  refine lp (fun m i (w : xG) => f_X12_records_60_51 m i w) (fun k w => xfrm [(96, none)] g w ∧ (∀ q, q < 40 * n → w.1 96 q = g.1 96 q) ∧ ∀ i, i < k → w.1 96 (40 * n + i) = g.1 93 i) 40 (fun o => ∃ w, o = some w ∧ xfrm [(60, some 55), (93, none), (96, none)] g w ∧ w.1 60 55 = nI (n + 1) ∧ (∀ k, k < 40 → w.1 93 k = g.1 94 k) ∧ (∀ q, q < 40 * n → w.1 96 q = g.1 96 q) ∧ ∀ k, k < 40 → w.1 96 (40 * n + k) = g.1 93 k) ?_ ?_ xN 0 g (Nat.zero_le _) (by decide) ⟨xfrm.rf, fun _ _ => rfl, fun i hi => by omega⟩
  · rintro m k w hk ⟨f, e1, e2⟩
    refine .inl ?_
    simp only [f_X12_records_60_51]
    rw [if_neg (show ¬ (40 : Int32) ≤ nI k from nI_ge hk (by decide)), (f 60 55 rfl).1, e55, i40, xg_in hk (by decide), xg_in (show 40 * n + k < 1600 by omega) (by decide), nI_clamp (show k < 2 ^ 31 by omega), nI_clamp (show 40 * n + k < 2 ^ 31 by omega), nI_1, (f 93 k rfl).1]
    refine ⟨_, rfl, xfrm.up f rfl, fun q hq => ?_, fun i hi => ?_⟩
    · dsimp only
      rw [xu_at, if_neg (fun y => by omega), e1 q hq]
    · dsimp only
      rw [xu_at]
      by_cases z : i = k
      · rw [if_pos ⟨rfl, by rw [z]⟩, z]
      · rw [if_neg (fun y => z (by omega)), e2 i (by omega)]
  · rintro m w ⟨f, e1, e2⟩
    simp only [f_X12_records_60_51]
    rw [if_pos (show (40 : Int32) ≤ nI 40 by decide), (f 60 55 rfl).1, e55, nI_1]
    have f2 : xfrm [(60, some 55)] w (xupd w.1 60 55 (nI (n + 1)), w.2) := xfrm.up xfrm.rf rfl
    obtain ⟨w3, q1, q2, q3⟩ := r_keeps (g := (xupd w.1 60 55 (nI (n + 1)), w.2))
    rw [q1, Option.bind_some]
    refine ⟨w3, rfl, fun q k hq => ?_, ?_, fun k hk => ?_, fun q hq => ?_, fun k hk => ?_⟩
    · exact ⟨((q2 q k (xsubf_ok rfl hq)).1).trans (((f2 q k (xsubf_ok rfl hq)).1).trans (f q k (xsubf_ok rfl hq)).1), ((q2 q k (xsubf_ok rfl hq)).2).trans (((f2 q k (xsubf_ok rfl hq)).2).trans (f q k (xsubf_ok rfl hq)).2)⟩
    · exact ((q2 60 55 rfl).1).trans rfl
    · exact (q3 k hk).trans (((f2 94 k rfl).1).trans (f 94 k rfl).1)
    · exact ((q2 96 q rfl).1).trans (((f2 96 q rfl).1).trans (e1 q hq))
    · exact ((q2 96 _ rfl).1).trans (((f2 96 _ rfl).1).trans (e2 k hk))
theorem r_records {g : xG} {n : Nat} (hn : n ≤ 40) (e55 : g.1 60 55 = nI n) : ∃ w, f_X12_records_60 g = some w ∧ xfrm [(60, some 55), (93, none), (96, none)] g w ∧ w.1 60 55 = nI (min (n + 1) 40) ∧ (∀ k, k < 40 → w.1 93 k = g.1 94 k) ∧ (∀ q, q < 40 * min n 39 → w.1 96 q = g.1 96 (if n = 40 then q + 40 else q)) ∧ ∀ k, k < 40 → w.1 96 (40 * min n 39 + k) = g.1 93 k := by
  unfold f_X12_records_60
  by_cases z : n = 40
  · subst z
    rw [e55, if_pos (show nI 40 = (40 : Int32) from rfl)]
    refine lp (fun m i (w : xG) => f_X12_records_60_11 m i w) (fun k w => xfrm [(96, none)] g w ∧ ∀ q, q < 1600 → w.1 96 q = g.1 96 (if q < k then q + 40 else q)) 1560 (fun o => ∃ w, o = some w ∧ xfrm [(60, some 55), (93, none), (96, none)] g w ∧ w.1 60 55 = nI (min (40 + 1) 40) ∧ (∀ k, k < 40 → w.1 93 k = g.1 94 k) ∧ (∀ q, q < 40 * min 40 39 → w.1 96 q = g.1 96 (if 40 = 40 then q + 40 else q)) ∧ ∀ k, k < 40 → w.1 96 (40 * min 40 39 + k) = g.1 93 k) ?_ ?_ xN 0 g (Nat.zero_le _) (by decide) ⟨xfrm.rf, fun q _ => by rw [if_neg (Nat.not_lt_zero q)]⟩
    · rintro m k w hk ⟨f, e1⟩
      refine .inl ?_
      simp only [f_X12_records_60_11]
      rw [if_neg (show ¬ (1560 : Int32) ≤ nI k from nI_ge hk (by decide)), show (nI k + 40 : Int32) = nI (k + 40) from nI_add k 40, xg_in (show k + 40 < 1600 by omega) (by decide), xg_in (show k < 1600 by omega) (by decide), nI_clamp (show k < 2 ^ 31 by omega), nI_clamp (show k + 40 < 2 ^ 31 by omega), nI_1, e1 (k + 40) (by omega), if_neg (show ¬ k + 40 < k by omega)]
      refine ⟨_, rfl, xfrm.up f rfl, fun q hq => ?_⟩
      dsimp only
      rw [xu_at]
      by_cases y : q = k
      · rw [if_pos ⟨rfl, y⟩, if_pos (by omega), y]
      · rw [if_neg (fun x => y x.2), e1 q hq]
        by_cases x : q < k
        · rw [if_pos x, if_pos (by omega)]
        · rw [if_neg x, if_neg (by omega)]
    · rintro m w ⟨f, e1⟩
      simp only [f_X12_records_60_11]
      rw [if_pos (show (1560 : Int32) ≤ nI 1560 by decide), (f 60 55 rfl).1, e55, show (nI 40 - 1 : Int32) = nI 39 from rfl]
      have f2 : xfrm [(60, some 55)] w (xupd w.1 60 55 (nI 39), w.2) := xfrm.up xfrm.rf rfl
      obtain ⟨w3, q1, q2, q3, q4, q5, q6⟩ := r_rec51 (g := (xupd w.1 60 55 (nI 39), w.2)) (n := 39) (by decide) rfl
      refine ⟨w3, q1, fun q k hq => ?_, q3, fun k hk => ?_, fun q hq => ?_, fun k hk => ?_⟩
      · exact ⟨((q2 q k (xsubf_ok rfl hq)).1).trans (((f2 q k (xsubf_ok rfl hq)).1).trans (f q k (xsubf_ok rfl hq)).1), ((q2 q k (xsubf_ok rfl hq)).2).trans (((f2 q k (xsubf_ok rfl hq)).2).trans (f q k (xsubf_ok rfl hq)).2)⟩
      · exact (q4 k hk).trans (((f2 94 k rfl).1).trans (f 94 k rfl).1)
      · have hq' : q < 1560 := hq
        refine (q5 q (by omega)).trans (((f2 96 q rfl).1).trans ((e1 q (by omega)).trans ?_))
        rw [if_pos (by omega), if_pos trivial]
      · exact (q6 k hk).trans (((f2 93 k rfl).1).trans (f 93 k rfl).1)
  · rw [e55, if_neg (show ¬ nI n = (40 : Int32) from fun y => z ((nI_eq (b := 40) (by omega) (by decide)).mp y))]
    obtain ⟨w3, q1, q2, q3, q4, q5, q6⟩ := r_rec51 (n := n) (by omega) e55
    rw [show min n 39 = n by omega, show min (n + 1) 40 = n + 1 by omega]
    refine ⟨w3, q1, q2, q3, q4, fun q hq => ?_, q6⟩
    rw [if_neg z]
    exact q5 q hq
/-! both: what was before is kept, what is now is new -/
def fNew : List (Nat × Option Nat) := [(38, some 2), (39, none), (49, none), (16, none), (45, none)]
def fRef : List (Nat × Option Nat) := [(60, some 49), (60, some 52), (60, some 53), (91, none), (92, none), (94, none), (95, none)]
def fAll : List (Nat × Option Nat) := [(0, some 13), (0, some 14), (53, none), (38, some 2), (39, none), (49, none), (16, none), (45, none), (60, some 49), (60, some 52), (60, some 53), (91, none), (92, none), (94, none), (95, none), (60, some 55), (93, none), (96, none)]
theorem xfrm.wk {A B : List (Nat × Option Nat)} {g w : xG} (h : xfrm A g w) (hs : xsubf A B = true) : xfrm B g w := fun q k hq => h q k (xsubf_ok hs hq)
theorem xfrm.th {A : List (Nat × Option Nat)} {g w v : xG} (h1 : xfrm A g w) (h2 : xfrm A w v) : xfrm A g v := fun q k hq => ⟨((h2 q k hq).1).trans (h1 q k hq).1, ((h2 q k hq).2).trans (h1 q k hq).2⟩
theorem m_rec {W : Nat → Int64} {R : pR} {L c' : Nat} {g w1 w2 w3 : xG} {ρ' : Nat → Int32} (h : mM W R L g) (e1 : f_X11_remember_0 g = some w1) (f2 : xfrm fNew w1 w2) (f3 : xfrm fRef w2 w3) (e94 : ∀ k, k < 40 → w3.1 94 k = ρ' k) (ho : rowOK R ρ') (hc : ρ' 36 = nI c') (hc2 : c' < 1024) (j : jC_44_48 R ρ' c' w2) : ∃ w4, f_X12_records_60 w3 = some w4 ∧ mM W R L w4 ∧ ∀ k, k < 40 → w4.1 93 k = ρ' k := by
  obtain ⟨h0, h1, h2, h3, h4, h5, h6⟩ := h
  obtain ⟨s1, s2, s3, c, hc0, s4, s5⟩ := h1
  obtain ⟨n, nw, hn, hw, u1, u2, u3, u4⟩ := h3
  obtain ⟨w1', e1', f1, p13, p14, pold, pnew⟩ := c_remember hn hw u1 u3
  rw [e1] at e1'
  cases e1'
  have i55 : w3.1 60 55 = nI n := ((f3 60 55 rfl).1).trans (((f2 60 55 rfl).1).trans (((f1 60 55 rfl).1).trans u2))
  obtain ⟨w4, q1, q2, q3, q4, q5, q6⟩ := r_records hn i55
  have fa : xfrm fAll g w4 := (f1.wk rfl).th ((f2.wk rfl).th ((f3.wk rfl).th (q2.wk rfl)))
  have f234 : xfrm (fNew ++ fRef ++ [(60, some 55), (93, none), (96, none)]) w1 w4 := (f2.wk rfl).th ((f3.wk rfl).th (q2.wk rfl))
  have f34 : xfrm (fRef ++ [(60, some 55), (93, none), (96, none)]) w2 w4 := (f3.wk rfl).th (q2.wk rfl)
  have now : ∀ k, k < 40 → w4.1 93 k = ρ' k := fun k hk => (q4 k hk).trans (e94 k hk)
  refine ⟨w4, q1, ⟨h0, ?_, h2.ag (fa.agr rfl), ?_, h4.ag (fa.agr rfl), h5.ag (fa.agr rfl), h6.ag (fa.agr rfl)⟩, now⟩
  · have j4 := j.ag (f34.agr (C := kJ_44_48) rfl)
    refine ⟨s1.ag (fa.agr rfl), s2.ag (fa.agr rfl), rowOK_eq h0 ho now, c', hc2, (now 36 (by decide)).trans hc, j4.1, j4.2.1, j4.2.2.1, j4.2.2.2.1, stF_eq h0.p j4.2.2.2.2 now (fun _ _ => rfl)⟩
  · refine ⟨min (n + 1) 40, (nw + 1) % 40, by omega, by omega, ?_, q3, ?_, fun jj hj => ?_⟩
    · exact ((f234 0 13 rfl).1).trans p13
    · exact ((f234 0 14 rfl).1).trans p14
    · have e53 : ∀ q, w4.1 53 q = w1.1 53 q := fun q => (f234 53 q rfl).1
      have old96 : ∀ q, w3.1 96 q = g.1 96 q := fun q => ((f3 96 q rfl).1).trans (((f2 96 q rfl).1).trans (f1 96 q rfl).1)
      have old93 : ∀ q, w3.1 93 q = g.1 93 q := fun q => ((f3 93 q rfl).1).trans (((f2 93 q rfl).1).trans (f1 93 q rfl).1)
      by_cases z : jj = min n 39
      · subst z
        have ea : ∀ k, k < 40 → w4.1 96 (40 * min n 39 + k) = g.1 93 k := fun k hk => (q6 k hk).trans (old93 k)
        refine ⟨rowOK_eq h0 s3 ea, stF_eq h0.p s5.2.2.2.2 ea (fun i hi => ?_)⟩
        rw [show ((nw + 1) % 40 + 41 + min n 39 - min (n + 1) 40) % 40 = (nw + 1) % 40 by omega]
        exact (e53 _).trans (pnew i hi)
      · have hj' : (if n = 40 then jj + 1 else jj) < n := by split <;> omega
        obtain ⟨a1, a2⟩ := u4 (if n = 40 then jj + 1 else jj) hj'
        have ea : ∀ k, k < 40 → w4.1 96 (40 * jj + k) = g.1 96 (40 * (if n = 40 then jj + 1 else jj) + k) := fun k hk => by
          have ex : (if n = 40 then 40 * jj + k + 40 else 40 * jj + k) = 40 * (if n = 40 then jj + 1 else jj) + k := by
            by_cases z4 : n = 40
            · simp only [if_pos z4]
              omega
            · simp only [if_neg z4]
          rw [q5 (40 * jj + k) (by omega), old96, ex]
        refine ⟨rowOK_eq h0 a1 ea, stF_eq h0.p a2 ea (fun i hi => ?_)⟩
        have es : ((nw + 1) % 40 + 41 + jj - min (n + 1) 40) % 40 = (nw + 41 + (if n = 40 then jj + 1 else jj) - n) % 40 := by
          split <;> omega
        rw [es]
        refine (e53 _).trans (pold _ (fun i' hi' => ?_))
        split <;> omega
theorem m_do {W : Nat → Int64} {R : pR} {L c' : Nat} {g w1 w2 : xG} {k : Nat} {v : Int32} (h : mM W R L g) (e1 : f_X11_remember_0 g = some w1) (f2 : xfrm fNew w1 w2) (hk : k < 40) (ho : rowOK R (upd (g.1 93) k v)) (hc : upd (g.1 93) k v 36 = nI c') (hc2 : c' < 1024) (j : jC_44_48 R (upd (g.1 93) k v) c' w2) : ∃ w3, f_X12_does_60 (nI k) v w2 = some (1, w3) ∧ mM W R L w3 := by
  obtain ⟨h0, ⟨s1, s2, s3, c, hc0, s4, s5⟩, -⟩ := id h
  have f1 : xfrm [(0, some 13), (0, some 14), (53, none)] g w1 := fr_X11_remember_0 w1 e1
  have f12 : xfrm [(0, some 13), (0, some 14), (53, none), (38, some 2), (39, none), (49, none), (16, none), (45, none)] g w2 := (f1.wk rfl).th (f2.wk rfl)
  have hm : mR R L (g.1 93) w2 := ⟨s1.ag (f12.agr rfl), s2.ag (f12.agr rfl), fun q _ => (f12 93 q rfl).1⟩
  obtain ⟨w3, q1, q2, -, -, -⟩ := r_copies h0 hm s4 (by omega)
  have j3 : jR L R (upd (g.1 93) k v) c (xupd w3.1 94 k v, w3.2) := q2.up
  have f3 : xfrm fRef w2 (xupd w3.1 94 k v, w3.2) := xfrm.up ((fr_X12_copies_60 w3 q1).wk rfl) rfl
  obtain ⟨w4, p1, p2, -⟩ := m_rec h e1 f2 f3 j3.2.2.1 ho hc hc2 j
  refine ⟨w4, ?_, p2⟩
  unfold f_X12_does_60
  rw [q1, Option.bind_some, xg_in hk (by decide), nI_clamp (by omega), p1, Option.bind_some]
