/-! what was told -/
def allB (f : Nat → Bool) : Nat → Bool
  | 0 => true
  | i + 1 => allB f i && f i
theorem allB_s (f : Nat → Bool) (i : Nat) : allB f (i + 1) = (allB f i && f i) := rfl
theorem allB_no {f : Nat → Bool} {r : Nat} (h : allB f r = false) : ∀ n, r ≤ n → allB f n = false
  | 0, hn => by rw [show r = 0 by omega] at h; exact h
  | n + 1, hn => by
    by_cases e : r = n + 1
    · rw [← e]; exact h
    · rw [allB_s, allB_no h n (by omega), Bool.false_and]
def heC (n : Nat) (hs hw : Nat → Int32) (g : xG) : Prop := g.1 56 5 = nI n ∧ ∀ i, i < n → g.1 57 i = hs i ∧ g.1 58 i = hw i
def heR (n : Nat) (hs hw : Nat → Int32) (g : xG) : Prop := g.1 60 58 = nI n ∧ ∀ i, i < n → g.1 98 i = hs i ∧ g.1 99 i = hw i
def kHc : List (Nat × Option Nat) := [(56, some 5), (57, none), (58, none)]
def kHr : List (Nat × Option Nat) := [(60, some 58), (98, none), (99, none)]
theorem heC.ag {n : Nat} {hs hw : Nat → Int32} {g w : xG} (h : heC n hs hw g) (a : xagr kHc g w) : heC n hs hw w := ⟨((a 56 5 rfl).1).trans h.1, fun i hi => ⟨((a 57 i rfl).1).trans (h.2 i hi).1, ((a 58 i rfl).1).trans (h.2 i hi).2⟩⟩
theorem heR.ag {n : Nat} {hs hw : Nat → Int32} {g w : xG} (h : heR n hs hw g) (a : xagr kHr g w) : heR n hs hw w := ⟨((a 60 58 rfl).1).trans h.1, fun i hi => ⟨((a 98 i rfl).1).trans (h.2 i hi).1, ((a 99 i rfl).1).trans (h.2 i hi).2⟩⟩
def sTo (hs hw : Nat → Int32) (w : Int32) : Nat → Bool := fun i => if w < hs i then decide (0 = hw i) else decide (1 = hw i)
section
variable {R : pR} {L c : Nat} {ρ hs hw : Nat → Int32}
def wS (R : pR) (ρ : Nat → Int32) (c p t : Nat) : Int32 := sLaw R ρ (nI (sD R c t (rC R))) p 1
def sHo (R : pR) (ρ hs hw : Nat → Int32) (c p k : Nat) : Nat → Bool := fun t => allB (sTo hs hw (wS R ρ c p t)) k
theorem c_agrees {g : xG} {n k : Nat} (h : heC n hs hw g) (hn : n ≤ 20) (hk : k ≤ n) (w : Int32) : f_X0_agrees_56 (nI k) w g = some (if allB (sTo hs hw w) k = true then 1 else 0) := by
  unfold f_X0_agrees_56
  refine lp (fun m i (_ : Unit) => f_X0_agrees_56_2 g m (nI k) w i) (fun r _ => allB (sTo hs hw w) r = true) k (fun o => o = some (if allB (sTo hs hw w) k = true then 1 else 0)) ?_ ?_ xN 0 () (Nat.zero_le _) (by show k < 4000 + 0; omega) rfl
  · intro m i _ hi e
    obtain ⟨b1, b2⟩ := h.2 i (by omega)
    simp only [f_X0_agrees_56_2]
    rw [if_neg (nI_ge hi (by omega)), if_neg (show ¬ (20 : Int32) ≤ nI i from nI_ge (b := 20) (by omega) (by decide)), xat_in (show i < 20 by omega) (by decide), xg_in (show i < 20 by omega) (by decide), xg_in (show i < 20 by omega) (by decide), nI_clamp (by omega), b1, b2, nI_1]
    have no : sTo hs hw w i = false → some (0 : Int32) = some (if allB (sTo hs hw w) k = true then 1 else 0) := fun z => by
      rw [allB_no (show allB (sTo hs hw w) (i + 1) = false by rw [allB_s, e, z]; rfl) k (by omega), if_neg (by decide)]
    by_cases z : w < hs i
    · rw [if_pos z]
      by_cases y : 0 = hw i
      · rw [if_pos y]
        exact .inl ⟨(), rfl, by rw [allB_s, e]; unfold sTo; rw [if_pos z, decide_eq_true y]; rfl⟩
      · rw [if_neg y]
        exact .inr (no (by unfold sTo; rw [if_pos z, decide_eq_false y]))
    · rw [if_neg z]
      by_cases y : 1 = hw i
      · rw [if_pos y]
        exact .inl ⟨(), rfl, by rw [allB_s, e]; unfold sTo; rw [if_neg z, decide_eq_true y]; rfl⟩
      · rw [if_neg y]
        exact .inr (no (by unfold sTo; rw [if_neg z, decide_eq_false y]))
  · intro m _ e
    simp only [f_X0_agrees_56_2]
    rw [if_pos (nI_le (Nat.le_refl _) (by omega)), e]
    rfl
theorem c_homes (hR : rOK R) {g : xG} (h : jC_44_48 R ρ c g) {n k : Nat} (hh : heC n hs hw g) (hn : n ≤ 20) (hk : k ≤ n) {p : Nat} (hp : p < rP R) : ∃ w, f_X0_homesLeft_56_48 (nI k) (nI p) g = some (nI (bq (sHo R ρ hs hw c p k) (rT R)), w) ∧ ∀ t, t < rT R → w.1 59 t = wS R ρ c p t := by
  have h7 := hR.t
  unfold f_X0_homesLeft_56_48
  refine lp (fun m i (s : Int32 × xG) => f_X0_homesLeft_56_48_6 m (nI k) (nI p) s.1 i s.2) (fun t s => s.1 = nI (bq (sHo R ρ hs hw c p k) t) ∧ jC_44_48 R ρ c s.2 ∧ heC n hs hw s.2 ∧ ∀ u, u < t → s.2.1 59 u = wS R ρ c p u) (rT R) (fun o => ∃ w, o = some (nI (bq (sHo R ρ hs hw c p k) (rT R)), w) ∧ ∀ t, t < rT R → w.1 59 t = wS R ρ c p t) ?_ ?_ xN 0 ((0 : Int32), g) (Nat.zero_le _) (by show rT R < 4000 + 0; omega) ⟨rfl, h, hh, fun u hu => by omega⟩
  · rintro m t ⟨b, w⟩ ht ⟨e1, j, jh, e59⟩
    dsimp only at e1 j jh e59 ⊢
    refine .inl ?_
    obtain ⟨w1, q1, q2⟩ := c_lawFrom_44_48 hR j hp ht (k := 1) (by decide)
    have f2 : xfrm [(16, none), (45, none), (59, none)] w (xupd w1.1 59 t (wS R ρ c p t), w1.2) := xfrm.up (fun q k hq => q2 q k (xsubf_ok rfl hq)) rfl
    have j2 := j.ag (f2.agr (C := kJ_44_48) rfl)
    have jh2 := jh.ag (f2.agr (C := kHc) rfl)
    simp only [f_X0_homesLeft_56_48_6]
    rw [show f_X4_towns_3 w = nI (rT R) from j.1.1.1, if_neg (nI_ge ht (by omega)), show f_X1_lawFrom_44_48 (nI p) (nI t) 1 w = some (wS R ρ c p t, w1) from q1, Option.bind_some]
    dsimp only
    rw [xl_e, xput_in (show t < 7 by omega) (by decide), c_agrees jh2 hn hk, Option.bind_some, bi_bit t (by omega), e1, bq_or, nI_1, bq_s]
    have e59' : ∀ u, u < t + 1 → (xupd w1.1 59 t (wS R ρ c p t), w1.2).1 59 u = wS R ρ c p u := fun u hu => by
      dsimp only
      rw [xu_at]
      by_cases v : u = t
      · rw [if_pos ⟨rfl, v⟩, v]
      · rw [if_neg (fun y => v y.2), (q2 59 u rfl).1, e59 u (by omega)]
    by_cases z : allB (sTo hs hw (wS R ρ c p t)) k = true
    · rw [if_pos z, if_neg (by decide), if_pos (show sHo R ρ hs hw c p k t = true from z)]
      exact ⟨(_, _), rfl, rfl, j2, jh2, e59'⟩
    · rw [if_neg z, if_pos rfl, if_neg (show ¬ sHo R ρ hs hw c p k t = true from z)]
      exact ⟨(_, _), rfl, rfl, j2, jh2, e59'⟩
  · rintro m ⟨b, w⟩ ⟨e1, j, jh, e59⟩
    dsimp only at e1 j jh e59 ⊢
    simp only [f_X0_homesLeft_56_48_6]
    rw [show f_X4_towns_3 w = nI (rT R) from j.1.1.1, if_pos (nI_le (Nat.le_refl _) (by omega)), e1]
    exact ⟨w, rfl, e59⟩
/-! the reference -/
theorem r_agrees {g : xG} {n k : Nat} (h : heR n hs hw g) (hn : n ≤ 20) (hk : k ≤ n) {t : Nat} (ht : t < 7) {w : Int32} (hw100 : g.1 100 t = w) (k9 : Int32 → Int32 → Int32 → Int32 → xG → Option (Int32 × xG)) (l2 l3 : Int32) : f_X12_whenceBits_60_47 k9 xN (nI k) l2 l3 (nI t) 1 0 g = if allB (sTo hs hw w) k = true then k9 (nI k) l2 (l3 ||| (1 : Int32) <<< (nI t &&& 31)) (nI (t + 1)) g else k9 (nI k) l2 l3 (nI (t + 1)) g := by
  refine lpv (fun m i (a : Int32) => f_X12_whenceBits_60_47 k9 m (nI k) l2 l3 (nI t) a i g) (fun r => if allB (sTo hs hw w) r = true then 1 else 0) k _ ?_ ?_ xN 0 (Nat.zero_le _) (by show k < 4000 + 0; omega)
  · intro m i hi
    obtain ⟨b1, b2⟩ := h.2 i (by omega)
    simp only [f_X12_whenceBits_60_47]
    rw [if_neg (nI_ge hi (by omega)), xg_in ht (by decide), xg_in (show i < 20 by omega) (by decide), xg_in (show i < 20 by omega) (by decide), nI_clamp (show t < 2 ^ 31 by omega), nI_clamp (show i < 2 ^ 31 by omega), hw100, b1, b2, nI_1, xg_in' (show i < 20 by omega) (by decide), allB_s]
    by_cases z : w < hs i
    · rw [if_pos z]
      by_cases y : 0 = hw i
      · rw [if_pos y, show sTo hs hw w i = true by unfold sTo; rw [if_pos z, decide_eq_true y], Bool.and_true]
      · rw [if_neg y, show sTo hs hw w i = false by unfold sTo; rw [if_pos z, decide_eq_false y], Bool.and_false]
        rfl
    · rw [if_neg z]
      by_cases y : 1 = hw i
      · rw [if_pos y, show sTo hs hw w i = true by unfold sTo; rw [if_neg z, decide_eq_true y], Bool.and_true]
      · rw [if_neg y, show sTo hs hw w i = false by unfold sTo; rw [if_neg z, decide_eq_false y], Bool.and_false]
        rfl
  · intro m
    simp only [f_X12_whenceBits_60_47]
    rw [if_pos (nI_le (Nat.le_refl _) (by omega)), nI_1]
    by_cases z : allB (sTo hs hw w) k = true
    · rw [if_pos z, if_neg (by decide), if_pos z]
    · rw [if_neg z, if_pos rfl, if_neg z]
theorem r_homes (hR : rOK R) (hc : ρ 36 = nI c) (hc2 : c < 1024) {g : xG} (h : mR R L ρ g) {n k : Nat} (hh : heR n hs hw g) (hn : n ≤ 20) (hk : k ≤ n) {p : Nat} (hp : p < rP R) : ∃ w, f_X12_whenceBits_60 (nI k) (nI p) g = some (nI (bq (sHo R ρ hs hw c p k) (rT R)), w) ∧ jR L R ρ c w ∧ ∀ t, t < rT R → w.1 100 t = wS R ρ c p t := by
  have h7 := hR.t
  obtain ⟨w1, e1, j1, -, -, k1⟩ := r_copies hR h hc (by omega)
  have hh1 : heR n hs hw w1 := hh.ag ((fr_X12_copies_60 w1 e1).agr rfl)
  unfold f_X12_whenceBits_60
  rw [e1, Option.bind_some]
  refine lp (fun m i (s : Int32 × xG) => f_X12_whenceBits_60_9 m (nI k) (nI p) s.1 i s.2) (fun t s => s.1 = nI (bq (sHo R ρ hs hw c p k) t) ∧ jR L R ρ c s.2 ∧ heR n hs hw s.2 ∧ ∀ u, u < t → s.2.1 100 u = wS R ρ c p u) (rT R) (fun o => ∃ w, o = some (nI (bq (sHo R ρ hs hw c p k) (rT R)), w) ∧ jR L R ρ c w ∧ ∀ t, t < rT R → w.1 100 t = wS R ρ c p t) ?_ ?_ xN 0 ((0 : Int32), w1) (Nat.zero_le _) (by show rT R < 4000 + 0; omega) ⟨rfl, j1, hh1, fun u hu => by omega⟩
  · rintro m t ⟨b, w⟩ ht ⟨e1, j, jh, e100⟩
    dsimp only at e1 j jh e100 ⊢
    refine .inl ?_
    obtain ⟨⟨⟨hL, e18, eT, eR, eP, eC, eS⟩, -, -⟩, -, -, -⟩ := id j
    obtain ⟨w2, q1, q2⟩ := r_strokes j hR hp (nI (sD R c t (rC R)))
    have f2 : xfrm [(91, none), (92, none), (60, some 49), (100, none)] w (xupd w2.1 100 t (wS R ρ c p t), w2.2) := xfrm.up (fun q k hq => q2 q k (xsubf_ok rfl hq)) rfl
    have j2 := j.ag (f2.agr (C := kJr) rfl)
    have jh2 := jh.ag (f2.agr (C := kHr) rfl)
    have e100' : ∀ u, u < t + 1 → (xupd w2.1 100 t (wS R ρ c p t), w2.2).1 100 u = wS R ρ c p u := fun u hu => by
      dsimp only
      rw [xu_at]
      by_cases v : u = t
      · rw [if_pos ⟨rfl, v⟩, v]
      · rw [if_neg (fun y => v y.2), (q2 100 u rfl).1, e100 u (by omega)]
    simp only [f_X12_whenceBits_60_9]
    rw [e18, xg_in hL (by decide), nI_clamp (show L < 2 ^ 31 by omega), eT, if_neg (nI_ge ht (by omega)), r_farFrom j hR (by omega), Option.bind_some, show f_X12_strokesBy_60 (nI p) (nI (sD R c t (rC R))) w = some (wS R ρ c p t, w2) from q1, Option.bind_some, xg_in (show t < 7 by omega) (by decide), nI_clamp (show t < 2 ^ 31 by omega)]
    dsimp only
    rw [r_agrees jh2 hn hk (show t < 7 by omega) (e100' t (by omega)), bi_sh t (by omega), e1, bq_or, bq_s]
    by_cases z : allB (sTo hs hw (wS R ρ c p t)) k = true
    · rw [if_pos z, if_pos (show sHo R ρ hs hw c p k t = true from z)]
      exact ⟨(_, _), rfl, rfl, j2, jh2, e100'⟩
    · rw [if_neg z, if_neg (show ¬ sHo R ρ hs hw c p k t = true from z)]
      exact ⟨(_, _), rfl, rfl, j2, jh2, e100'⟩
  · rintro m ⟨b, w⟩ ⟨e1, j, jh, e100⟩
    dsimp only at e1 j jh e100 ⊢
    obtain ⟨⟨⟨hL, e18, eT, eR, eP, eC, eS⟩, -, -⟩, -, -, -⟩ := id j
    simp only [f_X12_whenceBits_60_9]
    rw [e18, xg_in hL (by decide), nI_clamp (show L < 2 ^ 31 by omega), eT, if_pos (nI_le (Nat.le_refl _) (by omega)), e1]
    exact ⟨w, rfl, j, e100⟩
/-! whence -/
theorem aK {n : Nat} (hn : n ≤ 20) (x : Int32) : ((∀ g, g.1 56 5 = nI n → f_X11_isKnown_0 x g = 0) ∧ f_X12_in x 0 (nI n) = 0) ∨ ∃ k, k ≤ n ∧ x = nI k ∧ (∀ g, g.1 56 5 = nI n → f_X11_isKnown_0 (nI k) g = 1) ∧ f_X12_in (nI k) 0 (nI n) = 1 := by
  rcases pk_ix x (n := n + 1) (by omega) with h | h | ⟨j, h, rfl⟩
  · exact .inl ⟨fun g hg => if_pos h, in_neg h⟩
  · have a := Int32.le_iff_toInt_le.mp h
    rw [nI_toInt (by omega)] at a
    have b : nI n < x := Int32.lt_iff_toInt_lt.mpr (by rw [nI_toInt (by omega)]; omega)
    refine .inl ⟨fun g hg => ?_, in_ge b⟩
    unfold f_X11_isKnown_0
    rw [show f_X0_size_56 g = nI n from hg, if_pos b]
    exact ite_self _
  · refine .inr ⟨j, by omega, rfl, fun g hg => ?_, ?_⟩
    · unfold f_X11_isKnown_0
      rw [show f_X0_size_56 g = nI n from hg, if_neg (nI_pos (by omega)), if_neg (nI_nlt (by omega) (by omega))]
    · unfold f_X12_in
      rw [if_neg (nI_pos (by omega)), if_neg (nI_nlt (by omega) (by omega))]
def aH (R : pR) (L c : Nat) (ρ hs hw : Nat → Int32) (n : Nat) (F G : xG → Option (Int32 × xG)) : Prop := ∃ v, (∀ g, jC_44_48 R ρ c g → heC n hs hw g → ∃ w, F g = some (v, w)) ∧ (∀ g, mR R L ρ g → heR n hs hw g → ∃ w, G g = some (v, w))
theorem sHo_7 (hR : rOK R) (p k : Nat) : bq (sHo R ρ hs hw c p k) (rT R) < 128 := by
  have a := bq_lt (sHo R ρ hs hw c p k) (rT R)
  have b := T_pow hR.t
  omega
theorem q_whence (hR : rOK R) (ho : rowOK R ρ) (hc : ρ 36 = nI c) (hc2 : c < 1024) {n : Nat} (hn : n ≤ 20) (x y z : Int32) : aH R L c ρ hs hw n (f_X11_whence_0 x y z) (f_X12_whence_60 x y z) := by
  rcases aK hn x with ⟨k1, k2⟩ | ⟨k, hk, rfl, k1, k2⟩
  · refine ⟨-1, fun g h hh => ⟨g, ?_⟩, fun g h hh => ⟨g, ?_⟩⟩
    · unfold f_X11_whence_0
      rw [k1 g hh.1, if_pos rfl]
    · unfold f_X12_whence_60
      rw [hh.1, k2, if_pos rfl]
  rcases aP hR y with ⟨a1, a2⟩ | ⟨p, hp, rfl, a1, a2⟩
  · refine ⟨-1, fun g h hh => ⟨g, ?_⟩, fun g h hh => ⟨g, ?_⟩⟩
    · unfold f_X11_whence_0
      rw [k1 g hh.1, if_neg (by decide), a1 g h.1, if_pos rfl]
    · unfold f_X12_whence_60
      rw [hh.1, k2, if_neg (by decide), a2 g L h.1, Option.bind_some, if_pos rfl]
  rcases aW z with ⟨n0, n1, ei⟩ | ⟨h01, ei⟩
  · refine ⟨-1, fun g h hh => ⟨g, ?_⟩, fun g h hh => ⟨g, ?_⟩⟩
    · unfold f_X11_whence_0
      rw [k1 g hh.1, if_neg (by decide), a1 g h.1, if_neg (by decide), if_neg n0, if_neg n1]
    · unfold f_X12_whence_60
      rw [hh.1, k2, if_neg (by decide), a2 g L h.1, Option.bind_some, if_neg (by decide), ei, if_pos rfl]
  have hl := sHo_7 (ρ := ρ) (hs := hs) (hw := hw) (c := c) hR p k
  refine ⟨if z = 0 then nI (pcn (bq (sHo R ρ hs hw c p k) (rT R)) 10) else nI (bq (sHo R ρ hs hw c p k) (rT R)), fun g h hh => ?_, fun g h hh => ?_⟩
  · obtain ⟨w, e, -⟩ := c_homes hR h hh hn hk hp
    have key : f_X11_whence_0_30 (nI k) (nI p) z g = some (if z = 0 then nI (pcn (bq (sHo R ρ hs hw c p k) (rT R)) 10) else nI (bq (sHo R ρ hs hw c p k) (rT R)), w) := by
      unfold f_X11_whence_0_30
      rw [e, Option.bind_some]
      dsimp only
      rw [c_bits _ hl]
      by_cases v : z = 0
      · rw [if_pos v, if_pos v]
      · rw [if_neg v, if_neg v]
    refine ⟨w, ?_⟩
    unfold f_X11_whence_0
    rw [k1 g hh.1, if_neg (by decide), a1 g h.1, if_neg (by decide)]
    rcases h01 with v | v
    · rw [if_pos v, key]
    · rw [if_neg (by rw [v]; decide), if_pos v, key]
  · obtain ⟨w, e, -, -⟩ := r_homes hR hc hc2 h hh hn hk hp
    refine ⟨w, ?_⟩
    unfold f_X12_whence_60
    rw [hh.1, k2, if_neg (by decide), a2 g L h.1, Option.bind_some, if_neg (by decide), ei, if_neg (by decide), e, Option.bind_some]
    dsimp only
    rw [r_bits (by omega), Option.bind_some]
    by_cases v : z = 0
    · rw [if_pos v, if_pos v]
    · rw [if_neg v, if_neg v]
/-! what to listen for next -/
def sCt (H : Nat) (ω : Nat → Int32) (v : Nat) : Nat → Nat
  | 0 => 0
  | t + 1 => if H.testBit t = true ∧ ¬ ω t < nI v then sCt H ω v t + 1 else sCt H ω v t
theorem sCt_s (H : Nat) (ω : Nat → Int32) (v t : Nat) : sCt H ω v (t + 1) = if H.testBit t = true ∧ ¬ ω t < nI v then sCt H ω v t + 1 else sCt H ω v t := rfl
theorem sCt_le (H : Nat) (ω : Nat → Int32) (v : Nat) : ∀ t, sCt H ω v t ≤ pcn H t
  | 0 => Nat.le_refl _
  | t + 1 => by
    have := sCt_le H ω v t
    rw [sCt_s, show pcn H (t + 1) = pcn H t + if H.testBit t then 1 else 0 from rfl]
    by_cases z : H.testBit t = true
    · rw [if_pos z]; split <;> omega
    · rw [if_neg z, if_neg (fun y => z y.1)]; omega
theorem pcn_mono (H : Nat) (a : Nat) : ∀ d, pcn H a ≤ pcn H (a + d)
  | 0 => Nat.le_refl _
  | d + 1 => by
    have := pcn_mono H a d
    rw [show pcn H (a + (d + 1)) = pcn H (a + d) + if H.testBit (a + d) then 1 else 0 from rfl]
    omega
theorem sCt_end {H T : Nat} (hH : H < 2 ^ T) (ω : Nat → Int32) (v : Nat) : ∀ d, sCt H ω v (T + d) = sCt H ω v T
  | 0 => rfl
  | d + 1 => by
    have e : H.testBit (T + d) = false := Nat.testBit_lt_two_pow (Nat.lt_of_lt_of_le hH (Nat.pow_le_pow_right (by decide) (by omega)))
    rw [show T + (d + 1) = (T + d) + 1 from rfl, sCt_s, e, if_neg (fun y => by cases y.1), sCt_end hH ω v d]
def sWr (H : Nat) (ω : Nat → Int32) (T i : Nat) : Nat := max (sCt H ω (i + 1) T) (pcn H 10 - sCt H ω (i + 1) T)
def gL : Option Nat → Int32
  | none => -2
  | some q => nI (q + 1)
theorem pc_0 : ∀ s, s < 128 → (pcn s 10 = 0 ↔ s = 0) := by decide +kernel
theorem c_striking {g : xG} {H T : Nat} (hH : H < 2 ^ T) (hT : T ≤ 7) {ω : Nat → Int32} (h59 : ∀ t, t < T → g.1 59 t = ω t) (v : Nat) : f_X0_homesStriking_56 (nI H) (nI v) g = some (nI (sCt H ω v T)) := by
  have hp := T_pow hT
  have e7 : sCt H ω v 7 = sCt H ω v T := by
    have := sCt_end hH ω v (7 - T)
    rw [show T + (7 - T) = 7 by omega] at this
    exact this
  rw [← e7]
  unfold f_X0_homesStriking_56
  refine lpv (fun m i (a : Int32) => f_X0_homesStriking_56_5 g m (nI H) (nI v) a i) (fun t => nI (sCt H ω v t)) 7 _ ?_ ?_ xN 0 (Nat.zero_le _) (by decide)
  · intro m t ht
    simp only [f_X0_homesStriking_56_5]
    rw [if_neg (show ¬ (7 : Int32) ≤ nI t from nI_ge ht (by decide)), bi_bit t (by omega), xg_in ht (by decide), nI_clamp (by omega), nI_1, nI_1, sCt_s]
    by_cases z : H.testBit t = false
    · rw [if_pos ((bi_in (by omega) (by omega)).mpr z), z, if_neg (fun y => by cases y.1)]
    · have tT : t < T := Nat.lt_of_not_le (fun y => z (Nat.testBit_lt_two_pow (Nat.lt_of_lt_of_le hH (Nat.pow_le_pow_right (by decide) y))))
      rw [if_neg (fun y => z ((bi_in (by omega) (by omega)).mp y)), h59 t tT]
      by_cases y : ω t < nI v
      · rw [if_pos y, if_neg (fun u => u.2 y)]
      · rw [if_neg y, if_pos ⟨by simpa using z, y⟩]
  · intro m
    simp only [f_X0_homesStriking_56_5]
    rw [if_pos (show (7 : Int32) ≤ nI 7 by decide)]
theorem c_best {g : xG} {H T : Nat} (hH : H < 2 ^ T) (hT : T ≤ 7) {ω : Nat → Int32} (h59 : ∀ t, t < T → g.1 59 t = ω t) : f_X0_bestQuestion_56 (nI H) g = some (if H = 0 then -2 else gL (sAm (sWr H ω T) 999)) := by
  have hp := T_pow hT
  have p10 := pcn_le H 10
  unfold f_X0_bestQuestion_56
  rw [c_bits H (by omega)]
  by_cases z : H = 0
  · rw [(pc_0 H (by omega)).mpr z, if_pos z]
    rfl
  · have pz : 0 < pcn H 10 := Nat.pos_of_ne_zero (fun y => z ((pc_0 H (by omega)).mp y))
    rw [if_neg z]
    refine lp (fun m i (s : Int32 × Int32) => f_X0_bestQuestion_56_14 g m (nI H) s.1 s.2 (nI (pcn H 10)) i) (fun v s => 1 ≤ v ∧ s = (gL (sAm (sWr H ω T) (v - 1)), match sAm (sWr H ω T) (v - 1) with | none => 0 | some q => nI (sWr H ω T q))) 1000 (fun o => o = some (gL (sAm (sWr H ω T) 999))) ?_ ?_ xN 1 ((-2 : Int32), (0 : Int32)) (by decide) (by decide) ⟨Nat.le_refl _, rfl⟩
    · rintro m v s hv ⟨h1, rfl⟩
      refine .inl ?_
      have c1 := sCt_le H ω v T
      have c2 := pcn_mono H T (10 - T)
      rw [show T + (10 - T) = 10 by omega] at c2
      have ew : sWr H ω T (v - 1) = max (sCt H ω v T) (pcn H 10 - sCt H ω v T) := by
        unfold sWr
        rw [show v - 1 + 1 = v by omega]
      simp only [f_X0_bestQuestion_56_14]
      rw [if_neg (nI_nle pz (by omega)), if_neg (show ¬ (999 : Int32) < nI v from nI_nlt (a := 999) (by omega) (by decide)), c_striking hH hT h59 v, Option.bind_some, pk_sub (by omega), mx_in (by omega) (by omega), ← ew, nI_1, show v + 1 - 1 = (v - 1) + 1 by omega, sAm_s]
      match e : sAm (sWr H ω T) (v - 1) with
      | none =>
        rw [if_pos (show gL none < 0 by decide)]
        refine ⟨(_, _), rfl, by omega, ?_⟩
        dsimp only [gL]
        rw [show v - 1 + 1 = v by omega]
        rfl
      | some q =>
        have hq := sAm_lt e
        have wq : sWr H ω T q ≤ 10 := by
          have c3 := sCt_le H ω (q + 1) T
          unfold sWr
          omega
        rw [show gL (some q) = nI (q + 1) from rfl, if_neg (nI_pos (by omega))]
        dsimp only
        rw [ite_le (by omega) (by omega)]
        by_cases y : sWr H ω T (v - 1) < sWr H ω T q
        · rw [if_neg (by omega), if_pos y]
          refine ⟨(_, _), rfl, by omega, ?_⟩
          dsimp only [gL]
          rw [show v - 1 + 1 = v by omega]
          rfl
        · rw [if_pos (by omega), if_neg y]
          exact ⟨(_, _), rfl, by omega, rfl⟩
    · rintro m s ⟨h1, rfl⟩
      simp only [f_X0_bestQuestion_56_14]
      rw [if_neg (nI_nle pz (by omega)), if_pos (show (999 : Int32) < nI 1000 by decide)]
theorem r_count {g : xG} {H T : Nat} (hL : L < 2) (e18 : g.1 60 18 = nI L) (eT : g.1 70 L = nI T) (hH : H < 2 ^ T) (hT : T ≤ 7) {ω : Nat → Int32} (h100 : ∀ t, t < T → g.1 100 t = ω t) {v : Nat} (hv : v < 2 ^ 31) (k : Int32 → Int32 → Int32 → Int32 → xG → Option (Int32 × xG)) (l4 l5 : Int32) : f_X12_listen_60_57 k xN (nI H) l4 l5 (nI v) 0 0 g = f_X12_listen_60_126 k (nI H) l4 l5 (nI v) (nI (max (sCt H ω v T) (pcn H 10 - sCt H ω v T))) g := by
  have hp := T_pow hT
  have p10 := pcn_le H 10
  have c1 := sCt_le H ω v T
  have c2 := pcn_mono H T (10 - T)
  rw [show T + (10 - T) = 10 by omega] at c2
  refine lpv (fun m i (a : Int32) => f_X12_listen_60_57 k m (nI H) l4 l5 (nI v) a i g) (fun t => nI (sCt H ω v t)) T _ ?_ ?_ xN 0 (Nat.zero_le _) (by show T < 4000 + 0; omega)
  · intro m t ht
    simp only [f_X12_listen_60_57]
    rw [e18, xg_in hL (by decide), nI_clamp (show L < 2 ^ 31 by omega), eT, if_neg (nI_ge ht (by omega)), bi_one (by omega) (by omega), xg_in (show t < 7 by omega) (by decide), nI_clamp (show t < 2 ^ 31 by omega), h100 t ht, nI_1, nI_1, sCt_s]
    by_cases z : H.testBit t = true
    · rw [if_pos z, if_pos rfl]
      by_cases y : ω t < nI v
      · rw [if_pos y, if_neg (fun u => u.2 y)]
      · rw [if_neg y, if_pos ⟨z, y⟩]
    · rw [if_neg z, if_neg (by decide), if_neg (fun u => z u.1)]
  · intro m
    simp only [f_X12_listen_60_57]
    rw [e18, xg_in hL (by decide), nI_clamp (show L < 2 ^ 31 by omega), eT, if_pos (nI_le (Nat.le_refl _) (by omega)), r_bits (by omega), Option.bind_some, Option.bind_some, pk_sub (by omega), ite_le (by omega) (by omega)]
    by_cases z : sCt H ω v T ≤ pcn H 10 - sCt H ω v T
    · rw [if_pos z, Nat.max_eq_right z]
    · rw [if_neg z, Nat.max_eq_left (by omega)]
theorem r_best {g : xG} {H T : Nat} (hL : L < 2) (e18 : g.1 60 18 = nI L) (eT : g.1 70 L = nI T) (hH : H < 2 ^ T) (hT : T ≤ 7) {ω : Nat → Int32} (h100 : ∀ t, t < T → g.1 100 t = ω t) : f_X12_listen_60_39 xN (nI H) (-2) 0 1 g = some (if H = 0 then -2 else gL (sAm (sWr H ω T) 999), g) := by
  have hp := T_pow hT
  have p10 := pcn_le H 10
  by_cases z : H = 0
  · rw [z, if_pos rfl]
    rfl
  · rw [if_neg z]
    refine lp (fun m i (s : Int32 × Int32) => f_X12_listen_60_39 m (nI H) s.1 s.2 i g) (fun v s => 1 ≤ v ∧ s = (gL (sAm (sWr H ω T) (v - 1)), match sAm (sWr H ω T) (v - 1) with | none => 0 | some q => nI (sWr H ω T q))) 1000 (fun o => o = some (gL (sAm (sWr H ω T) 999), g)) ?_ ?_ xN 1 ((-2 : Int32), (0 : Int32)) (by decide) (by decide) ⟨Nat.le_refl _, rfl⟩
    · rintro m v s hv ⟨h1, rfl⟩
      refine .inl ?_
      have c1 := sCt_le H ω v T
      have c2 := pcn_mono H T (10 - T)
      rw [show T + (10 - T) = 10 by omega] at c2
      have ew : sWr H ω T (v - 1) = max (sCt H ω v T) (pcn H 10 - sCt H ω v T) := by
        unfold sWr
        rw [show v - 1 + 1 = v by omega]
      simp only [f_X12_listen_60_39]
      rw [if_neg (show ¬ (1000 : Int32) ≤ nI v from nI_ge (b := 1000) hv (by decide)), if_neg (nI_ne0 (by omega) (by omega)), r_count hL e18 eT hH hT h100 (by omega), ← ew, show v + 1 - 1 = (v - 1) + 1 by omega, sAm_s]
      unfold f_X12_listen_60_126
      rw [nI_1]
      match e : sAm (sWr H ω T) (v - 1) with
      | none =>
        rw [if_pos (show gL none < 0 by decide)]
        refine ⟨(_, _), rfl, by omega, ?_⟩
        dsimp only [gL]
        rw [show v - 1 + 1 = v by omega]
        rfl
      | some q =>
        have hq := sAm_lt e
        have wq : sWr H ω T q ≤ 10 := by
          have c3 := sCt_le H ω (q + 1) T
          unfold sWr
          omega
        rw [show gL (some q) = nI (q + 1) from rfl, if_neg (nI_pos (by omega))]
        dsimp only
        rw [ite_lt (by omega) (by omega)]
        by_cases y : sWr H ω T (v - 1) < sWr H ω T q
        · rw [if_pos y, if_pos y]
          refine ⟨(_, _), rfl, by omega, ?_⟩
          dsimp only [gL]
          rw [show v - 1 + 1 = v by omega]
          rfl
        · rw [if_neg y, if_neg y]
          exact ⟨(_, _), rfl, by omega, rfl⟩
    · rintro m s ⟨h1, rfl⟩
      simp only [f_X12_listen_60_39]
      rw [if_pos (show (1000 : Int32) ≤ nI 1000 by decide)]
theorem q_listen (hR : rOK R) (ho : rowOK R ρ) (hc : ρ 36 = nI c) (hc2 : c < 1024) {n : Nat} (hn : n ≤ 20) (x y : Int32) : aH R L c ρ hs hw n (f_X11_listen_0 x y) (f_X12_listen_60 x y) := by
  rcases aK hn x with ⟨k1, k2⟩ | ⟨k, hk, rfl, k1, k2⟩
  · refine ⟨-1, fun g h hh => ⟨g, ?_⟩, fun g h hh => ⟨g, ?_⟩⟩
    · unfold f_X11_listen_0
      rw [k1 g hh.1, if_pos rfl]
    · unfold f_X12_listen_60
      rw [hh.1, k2, if_pos rfl]
  rcases aP hR y with ⟨a1, a2⟩ | ⟨p, hp, rfl, a1, a2⟩
  · refine ⟨-1, fun g h hh => ⟨g, ?_⟩, fun g h hh => ⟨g, ?_⟩⟩
    · unfold f_X11_listen_0
      rw [k1 g hh.1, if_neg (by decide), a1 g h.1, if_pos rfl]
    · unfold f_X12_listen_60
      rw [hh.1, k2, if_neg (by decide), a2 g L h.1, Option.bind_some, if_pos rfl]
  have hl := bq_lt (sHo R ρ hs hw c p k) (rT R)
  refine ⟨if bq (sHo R ρ hs hw c p k) (rT R) = 0 then -2 else gL (sAm (sWr (bq (sHo R ρ hs hw c p k) (rT R)) (wS R ρ c p) (rT R)) 999), fun g h hh => ?_, fun g h hh => ?_⟩
  · obtain ⟨w, e, e59⟩ := c_homes hR h hh hn hk hp
    refine ⟨w, ?_⟩
    unfold f_X11_listen_0
    rw [k1 g hh.1, if_neg (by decide), a1 g h.1, if_neg (by decide), e, Option.bind_some]
    dsimp only
    rw [c_best hl hR.t e59, Option.bind_some]
  · obtain ⟨w, e, j, e100⟩ := r_homes hR hc hc2 h hh hn hk hp
    obtain ⟨⟨⟨hL, e18, eT, eR, eP, eC, eS⟩, -, -⟩, -, -, -⟩ := id j
    refine ⟨w, ?_⟩
    unfold f_X12_listen_60
    rw [hh.1, k2, if_neg (by decide), a2 g L h.1, Option.bind_some, if_neg (by decide), e, Option.bind_some]
    dsimp only
    rw [r_best hL e18 eT hl hR.t e100]
end
