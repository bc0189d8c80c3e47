/-! the class's scan and the reference's cut, side by side -/
def tkP (W : Nat → Int64) (g h : xG) (j : Nat) : Prop := ∃ a s, 1 ≤ a ∧ a ≤ 12 ∧ s < 2000 ∧ g.1 19 j = nI a ∧ g.1 20 j = nI s ∧ h.1 64 j = nI s ∧ h.1 63 j = nI (kap (if a = 2 then wKd W (g.2 21 j) 21 else a)) ∧ (a = 2 → h.2 66 j = g.2 21 j) ∧ (a = 3 → ∃ d, d ≤ 9999 ∧ g.2 21 j = lN d ∧ h.1 65 j = nI d)
theorem tkP.go {W : Nat → Int64} {g h g' h' : xG} {j : Nat} (t : tkP W g h j) (a : g'.1 19 j = g.1 19 j) (b : g'.1 20 j = g.1 20 j) (c : g'.2 21 j = g.2 21 j) (d : h'.1 63 j = h.1 63 j) (e : h'.1 64 j = h.1 64 j) (f : h'.1 65 j = h.1 65 j) (k : h'.2 66 j = h.2 66 j) : tkP W g' h' j := by
  unfold tkP at *
  rw [a, b, c, d, e, f, k]
  exact t
theorem dN_lt {β : Nat → Nat} {s : Nat} : ∀ {l : Nat}, (∀ t, t < l → 48 ≤ β (s + t) ∧ β (s + t) ≤ 57) → dN β s l < 10 ^ l
  | 0, _ => by
    show 0 < 10 ^ 0
    decide
  | l + 1, h => by
    have a := dN_lt (β := β) (s := s) (l := l) (fun t ht => h t (by omega))
    have b := h l (by omega)
    show 10 * dN β s l + (β (s + l) - 48) < 10 ^ (l + 1)
    rw [Nat.pow_succ]
    omega
def tkM (g : xG) (k i : Nat) : Prop := ∀ j, j < k → ∃ s, g.1 20 j = nI s ∧ s < i ∧ ∀ j', j' < j → ∃ s', g.1 20 j' = nI s' ∧ s' < s
theorem tkM.mono {g : xG} {k i i' : Nat} (h : tkM g k i) (hi : i ≤ i') : tkM g k i' := fun j hj => by
  obtain ⟨s, a, b, c⟩ := h j hj
  exact ⟨s, a, by omega, c⟩
theorem tkM.ext {g w : xG} {k i : Nat} (h : tkM g k i) (e : ∀ j, j < k → w.1 20 j = g.1 20 j) : tkM w k i := fun j hj => by
  obtain ⟨s, a, b, c⟩ := h j hj
  refine ⟨s, (e j hj).trans a, b, fun j' hj' => ?_⟩
  obtain ⟨s', a', b'⟩ := c j' hj'
  exact ⟨s', (e j' (by omega)).trans a', b'⟩
theorem tkM.push {g : xG} {k i i' : Nat} (h : tkM g k i) (e : g.1 20 k = nI i) (hi : i < i') : tkM g (k + 1) i' := fun j hj => by
  by_cases z : j = k
  · subst z
    refine ⟨i, e, hi, fun j' hj' => ?_⟩
    obtain ⟨s, a, b, -⟩ := h j' hj'
    exact ⟨s, a, b⟩
  · obtain ⟨s, a, b, c⟩ := h j (by omega)
    exact ⟨s, a, by omega, c⟩
def tkEnd (W : Nat → Int64) (n : Nat) (g h : xG) : Prop := ∃ k, k ≤ 401 ∧ (∀ j, j < k → tkP W g h j) ∧ tkM g k n ∧ ((k ≤ 400 ∧ g.1 18 4 = nI k ∧ h.1 63 k = 0 ∧ h.1 64 k = nI n) ∨ (k = 401 ∧ ∃ N, 401 ≤ N ∧ N ≤ 402 ∧ g.1 18 4 = nI N))
theorem c_stop {n : Nat} {β : Nat → Nat} {g : xG} {k i : Nat} (hn : n ≤ 2000) (h : tpC n β g) (hk : g.1 18 4 = nI k) (hk2 : k < 2 ^ 31) (hi2 : i < 2 ^ 31) (hs : n ≤ i ∨ 402 ≤ k) (m : Nat) (bf : Int32) : f_X9_scan_18_1_17 (m + 1) bf (nI i) g = f_X9_scan_18_1_116 xN 0 g := by
  simp only [f_X9_scan_18_1_17]
  rw [h.1]
  by_cases z : n ≤ i
  · rw [if_pos (nI_le z hi2)]
  · rw [if_neg (nI_ge (by omega) (by omega)), hk, if_pos (show (402 : Int32) ≤ nI k from nI_le (a := 402) (by omega) hk2)]
/-- behind 401 tokens -/
theorem c_tail {n : Nat} {β : Nat → Nat} (hn : n ≤ 2000) (hb : ∀ i, β i < 256) : ∀ (d i m : Nat) (bf : Int32) (g : xG), i + d = n → tpC n β g → g.1 18 4 = nI 401 → (i < n → (kc (β i) = 2 ∨ kc (β i) = 3) → bf ≠ nI (kc (β i))) → d + 2 ≤ m → ∃ gE N, f_X9_scan_18_1_17 m bf (nI i) g = f_X9_scan_18_1_116 xN 0 gE ∧ 401 ≤ N ∧ N ≤ 402 ∧ gE.1 18 4 = nI N ∧ (∀ t, t < 401 → gE.1 19 t = g.1 19 t ∧ gE.1 20 t = g.1 20 t ∧ gE.2 21 t = g.2 21 t) ∧ xfrm fTk g gE := by
  intro d
  induction d with
  | zero =>
    intro i m bf g hid ht e4 hsync hm
    obtain ⟨m', rfl⟩ : ∃ m', m = m' + 1 := ⟨m - 1, by omega⟩
    exact ⟨g, 401, c_stop hn ht e4 (by decide) (by omega) (.inl (by omega)) m' bf, by omega, by omega, e4, fun _ _ => ⟨rfl, rfl, rfl⟩, xfrm.rf⟩
  | succ d ih =>
    intro i m bf g hid ht e4 hsync hm
    obtain ⟨m', rfl⟩ : ∃ m', m = m' + 1 + 1 := ⟨m - 2, by omega⟩
    by_cases z0 : kc (β i) = 0
    · rw [c_blank hn hb (k := 401) (by decide) (by omega) z0 ht e4]
      exact ih (i + 1) (m' + 1) 0 g (by omega) ht e4 (fun hi hq y => by
        rcases hq with q | q <;> rw [q] at y <;> exact absurd y (by decide)) (by omega)
    · have fin : ∀ w : xG, tpC n β w → w.1 18 4 = nI 402 → ∀ q : Int32, f_X9_scan_18_1_17 (m' + 1) q (nI (i + 1)) w = f_X9_scan_18_1_116 xN 0 w := fun w hw e q => c_stop hn hw e (by decide) (by omega) (.inr (Nat.le_refl _)) m' q
      by_cases zq : kc (β i) = 2 ∨ kc (β i) = 3
      · obtain ⟨w, p1, p2, p3, p4, p5⟩ := c_frst hn zq hb (k := 401) (by decide) (show i < n by omega) rfl ht e4 (hsync (by omega) zq) (m' + 1)
        refine ⟨w, 402, p1.trans (fin w p2 p3.1 _), by omega, by omega, p3.1, fun t ht' => p4 t (by omega), p5⟩
      · obtain ⟨w, p1, p2, p3, -, -, p4, p5⟩ := c_sign hn hb (bf := bf) (k := 401) (by decide) (show i < n by omega) z0 (fun y => zq (.inl y)) (fun y => zq (.inr y)) ht e4 (m' + 1)
        refine ⟨w, 402, p1.trans (fin w p2 p3 _), by omega, by omega, p3, fun t ht' => p4 t (by omega), p5⟩
theorem scan_sync {W : Nat → Int64} {n : Nat} {β : Nat → Nat} (hn : n ≤ 2000) (hb : ∀ i, β i < 256) (hi : ∀ u w, u < 21 → w < 21 → W u = W w → u = w) : ∀ (d i k m r : Nat) (bf : Int32) (g h : xG), n ≤ i + d → i ≤ n → tpC n β g → tpR n β h → (∀ w, w < 21 → h.2 67 w = W w) → g.1 18 4 = nI k → h.1 60 10 = nI k → k ≤ 401 → (∀ j, j < k → tkP W g h j) → tkM g k i → (i < n → (kc (β i) = 2 ∨ kc (β i) = 3) → bf ≠ nI (kc (β i))) → n + 2 ≤ m + i → d + 2 ≤ r → ∃ gE hE, f_X9_scan_18_1_17 m bf (nI i) g = f_X9_scan_18_1_116 xN 0 gE ∧ f_X12_cut_60_7 r (nI i) h = some hE ∧ tkEnd W n gE hE ∧ xfrm fTk g gE := by
  intro d
  induction d with
  | zero =>
    intro i k m r bf g h hid hin ht hr hW e4 e10 hk hP hM hsync hm hrr
    obtain ⟨m', rfl⟩ : ∃ m', m = m' + 1 := ⟨m - 1, by omega⟩
    obtain ⟨r', rfl⟩ : ∃ r', r = r' + 1 := ⟨r - 1, by omega⟩
    have cs := c_stop hn ht e4 (by omega) (show i < 2 ^ 31 by omega) (.inl (by omega)) m' bf
    by_cases z : k = 401
    · subst z
      refine ⟨g, h, cs, ?_, ⟨401, Nat.le_refl _, hP, hM.mono hin, .inr ⟨rfl, 401, Nat.le_refl _, by omega, e4⟩⟩, xfrm.rf⟩
      simp only [f_X12_cut_60_7]
      rw [e10, if_pos (show (400 : Int32) < nI 401 by decide)]
    · obtain ⟨w, p1, p2, ⟨p3, p4, p5, p6⟩, p7, p8⟩ := r_token (show k < 403 by omega) e10 0 (nI n) 0 0
      refine ⟨g, w, cs, ?_, ⟨k, hk, fun j hj => ?_, hM.mono hin, .inl ⟨by omega, e4, p3, p4⟩⟩, xfrm.rf⟩
      · simp only [f_X12_cut_60_7]
        rw [e10, if_neg (show ¬ (400 : Int32) < nI k from nI_nlt (a := 400) (by omega) (by decide)), hr.none (by omega) (by omega), Option.bind_some, hr.1, if_neg (nI_nlt (by omega) (by omega)), p1, Option.bind_some]
      · obtain ⟨q1, q2, q3, q4⟩ := p7 j (by omega)
        exact (hP j hj).go rfl rfl rfl q1 q2 q3 q4
  | succ d ih =>
    intro i k m r bf g h hid hin ht hr hW e4 e10 hk hP hM hsync hm hrr
    by_cases z : k = 401
    · subst z
      obtain ⟨gE, N, q1, q2, q3, q4, q5, q6⟩ := c_tail hn hb (n - i) i m bf g (by omega) ht e4 hsync (by omega)
      obtain ⟨r', rfl⟩ : ∃ r', r = r' + 1 := ⟨r - 1, by omega⟩
      refine ⟨gE, h, q1, ?_, ⟨401, Nat.le_refl _, fun j hj => ?_, (hM.mono hin).ext fun j hj => (q5 j hj).2.1, .inr ⟨rfl, N, q2, q3, q4⟩⟩, q6⟩
      · simp only [f_X12_cut_60_7]
        rw [e10, if_pos (show (400 : Int32) < nI 401 by decide)]
      · obtain ⟨v1, v2, v3⟩ := q5 j hj
        exact (hP j hj).go v1 v2 v3 rfl rfl rfl rfl
    by_cases zi : i = n
    · have := ih i k m r bf g h (by omega) hin ht hr hW e4 e10 hk hP hM hsync hm (by omega)
      exact this
    obtain ⟨m', rfl⟩ : ∃ m', m = m' + 1 := ⟨m - 1, by omega⟩
    obtain ⟨r', rfl⟩ : ∃ r', r = r' + 1 := ⟨r - 1, by omega⟩
    have hc := hb i
    have k0 := kc_0 _ hc
    have k2 := kc_2 _ hc
    have k3 := kc_3 _ hc
    have rst : f_X12_cut_60_7 (r' + 1) (nI i) h = if kc (β i) = 0 then f_X12_cut_60_7 r' (nI (i + 1)) h else if kc (β i) = 2 then f_X12_cut_60_85 (f_X12_cut_60_7 r') xN (nI i) 0 0 h else if kc (β i) = 3 then f_X12_cut_60_208 (f_X12_cut_60_7 r') xN (nI i) 0 0 h else (f_X12_byteAt_60 (nI (i + 1)) h).bind fun w2 => (f_X12_sign_60 (nI i) (nI (β i)) w2 h).bind fun w3 => f_X12_cut_60_7 r' (nI i + w3.1) w3.2 := by
      simp only [f_X12_cut_60_7]
      rw [e10, if_neg (show ¬ (400 : Int32) < nI k from nI_nlt (a := 400) (by omega) (by decide)), hr.byte hn (show i < n by omega), Option.bind_some, hr.1, if_pos (nI_lt (by omega) (by omega)), nI_1, r_letter hc, r_digit hc, show (9 : Int32) = nI 9 from rfl, show (10 : Int32) = nI 10 from rfl, show (13 : Int32) = nI 13 from rfl, show (32 : Int32) = nI 32 from rfl, ite_eqn (by omega) (by decide), ite_eqn (by omega) (by decide), ite_eqn (by omega) (by decide), ite_eqn (by omega) (by decide)]
      by_cases y0 : kc (β i) = 0
      · rw [if_pos y0]
        rcases k0.mp y0 with y | y | y | y
        · rw [if_pos y]
        · rw [if_neg (by omega), if_pos y]
        · rw [if_neg (by omega), if_neg (by omega), if_pos y]
        · rw [if_neg (by omega), if_neg (by omega), if_neg (by omega), if_pos y]
      · rw [if_neg y0, if_neg (by omega), if_neg (by omega), if_neg (by omega), if_neg (by omega)]
        by_cases y2 : kc (β i) = 2
        · rw [if_pos y2, if_neg (by decide), if_pos y2]
        · rw [if_neg y2, if_pos rfl, if_neg y2]
          by_cases y3 : kc (β i) = 3
          · rw [if_pos y3, if_neg (by decide), if_pos y3]
          · rw [if_neg y3, if_pos rfl, if_neg y3]
    by_cases z0 : kc (β i) = 0
    · rw [rst, if_pos z0, c_blank hn hb (show k < 402 by omega) (by omega) z0 ht e4]
      exact ih (i + 1) k m' r' 0 g h (by omega) (by omega) ht hr hW e4 e10 hk hP (hM.mono (by omega)) (fun hi' hq y => by
        rcases hq with q | q <;> rw [q] at y <;> exact absurd y (by decide)) (by omega) (by omega)
    by_cases zq : kc (β i) = 2 ∨ kc (β i) = 3
    · -- a run
      obtain ⟨q, hq⟩ : ∃ q, q = kc (β i) := ⟨_, rfl⟩
      rw [← hq] at zq
      obtain ⟨j, j1, j2, j3⟩ := run_len (P := fun t => kc (β t) = q) (n := n) (n - i) i (by omega)
      have jpos : 1 ≤ j := by
        refine Nat.pos_of_ne_zero (fun y => ?_)
        subst y
        exact j3 (by omega) hq.symm
      obtain ⟨w1, p1, p2, p3, p4, p5⟩ := c_frst hn zq hb (show k < 402 by omega) (show i < n by omega) hq.symm ht e4 (by rw [hq]; exact hsync (by omega) (by rw [← hq]; exact zq)) m'
      obtain ⟨w2, v1, v2, v3, v4, v5⟩ := c_more hn zq hb (show k + 1 < 402 by omega) (j - 1) 1 (m' - (j - 1)) w1 (by omega) (fun t ht' => by
        have := j2 (t + 1) (by omega)
        rw [show i + 1 + t = i + (t + 1) by omega]
        exact this) p2 p3
      rw [show m' - (j - 1) + (j - 1) = m' by omega, show i + 1 + (j - 1) = i + j by omega] at v1
      rw [show 1 + (j - 1) = j by omega] at v3
      obtain ⟨x4, x20, x19⟩ := v3
      have fr12 : xfrm fTk g w2 := p5.th (v5.wk rfl)
      have sy : i + j < n → (kc (β (i + j)) = 2 ∨ kc (β (i + j)) = 3) → nI q ≠ nI (kc (β (i + j))) := fun hlt hk23 y => j3 hlt ((nI_eq (by rcases zq with u | u <;> omega) (by rcases hk23 with u | u <;> omega)).mp y).symm
      -- the reference's token
      have rtok : ∃ (K3 : Nat) (val : Int32) (nm : Int64) (w : xG), f_X12_cut_60_7 (r' + 1) (nI i) h = f_X12_cut_60_7 r' (nI (i + j)) w ∧ f_X12_token_60 (nI (kap K3)) (nI i) val nm h = some w ∧ (∃ a, 1 ≤ a ∧ a ≤ 12 ∧ w2.1 19 k = nI a ∧ K3 = (if a = 2 then wKd W (w2.2 21 k) 21 else a) ∧ (a = 2 → nm = w2.2 21 k) ∧ (a = 3 → ∃ d, d ≤ 9999 ∧ w2.2 21 k = lN d ∧ val = nI d)) := by
        rcases zq with rfl | rfl
        · rw [rst, if_neg z0, if_pos hq.symm, r_name hn hb hr j1 j2 j3, r_named hW hi (by omega) (by omega)]
          by_cases z8 : j ≤ 8
          · rw [if_pos rfl] at x19
            rw [if_pos z8] at x19
            obtain ⟨x19, x21⟩ := x19
            rw [if_pos rfl] at x21
            rw [if_pos z8, show min j 8 = j by omega]
            obtain ⟨w, t1, -⟩ := r_token (show k < 403 by omega) e10 (nI (kap (wKd W (nvS β i j) 21))) (nI i) 0 (nvS β i j)
            refine ⟨wKd W (nvS β i j) 21, 0, nvS β i j, w, by rw [t1, Option.bind_some], t1, 2, by decide, by decide, x19, ?_, fun _ => x21.symm, fun y => absurd y (by decide)⟩
            rw [if_pos rfl, x21]
          · rw [if_pos rfl, if_neg z8] at x19
            rw [if_neg z8]
            obtain ⟨w, t1, -⟩ := r_token (show k < 403 by omega) e10 (nI (kap 1)) (nI i) 0 (nvS β i (min j 8))
            exact ⟨1, 0, nvS β i (min j 8), w, by rw [t1, Option.bind_some], t1, 1, by decide, by decide, x19, rfl, fun y => absurd y (by decide), fun y => absurd y (by decide)⟩
        · rw [rst, if_neg z0, if_neg (by rw [← hq]; decide), if_pos hq.symm, r_int hn hb hr j1 j2 j3]
          by_cases z4 : j ≤ 4
          · rw [if_neg (show ¬ (3 : Nat) = 2 by decide), if_pos z4] at x19
            obtain ⟨x19, x21⟩ := x19
            rw [if_neg (by decide)] at x21
            rw [if_pos z4, show min j 4 = j by omega]
            have hd := dN_lt (β := β) (s := i) (l := j) (fun t ht' => (kc_3 _ (hb _)).mp (j2 t ht'))
            have hd4 : 10 ^ j ≤ 10 ^ 4 := Nat.pow_le_pow_right (by decide) z4
            obtain ⟨w, t1, -⟩ := r_token (show k < 403 by omega) e10 (nI (kap 3)) (nI i) (nI (dN β i j)) 0
            exact ⟨3, nI (dN β i j), 0, w, by rw [show (2 : Int32) = nI (kap 3) from rfl, t1, Option.bind_some], t1, 3, by decide, by decide, x19, rfl, fun y => absurd y (by decide), fun _ => ⟨dN β i j, by omega, x21, rfl⟩⟩
          · rw [if_neg (show ¬ (3 : Nat) = 2 by decide), if_neg z4] at x19
            rw [if_neg z4]
            obtain ⟨w, t1, -⟩ := r_token (show k < 403 by omega) e10 (nI (kap 1)) (nI i) (nI (dN β i (min j 4))) 0
            exact ⟨1, nI (dN β i (min j 4)), 0, w, by rw [show (3 : Int32) = nI (kap 1) from rfl, t1, Option.bind_some], t1, 1, by decide, by decide, x19, rfl, fun y => absurd y (by decide), fun y => absurd y (by decide)⟩
      obtain ⟨K3, val, nm, w, t0, t1, a, a1, a2, a3, a4, a5, a6⟩ := rtok
      obtain ⟨w', t1', y1, ⟨y2, y3, y4, y5⟩, y6, y7⟩ := r_token (show k < 403 by omega) e10 (nI (kap K3)) (nI i) val nm
      rw [t1] at t1'
      cases t1'
      obtain ⟨gE, hE, o1, o2, o3, o4⟩ := ih (i + j) (k + 1) (m' - (j - 1)) r' (nI q) w2 w (by omega) (by omega) v2 (hr.fr y7) (fun u hu => ((y7 67 u rfl).2).trans (hW u hu)) x4 y1 (by omega) (fun t ht' => by
        by_cases tk : t = k
        · subst tk
          exact ⟨a, i, a1, a2, by omega, a3, x20, y3, y2.trans (by rw [a4]), fun u => y5.trans (a5 u), fun u => by
            obtain ⟨d', d1, d2, d3⟩ := a6 u
            exact ⟨d', d1, d2, y4.trans d3⟩⟩
        · obtain ⟨b1, b2, b3⟩ := p4 t tk
          obtain ⟨c1, c2⟩ := v4 t tk
          obtain ⟨e1, e2, e3, e4'⟩ := y6 t tk
          exact (hP t (by omega)).go (c1.trans b1) (((v5 20 t rfl).1).trans b2) (c2.trans b3) e1 e2 e3 e4') ((hM.ext fun t ht' => ((v5 20 t rfl).1).trans (p4 t (by omega)).2.1).push x20 (by omega)) sy (by omega) (by omega)
      exact ⟨gE, hE, (p1.trans v1).trans o1, t0.trans o2, o3, fr12.th o4⟩
    · -- a sign
      have z2 : kc (β i) ≠ 2 := fun y => zq (.inl y)
      have z3 : kc (β i) ≠ 3 := fun y => zq (.inr y)
      have h12 := kc_12 (β i) hc
      obtain ⟨w1, p1, p2, p3, p4, p5, p6, p7⟩ := c_sign hn hb (bf := bf) (show k < 402 by omega) (show i < n by omega) z0 z2 z3 ht e4 m'
      obtain ⟨c1, cb⟩ : ∃ c1, f_X12_byteAt_60 (nI (i + 1)) h = some c1 := by
        by_cases y : i + 1 < n
        · exact ⟨_, hr.byte hn y⟩
        · exact ⟨_, hr.none (by omega) (by omega)⟩
      obtain ⟨w, t1, y1, ⟨y2, y3, y4, y5⟩, y6, y7⟩ := r_token (show k < 403 by omega) e10 (nI (kap (kc (β i)))) (nI i) 0 0
      obtain ⟨gE, hE, o1, o2, o3, o4⟩ := ih (i + 1) (k + 1) m' r' (nI (kc (β i))) w1 w (by omega) (by omega) p2 (hr.fr y7) (fun u hu => ((y7 67 u rfl).2).trans (hW u hu)) p3 y1 (by omega) (fun t ht' => by
        by_cases tk : t = k
        · subst tk
          exact ⟨kc (β i), i, by omega, h12, by omega, p4, p5, y3, y2.trans (by rw [if_neg z2]), fun u => absurd u z2, fun u => absurd u z3⟩
        · obtain ⟨b1, b2, b3⟩ := p6 t tk
          obtain ⟨e1, e2, e3, e4'⟩ := y6 t tk
          exact (hP t (by omega)).go b1 b2 b3 e1 e2 e3 e4') ((hM.ext fun t ht' => (p6 t (by omega)).2.1).push p5 (by omega)) (fun hlt hk23 y => by
        have := kc_12 _ (hb (i + 1))
        have := (nI_eq (by omega) (by omega)).mp y
        rcases hk23 with u | u
        · exact z2 (this.trans u)
        · exact z3 (this.trans u)) (by omega) (by omega)
      refine ⟨gE, hE, p1.trans o1, ?_, o3, p7.th o4⟩
      rw [rst, if_neg z0, if_neg z2, if_neg z3, cb, Option.bind_some, r_sign hc z0 z2 z3, t1, Option.bind_some, Option.bind_some, show (nI i + 1 : Int32) = nI (i + 1) from nI_1 i]
      exact o2
