/-! clerks -/
def sSe (R : pR) (c s : Nat) : Nat → Bool
  | 0 => true
  | r + 1 => sSe R c s r && (c.testBit r || (s.testBit (rA R r) || s.testBit (rB R r)))
theorem sSe_s (R : pR) (c s r : Nat) : sSe R c s (r + 1) = (sSe R c s r && (c.testBit r || (s.testBit (rA R r) || s.testBit (rB R r)))) := rfl
theorem sSe_no {R : pR} {c s r : Nat} (h : sSe R c s r = false) : ∀ n, r ≤ n → sSe R c s n = false
  | 0, hn => by rw [show r = 0 by omega] at h; exact h
  | n + 1, hn => by
    by_cases e : r = n + 1
    · rw [← e]; exact h
    · rw [sSe_s, sSe_no h n (by omega), Bool.false_and]
theorem nb_in2 {s a b : Nat} (hs : s < 2 ^ 31) (ha : a < 31) (hb : b < 31) : (nI s &&& (nI (2 ^ a) ||| nI (2 ^ b))) = 0 ↔ (s.testBit a || s.testBit b) = false := by
  rw [nb_or, nb_and, ← nI_0, nI_eq (Nat.lt_of_le_of_lt Nat.and_le_left hs) (by omega), Nat.and_or_distrib_left, Nat.or_eq_zero_iff, nb_in, nb_in, Bool.or_eq_false_iff]
theorem T_pow {T : Nat} (h : T ≤ 7) : 2 ^ T ≤ 128 := Nat.pow_le_pow_right (n := 2) (by decide) h
theorem pc_full : ∀ T, T ≤ 7 → pcn (2 ^ T - 1) 10 = T := by decide +kernel
theorem pc_less : ∀ s, s < 128 → ∀ T, T ≤ 7 → s < 2 ^ T → pcn s 10 ≤ T ∧ (s ≠ 2 ^ T - 1 → pcn s 10 < T) := by decide +kernel
section
variable {R : pR} {L c : Nat} {ρ : Nat → Int32}
theorem c_sees (hR : rOK R) (hc2 : c < 1024) {g : xG} (h : jC_44_48 R ρ c g) {s : Nat} (hs : s < 2 ^ 31) : f_X7_seesAllRoads_42 (nI s) g = some (if sSe R c s (rR R) = true then 1 else 0) := by
  have h10 := hR.r
  have h7 := hR.t
  unfold f_X7_seesAllRoads_42
  refine lp (fun n i (_ : Unit) => f_X7_seesAllRoads_42_2 g n (nI s) i) (fun r _ => sSe R c s r = true) (rR R) (fun o => o = some (if sSe R c s (rR R) = true then 1 else 0)) ?_ ?_ xN 0 () (Nat.zero_le _) (by show rR R < 4000 + 0; omega) rfl
  · intro n r _ hr e1
    have ha := hR.a hr
    have hb := hR.b hr
    simp only [f_X7_seesAllRoads_42_2]
    rw [show f_X4_roads_3 g = nI (rR R) from h.1.1.2.1, if_neg (nI_ge hr (by omega)), c_isOpen38 h.1 hR h.2.2.1 (by omega) hr, c_one h.1 hR hr, c_oth h.1 hR hr, bi_bit _ (by omega), bi_bit _ (by omega), nI_1]
    by_cases e : c.testBit r = true
    · rw [if_pos e, if_pos rfl]
      exact .inl ⟨(), rfl, by rw [sSe_s, e1, e]; rfl⟩
    · rw [if_neg e, if_neg (show ¬ (1 : Int32) = 0 by decide)]
      by_cases z : (s.testBit (rA R r) || s.testBit (rB R r)) = false
      · rw [if_pos ((nb_in2 hs (by omega) (by omega)).mpr z)]
        refine .inr ?_
        rw [sSe_no (show sSe R c s (r + 1) = false by rw [sSe_s, e1, z, show c.testBit r = false by simpa using e]; rfl) (rR R) (by omega), if_neg (by decide)]
      · rw [if_neg (fun y => z ((nb_in2 hs (by omega) (by omega)).mp y))]
        exact .inl ⟨(), rfl, by rw [sSe_s, e1, show (s.testBit (rA R r) || s.testBit (rB R r)) = true by simpa only [Bool.not_eq_false] using z]; simp⟩
  · intro n _ e1
    simp only [f_X7_seesAllRoads_42_2]
    rw [show f_X4_roads_3 g = nI (rR R) from h.1.1.2.1, if_pos (nI_le (Nat.le_refl _) (by omega)), e1]
    rfl
def sCk (R : pR) (c : Nat) : Nat → Option Nat
  | 0 => none
  | s + 1 => match sCk R c s with
    | none => if sSe R c s (rR R) = true then some s else none
    | some b => if pcn s 10 < pcn b 10 ∧ sSe R c s (rR R) = true then some s else some b
theorem sCk_s (R : pR) (c s : Nat) : sCk R c (s + 1) = match sCk R c s with | none => if sSe R c s (rR R) = true then some s else none | some b => if pcn s 10 < pcn b 10 ∧ sSe R c s (rR R) = true then some s else some b := rfl
theorem sCk_lt {R : pR} {c : Nat} : ∀ {a q : Nat}, sCk R c a = some q → q < a
  | 0, _, h => by cases h
  | p + 1, q, h => by
    rw [sCk_s] at h
    match e : sCk R c p with
    | none =>
      rw [e] at h
      dsimp only at h
      split at h
      · cases h; omega
      · cases h
    | some q' =>
      rw [e] at h
      have := sCk_lt e
      dsimp only at h
      split at h
      · cases h; omega
      · cases h; omega
theorem sSe_full (hR : rOK R) : ∀ n, n ≤ rR R → sSe R c (2 ^ rT R - 1) n = true
  | 0, _ => rfl
  | n + 1, h => by
    rw [sSe_s, sSe_full hR n (by omega), Nat.testBit_two_pow_sub_one, decide_eq_true (hR.a (show n < rR R by omega))]
    simp
theorem sCk_all (hR : rOK R) : ∃ q, sCk R c (2 ^ rT R) = some q ∧ q < 2 ^ rT R := by
  have hp : 0 < 2 ^ rT R := Nat.two_pow_pos _
  have key : ∃ q, sCk R c (2 ^ rT R) = some q := by
    obtain ⟨s, hs⟩ : ∃ s, 2 ^ rT R = s + 1 := ⟨2 ^ rT R - 1, by omega⟩
    have hf := sSe_full (c := c) hR (rR R) (Nat.le_refl _)
    rw [hs] at hf ⊢
    rw [show s + 1 - 1 = s from rfl] at hf
    rw [sCk_s]
    match e : sCk R c s with
    | none => exact ⟨s, by simp [hf]⟩
    | some b =>
      dsimp only
      split
      · exact ⟨_, rfl⟩
      · exact ⟨_, rfl⟩
  obtain ⟨q, e⟩ := key
  exact ⟨q, e, sCk_lt e⟩
def gF (T : Nat) : Option Nat → Int32
  | none => nI (2 ^ T - 1)
  | some q => nI q
def gK : Option Nat → Int32
  | none => -1
  | some q => nI q
theorem c_clerksL (hR : rOK R) (hc2 : c < 1024) {g : xG} (h : jC_44_48 R ρ c g) : f_X7_clerkTowns_42 g = some (gF (rT R) (sCk R c (2 ^ rT R))) := by
  have h7 := hR.t
  have hp := T_pow h7
  have h0 : 0 < 2 ^ rT R := Nat.two_pow_pos _
  unfold f_X7_clerkTowns_42
  rw [show f_X4_towns_3 g = nI (rT R) from h.1.1.1, bi_bit _ (by omega), show (1 : Int32) = nI 1 from rfl, pk_sub (by omega)]
  refine lp (fun n i (a : Int32) => f_X7_clerkTowns_42_15 g n a i) (fun s a => a = gF (rT R) (sCk R c s)) (2 ^ rT R) (fun o => o = some (gF (rT R) (sCk R c (2 ^ rT R)))) ?_ ?_ xN 0 (nI (2 ^ rT R - 1)) (Nat.zero_le _) (by show 2 ^ rT R < 4000 + 0; omega) rfl
  · rintro n s a hs rfl
    refine .inl ?_
    simp only [f_X7_clerkTowns_42_15]
    obtain ⟨p1, p2⟩ := pc_less s (by omega) (rT R) h7 hs
    rw [show f_X4_towns_3 g = nI (rT R) from h.1.1.1, bi_bit _ (by omega), if_neg (nI_ge hs (by omega)), c_sees hR hc2 h (by omega), Option.bind_some, c_bits s (by omega), nI_1, sCk_s]
    match e : sCk R c s with
    | none =>
      rw [show gF (rT R) none = nI (2 ^ rT R - 1) from rfl, c_bits _ (by omega), pc_full _ h7, ite_le (by omega) (by omega)]
      dsimp only
      by_cases z : s = 2 ^ rT R - 1
      · rw [z, pc_full _ h7, if_pos (Nat.le_refl _)]
        refine ⟨_, rfl, ?_⟩
        split
        · rfl
        · rfl
      · have := p2 z
        rw [if_neg (by omega)]
        by_cases y : sSe R c s (rR R) = true
        · rw [if_pos y, if_pos y, if_neg (by decide)]
          exact ⟨_, rfl, rfl⟩
        · rw [if_neg y, if_neg y, if_pos rfl]
          exact ⟨_, rfl, rfl⟩
    | some b =>
      have hb := sCk_lt e
      have q1 := pcn_le s 10
      have q2 := pcn_le b 10
      rw [show gF (rT R) (some b) = nI b from rfl, c_bits _ (by omega), ite_le (by omega) (by omega)]
      dsimp only
      by_cases z : pcn b 10 ≤ pcn s 10
      · rw [if_pos z, if_neg (fun y => absurd y.1 (by omega))]
        exact ⟨_, rfl, rfl⟩
      · rw [if_neg z]
        by_cases y : sSe R c s (rR R) = true
        · rw [if_pos y, if_neg (by decide), if_pos ⟨by omega, y⟩]
          exact ⟨_, rfl, rfl⟩
        · rw [if_neg y, if_pos rfl, if_neg (fun v => y v.2)]
          exact ⟨_, rfl, rfl⟩
  · rintro n a rfl
    simp only [f_X7_clerkTowns_42_15]
    rw [show f_X4_towns_3 g = nI (rT R) from h.1.1.1, bi_bit _ (by omega), if_pos (nI_le (Nat.le_refl _) (by omega))]
theorem r_sees (hR : rOK R) (hc : ρ 36 = nI c) (hc2 : c < 1024) {g : xG} (h : jR L R ρ c g) {s : Nat} (hs : s < 2 ^ 31) (k : Int32 → Int32 → Int32 → xG → Option (Int32 × xG)) (l1 l2 : Int32) (f : Bool) : f_X12_clerks_60_59 k xN l1 l2 (nI s) (if f = true then 1 else 0) 0 g = k l1 (if (f && sSe R c s (rR R)) = true then nI s else l2) (nI (s + 1)) g := by
  have h10 := hR.r
  have h7 := hR.t
  obtain ⟨⟨⟨hL, e18, eT, eR, eP, eC, eS⟩, hrr, -⟩, -, -, -⟩ := id h
  have h0 : (if f = true then (1 : Int32) else 0) = if (f && sSe R c s 0) = true then 1 else 0 := by
    rw [show sSe R c s 0 = true from rfl, Bool.and_true]
  rw [h0]
  refine lpv (fun n i (a : Int32) => f_X12_clerks_60_59 k n l1 l2 (nI s) a i g) (fun r => if (f && sSe R c s r) = true then 1 else 0) (rR R) _ ?_ ?_ xN 0 (Nat.zero_le _) (by show rR R < 4000 + 0; omega)
  · intro n r hr
    have ha := hR.a hr
    have hb := hR.b hr
    obtain ⟨b1, b2, -⟩ := hrr r hr
    simp only [f_X12_clerks_60_59]
    rw [e18, xg_in hL (by decide), nI_clamp (show L < 2 ^ 31 by omega), eR, if_neg (nI_ge hr (by omega)), r_isOpen h hc (by omega) (by omega), Option.bind_some, i10, xg_in (show 10 * L + r < 20 by omega) (by decide), xg_in (show 10 * L + r < 20 by omega) (by decide), nI_clamp (show 10 * L + r < 2 ^ 31 by omega), b1, b2, bi_sh _ (by omega), bi_sh _ (by omega), nI_1, sSe_s]
    by_cases e : c.testBit r = true
    · rw [if_pos e, if_pos rfl, e, Bool.true_or, Bool.and_true]
    · rw [if_neg e, if_neg (show ¬ (1 : Int32) = 0 by decide), show c.testBit r = false by simpa using e, Bool.false_or]
      by_cases z : (s.testBit (rA R r) || s.testBit (rB R r)) = false
      · rw [if_pos ((nb_in2 hs (by omega) (by omega)).mpr z), z, Bool.and_false, Bool.and_false, if_neg (by decide)]
      · rw [if_neg (fun y => z ((nb_in2 hs (by omega) (by omega)).mp y)), show (s.testBit (rA R r) || s.testBit (rB R r)) = true by simpa only [Bool.not_eq_false] using z, Bool.and_true]
  · intro n
    simp only [f_X12_clerks_60_59]
    rw [e18, xg_in hL (by decide), nI_clamp (show L < 2 ^ 31 by omega), eR, if_pos (nI_le (Nat.le_refl _) (by omega)), nI_1]
    cases (f && sSe R c s (rR R)) with
    | false => rw [if_neg (show ¬ false = true by decide), if_neg (show ¬ false = true by decide), if_pos rfl]
    | true => rw [if_pos rfl, if_pos rfl, if_neg (by decide)]
theorem r_clerksL (hR : rOK R) (hc : ρ 36 = nI c) (hc2 : c < 1024) {g : xG} (h : jR L R ρ c g) (x : Int32) : f_X12_clerks_60_19 xN x (-1) 0 g = (if x = 0 then (f_X12_bits (gK (sCk R c (2 ^ rT R)))).bind fun v => some (v, g) else some (gK (sCk R c (2 ^ rT R)), g)) := by
  have h7 := hR.t
  have hp := T_pow h7
  obtain ⟨⟨⟨hL, e18, eT, eR, eP, eC, eS⟩, hrr, -⟩, -, -, -⟩ := id h
  refine lp (fun n i (a : Int32) => f_X12_clerks_60_19 n x a i g) (fun s a => a = gK (sCk R c s)) (2 ^ rT R) (fun o => o = (if x = 0 then (f_X12_bits (gK (sCk R c (2 ^ rT R)))).bind fun v => some (v, g) else some (gK (sCk R c (2 ^ rT R)), g))) ?_ ?_ xN 0 (-1 : Int32) (Nat.zero_le _) (by show 2 ^ rT R < 4000 + 0; omega) rfl
  · rintro n s a hs rfl
    refine .inl ?_
    simp only [f_X12_clerks_60_19]
    rw [e18, xg_in hL (by decide), nI_clamp (show L < 2 ^ 31 by omega), eT, bi_sh _ (by omega), if_neg (nI_ge hs (by omega)), sCk_s]
    match e : sCk R c s with
    | none =>
      have e0 := r_sees hR hc hc2 h (s := s) (by omega) (f_X12_clerks_60_19 n) x (gK none) true
      rw [Bool.true_and] at e0
      rw [if_pos (show gK none < 0 by decide)]
      dsimp only
      by_cases y : sSe R c s (rR R) = true
      · rw [if_pos y] at e0 ⊢
        exact ⟨_, e0, rfl⟩
      · rw [if_neg y] at e0 ⊢
        exact ⟨_, e0, rfl⟩
    | some b =>
      have hb := sCk_lt e
      have q1 := pcn_le s 10
      have q2 := pcn_le b 10
      rw [show gK (some b) = nI b from rfl, if_neg (nI_pos (by omega)), r_bits (by omega), Option.bind_some, r_bits (by omega), Option.bind_some, ite_le (by omega) (by omega)]
      dsimp only
      by_cases z : pcn b 10 ≤ pcn s 10
      · have e0 := r_sees hR hc hc2 h (s := s) (by omega) (f_X12_clerks_60_19 n) x (nI b) false
        rw [Bool.false_and, if_neg (show ¬ false = true by decide)] at e0
        rw [if_pos z, if_neg (show ¬ (pcn s 10 < pcn b 10 ∧ sSe R c s (rR R) = true) from fun y => absurd y.1 (by omega))]
        exact ⟨_, e0, rfl⟩
      · have e0 := r_sees hR hc hc2 h (s := s) (by omega) (f_X12_clerks_60_19 n) x (nI b) true
        rw [Bool.true_and] at e0
        rw [if_neg z]
        by_cases y : sSe R c s (rR R) = true
        · rw [if_pos y] at e0
          rw [if_pos (show pcn s 10 < pcn b 10 ∧ sSe R c s (rR R) = true from ⟨by omega, y⟩)]
          exact ⟨_, e0, rfl⟩
        · rw [if_neg y] at e0
          rw [if_neg (show ¬ (pcn s 10 < pcn b 10 ∧ sSe R c s (rR R) = true) from fun v => y v.2)]
          exact ⟨_, e0, rfl⟩
  · rintro n a rfl
    simp only [f_X12_clerks_60_19]
    rw [e18, xg_in hL (by decide), nI_clamp (show L < 2 ^ 31 by omega), eT, bi_sh _ (by omega), if_pos (nI_le (Nat.le_refl _) (by omega))]
theorem q_clerks (hR : rOK R) (ho : rowOK R ρ) (hc : ρ 36 = nI c) (hc2 : c < 1024) (x : Int32) : aQ R L c ρ (fV (f_X11_clerks_0 x)) (f_X12_clerks_60 x) := by
  have h7 := hR.t
  have hpw := T_pow h7
  rcases aW x with ⟨n0, n1, ei⟩ | ⟨h01, ei⟩
  · refine ⟨-1, fun g h => fV_some ?_, fun g h => ⟨g, ?_⟩⟩
    · unfold f_X11_clerks_0
      rw [if_neg n0, if_neg n1]
    · unfold f_X12_clerks_60
      rw [ei, if_pos rfl]
  obtain ⟨q, eq, hq⟩ := sCk_all (c := c) hR
  refine ⟨if x = 0 then nI (pcn q 10) else nI q, fun g h => fV_some ?_, fun g h => ?_⟩
  · have key : f_X11_clerks_0_11 g x = some (if x = 0 then nI (pcn q 10) else nI q) := by
      unfold f_X11_clerks_0_11
      rw [c_clerksL hR hc2 h, Option.bind_some, eq, show gF (rT R) (some q) = nI q from rfl, c_bits q (by omega)]
      by_cases z : x = 0
      · rw [if_pos z, if_pos z]
      · rw [if_neg z, if_neg z]
    unfold f_X11_clerks_0
    rcases h01 with z | z
    · rw [if_pos z, key]
    · rw [if_neg (by rw [z]; decide), if_pos z, key]
  · obtain ⟨w1, e1, j1, -, -, -⟩ := r_copies hR h hc (by omega)
    refine ⟨w1, ?_⟩
    unfold f_X12_clerks_60
    rw [ei, if_neg (by decide), e1, Option.bind_some, r_clerksL hR hc hc2 j1, eq, show gK (some q) = nI q from rfl, r_bits (by omega), Option.bind_some]
    by_cases z : x = 0
    · rw [if_pos z, if_pos z]
    · rw [if_neg z, if_neg z]
/-! how far it is goes down along the road that is walked -/
theorem dRd_edge (hR : rOK R) : ∀ n, n ≤ rR R → ∀ a b, a ≠ b → dRd R c n a b < 999 → ∃ r, r < n ∧ c.testBit r = false ∧ (rA R r = a ∨ rB R r = a) ∧ oth R r a = b ∧ rM R r = dRd R c n a b
  | 0, _, a, b, hab, h => by
    unfold dRd dI at h
    rw [if_neg hab] at h
    omega
  | n + 1, hn, a, b, hab, h => by
    have ih := dRd_edge hR n (by omega) a b hab
    have hne := hR.ab (show n < rR R by omega)
    rw [dRd_s] at h ⊢
    by_cases e : c.testBit n = true
    · rw [if_pos e] at h ⊢
      obtain ⟨r, h1, h2⟩ := ih h
      exact ⟨r, by omega, h2⟩
    · rw [if_neg e] at h ⊢
      unfold dSt at h ⊢
      by_cases z : (a = rA R n ∧ b = rB R n) ∨ (a = rB R n ∧ b = rA R n)
      · rw [if_pos z] at h ⊢
        by_cases y : dRd R c n a b ≤ rM R n
        · rw [Nat.min_eq_left y] at h ⊢
          obtain ⟨r, h1, h2⟩ := ih h
          exact ⟨r, by omega, h2⟩
        · refine ⟨n, by omega, by simpa using e, ?_, ?_, (Nat.min_eq_right (by omega)).symm⟩
          · rcases z with ⟨z1, z2⟩ | ⟨z1, z2⟩
            · exact .inl z1.symm
            · exact .inr z1.symm
          · unfold oth
            rcases z with ⟨z1, z2⟩ | ⟨z1, z2⟩
            · rw [if_pos z1.symm, z2]
            · rw [if_neg (by omega), z2]
      · rw [if_neg z] at h ⊢
        obtain ⟨r, h1, h2⟩ := ih h
        exact ⟨r, by omega, h2⟩
theorem dFw_edge (hR : rOK R) : ∀ k, k ≤ rT R → ∀ a b, a ≠ b → dFw R c k a b < 999 → ∃ r, r < rR R ∧ c.testBit r = false ∧ (rA R r = a ∨ rB R r = a) ∧ rM R r + dFw R c k (oth R r a) b ≤ dFw R c k a b
  | 0, _, a, b, hab, h => by
    obtain ⟨r, h1, h2, h3, h4, h5⟩ := dRd_edge (c := c) hR (rR R) (Nat.le_refl _) a b hab h
    refine ⟨r, h1, h2, h3, ?_⟩
    have h0 : dFw R c 0 b b = 0 := (dFw_ok hR c 0 (Nat.zero_le _)).1 b
    have e : dFw R c 0 a b = dRd R c (rR R) a b := rfl
    rw [h4, h0, e, h5]
    omega
  | k + 1, hk, a, b, hab, h => by
    have ih := dFw_edge hR k (by omega)
    obtain ⟨d1, d2, d3, d4, d5⟩ := dFw_ok hR c k (by omega)
    have ek : ∀ x y, dFw R c (k + 1) x y = min (dFw R c k x y) (dFw R c k x k + dFw R c k k y) := fun x y => rfl
    rw [ek] at h
    by_cases z : dFw R c k a b ≤ dFw R c k a k + dFw R c k k b
    · rw [Nat.min_eq_left z] at h
      obtain ⟨r, h1, h2, h3, h4⟩ := ih a b hab h
      refine ⟨r, h1, h2, h3, ?_⟩
      rw [ek, ek]
      omega
    · have hak : a ≠ k := by
        rintro rfl
        have := d1 a
        omega
      obtain ⟨r, h1, h2, h3, h4⟩ := ih a k hak (by omega)
      refine ⟨r, h1, h2, h3, ?_⟩
      rw [ek, ek]
      omega
theorem sRd_min {t gl r : Nat} : ∀ {n : Nat}, r < n → sCan R c t gl r → ∃ q v, sRd R c t gl n = some (q, v) ∧ v ≤ rM R r + sD R c (oth R r t) gl
  | 0, h, _ => by omega
  | n + 1, h, hc => by
    by_cases e : r = n
    · subst e
      match hs : sRd R c t gl r with
      | none => exact ⟨_, _, sRd_none hc hs, Nat.le_refl _⟩
      | some (q, v) =>
        rw [sRd_some hc hs]
        split
        · exact ⟨_, _, rfl, Nat.le_refl _⟩
        · exact ⟨_, _, rfl, by omega⟩
    · obtain ⟨q, v, hs, hv⟩ := sRd_min (n := n) (by omega) hc
      by_cases z : sCan R c t gl n
      · rw [sRd_some z hs]
        split
        · exact ⟨_, _, rfl, by omega⟩
        · exact ⟨_, _, rfl, hv⟩
      · rw [sRd_no z]
        exact ⟨q, v, hs, hv⟩
theorem sRd_dec (hR : rOK R) {t gl q v : Nat} (hne : t ≠ gl) (h : sRd R c t gl (rR R) = some (q, v)) : sD R c (oth R q t) gl < sD R c t gl := by
  obtain ⟨h1, ⟨-, -, h2⟩, h3⟩ := sRd_lt _ h
  have h9 := (sD_ok hR c).2.2.1 t gl
  by_cases z : sD R c t gl < 999
  · obtain ⟨r, r1, r2, r3, r4⟩ := dFw_edge (c := c) hR (rT R) (Nat.le_refl _) t gl hne z
    have r4' : rM R r + sD R c (oth R r t) gl ≤ sD R c t gl := r4
    have m1 := hR.m r1
    have m2 := hR.m h1
    obtain ⟨q', v', e, hv⟩ := sRd_min (gl := gl) (t := t) r1 ⟨r2, r3, by omega⟩
    rw [h] at e
    cases e
    omega
  · omega
/-! steps -/
def cnN (f : Nat → Bool) : Nat → Nat
  | 0 => 0
  | n + 1 => cnN f n + if f n = true then 1 else 0
theorem cnN_s (f : Nat → Bool) (n : Nat) : cnN f (n + 1) = cnN f n + if f n = true then 1 else 0 := rfl
theorem cnN_le {f h : Nat → Bool} : ∀ {n : Nat}, (∀ k, k < n → f k = true → h k = true) → cnN f n ≤ cnN h n
  | 0, _ => Nat.le_refl _
  | n + 1, e => by
    have a := cnN_le (n := n) (fun k hk => e k (by omega))
    have b := e n (by omega)
    rw [cnN_s, cnN_s]
    by_cases z : f n = true
    · rw [if_pos z, if_pos (b z)]; omega
    · rw [if_neg z]; omega
theorem cnN_lt {f h : Nat → Bool} : ∀ {n k0 : Nat}, (∀ k, k < n → f k = true → h k = true) → k0 < n → f k0 = false → h k0 = true → cnN f n < cnN h n
  | 0, _, _, h0, _, _ => by omega
  | n + 1, k0, e, h0, h1, h2 => by
    have b := e n (by omega)
    rw [cnN_s, cnN_s]
    by_cases z : k0 = n
    · subst z
      have a := cnN_le (n := k0) (fun k hk => e k (by omega))
      rw [if_pos h2, h1, if_neg (by decide)]; omega
    · have a := cnN_lt (n := n) (fun k hk => e k (by omega)) (show k0 < n by omega) h1 h2
      by_cases y : f n = true
      · rw [if_pos y, if_pos (b y)]; omega
      · rw [if_neg y]; omega
def nBel (R : pR) (c gl a : Nat) : Nat := cnN (fun t => decide (sD R c t gl < sD R c a gl)) 7
theorem nBel_lt {gl a b : Nat} (ha : a < 7) (h : sD R c a gl < sD R c b gl) : nBel R c gl a < nBel R c gl b := by
  refine cnN_lt (k0 := a) (fun k hk e => ?_) ha (by simp) (by simpa using h)
  have := of_decide_eq_true e
  exact decide_eq_true (by omega)
theorem nBel_7 {gl a : Nat} (ha : a < 7) : nBel R c gl a < 7 := by
  have : nBel R c gl a < cnN (fun _ => true) 7 := cnN_lt (k0 := a) (fun k hk e => rfl) ha (by simp) rfl
  exact this
def sSp (R : pR) (c gl : Nat) : Nat → Nat → Nat → Int32
  | 0, _, _ => -2
  | k + 1, a, n => if a = gl then nI n else match sRd R c a gl (rR R) with
    | none => -2
    | some (r, _) => sSp R c gl k (oth R r a) (n + 1)
theorem sSp_s (R : pR) (c gl k a n : Nat) : sSp R c gl (k + 1) a n = if a = gl then nI n else match sRd R c a gl (rR R) with | none => -2 | some (r, _) => sSp R c gl k (oth R r a) (n + 1) := rfl
theorem c_roadT38 {g : xG} (hR : rOK R) (h : rmC g R) {t y : Int32} (ht : t < 0) : f_X10_roadToward_38 t y g = some (-2) := by
  have h10 := hR.r
  unfold f_X10_roadToward_38
  refine lp (fun n i (s : Int32 × Int32) => f_X10_roadToward_38_9 g n t y s.1 s.2 i) (fun r s => s.1 = -2) (rR R) (fun o => o = some (-2)) ?_ ?_ xN 0 ((-2 : Int32), (0 : Int32)) (Nat.zero_le _) (by show rR R < 4000 + 0; omega) rfl
  · rintro n r ⟨b, m⟩ hr e1
    dsimp only at e1 ⊢
    refine .inl ⟨(b, m), ?_, e1⟩
    simp only [f_X10_roadToward_38_9]
    rw [show f_X4_roads_3 g = nI (rR R) from h.1.2.1, if_neg (nI_ge hr (by omega)), c_acrossN h hR hr ht, c_betweenN38 (.inl (by decide)), nI_1]
    split
    · rfl
    · rw [if_pos (by decide)]
  · rintro n ⟨b, m⟩ e1
    dsimp only at e1 ⊢
    simp only [f_X10_roadToward_38_9]
    rw [show f_X4_roads_3 g = nI (rR R) from h.1.2.1, if_pos (nI_le (Nat.le_refl _) (by omega)), e1]
theorem c_stuck {g : xG} (hR : rOK R) (h : rmC g R) {gl : Nat} (hg : gl < 7) : ∀ fuel n, n ≤ 8 → 8 < fuel + n → f_X11_steps_0_37 g fuel (nI gl) (-2) (nI n) = some (-2) := by
  intro fuel
  induction fuel with
  | zero => intro n h1 h2; omega
  | succ m ih =>
    intro n h1 h2
    simp only [f_X11_steps_0_37]
    by_cases z : n = 8
    · subst z
      rw [if_pos (show (7 : Int32) < nI 8 by decide)]
    · rw [if_neg (show ¬ (7 : Int32) < nI n from nI_nlt (a := 7) (by omega) (by decide)), if_neg (show ¬ (-2 : Int32) = nI gl from fun y => nI_pos (show gl < 2 ^ 31 by omega) (by rw [← y]; decide)), c_roadT38 hR h (by decide), Option.bind_some, c_across2 (by decide), nI_1]
      exact ih (n + 1) (by omega) (by omega)
theorem c_stepsL {g : xG} (hR : rOK R) (hc2 : c < 1024) (h : jC_44_48 R ρ c g) {gl : Nat} (hg : gl < rT R) : ∀ k a n fuel, n + k = 8 → nBel R c gl a < k → a < rT R → 8 < fuel + n → f_X11_steps_0_37 g fuel (nI gl) (nI a) (nI n) = some (sSp R c gl k a n) := by
  have h7 := hR.t
  have h10 := hR.r
  intro k
  induction k with
  | zero => intro a n fuel h1 h2; omega
  | succ k ih =>
    intro a n fuel h1 h2 ha h3
    cases fuel with
    | zero => omega
    | succ m =>
      simp only [f_X11_steps_0_37]
      rw [if_neg (show ¬ (7 : Int32) < nI n from nI_nlt (a := 7) (by omega) (by decide)), ite_eqn (by omega) (by omega), sSp_s]
      by_cases z : a = gl
      · rw [if_pos z, if_pos z]
      · rw [if_neg z, if_neg z, c_road38 hR h.1 h.2.2.1 (by omega) h.2.2.2.1 ha hg, Option.bind_some, nI_1]
        match e : sRd R c a gl (rR R) with
        | none =>
          rw [show f_X4_acrossFrom_3 (nI a) (oN none) g = -2 from c_across2 (by decide)]
          exact c_stuck hR h.1 (by omega) m (n + 1) (by omega) (by omega)
        | some (r, v) =>
          obtain ⟨hr, ⟨-, hends, -⟩, -⟩ := sRd_lt _ e
          have hoth := oth_lt (t := a) hR hr
          have hdec := nBel_lt (R := R) (c := c) (show oth R r a < 7 by omega) (sRd_dec hR z e)
          rw [show oN (some (r, v)) = nI r from rfl, c_across h.1 hR hr (by omega), if_pos hends]
          exact ih (oth R r a) (n + 1) m (by omega) (by omega) hoth (by omega)
theorem r_stepsL {g : xG} (hR : rOK R) (hc : ρ 36 = nI c) (hc2 : c < 1024) (h : jR L R ρ c g) {gl : Nat} (hg : gl < rT R) : ∀ k a n fuel, nBel R c gl a < k → a < rT R → k < fuel → f_X12_steps_60_32 fuel (nI gl) (nI a) (nI n) g = some (sSp R c gl k a n, g) := by
  have h7 := hR.t
  have h10 := hR.r
  intro k
  induction k with
  | zero => intro a n fuel h2; omega
  | succ k ih =>
    intro a n fuel h2 ha h3
    cases fuel with
    | zero => omega
    | succ m =>
      simp only [f_X12_steps_60_32]
      rw [ite_eqn (by omega) (by omega), sSp_s]
      by_cases z : a = gl
      · rw [if_pos z, if_pos z]
      · rw [if_neg z, if_neg z, r_roadFor h hR hc (by omega) ha hg, Option.bind_some, nI_1]
        match e : sRd R c a gl (rR R) with
        | none =>
          rw [if_neg (show ¬ 0 ≤ oN none by decide)]
        | some (r, v) =>
          obtain ⟨hr, ⟨-, hends, -⟩, -⟩ := sRd_lt _ e
          have hoth := oth_lt (t := a) hR hr
          have hdec := nBel_lt (R := R) (c := c) (show oth R r a < 7 by omega) (sRd_dec hR z e)
          rw [show oN (some (r, v)) = nI r from rfl, if_pos (nI_pos' (by omega)), r_otherEnd h.1 hR hr hends, Option.bind_some]
          exact ih (oth R r a) (n + 1) m (by omega) hoth (by omega)
theorem q_steps (hR : rOK R) (ho : rowOK R ρ) (hc : ρ 36 = nI c) (hc2 : c < 1024) (x y : Int32) : aQ R L c ρ (fV (f_X11_steps_0 x y)) (f_X12_steps_60 x y) := by
  rcases aP hR x with ⟨a1, a2⟩ | ⟨p, hp, rfl, a1, a2⟩
  · refine ⟨-1, fun g h => fV_some ?_, fun g h => ⟨g, ?_⟩⟩
    · unfold f_X11_steps_0
      rw [a1 g h.1, if_pos rfl]
    · unfold f_X12_steps_60
      rw [a2 g L h.1, Option.bind_some, if_pos rfl]
  rcases aT hR y with ⟨b1, b2⟩ | ⟨gl, hg, rfl, b1, b2⟩
  · refine ⟨-1, fun g h => fV_some ?_, fun g h => ⟨g, ?_⟩⟩
    · unfold f_X11_steps_0
      rw [a1 g h.1, if_neg (by decide), b1 g h.1, if_pos rfl]
    · unfold f_X12_steps_60
      rw [a2 g L h.1, Option.bind_some, if_neg (by decide), b2 g L h.1, Option.bind_some, if_pos rfl]
  have h6 := hR.p
  have h7 := hR.t
  obtain ⟨⟨t, ht, et⟩, -⟩ := ho.2.1 p hp
  have hb := nBel_7 (R := R) (c := c) (gl := gl) (a := t) (by omega)
  refine ⟨sSp R c gl 8 t 0, fun g h => fV_some ?_, fun g h => ?_⟩
  · unfold f_X11_steps_0
    rw [a1 g h.1, if_neg (by decide), b1 g h.1, if_neg (by decide), c_pl48 h.2.2.2.2 h6 hp, et]
    exact c_stepsL hR hc2 h hg 8 t 0 xN (by decide) (by omega) ht (by decide)
  · obtain ⟨w1, e1, j1, -, -, -⟩ := r_copies hR h hc (by omega)
    refine ⟨w1, ?_⟩
    unfold f_X12_steps_60
    rw [a2 g L h.1, Option.bind_some, if_neg (by decide), b2 g L h.1, Option.bind_some, if_neg (by decide), e1, Option.bind_some, xg_in (by omega) (by decide), nI_clamp (by omega), j1.2.2.1 p (by omega), et]
    exact r_stepsL hR hc hc2 j1 hg 8 t 0 xN (by omega) ht (by decide)
/-! the tree -/
def sSo (R : pR) (c j : Nat) : Nat → Option Nat
  | 0 => none
  | r + 1 => if c.testBit r = false ∧ j.testBit (rA R r) ≠ j.testBit (rB R r) then (match sSo R c j r with
    | none => some r
    | some q => if rM R r < rM R q then some r else some q) else sSo R c j r
theorem sSo_s (R : pR) (c j r : Nat) : sSo R c j (r + 1) = if c.testBit r = false ∧ j.testBit (rA R r) ≠ j.testBit (rB R r) then (match sSo R c j r with | none => some r | some q => if rM R r < rM R q then some r else some q) else sSo R c j r := rfl
theorem sSo_lt {j : Nat} : ∀ {n q : Nat}, sSo R c j n = some q → q < n ∧ j.testBit (rA R q) ≠ j.testBit (rB R q)
  | 0, _, h => by cases h
  | p + 1, q, h => by
    rw [sSo_s] at h
    split at h
    · next z =>
      match e : sSo R c j p with
      | none => rw [e] at h; cases h; exact ⟨by omega, z.2⟩
      | some q' =>
        rw [e] at h
        have := sSo_lt e
        dsimp only at h
        split at h
        · cases h; exact ⟨by omega, z.2⟩
        · cases h; exact ⟨by omega, this.2⟩
    · have := sSo_lt h
      exact ⟨by omega, this.2⟩
theorem c_short (hR : rOK R) (hc2 : c < 1024) {g : xG} (h : jC_44_48 R ρ c g) {j : Nat} (hj : j < 2 ^ 31) : f_X7_shortestOutOf_42 (nI j) g = some (gS (sSo R c j (rR R))) := by
  have h10 := hR.r
  have h7 := hR.t
  unfold f_X7_shortestOutOf_42
  refine lpv (fun n i (a : Int32) => f_X7_shortestOutOf_42_5 g n (nI j) a i) (fun r => gS (sSo R c j r)) (rR R) _ ?_ ?_ xN 0 (Nat.zero_le _) (by show rR R < 4000 + 0; omega)
  · intro n r hr
    have ha := hR.a hr
    have hb := hR.b hr
    have go : ∀ (b1 b2 : Bool), j.testBit (rA R r) = b1 → j.testBit (rB R r) = b2 → ∀ l4 s0 : Int32, l4 = (if b1 = true then 1 else 0) → s0 = (if b2 = true then 1 else 0) → f_X7_shortestOutOf_42_60 (f_X7_shortestOutOf_42_5 g n) g (nI j) (gS (sSo R c j r)) (nI r) l4 s0 = f_X7_shortestOutOf_42_5 g n (nI j) (gS (sSo R c j (r + 1))) (nI (r + 1)) := by
      intro b1 b2 e1 e2 l4 s0 q1 q2
      unfold f_X7_shortestOutOf_42_60
      rw [c_isOpen38 h.1 hR h.2.2.1 (by omega) hr, nI_1, sSo_s, e1, e2]
      by_cases e : c.testBit r = true
      · rw [if_pos e, if_pos rfl, if_neg (fun y => by rw [y.1] at e; cases e)]
      · rw [if_neg e, if_neg (show ¬ (1 : Int32) = 0 by decide)]
        by_cases z : b1 = b2
        · rw [if_pos (by rw [q1, q2, z]), if_neg (fun y => y.2 z)]
        · rw [if_neg (show ¬ l4 = s0 by
            rw [q1, q2]
            cases b1 <;> cases b2 <;> first | exact absurd rfl z | decide), if_pos (show c.testBit r = false ∧ b1 ≠ b2 from ⟨by simpa using e, z⟩)]
          match es : sSo R c j r with
          | none =>
            rw [if_pos (show gS none < 0 by decide)]
            rfl
          | some q =>
            have hq := (sSo_lt es).1
            have m1 := hR.m hr
            have m2 := hR.m (show q < rR R by omega)
            rw [show gS (some q) = nI q from rfl, if_neg (nI_pos (by omega)), c_mil h.1 hR hr, c_mil h.1 hR (show q < rR R by omega), ite_le (by omega) (by omega)]
            dsimp only
            by_cases y : rM R r < rM R q
            · rw [if_neg (by omega), if_pos y]
              rfl
            · rw [if_pos (by omega), if_neg y]
              rfl
    simp only [f_X7_shortestOutOf_42_5]
    rw [show f_X4_roads_3 g = nI (rR R) from h.1.1.2.1, if_neg (nI_ge hr (by omega)), c_one h.1 hR hr, bi_bit _ (by omega)]
    have go2 : ∀ (b1 : Bool), j.testBit (rA R r) = b1 → ∀ l4 : Int32, l4 = (if b1 = true then 1 else 0) → f_X7_shortestOutOf_42_37 (f_X7_shortestOutOf_42_5 g n) g (nI j) (gS (sSo R c j r)) (nI r) l4 = f_X7_shortestOutOf_42_5 g n (nI j) (gS (sSo R c j (r + 1))) (nI (r + 1)) := by
      intro b1 e1 l4 q1
      unfold f_X7_shortestOutOf_42_37
      rw [c_oth h.1 hR hr, bi_bit _ (by omega)]
      by_cases z : j.testBit (rB R r) = false
      · rw [if_pos ((bi_in hj (by omega)).mpr z)]
        exact go b1 false e1 z l4 0 q1 rfl
      · rw [if_neg (fun y => z ((bi_in hj (by omega)).mp y))]
        exact go b1 true e1 (by simpa using z) l4 1 q1 rfl
    by_cases z : j.testBit (rA R r) = false
    · rw [if_pos ((bi_in hj (by omega)).mpr z)]
      exact go2 false z 0 rfl
    · rw [if_neg (fun y => z ((bi_in hj (by omega)).mp y))]
      exact go2 true (by simpa using z) 1 rfl
  · intro n
    simp only [f_X7_shortestOutOf_42_5]
    rw [show f_X4_roads_3 g = nI (rR R) from h.1.1.2.1, if_pos (nI_le (Nat.le_refl _) (by omega))]
def gQ (L : Nat) : Option Nat → Int32
  | none => -1
  | some q => nI (10 * L + q)
theorem r_short (hR : rOK R) (hc : ρ 36 = nI c) (hc2 : c < 1024) {g : xG} (h : jR L R ρ c g) {j : Nat} (hj : j < 2 ^ 31) (k : Int32 → Int32 → Int32 → xG → Option (Int32 × xG)) (l1 l3 : Int32) : f_X12_tree_60_40 k xN l1 (nI j) l3 (-1) 0 g = match sSo R c j (rR R) with | none => some (-2, g) | some r => k l1 (nI (j ||| (2 ^ rA R r ||| 2 ^ rB R r))) (l3 + nI (rM R r)) g := by
  have h10 := hR.r
  have h7 := hR.t
  obtain ⟨⟨⟨hL, e18, eT, eR, eP, eC, eS⟩, hrr, -⟩, -, -, -⟩ := id h
  refine lpv (fun n i (a : Int32) => f_X12_tree_60_40 k n l1 (nI j) l3 a i g) (fun r => gQ L (sSo R c j r)) (rR R) _ ?_ ?_ xN 0 (Nat.zero_le _) (by show rR R < 4000 + 0; omega)
  · intro n r hr
    have ha := hR.a hr
    have hb := hR.b hr
    obtain ⟨b1, b2, b3⟩ := hrr r hr
    simp only [f_X12_tree_60_40]
    rw [e18, xg_in hL (by decide), nI_clamp (show L < 2 ^ 31 by omega), eR, if_neg (nI_ge hr (by omega)), r_isOpen h hc (by omega) (by omega), Option.bind_some, i10, xg_in (show 10 * L + r < 20 by omega) (by decide), xg_in (show 10 * L + r < 20 by omega) (by decide), nI_clamp (show 10 * L + r < 2 ^ 31 by omega), b1, b2, bi_one hj (by omega), bi_one hj (by omega), sSo_s]
    by_cases e : c.testBit r = true
    · rw [if_pos e, if_pos rfl, if_neg (show ¬ (c.testBit r = false ∧ j.testBit (rA R r) ≠ j.testBit (rB R r)) from fun y => by rw [y.1] at e; cases e)]
      unfold f_X12_tree_60_104 f_X12_tree_60_105
      rw [if_pos rfl, nI_1]
    · rw [if_neg e, if_neg (show ¬ (1 : Int32) = 0 by decide)]
      by_cases z : j.testBit (rA R r) = j.testBit (rB R r)
      · rw [if_pos (show (if j.testBit (rA R r) = true then (1 : Int32) else 0) = if j.testBit (rB R r) = true then 1 else 0 by rw [z]), if_neg (show ¬ (c.testBit r = false ∧ j.testBit (rA R r) ≠ j.testBit (rB R r)) from fun y => y.2 z)]
        unfold f_X12_tree_60_104 f_X12_tree_60_105
        rw [if_pos rfl, nI_1]
      · rw [if_neg (show ¬ (if j.testBit (rA R r) = true then (1 : Int32) else 0) = if j.testBit (rB R r) = true then 1 else 0 by
          revert z
          cases j.testBit (rA R r) <;> cases j.testBit (rB R r) <;> intro z <;> first | exact absurd rfl z | decide), if_pos (show c.testBit r = false ∧ j.testBit (rA R r) ≠ j.testBit (rB R r) from ⟨by simpa using e, z⟩)]
        unfold f_X12_tree_60_105
        rw [if_neg (show ¬ (1 : Int32) = 0 by decide), nI_1]
        match es : sSo R c j r with
        | none =>
          rw [if_pos (show gQ L none < 0 by show (-1 : Int32) < 0; decide)]
          rfl
        | some q =>
          have hq := (sSo_lt es).1
          have m1 := hR.m hr
          have m2 := hR.m (show q < rR R by omega)
          rw [show gQ L (some q) = nI (10 * L + q) from rfl, if_neg (nI_pos (by omega)), xg_in (show 10 * L + r < 20 by omega) (by decide), xg_in (show 10 * L + q < 20 by omega) (by decide), nI_clamp (show 10 * L + r < 2 ^ 31 by omega), nI_clamp (show 10 * L + q < 2 ^ 31 by omega), b3, (hrr q (by omega)).2.2, ite_le (by omega) (by omega)]
          dsimp only
          by_cases y : rM R r < rM R q
          · rw [if_neg (by omega), if_pos y]
            rfl
          · rw [if_pos (by omega), if_neg y]
            rfl
  · intro n
    simp only [f_X12_tree_60_40]
    rw [e18, xg_in hL (by decide), nI_clamp (show L < 2 ^ 31 by omega), eR, if_pos (nI_le (Nat.le_refl _) (by omega))]
    match es : sSo R c j (rR R) with
    | none =>
      rw [if_neg (show ¬ 0 ≤ gQ L none by show ¬ 0 ≤ (-1 : Int32); decide)]
    | some q =>
      have hq := (sSo_lt es).1
      have ha := hR.a hq
      have hb := hR.b hq
      obtain ⟨b1, b2, b3⟩ := hrr q hq
      rw [show gQ L (some q) = nI (10 * L + q) from rfl, if_pos (nI_pos' (by omega)), xg_in (show 10 * L + q < 20 by omega) (by decide), xg_in (show 10 * L + q < 20 by omega) (by decide), xg_in (show 10 * L + q < 20 by omega) (by decide), nI_clamp (show 10 * L + q < 2 ^ 31 by omega), b1, b2, b3, bi_sh _ (by omega), bi_sh _ (by omega), nb_or, nb_or]
def sTr (R : pR) (c : Nat) : Nat → Nat → Nat → Int32
  | 0, _, m => nI m
  | k + 1, j, m => match sSo R c j (rR R) with
    | none => -2
    | some r => sTr R c k (j ||| (2 ^ rA R r ||| 2 ^ rB R r)) (m + rM R r)
theorem sTr_s (R : pR) (c k j m : Nat) : sTr R c (k + 1) j m = match sSo R c j (rR R) with | none => -2 | some r => sTr R c k (j ||| (2 ^ rA R r ||| 2 ^ rB R r)) (m + rM R r) := rfl
theorem pc_more : ∀ j, j < 128 → ∀ a, a < 7 → ∀ b, b < 7 → j.testBit a ≠ j.testBit b → pcn (j ||| (2 ^ a ||| 2 ^ b)) 10 = pcn j 10 + 1 := by decide +kernel
theorem or_lt2 {j a b T : Nat} (hj : j < 2 ^ T) (ha : a < T) (hb : b < T) : j ||| (2 ^ a ||| 2 ^ b) < 2 ^ T := Nat.or_lt_two_pow hj (Nat.or_lt_two_pow (Nat.pow_lt_pow_right (by decide) ha) (Nat.pow_lt_pow_right (by decide) hb))
theorem q_tree (hR : rOK R) (ho : rowOK R ρ) (hc : ρ 36 = nI c) (hc2 : c < 1024) : aQ R L c ρ (fV f_X11_tree_0) f_X12_tree_60 := by
  have h7 := hR.t
  have hp := T_pow h7
  by_cases T0 : rT R = 0
  · refine ⟨-2, fun g h => fV_some ?_, fun g h => ⟨g, ?_⟩⟩
    · unfold f_X11_tree_0 f_X7_leastMilesToJoin_42
      rw [show f_X4_towns_3 g = nI (rT R) from h.1.1.1, T0, if_pos nI_0]
      rfl
    · obtain ⟨⟨⟨hL, e18, eT, eR, eP, eC, eS⟩, hrr, -⟩, -, -⟩ := id h
      unfold f_X12_tree_60
      rw [e18, xg_in hL (by decide), nI_clamp (show L < 2 ^ 31 by omega), eT, T0, if_pos (by decide)]
  · refine ⟨sTr R c (rT R - 1) 1 0, fun g h => fV_some ?_, fun g h => ?_⟩
    · have key : f_X7_leastMilesToJoin_42_22 g xN (nI 1) 0 1 = some (sTr R c (rT R - 1) 1 0) := by
        refine lp (fun n i (s : Int32 × Int32) => f_X7_leastMilesToJoin_42_22 g n s.1 s.2 i) (fun k s => ∃ j m, s = (nI j, nI m) ∧ j < 2 ^ rT R ∧ sTr R c (rT R - k) j m = sTr R c (rT R - 1) 1 0) (rT R) (fun o => o = some (sTr R c (rT R - 1) 1 0)) ?_ ?_ xN 1 (nI 1, (0 : Int32)) (by omega) (by show rT R < 4000 + 1; omega) ⟨1, 0, rfl, Nat.one_lt_two_pow (by omega), rfl⟩
        · rintro n k s hk ⟨j, m, rfl, hj, e⟩
          simp only [f_X7_leastMilesToJoin_42_22]
          rw [show f_X4_towns_3 g = nI (rT R) from h.1.1.1, if_neg (nI_ge hk (by omega)), c_short hR hc2 h (by omega), Option.bind_some]
          rw [show rT R - k = (rT R - (k + 1)) + 1 by omega, sTr_s] at e
          match es : sSo R c j (rR R) with
          | none =>
            rw [es] at e
            rw [if_neg (show ¬ 0 ≤ gS none by decide), ← e]
            exact .inr rfl
          | some q =>
            have hq := (sSo_lt es).1
            have ha := hR.a hq
            have hb := hR.b hq
            rw [es] at e
            rw [show gS (some q) = nI q from rfl, if_pos (nI_pos' (by have := hR.r; omega)), c_one h.1 hR hq, c_oth h.1 hR hq, c_mil h.1 hR hq, bi_bit _ (by omega), bi_bit _ (by omega), nb_or, nb_or, nI_add, nI_1]
            exact .inl ⟨_, rfl, _, _, rfl, or_lt2 hj ha hb, e⟩
        · rintro n s ⟨j, m, rfl, hj, e⟩
          simp only [f_X7_leastMilesToJoin_42_22]
          rw [show f_X4_towns_3 g = nI (rT R) from h.1.1.1, if_pos (nI_le (Nat.le_refl _) (by omega)), ← e, Nat.sub_self]
          rfl
      unfold f_X11_tree_0 f_X7_leastMilesToJoin_42
      rw [show f_X4_towns_3 g = nI (rT R) from h.1.1.1, if_neg (nI_ne0 (by omega) (by omega)), show f_X11_bit 0 = nI 1 from rfl, key]
      rfl
    · obtain ⟨w1, e1, j1, -, -, -⟩ := r_copies hR h hc (by omega)
      obtain ⟨⟨⟨hL, e18, eT, eR, eP, eC, eS⟩, hrr, -⟩, -, -⟩ := id h
      have h1 : 1 < 2 ^ rT R := Nat.one_lt_two_pow (by omega)
      refine ⟨w1, ?_⟩
      unfold f_X12_tree_60
      rw [e18, xg_in hL (by decide), nI_clamp (show L < 2 ^ 31 by omega), eT, bi_sh _ (by omega), show (nI (2 ^ rT R) - 1 : Int32) = nI (2 ^ rT R - 1) from pk_sub (b := 1) (by omega), if_neg (nI_ne0 (by omega) (by omega)), e1, Option.bind_some]
      refine lp (fun n i (s : Int32 × Int32) => f_X12_tree_60_29 n (nI (2 ^ rT R - 1)) s.1 s.2 w1) (fun k s => ∃ j m, s = (nI j, nI m) ∧ j < 2 ^ rT R ∧ pcn j 10 = k ∧ sTr R c (rT R - k) j m = sTr R c (rT R - 1) 1 0) (rT R) (fun o => o = some (sTr R c (rT R - 1) 1 0, w1)) ?_ ?_ xN 1 ((1 : Int32), (0 : Int32)) (by omega) (by show rT R < 4000 + 1; omega) ⟨1, 0, rfl, h1, rfl, rfl⟩
      · rintro n k s hk ⟨j, m, rfl, hj, ek, e⟩
        have hne : j ≠ 2 ^ rT R - 1 := by
          rintro rfl
          rw [pc_full _ h7] at ek
          omega
        simp only [f_X12_tree_60_29]
        rw [if_neg (fun y => hne ((nI_eq (by omega) (by omega)).mp y)), r_short hR hc hc2 j1 (by omega)]
        rw [show rT R - k = (rT R - (k + 1)) + 1 by omega, sTr_s] at e
        match es : sSo R c j (rR R) with
        | none =>
          rw [es] at e
          rw [← e]
          exact .inr rfl
        | some q =>
          obtain ⟨hq, hq2⟩ := sSo_lt es
          have ha := hR.a hq
          have hb := hR.b hq
          rw [es] at e
          dsimp only
          rw [nI_add]
          exact .inl ⟨_, rfl, _, _, rfl, or_lt2 hj ha hb, by rw [pc_more j (by omega) _ (by omega) _ (by omega) hq2, ek], e⟩
      · rintro n s ⟨j, m, rfl, hj, ek, e⟩
        have hq : j = 2 ^ rT R - 1 := by
          refine Classical.byContradiction fun y => ?_
          have := (pc_less j (by omega) (rT R) h7 hj).2 y
          omega
        simp only [f_X12_tree_60_29]
        rw [if_pos (by rw [hq]), ← e, Nat.sub_self]
        rfl
end
