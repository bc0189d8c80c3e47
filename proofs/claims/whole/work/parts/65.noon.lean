/-! rows of the state, and what the laws say of a person -/
def stF (P : Nat) (ρ f : Nat → Int32) : Prop := (f 0 = ρ 37 ∧ f 1 = ρ 38 ∧ f 2 = ρ 39 ∧ f 4 = ρ 36 ∧ f 3 = nI (bq (fun p => decide (ρ (30 + p) = 1)) P)) ∧ ∀ p, p < P → f (5 + p) = ρ p ∧ f (11 + p) = ρ (6 + p) ∧ f (17 + p) = ρ (12 + p) ∧ f (23 + p) = ρ (18 + p) ∧ f (29 + p) = ρ (24 + p)
theorem bq_s (f : Nat → Bool) (n : Nat) : bq f (n + 1) = if f n then 2 ^ n + bq f n else bq f n := rfl
theorem stF_up {P i j : Nat} {ρ f : Nat → Int32} {v : Int32} (h : stF P ρ f) (h0 : 0 = j ↔ 37 = i) (h1 : 1 = j ↔ 38 = i) (h2 : 2 = j ↔ 39 = i) (h4 : 4 = j ↔ 36 = i) (h3 : 3 ≠ j) (hb : ∀ q, q < P → 30 + q ≠ i) (hq : ∀ q, q < P → (5 + q = j ↔ q = i) ∧ (11 + q = j ↔ 6 + q = i) ∧ (17 + q = j ↔ 12 + q = i) ∧ (23 + q = j ↔ 18 + q = i) ∧ (29 + q = j ↔ 24 + q = i)) : stF P (upd ρ i v) (upd f j v) := by
  obtain ⟨⟨e0, e1, e2, e4, e3⟩, ep⟩ := h
  refine ⟨⟨?_, ?_, ?_, ?_, ?_⟩, fun q hp => ?_⟩
  · simp only [upd, h0]; rw [e0]
  · simp only [upd, h1]; rw [e1]
  · simp only [upd, h2]; rw [e2]
  · simp only [upd, h4]; rw [e4]
  · simp only [upd]
    rw [if_neg h3, e3, bq_eq (fun k hk => ?_)]
    have := hb k hk
    show decide (ρ (30 + k) = 1) = decide (upd ρ i v (30 + k) = 1)
    rw [show upd ρ i v (30 + k) = ρ (30 + k) from if_neg this]
  · obtain ⟨a1, a2, a3, a4, a5⟩ := hq q hp
    obtain ⟨b1, b2, b3, b4, b5⟩ := ep q hp
    simp only [upd, a1, a2, a3, a4, a5]
    rw [b1, b2, b3, b4, b5]
    exact ⟨rfl, rfl, rfl, rfl, rfl⟩
def rowOK (R : pR) (ρ : Nat → Int32) : Prop := (∃ c, c < 1024 ∧ ρ 36 = nI c) ∧ (∀ p, p < rP R → (∃ a, a < rT R ∧ ρ p = nI a) ∧ (ρ (6 + p) = -2 ∨ ∃ a, a < rT R ∧ ρ (6 + p) = nI a) ∧ (ρ (30 + p) = 0 ∨ ρ (30 + p) = 1) ∧ ∃ m, m ≤ 99999 ∧ ρ (24 + p) = nI m) ∧ ∀ p, rP R ≤ p → p < 6 → ρ (18 + p) = 0 ∧ ρ (24 + p) = 0
def sThere (R : pR) (ρ : Nat → Int32) : Nat := bq (fun p => decide (ρ p = nI (rC R))) (rP R)
def lvV (R : pR) (ρ : Nat → Int32) (far : Int32) (p : Nat) (cl : Int32) : Nat → Int32 := fun i => if i = 0 then far else if i = 1 then ρ (12 + p) else if i = 2 then rH R p else if i = 3 then ρ (18 + p) else if i = 4 then ρ 37 else if i = 5 then nI p else if i = 6 then cl else if i = 7 then nI (pcn (sThere R ρ) 10) else ρ (24 + p)
def sClaim (R : pR) (ρ : Nat → Int32) (far : Int32) (p : Nat) : Int32 := f_X12_within (lvLaw (lvV R ρ far p 0) (rL R 0)) 0 999
def lMost (k : Nat) : Int32 := if k = 2 then 99 else if k = 3 then 100 else 999
def sLaw (R : pR) (ρ : Nat → Int32) (far : Int32) (p k : Nat) : Int32 := if k = 0 then sClaim R ρ far p else f_X12_within (lvLaw (lvV R ρ far p (sClaim R ρ far p)) (rL R k)) 0 (lMost k)
theorem held_in (m v : Int32) (hm : 0 ≤ m) : f_X1_heldTo m v = f_X12_within v 0 m := by
  unfold f_X1_heldTo f_X12_within xmax xmin
  simp only [Int32.lt_iff_toInt_lt, Int32.le_iff_toInt_le] at *
  have h0 : (0 : Int32).toInt = 0 := rfl
  rw [h0] at hm ⊢
  by_cases h1 : v.toInt < m.toInt
  · rw [if_pos h1]
    by_cases h2 : (0 : Int) < v.toInt
    · rw [if_pos h2, if_pos (by omega), if_pos (by omega)]
    · rw [if_neg h2]
      by_cases h3 : (0 : Int) ≤ v.toInt
      · rw [if_pos h3, if_pos (by omega)]
        exact Int32.toInt_inj.mp (by rw [h0]; omega)
      · rw [if_neg h3]
  · rw [if_neg h1]
    by_cases h2 : (0 : Int) < m.toInt
    · rw [if_pos h2, if_pos (by omega)]
      by_cases h3 : v.toInt ≤ m.toInt
      · rw [if_pos h3]
        exact Int32.toInt_inj.mp (by omega)
      · rw [if_neg h3]
    · rw [if_neg h2]
      by_cases h3 : (0 : Int) ≤ v.toInt
      · rw [if_pos h3]
        by_cases h4 : v.toInt ≤ m.toInt
        · rw [if_pos h4]
          exact Int32.toInt_inj.mp (by rw [h0]; omega)
        · rw [if_neg h4]
          exact Int32.toInt_inj.mp (by rw [h0]; omega)
      · rw [if_neg h3]
theorem within_0 (v m : Int32) (hm : 0 ≤ m) : 0 ≤ (f_X12_within v 0 m).toInt ∧ (f_X12_within v 0 m).toInt ≤ m.toInt := by
  unfold f_X12_within
  simp only [Int32.le_iff_toInt_le] at *
  have h0 : (0 : Int32).toInt = 0 := rfl
  rw [h0] at hm ⊢
  by_cases h3 : (0 : Int) ≤ v.toInt
  · rw [if_pos h3]
    by_cases h4 : v.toInt ≤ m.toInt
    · rw [if_pos h4]; omega
    · rw [if_neg h4]; omega
  · rw [if_neg h3, h0]; omega
theorem sClaim_0 (R : pR) (ρ : Nat → Int32) (far : Int32) (p : Nat) : 0 ≤ (sClaim R ρ far p).toInt := (within_0 _ _ (by decide)).1

/-! ===== the class's state in 49 ===== -/
section
variable {g : xG} {P : Nat} {ρ : Nat → Int32}
theorem c_pl48 (h : stF P ρ (g.1 49)) (h6 : P ≤ 6) {p : Nat} (hp : p < P) : f_X6_of_48 (nI p) 5 g = ρ p := by
  unfold f_X6_of_48
  rw [a5, xat_in (by omega) (by decide)]
  exact (h.2 p hp).1
theorem c_go48 (h : stF P ρ (g.1 49)) (h6 : P ≤ 6) {p : Nat} (hp : p < P) : f_X6_of_48 (nI p) 11 g = ρ (6 + p) := by
  unfold f_X6_of_48
  rw [a11, xat_in (by omega) (by decide)]
  exact (h.2 p hp).2.1
theorem c_wa48 (h : stF P ρ (g.1 49)) (h6 : P ≤ 6) {p : Nat} (hp : p < P) : f_X6_of_48 (nI p) 17 g = ρ (12 + p) := by
  unfold f_X6_of_48
  rw [a17, xat_in (by omega) (by decide)]
  exact (h.2 p hp).2.2.1
theorem c_ru48 (h : stF P ρ (g.1 49)) (h6 : P ≤ 6) {p : Nat} (hp : p < P) : f_X6_of_48 (nI p) 23 g = ρ (18 + p) := by
  unfold f_X6_of_48
  rw [a23, xat_in (by omega) (by decide)]
  exact (h.2 p hp).2.2.2.1
theorem c_pu48 (h : stF P ρ (g.1 49)) (h6 : P ≤ 6) {p : Nat} (hp : p < P) : f_X6_of_48 (nI p) 29 g = ρ (24 + p) := by
  unfold f_X6_of_48
  rw [a29, xat_in (by omega) (by decide)]
  exact (h.2 p hp).2.2.2.2
theorem c_day48 (h : stF P ρ (g.1 49)) : f_X6_get_48 0 g = ρ 37 := (xat_in (i := 0) (by decide) (by decide)).trans h.1.1
theorem c_lr48 (h : stF P ρ (g.1 49)) : f_X6_get_48 1 g = ρ 38 := (xat_in (i := 1) (by decide) (by decide)).trans h.1.2.1
theorem c_ls48 (h : stF P ρ (g.1 49)) : f_X6_get_48 2 g = ρ 39 := (xat_in (i := 2) (by decide) (by decide)).trans h.1.2.2.1
theorem c_ba48 (h : stF P ρ (g.1 49)) : f_X6_get_48 3 g = nI (bq (fun p => decide (ρ (30 + p) = 1)) P) := (xat_in (i := 3) (by decide) (by decide)).trans h.1.2.2.2.2
theorem c_cl48 (h : stF P ρ (g.1 49)) : f_X6_get_48 4 g = ρ 36 := (xat_in (i := 4) (by decide) (by decide)).trans h.1.2.2.2.1
theorem c_isBarred48 (h : stF P ρ (g.1 49)) (h6 : P ≤ 6) {p : Nat} (hp : p < P) : f_X6_isBarred_48 (nI p) g = if ρ (30 + p) = 1 then 1 else 0 := by
  have hl := bq_lt (fun p => decide (ρ (30 + p) = 1)) P
  have h64 : 2 ^ P ≤ 2 ^ 6 := Nat.pow_le_pow_right (by decide) h6
  have ht := bq_bit (fun p => decide (ρ (30 + p) = 1)) P p
  unfold f_X6_isBarred_48
  rw [c_ba48 h, bi_bit p (by omega)]
  by_cases e : ρ (30 + p) = 1
  · rw [if_pos e, if_neg (fun z => by rw [(bi_in (by omega) (by omega)).mp z] at ht; simp [hp, e] at ht)]
  · rw [if_neg e, if_pos ((bi_in (by omega) (by omega)).mpr (by rw [ht]; simp [e]))]
theorem c_peopleIn48 (h : stF P ρ (g.1 49)) (h6 : P ≤ 6) (x : Int32) : f_X6_peopleIn_48 x (nI P) g = some (nI (bq (fun p => decide (ρ p = x)) P)) := by
  unfold f_X6_peopleIn_48
  refine lpv (fun n i a => f_X6_peopleIn_48_5 g n x (nI P) a i) (fun i => nI (bq (fun p => decide (ρ p = x)) i)) P _ ?_ ?_ xN 0 (Nat.zero_le _) (by show P < 4000 + 0; omega)
  · intro n i hi
    simp only [f_X6_peopleIn_48_5]
    rw [if_neg (nI_ge hi (by omega)), a5, xat_in (by omega) (by decide), (h.2 i hi).1, bi_bit i (by omega), nI_1, bq_or]
    rw [bq_s]
    by_cases e : ρ i = x
    · rw [if_pos e, if_pos (decide_eq_true e)]
    · rw [if_neg e, if_neg (by rw [decide_eq_false e]; decide)]
  · intro n
    simp only [f_X6_peopleIn_48_5]
    rw [if_pos (nI_le (Nat.le_refl _) (by omega))]
end

/-! ===== the class's state in 51 ===== -/
section
variable {g : xG} {P : Nat} {ρ : Nat → Int32}
theorem c_pl50 (h : stF P ρ (g.1 51)) (h6 : P ≤ 6) {p : Nat} (hp : p < P) : f_X6_of_50 (nI p) 5 g = ρ p := by
  unfold f_X6_of_50
  rw [a5, xat_in (by omega) (by decide)]
  exact (h.2 p hp).1
theorem c_go50 (h : stF P ρ (g.1 51)) (h6 : P ≤ 6) {p : Nat} (hp : p < P) : f_X6_of_50 (nI p) 11 g = ρ (6 + p) := by
  unfold f_X6_of_50
  rw [a11, xat_in (by omega) (by decide)]
  exact (h.2 p hp).2.1
theorem c_wa50 (h : stF P ρ (g.1 51)) (h6 : P ≤ 6) {p : Nat} (hp : p < P) : f_X6_of_50 (nI p) 17 g = ρ (12 + p) := by
  unfold f_X6_of_50
  rw [a17, xat_in (by omega) (by decide)]
  exact (h.2 p hp).2.2.1
theorem c_ru50 (h : stF P ρ (g.1 51)) (h6 : P ≤ 6) {p : Nat} (hp : p < P) : f_X6_of_50 (nI p) 23 g = ρ (18 + p) := by
  unfold f_X6_of_50
  rw [a23, xat_in (by omega) (by decide)]
  exact (h.2 p hp).2.2.2.1
theorem c_pu50 (h : stF P ρ (g.1 51)) (h6 : P ≤ 6) {p : Nat} (hp : p < P) : f_X6_of_50 (nI p) 29 g = ρ (24 + p) := by
  unfold f_X6_of_50
  rw [a29, xat_in (by omega) (by decide)]
  exact (h.2 p hp).2.2.2.2
theorem c_day50 (h : stF P ρ (g.1 51)) : f_X6_get_50 0 g = ρ 37 := (xat_in (i := 0) (by decide) (by decide)).trans h.1.1
theorem c_lr50 (h : stF P ρ (g.1 51)) : f_X6_get_50 1 g = ρ 38 := (xat_in (i := 1) (by decide) (by decide)).trans h.1.2.1
theorem c_ls50 (h : stF P ρ (g.1 51)) : f_X6_get_50 2 g = ρ 39 := (xat_in (i := 2) (by decide) (by decide)).trans h.1.2.2.1
theorem c_ba50 (h : stF P ρ (g.1 51)) : f_X6_get_50 3 g = nI (bq (fun p => decide (ρ (30 + p) = 1)) P) := (xat_in (i := 3) (by decide) (by decide)).trans h.1.2.2.2.2
theorem c_cl50 (h : stF P ρ (g.1 51)) : f_X6_get_50 4 g = ρ 36 := (xat_in (i := 4) (by decide) (by decide)).trans h.1.2.2.2.1
theorem c_isBarred50 (h : stF P ρ (g.1 51)) (h6 : P ≤ 6) {p : Nat} (hp : p < P) : f_X6_isBarred_50 (nI p) g = if ρ (30 + p) = 1 then 1 else 0 := by
  have hl := bq_lt (fun p => decide (ρ (30 + p) = 1)) P
  have h64 : 2 ^ P ≤ 2 ^ 6 := Nat.pow_le_pow_right (by decide) h6
  have ht := bq_bit (fun p => decide (ρ (30 + p) = 1)) P p
  unfold f_X6_isBarred_50
  rw [c_ba50 h, bi_bit p (by omega)]
  by_cases e : ρ (30 + p) = 1
  · rw [if_pos e, if_neg (fun z => by rw [(bi_in (by omega) (by omega)).mp z] at ht; simp [hp, e] at ht)]
  · rw [if_neg e, if_pos ((bi_in (by omega) (by omega)).mpr (by rw [ht]; simp [e]))]
theorem c_peopleIn50 (h : stF P ρ (g.1 51)) (h6 : P ≤ 6) (x : Int32) : f_X6_peopleIn_50 x (nI P) g = some (nI (bq (fun p => decide (ρ p = x)) P)) := by
  unfold f_X6_peopleIn_50
  refine lpv (fun n i a => f_X6_peopleIn_50_5 g n x (nI P) a i) (fun i => nI (bq (fun p => decide (ρ p = x)) i)) P _ ?_ ?_ xN 0 (Nat.zero_le _) (by show P < 4000 + 0; omega)
  · intro n i hi
    simp only [f_X6_peopleIn_50_5]
    rw [if_neg (nI_ge hi (by omega)), a5, xat_in (by omega) (by decide), (h.2 i hi).1, bi_bit i (by omega), nI_1, bq_or]
    rw [bq_s]
    by_cases e : ρ i = x
    · rw [if_pos e, if_pos (decide_eq_true e)]
    · rw [if_neg e, if_neg (by rw [decide_eq_false e]; decide)]
  · intro n
    simp only [f_X6_peopleIn_50_5]
    rw [if_pos (nI_le (Nat.le_refl _) (by omega))]
end
