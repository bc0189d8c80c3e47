/-! the law's loop of calls -/
section
variable {W : Nat → Int64}
theorem law_all (hi : ∀ u w, u < 21 → w < 21 → W u = W w → u = w) (xs : Nat → Int32) (Ls : Nat) (hLs : Ls ≤ 3072) : ∀ (n l : Nat) (R : pR) (L : Nat) (g : xG), mMM W R L g → l ≤ Ls → Ls < l + 6 * n → okP (f_law_18 xs Ls n (nI l) g) := by
  intro n
  induction n with
  | zero => intro l R L g hM h1 h2; omega
  | succ n ih =>
    intro l R L g hM hl hn
    simp only [f_law_18]
    by_cases hend : (Int32.ofNat Ls) - 6 < nI l
    · rw [if_pos hend]
      exact ⟨_, rfl, rfl⟩
    rw [if_neg hend]
    have h6 : l + 6 ≤ Ls := by
      have a := mt Int32.lt_iff_toInt_lt.mpr hend
      rw [show (Int32.ofNat Ls) - 6 = nI Ls - nI 6 from rfl, pk_sub_toInt (by omega) (by decide), nI_toInt (by omega)] at a
      omega
    have nx : ∀ R L g, mMM W R L g → okP (f_law_18 xs Ls n (nI l + 6) g) := fun R L g h => by
      rw [show nI l + 6 = nI (l + 6) from nI_add l 6]
      exact ih (l + 6) R L g h h6 (by omega)
    have x0 : ∀ o : Option (Int32 × xG), xg (¬ (nI l < 0 ∨ Ls ≤ (nI l).toNatClampNeg)) o = o := fun o => xg_in (by omega) (by omega)
    have x1 : ∀ o : Option (Int32 × xG), xg (¬ (nI l + 1 < 0 ∨ Ls ≤ (nI l + 1).toNatClampNeg)) o = o := fun o => by rw [show nI l + 1 = nI (l + 1) from nI_add l 1]; exact xg_in (by omega) (by omega)
    have x2 : ∀ o : Option (Int32 × xG), xg (¬ (nI l + 2 < 0 ∨ Ls ≤ (nI l + 2).toNatClampNeg)) o = o := fun o => by rw [show nI l + 2 = nI (l + 2) from nI_add l 2]; exact xg_in (by omega) (by omega)
    have x3 : ∀ o : Option (Int32 × xG), xg (¬ (nI l + 3 < 0 ∨ Ls ≤ (nI l + 3).toNatClampNeg)) o = o := fun o => by rw [show nI l + 3 = nI (l + 3) from nI_add l 3]; exact xg_in (by omega) (by omega)
    have x4 : ∀ o : Option (Int32 × xG), xg (¬ (nI l + 4 < 0 ∨ Ls ≤ (nI l + 4).toNatClampNeg)) o = o := fun o => by rw [show nI l + 4 = nI (l + 4) from nI_add l 4]; exact xg_in (by omega) (by omega)
    have x5 : ∀ o : Option (Int32 × xG), xg (¬ (nI l + 5 < 0 ∨ Ls ≤ (nI l + 5).toNatClampNeg)) o = o := fun o => by rw [show nI l + 5 = nI (l + 5) from nI_add l 5]; exact xg_in (by omega) (by omega)
    rw [x0]
    generalize xs (nI l).toNatClampNeg &&& 63 = cmd
    by_cases c0 : cmd = 0
    · rw [if_pos c0]
      simp only [x1, x2, x3, x4, x5]
      exact mm_step (k := fun w => f_law_18 xs Ls n (nI l + 6) w) (d_feed (xs (nI l + 1).toNatClampNeg) (xs (nI l + 2).toNatClampNeg) (xs (nI l + 3).toNatClampNeg) (xs (nI l + 4).toNatClampNeg) (xs (nI l + 5).toNatClampNeg)) hM nx
    rw [if_neg c0]
    by_cases c1 : cmd = 1
    · rw [if_pos c1]
      simp only [x1]
      exact mm_step (k := fun w => f_law_18 xs Ls n (nI l + 6) w) (d_back (xs (nI l + 1).toNatClampNeg)) hM nx
    rw [if_neg c1]
    by_cases c2 : cmd = 2
    · rw [if_pos c2]
      exact mm_step (k := fun w => f_law_18 xs Ls n (nI l + 6) w) (fun R L g h => m_read hi h) hM nx
    rw [if_neg c2]
    by_cases c3 : cmd = 3
    · rw [if_pos c3]
      exact mm_step (k := fun w => f_law_18 xs Ls n (nI l + 6) w) d_place hM nx
    rw [if_neg c3]
    by_cases c4 : cmd = 4
    · rw [if_pos c4]
      simp only [x1, x2]
      exact mm_stepV (k := fun w => f_law_18 xs Ls n (nI l + 6) w) (d_town (xs (nI l + 1).toNatClampNeg) (xs (nI l + 2).toNatClampNeg)) hM nx
    rw [if_neg c4]
    by_cases c5 : cmd = 5
    · rw [if_pos c5]
      simp only [x1, x2]
      exact mm_step (k := fun w => f_law_18 xs Ls n (nI l + 6) w) (d_road (xs (nI l + 1).toNatClampNeg) (xs (nI l + 2).toNatClampNeg)) hM nx
    rw [if_neg c5]
    by_cases c6 : cmd = 6
    · rw [if_pos c6]
      simp only [x1, x2]
      exact mm_step (k := fun w => f_law_18 xs Ls n (nI l + 6) w) (d_person (xs (nI l + 1).toNatClampNeg) (xs (nI l + 2).toNatClampNeg)) hM nx
    rw [if_neg c6]
    by_cases c7 : cmd = 7
    · rw [if_pos c7]
      simp only [x1, x2]
      exact mm_step (k := fun w => f_law_18 xs Ls n (nI l + 6) w) (d_send (xs (nI l + 1).toNatClampNeg) (xs (nI l + 2).toNatClampNeg)) hM nx
    rw [if_neg c7]
    by_cases c8 : cmd = 8
    · rw [if_pos c8]
      rw [x1, x2]
      by_cases e : xs (nI l + 2).toNatClampNeg = 0
      · rw [if_pos e]
        unfold f_law_479
        simp only [x1, x2]
        simp only [if_pos e]
        exact mm_step (k := fun w => f_law_18 xs Ls n (nI l + 6) w) (d_close (xs (nI l + 1).toNatClampNeg) (.inl rfl)) hM nx
      · rw [if_neg e]
        unfold f_law_479
        simp only [x1, x2]
        simp only [if_neg e]
        exact mm_step (k := fun w => f_law_18 xs Ls n (nI l + 6) w) (d_close (xs (nI l + 1).toNatClampNeg) (.inr rfl)) hM nx
    rw [if_neg c8]
    by_cases c9 : cmd = 9
    · rw [if_pos c9]
      simp only [x1]
      exact mm_step (k := fun w => f_law_18 xs Ls n (nI l + 6) w) (d_admit (xs (nI l + 1).toNatClampNeg)) hM nx
    rw [if_neg c9]
    by_cases c10 : cmd = 10
    · rw [if_pos c10]
      simp only [x1]
      exact mm_step (k := fun w => f_law_18 xs Ls n (nI l + 6) w) (d_days (xs (nI l + 1).toNatClampNeg)) hM nx
    rw [if_neg c10]
    by_cases c11 : cmd = 11
    · rw [if_pos c11]
      exact mm_step (k := fun w => f_law_18 xs Ls n (nI l + 6) w) d_undo hM nx
    rw [if_neg c11]
    by_cases c12 : cmd = 12
    · rw [if_pos c12]
      exact mm_step (k := fun w => f_law_18 xs Ls n (nI l + 6) w) d_ringer hM nx
    rw [if_neg c12]
    by_cases c13 : cmd = 13
    · rw [if_pos c13]
      simp only [x1, x2]
      exact mm_step (k := fun w => f_law_18 xs Ls n (nI l + 6) w) (d_far (xs (nI l + 1).toNatClampNeg) (xs (nI l + 2).toNatClampNeg)) hM nx
    rw [if_neg c13]
    by_cases c14 : cmd = 14
    · rw [if_pos c14]
      simp only [x1, x2]
      exact mm_step (k := fun w => f_law_18 xs Ls n (nI l + 6) w) (d_longest (xs (nI l + 1).toNatClampNeg) (xs (nI l + 2).toNatClampNeg)) hM nx
    rw [if_neg c14]
    by_cases c15 : cmd = 15
    · rw [if_pos c15]
      exact mm_step (k := fun w => f_law_18 xs Ls n (nI l + 6) w) d_liars hM nx
    rw [if_neg c15]
    by_cases c16 : cmd = 16
    · rw [if_pos c16]
      exact mm_stepV (k := fun w => f_law_18 xs Ls n (nI l + 6) w) d_truth hM nx
    rw [if_neg c16]
    by_cases c17 : cmd = 17
    · rw [if_pos c17]
      exact mm_step (k := fun w => f_law_18 xs Ls n (nI l + 6) w) d_turns hM nx
    rw [if_neg c17]
    by_cases c18 : cmd = 18
    · rw [if_pos c18]
      simp only [x1]
      exact mm_step (k := fun w => f_law_18 xs Ls n (nI l + 6) w) (d_wish (xs (nI l + 1).toNatClampNeg)) hM nx
    rw [if_neg c18]
    by_cases c19 : cmd = 19
    · rw [if_pos c19]
      simp only [x1]
      exact mm_step (k := fun w => f_law_18 xs Ls n (nI l + 6) w) (d_when (xs (nI l + 1).toNatClampNeg)) hM nx
    rw [if_neg c19]
    by_cases c20 : cmd = 20
    · rw [if_pos c20]
      simp only [x1]
      exact mm_step (k := fun w => f_law_18 xs Ls n (nI l + 6) w) (d_soonest (xs (nI l + 1).toNatClampNeg)) hM nx
    rw [if_neg c20]
    by_cases c21 : cmd = 21
    · rw [if_pos c21]
      simp only [x1, x2]
      exact mm_step (k := fun w => f_law_18 xs Ls n (nI l + 6) w) (d_often (xs (nI l + 1).toNatClampNeg) (xs (nI l + 2).toNatClampNeg)) hM nx
    rw [if_neg c21]
    by_cases c22 : cmd = 22
    · rw [if_pos c22]
      simp only [x1]
      exact mm_step (k := fun w => f_law_18 xs Ls n (nI l + 6) w) (d_rings (xs (nI l + 1).toNatClampNeg)) hM nx
    rw [if_neg c22]
    by_cases c23 : cmd = 23
    · rw [if_pos c23]
      simp only [x1]
      exact mm_stepV (k := fun w => f_law_18 xs Ls n (nI l + 6) w) (d_walks (xs (nI l + 1).toNatClampNeg)) hM nx
    rw [if_neg c23]
    by_cases c24 : cmd = 24
    · rw [if_pos c24]
      simp only [x1]
      exact mm_stepV (k := fun w => f_law_18 xs Ls n (nI l + 6) w) (d_stranger (xs (nI l + 1).toNatClampNeg)) hM nx
    rw [if_neg c24]
    by_cases c25 : cmd = 25
    · rw [if_pos c25]
      simp only [x1]
      exact mm_stepV (k := fun w => f_law_18 xs Ls n (nI l + 6) w) (d_clerks (xs (nI l + 1).toNatClampNeg)) hM nx
    rw [if_neg c25]
    by_cases c26 : cmd = 26
    · rw [if_pos c26]
      simp only [x1]
      exact mm_stepV (k := fun w => f_law_18 xs Ls n (nI l + 6) w) (d_centre (xs (nI l + 1).toNatClampNeg)) hM nx
    rw [if_neg c26]
    by_cases c27 : cmd = 27
    · rw [if_pos c27]
      simp only [x1]
      exact mm_stepV (k := fun w => f_law_18 xs Ls n (nI l + 6) w) (d_meet (xs (nI l + 1).toNatClampNeg)) hM nx
    rw [if_neg c27]
    by_cases c28 : cmd = 28
    · rw [if_pos c28]
      exact mm_stepV (k := fun w => f_law_18 xs Ls n (nI l + 6) w) d_tree hM nx
    rw [if_neg c28]
    by_cases c29 : cmd = 29
    · rw [if_pos c29]
      exact mm_step (k := fun w => f_law_18 xs Ls n (nI l + 6) w) d_bridges hM nx
    rw [if_neg c29]
    by_cases c30 : cmd = 30
    · rw [if_pos c30]
      simp only [x1, x2]
      exact mm_stepV (k := fun w => f_law_18 xs Ls n (nI l + 6) w) (d_steps (xs (nI l + 1).toNatClampNeg) (xs (nI l + 2).toNatClampNeg)) hM nx
    rw [if_neg c30]
    by_cases c31 : cmd = 31
    · rw [if_pos c31]
      simp only [x1, x2]
      exact mm_step (k := fun w => f_law_18 xs Ls n (nI l + 6) w) (d_then (xs (nI l + 1).toNatClampNeg) (xs (nI l + 2).toNatClampNeg)) hM nx
    rw [if_neg c31]
    by_cases c32 : cmd = 32
    · rw [if_pos c32]
      simp only [x1, x2]
      exact mm_step (k := fun w => f_law_18 xs Ls n (nI l + 6) w) (d_rungIn (xs (nI l + 1).toNatClampNeg) (xs (nI l + 2).toNatClampNeg)) hM nx
    rw [if_neg c32]
    by_cases c33 : cmd = 33
    · rw [if_pos c33]
      simp only [x1]
      exact mm_step (k := fun w => f_law_18 xs Ls n (nI l + 6) w) (d_barredIn (xs (nI l + 1).toNatClampNeg)) hM nx
    rw [if_neg c33]
    by_cases c34 : cmd = 34
    · rw [if_pos c34]
      simp only [x1, x2, x3]
      exact mm_step (k := fun w => f_law_18 xs Ls n (nI l + 6) w) (d_year (xs (nI l + 1).toNatClampNeg) (xs (nI l + 2).toNatClampNeg) (xs (nI l + 3).toNatClampNeg)) hM nx
    rw [if_neg c34]
    by_cases c35 : cmd = 35
    · rw [if_pos c35]
      rw [x1, x2]
      by_cases e : xs (nI l + 2).toNatClampNeg = 0
      · rw [if_pos e]
        unfold f_law_1136
        simp only [x1, x2]
        simp only [if_pos e]
        exact mm_step (k := fun w => f_law_18 xs Ls n (nI l + 6) w) (d_tell (xs (nI l + 1).toNatClampNeg) (.inl rfl)) hM nx
      · rw [if_neg e]
        unfold f_law_1136
        simp only [x1, x2]
        simp only [if_neg e]
        exact mm_step (k := fun w => f_law_18 xs Ls n (nI l + 6) w) (d_tell (xs (nI l + 1).toNatClampNeg) (.inr rfl)) hM nx
    rw [if_neg c35]
    by_cases c36 : cmd = 36
    · rw [if_pos c36]
      exact mm_step (k := fun w => f_law_18 xs Ls n (nI l + 6) w) d_forget hM nx
    rw [if_neg c36]
    by_cases c37 : cmd = 37
    · rw [if_pos c37]
      simp only [x1, x2, x3]
      exact mm_step (k := fun w => f_law_18 xs Ls n (nI l + 6) w) (d_whence (xs (nI l + 1).toNatClampNeg) (xs (nI l + 2).toNatClampNeg) (xs (nI l + 3).toNatClampNeg)) hM nx
    rw [if_neg c37]
    by_cases c38 : cmd = 38
    · rw [if_pos c38]
      simp only [x1, x2]
      exact mm_step (k := fun w => f_law_18 xs Ls n (nI l + 6) w) (d_listen (xs (nI l + 1).toNatClampNeg) (xs (nI l + 2).toNatClampNeg)) hM nx
    rw [if_neg c38]
    by_cases c39 : cmd = 39
    · rw [if_pos c39]
      simp only [x1]
      exact mm_step (k := fun w => f_law_18 xs Ls n (nI l + 6) w) (d_hold (xs (nI l + 1).toNatClampNeg)) hM nx
    rw [if_neg c39]
    by_cases c40 : cmd = 40
    · rw [if_pos c40]
      simp only [x1]
      exact mm_step (k := fun w => f_law_18 xs Ls n (nI l + 6) w) (d_restore (xs (nI l + 1).toNatClampNeg)) hM nx
    rw [if_neg c40]
    by_cases c41 : cmd = 41
    · rw [if_pos c41]
      simp only [x1]
      exact mm_stepV (k := fun w => f_law_18 xs Ls n (nI l + 6) w) (d_count (xs (nI l + 1).toNatClampNeg)) hM nx
    rw [if_neg c41]
    exact nx R L g hM
end
