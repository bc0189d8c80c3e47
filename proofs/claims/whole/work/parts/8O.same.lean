/-! a road from a town to itself: both note it, at the second town -/
section
variable {K S : Nat → Nat} {V : Nat → Int64} {E : Nat}
theorem n_same (hK : tkK K S E) {T i lf lt : Nat} {x1 x2 y1 y2 : Int32} {g h : xG} (hT : T ≤ 7) (l : lv K S V E (i + 1) (i + 1) lf lt g h) (hx : lf = 0 → ∃ t1 t2, t1 < T ∧ t2 < T ∧ x1 = nI t1 ∧ y1 = nI t1 ∧ x2 = nI t2 ∧ y2 = nI t2) (hw : lf ≠ 0 → lt < i ∨ y2 = -1) : ∃ g' h', (if x1 = x2 then f_X3_note_17 3 (nI i) g else g) = g' ∧ (if y1 < 0 then some h else if y1 = y2 then f_X12_wrong_60 3 (nI i) h else some h) = some h' ∧ xfrm fN g g' ∧ xfrm fW h h' ∧ ∃ lf' lt', lv K S V E (i + 1) (i + 1) lf' lt' g' h' ∧ (lf ≠ 0 → lf' ≠ 0) ∧ (lf' = 0 → x1 ≠ x2) := by
  have hi := l.1.1
  by_cases z : lf = 0
  · obtain ⟨t1, t2, h1, h2, rfl, rfl, rfl, rfl⟩ := hx z
    rw [if_neg (nI_pos (show t1 < 2 ^ 31 by omega)), ite_eqn (by omega) (by omega), ite_eqn (by omega) (by omega)]
    by_cases e : t1 = t2
    · obtain ⟨g', a1, a2, a3, -⟩ := c_note (g := g) l.2.1.2.2 l.2.2.2.1 3 i
      obtain ⟨h', b1, b2, b3, -⟩ := r_wrong (lt := lt) hK l.1.2.2 (show i ≤ E by omega) l.2.2.1.2.1 l.2.2.1.2.2 l.2.2.2.1 (fun y => absurd z y) 3
      rw [if_pos e, if_pos e]
      refine ⟨g', h', a1, b1, a2, b2, 3, i, ⟨⟨hi, l.1.2.1.ag (a2.agr rfl), l.1.2.2.ag (b2.agr rfl)⟩, ⟨((a2 17 5 rfl).1).trans l.2.1.1, ((a2 17 6 rfl).1).trans l.2.1.2.1, (a3 z).1⟩, ⟨((b2 60 11 rfl).1).trans l.2.2.1.1, ((b2 60 13 rfl).1).trans l.2.2.1.2.1, (b3 z).1⟩, by decide, fun _ => ⟨(a3 z).2, (b3 z).2, by omega, by omega⟩⟩, fun _ => by decide, fun y => by cases y⟩
    · rw [if_neg e, if_neg e]
      exact ⟨g, h, rfl, rfl, xfrm.rf, xfrm.rf, lf, lt, l, id, fun _ y => e ((nI_eq (by omega) (by omega)).mp y)⟩
  · obtain ⟨g', a1, a2, -, a4⟩ := c_note (g := g) l.2.1.2.2 l.2.2.2.1 3 i
    have cg : (if x1 = x2 then f_X3_note_17 3 (nI i) g else g) = g := by
      by_cases e : x1 = x2
      · rw [if_pos e]
        exact a1.trans (a4 z)
      · rw [if_neg e]
    refine ⟨g, h, cg, ?_, xfrm.rf, xfrm.rf, lf, lt, l, id, fun y => absurd y z⟩
    by_cases e1 : y1 < 0
    · rw [if_pos e1]
    · rw [if_neg e1]
      by_cases e2 : y1 = y2
      · rw [if_pos e2]
        rcases hw z with hlt | hm
        · obtain ⟨h', b1, b2, -, b4⟩ := r_wrong (lt := lt) hK l.1.2.2 (show i ≤ E by omega) l.2.2.1.2.1 l.2.2.1.2.2 l.2.2.2.1 (fun y => ⟨(l.2.2.2.2 y).2.1, hlt⟩) 3
          rw [show f_X12_wrong_60 3 (nI i) h = some h' from b1, b4 z]
        · exact absurd (by rw [e2, hm]; decide) e1
      · rw [if_neg e2]
end
