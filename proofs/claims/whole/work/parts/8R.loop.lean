/-! all tells, one after another -/
section
variable {K S : Nat → Nat} {V : Nat → Int64} {E : Nat}
theorem loop_step (hK : tkK K S E) {M i l m : Nat} {g h : xG} (z : tl K S V E M i g h) (hi0 : K i ≠ 0) (hl : l ≤ 400) : ∃ o, f_X3_readText_17_35 (m + 1) (nI l) g = o.bind (fun w => f_X3_readText_17_35 m (nI (l + 1)) w) ∧ tlO K S V E M i h o (f_X12_tellOne_60 h) := by
  have l0 : ∃ lf lt, lv K S V E i i lf lt g h := by
    obtain ⟨lf, lt, T, Rn, P, s, br, p, ⟨l, -⟩, -⟩ := z
    exact ⟨lf, lt, l⟩
  obtain ⟨lf, lt, l0⟩ := l0
  have ek : f_X9_kindAt_18 (g.1 17 5) g = some (nI (K i)) := by
    rw [l0.2.1.1]
    exact (l0.1.2.1 i l0.1.1).1
  have k33 := hK.2.2.2.1 i
  have ne : ∀ a, a < 100 → K i ≠ a → ¬ nI (K i) = nI a := fun a ha hn y => hn ((nI_eq (by omega) (by omega)).mp y)
  have fin : ∀ (o : Option xG) (F : xG → Option xG), (o.bind fun w => (F w).bind fun w2 => f_X3_readText_17_35 m (nI (l + 1)) w2) = (o.bind F).bind (fun w => f_X3_readText_17_35 m (nI (l + 1)) w) := fun o F => by cases o <;> rfl
  have lawc : ∀ k, k < 4 → K i = 17 + k → ∃ o, f_X3_readText_17_159 (f_X3_readText_17_35 m) (nI l) g = o.bind (fun w => f_X3_readText_17_35 m (nI (l + 1)) w) ∧ tlO K S V E M i h o (f_X12_tellOne_60 h) := fun k hk e => by
    refine ⟨_, ?_, tell_law hK z hk e⟩
    unfold f_X3_readText_17_159
    rw [ek, Option.bind_some, e, nI_1]
    exact fin _ _
  simp only [f_X3_readText_17_35]
  rw [if_neg (show ¬ (400 : Int32) < nI l from nI_nlt (a := 400) hl (by decide)), l0.2.1.2.1, if_pos rfl, ek, Option.bind_some, if_neg (show ¬ nI (K i) = (0 : Int32) from ne 0 (by decide) hi0), Option.bind_some]
  by_cases c13 : K i = 13
  · rw [if_pos (show nI (K i) = (13 : Int32) from by rw [c13]; rfl), nI_1]
    exact ⟨_, fin _ _, tell_town hK z c13⟩
  rw [if_neg (show ¬ nI (K i) = (13 : Int32) from ne 13 (by decide) c13)]
  by_cases c14 : K i = 14
  · rw [if_pos (show nI (K i) = (14 : Int32) from by rw [c14]; rfl), nI_1]
    exact ⟨_, fin _ _, tell_road hK z c14⟩
  rw [if_neg (show ¬ nI (K i) = (14 : Int32) from ne 14 (by decide) c14)]
  by_cases c15 : K i = 15
  · rw [if_pos (show nI (K i) = (15 : Int32) from by rw [c15]; rfl), nI_1]
    exact ⟨_, fin _ _, tell_person hK z c15⟩
  rw [if_neg (show ¬ nI (K i) = (15 : Int32) from ne 15 (by decide) c15)]
  by_cases c16 : K i = 16
  · rw [if_pos (show nI (K i) = (16 : Int32) from by rw [c16]; rfl), nI_1]
    exact ⟨_, fin _ _, tell_capital hK z c16⟩
  rw [if_neg (show ¬ nI (K i) = (16 : Int32) from ne 16 (by decide) c16)]
  by_cases c17 : K i = 17
  · rw [if_pos (show nI (K i) = (17 : Int32) from by rw [c17]; rfl)]
    exact lawc 0 (by decide) c17
  rw [if_neg (show ¬ nI (K i) = (17 : Int32) from ne 17 (by decide) c17)]
  by_cases c18 : K i = 18
  · rw [if_pos (show nI (K i) = (18 : Int32) from by rw [c18]; rfl)]
    exact lawc 1 (by decide) c18
  rw [if_neg (show ¬ nI (K i) = (18 : Int32) from ne 18 (by decide) c18)]
  by_cases c19 : K i = 19
  · rw [if_pos (show nI (K i) = (19 : Int32) from by rw [c19]; rfl)]
    exact lawc 2 (by decide) c19
  rw [if_neg (show ¬ nI (K i) = (19 : Int32) from ne 19 (by decide) c19)]
  by_cases c20 : K i = 20
  · rw [if_pos (show nI (K i) = (20 : Int32) from by rw [c20]; rfl)]
    exact lawc 3 (by decide) c20
  rw [if_neg (show ¬ nI (K i) = (20 : Int32) from ne 20 (by decide) c20)]
  by_cases c21 : K i = 21
  · rw [if_pos (show nI (K i) = (21 : Int32) from by rw [c21]; rfl), nI_1]
    exact ⟨_, fin _ _, tell_seed hK z c21⟩
  rw [if_neg (show ¬ nI (K i) = (21 : Int32) from ne 21 (by decide) c21)]
  refine ⟨_, ?_, tell_none hK z (by omega)⟩
  rw [xl_e, xl_e, nI_1]
theorem c_dead {f i m : Nat} {g : xG} (d : dC K S V E f i g) (x : Int32) : f_X3_readText_17_35 (m + 1) x g = some (g.1 17 6, g) := by
  have e : ¬ g.1 17 6 = 0 := by rw [d.2.2.2.2]; exact f12_ne d.1
  simp only [f_X3_readText_17_35]
  rw [if_neg e, if_neg e]
  split <;> rfl
theorem r_dead {f i m : Nat} {h : xG} (d : dR S f i h) : f_X12_read_60_112 (m + 1) h = f_X12_read_60_134 h := by
  have e : ¬ h.1 60 13 = 0 := by rw [d.2.1]; exact f12_ne d.1
  simp only [f_X12_read_60_112]
  rw [if_neg e]
/-- the loop of all tells, in step -/
theorem loop_all (hK : tkK K S E) {M : Nat} : ∀ (d i l m m' : Nat) (g h : xG), i + d = E → tl K S V E M i g h → l ≤ i → d + 2 ≤ m → d + 2 ≤ m' → ∃ v g' h', f_X3_readText_17_35 m (nI l) g = some (v, g') ∧ f_X12_read_60_112 m' h = f_X12_read_60_134 h' ∧ sdO M h h' ∧ xfrm fp_X12_tellOne_60 h h' ∧ ((∃ i', tl K S V E M i' g' h' ∧ v = g'.1 17 7) ∨ (dd K S V E g' h' ∧ v = g'.1 17 6)) := by
  intro d
  induction d using Nat.strongRecOn with
  | _ d ih =>
    intro i l m m' g h hid z hl hm hm'
    obtain ⟨m, rfl⟩ : ∃ n, m = n + 1 := ⟨m - 1, by omega⟩
    obtain ⟨m', rfl⟩ : ∃ n, m' = n + 1 := ⟨m' - 1, by omega⟩
    have hE := hK.1
    have l0 : ∃ lf lt, lv K S V E i i lf lt g h := by
      obtain ⟨lf, lt, T, Rn, P, s, br, p, ⟨l, -⟩, -⟩ := z
      exact ⟨lf, lt, l⟩
    obtain ⟨lf, lt, l0⟩ := l0
    have ri : f_X12_is_60 0 h = some (if K i = 0 then 1 else 0) := r_is (a := 0) hK l0 (by decide)
    by_cases k0 : K i = 0
    · refine ⟨g.1 17 7, g, h, ?_, ?_, sdO.rf, xfrm.rf, .inl ⟨i, z, rfl⟩⟩
      · simp only [f_X3_readText_17_35]
        rw [if_neg (show ¬ (400 : Int32) < nI l from nI_nlt (a := 400) (by omega) (by decide)), l0.2.1.2.1, if_pos rfl, l0.2.1.1, (l0.1.2.1 i l0.1.1).1, Option.bind_some, k0, if_pos (show nI 0 = (0 : Int32) from rfl), if_pos rfl]
      · simp only [f_X12_read_60_112]
        rw [l0.2.2.1.2.1, if_pos rfl, ri, Option.bind_some, if_pos k0, if_neg (by decide)]
    · obtain ⟨o, e1, g1, h1, e2, e3, sd, e4⟩ := loop_step (m := m) hK z k0 (show l ≤ 400 by omega)
      have rr : f_X12_read_60_112 (m' + 1) h = f_X12_read_60_112 m' h1 := by
        show (if (h.1 60 13) = 0 then (f_X12_is_60 0 h).bind fun w5 => if w5 = 0 then (f_X12_tellOne_60 h).bind fun w6 => f_X12_read_60_112 m' w6 else f_X12_read_60_134 h else f_X12_read_60_134 h) = _
        rw [l0.2.2.1.2.1, if_pos rfl, ri, Option.bind_some, if_neg k0, if_pos rfl, e3, Option.bind_some]
      rw [e1, e2, Option.bind_some, rr]
      rcases e4 with ⟨i', hi', z'⟩ | ⟨f, j, d1, d2⟩
      · have hi'' : i' ≤ E := by
          obtain ⟨lf, lt, T, Rn, P, s, br, p, ⟨l, -⟩, -⟩ := z'
          exact l.1.1
        obtain ⟨v, g', h', q1, q2, q3, q5, q4⟩ := ih (E - i') (by omega) i' (l + 1) m m' g1 h1 (by omega) z' (by omega) (by omega) (by omega)
        exact ⟨v, g', h', q1, q2, sd.tr q3, (fr_X12_tellOne_60 _ e3).th q5, q4⟩
      · obtain ⟨m, rfl⟩ : ∃ n, m = n + 1 := ⟨m - 1, by omega⟩
        obtain ⟨m', rfl⟩ : ∃ n, m' = n + 1 := ⟨m' - 1, by omega⟩
        exact ⟨_, g1, h1, c_dead d1 _, r_dead d2, sd, fr_X12_tellOne_60 _ e3, .inr ⟨⟨f, j, d1, d2⟩, rfl⟩⟩
end
