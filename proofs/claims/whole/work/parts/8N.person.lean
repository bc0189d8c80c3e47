/-! told: a person -/
theorem nmRel_addP {T P : Nat} {tn pn nm tn' pn' nm' : Nat → Int64} {at_ at' : Nat → Nat} {v : Int64} (h : nmRel T P tn pn nm at_) (e1 : ∀ t, tn' t = tn t) (e2 : ∀ p, pn' p = if p = P then v else pn p) (e3 : ∀ j, nm' j = if j = T + P then v else nm j) (e4 : ∀ j, at' j = if j = T + P then 10 else at_ j) : nmRel T (P + 1) tn' pn' nm' at' := by
  obtain ⟨h1, h2, h3, h4⟩ := h
  refine ⟨fun t ht => ?_, fun p hp => ?_, fun j hj => ?_, fun t t' ht ht' e => ?_⟩
  · obtain ⟨j, a1, a2, a3⟩ := h1 t ht
    exact ⟨j, by omega, by rw [e3, e1, if_neg (by omega), a2], by rw [e4, if_neg (by omega), a3]⟩
  · by_cases z : p = P
    · exact ⟨T + P, by omega, by rw [e3, e2, if_pos rfl, if_pos z], by rw [e4, if_pos rfl]⟩
    · obtain ⟨j, a1, a2, a3⟩ := h2 p (by omega)
      exact ⟨j, by omega, by rw [e3, e2, if_neg (by omega), if_neg z, a2], by rw [e4, if_neg (by omega), a3]⟩
  · by_cases z : j = T + P
    · exact .inr ⟨by rw [e4, if_pos z], P, by omega, by rw [e3, if_pos z, e2, if_pos rfl]⟩
    · have e5 : at' j = at_ j := by rw [e4, if_neg z]
      rcases h3 j (by omega) with ⟨a1, a2⟩ | ⟨a1, p, a2, a3⟩
      · exact .inl ⟨by omega, by rw [e3, if_neg z, e1, e5, a2]⟩
      · exact .inr ⟨by omega, p, by omega, by rw [e3, if_neg z, e2, if_neg (by omega), a3]⟩
  · rw [e1, e1] at e
    exact h4 t t' ht ht' e
def rAddP (R : pR) (x : Int32) (o f : Nat) : pR := ((R.1.1, R.1.2.1, R.1.2.2.1 + 1, R.1.2.2.2), R.2.1, ((fun p => if p = rP R then x else rH R p), (fun p => if p = rP R then o else rO R p), (fun p => if p = rP R then f else rF R p)), R.2.2.2)
theorem rAddP_ok {R : pR} {x : Int32} {o f : Nat} (h : rOK R) (h6 : rP R < 6) (ho : o < rT R) (hf : f < rT R) : rOK (rAddP R x o f) := by
  obtain ⟨⟨h1, h2, h3, h4⟩, h5, h7, h8, h9⟩ := h
  refine ⟨⟨h1, h2, by show rP R + 1 ≤ 6; omega, h4⟩, h5, h7, fun p hp => ?_, h9⟩
  have hp' : p < rP R + 1 := hp
  show (if p = rP R then o else rO R p) < rT R ∧ (if p = rP R then f else rF R p) < rT R
  by_cases z : p = rP R
  · rw [if_pos z, if_pos z]; exact ⟨ho, hf⟩
  · rw [if_neg z, if_neg z]; exact h8 p (by omega)
theorem sdO.p {M c q : Nat} {h : xG} {v : Int32} (hc : c = 76 ∨ c = 77 ∨ c = 78) (hq : 6 * M ≤ q ∧ q < 6 * M + 6) : sdO M h (xupd h.1 c q v, h.2) := by
  have e2 : ∀ d k, d ≠ c → xupd h.1 c q v d k = h.1 d k := fun d k hd => xu_q hd
  have e1 : ∀ d k, k ≠ q → xupd h.1 c q v d k = h.1 d k := fun d k hk => by rw [xu_at, if_neg (fun y => hk y.2)]
  exact ⟨fun k _ => ⟨e2 70 k (by omega), e2 71 k (by omega), e2 75 k (by omega), e2 79 k (by omega), e2 80 k (by omega)⟩, fun k _ => ⟨e2 72 k (by omega), e2 73 k (by omega), e2 74 k (by omega)⟩, fun k hk => ⟨e1 76 k (by omega), e1 77 k (by omega), e1 78 k (by omega)⟩, fun k _ => ⟨e2 81 k (by omega), e2 82 k (by omega)⟩, fun k _ => ⟨e2 83 k (by omega), e2 84 k (by omega), e2 85 k (by omega), e2 86 k (by omega), e2 87 k (by omega)⟩, fun k _ => ⟨e2 88 k (by omega), e2 89 k (by omega)⟩⟩
theorem sdO.r {M c q : Nat} {h : xG} {v : Int32} (hc : c = 72 ∨ c = 73 ∨ c = 74) (hq : 10 * M ≤ q ∧ q < 10 * M + 10) : sdO M h (xupd h.1 c q v, h.2) := by
  have e2 : ∀ d k, d ≠ c → xupd h.1 c q v d k = h.1 d k := fun d k hd => xu_q hd
  have e1 : ∀ d k, k ≠ q → xupd h.1 c q v d k = h.1 d k := fun d k hk => by rw [xu_at, if_neg (fun y => hk y.2)]
  exact ⟨fun k _ => ⟨e2 70 k (by omega), e2 71 k (by omega), e2 75 k (by omega), e2 79 k (by omega), e2 80 k (by omega)⟩, fun k hk => ⟨e1 72 k (by omega), e1 73 k (by omega), e1 74 k (by omega)⟩, fun k _ => ⟨e2 76 k (by omega), e2 77 k (by omega), e2 78 k (by omega)⟩, fun k _ => ⟨e2 81 k (by omega), e2 82 k (by omega)⟩, fun k _ => ⟨e2 83 k (by omega), e2 84 k (by omega), e2 85 k (by omega), e2 86 k (by omega), e2 87 k (by omega)⟩, fun k _ => ⟨e2 88 k (by omega), e2 89 k (by omega)⟩⟩
def rAddR (R : pR) (a b m : Nat) : pR := ((R.1.1, R.1.2.1 + 1, R.1.2.2), ((fun r => if r = rR R then a else rA R r), (fun r => if r = rR R then b else rB R r), (fun r => if r = rR R then m else rM R r)), R.2.2)
theorem rAddR_ok {R : pR} {a b m : Nat} (h : rOK R) (h10 : rR R < 10) (ha : a < rT R) (hb : b < rT R) (hab : a ≠ b) (hm : 1 ≤ m ∧ m ≤ 99) : rOK (rAddR R a b m) := by
  obtain ⟨⟨h1, h2, h3, h4⟩, h5, h7, h8, h9⟩ := h
  refine ⟨⟨h1, by show rR R + 1 ≤ 10; omega, h3, h4⟩, h5, fun r hr => ?_, h8, h9⟩
  have hr' : r < rR R + 1 := hr
  show (if r = rR R then a else rA R r) < rT R ∧ (if r = rR R then b else rB R r) < rT R ∧ (if r = rR R then a else rA R r) ≠ (if r = rR R then b else rB R r) ∧ 1 ≤ (if r = rR R then m else rM R r) ∧ (if r = rR R then m else rM R r) ≤ 99
  by_cases z : r = rR R
  · rw [if_pos z, if_pos z, if_pos z]; exact ⟨ha, hb, hab, hm⟩
  · rw [if_neg z, if_neg z, if_neg z]; exact h7 r (by omega)
