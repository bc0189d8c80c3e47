/-! laws: how both hold and follow them -/
def stk (f : Nat → Int32) : List Int32 → Prop
  | [] => True
  | x :: st => f st.length = x ∧ stk f st
theorem stk_up {f h : Nat → Int32} : ∀ {st : List Int32}, (∀ j, j < st.length → h j = f j) → stk f st → stk h st
  | [], _, _ => trivial
  | x :: st, e, ⟨a, b⟩ => ⟨(e _ (by simp)).trans a, stk_up (fun j hj => e j (by simp; omega)) b⟩
theorem im2 (n : Nat) : nI (n + 2) + (-2) = nI n := by
  rw [← nI_add n 2, Int32.add_assoc, show nI 2 + (-2) = 0 from by decide, Int32.add_zero]
theorem is1 (n : Nat) : nI (n + 1) - 1 = nI n := nI_pred n
theorem is2 (n : Nat) : nI (n + 2) - 2 = nI n := pk_sub (show 2 ≤ n + 2 by omega)
def cStp (k : Nat) : Nat := if k = 0 then 1 else if k = 1 then 2 else k + 2
/-- steps in a row, as the class has them -/
def sgC (g : xG) : Nat → List pI → Prop
  | _, [] => True
  | i, (k, v) :: c => (i < 408 ∧ g.1 13 i = nI (cStp k) ∧ (k < 2 → g.1 14 i = v)) ∧ sgC g (i + 1) c
def brC (g : xG) : Nat → List (List pI × List pI × List pI) → List pI → Prop
  | i, [], t => sgC g i t ∧ i + t.length < 408 ∧ g.1 13 (i + t.length) = nI 0
  | i, (a, b, t) :: bs, e => sgC g i a ∧ sgC g (i + a.length) b ∧ (i + a.length + b.length < 408 ∧ g.1 13 (i + a.length + b.length) = nI 3 ∧ g.1 14 (i + a.length + b.length) = nI (i + a.length + b.length + 1 + t.length + 1)) ∧ sgC g (i + a.length + b.length + 1) t ∧ (i + a.length + b.length + 1 + t.length < 408 ∧ g.1 13 (i + a.length + b.length + 1 + t.length) = nI 0) ∧ brC g (i + a.length + b.length + 1 + t.length + 1) bs e
def lwC (g : xG) (R : pR) : Prop := ∀ k, k < 4 → ∃ s, g.1 15 k = nI s ∧ brC g s (rL R k).1 (rL R k).2
def kLw : List (Nat × Option Nat) := [(13, none), (14, none), (15, none)]
theorem sgC.ag {g w : xG} (a : xagr kLw g w) : ∀ {c : List pI} {i : Nat}, sgC g i c → sgC w i c
  | [], _, _ => trivial
  | (k, v) :: c, i, ⟨⟨h1, h2, h3⟩, h4⟩ => ⟨⟨h1, (a 13 i rfl).1.trans h2, fun hk => (a 14 i rfl).1.trans (h3 hk)⟩, sgC.ag a h4⟩
theorem brC.ag {g w : xG} (a : xagr kLw g w) : ∀ {bs : List (List pI × List pI × List pI)} {e : List pI} {i : Nat}, brC g i bs e → brC w i bs e
  | [], _, _, ⟨h1, h2, h3⟩ => ⟨h1.ag a, h2, (a 13 _ rfl).1.trans h3⟩
  | (_, _, _) :: _, _, _, ⟨h1, h2, ⟨h3, h4, h5⟩, h6, ⟨h7, h8⟩, h9⟩ => ⟨h1.ag a, h2.ag a, ⟨h3, (a 13 _ rfl).1.trans h4, (a 14 _ rfl).1.trans h5⟩, h6.ag a, ⟨h7, (a 13 _ rfl).1.trans h8⟩, h9.ag a⟩
theorem lwC.ag {g w : xG} {R : pR} (h : lwC g R) (a : xagr kLw g w) : lwC w R := fun k hk => by
  obtain ⟨s, h1, h2⟩ := h k hk
  exact ⟨s, (a 15 k rfl).1.trans h1, h2.ag a⟩
theorem shp_num {n m : Nat} {k : Nat} {v : Int32} {c : List pI} (hk : k < 2) (h : shp n ((k, v) :: c) = some m) : n < 15 ∧ (k = 1 → v.toNatClampNeg < 9 ∧ v = nI v.toNatClampNeg) ∧ shp (n + 1) c = some m := by
  unfold shp at h
  rw [if_pos hk] at h
  split at h
  · next z => exact ⟨z.1, z.2, h⟩
  · cases h
theorem shp_op {n m : Nat} {k : Nat} {v : Int32} {c : List pI} (hk : ¬ k < 2) (h : shp n ((k, v) :: c) = some m) : 2 ≤ n ∧ k < 6 ∧ shp (n - 1) c = some m := by
  unfold shp at h
  rw [if_neg hk] at h
  split at h
  · next z => exact ⟨z.1, z.2, h⟩
  · cases h
/-- a code leaves as much as its shape says, and does not look below its own -/
theorem lv_base {vars : Nat → Int32} : ∀ {c : List pI} {n m : Nat} {st base : List Int32}, shp n c = some m → st.length = n → lvRun vars c (st ++ base) = (lvRun vars c st).map (· ++ base) ∧ ∀ r, lvRun vars c st = some r → r.length = m
  | [], n, m, st, base, h, hl => by
    cases h
    exact ⟨rfl, fun r hr => by cases hr; exact hl⟩
  | (k, v) :: c, n, m, st, base, h, hl => by
    by_cases hk : k < 2
    · obtain ⟨-, -, h3⟩ := shp_num hk h
      unfold lvRun
      by_cases h0 : k = 0
      · rw [if_pos h0, if_pos h0]
        exact lv_base (st := v :: st) h3 (by simp [hl])
      · rw [if_neg h0, if_neg h0, if_pos (by omega), if_pos (by omega)]
        exact lv_base (st := _ :: st) h3 (by simp [hl])
    · obtain ⟨h1, -, h3⟩ := shp_op hk h
      unfold lvRun
      rw [if_neg (by omega), if_neg (by omega), if_neg (by omega), if_neg (by omega)]
      match st, hl with
      | b :: a :: st, hl =>
        simp only [List.cons_append]
        by_cases z : k = 5 ∧ b = 0
        · rw [if_pos z, if_pos z]
          exact ⟨rfl, fun r hr => by cases hr⟩
        · rw [if_neg z, if_neg z]
          exact lv_base (st := _ :: st) h3 (by simp at hl ⊢; omega)
      | [_], hl => simp at hl; omega
      | [], hl => simp at hl; omega
theorem lv_val {vars : Nat → Int32} {c : List pI} (h : shp 0 c = some 1) (base : List Int32) : lvRun vars c base = (lvVal vars c).map (· :: base) := by
  obtain ⟨e, hl⟩ := lv_base (vars := vars) (st := []) (base := base) h rfl
  rw [List.nil_append] at e
  rw [e]
  unfold lvVal
  match hr : lvRun vars c [] with
  | none => rfl
  | some r =>
    match r, hl r hr with
    | [x], _ => rfl

/-! ===== the class follows a law, its variables in 45 ===== -/
theorem c_ans45 {vars : Nat → Int32} {Q : Option (Int32 × xG) → Prop} : ∀ {c : List pI} {i n m b dn fu : Nat} {st : List Int32} {g : xG}, shp n c = some m → n ≤ 15 → st.length = n + b → b ≤ 1 → sgC g i c → dn + c.length ≤ 408 → stk (g.1 16) st → (∀ q, q < 9 → g.1 45 q = vars q) → (∀ r w, lvRun vars c st = some r → stk (w.1 16) r → xfrm [(16, none)] g w → Q (f_X2_answer_12_45_15 fu (nI (i + c.length)) (nI r.length) (nI (dn + c.length)) w)) → (∀ w, lvRun vars c st = none → xfrm [(16, none)] g w → Q (some (0, w))) → Q (f_X2_answer_12_45_15 (fu + c.length) (nI i) (nI st.length) (nI dn) g)
  | [], i, n, m, b, dn, fu, st, g, h, h15, hl, hb, hs, hd, hk, hv, hQ, hN => hQ st g rfl hk xfrm.rf
  | (k, v) :: c, i, n, m, b, dn, fu, st, g, h, h15, hl, hb, hs, hd, hk, hv, hQ, hN => by
    obtain ⟨⟨hi, h13, h14⟩, hs⟩ := hs
    simp only [List.length_cons] at hd
    have hd0 : ¬ (408 : Int32) ≤ nI dn := nI_ge (a := dn) (b := 408) (by omega) (by decide)
    have key : ∀ (st2 : List Int32) (w : xG) (n2 : Nat), lvRun vars ((k, v) :: c) st = lvRun vars c st2 → shp n2 c = some m → n2 ≤ 15 → st2.length = n2 + b → stk (w.1 16) st2 → xfrm [(16, none)] g w → Q (f_X2_answer_12_45_15 (fu + c.length) (nI (i + 1)) (nI st2.length) (nI (dn + 1)) w) := by
      intro st2 w n2 e1 e2 e15 e3 e4 e5
      refine c_ans45 (Q := Q) e2 e15 e3 hb (hs.ag (e5.agr rfl)) (by omega) e4 (fun q hq => (e5 45 q rfl).1.trans (hv q hq)) (fun r w2 hr hk2 hf => ?_) (fun w2 hr hf => ?_)
      · have := hQ r w2 (e1.trans hr) hk2 (e5.tr hf rfl)
        rwa [List.length_cons, show i + (c.length + 1) = i + 1 + c.length by omega, show dn + (c.length + 1) = dn + 1 + c.length by omega] at this
      · exact hN w2 (e1.trans hr) (e5.tr hf rfl)
    show Q (f_X2_answer_12_45_15 ((fu + c.length) + 1) (nI i) (nI st.length) (nI dn) g)
    simp only [f_X2_answer_12_45_15]
    rw [if_neg hd0, xat_in hi (by decide), h13, nI_1]
    by_cases hk2 : k < 2
    · obtain ⟨hn, hvar, h3⟩ := shp_num hk2 h
      have h14' := h14 hk2
      rw [xat_in (q := 14) hi (by decide), h14']
      have hst : st.length < 24 := by omega
      have hup : ∀ x : Int32, stk ((xupd g.1 16 st.length x) 16) (x :: st) := fun x => ⟨xu_eq, stk_up (fun j hj => xu_ne (by omega)) hk⟩
      by_cases h0 : k = 0
      · subst h0
        rw [show nI (cStp 0) = (1 : Int32) from rfl, if_pos rfl]
        simp only [f_X2_answer_12_45_58, xl_e, ↓reduceIte]
        rw [xput_in hst (by decide), nI_1, nI_1]
        exact key (v :: st) _ (n + 1) (by simp [lvRun]) h3 (by omega) (by simp; omega) (hup v) (xfrm.up xfrm.rf rfl)
      · obtain rfl : k = 1 := by omega
        obtain ⟨v1, v2⟩ := hvar rfl
        rw [show nI (cStp 1) = (2 : Int32) from rfl, if_neg (by decide), if_pos rfl]
        simp only [f_X2_answer_12_45_58, xl_e]
        rw [if_neg (by decide), xput_in hst (by decide), nI_1, nI_1]
        have ev : xat g 45 9 v = vars v.toNatClampNeg := by
          rw [v2, xat_in v1 (by decide), ← v2]
          exact hv _ v1
        rw [ev]
        exact key (vars v.toNatClampNeg :: st) _ (n + 1) (by simp [lvRun]) h3 (by omega) (by simp; omega) (hup _) (xfrm.up xfrm.rf rfl)
    · obtain ⟨hn, hk6, h3⟩ := shp_op hk2 h
      match st, hl, hk with
      | y :: x :: st, hl, ⟨ky, kx, ks⟩ =>
        have hl1 : st.length + 2 = n + b := by simpa using hl
        simp only [List.length_cons] at ky kx ⊢
        have hlim : st.length + 2 < 24 := by omega
        rw [show nI (st.length + 1 + 1) - 1 = nI (st.length + 1) from is1 _, show nI (st.length + 1 + 1) - 2 = nI st.length from is2 _, show nI (st.length + 1 + 1) + (-2) = nI st.length from im2 _, xat_in (show st.length + 1 < 24 by omega) (by decide), xat_in (show st.length < 24 by omega) (by decide), ky, kx]
        have hup : ∀ r : Int32, stk ((xupd g.1 16 st.length r) 16) (r :: st) := fun r => ⟨xu_eq, stk_up (fun j hj => xu_ne (by omega)) ks⟩
        have hrun : ¬ (k = 5 ∧ y = 0) → lvRun vars ((k, v) :: c) (y :: x :: st) = lvRun vars c (lvOp k x y :: st) := fun z => by
          simp only [lvRun]
          rw [if_neg (by omega), if_neg (by omega), if_neg z]
        have hgo : ∀ r : Int32, r = lvOp k x y → ¬ (k = 5 ∧ y = 0) → Q (f_X2_answer_12_45_15 (fu + c.length) (nI (i + 1)) (nI (st.length + 1)) (nI (dn + 1)) (xput g 16 24 (nI st.length) r)) := by
          rintro r rfl z
          rw [xput_in (by omega) (by decide)]
          exact key (lvOp k x y :: st) _ (n - 1) (hrun z) h3 (by omega) (by simp; omega) (hup _) (xfrm.up xfrm.rf rfl)
        rcases (show k = 2 ∨ k = 3 ∨ k = 4 ∨ k = 5 by omega) with rfl | rfl | rfl | rfl
        · rw [show nI (cStp 2) = (4 : Int32) from rfl, if_neg (by decide), if_neg (by decide), if_neg (by decide), if_neg (by decide), if_neg (by decide)]
          simp only [f_X2_answer_12_45_156, f_X2_joined, xl_e, ↓reduceIte]
          rw [Option.bind_some, nI_1, nI_1]
          exact hgo _ rfl (by omega)
        · rw [show nI (cStp 3) = (5 : Int32) from rfl, if_neg (by decide), if_neg (by decide), if_neg (by decide), if_neg (by decide), if_neg (by decide)]
          simp only [f_X2_answer_12_45_156, f_X2_joined, xl_e, ↓reduceIte]
          rw [if_neg (by decide), Option.bind_some, nI_1, nI_1]
          exact hgo _ rfl (by omega)
        · rw [show nI (cStp 4) = (6 : Int32) from rfl, if_neg (by decide), if_neg (by decide), if_neg (by decide), if_neg (by decide), if_neg (by decide)]
          simp only [f_X2_answer_12_45_156, f_X2_joined, xl_e, ↓reduceIte]
          rw [if_neg (by decide), if_neg (by decide), Option.bind_some, nI_1, nI_1]
          exact hgo _ rfl (by omega)
        · rw [show nI (cStp 5) = (7 : Int32) from rfl, if_neg (by decide), if_neg (by decide), if_neg (by decide), if_neg (by decide), if_pos rfl]
          by_cases z : y = 0
          · rw [if_pos z]
            exact hN g (by simp [lvRun, z]) xfrm.rf
          · rw [if_neg z]
            simp only [f_X2_answer_12_45_156, f_X2_joined, xl_e, ↓reduceIte]
            rw [if_neg (by decide), if_neg (by decide), if_neg (by decide), if_neg z, xg_t z, Option.bind_some, nI_1, nI_1]
            exact hgo _ rfl (fun q => z q.2)
      | [_], hl, _ => simp at hl; omega
      | [], hl, _ => simp at hl; omega

theorem c_br45 {vars : Nat → Int32} : ∀ {bs : List (List pI × List pI × List pI)} {e : List pI} {i dn fuel : Nat} {g : xG}, lOK (bs, e) → brC g i bs e → dn ≤ i → 408 < fuel + dn → (∀ q, q < 9 → g.1 45 q = vars q) → ∃ w, f_X2_answer_12_45_15 fuel (nI i) (nI 0) (nI dn) g = some (lvBr vars bs e, w) ∧ xfrm [(16, none)] g w
  | [], t, i, dn, fuel, g, ho, ⟨h1, h2, h3⟩, hdn, hf, hv => by
    obtain ⟨fu, rfl⟩ : ∃ fu, fuel = (fu + 1) + t.length := ⟨fuel - t.length - 1, by omega⟩
    have hr := lv_val (vars := vars) ho.2 []
    refine c_ans45 (Q := fun o => ∃ w, o = some (lvBr vars [] t, w) ∧ xfrm [(16, none)] g w) (st := []) (b := 0) ho.2 (by omega) rfl (by omega) h1 (by omega) trivial hv (fun r w e1 e2 e3 => ⟨w, ?_, e3⟩) (fun w e1 e3 => ⟨w, ?_, e3⟩)
    · rw [e1] at hr
      unfold lvBr
      match hx : lvVal vars t, hr with
      | some x, hr =>
        cases hr
        simp only [f_X2_answer_12_45_15]
        rw [if_neg (show ¬ (408 : Int32) ≤ nI (dn + t.length) from nI_ge (b := 408) (by omega) (by decide)), xat_in h2 (by decide), (e3 13 _ rfl).1, h3, if_neg (by decide), if_neg (by decide), if_pos (show nI 0 = (0 : Int32) from rfl), show nI [x].length - 1 = nI 0 from is1 0, xat_in (by decide) (by decide), show w.1 16 0 = x from e2.1]
        rfl
    · rw [e1] at hr
      unfold lvBr
      match hx : lvVal vars t, hr with
      | none, _ => rfl
  | (a, b, t) :: bs, e, i, dn, fuel, g, ho, ⟨h1, h2, ⟨h3, h4, h5⟩, h6, ⟨h7, h8⟩, h9⟩, hdn, hf, hv => by
    obtain ⟨oa, ob, ot⟩ := ho.1 _ List.mem_cons_self
    obtain ⟨fu, rfl⟩ : ∃ fu, fuel = (((fu + 1 + t.length) + 1) + b.length) + a.length := ⟨fuel - a.length - b.length - t.length - 2, by omega⟩
    have hr := lv_val (vars := vars) oa []
    refine c_ans45 (Q := fun o => ∃ w, o = some (lvBr vars ((a, b, t) :: bs) e, w) ∧ xfrm [(16, none)] g w) (st := []) (b := 0) oa (by omega) rfl (by omega) h1 (by omega) trivial hv (fun r w e1 e2 e3 => ?_) (fun w e1 e3 => ⟨w, ?_, e3⟩)
    · rw [e1] at hr
      match hx : lvVal vars a, hr with
      | some u, hr =>
        cases hr
        have hr2 := lv_val (vars := vars) ob [u]
        refine c_ans45 (Q := fun o => ∃ w, o = some (lvBr vars ((a, b, t) :: bs) e, w) ∧ xfrm [(16, none)] g w) (st := [u]) (b := 1) ob (by omega) rfl (by omega) (h2.ag (e3.agr rfl)) (by omega) e2 (fun q hq => (e3 45 q rfl).1.trans (hv q hq)) (fun r w2 e4 e5 e6 => ?_) (fun w2 e4 e6 => ⟨w2, ?_, e3.tr e6 rfl⟩)
        · rw [e4] at hr2
          have e7 := e3.tr e6 rfl
          match hy : lvVal vars b, hr2 with
          | some v, hr2 =>
            cases hr2
            have es : f_X2_answer_12_45_15 ((fu + 1 + t.length) + 1) (nI (i + a.length + b.length)) (nI [v, u].length) (nI (dn + a.length + b.length)) w2 = if u < v then f_X2_answer_12_45_15 (fu + 1 + t.length) (nI (i + a.length + b.length + 1)) (nI 0) (nI (dn + a.length + b.length + 1)) w2 else f_X2_answer_12_45_15 (fu + 1 + t.length) (nI (i + a.length + b.length + 1 + t.length + 1)) (nI 0) (nI (dn + a.length + b.length + 1)) w2 := by
              simp only [f_X2_answer_12_45_15]
              rw [if_neg (show ¬ (408 : Int32) ≤ nI (dn + a.length + b.length) from nI_ge (b := 408) (by omega) (by decide)), xat_in h3 (by decide), xat_in h3 (by decide), (e7 13 _ rfl).1, (e7 14 _ rfl).1, h4, h5, if_neg (by decide), if_neg (by decide), if_neg (by decide), if_pos (show nI 3 = (3 : Int32) from rfl), nI_1, nI_1, show ([v, u] : List Int32).length = 0 + 2 from rfl, show nI (0 + 2) - 2 = nI 0 from is2 0, show nI (0 + 2) - 1 = nI (0 + 1) from is1 _, im2, xat_in (by omega) (by decide), xat_in (by omega) (by decide), show w2.1 16 (0 + 1) = v from e5.1, show w2.1 16 0 = u from e5.2.1]
            rw [es]
            by_cases huv : u < v
            · rw [if_pos huv]
              have hr3 := lv_val (vars := vars) ot []
              refine c_ans45 (Q := fun o => ∃ w, o = some (lvBr vars ((a, b, t) :: bs) e, w) ∧ xfrm [(16, none)] g w) (st := []) (b := 0) ot (by omega) rfl (by omega) (h6.ag (e7.agr rfl)) (by omega) trivial (fun q hq => (e7 45 q rfl).1.trans (hv q hq)) (fun r w3 f1 f2 f3 => ⟨w3, ?_, e7.tr f3 rfl⟩) (fun w3 f1 f3 => ⟨w3, ?_, e7.tr f3 rfl⟩)
              · rw [f1] at hr3
                unfold lvBr
                rw [hx, hy]
                simp only [if_pos huv]
                match hz : lvVal vars t, hr3 with
                | some x, hr3 =>
                  cases hr3
                  simp only [f_X2_answer_12_45_15]
                  rw [if_neg (show ¬ (408 : Int32) ≤ nI (dn + a.length + b.length + 1 + t.length) from nI_ge (b := 408) (by omega) (by decide)), xat_in h7 (by decide), (f3 13 _ rfl).1, (e7 13 _ rfl).1, h8, if_neg (by decide), if_neg (by decide), if_pos (show nI 0 = (0 : Int32) from rfl), show nI [x].length - 1 = nI 0 from is1 0, xat_in (by decide) (by decide), show w3.1 16 0 = x from f2.1]
                  rfl
              · rw [f1] at hr3
                unfold lvBr
                rw [hx, hy]
                simp only [if_pos huv]
                match hz : lvVal vars t, hr3 with
                | none, _ => rfl
            · rw [if_neg huv]
              obtain ⟨w3, f1, f2⟩ := c_br45 (vars := vars) (bs := bs) (e := e) (dn := dn + a.length + b.length + 1) (fuel := fu + 1 + t.length) ⟨fun q hq => ho.1 q (List.mem_cons_of_mem _ hq), ho.2⟩ (h9.ag (e7.agr rfl)) (by omega) (by omega) (fun q hq => (e7 45 q rfl).1.trans (hv q hq))
              refine ⟨w3, f1.trans ?_, e7.tr f2 rfl⟩
              rw [show lvBr vars ((a, b, t) :: bs) e = lvBr vars bs e by
                conv => lhs; unfold lvBr
                rw [hx, hy]
                simp only [if_neg huv]]
        · rw [e4] at hr2
          match hy : lvVal vars b, hr2 with
          | none, _ =>
            unfold lvBr
            rw [hx, hy]
    · rw [e1] at hr
      match hx : lvVal vars a, hr with
      | none, _ =>
        unfold lvBr
        rw [hx]
theorem c_answer45 {vars : Nat → Int32} {g : xG} {R : pR} (h : lwC g R) (hR : rOK R) {k : Nat} (hk : k < 4) (hv : ∀ q, q < 9 → g.1 45 q = vars q) : ∃ w, f_X2_answer_12_45 (nI k) g = some (lvLaw vars (rL R k), w) ∧ xfrm [(16, none)] g w := by
  obtain ⟨s, h1, h2⟩ := h k hk
  unfold f_X2_answer_12_45
  rw [xat_in hk (by decide), h1]
  exact c_br45 (dn := 0) (fuel := xN) (hR.l hk) h2 (Nat.zero_le _) (by decide) hv

/-! ===== the class follows a law, its variables in 47 ===== -/
theorem c_ans47 {vars : Nat → Int32} {Q : Option (Int32 × xG) → Prop} : ∀ {c : List pI} {i n m b dn fu : Nat} {st : List Int32} {g : xG}, shp n c = some m → n ≤ 15 → st.length = n + b → b ≤ 1 → sgC g i c → dn + c.length ≤ 408 → stk (g.1 16) st → (∀ q, q < 9 → g.1 47 q = vars q) → (∀ r w, lvRun vars c st = some r → stk (w.1 16) r → xfrm [(16, none)] g w → Q (f_X2_answer_12_47_15 fu (nI (i + c.length)) (nI r.length) (nI (dn + c.length)) w)) → (∀ w, lvRun vars c st = none → xfrm [(16, none)] g w → Q (some (0, w))) → Q (f_X2_answer_12_47_15 (fu + c.length) (nI i) (nI st.length) (nI dn) g)
  | [], i, n, m, b, dn, fu, st, g, h, h15, hl, hb, hs, hd, hk, hv, hQ, hN => hQ st g rfl hk xfrm.rf
  | (k, v) :: c, i, n, m, b, dn, fu, st, g, h, h15, hl, hb, hs, hd, hk, hv, hQ, hN => by
    obtain ⟨⟨hi, h13, h14⟩, hs⟩ := hs
    simp only [List.length_cons] at hd
    have hd0 : ¬ (408 : Int32) ≤ nI dn := nI_ge (a := dn) (b := 408) (by omega) (by decide)
    have key : ∀ (st2 : List Int32) (w : xG) (n2 : Nat), lvRun vars ((k, v) :: c) st = lvRun vars c st2 → shp n2 c = some m → n2 ≤ 15 → st2.length = n2 + b → stk (w.1 16) st2 → xfrm [(16, none)] g w → Q (f_X2_answer_12_47_15 (fu + c.length) (nI (i + 1)) (nI st2.length) (nI (dn + 1)) w) := by
      intro st2 w n2 e1 e2 e15 e3 e4 e5
      refine c_ans47 (Q := Q) e2 e15 e3 hb (hs.ag (e5.agr rfl)) (by omega) e4 (fun q hq => (e5 47 q rfl).1.trans (hv q hq)) (fun r w2 hr hk2 hf => ?_) (fun w2 hr hf => ?_)
      · have := hQ r w2 (e1.trans hr) hk2 (e5.tr hf rfl)
        rwa [List.length_cons, show i + (c.length + 1) = i + 1 + c.length by omega, show dn + (c.length + 1) = dn + 1 + c.length by omega] at this
      · exact hN w2 (e1.trans hr) (e5.tr hf rfl)
    show Q (f_X2_answer_12_47_15 ((fu + c.length) + 1) (nI i) (nI st.length) (nI dn) g)
    simp only [f_X2_answer_12_47_15]
    rw [if_neg hd0, xat_in hi (by decide), h13, nI_1]
    by_cases hk2 : k < 2
    · obtain ⟨hn, hvar, h3⟩ := shp_num hk2 h
      have h14' := h14 hk2
      rw [xat_in (q := 14) hi (by decide), h14']
      have hst : st.length < 24 := by omega
      have hup : ∀ x : Int32, stk ((xupd g.1 16 st.length x) 16) (x :: st) := fun x => ⟨xu_eq, stk_up (fun j hj => xu_ne (by omega)) hk⟩
      by_cases h0 : k = 0
      · subst h0
        rw [show nI (cStp 0) = (1 : Int32) from rfl, if_pos rfl]
        simp only [f_X2_answer_12_47_58, xl_e, ↓reduceIte]
        rw [xput_in hst (by decide), nI_1, nI_1]
        exact key (v :: st) _ (n + 1) (by simp [lvRun]) h3 (by omega) (by simp; omega) (hup v) (xfrm.up xfrm.rf rfl)
      · obtain rfl : k = 1 := by omega
        obtain ⟨v1, v2⟩ := hvar rfl
        rw [show nI (cStp 1) = (2 : Int32) from rfl, if_neg (by decide), if_pos rfl]
        simp only [f_X2_answer_12_47_58, xl_e]
        rw [if_neg (by decide), xput_in hst (by decide), nI_1, nI_1]
        have ev : xat g 47 9 v = vars v.toNatClampNeg := by
          rw [v2, xat_in v1 (by decide), ← v2]
          exact hv _ v1
        rw [ev]
        exact key (vars v.toNatClampNeg :: st) _ (n + 1) (by simp [lvRun]) h3 (by omega) (by simp; omega) (hup _) (xfrm.up xfrm.rf rfl)
    · obtain ⟨hn, hk6, h3⟩ := shp_op hk2 h
      match st, hl, hk with
      | y :: x :: st, hl, ⟨ky, kx, ks⟩ =>
        have hl1 : st.length + 2 = n + b := by simpa using hl
        simp only [List.length_cons] at ky kx ⊢
        have hlim : st.length + 2 < 24 := by omega
        rw [show nI (st.length + 1 + 1) - 1 = nI (st.length + 1) from is1 _, show nI (st.length + 1 + 1) - 2 = nI st.length from is2 _, show nI (st.length + 1 + 1) + (-2) = nI st.length from im2 _, xat_in (show st.length + 1 < 24 by omega) (by decide), xat_in (show st.length < 24 by omega) (by decide), ky, kx]
        have hup : ∀ r : Int32, stk ((xupd g.1 16 st.length r) 16) (r :: st) := fun r => ⟨xu_eq, stk_up (fun j hj => xu_ne (by omega)) ks⟩
        have hrun : ¬ (k = 5 ∧ y = 0) → lvRun vars ((k, v) :: c) (y :: x :: st) = lvRun vars c (lvOp k x y :: st) := fun z => by
          simp only [lvRun]
          rw [if_neg (by omega), if_neg (by omega), if_neg z]
        have hgo : ∀ r : Int32, r = lvOp k x y → ¬ (k = 5 ∧ y = 0) → Q (f_X2_answer_12_47_15 (fu + c.length) (nI (i + 1)) (nI (st.length + 1)) (nI (dn + 1)) (xput g 16 24 (nI st.length) r)) := by
          rintro r rfl z
          rw [xput_in (by omega) (by decide)]
          exact key (lvOp k x y :: st) _ (n - 1) (hrun z) h3 (by omega) (by simp; omega) (hup _) (xfrm.up xfrm.rf rfl)
        rcases (show k = 2 ∨ k = 3 ∨ k = 4 ∨ k = 5 by omega) with rfl | rfl | rfl | rfl
        · rw [show nI (cStp 2) = (4 : Int32) from rfl, if_neg (by decide), if_neg (by decide), if_neg (by decide), if_neg (by decide), if_neg (by decide)]
          simp only [f_X2_answer_12_47_156, f_X2_joined, xl_e, ↓reduceIte]
          rw [Option.bind_some, nI_1, nI_1]
          exact hgo _ rfl (by omega)
        · rw [show nI (cStp 3) = (5 : Int32) from rfl, if_neg (by decide), if_neg (by decide), if_neg (by decide), if_neg (by decide), if_neg (by decide)]
          simp only [f_X2_answer_12_47_156, f_X2_joined, xl_e, ↓reduceIte]
          rw [if_neg (by decide), Option.bind_some, nI_1, nI_1]
          exact hgo _ rfl (by omega)
        · rw [show nI (cStp 4) = (6 : Int32) from rfl, if_neg (by decide), if_neg (by decide), if_neg (by decide), if_neg (by decide), if_neg (by decide)]
          simp only [f_X2_answer_12_47_156, f_X2_joined, xl_e, ↓reduceIte]
          rw [if_neg (by decide), if_neg (by decide), Option.bind_some, nI_1, nI_1]
          exact hgo _ rfl (by omega)
        · rw [show nI (cStp 5) = (7 : Int32) from rfl, if_neg (by decide), if_neg (by decide), if_neg (by decide), if_neg (by decide), if_pos rfl]
          by_cases z : y = 0
          · rw [if_pos z]
            exact hN g (by simp [lvRun, z]) xfrm.rf
          · rw [if_neg z]
            simp only [f_X2_answer_12_47_156, f_X2_joined, xl_e, ↓reduceIte]
            rw [if_neg (by decide), if_neg (by decide), if_neg (by decide), if_neg z, xg_t z, Option.bind_some, nI_1, nI_1]
            exact hgo _ rfl (fun q => z q.2)
      | [_], hl, _ => simp at hl; omega
      | [], hl, _ => simp at hl; omega

theorem c_br47 {vars : Nat → Int32} : ∀ {bs : List (List pI × List pI × List pI)} {e : List pI} {i dn fuel : Nat} {g : xG}, lOK (bs, e) → brC g i bs e → dn ≤ i → 408 < fuel + dn → (∀ q, q < 9 → g.1 47 q = vars q) → ∃ w, f_X2_answer_12_47_15 fuel (nI i) (nI 0) (nI dn) g = some (lvBr vars bs e, w) ∧ xfrm [(16, none)] g w
  | [], t, i, dn, fuel, g, ho, ⟨h1, h2, h3⟩, hdn, hf, hv => by
    obtain ⟨fu, rfl⟩ : ∃ fu, fuel = (fu + 1) + t.length := ⟨fuel - t.length - 1, by omega⟩
    have hr := lv_val (vars := vars) ho.2 []
    refine c_ans47 (Q := fun o => ∃ w, o = some (lvBr vars [] t, w) ∧ xfrm [(16, none)] g w) (st := []) (b := 0) ho.2 (by omega) rfl (by omega) h1 (by omega) trivial hv (fun r w e1 e2 e3 => ⟨w, ?_, e3⟩) (fun w e1 e3 => ⟨w, ?_, e3⟩)
    · rw [e1] at hr
      unfold lvBr
      match hx : lvVal vars t, hr with
      | some x, hr =>
        cases hr
        simp only [f_X2_answer_12_47_15]
        rw [if_neg (show ¬ (408 : Int32) ≤ nI (dn + t.length) from nI_ge (b := 408) (by omega) (by decide)), xat_in h2 (by decide), (e3 13 _ rfl).1, h3, if_neg (by decide), if_neg (by decide), if_pos (show nI 0 = (0 : Int32) from rfl), show nI [x].length - 1 = nI 0 from is1 0, xat_in (by decide) (by decide), show w.1 16 0 = x from e2.1]
        rfl
    · rw [e1] at hr
      unfold lvBr
      match hx : lvVal vars t, hr with
      | none, _ => rfl
  | (a, b, t) :: bs, e, i, dn, fuel, g, ho, ⟨h1, h2, ⟨h3, h4, h5⟩, h6, ⟨h7, h8⟩, h9⟩, hdn, hf, hv => by
    obtain ⟨oa, ob, ot⟩ := ho.1 _ List.mem_cons_self
    obtain ⟨fu, rfl⟩ : ∃ fu, fuel = (((fu + 1 + t.length) + 1) + b.length) + a.length := ⟨fuel - a.length - b.length - t.length - 2, by omega⟩
    have hr := lv_val (vars := vars) oa []
    refine c_ans47 (Q := fun o => ∃ w, o = some (lvBr vars ((a, b, t) :: bs) e, w) ∧ xfrm [(16, none)] g w) (st := []) (b := 0) oa (by omega) rfl (by omega) h1 (by omega) trivial hv (fun r w e1 e2 e3 => ?_) (fun w e1 e3 => ⟨w, ?_, e3⟩)
    · rw [e1] at hr
      match hx : lvVal vars a, hr with
      | some u, hr =>
        cases hr
        have hr2 := lv_val (vars := vars) ob [u]
        refine c_ans47 (Q := fun o => ∃ w, o = some (lvBr vars ((a, b, t) :: bs) e, w) ∧ xfrm [(16, none)] g w) (st := [u]) (b := 1) ob (by omega) rfl (by omega) (h2.ag (e3.agr rfl)) (by omega) e2 (fun q hq => (e3 47 q rfl).1.trans (hv q hq)) (fun r w2 e4 e5 e6 => ?_) (fun w2 e4 e6 => ⟨w2, ?_, e3.tr e6 rfl⟩)
        · rw [e4] at hr2
          have e7 := e3.tr e6 rfl
          match hy : lvVal vars b, hr2 with
          | some v, hr2 =>
            cases hr2
            have es : f_X2_answer_12_47_15 ((fu + 1 + t.length) + 1) (nI (i + a.length + b.length)) (nI [v, u].length) (nI (dn + a.length + b.length)) w2 = if u < v then f_X2_answer_12_47_15 (fu + 1 + t.length) (nI (i + a.length + b.length + 1)) (nI 0) (nI (dn + a.length + b.length + 1)) w2 else f_X2_answer_12_47_15 (fu + 1 + t.length) (nI (i + a.length + b.length + 1 + t.length + 1)) (nI 0) (nI (dn + a.length + b.length + 1)) w2 := by
              simp only [f_X2_answer_12_47_15]
              rw [if_neg (show ¬ (408 : Int32) ≤ nI (dn + a.length + b.length) from nI_ge (b := 408) (by omega) (by decide)), xat_in h3 (by decide), xat_in h3 (by decide), (e7 13 _ rfl).1, (e7 14 _ rfl).1, h4, h5, if_neg (by decide), if_neg (by decide), if_neg (by decide), if_pos (show nI 3 = (3 : Int32) from rfl), nI_1, nI_1, show ([v, u] : List Int32).length = 0 + 2 from rfl, show nI (0 + 2) - 2 = nI 0 from is2 0, show nI (0 + 2) - 1 = nI (0 + 1) from is1 _, im2, xat_in (by omega) (by decide), xat_in (by omega) (by decide), show w2.1 16 (0 + 1) = v from e5.1, show w2.1 16 0 = u from e5.2.1]
            rw [es]
            by_cases huv : u < v
            · rw [if_pos huv]
              have hr3 := lv_val (vars := vars) ot []
              refine c_ans47 (Q := fun o => ∃ w, o = some (lvBr vars ((a, b, t) :: bs) e, w) ∧ xfrm [(16, none)] g w) (st := []) (b := 0) ot (by omega) rfl (by omega) (h6.ag (e7.agr rfl)) (by omega) trivial (fun q hq => (e7 47 q rfl).1.trans (hv q hq)) (fun r w3 f1 f2 f3 => ⟨w3, ?_, e7.tr f3 rfl⟩) (fun w3 f1 f3 => ⟨w3, ?_, e7.tr f3 rfl⟩)
              · rw [f1] at hr3
                unfold lvBr
                rw [hx, hy]
                simp only [if_pos huv]
                match hz : lvVal vars t, hr3 with
                | some x, hr3 =>
                  cases hr3
                  simp only [f_X2_answer_12_47_15]
                  rw [if_neg (show ¬ (408 : Int32) ≤ nI (dn + a.length + b.length + 1 + t.length) from nI_ge (b := 408) (by omega) (by decide)), xat_in h7 (by decide), (f3 13 _ rfl).1, (e7 13 _ rfl).1, h8, if_neg (by decide), if_neg (by decide), if_pos (show nI 0 = (0 : Int32) from rfl), show nI [x].length - 1 = nI 0 from is1 0, xat_in (by decide) (by decide), show w3.1 16 0 = x from f2.1]
                  rfl
              · rw [f1] at hr3
                unfold lvBr
                rw [hx, hy]
                simp only [if_pos huv]
                match hz : lvVal vars t, hr3 with
                | none, _ => rfl
            · rw [if_neg huv]
              obtain ⟨w3, f1, f2⟩ := c_br47 (vars := vars) (bs := bs) (e := e) (dn := dn + a.length + b.length + 1) (fuel := fu + 1 + t.length) ⟨fun q hq => ho.1 q (List.mem_cons_of_mem _ hq), ho.2⟩ (h9.ag (e7.agr rfl)) (by omega) (by omega) (fun q hq => (e7 47 q rfl).1.trans (hv q hq))
              refine ⟨w3, f1.trans ?_, e7.tr f2 rfl⟩
              rw [show lvBr vars ((a, b, t) :: bs) e = lvBr vars bs e by
                conv => lhs; unfold lvBr
                rw [hx, hy]
                simp only [if_neg huv]]
        · rw [e4] at hr2
          match hy : lvVal vars b, hr2 with
          | none, _ =>
            unfold lvBr
            rw [hx, hy]
    · rw [e1] at hr
      match hx : lvVal vars a, hr with
      | none, _ =>
        unfold lvBr
        rw [hx]
theorem c_answer47 {vars : Nat → Int32} {g : xG} {R : pR} (h : lwC g R) (hR : rOK R) {k : Nat} (hk : k < 4) (hv : ∀ q, q < 9 → g.1 47 q = vars q) : ∃ w, f_X2_answer_12_47 (nI k) g = some (lvLaw vars (rL R k), w) ∧ xfrm [(16, none)] g w := by
  obtain ⟨s, h1, h2⟩ := h k hk
  unfold f_X2_answer_12_47
  rw [xat_in hk (by decide), h1]
  exact c_br47 (dn := 0) (fuel := xN) (hR.l hk) h2 (Nat.zero_le _) (by decide) hv

/-! ===== the reference follows a law ===== -/
def sgR (g : xG) : Nat → List pI → Prop
  | _, [] => True
  | i, (k, v) :: c => (i < 840 ∧ g.1 88 i = nI k ∧ (k < 2 → g.1 89 i = v)) ∧ sgR g (i + 1) c
def brR (g : xG) : Nat → List (List pI × List pI × List pI) → List pI → Prop
  | b, [], t => g.1 83 b = 0 ∧ ∃ p, g.1 86 b = nI p ∧ g.1 87 b = nI (p + t.length) ∧ sgR g p t ∧ p + t.length ≤ 840
  | b, (a, c, t) :: bs, e => (g.1 83 b = 1 ∧ ∃ p, g.1 84 b = nI p ∧ g.1 85 b = nI (p + a.length) ∧ g.1 86 b = nI (p + a.length + c.length) ∧ g.1 87 b = nI (p + a.length + c.length + t.length) ∧ sgR g p a ∧ sgR g (p + a.length) c ∧ sgR g (p + a.length + c.length) t ∧ p + a.length + c.length + t.length ≤ 840) ∧ brR g (b + 1) bs e
def lwR (g : xG) (L : Nat) (R : pR) : Prop := ∀ k, k < 4 → (∃ b, g.1 81 (4 * L + k) = nI b ∧ g.1 82 (4 * L + k) = nI (b + (rL R k).1.length + 1) ∧ b + (rL R k).1.length + 1 ≤ 260 ∧ brR g b (rL R k).1 (rL R k).2) ∨ (g.1 81 (4 * L + k) = g.1 82 (4 * L + k) ∧ rL R k = lDef k)
def kLr : List (Nat × Option Nat) := [(81, none), (82, none), (83, none), (84, none), (85, none), (86, none), (87, none), (88, none), (89, none)]
theorem sgR.ag {g w : xG} (a : xagr kLr g w) : ∀ {c : List pI} {i : Nat}, sgR g i c → sgR w i c
  | [], _, _ => trivial
  | (k, v) :: c, i, ⟨⟨h1, h2, h3⟩, h4⟩ => ⟨⟨h1, (a 88 i rfl).1.trans h2, fun hk => (a 89 i rfl).1.trans (h3 hk)⟩, sgR.ag a h4⟩
theorem brR.ag {g w : xG} (a : xagr kLr g w) : ∀ {bs : List (List pI × List pI × List pI)} {e : List pI} {b : Nat}, brR g b bs e → brR w b bs e
  | [], _, _, ⟨h1, p, h2, h3, h4, h5⟩ => ⟨(a 83 _ rfl).1.trans h1, p, (a 86 _ rfl).1.trans h2, (a 87 _ rfl).1.trans h3, h4.ag a, h5⟩
  | (_, _, _) :: _, _, _, ⟨⟨h1, p, h2, h3, h4, h5, h6, h7, h8, h9⟩, h10⟩ => ⟨⟨(a 83 _ rfl).1.trans h1, p, (a 84 _ rfl).1.trans h2, (a 85 _ rfl).1.trans h3, (a 86 _ rfl).1.trans h4, (a 87 _ rfl).1.trans h5, h6.ag a, h7.ag a, h8.ag a, h9⟩, h10.ag a⟩
theorem lwR.ag {g w : xG} {L : Nat} {R : pR} (h : lwR g L R) (a : xagr kLr g w) : lwR w L R := fun k hk => by
  rcases h k hk with ⟨b, h1, h2, h3, h4⟩ | ⟨h1, h2⟩
  · exact .inl ⟨b, (a 81 _ rfl).1.trans h1, (a 82 _ rfl).1.trans h2, h3, h4.ag a⟩
  · exact .inr ⟨((a 81 _ rfl).1.trans h1).trans (a 82 _ rfl).1.symm, h2⟩
theorem im1 (n : Nat) : nI (n + 1) + (-1) = nI n := pk_m1 n
theorem r_term {vars : Nat → Int32} {Q : Option (Int32 × xG) → Prop} {to : Nat} : ∀ {c : List pI} {i n m fu : Nat} {st : List Int32} {g : xG}, shp n c = some m → n ≤ 15 → st.length = n → sgR g i c → i + c.length = to → to ≤ 840 → stk (g.1 92) st → (∀ q, q < 9 → g.1 91 q = vars q) → (∀ r w, lvRun vars c st = some r → stk (w.1 92) r → xfrm [(92, none)] g w → Q (f_X12_termOf_60_5 fu (nI to) (nI r.length) (nI to) w)) → (∀ w, lvRun vars c st = none → xfrm [(92, none)] g w → Q (some (0, (xupd w.1 60 49 1, w.2)))) → Q (f_X12_termOf_60_5 (fu + c.length) (nI to) (nI st.length) (nI i) g)
  | [], i, n, m, fu, st, g, h, h15, hl, hs, hd, hto, hk, hv, hQ, hN => by
    obtain rfl : i = to := hd
    exact hQ st g rfl hk xfrm.rf
  | (k, v) :: c, i, n, m, fu, st, g, h, h15, hl, hs, hd, hto, hk, hv, hQ, hN => by
    obtain ⟨⟨hi, h13, h14⟩, hs⟩ := hs
    simp only [List.length_cons] at hd
    have key : ∀ (st2 : List Int32) (w : xG) (n2 : Nat), lvRun vars ((k, v) :: c) st = lvRun vars c st2 → shp n2 c = some m → n2 ≤ 15 → st2.length = n2 → stk (w.1 92) st2 → xfrm [(92, none)] g w → Q (f_X12_termOf_60_5 (fu + c.length) (nI to) (nI st2.length) (nI (i + 1)) w) := by
      intro st2 w n2 e1 e2 e15 e3 e4 e5
      exact r_term (Q := Q) e2 e15 e3 (hs.ag (e5.agr rfl)) (by omega) hto e4 (fun q hq => (e5 91 q rfl).1.trans (hv q hq)) (fun r w2 hr hk2 hf => hQ r w2 (e1.trans hr) hk2 (e5.tr hf rfl)) (fun w2 hr hf => hN w2 (e1.trans hr) (e5.tr hf rfl))
    show Q (f_X12_termOf_60_5 ((fu + c.length) + 1) (nI to) (nI st.length) (nI i) g)
    simp only [f_X12_termOf_60_5]
    rw [if_neg (nI_ge (show i < to by omega) (by omega)), xg_in hi (by decide), nI_clamp (show i < 2 ^ 31 by omega), h13]
    by_cases hk2 : k < 2
    · obtain ⟨hn, hvar, h3⟩ := shp_num hk2 h
      have h14' := h14 hk2
      rw [h14', if_neg (show ¬ (2 : Int32) ≤ nI k from nI_ge (b := 2) hk2 (by decide))]
      have hst : st.length < 400 := by omega
      have hup : ∀ x : Int32, stk ((xupd g.1 92 st.length x) 92) (x :: st) := fun x => ⟨xu_eq, stk_up (fun j hj => xu_ne (by omega)) hk⟩
      by_cases h0 : k = 0
      · subst h0
        rw [if_pos (show nI 0 = (0 : Int32) from rfl), xg_in' hi (by decide), xg_in hst (by decide), nI_1, nI_1, nI_clamp (show st.length < 2 ^ 31 by omega)]
        exact key (v :: st) _ (n + 1) (by simp [lvRun]) h3 (by omega) (by simp; omega) (hup v) (xfrm.up xfrm.rf rfl)
      · obtain rfl : k = 1 := by omega
        obtain ⟨v1, v2⟩ := hvar rfl
        rw [if_neg (show ¬ nI 1 = (0 : Int32) by decide), xg_in' hi (by decide)]
        rw [v2, xg_in v1 (by decide), xg_in hst (by decide), nI_1, nI_1, nI_clamp (show st.length < 2 ^ 31 by omega), ← v2, hv _ v1]
        exact key (vars v.toNatClampNeg :: st) _ (n + 1) (by simp [lvRun]) h3 (by omega) (by simp; omega) (hup _) (xfrm.up xfrm.rf rfl)
    · obtain ⟨hn, hk6, h3⟩ := shp_op hk2 h
      rw [if_pos (show (2 : Int32) ≤ nI k from nI_le (a := 2) (by omega) (by omega))]
      match st, hl, hk with
      | y :: x :: st, hl, ⟨ky, kx, ks⟩ =>
        have hl1 : st.length + 2 = n := by simpa using hl
        simp only [List.length_cons] at ky kx ⊢
        rw [show nI (st.length + 1 + 1) + (-1) = nI (st.length + 1) from im1 _, show nI (st.length + 1) - 1 = nI st.length from is1 _, xg_in (by omega) (by decide), xg_in (by omega) (by decide), nI_clamp (show st.length + 1 < 2 ^ 31 by omega), nI_clamp (show st.length < 2 ^ 31 by omega), ky, kx]
        have hup : ∀ r : Int32, stk ((xupd g.1 92 st.length r) 92) (r :: st) := fun r => ⟨xu_eq, stk_up (fun j hj => xu_ne (by omega)) ks⟩
        have hrun : ¬ (k = 5 ∧ y = 0) → lvRun vars ((k, v) :: c) (y :: x :: st) = lvRun vars c (lvOp k x y :: st) := fun z => by
          simp only [lvRun]
          rw [if_neg (by omega), if_neg (by omega), if_neg z]
        have hgo : ∀ r : Int32, r = lvOp k x y → ¬ (k = 5 ∧ y = 0) → Q (f_X12_termOf_60_5 (fu + c.length) (nI to) (nI (st.length + 1)) (nI (i + 1)) (xupd g.1 92 st.length r, g.2)) := by
          rintro r rfl z
          exact key (lvOp k x y :: st) _ (n - 1) (hrun z) h3 (by omega) (by simp; omega) (hup _) (xfrm.up xfrm.rf rfl)
        rcases (show k = 2 ∨ k = 3 ∨ k = 4 ∨ k = 5 by omega) with rfl | rfl | rfl | rfl
        · rw [if_neg (by decide)]
          simp only [f_X12_termOf_60_104]
          rw [if_pos (by decide), is1, xg_in (by omega) (by decide), nI_clamp (show st.length < 2 ^ 31 by omega), nI_1]
          exact hgo _ rfl (by omega)
        · rw [if_neg (by decide)]
          simp only [f_X12_termOf_60_104]
          rw [if_neg (by decide), if_pos (by decide), is1, xg_in (by omega) (by decide), nI_clamp (show st.length < 2 ^ 31 by omega), nI_1]
          exact hgo _ rfl (by omega)
        · rw [if_neg (by decide)]
          simp only [f_X12_termOf_60_104]
          rw [if_neg (by decide), if_neg (by decide), if_pos (by decide), is1, xg_in (by omega) (by decide), nI_clamp (show st.length < 2 ^ 31 by omega), nI_1]
          exact hgo _ rfl (by omega)
        · rw [if_pos (by decide)]
          by_cases z : y = 0
          · rw [if_pos z]
            exact hN g (by simp [lvRun, z]) xfrm.rf
          · rw [if_neg z]
            simp only [f_X12_termOf_60_104]
            rw [if_neg (by decide), if_neg (by decide), if_neg (by decide), xg_t z, is1, xg_in (by omega) (by decide), nI_clamp (show st.length < 2 ^ 31 by omega), nI_1]
            exact hgo _ rfl (fun q => z q.2)
      | [_], hl, _ => simp at hl; omega
      | [], hl, _ => simp at hl; omega
def kTm : List (Nat × Option Nat) := [(92, none), (60, some 49)]
theorem r_termOf {vars : Nat → Int32} {c : List pI} {p to : Nat} {g : xG} (h : shp 0 c = some 1) (hs : sgR g p c) (hto : p + c.length = to) (hl : to ≤ 840) (hv : ∀ q, q < 9 → g.1 91 q = vars q) : (∃ x w, lvVal vars c = some x ∧ f_X12_termOf_60 (nI p) (nI to) g = some (x, w) ∧ xfrm [(92, none)] g w) ∨ (∃ w, lvVal vars c = none ∧ f_X12_termOf_60 (nI p) (nI to) g = some (0, w) ∧ w.1 60 49 = 1 ∧ xfrm kTm g w) := by
  have hr := lv_val (vars := vars) h []
  unfold f_X12_termOf_60
  rw [show xN = (3999 - c.length + 1) + c.length by unfold xN; omega]
  refine r_term (st := []) (Q := fun o => (∃ x w, lvVal vars c = some x ∧ o = some (x, w) ∧ xfrm [(92, none)] g w) ∨ (∃ w, lvVal vars c = none ∧ o = some (0, w) ∧ w.1 60 49 = 1 ∧ xfrm kTm g w)) h (by omega) rfl hs hto hl trivial hv (fun r w e1 e2 e3 => .inl ?_) (fun w e1 e3 => .inr ?_)
  · rw [e1] at hr
    match hx : lvVal vars c, hr with
    | some x, hr =>
      cases hr
      refine ⟨x, w, rfl, ?_, e3⟩
      simp only [f_X12_termOf_60_5]
      rw [if_pos (nI_le (Nat.le_refl _) (by omega)), xg_t (by decide), show (0 : Int32).toNatClampNeg = 0 from rfl, show w.1 92 0 = x from e2.1]
  · rw [e1] at hr
    match hx : lvVal vars c, hr with
    | none, _ => exact ⟨_, rfl, rfl, by dsimp only; exact xu_eq, fun q k hq => by
        obtain ⟨a1, a2⟩ := e3 q k (xsubf_ok rfl hq)
        refine ⟨?_, a2⟩
        rw [← a1]
        exact (xfrm.up (FP := kTm) (g := w) (I := w.1) (J := w.2) xfrm.rf rfl q k hq).1⟩
theorem r_br {vars : Nat → Int32} {l3 : Nat} (hl3 : l3 < 8) : ∀ {bs : List (List pI × List pI × List pI)} {e : List pI} {b fuel : Nat} {g : xG}, lOK (bs, e) → brR g b bs e → g.1 82 l3 = nI (b + bs.length + 1) → b + bs.length + 1 ≤ 260 → g.1 60 49 = 0 → bs.length < fuel → (∀ q, q < 9 → g.1 91 q = vars q) → ∃ w, f_X12_lawTells_60_39 fuel (nI l3) (nI b) g = some (lvBr vars bs e, w) ∧ xfrm kTm g w
  | [], t, b, 0, g, ho, hb, h82, h260, hz, hf, hv => by cases hf
  | [], t, b, fuel + 1, g, ho, ⟨h1, p, h2, h3, h4, h5⟩, h82, h260, hz, hf, hv => by
    simp only [f_X12_lawTells_60_39, f_X12_lawTells_60_119]
    rw [xg_in hl3 (by decide), nI_clamp (show l3 < 2 ^ 31 by omega), h82, if_neg (nI_ge (by simp) (by simp at h260 ⊢; omega)), xg_in (by simp at h260; omega) (by decide), nI_clamp (show b < 2 ^ 31 by simp at h260; omega), h1, if_pos rfl, xg_in' (by simp at h260; omega) (by decide), xg_in' (by simp at h260; omega) (by decide), h2, h3]
    rcases r_termOf ho.2 h4 rfl h5 hv with ⟨x, w, e1, e2, e3⟩ | ⟨w, e1, e2, e3, e4⟩
    · refine ⟨w, ?_, fun q k hq => e3 q k (xsubf_ok rfl hq)⟩
      rw [e2, Option.bind_some]
      show (if w.1 60 49 = 0 then some (x, w) else some (0, w)) = _
      rw [(e3 60 49 rfl).1, hz, if_pos rfl]
      unfold lvBr
      rw [e1]
      rfl
    · refine ⟨w, ?_, e4⟩
      rw [e2, Option.bind_some]
      show (if w.1 60 49 = 0 then some (0, w) else some (0, w)) = _
      rw [e3, if_neg (by decide)]
      unfold lvBr
      rw [e1]
      rfl
  | (a, c, t) :: bs, e, b, 0, g, ho, hb, h82, h260, hz, hf, hv => by cases hf
  | (a, c, t) :: bs, e, b, fuel + 1, g, ho, ⟨⟨h1, p, h2, h3, h4, h5, h6, h7, h8, h9⟩, h10⟩, h82, h260, hz, hf, hv => by
    obtain ⟨oa, ob, ot⟩ := ho.1 _ List.mem_cons_self
    simp only [List.length_cons] at h82 h260 hf
    have hb : b < 260 := by omega
    simp only [f_X12_lawTells_60_39, f_X12_lawTells_60_119]
    rw [xg_in hl3 (by decide), nI_clamp (show l3 < 2 ^ 31 by omega), h82, if_neg (nI_ge (by omega) (by omega)), xg_in hb (by decide), nI_clamp (show b < 2 ^ 31 by omega), h1, if_neg (by decide), xg_in' hb (by decide), xg_in' hb (by decide), h2, h3]
    have hlast : ∀ (w : xG), xfrm kTm g w → w.1 60 49 = 0 → (∃ v, ((f_X12_termOf_60 (w.1 86 b) (w.1 87 b) w).bind fun w1 => if w1.2.1 60 49 = 0 then some (w1.1, w1.2) else some (0, w1.2)) = some ((lvVal vars t).getD 0, v) ∧ xfrm kTm g v) := by
      intro w hw hw0
      rw [(hw 86 b rfl).1, (hw 87 b rfl).1, h4, h5]
      rcases r_termOf (vars := vars) (g := w) ot (h8.ag (hw.agr rfl)) rfl h9 (fun q hq => (hw 91 q rfl).1.trans (hv q hq)) with ⟨x, v, e1, e2, e3⟩ | ⟨v, e1, e2, e3, e4⟩
      · refine ⟨v, ?_, hw.tr e3 rfl⟩
        rw [e2, Option.bind_some]
        show (if v.1 60 49 = 0 then some (x, v) else some (0, v)) = _
        rw [(e3 60 49 rfl).1, hw0, if_pos rfl, e1]
        rfl
      · refine ⟨v, ?_, hw.tr e4 rfl⟩
        rw [e2, Option.bind_some]
        show (if v.1 60 49 = 0 then some (0, v) else some (0, v)) = _
        rw [e3, if_neg (by decide), e1]
        rfl
    rcases r_termOf (vars := vars) (c := a) oa h6 rfl (by omega) hv with ⟨u, w, e1, e2, e3⟩ | ⟨w, e1, e2, e3, e4⟩
    · rw [e2, Option.bind_some]
      have e3' : xfrm kTm g w := fun q k hq => e3 q k (xsubf_ok rfl hq)
      show ∃ w', (xg _ (xg _ ((f_X12_termOf_60 (w.1 85 b) (w.1 86 b) w).bind _))) = _ ∧ _
      rw [xg_in' hb (by decide), xg_in' hb (by decide), (e3 85 b rfl).1, (e3 86 b rfl).1, h3, h4]
      rcases r_termOf (vars := vars) (c := c) (g := w) ob (h7.ag (e3.agr rfl)) rfl (by omega) (fun q hq => (e3 91 q rfl).1.trans (hv q hq)) with ⟨v, w2, f1, f2, f3⟩ | ⟨w2, f1, f2, f3, f4⟩
      · rw [f2, Option.bind_some]
        have hz2 : w2.1 60 49 = 0 := (f3 60 49 rfl).1.trans ((e3 60 49 rfl).1.trans hz)
        have f5 : xfrm kTm g w2 := e3'.tr f3 rfl
        show ∃ w', (if w2.1 60 49 = 0 then if u < v then xg _ (xg _ ((f_X12_termOf_60 (w2.1 86 b) (w2.1 87 b) w2).bind _)) else _ else _) = _ ∧ _
        rw [hz2, if_pos rfl]
        by_cases huv : u < v
        · rw [if_pos huv, xg_in' hb (by decide), xg_in' hb (by decide)]
          obtain ⟨v3, q1, q2⟩ := hlast w2 f5 hz2
          refine ⟨v3, q1.trans ?_, q2⟩
          rw [show lvBr vars ((a, c, t) :: bs) e = (lvVal vars t).getD 0 by
            conv => lhs; unfold lvBr
            rw [e1, f1]
            simp only [if_pos huv]]
        · rw [if_neg huv, nI_1]
          obtain ⟨v3, q1, q2⟩ := r_br hl3 (vars := vars) (bs := bs) (e := e) (b := b + 1) (fuel := fuel) (g := w2) ⟨fun q hq => ho.1 q (List.mem_cons_of_mem _ hq), ho.2⟩ (h10.ag (f5.agr rfl)) ((f5 82 l3 rfl).1.trans (h82.trans (by rw [show b + (bs.length + 1) + 1 = b + 1 + bs.length + 1 by omega]))) (by omega) hz2 (by omega) (fun q hq => (f5 91 q rfl).1.trans (hv q hq))
          refine ⟨v3, q1.trans ?_, f5.tr q2 rfl⟩
          rw [show lvBr vars ((a, c, t) :: bs) e = lvBr vars bs e by
            conv => lhs; unfold lvBr
            rw [e1, f1]
            simp only [if_neg huv]]
      · rw [f2, Option.bind_some]
        refine ⟨w2, ?_, e3'.tr f4 rfl⟩
        show (if w2.1 60 49 = 0 then _ else some ((0 : Int32), w2)) = _
        rw [f3, if_neg (by decide)]
        unfold lvBr
        rw [e1, f1]
    · rw [e2, Option.bind_some]
      show ∃ w', (xg _ (xg _ ((f_X12_termOf_60 (w.1 85 b) (w.1 86 b) w).bind _))) = _ ∧ _
      rw [xg_in' hb (by decide), xg_in' hb (by decide), (e4 85 b rfl).1, (e4 86 b rfl).1, h3, h4]
      have hval : lvBr vars ((a, c, t) :: bs) e = 0 := by
        unfold lvBr
        rw [e1]
      rw [hval]
      rcases r_termOf (vars := vars) (c := c) (g := w) ob (h7.ag (e4.agr rfl)) rfl (by omega) (fun q hq => (e4 91 q rfl).1.trans (hv q hq)) with ⟨v, w2, f1, f2, f3⟩ | ⟨w2, f1, f2, f3, f4⟩
      · rw [f2, Option.bind_some]
        refine ⟨w2, ?_, e4.tr f3 rfl⟩
        show (if w2.1 60 49 = 0 then _ else some ((0 : Int32), w2)) = _
        rw [(f3 60 49 rfl).1, e3, if_neg (by decide)]
      · rw [f2, Option.bind_some]
        refine ⟨w2, ?_, e4.tr f4 rfl⟩
        show (if w2.1 60 49 = 0 then _ else some ((0 : Int32), w2)) = _
        rw [f3, if_neg (by decide)]
theorem lDef_val (vars : Nat → Int32) (k : Nat) : lvLaw vars (lDef k) = if k < 2 then vars 0 else if k = 2 then 1 else 0 := by
  unfold lvLaw lDef
  simp only [lvBr, lvVal]
  by_cases h : k < 2
  · rw [if_pos h, if_pos h]
    simp [lvRun]
  · rw [if_neg h, if_neg h]
    by_cases h2 : k = 2
    · rw [if_pos h2, if_pos h2]
      simp [lvRun]
    · rw [if_neg h2, if_neg h2]
      simp [lvRun]
theorem r_tells {vars : Nat → Int32} {g : xG} {L : Nat} {R : pR} (h : lwR g L R) (hR : rOK R) (hL : L < 2) (e18 : g.1 60 18 = nI L) {k : Nat} (hk : k < 4) {plain : Int32} (hp : plain = if k < 2 then vars 0 else if k = 2 then 1 else 0) (hv : ∀ q, q < 9 → g.1 91 q = vars q) : ∃ w, f_X12_lawTells_60 (nI k) plain g = some (lvLaw vars (rL R k), w) ∧ xfrm kTm g w := by
  unfold f_X12_lawTells_60
  rw [e18, i4, xg_in (by omega) (by decide), xg_in (by omega) (by decide), nI_clamp (show 4 * L + k < 2 ^ 31 by omega)]
  rcases h k hk with ⟨b, h1, h2, h3, h4⟩ | ⟨h1, h2⟩
  · rw [h1, h2, if_neg (fun e => by rw [nI_eq (by omega) (by omega)] at e; omega), xg_in' (by omega) (by decide)]
    have hf0 : xfrm kTm g (xupd g.1 60 49 0, g.2) := xfrm.up xfrm.rf rfl
    obtain ⟨w, e1, e2⟩ := r_br (vars := vars) (l3 := 4 * L + k) (by omega) (fuel := xN) (hR.l hk) (h4.ag (hf0.agr rfl)) ((hf0 82 _ rfl).1.trans h2) h3 (by dsimp only; exact xu_eq) (by show (rL R k).1.length < 4000; omega) (fun q hq => (hf0 91 q rfl).1.trans (hv q hq))
    exact ⟨w, e1, hf0.tr e2 rfl⟩
  · rw [if_pos h1]
    refine ⟨g, ?_, xfrm.rf⟩
    rw [h2, lDef_val, ← hp]
