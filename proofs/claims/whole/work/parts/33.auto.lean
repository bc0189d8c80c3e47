/-! methods, walked by program -/
def f_X12_within (p0 : Int32) (p1 : Int32) (p2 : Int32) : Int32 :=
  if p1 ≤ p0 then
    if p0 ≤ p2 then
      p0
    else
      p2
  else
    p1
set_option maxRecDepth 20000 in
theorem c_X12_within {S : List xSh} (hS : xpf SH2 S) {g : xG} {p0 : Int32} {p1 : Int32} {p2 : Int32} (out : Int32) (H : f_X12_within p0 p1 p2 = out) : xC mX12_within 0 0 0 0 S [.int p0, .int p1, .int p2] g S (fun r g' => r = some (.int out) ∧ g' = g) := by
  have H : (if p1 ≤ p0 then
  if p0 ≤ p2 then
    p0
  else
    p2
else
  p1) = out := H
  refine xC.of 12 SH2 [some (.int p0), some (.int p1), some (.int p2)] hS (by decide +kernel) rfl (fun _ _ => Nat.le_of_ble_eq_true rfl) (fun _ _ => rfl) ?_
  intro k A hR hrm hz
  refine xb A [(.iload_n 0, 1, 0, 0, .null), (.iload_n 1, 1, 0, 0, .null)] (pc' := 2) (ls' := [some (.int p0), some (.int p1), some (.int p2)]) (st' := [.int p1, .int p0]) (g' := g) (by decide +kernel) rfl ?_
  refine xic_ge A (7) 9 5 (by decide +kernel) (fun h1 => ?_) (fun h1 => ?_)
  · rw [if_pos h1] at H
    refine xb A [(.iload_n 0, 1, 0, 0, .null), (.iload_n 2, 1, 0, 0, .null)] (pc' := 11) (ls' := [some (.int p0), some (.int p1), some (.int p2)]) (st' := [.int p2, .int p0]) (g' := g) (by decide +kernel) rfl ?_
    refine xic_le A (7) 18 14 (by decide +kernel) (fun h2 => ?_) (fun h2 => ?_)
    · rw [if_pos h2] at H
      refine xb A [(.iload_n 0, 1, 0, 0, .null)] (pc' := 19) (ls' := [some (.int p0), some (.int p1), some (.int p2)]) (st' := [.int p0]) (g' := g) (by decide +kernel) rfl ?_
      subst H
      exact xret_i A hR hz (by decide +kernel) rfl ⟨rfl, rfl⟩
    · rw [if_neg h2] at H
      refine xb A [(.iload_n 2, 1, 0, 0, .null)] (pc' := 15) (ls' := [some (.int p0), some (.int p1), some (.int p2)]) (st' := [.int p2]) (g' := g) (by decide +kernel) rfl ?_
      refine xgoto A (4) 19 (by decide +kernel) ?_
      subst H
      exact xret_i A hR hz (by decide +kernel) rfl ⟨rfl, rfl⟩
  · rw [if_neg h1] at H
    refine xb A [(.iload_n 1, 1, 0, 0, .null)] (pc' := 6) (ls' := [some (.int p0), some (.int p1), some (.int p2)]) (st' := [.int p1]) (g' := g) (by decide +kernel) rfl ?_
    refine xgoto A (13) 19 (by decide +kernel) ?_
    subst H
    exact xret_i A hR hz (by decide +kernel) rfl ⟨rfl, rfl⟩
def fp_X12_claimBy_60 : List (Nat × Option Nat) := [(60, some 49), (91, none), (92, none)]
def f_X12_claimBy_60 (p1 : Int32) (p2 : Int32) (g : xG) : Option (Int32 × xG) :=
  (f_X12_looks_60 p1 p2 g).bind fun w1 =>
  (f_X12_lawTells_60 0 p2 w1).bind fun w2 =>
  some (f_X12_within w2.1 0 999, w2.2)
set_option maxRecDepth 20000 in
theorem c_X12_claimBy_60 {S : List xSh} (hS : xpf SH2 S) {g : xG} {p1 : Int32} {p2 : Int32} (out : Int32 × xG) (H : f_X12_claimBy_60 p1 p2 g = some out) : xC mX12_claimBy 3 65 0 0 S [.ref 60, .int p1, .int p2] g S (fun r g' => r = some (.int out.1) ∧ g' = out.2) := by
  have H : ((f_X12_looks_60 p1 p2 g).bind fun w1 =>
(f_X12_lawTells_60 0 p2 w1).bind fun w2 =>
some (f_X12_within w2.1 0 999, w2.2)) = some out := H
  refine xC.of 12 SH2 [some (.ref 60), some (.int p1), some (.int p2)] hS (by decide +kernel) rfl (fun _ _ => Nat.le_of_ble_eq_true rfl) (fun _ _ => rfl) ?_
  intro k A hR hrm hz
  refine xb A [(.aload_n 0, 1, 0, 0, .null), (.iload_n 1, 1, 0, 0, .null), (.iload_n 2, 1, 0, 0, .null)] (pc' := 3) (ls' := [some (.ref 60), some (.int p1), some (.int p2)]) (st' := [.int p2, .int p1, .ref 60]) (g' := g) (by decide +kernel) rfl ?_
  obtain ⟨w1, e1, H⟩ := xbind H
  refine xcallV A (ix := 345) (nxt := 6) hrm hz [.int p1, .int p2] [] 1759 (c_X12_looks_60 hS _ e1) ok_X12_looks (by decide +kernel) rfl (fun r g1 hq => ?_)
  rw [hq.1, hq.2]
  show xW k S 0 0 6 [some (.ref 60), some (.int p1), some (.int p2)] [] w1
  refine xb A [(.aload_n 0, 1, 0, 0, .null), (.iconst 0, 1, 0, 0, .int 0), (.iload_n 2, 1, 0, 0, .null)] (pc' := 9) (ls' := [some (.ref 60), some (.int p1), some (.int p2)]) (st' := [.int p2, .int 0, .ref 60]) (g' := w1) (by decide +kernel) rfl ?_
  obtain ⟨w2, e2, H⟩ := xbind H
  refine xcallV A (ix := 348) (nxt := 12) hrm hz [.int 0, .int p2] [] 1774 (c_X12_lawTells_60 hS _ e2) ok_X12_lawTells (by decide +kernel) rfl (fun r g1 hq => ?_)
  rw [hq.1, hq.2]
  show xW k S 0 0 12 [some (.ref 60), some (.int p1), some (.int p2)] [.int w2.1] w2.2
  refine xb A [(.iconst 0, 1, 0, 0, .int 0), (.sipush 999, 3, 0, 0, .int 999)] (pc' := 16) (ls' := [some (.ref 60), some (.int p1), some (.int p2)]) (st' := [.int 999, .int 0, .int w2.1]) (g' := w2.2) (by decide +kernel) rfl ?_
  refine xcallS A (ix := 351) (nxt := 19) hrm hz [.int w2.1, .int 0, .int 999] [] 1782 (c_X12_within hS _ rfl) ok_X12_within (by decide +kernel) rfl (fun r g1 hq => ?_)
  rw [hq.1, hq.2]
  show xW k S 0 0 19 [some (.ref 60), some (.int p1), some (.int p2)] [.int (f_X12_within w2.1 0 999)] w2.2
  obtain rfl := Option.some.inj H
  exact xret_i A hR hz (by decide +kernel) rfl ⟨rfl, rfl⟩
theorem fr_X12_claimBy_60 {p1 : Int32} {p2 : Int32} {g : xG} (out : Int32 × xG) (H : f_X12_claimBy_60 p1 p2 g = some out) : xfrm fp_X12_claimBy_60 g (out.2) := by
  have H : ((f_X12_looks_60 p1 p2 g).bind fun w1 =>
(f_X12_lawTells_60 0 p2 w1).bind fun w2 =>
some (f_X12_within w2.1 0 999, w2.2)) = some out := H
  obtain ⟨w1, e1, H⟩ := xbind H
  have hf1 : xfrm fp_X12_claimBy_60 g (w1) := xfrm.tr xfrm.rf (fr_X12_looks_60 _ e1) rfl
  obtain ⟨w2, e2, H⟩ := xbind H
  have hf2 : xfrm fp_X12_claimBy_60 g (w2.2) := xfrm.tr hf1 (fr_X12_lawTells_60 _ e2) rfl
  obtain rfl := Option.some.inj H
  exact hf2
def fp_X12_toldBy_60 : List (Nat × Option Nat) := [(60, some 49), (91, none), (92, none)]
def f_X12_toldBy_60 (p1 : Int32) (p2 : Int32) (p3 : Int32) (g : xG) : Option (Int32 × xG) :=
  (f_X12_claimBy_60 p1 p2 g).bind fun w1 =>
  (f_X12_looks_60 p1 p2 w1.2).bind fun w2 =>
  xg (¬ ((6 : Int32) < 0 ∨ 9 ≤ (6 : Int32).toNatClampNeg)) (
    if p3 = 1 then
      (f_X12_lawTells_60 p3 p2 (xupd w2.1 91 (6 : Int32).toNatClampNeg w1.1, w2.2)).bind fun w5 =>
      some (w5.1, w5.2)
    else
      if p3 = 2 then
        (f_X12_lawTells_60 p3 1 (xupd w2.1 91 (6 : Int32).toNatClampNeg w1.1, w2.2)).bind fun w4 =>
        some (w4.1, w4.2)
      else
        (f_X12_lawTells_60 p3 0 (xupd w2.1 91 (6 : Int32).toNatClampNeg w1.1, w2.2)).bind fun w3 =>
        some (w3.1, w3.2))
set_option maxRecDepth 20000 in
theorem c_X12_toldBy_60 {S : List xSh} (hS : xpf SH2 S) {g : xG} {p1 : Int32} {p2 : Int32} {p3 : Int32} (out : Int32 × xG) (H : f_X12_toldBy_60 p1 p2 p3 g = some out) : xC mX12_toldBy 4 87 0 0 S [.ref 60, .int p1, .int p2, .int p3] g S (fun r g' => r = some (.int out.1) ∧ g' = out.2) := by
  have H : ((f_X12_claimBy_60 p1 p2 g).bind fun w1 =>
(f_X12_looks_60 p1 p2 w1.2).bind fun w2 =>
xg (¬ ((6 : Int32) < 0 ∨ 9 ≤ (6 : Int32).toNatClampNeg)) (
  if p3 = 1 then
    (f_X12_lawTells_60 p3 p2 (xupd w2.1 91 (6 : Int32).toNatClampNeg w1.1, w2.2)).bind fun w5 =>
    some (w5.1, w5.2)
  else
    if p3 = 2 then
      (f_X12_lawTells_60 p3 1 (xupd w2.1 91 (6 : Int32).toNatClampNeg w1.1, w2.2)).bind fun w4 =>
      some (w4.1, w4.2)
    else
      (f_X12_lawTells_60 p3 0 (xupd w2.1 91 (6 : Int32).toNatClampNeg w1.1, w2.2)).bind fun w3 =>
      some (w3.1, w3.2))) = some out := H
  refine xC.of 12 SH2 [some (.ref 60), some (.int p1), some (.int p2), some (.int p3), none] hS (by decide +kernel) rfl (fun _ _ => Nat.le_of_ble_eq_true rfl) (fun _ _ => rfl) ?_
  intro k A hR hrm hz
  refine xb A [(.aload_n 0, 1, 0, 0, .null), (.iload_n 1, 1, 0, 0, .null), (.iload_n 2, 1, 0, 0, .null)] (pc' := 3) (ls' := [some (.ref 60), some (.int p1), some (.int p2), some (.int p3), none]) (st' := [.int p2, .int p1, .ref 60]) (g' := g) (by decide +kernel) rfl ?_
  obtain ⟨w1, e1, H⟩ := xbind H
  refine xcallV A (ix := 357) (nxt := 6) hrm hz [.int p1, .int p2] [] 1755 (c_X12_claimBy_60 hS _ e1) ok_X12_claimBy (by decide +kernel) rfl (fun r g1 hq => ?_)
  rw [hq.1, hq.2]
  show xW k S 0 0 6 [some (.ref 60), some (.int p1), some (.int p2), some (.int p3), none] [.int w1.1] w1.2
  refine xb A [(.istore 4, 2, 0, 0, .null), (.aload_n 0, 1, 0, 0, .null), (.iload_n 1, 1, 0, 0, .null), (.iload_n 2, 1, 0, 0, .null)] (pc' := 11) (ls' := [some (.ref 60), some (.int p1), some (.int p2), some (.int p3), some (.int w1.1)]) (st' := [.int p2, .int p1, .ref 60]) (g' := w1.2) (by decide +kernel) rfl ?_
  obtain ⟨w2, e2, H⟩ := xbind H
  refine xcallV A (ix := 345) (nxt := 14) hrm hz [.int p1, .int p2] [] 1759 (c_X12_looks_60 hS _ e2) ok_X12_looks (by decide +kernel) rfl (fun r g1 hq => ?_)
  rw [hq.1, hq.2]
  show xW k S 0 0 14 [some (.ref 60), some (.int p1), some (.int p2), some (.int p3), some (.int w1.1)] [] w2
  refine xb A [(.aload_n 0, 1, 0, 0, .null), (.getfield 110, 3, 60, 47, .ref 91), (.bipush 6, 2, 0, 0, .int 6), (.iload 4, 2, 0, 0, .null)] (pc' := 22) (ls' := [some (.ref 60), some (.int p1), some (.int p2), some (.int p3), some (.int w1.1)]) (st' := [.int w1.1, .int 6, .ref 91]) (g' := w2) (by decide +kernel) rfl ?_
  obtain ⟨h1, H⟩ := xg_elim H
  refine xiast A (nxt := 23) (by decide +kernel) (hS _ _ sh_91) h1 ?_
  show xW k S 0 0 23 [some (.ref 60), some (.int p1), some (.int p2), some (.int p3), some (.int w1.1)] [] (xupd w2.1 91 (6 : Int32).toNatClampNeg w1.1, w2.2)
  refine xb A [(.aload_n 0, 1, 0, 0, .null), (.iload_n 3, 1, 0, 0, .null), (.iload_n 3, 1, 0, 0, .null), (.iconst 1, 1, 0, 0, .int 1)] (pc' := 27) (ls' := [some (.ref 60), some (.int p1), some (.int p2), some (.int p3), some (.int w1.1)]) (st' := [.int 1, .int p3, .int p3, .ref 60]) (g' := (xupd w2.1 91 (6 : Int32).toNatClampNeg w1.1, w2.2)) (by decide +kernel) rfl ?_
  refine xic_ne A (7) 34 30 (by decide +kernel) (fun h2 => ?_) (fun h2 => ?_)
  · rw [if_neg h2] at H
    refine xb A [(.iload_n 3, 1, 0, 0, .null), (.iconst 2, 1, 0, 0, .int 2)] (pc' := 36) (ls' := [some (.ref 60), some (.int p1), some (.int p2), some (.int p3), some (.int w1.1)]) (st' := [.int 2, .int p3, .int p3, .ref 60]) (g' := (xupd w2.1 91 (6 : Int32).toNatClampNeg w1.1, w2.2)) (by decide +kernel) rfl ?_
    refine xic_ne A (7) 43 39 (by decide +kernel) (fun h3 => ?_) (fun h3 => ?_)
    · rw [if_neg h3] at H
      refine xb A [(.iconst 0, 1, 0, 0, .int 0)] (pc' := 44) (ls' := [some (.ref 60), some (.int p1), some (.int p2), some (.int p3), some (.int w1.1)]) (st' := [.int 0, .int p3, .ref 60]) (g' := (xupd w2.1 91 (6 : Int32).toNatClampNeg w1.1, w2.2)) (by decide +kernel) rfl ?_
      obtain ⟨w3, e3, H⟩ := xbind H
      refine xcallV A (ix := 348) (nxt := 47) hrm hz [.int p3, .int 0] [] 1774 (c_X12_lawTells_60 hS _ e3) ok_X12_lawTells (by decide +kernel) rfl (fun r g1 hq => ?_)
      rw [hq.1, hq.2]
      show xW k S 0 0 47 [some (.ref 60), some (.int p1), some (.int p2), some (.int p3), some (.int w1.1)] [.int w3.1] w3.2
      obtain rfl := Option.some.inj H
      exact xret_i A hR hz (by decide +kernel) rfl ⟨rfl, rfl⟩
    · rw [if_pos h3] at H
      refine xb A [(.iconst 1, 1, 0, 0, .int 1)] (pc' := 40) (ls' := [some (.ref 60), some (.int p1), some (.int p2), some (.int p3), some (.int w1.1)]) (st' := [.int 1, .int p3, .ref 60]) (g' := (xupd w2.1 91 (6 : Int32).toNatClampNeg w1.1, w2.2)) (by decide +kernel) rfl ?_
      refine xgoto A (4) 44 (by decide +kernel) ?_
      obtain ⟨w4, e4, H⟩ := xbind H
      refine xcallV A (ix := 348) (nxt := 47) hrm hz [.int p3, .int 1] [] 1774 (c_X12_lawTells_60 hS _ e4) ok_X12_lawTells (by decide +kernel) rfl (fun r g1 hq => ?_)
      rw [hq.1, hq.2]
      show xW k S 0 0 47 [some (.ref 60), some (.int p1), some (.int p2), some (.int p3), some (.int w1.1)] [.int w4.1] w4.2
      obtain rfl := Option.some.inj H
      exact xret_i A hR hz (by decide +kernel) rfl ⟨rfl, rfl⟩
  · rw [if_pos h2] at H
    refine xb A [(.iload_n 2, 1, 0, 0, .null)] (pc' := 31) (ls' := [some (.ref 60), some (.int p1), some (.int p2), some (.int p3), some (.int w1.1)]) (st' := [.int p2, .int p3, .ref 60]) (g' := (xupd w2.1 91 (6 : Int32).toNatClampNeg w1.1, w2.2)) (by decide +kernel) rfl ?_
    refine xgoto A (13) 44 (by decide +kernel) ?_
    obtain ⟨w5, e5, H⟩ := xbind H
    refine xcallV A (ix := 348) (nxt := 47) hrm hz [.int p3, .int p2] [] 1774 (c_X12_lawTells_60 hS _ e5) ok_X12_lawTells (by decide +kernel) rfl (fun r g1 hq => ?_)
    rw [hq.1, hq.2]
    show xW k S 0 0 47 [some (.ref 60), some (.int p1), some (.int p2), some (.int p3), some (.int w1.1)] [.int w5.1] w5.2
    obtain rfl := Option.some.inj H
    exact xret_i A hR hz (by decide +kernel) rfl ⟨rfl, rfl⟩
theorem fr_X12_toldBy_60 {p1 : Int32} {p2 : Int32} {p3 : Int32} {g : xG} (out : Int32 × xG) (H : f_X12_toldBy_60 p1 p2 p3 g = some out) : xfrm fp_X12_toldBy_60 g (out.2) := by
  have H : ((f_X12_claimBy_60 p1 p2 g).bind fun w1 =>
(f_X12_looks_60 p1 p2 w1.2).bind fun w2 =>
xg (¬ ((6 : Int32) < 0 ∨ 9 ≤ (6 : Int32).toNatClampNeg)) (
  if p3 = 1 then
    (f_X12_lawTells_60 p3 p2 (xupd w2.1 91 (6 : Int32).toNatClampNeg w1.1, w2.2)).bind fun w5 =>
    some (w5.1, w5.2)
  else
    if p3 = 2 then
      (f_X12_lawTells_60 p3 1 (xupd w2.1 91 (6 : Int32).toNatClampNeg w1.1, w2.2)).bind fun w4 =>
      some (w4.1, w4.2)
    else
      (f_X12_lawTells_60 p3 0 (xupd w2.1 91 (6 : Int32).toNatClampNeg w1.1, w2.2)).bind fun w3 =>
      some (w3.1, w3.2))) = some out := H
  obtain ⟨w1, e1, H⟩ := xbind H
  have hf1 : xfrm fp_X12_toldBy_60 g (w1.2) := xfrm.tr xfrm.rf (fr_X12_claimBy_60 _ e1) rfl
  obtain ⟨w2, e2, H⟩ := xbind H
  have hf2 : xfrm fp_X12_toldBy_60 g (w2) := xfrm.tr hf1 (fr_X12_looks_60 _ e2) rfl
  obtain ⟨h1, H⟩ := xg_elim H
  have hf3 : xfrm fp_X12_toldBy_60 g ((xupd w2.1 91 (6 : Int32).toNatClampNeg w1.1, w2.2)) := xfrm.ua hf2 rfl
  by_cases h2 : p3 = 1
  · rw [if_pos h2] at H
    obtain ⟨w5, e5, H⟩ := xbind H
    have hf6 : xfrm fp_X12_toldBy_60 g (w5.2) := xfrm.tr hf3 (fr_X12_lawTells_60 _ e5) rfl
    obtain rfl := Option.some.inj H
    exact hf6
  · rw [if_neg h2] at H
    by_cases h3 : p3 = 2
    · rw [if_pos h3] at H
      obtain ⟨w4, e4, H⟩ := xbind H
      have hf5 : xfrm fp_X12_toldBy_60 g (w4.2) := xfrm.tr hf3 (fr_X12_lawTells_60 _ e4) rfl
      obtain rfl := Option.some.inj H
      exact hf5
    · rw [if_neg h3] at H
      obtain ⟨w3, e3, H⟩ := xbind H
      have hf4 : xfrm fp_X12_toldBy_60 g (w3.2) := xfrm.tr hf3 (fr_X12_lawTells_60 _ e3) rfl
      obtain rfl := Option.some.inj H
      exact hf4
def fp_X12_doubtsOf_60 : List (Nat × Option Nat) := [(60, some 49), (91, none), (92, none)]
def f_X12_doubtsOf_60 (p1 : Int32) (g : xG) : Option (Int32 × xG) :=
  (f_X12_farOf_60 p1 g).bind fun w1 =>
  (f_X12_toldBy_60 p1 w1 3 g).bind fun w2 =>
  some (f_X12_within w2.1 0 100, w2.2)
set_option maxRecDepth 20000 in
theorem c_X12_doubtsOf_60 {S : List xSh} (hS : xpf SH2 S) {g : xG} {p1 : Int32} (out : Int32 × xG) (H : f_X12_doubtsOf_60 p1 g = some out) : xC mX12_doubtsOf 5 111 0 0 S [.ref 60, .int p1] g S (fun r g' => r = some (.int out.1) ∧ g' = out.2) := by
  have H : ((f_X12_farOf_60 p1 g).bind fun w1 =>
(f_X12_toldBy_60 p1 w1 3 g).bind fun w2 =>
some (f_X12_within w2.1 0 100, w2.2)) = some out := H
  refine xC.of 12 SH2 [some (.ref 60), some (.int p1)] hS (by decide +kernel) rfl (fun _ _ => Nat.le_of_ble_eq_true rfl) (fun _ _ => rfl) ?_
  intro k A hR hrm hz
  refine xb A [(.aload_n 0, 1, 0, 0, .null), (.iload_n 1, 1, 0, 0, .null), (.aload_n 0, 1, 0, 0, .null), (.iload_n 1, 1, 0, 0, .null)] (pc' := 4) (ls' := [some (.ref 60), some (.int p1)]) (st' := [.int p1, .ref 60, .int p1, .ref 60]) (g' := g) (by decide +kernel) rfl ?_
  obtain ⟨w1, e1, H⟩ := xbind H
  refine xcallV A (ix := 354) (nxt := 7) hrm hz [.int p1] [.int p1, .ref 60] 1747 (c_X12_farOf_60 hS _ e1) ok_X12_farOf (by decide +kernel) rfl (fun r g1 hq => ?_)
  rw [hq.1, hq.2]
  show xW k S 0 0 7 [some (.ref 60), some (.int p1)] [.int w1, .int p1, .ref 60] g
  refine xb A [(.iconst 3, 1, 0, 0, .int 3)] (pc' := 8) (ls' := [some (.ref 60), some (.int p1)]) (st' := [.int 3, .int w1, .int p1, .ref 60]) (g' := g) (by decide +kernel) rfl ?_
  obtain ⟨w2, e2, H⟩ := xbind H
  refine xcallV A (ix := 360) (nxt := 11) hrm hz [.int p1, .int w1, .int 3] [] 1789 (c_X12_toldBy_60 hS _ e2) ok_X12_toldBy (by decide +kernel) rfl (fun r g1 hq => ?_)
  rw [hq.1, hq.2]
  show xW k S 0 0 11 [some (.ref 60), some (.int p1)] [.int w2.1] w2.2
  refine xb A [(.iconst 0, 1, 0, 0, .int 0), (.bipush 100, 2, 0, 0, .int 100)] (pc' := 14) (ls' := [some (.ref 60), some (.int p1)]) (st' := [.int 100, .int 0, .int w2.1]) (g' := w2.2) (by decide +kernel) rfl ?_
  refine xcallS A (ix := 351) (nxt := 17) hrm hz [.int w2.1, .int 0, .int 100] [] 1782 (c_X12_within hS _ rfl) ok_X12_within (by decide +kernel) rfl (fun r g1 hq => ?_)
  rw [hq.1, hq.2]
  show xW k S 0 0 17 [some (.ref 60), some (.int p1)] [.int (f_X12_within w2.1 0 100)] w2.2
  obtain rfl := Option.some.inj H
  exact xret_i A hR hz (by decide +kernel) rfl ⟨rfl, rfl⟩
theorem fr_X12_doubtsOf_60 {p1 : Int32} {g : xG} (out : Int32 × xG) (H : f_X12_doubtsOf_60 p1 g = some out) : xfrm fp_X12_doubtsOf_60 g (out.2) := by
  have H : ((f_X12_farOf_60 p1 g).bind fun w1 =>
(f_X12_toldBy_60 p1 w1 3 g).bind fun w2 =>
some (f_X12_within w2.1 0 100, w2.2)) = some out := H
  obtain ⟨w1, e1, H⟩ := xbind H
  obtain ⟨w2, e2, H⟩ := xbind H
  have hf1 : xfrm fp_X12_doubtsOf_60 g (w2.2) := xfrm.tr xfrm.rf (fr_X12_toldBy_60 _ e2) rfl
  obtain rfl := Option.some.inj H
  exact hf1
def fp_X12_giftsOf_60 : List (Nat × Option Nat) := [(60, some 49), (91, none), (92, none)]
def f_X12_giftsOf_60 (p1 : Int32) (g : xG) : Option (Int32 × xG) :=
  (f_X12_farOf_60 p1 g).bind fun w1 =>
  (f_X12_toldBy_60 p1 w1 2 g).bind fun w2 =>
  some (f_X12_within w2.1 0 99, w2.2)
set_option maxRecDepth 20000 in
theorem c_X12_giftsOf_60 {S : List xSh} (hS : xpf SH2 S) {g : xG} {p1 : Int32} (out : Int32 × xG) (H : f_X12_giftsOf_60 p1 g = some out) : xC mX12_giftsOf 5 111 0 0 S [.ref 60, .int p1] g S (fun r g' => r = some (.int out.1) ∧ g' = out.2) := by
  have H : ((f_X12_farOf_60 p1 g).bind fun w1 =>
(f_X12_toldBy_60 p1 w1 2 g).bind fun w2 =>
some (f_X12_within w2.1 0 99, w2.2)) = some out := H
  refine xC.of 12 SH2 [some (.ref 60), some (.int p1)] hS (by decide +kernel) rfl (fun _ _ => Nat.le_of_ble_eq_true rfl) (fun _ _ => rfl) ?_
  intro k A hR hrm hz
  refine xb A [(.aload_n 0, 1, 0, 0, .null), (.iload_n 1, 1, 0, 0, .null), (.aload_n 0, 1, 0, 0, .null), (.iload_n 1, 1, 0, 0, .null)] (pc' := 4) (ls' := [some (.ref 60), some (.int p1)]) (st' := [.int p1, .ref 60, .int p1, .ref 60]) (g' := g) (by decide +kernel) rfl ?_
  obtain ⟨w1, e1, H⟩ := xbind H
  refine xcallV A (ix := 354) (nxt := 7) hrm hz [.int p1] [.int p1, .ref 60] 1747 (c_X12_farOf_60 hS _ e1) ok_X12_farOf (by decide +kernel) rfl (fun r g1 hq => ?_)
  rw [hq.1, hq.2]
  show xW k S 0 0 7 [some (.ref 60), some (.int p1)] [.int w1, .int p1, .ref 60] g
  refine xb A [(.iconst 2, 1, 0, 0, .int 2)] (pc' := 8) (ls' := [some (.ref 60), some (.int p1)]) (st' := [.int 2, .int w1, .int p1, .ref 60]) (g' := g) (by decide +kernel) rfl ?_
  obtain ⟨w2, e2, H⟩ := xbind H
  refine xcallV A (ix := 360) (nxt := 11) hrm hz [.int p1, .int w1, .int 2] [] 1789 (c_X12_toldBy_60 hS _ e2) ok_X12_toldBy (by decide +kernel) rfl (fun r g1 hq => ?_)
  rw [hq.1, hq.2]
  show xW k S 0 0 11 [some (.ref 60), some (.int p1)] [.int w2.1] w2.2
  refine xb A [(.iconst 0, 1, 0, 0, .int 0), (.bipush 99, 2, 0, 0, .int 99)] (pc' := 14) (ls' := [some (.ref 60), some (.int p1)]) (st' := [.int 99, .int 0, .int w2.1]) (g' := w2.2) (by decide +kernel) rfl ?_
  refine xcallS A (ix := 351) (nxt := 17) hrm hz [.int w2.1, .int 0, .int 99] [] 1782 (c_X12_within hS _ rfl) ok_X12_within (by decide +kernel) rfl (fun r g1 hq => ?_)
  rw [hq.1, hq.2]
  show xW k S 0 0 17 [some (.ref 60), some (.int p1)] [.int (f_X12_within w2.1 0 99)] w2.2
  obtain rfl := Option.some.inj H
  exact xret_i A hR hz (by decide +kernel) rfl ⟨rfl, rfl⟩
theorem fr_X12_giftsOf_60 {p1 : Int32} {g : xG} (out : Int32 × xG) (H : f_X12_giftsOf_60 p1 g = some out) : xfrm fp_X12_giftsOf_60 g (out.2) := by
  have H : ((f_X12_farOf_60 p1 g).bind fun w1 =>
(f_X12_toldBy_60 p1 w1 2 g).bind fun w2 =>
some (f_X12_within w2.1 0 99, w2.2)) = some out := H
  obtain ⟨w1, e1, H⟩ := xbind H
  obtain ⟨w2, e2, H⟩ := xbind H
  have hf1 : xfrm fp_X12_giftsOf_60 g (w2.2) := xfrm.tr xfrm.rf (fr_X12_toldBy_60 _ e2) rfl
  obtain rfl := Option.some.inj H
  exact hf1
def fp_X12_strokesBy_60 : List (Nat × Option Nat) := [(60, some 49), (91, none), (92, none)]
def f_X12_strokesBy_60 (p1 : Int32) (p2 : Int32) (g : xG) : Option (Int32 × xG) :=
  (f_X12_toldBy_60 p1 p2 1 g).bind fun w1 =>
  some (f_X12_within w1.1 0 999, w1.2)
set_option maxRecDepth 20000 in
theorem c_X12_strokesBy_60 {S : List xSh} (hS : xpf SH2 S) {g : xG} {p1 : Int32} {p2 : Int32} (out : Int32 × xG) (H : f_X12_strokesBy_60 p1 p2 g = some out) : xC mX12_strokesBy 5 111 0 0 S [.ref 60, .int p1, .int p2] g S (fun r g' => r = some (.int out.1) ∧ g' = out.2) := by
  have H : ((f_X12_toldBy_60 p1 p2 1 g).bind fun w1 =>
some (f_X12_within w1.1 0 999, w1.2)) = some out := H
  refine xC.of 12 SH2 [some (.ref 60), some (.int p1), some (.int p2)] hS (by decide +kernel) rfl (fun _ _ => Nat.le_of_ble_eq_true rfl) (fun _ _ => rfl) ?_
  intro k A hR hrm hz
  refine xb A [(.aload_n 0, 1, 0, 0, .null), (.iload_n 1, 1, 0, 0, .null), (.iload_n 2, 1, 0, 0, .null), (.iconst 1, 1, 0, 0, .int 1)] (pc' := 4) (ls' := [some (.ref 60), some (.int p1), some (.int p2)]) (st' := [.int 1, .int p2, .int p1, .ref 60]) (g' := g) (by decide +kernel) rfl ?_
  obtain ⟨w1, e1, H⟩ := xbind H
  refine xcallV A (ix := 360) (nxt := 7) hrm hz [.int p1, .int p2, .int 1] [] 1789 (c_X12_toldBy_60 hS _ e1) ok_X12_toldBy (by decide +kernel) rfl (fun r g1 hq => ?_)
  rw [hq.1, hq.2]
  show xW k S 0 0 7 [some (.ref 60), some (.int p1), some (.int p2)] [.int w1.1] w1.2
  refine xb A [(.iconst 0, 1, 0, 0, .int 0), (.sipush 999, 3, 0, 0, .int 999)] (pc' := 11) (ls' := [some (.ref 60), some (.int p1), some (.int p2)]) (st' := [.int 999, .int 0, .int w1.1]) (g' := w1.2) (by decide +kernel) rfl ?_
  refine xcallS A (ix := 351) (nxt := 14) hrm hz [.int w1.1, .int 0, .int 999] [] 1782 (c_X12_within hS _ rfl) ok_X12_within (by decide +kernel) rfl (fun r g1 hq => ?_)
  rw [hq.1, hq.2]
  show xW k S 0 0 14 [some (.ref 60), some (.int p1), some (.int p2)] [.int (f_X12_within w1.1 0 999)] w1.2
  obtain rfl := Option.some.inj H
  exact xret_i A hR hz (by decide +kernel) rfl ⟨rfl, rfl⟩
theorem fr_X12_strokesBy_60 {p1 : Int32} {p2 : Int32} {g : xG} (out : Int32 × xG) (H : f_X12_strokesBy_60 p1 p2 g = some out) : xfrm fp_X12_strokesBy_60 g (out.2) := by
  have H : ((f_X12_toldBy_60 p1 p2 1 g).bind fun w1 =>
some (f_X12_within w1.1 0 999, w1.2)) = some out := H
  obtain ⟨w1, e1, H⟩ := xbind H
  have hf1 : xfrm fp_X12_strokesBy_60 g (w1.2) := xfrm.tr xfrm.rf (fr_X12_toldBy_60 _ e1) rfl
  obtain rfl := Option.some.inj H
  exact hf1
def fp_X12_claimOf_60 : List (Nat × Option Nat) := [(60, some 49), (91, none), (92, none)]
def f_X12_claimOf_60 (p1 : Int32) (g : xG) : Option (Int32 × xG) :=
  (f_X12_farOf_60 p1 g).bind fun w1 =>
  (f_X12_claimBy_60 p1 w1 g).bind fun w2 =>
  some (w2.1, w2.2)
set_option maxRecDepth 20000 in
theorem c_X12_claimOf_60 {S : List xSh} (hS : xpf SH2 S) {g : xG} {p1 : Int32} (out : Int32 × xG) (H : f_X12_claimOf_60 p1 g = some out) : xC mX12_claimOf 4 87 0 0 S [.ref 60, .int p1] g S (fun r g' => r = some (.int out.1) ∧ g' = out.2) := by
  have H : ((f_X12_farOf_60 p1 g).bind fun w1 =>
(f_X12_claimBy_60 p1 w1 g).bind fun w2 =>
some (w2.1, w2.2)) = some out := H
  refine xC.of 12 SH2 [some (.ref 60), some (.int p1)] hS (by decide +kernel) rfl (fun _ _ => Nat.le_of_ble_eq_true rfl) (fun _ _ => rfl) ?_
  intro k A hR hrm hz
  refine xb A [(.aload_n 0, 1, 0, 0, .null), (.iload_n 1, 1, 0, 0, .null), (.aload_n 0, 1, 0, 0, .null), (.iload_n 1, 1, 0, 0, .null)] (pc' := 4) (ls' := [some (.ref 60), some (.int p1)]) (st' := [.int p1, .ref 60, .int p1, .ref 60]) (g' := g) (by decide +kernel) rfl ?_
  obtain ⟨w1, e1, H⟩ := xbind H
  refine xcallV A (ix := 354) (nxt := 7) hrm hz [.int p1] [.int p1, .ref 60] 1747 (c_X12_farOf_60 hS _ e1) ok_X12_farOf (by decide +kernel) rfl (fun r g1 hq => ?_)
  rw [hq.1, hq.2]
  show xW k S 0 0 7 [some (.ref 60), some (.int p1)] [.int w1, .int p1, .ref 60] g
  obtain ⟨w2, e2, H⟩ := xbind H
  refine xcallV A (ix := 357) (nxt := 10) hrm hz [.int p1, .int w1] [] 1755 (c_X12_claimBy_60 hS _ e2) ok_X12_claimBy (by decide +kernel) rfl (fun r g1 hq => ?_)
  rw [hq.1, hq.2]
  show xW k S 0 0 10 [some (.ref 60), some (.int p1)] [.int w2.1] w2.2
  obtain rfl := Option.some.inj H
  exact xret_i A hR hz (by decide +kernel) rfl ⟨rfl, rfl⟩
theorem fr_X12_claimOf_60 {p1 : Int32} {g : xG} (out : Int32 × xG) (H : f_X12_claimOf_60 p1 g = some out) : xfrm fp_X12_claimOf_60 g (out.2) := by
  have H : ((f_X12_farOf_60 p1 g).bind fun w1 =>
(f_X12_claimBy_60 p1 w1 g).bind fun w2 =>
some (w2.1, w2.2)) = some out := H
  obtain ⟨w1, e1, H⟩ := xbind H
  obtain ⟨w2, e2, H⟩ := xbind H
  have hf1 : xfrm fp_X12_claimOf_60 g (w2.2) := xfrm.tr xfrm.rf (fr_X12_claimBy_60 _ e2) rfl
  obtain rfl := Option.some.inj H
  exact hf1
def fp_X12_person_60 : List (Nat × Option Nat) := [(60, some 49), (60, some 52), (60, some 53), (91, none), (92, none), (94, none), (95, none)]
def f_X12_person_60 (p1 : Int32) (p2 : Int32) (g : xG) : Option (Int32 × xG) :=
  (f_X12_isPerson_60 p1 g).bind fun w1 =>
  if w1 = 0 then
    some ((-1), g)
  else
    (f_X12_copies_60 g).bind fun w2 =>
    if p2 = 0 then
      xg (¬ (((6 * (w2.1 60 18)) + p1) < 0 ∨ 12 ≤ ((6 * (w2.1 60 18)) + p1).toNatClampNeg)) (
        some (w2.1 76 ((6 * (w2.1 60 18)) + p1).toNatClampNeg, w2))
    else
      if p2 = 1 then
        (f_X12_homeAt_60 p1 w2).bind fun w3 =>
        some (w3, w2)
      else
        if p2 = 2 then
          xg (¬ (p1 < 0 ∨ 40 ≤ p1.toNatClampNeg)) (
            some (w2.1 94 p1.toNatClampNeg, w2))
        else
          if p2 = 3 then
            xg (¬ ((6 + p1) < 0 ∨ 40 ≤ (6 + p1).toNatClampNeg)) (
              some (w2.1 94 (6 + p1).toNatClampNeg, w2))
          else
            if p2 = 4 then
              xg (¬ ((12 + p1) < 0 ∨ 40 ≤ (12 + p1).toNatClampNeg)) (
                some (w2.1 94 (12 + p1).toNatClampNeg, w2))
            else
              if p2 = 5 then
                xg (¬ ((18 + p1) < 0 ∨ 40 ≤ (18 + p1).toNatClampNeg)) (
                  some (w2.1 94 (18 + p1).toNatClampNeg, w2))
              else
                if p2 = 6 then
                  xg (¬ ((24 + p1) < 0 ∨ 40 ≤ (24 + p1).toNatClampNeg)) (
                    some (w2.1 94 (24 + p1).toNatClampNeg, w2))
                else
                  if p2 = 7 then
                    xg (¬ ((30 + p1) < 0 ∨ 40 ≤ (30 + p1).toNatClampNeg)) (
                      some (w2.1 94 (30 + p1).toNatClampNeg, w2))
                  else
                    if p2 = 8 then
                      (f_X12_farOf_60 p1 w2).bind fun w4 =>
                      some (w4, w2)
                    else
                      if p2 = 9 then
                        (f_X12_claimOf_60 p1 w2).bind fun w5 =>
                        some (w5.1, w5.2)
                      else
                        if p2 = 10 then
                          (f_X12_farOf_60 p1 w2).bind fun w6 =>
                          (f_X12_strokesBy_60 p1 w6 w2).bind fun w7 =>
                          some (w7.1, w7.2)
                        else
                          if p2 = 11 then
                            (f_X12_giftsOf_60 p1 w2).bind fun w8 =>
                            some (w8.1, w8.2)
                          else
                            if p2 = 12 then
                              (f_X12_doubtsOf_60 p1 w2).bind fun w9 =>
                              some (w9.1, w9.2)
                            else
                              some ((-1), w2)
set_option maxRecDepth 20000 in
theorem c_X12_person_60 {S : List xSh} (hS : xpf SH2 S) {g : xG} {p1 : Int32} {p2 : Int32} (out : Int32 × xG) (H : f_X12_person_60 p1 p2 g = some out) : xC mX12_person 6 133 0 0 S [.ref 60, .int p1, .int p2] g S (fun r g' => r = some (.int out.1) ∧ g' = out.2) := by
  have H : ((f_X12_isPerson_60 p1 g).bind fun w1 =>
if w1 = 0 then
  some ((-1), g)
else
  (f_X12_copies_60 g).bind fun w2 =>
  if p2 = 0 then
    xg (¬ (((6 * (w2.1 60 18)) + p1) < 0 ∨ 12 ≤ ((6 * (w2.1 60 18)) + p1).toNatClampNeg)) (
      some (w2.1 76 ((6 * (w2.1 60 18)) + p1).toNatClampNeg, w2))
  else
    if p2 = 1 then
      (f_X12_homeAt_60 p1 w2).bind fun w3 =>
      some (w3, w2)
    else
      if p2 = 2 then
        xg (¬ (p1 < 0 ∨ 40 ≤ p1.toNatClampNeg)) (
          some (w2.1 94 p1.toNatClampNeg, w2))
      else
        if p2 = 3 then
          xg (¬ ((6 + p1) < 0 ∨ 40 ≤ (6 + p1).toNatClampNeg)) (
            some (w2.1 94 (6 + p1).toNatClampNeg, w2))
        else
          if p2 = 4 then
            xg (¬ ((12 + p1) < 0 ∨ 40 ≤ (12 + p1).toNatClampNeg)) (
              some (w2.1 94 (12 + p1).toNatClampNeg, w2))
          else
            if p2 = 5 then
              xg (¬ ((18 + p1) < 0 ∨ 40 ≤ (18 + p1).toNatClampNeg)) (
                some (w2.1 94 (18 + p1).toNatClampNeg, w2))
            else
              if p2 = 6 then
                xg (¬ ((24 + p1) < 0 ∨ 40 ≤ (24 + p1).toNatClampNeg)) (
                  some (w2.1 94 (24 + p1).toNatClampNeg, w2))
              else
                if p2 = 7 then
                  xg (¬ ((30 + p1) < 0 ∨ 40 ≤ (30 + p1).toNatClampNeg)) (
                    some (w2.1 94 (30 + p1).toNatClampNeg, w2))
                else
                  if p2 = 8 then
                    (f_X12_farOf_60 p1 w2).bind fun w4 =>
                    some (w4, w2)
                  else
                    if p2 = 9 then
                      (f_X12_claimOf_60 p1 w2).bind fun w5 =>
                      some (w5.1, w5.2)
                    else
                      if p2 = 10 then
                        (f_X12_farOf_60 p1 w2).bind fun w6 =>
                        (f_X12_strokesBy_60 p1 w6 w2).bind fun w7 =>
                        some (w7.1, w7.2)
                      else
                        if p2 = 11 then
                          (f_X12_giftsOf_60 p1 w2).bind fun w8 =>
                          some (w8.1, w8.2)
                        else
                          if p2 = 12 then
                            (f_X12_doubtsOf_60 p1 w2).bind fun w9 =>
                            some (w9.1, w9.2)
                          else
                            some ((-1), w2)) = some out := H
  refine xC.of 12 SH2 [some (.ref 60), some (.int p1), some (.int p2)] hS (by decide +kernel) rfl (fun _ _ => Nat.le_of_ble_eq_true rfl) (fun _ _ => rfl) ?_
  intro k A hR hrm hz
  refine xb A [(.aload_n 0, 1, 0, 0, .null), (.iload_n 1, 1, 0, 0, .null)] (pc' := 2) (ls' := [some (.ref 60), some (.int p1), some (.int p2)]) (st' := [.int p1, .ref 60]) (g' := g) (by decide +kernel) rfl ?_
  obtain ⟨w1, e1, H⟩ := xbind H
  refine xcallV A (ix := 425) (nxt := 5) hrm hz [.int p1] [] 1739 (c_X12_isPerson_60 hS _ e1) ok_X12_isPerson (by decide +kernel) rfl (fun r g1 hq => ?_)
  rw [hq.1, hq.2]
  show xW k S 0 0 5 [some (.ref 60), some (.int p1), some (.int p2)] [.int w1] g
  refine xif_ne A (5) 10 8 (by decide +kernel) (fun h1 => ?_) (fun h1 => ?_)
  · rw [if_neg h1] at H
    refine xb A [(.aload_n 0, 1, 0, 0, .null)] (pc' := 11) (ls' := [some (.ref 60), some (.int p1), some (.int p2)]) (st' := [.ref 60]) (g' := g) (by decide +kernel) rfl ?_
    obtain ⟨w2, e2, H⟩ := xbind H
    refine xcallV A (ix := 320) (nxt := 14) hrm hz [] [] 1699 (c_X12_copies_60 hS _ e2) ok_X12_copies (by decide +kernel) rfl (fun r g1 hq => ?_)
    rw [hq.1, hq.2]
    show xW k S 0 0 14 [some (.ref 60), some (.int p1), some (.int p2)] [] w2
    refine xb A [(.iload_n 2, 1, 0, 0, .null)] (pc' := 15) (ls' := [some (.ref 60), some (.int p1), some (.int p2)]) (st' := [.int p2]) (g' := w2) (by decide +kernel) rfl ?_
    by_cases h2 : p2 = 0
    · rw [if_pos h2] at H
      refine xtabIn A (dflt := 178) (lo := 0) (hi := 12) (off := 65) (offs := #[(65), (80), (86), (93), (103), (113), (123), (133), (143), (149), (155), (166), (172)]) (len := 65) (tgt := 80) (0) (by rw [h2]; rfl) (by decide +kernel) ?_
      refine xb A [(.aload_n 0, 1, 0, 0, .null), (.getfield 64, 3, 60, 29, .ref 76), (.bipush 6, 2, 0, 0, .int 6), (.aload_n 0, 1, 0, 0, .null), (.getfield 227, 3, 60, 18, .int 0), (.imul, 1, 0, 0, .null), (.iload_n 1, 1, 0, 0, .null), (.iadd, 1, 0, 0, .null)] (pc' := 93) (ls' := [some (.ref 60), some (.int p1), some (.int p2)]) (st' := [.int ((6 * (w2.1 60 18)) + p1), .ref 76]) (g' := w2) (by decide +kernel) rfl ?_
      obtain ⟨h3, H⟩ := xg_elim H
      refine xiald A (nxt := 94) (by decide +kernel) (hS _ _ sh_76) h3 ?_
      show xW k S 0 0 94 [some (.ref 60), some (.int p1), some (.int p2)] [.int (w2.1 76 ((6 * (w2.1 60 18)) + p1).toNatClampNeg)] w2
      obtain rfl := Option.some.inj H
      exact xret_i A hR hz (by decide +kernel) rfl ⟨rfl, rfl⟩
    · rw [if_neg h2] at H
      by_cases h4 : p2 = 1
      · rw [if_pos h4] at H
        refine xtabIn A (dflt := 178) (lo := 0) (hi := 12) (off := 80) (offs := #[(65), (80), (86), (93), (103), (113), (123), (133), (143), (149), (155), (166), (172)]) (len := 65) (tgt := 95) (1) (by rw [h4]; rfl) (by decide +kernel) ?_
        refine xb A [(.aload_n 0, 1, 0, 0, .null), (.iload_n 1, 1, 0, 0, .null)] (pc' := 97) (ls' := [some (.ref 60), some (.int p1), some (.int p2)]) (st' := [.int p1, .ref 60]) (g' := w2) (by decide +kernel) rfl ?_
        obtain ⟨w3, e3, H⟩ := xbind H
        refine xcallV A (ix := 339) (nxt := 100) hrm hz [.int p1] [] 1743 (c_X12_homeAt_60 hS _ e3) ok_X12_homeAt (by decide +kernel) rfl (fun r g1 hq => ?_)
        rw [hq.1, hq.2]
        show xW k S 0 0 100 [some (.ref 60), some (.int p1), some (.int p2)] [.int w3] w2
        obtain rfl := Option.some.inj H
        exact xret_i A hR hz (by decide +kernel) rfl ⟨rfl, rfl⟩
      · rw [if_neg h4] at H
        by_cases h5 : p2 = 2
        · rw [if_pos h5] at H
          refine xtabIn A (dflt := 178) (lo := 0) (hi := 12) (off := 86) (offs := #[(65), (80), (86), (93), (103), (113), (123), (133), (143), (149), (155), (166), (172)]) (len := 65) (tgt := 101) (2) (by rw [h5]; rfl) (by decide +kernel) ?_
          refine xb A [(.aload_n 0, 1, 0, 0, .null), (.getfield 119, 3, 60, 51, .ref 94), (.iload_n 1, 1, 0, 0, .null)] (pc' := 106) (ls' := [some (.ref 60), some (.int p1), some (.int p2)]) (st' := [.int p1, .ref 94]) (g' := w2) (by decide +kernel) rfl ?_
          obtain ⟨h6, H⟩ := xg_elim H
          refine xiald A (nxt := 107) (by decide +kernel) (hS _ _ sh_94) h6 ?_
          show xW k S 0 0 107 [some (.ref 60), some (.int p1), some (.int p2)] [.int (w2.1 94 p1.toNatClampNeg)] w2
          obtain rfl := Option.some.inj H
          exact xret_i A hR hz (by decide +kernel) rfl ⟨rfl, rfl⟩
        · rw [if_neg h5] at H
          by_cases h7 : p2 = 3
          · rw [if_pos h7] at H
            refine xtabIn A (dflt := 178) (lo := 0) (hi := 12) (off := 93) (offs := #[(65), (80), (86), (93), (103), (113), (123), (133), (143), (149), (155), (166), (172)]) (len := 65) (tgt := 108) (3) (by rw [h7]; rfl) (by decide +kernel) ?_
            refine xb A [(.aload_n 0, 1, 0, 0, .null), (.getfield 119, 3, 60, 51, .ref 94), (.bipush 6, 2, 0, 0, .int 6), (.iload_n 1, 1, 0, 0, .null), (.iadd, 1, 0, 0, .null)] (pc' := 116) (ls' := [some (.ref 60), some (.int p1), some (.int p2)]) (st' := [.int (6 + p1), .ref 94]) (g' := w2) (by decide +kernel) rfl ?_
            obtain ⟨h8, H⟩ := xg_elim H
            refine xiald A (nxt := 117) (by decide +kernel) (hS _ _ sh_94) h8 ?_
            show xW k S 0 0 117 [some (.ref 60), some (.int p1), some (.int p2)] [.int (w2.1 94 (6 + p1).toNatClampNeg)] w2
            obtain rfl := Option.some.inj H
            exact xret_i A hR hz (by decide +kernel) rfl ⟨rfl, rfl⟩
          · rw [if_neg h7] at H
            by_cases h9 : p2 = 4
            · rw [if_pos h9] at H
              refine xtabIn A (dflt := 178) (lo := 0) (hi := 12) (off := 103) (offs := #[(65), (80), (86), (93), (103), (113), (123), (133), (143), (149), (155), (166), (172)]) (len := 65) (tgt := 118) (4) (by rw [h9]; rfl) (by decide +kernel) ?_
              refine xb A [(.aload_n 0, 1, 0, 0, .null), (.getfield 119, 3, 60, 51, .ref 94), (.bipush 12, 2, 0, 0, .int 12), (.iload_n 1, 1, 0, 0, .null), (.iadd, 1, 0, 0, .null)] (pc' := 126) (ls' := [some (.ref 60), some (.int p1), some (.int p2)]) (st' := [.int (12 + p1), .ref 94]) (g' := w2) (by decide +kernel) rfl ?_
              obtain ⟨h10, H⟩ := xg_elim H
              refine xiald A (nxt := 127) (by decide +kernel) (hS _ _ sh_94) h10 ?_
              show xW k S 0 0 127 [some (.ref 60), some (.int p1), some (.int p2)] [.int (w2.1 94 (12 + p1).toNatClampNeg)] w2
              obtain rfl := Option.some.inj H
              exact xret_i A hR hz (by decide +kernel) rfl ⟨rfl, rfl⟩
            · rw [if_neg h9] at H
              by_cases h11 : p2 = 5
              · rw [if_pos h11] at H
                refine xtabIn A (dflt := 178) (lo := 0) (hi := 12) (off := 113) (offs := #[(65), (80), (86), (93), (103), (113), (123), (133), (143), (149), (155), (166), (172)]) (len := 65) (tgt := 128) (5) (by rw [h11]; rfl) (by decide +kernel) ?_
                refine xb A [(.aload_n 0, 1, 0, 0, .null), (.getfield 119, 3, 60, 51, .ref 94), (.bipush 18, 2, 0, 0, .int 18), (.iload_n 1, 1, 0, 0, .null), (.iadd, 1, 0, 0, .null)] (pc' := 136) (ls' := [some (.ref 60), some (.int p1), some (.int p2)]) (st' := [.int (18 + p1), .ref 94]) (g' := w2) (by decide +kernel) rfl ?_
                obtain ⟨h12, H⟩ := xg_elim H
                refine xiald A (nxt := 137) (by decide +kernel) (hS _ _ sh_94) h12 ?_
                show xW k S 0 0 137 [some (.ref 60), some (.int p1), some (.int p2)] [.int (w2.1 94 (18 + p1).toNatClampNeg)] w2
                obtain rfl := Option.some.inj H
                exact xret_i A hR hz (by decide +kernel) rfl ⟨rfl, rfl⟩
              · rw [if_neg h11] at H
                by_cases h13 : p2 = 6
                · rw [if_pos h13] at H
                  refine xtabIn A (dflt := 178) (lo := 0) (hi := 12) (off := 123) (offs := #[(65), (80), (86), (93), (103), (113), (123), (133), (143), (149), (155), (166), (172)]) (len := 65) (tgt := 138) (6) (by rw [h13]; rfl) (by decide +kernel) ?_
                  refine xb A [(.aload_n 0, 1, 0, 0, .null), (.getfield 119, 3, 60, 51, .ref 94), (.bipush 24, 2, 0, 0, .int 24), (.iload_n 1, 1, 0, 0, .null), (.iadd, 1, 0, 0, .null)] (pc' := 146) (ls' := [some (.ref 60), some (.int p1), some (.int p2)]) (st' := [.int (24 + p1), .ref 94]) (g' := w2) (by decide +kernel) rfl ?_
                  obtain ⟨h14, H⟩ := xg_elim H
                  refine xiald A (nxt := 147) (by decide +kernel) (hS _ _ sh_94) h14 ?_
                  show xW k S 0 0 147 [some (.ref 60), some (.int p1), some (.int p2)] [.int (w2.1 94 (24 + p1).toNatClampNeg)] w2
                  obtain rfl := Option.some.inj H
                  exact xret_i A hR hz (by decide +kernel) rfl ⟨rfl, rfl⟩
                · rw [if_neg h13] at H
                  by_cases h15 : p2 = 7
                  · rw [if_pos h15] at H
                    refine xtabIn A (dflt := 178) (lo := 0) (hi := 12) (off := 133) (offs := #[(65), (80), (86), (93), (103), (113), (123), (133), (143), (149), (155), (166), (172)]) (len := 65) (tgt := 148) (7) (by rw [h15]; rfl) (by decide +kernel) ?_
                    refine xb A [(.aload_n 0, 1, 0, 0, .null), (.getfield 119, 3, 60, 51, .ref 94), (.bipush 30, 2, 0, 0, .int 30), (.iload_n 1, 1, 0, 0, .null), (.iadd, 1, 0, 0, .null)] (pc' := 156) (ls' := [some (.ref 60), some (.int p1), some (.int p2)]) (st' := [.int (30 + p1), .ref 94]) (g' := w2) (by decide +kernel) rfl ?_
                    obtain ⟨h16, H⟩ := xg_elim H
                    refine xiald A (nxt := 157) (by decide +kernel) (hS _ _ sh_94) h16 ?_
                    show xW k S 0 0 157 [some (.ref 60), some (.int p1), some (.int p2)] [.int (w2.1 94 (30 + p1).toNatClampNeg)] w2
                    obtain rfl := Option.some.inj H
                    exact xret_i A hR hz (by decide +kernel) rfl ⟨rfl, rfl⟩
                  · rw [if_neg h15] at H
                    by_cases h17 : p2 = 8
                    · rw [if_pos h17] at H
                      refine xtabIn A (dflt := 178) (lo := 0) (hi := 12) (off := 143) (offs := #[(65), (80), (86), (93), (103), (113), (123), (133), (143), (149), (155), (166), (172)]) (len := 65) (tgt := 158) (8) (by rw [h17]; rfl) (by decide +kernel) ?_
                      refine xb A [(.aload_n 0, 1, 0, 0, .null), (.iload_n 1, 1, 0, 0, .null)] (pc' := 160) (ls' := [some (.ref 60), some (.int p1), some (.int p2)]) (st' := [.int p1, .ref 60]) (g' := w2) (by decide +kernel) rfl ?_
                      obtain ⟨w4, e4, H⟩ := xbind H
                      refine xcallV A (ix := 354) (nxt := 163) hrm hz [.int p1] [] 1747 (c_X12_farOf_60 hS _ e4) ok_X12_farOf (by decide +kernel) rfl (fun r g1 hq => ?_)
                      rw [hq.1, hq.2]
                      show xW k S 0 0 163 [some (.ref 60), some (.int p1), some (.int p2)] [.int w4] w2
                      obtain rfl := Option.some.inj H
                      exact xret_i A hR hz (by decide +kernel) rfl ⟨rfl, rfl⟩
                    · rw [if_neg h17] at H
                      by_cases h18 : p2 = 9
                      · rw [if_pos h18] at H
                        refine xtabIn A (dflt := 178) (lo := 0) (hi := 12) (off := 149) (offs := #[(65), (80), (86), (93), (103), (113), (123), (133), (143), (149), (155), (166), (172)]) (len := 65) (tgt := 164) (9) (by rw [h18]; rfl) (by decide +kernel) ?_
                        refine xb A [(.aload_n 0, 1, 0, 0, .null), (.iload_n 1, 1, 0, 0, .null)] (pc' := 166) (ls' := [some (.ref 60), some (.int p1), some (.int p2)]) (st' := [.int p1, .ref 60]) (g' := w2) (by decide +kernel) rfl ?_
                        obtain ⟨w5, e5, H⟩ := xbind H
                        refine xcallV A (ix := 362) (nxt := 169) hrm hz [.int p1] [] 1751 (c_X12_claimOf_60 hS _ e5) ok_X12_claimOf (by decide +kernel) rfl (fun r g1 hq => ?_)
                        rw [hq.1, hq.2]
                        show xW k S 0 0 169 [some (.ref 60), some (.int p1), some (.int p2)] [.int w5.1] w5.2
                        obtain rfl := Option.some.inj H
                        exact xret_i A hR hz (by decide +kernel) rfl ⟨rfl, rfl⟩
                      · rw [if_neg h18] at H
                        by_cases h19 : p2 = 10
                        · rw [if_pos h19] at H
                          refine xtabIn A (dflt := 178) (lo := 0) (hi := 12) (off := 155) (offs := #[(65), (80), (86), (93), (103), (113), (123), (133), (143), (149), (155), (166), (172)]) (len := 65) (tgt := 170) (10) (by rw [h19]; rfl) (by decide +kernel) ?_
                          refine xb A [(.aload_n 0, 1, 0, 0, .null), (.iload_n 1, 1, 0, 0, .null), (.aload_n 0, 1, 0, 0, .null), (.iload_n 1, 1, 0, 0, .null)] (pc' := 174) (ls' := [some (.ref 60), some (.int p1), some (.int p2)]) (st' := [.int p1, .ref 60, .int p1, .ref 60]) (g' := w2) (by decide +kernel) rfl ?_
                          obtain ⟨w6, e6, H⟩ := xbind H
                          refine xcallV A (ix := 354) (nxt := 177) hrm hz [.int p1] [.int p1, .ref 60] 1747 (c_X12_farOf_60 hS _ e6) ok_X12_farOf (by decide +kernel) rfl (fun r g1 hq => ?_)
                          rw [hq.1, hq.2]
                          show xW k S 0 0 177 [some (.ref 60), some (.int p1), some (.int p2)] [.int w6, .int p1, .ref 60] w2
                          obtain ⟨w7, e7, H⟩ := xbind H
                          refine xcallV A (ix := 400) (nxt := 180) hrm hz [.int p1, .int w6] [] 1785 (c_X12_strokesBy_60 hS _ e7) ok_X12_strokesBy (by decide +kernel) rfl (fun r g1 hq => ?_)
                          rw [hq.1, hq.2]
                          show xW k S 0 0 180 [some (.ref 60), some (.int p1), some (.int p2)] [.int w7.1] w7.2
                          obtain rfl := Option.some.inj H
                          exact xret_i A hR hz (by decide +kernel) rfl ⟨rfl, rfl⟩
                        · rw [if_neg h19] at H
                          by_cases h20 : p2 = 11
                          · rw [if_pos h20] at H
                            refine xtabIn A (dflt := 178) (lo := 0) (hi := 12) (off := 166) (offs := #[(65), (80), (86), (93), (103), (113), (123), (133), (143), (149), (155), (166), (172)]) (len := 65) (tgt := 181) (11) (by rw [h20]; rfl) (by decide +kernel) ?_
                            refine xb A [(.aload_n 0, 1, 0, 0, .null), (.iload_n 1, 1, 0, 0, .null)] (pc' := 183) (ls' := [some (.ref 60), some (.int p1), some (.int p2)]) (st' := [.int p1, .ref 60]) (g' := w2) (by decide +kernel) rfl ?_
                            obtain ⟨w8, e8, H⟩ := xbind H
                            refine xcallV A (ix := 403) (nxt := 186) hrm hz [.int p1] [] 1793 (c_X12_giftsOf_60 hS _ e8) ok_X12_giftsOf (by decide +kernel) rfl (fun r g1 hq => ?_)
                            rw [hq.1, hq.2]
                            show xW k S 0 0 186 [some (.ref 60), some (.int p1), some (.int p2)] [.int w8.1] w8.2
                            obtain rfl := Option.some.inj H
                            exact xret_i A hR hz (by decide +kernel) rfl ⟨rfl, rfl⟩
                          · rw [if_neg h20] at H
                            by_cases h21 : p2 = 12
                            · rw [if_pos h21] at H
                              refine xtabIn A (dflt := 178) (lo := 0) (hi := 12) (off := 172) (offs := #[(65), (80), (86), (93), (103), (113), (123), (133), (143), (149), (155), (166), (172)]) (len := 65) (tgt := 187) (12) (by rw [h21]; rfl) (by decide +kernel) ?_
                              refine xb A [(.aload_n 0, 1, 0, 0, .null), (.iload_n 1, 1, 0, 0, .null)] (pc' := 189) (ls' := [some (.ref 60), some (.int p1), some (.int p2)]) (st' := [.int p1, .ref 60]) (g' := w2) (by decide +kernel) rfl ?_
                              obtain ⟨w9, e9, H⟩ := xbind H
                              refine xcallV A (ix := 397) (nxt := 192) hrm hz [.int p1] [] 1797 (c_X12_doubtsOf_60 hS _ e9) ok_X12_doubtsOf (by decide +kernel) rfl (fun r g1 hq => ?_)
                              rw [hq.1, hq.2]
                              show xW k S 0 0 192 [some (.ref 60), some (.int p1), some (.int p2)] [.int w9.1] w9.2
                              obtain rfl := Option.some.inj H
                              exact xret_i A hR hz (by decide +kernel) rfl ⟨rfl, rfl⟩
                            · rw [if_neg h21] at H
                              refine xtabOut A (dflt := 178) (lo := 0) (hi := 12) (offs := #[(65), (80), (86), (93), (103), (113), (123), (133), (143), (149), (155), (166), (172)]) (len := 65) (tgt := 193) (by decide +kernel) ?_ ?_
                              · have e0 := lv_neT (a := 0) h2 rfl; have e1 := lv_neT (a := 1) h4 rfl; have e2 := lv_neT (a := 2) h5 rfl; have e3 := lv_neT (a := 3) h7 rfl; have e4 := lv_neT (a := 4) h9 rfl; have e5 := lv_neT (a := 5) h11 rfl; have e6 := lv_neT (a := 6) h13 rfl; have e7 := lv_neT (a := 7) h15 rfl; have e8 := lv_neT (a := 8) h17 rfl; have e9 := lv_neT (a := 9) h18 rfl; have e10 := lv_neT (a := 10) h19 rfl; have e11 := lv_neT (a := 11) h20 rfl; have e12 := lv_neT (a := 12) h21 rfl; omega
                              · skip
                                refine xb A [(.iconst (-1), 1, 0, 0, .int (-1))] (pc' := 194) (ls' := [some (.ref 60), some (.int p1), some (.int p2)]) (st' := [.int (-1)]) (g' := w2) (by decide +kernel) rfl ?_
                                obtain rfl := Option.some.inj H
                                exact xret_i A hR hz (by decide +kernel) rfl ⟨rfl, rfl⟩
  · rw [if_pos h1] at H
    refine xb A [(.iconst (-1), 1, 0, 0, .int (-1))] (pc' := 9) (ls' := [some (.ref 60), some (.int p1), some (.int p2)]) (st' := [.int (-1)]) (g' := g) (by decide +kernel) rfl ?_
    obtain rfl := Option.some.inj H
    exact xret_i A hR hz (by decide +kernel) rfl ⟨rfl, rfl⟩
theorem fr_X12_person_60 {p1 : Int32} {p2 : Int32} {g : xG} (out : Int32 × xG) (H : f_X12_person_60 p1 p2 g = some out) : xfrm fp_X12_person_60 g (out.2) := by
  have H : ((f_X12_isPerson_60 p1 g).bind fun w1 =>
if w1 = 0 then
  some ((-1), g)
else
  (f_X12_copies_60 g).bind fun w2 =>
  if p2 = 0 then
    xg (¬ (((6 * (w2.1 60 18)) + p1) < 0 ∨ 12 ≤ ((6 * (w2.1 60 18)) + p1).toNatClampNeg)) (
      some (w2.1 76 ((6 * (w2.1 60 18)) + p1).toNatClampNeg, w2))
  else
    if p2 = 1 then
      (f_X12_homeAt_60 p1 w2).bind fun w3 =>
      some (w3, w2)
    else
      if p2 = 2 then
        xg (¬ (p1 < 0 ∨ 40 ≤ p1.toNatClampNeg)) (
          some (w2.1 94 p1.toNatClampNeg, w2))
      else
        if p2 = 3 then
          xg (¬ ((6 + p1) < 0 ∨ 40 ≤ (6 + p1).toNatClampNeg)) (
            some (w2.1 94 (6 + p1).toNatClampNeg, w2))
        else
          if p2 = 4 then
            xg (¬ ((12 + p1) < 0 ∨ 40 ≤ (12 + p1).toNatClampNeg)) (
              some (w2.1 94 (12 + p1).toNatClampNeg, w2))
          else
            if p2 = 5 then
              xg (¬ ((18 + p1) < 0 ∨ 40 ≤ (18 + p1).toNatClampNeg)) (
                some (w2.1 94 (18 + p1).toNatClampNeg, w2))
            else
              if p2 = 6 then
                xg (¬ ((24 + p1) < 0 ∨ 40 ≤ (24 + p1).toNatClampNeg)) (
                  some (w2.1 94 (24 + p1).toNatClampNeg, w2))
              else
                if p2 = 7 then
                  xg (¬ ((30 + p1) < 0 ∨ 40 ≤ (30 + p1).toNatClampNeg)) (
                    some (w2.1 94 (30 + p1).toNatClampNeg, w2))
                else
                  if p2 = 8 then
                    (f_X12_farOf_60 p1 w2).bind fun w4 =>
                    some (w4, w2)
                  else
                    if p2 = 9 then
                      (f_X12_claimOf_60 p1 w2).bind fun w5 =>
                      some (w5.1, w5.2)
                    else
                      if p2 = 10 then
                        (f_X12_farOf_60 p1 w2).bind fun w6 =>
                        (f_X12_strokesBy_60 p1 w6 w2).bind fun w7 =>
                        some (w7.1, w7.2)
                      else
                        if p2 = 11 then
                          (f_X12_giftsOf_60 p1 w2).bind fun w8 =>
                          some (w8.1, w8.2)
                        else
                          if p2 = 12 then
                            (f_X12_doubtsOf_60 p1 w2).bind fun w9 =>
                            some (w9.1, w9.2)
                          else
                            some ((-1), w2)) = some out := H
  obtain ⟨w1, e1, H⟩ := xbind H
  by_cases h1 : w1 = 0
  · rw [if_pos h1] at H
    obtain rfl := Option.some.inj H
    exact xfrm.rf
  · rw [if_neg h1] at H
    obtain ⟨w2, e2, H⟩ := xbind H
    have hf1 : xfrm fp_X12_person_60 g (w2) := xfrm.tr xfrm.rf (fr_X12_copies_60 _ e2) rfl
    by_cases h2 : p2 = 0
    · rw [if_pos h2] at H
      obtain ⟨h3, H⟩ := xg_elim H
      obtain rfl := Option.some.inj H
      exact hf1
    · rw [if_neg h2] at H
      by_cases h4 : p2 = 1
      · rw [if_pos h4] at H
        obtain ⟨w3, e3, H⟩ := xbind H
        obtain rfl := Option.some.inj H
        exact hf1
      · rw [if_neg h4] at H
        by_cases h5 : p2 = 2
        · rw [if_pos h5] at H
          obtain ⟨h6, H⟩ := xg_elim H
          obtain rfl := Option.some.inj H
          exact hf1
        · rw [if_neg h5] at H
          by_cases h7 : p2 = 3
          · rw [if_pos h7] at H
            obtain ⟨h8, H⟩ := xg_elim H
            obtain rfl := Option.some.inj H
            exact hf1
          · rw [if_neg h7] at H
            by_cases h9 : p2 = 4
            · rw [if_pos h9] at H
              obtain ⟨h10, H⟩ := xg_elim H
              obtain rfl := Option.some.inj H
              exact hf1
            · rw [if_neg h9] at H
              by_cases h11 : p2 = 5
              · rw [if_pos h11] at H
                obtain ⟨h12, H⟩ := xg_elim H
                obtain rfl := Option.some.inj H
                exact hf1
              · rw [if_neg h11] at H
                by_cases h13 : p2 = 6
                · rw [if_pos h13] at H
                  obtain ⟨h14, H⟩ := xg_elim H
                  obtain rfl := Option.some.inj H
                  exact hf1
                · rw [if_neg h13] at H
                  by_cases h15 : p2 = 7
                  · rw [if_pos h15] at H
                    obtain ⟨h16, H⟩ := xg_elim H
                    obtain rfl := Option.some.inj H
                    exact hf1
                  · rw [if_neg h15] at H
                    by_cases h17 : p2 = 8
                    · rw [if_pos h17] at H
                      obtain ⟨w4, e4, H⟩ := xbind H
                      obtain rfl := Option.some.inj H
                      exact hf1
                    · rw [if_neg h17] at H
                      by_cases h18 : p2 = 9
                      · rw [if_pos h18] at H
                        obtain ⟨w5, e5, H⟩ := xbind H
                        have hf2 : xfrm fp_X12_person_60 g (w5.2) := xfrm.tr hf1 (fr_X12_claimOf_60 _ e5) rfl
                        obtain rfl := Option.some.inj H
                        exact hf2
                      · rw [if_neg h18] at H
                        by_cases h19 : p2 = 10
                        · rw [if_pos h19] at H
                          obtain ⟨w6, e6, H⟩ := xbind H
                          obtain ⟨w7, e7, H⟩ := xbind H
                          have hf3 : xfrm fp_X12_person_60 g (w7.2) := xfrm.tr hf1 (fr_X12_strokesBy_60 _ e7) rfl
                          obtain rfl := Option.some.inj H
                          exact hf3
                        · rw [if_neg h19] at H
                          by_cases h20 : p2 = 11
                          · rw [if_pos h20] at H
                            obtain ⟨w8, e8, H⟩ := xbind H
                            have hf4 : xfrm fp_X12_person_60 g (w8.2) := xfrm.tr hf1 (fr_X12_giftsOf_60 _ e8) rfl
                            obtain rfl := Option.some.inj H
                            exact hf4
                          · rw [if_neg h20] at H
                            by_cases h21 : p2 = 12
                            · rw [if_pos h21] at H
                              obtain ⟨w9, e9, H⟩ := xbind H
                              have hf5 : xfrm fp_X12_person_60 g (w9.2) := xfrm.tr hf1 (fr_X12_doubtsOf_60 _ e9) rfl
                              obtain rfl := Option.some.inj H
                              exact hf5
                            · rw [if_neg h21] at H
                              obtain rfl := Option.some.inj H
                              exact hf1
def fp_X12_records_60 : List (Nat × Option Nat) := [(60, some 55), (93, none), (96, none)]
def f_X12_records_60_51  : Nat → Int32 → xG → Option (xG)
  | 0, _, _ => none
  | n + 1, l1, g =>
    if 40 ≤ l1 then
      (f_X12_keepsRow_60 (xupd g.1 60 55 ((g.1 60 55) + 1), g.2)).bind fun w1 =>
      some w1
    else
      xg (¬ (l1 < 0 ∨ 40 ≤ l1.toNatClampNeg)) (
        xg (¬ (((40 * (g.1 60 55)) + l1) < 0 ∨ 1600 ≤ ((40 * (g.1 60 55)) + l1).toNatClampNeg)) (
          f_X12_records_60_51 n (l1 + 1) (xupd g.1 96 ((40 * (g.1 60 55)) + l1).toNatClampNeg (g.1 93 l1.toNatClampNeg), g.2)))
def f_X12_records_60_11  : Nat → Int32 → xG → Option (xG)
  | 0, _, _ => none
  | n + 1, l1, g =>
    if 1560 ≤ l1 then
      f_X12_records_60_51 xN 0 (xupd g.1 60 55 ((g.1 60 55) - 1), g.2)
    else
      xg (¬ ((l1 + 40) < 0 ∨ 1600 ≤ (l1 + 40).toNatClampNeg)) (
        xg (¬ (l1 < 0 ∨ 1600 ≤ l1.toNatClampNeg)) (
          f_X12_records_60_11 n (l1 + 1) (xupd g.1 96 l1.toNatClampNeg (g.1 96 (l1 + 40).toNatClampNeg), g.2)))
def f_X12_records_60  (g : xG) : Option (xG) :=
  if (g.1 60 55) = 40 then
    f_X12_records_60_11 xN 0 g
  else
    f_X12_records_60_51 xN 0 g
set_option maxRecDepth 20000 in
theorem t_X12_records_60_51 {k : xK} {S : List xSh} {out : xG} (hS : xpf SH2 S) (A : xAt k mX12_records.2.1 12 SH2 S) (hR : xRet k 0 0 S (fun r g' => r = none ∧ g' = out) mX12_records.2.2.2) (hrm : xrm k = { frames := 1, cells := 0, slots := 0, locals := 21 }) (hz : xhs k = xb0 k + S.length)   : ∀ (n : Nat) (l1 : Int32) (g : xG), f_X12_records_60_51 n l1 g = some out → xW k S 0 0 51 [some (.ref 60), some (.int l1)] [] g := by
  intro n
  induction n with
  | zero => intro l1 g H; exact absurd H (by simp [f_X12_records_60_51])
  | succ n ih =>
    intro l1 g H
    have H : (if 40 ≤ l1 then
  (f_X12_keepsRow_60 (xupd g.1 60 55 ((g.1 60 55) + 1), g.2)).bind fun w1 =>
  some w1
else
  xg (¬ (l1 < 0 ∨ 40 ≤ l1.toNatClampNeg)) (
    xg (¬ (((40 * (g.1 60 55)) + l1) < 0 ∨ 1600 ≤ ((40 * (g.1 60 55)) + l1).toNatClampNeg)) (
      f_X12_records_60_51 n (l1 + 1) (xupd g.1 96 ((40 * (g.1 60 55)) + l1).toNatClampNeg (g.1 93 l1.toNatClampNeg), g.2)))) = some out := H
    refine xb A [(.iload_n 1, 1, 0, 0, .null), (.bipush 40, 2, 0, 0, .int 40)] (pc' := 54) (ls' := [some (.ref 60), some (.int l1)]) (st' := [.int 40, .int l1]) (g' := g) (by decide +kernel) rfl ?_
    refine xic_ge A (29) 83 57 (by decide +kernel) (fun h2 => ?_) (fun h2 => ?_)
    · rw [if_pos h2] at H
      refine xb A [(.aload_n 0, 1, 0, 0, .null), (.dup, 1, 0, 0, .null), (.getfield 245, 3, 60, 55, .int 0), (.iconst 1, 1, 0, 0, .int 1), (.iadd, 1, 0, 0, .null), (.putfield 245, 3, 60, 55, .int 0), (.aload_n 0, 1, 0, 0, .null)] (pc' := 94) (ls' := [some (.ref 60), some (.int l1)]) (st' := [.ref 60]) (g' := (xupd g.1 60 55 ((g.1 60 55) + 1), g.2)) (by decide +kernel) rfl ?_
      obtain ⟨w1, e1, H⟩ := xbind H
      refine xcallV A (ix := 157) (nxt := 97) hrm hz [] [] 1374 (c_X12_keepsRow_60 hS _ e1) ok_X12_keepsRow (by decide +kernel) rfl (fun r g1 hq => ?_)
      rw [hq.1, hq.2]
      show xW k S 0 0 97 [some (.ref 60), some (.int l1)] [] w1
      obtain rfl := Option.some.inj H
      exact xret_v A hR hz (by decide +kernel) ⟨rfl, rfl⟩
    · rw [if_neg h2] at H
      refine xb A [(.aload_n 0, 1, 0, 0, .null), (.getfield 125, 3, 60, 56, .ref 96), (.bipush 40, 2, 0, 0, .int 40), (.aload_n 0, 1, 0, 0, .null), (.getfield 245, 3, 60, 55, .int 0), (.imul, 1, 0, 0, .null), (.iload_n 1, 1, 0, 0, .null), (.iadd, 1, 0, 0, .null), (.aload_n 0, 1, 0, 0, .null), (.getfield 116, 3, 60, 50, .ref 93), (.iload_n 1, 1, 0, 0, .null)] (pc' := 75) (ls' := [some (.ref 60), some (.int l1)]) (st' := [.int l1, .ref 93, .int ((40 * (g.1 60 55)) + l1), .ref 96]) (g' := g) (by decide +kernel) rfl ?_
      obtain ⟨h3, H⟩ := xg_elim H
      refine xiald A (nxt := 76) (by decide +kernel) (hS _ _ sh_93) h3 ?_
      show xW k S 0 0 76 [some (.ref 60), some (.int l1)] [.int (g.1 93 l1.toNatClampNeg), .int ((40 * (g.1 60 55)) + l1), .ref 96] g
      obtain ⟨h4, H⟩ := xg_elim H
      refine xiast A (nxt := 77) (by decide +kernel) (hS _ _ sh_96) h4 ?_
      show xW k S 0 0 77 [some (.ref 60), some (.int l1)] [] (xupd g.1 96 ((40 * (g.1 60 55)) + l1).toNatClampNeg (g.1 93 l1.toNatClampNeg), g.2)
      refine xb A [(.iinc 1 1, 3, 0, 0, .null)] (pc' := 80) (ls' := [some (.ref 60), some (.int (l1 + 1))]) (st' := []) (g' := (xupd g.1 96 ((40 * (g.1 60 55)) + l1).toNatClampNeg (g.1 93 l1.toNatClampNeg), g.2)) (by decide +kernel) rfl ?_
      refine xgoto A (-29) 51 (by decide +kernel) ?_
      exact ih _ _ H
theorem fr_X12_records_60_51   : ∀ (n : Nat) (l1 : Int32) (g : xG) (out : xG), f_X12_records_60_51 n l1 g = some out → xfrm fp_X12_records_60 g (out) := by
  intro n
  induction n with
  | zero => intro l1 g out H; exact absurd H (by simp [f_X12_records_60_51])
  | succ n ih =>
    intro l1 g out H
    have H : (if 40 ≤ l1 then
  (f_X12_keepsRow_60 (xupd g.1 60 55 ((g.1 60 55) + 1), g.2)).bind fun w1 =>
  some w1
else
  xg (¬ (l1 < 0 ∨ 40 ≤ l1.toNatClampNeg)) (
    xg (¬ (((40 * (g.1 60 55)) + l1) < 0 ∨ 1600 ≤ ((40 * (g.1 60 55)) + l1).toNatClampNeg)) (
      f_X12_records_60_51 n (l1 + 1) (xupd g.1 96 ((40 * (g.1 60 55)) + l1).toNatClampNeg (g.1 93 l1.toNatClampNeg), g.2)))) = some out := H
    by_cases h2 : 40 ≤ l1
    · rw [if_pos h2] at H
      have hf1 : xfrm fp_X12_records_60 g ((xupd g.1 60 55 ((g.1 60 55) + 1), g.2)) := xfrm.up xfrm.rf rfl
      obtain ⟨w1, e1, H⟩ := xbind H
      have hf2 : xfrm fp_X12_records_60 g (w1) := xfrm.tr hf1 (fr_X12_keepsRow_60 _ e1) rfl
      obtain rfl := Option.some.inj H
      exact hf2
    · rw [if_neg h2] at H
      obtain ⟨h3, H⟩ := xg_elim H
      obtain ⟨h4, H⟩ := xg_elim H
      have hf3 : xfrm fp_X12_records_60 g ((xupd g.1 96 ((40 * (g.1 60 55)) + l1).toNatClampNeg (g.1 93 l1.toNatClampNeg), g.2)) := xfrm.ua xfrm.rf rfl
      exact xfrm.tr hf3 (ih _ _ _ H) rfl
set_option maxRecDepth 20000 in
theorem t_X12_records_60_11 {k : xK} {S : List xSh} {out : xG} (hS : xpf SH2 S) (A : xAt k mX12_records.2.1 12 SH2 S) (hR : xRet k 0 0 S (fun r g' => r = none ∧ g' = out) mX12_records.2.2.2) (hrm : xrm k = { frames := 1, cells := 0, slots := 0, locals := 21 }) (hz : xhs k = xb0 k + S.length)   : ∀ (n : Nat) (l1 : Int32) (g : xG), f_X12_records_60_11 n l1 g = some out → xW k S 0 0 11 [some (.ref 60), some (.int l1)] [] g := by
  intro n
  induction n with
  | zero => intro l1 g H; exact absurd H (by simp [f_X12_records_60_11])
  | succ n ih =>
    intro l1 g H
    have H : (if 1560 ≤ l1 then
  f_X12_records_60_51 xN 0 (xupd g.1 60 55 ((g.1 60 55) - 1), g.2)
else
  xg (¬ ((l1 + 40) < 0 ∨ 1600 ≤ (l1 + 40).toNatClampNeg)) (
    xg (¬ (l1 < 0 ∨ 1600 ≤ l1.toNatClampNeg)) (
      f_X12_records_60_11 n (l1 + 1) (xupd g.1 96 l1.toNatClampNeg (g.1 96 (l1 + 40).toNatClampNeg), g.2)))) = some out := H
    refine xb A [(.iload_n 1, 1, 0, 0, .null), (.sipush 1560, 3, 0, 0, .int 1560)] (pc' := 15) (ls' := [some (.ref 60), some (.int l1)]) (st' := [.int 1560, .int l1]) (g' := g) (by decide +kernel) rfl ?_
    refine xic_ge A (24) 39 18 (by decide +kernel) (fun h5 => ?_) (fun h5 => ?_)
    · rw [if_pos h5] at H
      refine xb A [(.aload_n 0, 1, 0, 0, .null), (.dup, 1, 0, 0, .null), (.getfield 245, 3, 60, 55, .int 0), (.iconst 1, 1, 0, 0, .int 1), (.isub, 1, 0, 0, .null), (.putfield 245, 3, 60, 55, .int 0), (.iconst 0, 1, 0, 0, .int 0), (.istore_n 1, 1, 0, 0, .null)] (pc' := 51) (ls' := [some (.ref 60), some (.int 0)]) (st' := []) (g' := (xupd g.1 60 55 ((g.1 60 55) - 1), g.2)) (by decide +kernel) rfl ?_
      exact t_X12_records_60_51 hS A hR hrm hz _ _ _ H
    · rw [if_neg h5] at H
      refine xb A [(.aload_n 0, 1, 0, 0, .null), (.getfield 125, 3, 60, 56, .ref 96), (.iload_n 1, 1, 0, 0, .null), (.aload_n 0, 1, 0, 0, .null), (.getfield 125, 3, 60, 56, .ref 96), (.iload_n 1, 1, 0, 0, .null), (.bipush 40, 2, 0, 0, .int 40), (.iadd, 1, 0, 0, .null)] (pc' := 31) (ls' := [some (.ref 60), some (.int l1)]) (st' := [.int (l1 + 40), .ref 96, .int l1, .ref 96]) (g' := g) (by decide +kernel) rfl ?_
      obtain ⟨h6, H⟩ := xg_elim H
      refine xiald A (nxt := 32) (by decide +kernel) (hS _ _ sh_96) h6 ?_
      show xW k S 0 0 32 [some (.ref 60), some (.int l1)] [.int (g.1 96 (l1 + 40).toNatClampNeg), .int l1, .ref 96] g
      obtain ⟨h7, H⟩ := xg_elim H
      refine xiast A (nxt := 33) (by decide +kernel) (hS _ _ sh_96) h7 ?_
      show xW k S 0 0 33 [some (.ref 60), some (.int l1)] [] (xupd g.1 96 l1.toNatClampNeg (g.1 96 (l1 + 40).toNatClampNeg), g.2)
      refine xb A [(.iinc 1 1, 3, 0, 0, .null)] (pc' := 36) (ls' := [some (.ref 60), some (.int (l1 + 1))]) (st' := []) (g' := (xupd g.1 96 l1.toNatClampNeg (g.1 96 (l1 + 40).toNatClampNeg), g.2)) (by decide +kernel) rfl ?_
      refine xgoto A (-25) 11 (by decide +kernel) ?_
      exact ih _ _ H
theorem fr_X12_records_60_11   : ∀ (n : Nat) (l1 : Int32) (g : xG) (out : xG), f_X12_records_60_11 n l1 g = some out → xfrm fp_X12_records_60 g (out) := by
  intro n
  induction n with
  | zero => intro l1 g out H; exact absurd H (by simp [f_X12_records_60_11])
  | succ n ih =>
    intro l1 g out H
    have H : (if 1560 ≤ l1 then
  f_X12_records_60_51 xN 0 (xupd g.1 60 55 ((g.1 60 55) - 1), g.2)
else
  xg (¬ ((l1 + 40) < 0 ∨ 1600 ≤ (l1 + 40).toNatClampNeg)) (
    xg (¬ (l1 < 0 ∨ 1600 ≤ l1.toNatClampNeg)) (
      f_X12_records_60_11 n (l1 + 1) (xupd g.1 96 l1.toNatClampNeg (g.1 96 (l1 + 40).toNatClampNeg), g.2)))) = some out := H
    by_cases h5 : 1560 ≤ l1
    · rw [if_pos h5] at H
      have hf4 : xfrm fp_X12_records_60 g ((xupd g.1 60 55 ((g.1 60 55) - 1), g.2)) := xfrm.up xfrm.rf rfl
      exact xfrm.tr hf4 (fr_X12_records_60_51 _ _ _ _ H) rfl
    · rw [if_neg h5] at H
      obtain ⟨h6, H⟩ := xg_elim H
      obtain ⟨h7, H⟩ := xg_elim H
      have hf5 : xfrm fp_X12_records_60 g ((xupd g.1 96 l1.toNatClampNeg (g.1 96 (l1 + 40).toNatClampNeg), g.2)) := xfrm.ua xfrm.rf rfl
      exact xfrm.tr hf5 (ih _ _ _ H) rfl
set_option maxRecDepth 20000 in
theorem c_X12_records_60 {S : List xSh} (hS : xpf SH2 S) {g : xG}  (out : xG) (H : f_X12_records_60  g = some out) : xC mX12_records 1 21 0 0 S [.ref 60] g S (fun r g' => r = none ∧ g' = out) := by
  have H : (if (g.1 60 55) = 40 then
  f_X12_records_60_11 xN 0 g
else
  f_X12_records_60_51 xN 0 g) = some out := H
  refine xC.of 12 SH2 [some (.ref 60), none] hS (by decide +kernel) rfl (fun _ _ => Nat.le_of_ble_eq_true rfl) (fun _ _ => rfl) ?_
  intro k A hR hrm hz
  refine xb A [(.aload_n 0, 1, 0, 0, .null), (.getfield 245, 3, 60, 55, .int 0), (.bipush 40, 2, 0, 0, .int 40)] (pc' := 6) (ls' := [some (.ref 60), none]) (st' := [.int 40, .int (g.1 60 55)]) (g' := g) (by decide +kernel) rfl ?_
  refine xic_ne A (43) 49 9 (by decide +kernel) (fun h1 => ?_) (fun h1 => ?_)
  · rw [if_neg h1] at H
    refine xb A [(.iconst 0, 1, 0, 0, .int 0), (.istore_n 1, 1, 0, 0, .null)] (pc' := 51) (ls' := [some (.ref 60), some (.int 0)]) (st' := []) (g' := g) (by decide +kernel) rfl ?_
    exact t_X12_records_60_51 hS A hR hrm hz _ _ _ H
  · rw [if_pos h1] at H
    refine xb A [(.iconst 0, 1, 0, 0, .int 0), (.istore_n 1, 1, 0, 0, .null)] (pc' := 11) (ls' := [some (.ref 60), some (.int 0)]) (st' := []) (g' := g) (by decide +kernel) rfl ?_
    exact t_X12_records_60_11 hS A hR hrm hz _ _ _ H
theorem fr_X12_records_60  {g : xG} (out : xG) (H : f_X12_records_60  g = some out) : xfrm fp_X12_records_60 g (out) := by
  have H : (if (g.1 60 55) = 40 then
  f_X12_records_60_11 xN 0 g
else
  f_X12_records_60_51 xN 0 g) = some out := H
  by_cases h1 : (g.1 60 55) = 40
  · rw [if_pos h1] at H
    exact xfrm.tr xfrm.rf (fr_X12_records_60_11 _ _ _ _ H) rfl
  · rw [if_neg h1] at H
    exact xfrm.tr xfrm.rf (fr_X12_records_60_51 _ _ _ _ H) rfl
def fp_X12_does_60 : List (Nat × Option Nat) := [(60, some 52), (60, some 53), (60, some 55), (93, none), (94, none), (95, none), (96, none)]
def f_X12_does_60 (p1 : Int32) (p2 : Int32) (g : xG) : Option (Int32 × xG) :=
  (f_X12_copies_60 g).bind fun w1 =>
  xg (¬ (p1 < 0 ∨ 40 ≤ p1.toNatClampNeg)) (
    (f_X12_records_60 (xupd w1.1 94 p1.toNatClampNeg p2, w1.2)).bind fun w2 =>
    some (1, w2))
set_option maxRecDepth 20000 in
theorem c_X12_does_60 {S : List xSh} (hS : xpf SH2 S) {g : xG} {p1 : Int32} {p2 : Int32} (out : Int32 × xG) (H : f_X12_does_60 p1 p2 g = some out) : xC mX12_does 2 44 0 0 S [.ref 60, .int p1, .int p2] g S (fun r g' => r = some (.int out.1) ∧ g' = out.2) := by
  have H : ((f_X12_copies_60 g).bind fun w1 =>
xg (¬ (p1 < 0 ∨ 40 ≤ p1.toNatClampNeg)) (
  (f_X12_records_60 (xupd w1.1 94 p1.toNatClampNeg p2, w1.2)).bind fun w2 =>
  some (1, w2))) = some out := H
  refine xC.of 12 SH2 [some (.ref 60), some (.int p1), some (.int p2)] hS (by decide +kernel) rfl (fun _ _ => Nat.le_of_ble_eq_true rfl) (fun _ _ => rfl) ?_
  intro k A hR hrm hz
  refine xb A [(.aload_n 0, 1, 0, 0, .null)] (pc' := 1) (ls' := [some (.ref 60), some (.int p1), some (.int p2)]) (st' := [.ref 60]) (g' := g) (by decide +kernel) rfl ?_
  obtain ⟨w1, e1, H⟩ := xbind H
  refine xcallV A (ix := 320) (nxt := 4) hrm hz [] [] 1699 (c_X12_copies_60 hS _ e1) ok_X12_copies (by decide +kernel) rfl (fun r g1 hq => ?_)
  rw [hq.1, hq.2]
  show xW k S 0 0 4 [some (.ref 60), some (.int p1), some (.int p2)] [] w1
  refine xb A [(.aload_n 0, 1, 0, 0, .null), (.getfield 119, 3, 60, 51, .ref 94), (.iload_n 1, 1, 0, 0, .null), (.iload_n 2, 1, 0, 0, .null)] (pc' := 10) (ls' := [some (.ref 60), some (.int p1), some (.int p2)]) (st' := [.int p2, .int p1, .ref 94]) (g' := w1) (by decide +kernel) rfl ?_
  obtain ⟨h1, H⟩ := xg_elim H
  refine xiast A (nxt := 11) (by decide +kernel) (hS _ _ sh_94) h1 ?_
  show xW k S 0 0 11 [some (.ref 60), some (.int p1), some (.int p2)] [] (xupd w1.1 94 p1.toNatClampNeg p2, w1.2)
  refine xb A [(.aload_n 0, 1, 0, 0, .null)] (pc' := 12) (ls' := [some (.ref 60), some (.int p1), some (.int p2)]) (st' := [.ref 60]) (g' := (xupd w1.1 94 p1.toNatClampNeg p2, w1.2)) (by decide +kernel) rfl ?_
  obtain ⟨w2, e2, H⟩ := xbind H
  refine xcallV A (ix := 428) (nxt := 15) hrm hz [] [] 1809 (c_X12_records_60 hS _ e2) ok_X12_records (by decide +kernel) rfl (fun r g1 hq => ?_)
  rw [hq.1, hq.2]
  show xW k S 0 0 15 [some (.ref 60), some (.int p1), some (.int p2)] [] w2
  refine xb A [(.iconst 1, 1, 0, 0, .int 1)] (pc' := 16) (ls' := [some (.ref 60), some (.int p1), some (.int p2)]) (st' := [.int 1]) (g' := w2) (by decide +kernel) rfl ?_
  obtain rfl := Option.some.inj H
  exact xret_i A hR hz (by decide +kernel) rfl ⟨rfl, rfl⟩
theorem fr_X12_does_60 {p1 : Int32} {p2 : Int32} {g : xG} (out : Int32 × xG) (H : f_X12_does_60 p1 p2 g = some out) : xfrm fp_X12_does_60 g (out.2) := by
  have H : ((f_X12_copies_60 g).bind fun w1 =>
xg (¬ (p1 < 0 ∨ 40 ≤ p1.toNatClampNeg)) (
  (f_X12_records_60 (xupd w1.1 94 p1.toNatClampNeg p2, w1.2)).bind fun w2 =>
  some (1, w2))) = some out := H
  obtain ⟨w1, e1, H⟩ := xbind H
  have hf1 : xfrm fp_X12_does_60 g (w1) := xfrm.tr xfrm.rf (fr_X12_copies_60 _ e1) rfl
  obtain ⟨h1, H⟩ := xg_elim H
  have hf2 : xfrm fp_X12_does_60 g ((xupd w1.1 94 p1.toNatClampNeg p2, w1.2)) := xfrm.ua hf1 rfl
  obtain ⟨w2, e2, H⟩ := xbind H
  have hf3 : xfrm fp_X12_does_60 g (w2) := xfrm.tr hf2 (fr_X12_records_60 _ e2) rfl
  obtain rfl := Option.some.inj H
  exact hf3
def fp_X12_send_60 : List (Nat × Option Nat) := [(60, some 52), (60, some 53), (60, some 55), (93, none), (94, none), (95, none), (96, none)]
def f_X12_send_60_34  (l1 : Int32) (s0 : Int32) (g : xG) : Option (Int32 × xG) :=
  xg (¬ ((6 + l1) < 0 ∨ 40 ≤ (6 + l1).toNatClampNeg)) (
    if (g.1 93 (6 + l1).toNatClampNeg) = s0 then
      some (0, g)
    else
      xg (¬ (l1 < 0 ∨ 40 ≤ l1.toNatClampNeg)) (
        if (g.1 93 l1.toNatClampNeg) = s0 then
          some (0, g)
        else
          (f_X12_does_60 (6 + l1) s0 g).bind fun w2 =>
          if w2.1 = 0 then
            some (0, w2.2)
          else
            some (1, w2.2)))
def f_X12_send_60_23  (l1 : Int32) (l2 : Int32) (g : xG) : Option (Int32 × xG) :=
  if l2 = (-1) then
    f_X12_send_60_34 l1 (-2) g
  else
    f_X12_send_60_34 l1 l2 g
def f_X12_send_60 (p1 : Int32) (p2 : Int32) (g : xG) : Option (Int32 × xG) :=
  (f_X12_isPerson_60 p1 g).bind fun w1 =>
  if w1 = 0 then
    some (0, g)
  else
    if p2 = (-1) then
      f_X12_send_60_23 p1 p2 g
    else
      (f_X12_isTown_60 p2 g).bind fun w3 =>
      if w3 = 0 then
        some (0, g)
      else
        f_X12_send_60_23 p1 p2 g
set_option maxRecDepth 20000 in
theorem t_X12_send_60_34 {k : xK} {S : List xSh} {out : Int32 × xG} (hS : xpf SH2 S) (A : xAt k mX12_send.2.1 12 SH2 S) (hR : xRet k 0 0 S (fun r g' => r = some (.int out.1) ∧ g' = out.2) mX12_send.2.2.2) (hrm : xrm k = { frames := 3, cells := 0, slots := 0, locals := 66 }) (hz : xhs k = xb0 k + S.length)   : ∀ (l1 : Int32) (s0 : Int32) (g : xG), f_X12_send_60_34 l1 s0 g = some out → xW k S 0 0 34 [some (.ref 60), some (.int l1), none, none] [.int s0] g := by
  intro l1 s0 g H
  have H : (xg (¬ ((6 + l1) < 0 ∨ 40 ≤ (6 + l1).toNatClampNeg)) (
  if (g.1 93 (6 + l1).toNatClampNeg) = s0 then
    some (0, g)
  else
    xg (¬ (l1 < 0 ∨ 40 ≤ l1.toNatClampNeg)) (
      if (g.1 93 l1.toNatClampNeg) = s0 then
        some (0, g)
      else
        (f_X12_does_60 (6 + l1) s0 g).bind fun w2 =>
        if w2.1 = 0 then
          some (0, w2.2)
        else
          some (1, w2.2)))) = some out := H
  refine xb A [(.istore_n 3, 1, 0, 0, .null), (.aload_n 0, 1, 0, 0, .null), (.getfield 116, 3, 60, 50, .ref 93), (.bipush 6, 2, 0, 0, .int 6), (.iload_n 1, 1, 0, 0, .null), (.iadd, 1, 0, 0, .null)] (pc' := 43) (ls' := [some (.ref 60), some (.int l1), none, some (.int s0)]) (st' := [.int (6 + l1), .ref 93]) (g' := g) (by decide +kernel) rfl ?_
  obtain ⟨h4, H⟩ := xg_elim H
  refine xiald A (nxt := 44) (by decide +kernel) (hS _ _ sh_93) h4 ?_
  show xW k S 0 0 44 [some (.ref 60), some (.int l1), none, some (.int s0)] [.int (g.1 93 (6 + l1).toNatClampNeg)] g
  refine xb A [(.iload_n 3, 1, 0, 0, .null)] (pc' := 45) (ls' := [some (.ref 60), some (.int l1), none, some (.int s0)]) (st' := [.int s0, .int (g.1 93 (6 + l1).toNatClampNeg)]) (g' := g) (by decide +kernel) rfl ?_
  refine xic_eq A (29) 74 48 (by decide +kernel) (fun h5 => ?_) (fun h5 => ?_)
  · rw [if_pos h5] at H
    refine xb A [(.iconst 0, 1, 0, 0, .int 0)] (pc' := 75) (ls' := [some (.ref 60), some (.int l1), none, some (.int s0)]) (st' := [.int 0]) (g' := g) (by decide +kernel) rfl ?_
    obtain rfl := Option.some.inj H
    exact xret_i A hR hz (by decide +kernel) rfl ⟨rfl, rfl⟩
  · rw [if_neg h5] at H
    refine xb A [(.aload_n 0, 1, 0, 0, .null), (.getfield 116, 3, 60, 50, .ref 93), (.iload_n 1, 1, 0, 0, .null)] (pc' := 53) (ls' := [some (.ref 60), some (.int l1), none, some (.int s0)]) (st' := [.int l1, .ref 93]) (g' := g) (by decide +kernel) rfl ?_
    obtain ⟨h6, H⟩ := xg_elim H
    refine xiald A (nxt := 54) (by decide +kernel) (hS _ _ sh_93) h6 ?_
    show xW k S 0 0 54 [some (.ref 60), some (.int l1), none, some (.int s0)] [.int (g.1 93 l1.toNatClampNeg)] g
    refine xb A [(.iload_n 3, 1, 0, 0, .null)] (pc' := 55) (ls' := [some (.ref 60), some (.int l1), none, some (.int s0)]) (st' := [.int s0, .int (g.1 93 l1.toNatClampNeg)]) (g' := g) (by decide +kernel) rfl ?_
    refine xic_eq A (19) 74 58 (by decide +kernel) (fun h7 => ?_) (fun h7 => ?_)
    · rw [if_pos h7] at H
      refine xb A [(.iconst 0, 1, 0, 0, .int 0)] (pc' := 75) (ls' := [some (.ref 60), some (.int l1), none, some (.int s0)]) (st' := [.int 0]) (g' := g) (by decide +kernel) rfl ?_
      obtain rfl := Option.some.inj H
      exact xret_i A hR hz (by decide +kernel) rfl ⟨rfl, rfl⟩
    · rw [if_neg h7] at H
      refine xb A [(.aload_n 0, 1, 0, 0, .null), (.bipush 6, 2, 0, 0, .int 6), (.iload_n 1, 1, 0, 0, .null), (.iadd, 1, 0, 0, .null), (.iload_n 3, 1, 0, 0, .null)] (pc' := 64) (ls' := [some (.ref 60), some (.int l1), none, some (.int s0)]) (st' := [.int s0, .int (6 + l1), .ref 60]) (g' := g) (by decide +kernel) rfl ?_
      obtain ⟨w2, e2, H⟩ := xbind H
      refine xcallV A (ix := 431) (nxt := 67) hrm hz [.int (6 + l1), .int s0] [] 1805 (c_X12_does_60 hS _ e2) ok_X12_does (by decide +kernel) rfl (fun r g1 hq => ?_)
      rw [hq.1, hq.2]
      show xW k S 0 0 67 [some (.ref 60), some (.int l1), none, some (.int s0)] [.int w2.1] w2.2
      refine xif_eq A (7) 74 70 (by decide +kernel) (fun h8 => ?_) (fun h8 => ?_)
      · rw [if_pos h8] at H
        refine xb A [(.iconst 0, 1, 0, 0, .int 0)] (pc' := 75) (ls' := [some (.ref 60), some (.int l1), none, some (.int s0)]) (st' := [.int 0]) (g' := w2.2) (by decide +kernel) rfl ?_
        obtain rfl := Option.some.inj H
        exact xret_i A hR hz (by decide +kernel) rfl ⟨rfl, rfl⟩
      · rw [if_neg h8] at H
        refine xb A [(.iconst 1, 1, 0, 0, .int 1)] (pc' := 71) (ls' := [some (.ref 60), some (.int l1), none, some (.int s0)]) (st' := [.int 1]) (g' := w2.2) (by decide +kernel) rfl ?_
        refine xgoto A (4) 75 (by decide +kernel) ?_
        obtain rfl := Option.some.inj H
        exact xret_i A hR hz (by decide +kernel) rfl ⟨rfl, rfl⟩
theorem fr_X12_send_60_34   : ∀ (l1 : Int32) (s0 : Int32) (g : xG) (out : Int32 × xG), f_X12_send_60_34 l1 s0 g = some out → xfrm fp_X12_send_60 g (out.2) := by
  intro l1 s0 g out H
  have H : (xg (¬ ((6 + l1) < 0 ∨ 40 ≤ (6 + l1).toNatClampNeg)) (
  if (g.1 93 (6 + l1).toNatClampNeg) = s0 then
    some (0, g)
  else
    xg (¬ (l1 < 0 ∨ 40 ≤ l1.toNatClampNeg)) (
      if (g.1 93 l1.toNatClampNeg) = s0 then
        some (0, g)
      else
        (f_X12_does_60 (6 + l1) s0 g).bind fun w2 =>
        if w2.1 = 0 then
          some (0, w2.2)
        else
          some (1, w2.2)))) = some out := H
  obtain ⟨h4, H⟩ := xg_elim H
  by_cases h5 : (g.1 93 (6 + l1).toNatClampNeg) = s0
  · rw [if_pos h5] at H
    obtain rfl := Option.some.inj H
    exact xfrm.rf
  · rw [if_neg h5] at H
    obtain ⟨h6, H⟩ := xg_elim H
    by_cases h7 : (g.1 93 l1.toNatClampNeg) = s0
    · rw [if_pos h7] at H
      obtain rfl := Option.some.inj H
      exact xfrm.rf
    · rw [if_neg h7] at H
      obtain ⟨w2, e2, H⟩ := xbind H
      have hf1 : xfrm fp_X12_send_60 g (w2.2) := xfrm.tr xfrm.rf (fr_X12_does_60 _ e2) rfl
      by_cases h8 : w2.1 = 0
      · rw [if_pos h8] at H
        obtain rfl := Option.some.inj H
        exact hf1
      · rw [if_neg h8] at H
        obtain rfl := Option.some.inj H
        exact hf1
set_option maxRecDepth 20000 in
theorem t_X12_send_60_23 {k : xK} {S : List xSh} {out : Int32 × xG} (hS : xpf SH2 S) (A : xAt k mX12_send.2.1 12 SH2 S) (hR : xRet k 0 0 S (fun r g' => r = some (.int out.1) ∧ g' = out.2) mX12_send.2.2.2) (hrm : xrm k = { frames := 3, cells := 0, slots := 0, locals := 66 }) (hz : xhs k = xb0 k + S.length)   : ∀ (l1 : Int32) (l2 : Int32) (g : xG), f_X12_send_60_23 l1 l2 g = some out → xW k S 0 0 23 [some (.ref 60), some (.int l1), some (.int l2), none] [] g := by
  intro l1 l2 g H
  have H : (if l2 = (-1) then
  f_X12_send_60_34 l1 (-2) g
else
  f_X12_send_60_34 l1 l2 g) = some out := H
  refine xb A [(.iload_n 2, 1, 0, 0, .null), (.iconst (-1), 1, 0, 0, .int (-1))] (pc' := 25) (ls' := [some (.ref 60), some (.int l1), some (.int l2), none]) (st' := [.int (-1), .int l2]) (g' := g) (by decide +kernel) rfl ?_
  refine xic_ne A (8) 33 28 (by decide +kernel) (fun h3 => ?_) (fun h3 => ?_)
  · rw [if_neg h3] at H
    refine xb A [(.iload_n 2, 1, 0, 0, .null)] (pc' := 34) (ls' := [some (.ref 60), some (.int l1), some (.int l2), none]) (st' := [.int l2]) (g' := g) (by decide +kernel) rfl ?_
    refine xweak (ls' := [some (.ref 60), some (.int l1), none, none]) (by exact ⟨rfl, ⟨rfl, trivial⟩⟩) ?_
    exact t_X12_send_60_34 hS A hR hrm hz _ _ _ H
  · rw [if_pos h3] at H
    refine xb A [(.bipush (-2), 2, 0, 0, .int (-2))] (pc' := 30) (ls' := [some (.ref 60), some (.int l1), some (.int l2), none]) (st' := [.int (-2)]) (g' := g) (by decide +kernel) rfl ?_
    refine xgoto A (4) 34 (by decide +kernel) ?_
    refine xweak (ls' := [some (.ref 60), some (.int l1), none, none]) (by exact ⟨rfl, ⟨rfl, trivial⟩⟩) ?_
    exact t_X12_send_60_34 hS A hR hrm hz _ _ _ H
theorem fr_X12_send_60_23   : ∀ (l1 : Int32) (l2 : Int32) (g : xG) (out : Int32 × xG), f_X12_send_60_23 l1 l2 g = some out → xfrm fp_X12_send_60 g (out.2) := by
  intro l1 l2 g out H
  have H : (if l2 = (-1) then
  f_X12_send_60_34 l1 (-2) g
else
  f_X12_send_60_34 l1 l2 g) = some out := H
  by_cases h3 : l2 = (-1)
  · rw [if_pos h3] at H
    exact xfrm.tr xfrm.rf (fr_X12_send_60_34 _ _ _ _ H) rfl
  · rw [if_neg h3] at H
    exact xfrm.tr xfrm.rf (fr_X12_send_60_34 _ _ _ _ H) rfl
set_option maxRecDepth 20000 in
theorem c_X12_send_60 {S : List xSh} (hS : xpf SH2 S) {g : xG} {p1 : Int32} {p2 : Int32} (out : Int32 × xG) (H : f_X12_send_60 p1 p2 g = some out) : xC mX12_send 3 66 0 0 S [.ref 60, .int p1, .int p2] g S (fun r g' => r = some (.int out.1) ∧ g' = out.2) := by
  have H : ((f_X12_isPerson_60 p1 g).bind fun w1 =>
if w1 = 0 then
  some (0, g)
else
  if p2 = (-1) then
    f_X12_send_60_23 p1 p2 g
  else
    (f_X12_isTown_60 p2 g).bind fun w3 =>
    if w3 = 0 then
      some (0, g)
    else
      f_X12_send_60_23 p1 p2 g) = some out := H
  refine xC.of 12 SH2 [some (.ref 60), some (.int p1), some (.int p2), none] hS (by decide +kernel) rfl (fun _ _ => Nat.le_of_ble_eq_true rfl) (fun _ _ => rfl) ?_
  intro k A hR hrm hz
  refine xb A [(.aload_n 0, 1, 0, 0, .null), (.iload_n 1, 1, 0, 0, .null)] (pc' := 2) (ls' := [some (.ref 60), some (.int p1), some (.int p2), none]) (st' := [.int p1, .ref 60]) (g' := g) (by decide +kernel) rfl ?_
  obtain ⟨w1, e1, H⟩ := xbind H
  refine xcallV A (ix := 425) (nxt := 5) hrm hz [.int p1] [] 1739 (c_X12_isPerson_60 hS _ e1) ok_X12_isPerson (by decide +kernel) rfl (fun r g1 hq => ?_)
  rw [hq.1, hq.2]
  show xW k S 0 0 5 [some (.ref 60), some (.int p1), some (.int p2), none] [.int w1] g
  refine xif_eq A (16) 21 8 (by decide +kernel) (fun h1 => ?_) (fun h1 => ?_)
  · rw [if_pos h1] at H
    refine xb A [(.iconst 0, 1, 0, 0, .int 0)] (pc' := 22) (ls' := [some (.ref 60), some (.int p1), some (.int p2), none]) (st' := [.int 0]) (g' := g) (by decide +kernel) rfl ?_
    obtain rfl := Option.some.inj H
    exact xret_i A hR hz (by decide +kernel) rfl ⟨rfl, rfl⟩
  · rw [if_neg h1] at H
    refine xb A [(.iload_n 2, 1, 0, 0, .null), (.iconst (-1), 1, 0, 0, .int (-1))] (pc' := 10) (ls' := [some (.ref 60), some (.int p1), some (.int p2), none]) (st' := [.int (-1), .int p2]) (g' := g) (by decide +kernel) rfl ?_
    refine xic_eq A (13) 23 13 (by decide +kernel) (fun h2 => ?_) (fun h2 => ?_)
    · rw [if_pos h2] at H
      exact t_X12_send_60_23 hS A hR hrm hz _ _ _ H
    · rw [if_neg h2] at H
      refine xb A [(.aload_n 0, 1, 0, 0, .null), (.iload_n 2, 1, 0, 0, .null)] (pc' := 15) (ls' := [some (.ref 60), some (.int p1), some (.int p2), none]) (st' := [.int p2, .ref 60]) (g' := g) (by decide +kernel) rfl ?_
      obtain ⟨w3, e3, H⟩ := xbind H
      refine xcallV A (ix := 413) (nxt := 18) hrm hz [.int p2] [] 1692 (c_X12_isTown_60 hS _ e3) ok_X12_isTown (by decide +kernel) rfl (fun r g1 hq => ?_)
      rw [hq.1, hq.2]
      show xW k S 0 0 18 [some (.ref 60), some (.int p1), some (.int p2), none] [.int w3] g
      refine xif_ne A (5) 23 21 (by decide +kernel) (fun h9 => ?_) (fun h9 => ?_)
      · rw [if_neg h9] at H
        exact t_X12_send_60_23 hS A hR hrm hz _ _ _ H
      · rw [if_pos h9] at H
        refine xb A [(.iconst 0, 1, 0, 0, .int 0)] (pc' := 22) (ls' := [some (.ref 60), some (.int p1), some (.int p2), none]) (st' := [.int 0]) (g' := g) (by decide +kernel) rfl ?_
        obtain rfl := Option.some.inj H
        exact xret_i A hR hz (by decide +kernel) rfl ⟨rfl, rfl⟩
theorem fr_X12_send_60 {p1 : Int32} {p2 : Int32} {g : xG} (out : Int32 × xG) (H : f_X12_send_60 p1 p2 g = some out) : xfrm fp_X12_send_60 g (out.2) := by
  have H : ((f_X12_isPerson_60 p1 g).bind fun w1 =>
if w1 = 0 then
  some (0, g)
else
  if p2 = (-1) then
    f_X12_send_60_23 p1 p2 g
  else
    (f_X12_isTown_60 p2 g).bind fun w3 =>
    if w3 = 0 then
      some (0, g)
    else
      f_X12_send_60_23 p1 p2 g) = some out := H
  obtain ⟨w1, e1, H⟩ := xbind H
  by_cases h1 : w1 = 0
  · rw [if_pos h1] at H
    obtain rfl := Option.some.inj H
    exact xfrm.rf
  · rw [if_neg h1] at H
    by_cases h2 : p2 = (-1)
    · rw [if_pos h2] at H
      exact xfrm.tr xfrm.rf (fr_X12_send_60_23 _ _ _ _ H) rfl
    · rw [if_neg h2] at H
      obtain ⟨w3, e3, H⟩ := xbind H
      by_cases h9 : w3 = 0
      · rw [if_pos h9] at H
        obtain rfl := Option.some.inj H
        exact xfrm.rf
      · rw [if_neg h9] at H
        exact xfrm.tr xfrm.rf (fr_X12_send_60_23 _ _ _ _ H) rfl
def fp_X12_close_60 : List (Nat × Option Nat) := [(60, some 52), (60, some 53), (60, some 55), (93, none), (94, none), (95, none), (96, none)]
def f_X12_close_60_28  (l1 : Int32) (l2 : Int32) (s0 : Int32) (g : xG) : Option (Int32 × xG) :=
  if s0 = l2 then
    some (0, g)
  else
    xg (¬ ((36 : Int32) < 0 ∨ 40 ≤ (36 : Int32).toNatClampNeg)) (
      (f_X12_does_60 36 ((g.1 93 (36 : Int32).toNatClampNeg) ^^^ ((1 : Int32) <<< (l1 &&& 31))) g).bind fun w2 =>
      if w2.1 = 0 then
        some (0, w2.2)
      else
        some (1, w2.2))
def f_X12_close_60 (p1 : Int32) (p2 : Int32) (g : xG) : Option (Int32 × xG) :=
  (f_X12_isRoad_60 p1 g).bind fun w1 =>
  if w1 = 0 then
    some (0, g)
  else
    xg (¬ ((36 : Int32) < 0 ∨ 40 ≤ (36 : Int32).toNatClampNeg)) (
      if (((g.1 93 (36 : Int32).toNatClampNeg) >>> (p1 &&& 31)) &&& 1) = 1 then
        f_X12_close_60_28 p1 p2 1 g
      else
        f_X12_close_60_28 p1 p2 0 g)
set_option maxRecDepth 20000 in
theorem t_X12_close_60_28 {k : xK} {S : List xSh} {out : Int32 × xG} (hS : xpf SH2 S) (A : xAt k mX12_close.2.1 12 SH2 S) (hR : xRet k 0 0 S (fun r g' => r = some (.int out.1) ∧ g' = out.2) mX12_close.2.2.2) (hrm : xrm k = { frames := 3, cells := 0, slots := 0, locals := 66 }) (hz : xhs k = xb0 k + S.length)   : ∀ (l1 : Int32) (l2 : Int32) (s0 : Int32) (g : xG), f_X12_close_60_28 l1 l2 s0 g = some out → xW k S 0 0 28 [some (.ref 60), some (.int l1), some (.int l2)] [.int s0] g := by
  intro l1 l2 s0 g H
  have H : (if s0 = l2 then
  some (0, g)
else
  xg (¬ ((36 : Int32) < 0 ∨ 40 ≤ (36 : Int32).toNatClampNeg)) (
    (f_X12_does_60 36 ((g.1 93 (36 : Int32).toNatClampNeg) ^^^ ((1 : Int32) <<< (l1 &&& 31))) g).bind fun w2 =>
    if w2.1 = 0 then
      some (0, w2.2)
    else
      some (1, w2.2))) = some out := H
  refine xb A [(.iload_n 2, 1, 0, 0, .null)] (pc' := 29) (ls' := [some (.ref 60), some (.int l1), some (.int l2)]) (st' := [.int l2, .int s0]) (g' := g) (by decide +kernel) rfl ?_
  refine xic_eq A (27) 56 32 (by decide +kernel) (fun h4 => ?_) (fun h4 => ?_)
  · rw [if_pos h4] at H
    refine xb A [(.iconst 0, 1, 0, 0, .int 0)] (pc' := 57) (ls' := [some (.ref 60), some (.int l1), some (.int l2)]) (st' := [.int 0]) (g' := g) (by decide +kernel) rfl ?_
    obtain rfl := Option.some.inj H
    exact xret_i A hR hz (by decide +kernel) rfl ⟨rfl, rfl⟩
  · rw [if_neg h4] at H
    refine xb A [(.aload_n 0, 1, 0, 0, .null), (.bipush 36, 2, 0, 0, .int 36), (.aload_n 0, 1, 0, 0, .null), (.getfield 116, 3, 60, 50, .ref 93), (.bipush 36, 2, 0, 0, .int 36)] (pc' := 41) (ls' := [some (.ref 60), some (.int l1), some (.int l2)]) (st' := [.int 36, .ref 93, .int 36, .ref 60]) (g' := g) (by decide +kernel) rfl ?_
    obtain ⟨h5, H⟩ := xg_elim H
    refine xiald A (nxt := 42) (by decide +kernel) (hS _ _ sh_93) h5 ?_
    show xW k S 0 0 42 [some (.ref 60), some (.int l1), some (.int l2)] [.int (g.1 93 (36 : Int32).toNatClampNeg), .int 36, .ref 60] g
    refine xb A [(.iconst 1, 1, 0, 0, .int 1), (.iload_n 1, 1, 0, 0, .null), (.ishl, 1, 0, 0, .null), (.ixor, 1, 0, 0, .null)] (pc' := 46) (ls' := [some (.ref 60), some (.int l1), some (.int l2)]) (st' := [.int ((g.1 93 (36 : Int32).toNatClampNeg) ^^^ ((1 : Int32) <<< (l1 &&& 31))), .int 36, .ref 60]) (g' := g) (by decide +kernel) rfl ?_
    obtain ⟨w2, e2, H⟩ := xbind H
    refine xcallV A (ix := 431) (nxt := 49) hrm hz [.int 36, .int ((g.1 93 (36 : Int32).toNatClampNeg) ^^^ ((1 : Int32) <<< (l1 &&& 31)))] [] 1805 (c_X12_does_60 hS _ e2) ok_X12_does (by decide +kernel) rfl (fun r g1 hq => ?_)
    rw [hq.1, hq.2]
    show xW k S 0 0 49 [some (.ref 60), some (.int l1), some (.int l2)] [.int w2.1] w2.2
    refine xif_eq A (7) 56 52 (by decide +kernel) (fun h6 => ?_) (fun h6 => ?_)
    · rw [if_pos h6] at H
      refine xb A [(.iconst 0, 1, 0, 0, .int 0)] (pc' := 57) (ls' := [some (.ref 60), some (.int l1), some (.int l2)]) (st' := [.int 0]) (g' := w2.2) (by decide +kernel) rfl ?_
      obtain rfl := Option.some.inj H
      exact xret_i A hR hz (by decide +kernel) rfl ⟨rfl, rfl⟩
    · rw [if_neg h6] at H
      refine xb A [(.iconst 1, 1, 0, 0, .int 1)] (pc' := 53) (ls' := [some (.ref 60), some (.int l1), some (.int l2)]) (st' := [.int 1]) (g' := w2.2) (by decide +kernel) rfl ?_
      refine xgoto A (4) 57 (by decide +kernel) ?_
      obtain rfl := Option.some.inj H
      exact xret_i A hR hz (by decide +kernel) rfl ⟨rfl, rfl⟩
theorem fr_X12_close_60_28   : ∀ (l1 : Int32) (l2 : Int32) (s0 : Int32) (g : xG) (out : Int32 × xG), f_X12_close_60_28 l1 l2 s0 g = some out → xfrm fp_X12_close_60 g (out.2) := by
  intro l1 l2 s0 g out H
  have H : (if s0 = l2 then
  some (0, g)
else
  xg (¬ ((36 : Int32) < 0 ∨ 40 ≤ (36 : Int32).toNatClampNeg)) (
    (f_X12_does_60 36 ((g.1 93 (36 : Int32).toNatClampNeg) ^^^ ((1 : Int32) <<< (l1 &&& 31))) g).bind fun w2 =>
    if w2.1 = 0 then
      some (0, w2.2)
    else
      some (1, w2.2))) = some out := H
  by_cases h4 : s0 = l2
  · rw [if_pos h4] at H
    obtain rfl := Option.some.inj H
    exact xfrm.rf
  · rw [if_neg h4] at H
    obtain ⟨h5, H⟩ := xg_elim H
    obtain ⟨w2, e2, H⟩ := xbind H
    have hf1 : xfrm fp_X12_close_60 g (w2.2) := xfrm.tr xfrm.rf (fr_X12_does_60 _ e2) rfl
    by_cases h6 : w2.1 = 0
    · rw [if_pos h6] at H
      obtain rfl := Option.some.inj H
      exact hf1
    · rw [if_neg h6] at H
      obtain rfl := Option.some.inj H
      exact hf1
set_option maxRecDepth 20000 in
theorem c_X12_close_60 {S : List xSh} (hS : xpf SH2 S) {g : xG} {p1 : Int32} {p2 : Int32} (out : Int32 × xG) (H : f_X12_close_60 p1 p2 g = some out) : xC mX12_close 3 66 0 0 S [.ref 60, .int p1, .int p2] g S (fun r g' => r = some (.int out.1) ∧ g' = out.2) := by
  have H : ((f_X12_isRoad_60 p1 g).bind fun w1 =>
if w1 = 0 then
  some (0, g)
else
  xg (¬ ((36 : Int32) < 0 ∨ 40 ≤ (36 : Int32).toNatClampNeg)) (
    if (((g.1 93 (36 : Int32).toNatClampNeg) >>> (p1 &&& 31)) &&& 1) = 1 then
      f_X12_close_60_28 p1 p2 1 g
    else
      f_X12_close_60_28 p1 p2 0 g)) = some out := H
  refine xC.of 12 SH2 [some (.ref 60), some (.int p1), some (.int p2)] hS (by decide +kernel) rfl (fun _ _ => Nat.le_of_ble_eq_true rfl) (fun _ _ => rfl) ?_
  intro k A hR hrm hz
  refine xb A [(.aload_n 0, 1, 0, 0, .null), (.iload_n 1, 1, 0, 0, .null)] (pc' := 2) (ls' := [some (.ref 60), some (.int p1), some (.int p2)]) (st' := [.int p1, .ref 60]) (g' := g) (by decide +kernel) rfl ?_
  obtain ⟨w1, e1, H⟩ := xbind H
  refine xcallV A (ix := 422) (nxt := 5) hrm hz [.int p1] [] 1731 (c_X12_isRoad_60 hS _ e1) ok_X12_isRoad (by decide +kernel) rfl (fun r g1 hq => ?_)
  rw [hq.1, hq.2]
  show xW k S 0 0 5 [some (.ref 60), some (.int p1), some (.int p2)] [.int w1] g
  refine xif_eq A (51) 56 8 (by decide +kernel) (fun h1 => ?_) (fun h1 => ?_)
  · rw [if_pos h1] at H
    refine xb A [(.iconst 0, 1, 0, 0, .int 0)] (pc' := 57) (ls' := [some (.ref 60), some (.int p1), some (.int p2)]) (st' := [.int 0]) (g' := g) (by decide +kernel) rfl ?_
    obtain rfl := Option.some.inj H
    exact xret_i A hR hz (by decide +kernel) rfl ⟨rfl, rfl⟩
  · rw [if_neg h1] at H
    refine xb A [(.aload_n 0, 1, 0, 0, .null), (.getfield 116, 3, 60, 50, .ref 93), (.bipush 36, 2, 0, 0, .int 36)] (pc' := 14) (ls' := [some (.ref 60), some (.int p1), some (.int p2)]) (st' := [.int 36, .ref 93]) (g' := g) (by decide +kernel) rfl ?_
    obtain ⟨h2, H⟩ := xg_elim H
    refine xiald A (nxt := 15) (by decide +kernel) (hS _ _ sh_93) h2 ?_
    show xW k S 0 0 15 [some (.ref 60), some (.int p1), some (.int p2)] [.int (g.1 93 (36 : Int32).toNatClampNeg)] g
    refine xb A [(.iload_n 1, 1, 0, 0, .null), (.ishr, 1, 0, 0, .null), (.iconst 1, 1, 0, 0, .int 1), (.iand, 1, 0, 0, .null), (.iconst 1, 1, 0, 0, .int 1)] (pc' := 20) (ls' := [some (.ref 60), some (.int p1), some (.int p2)]) (st' := [.int 1, .int (((g.1 93 (36 : Int32).toNatClampNeg) >>> (p1 &&& 31)) &&& 1)]) (g' := g) (by decide +kernel) rfl ?_
    refine xic_ne A (7) 27 23 (by decide +kernel) (fun h3 => ?_) (fun h3 => ?_)
    · rw [if_neg h3] at H
      refine xb A [(.iconst 0, 1, 0, 0, .int 0)] (pc' := 28) (ls' := [some (.ref 60), some (.int p1), some (.int p2)]) (st' := [.int 0]) (g' := g) (by decide +kernel) rfl ?_
      exact t_X12_close_60_28 hS A hR hrm hz _ _ _ _ H
    · rw [if_pos h3] at H
      refine xb A [(.iconst 1, 1, 0, 0, .int 1)] (pc' := 24) (ls' := [some (.ref 60), some (.int p1), some (.int p2)]) (st' := [.int 1]) (g' := g) (by decide +kernel) rfl ?_
      refine xgoto A (4) 28 (by decide +kernel) ?_
      exact t_X12_close_60_28 hS A hR hrm hz _ _ _ _ H
theorem fr_X12_close_60 {p1 : Int32} {p2 : Int32} {g : xG} (out : Int32 × xG) (H : f_X12_close_60 p1 p2 g = some out) : xfrm fp_X12_close_60 g (out.2) := by
  have H : ((f_X12_isRoad_60 p1 g).bind fun w1 =>
if w1 = 0 then
  some (0, g)
else
  xg (¬ ((36 : Int32) < 0 ∨ 40 ≤ (36 : Int32).toNatClampNeg)) (
    if (((g.1 93 (36 : Int32).toNatClampNeg) >>> (p1 &&& 31)) &&& 1) = 1 then
      f_X12_close_60_28 p1 p2 1 g
    else
      f_X12_close_60_28 p1 p2 0 g)) = some out := H
  obtain ⟨w1, e1, H⟩ := xbind H
  by_cases h1 : w1 = 0
  · rw [if_pos h1] at H
    obtain rfl := Option.some.inj H
    exact xfrm.rf
  · rw [if_neg h1] at H
    obtain ⟨h2, H⟩ := xg_elim H
    by_cases h3 : (((g.1 93 (36 : Int32).toNatClampNeg) >>> (p1 &&& 31)) &&& 1) = 1
    · rw [if_pos h3] at H
      exact xfrm.tr xfrm.rf (fr_X12_close_60_28 _ _ _ _ _ H) rfl
    · rw [if_neg h3] at H
      exact xfrm.tr xfrm.rf (fr_X12_close_60_28 _ _ _ _ _ H) rfl
def fp_X12_admit_60 : List (Nat × Option Nat) := [(60, some 52), (60, some 53), (60, some 55), (93, none), (94, none), (95, none), (96, none)]
def f_X12_admit_60 (p1 : Int32) (g : xG) : Option (Int32 × xG) :=
  (f_X12_isPerson_60 p1 g).bind fun w1 =>
  if w1 = 0 then
    some (0, g)
  else
    xg (¬ ((30 + p1) < 0 ∨ 40 ≤ (30 + p1).toNatClampNeg)) (
      if (g.1 93 (30 + p1).toNatClampNeg) = 1 then
        (f_X12_does_60 (30 + p1) 0 g).bind fun w2 =>
        if w2.1 = 0 then
          some (0, w2.2)
        else
          some (1, w2.2)
      else
        some (0, g))
set_option maxRecDepth 20000 in
theorem c_X12_admit_60 {S : List xSh} (hS : xpf SH2 S) {g : xG} {p1 : Int32} (out : Int32 × xG) (H : f_X12_admit_60 p1 g = some out) : xC mX12_admit 3 66 0 0 S [.ref 60, .int p1] g S (fun r g' => r = some (.int out.1) ∧ g' = out.2) := by
  have H : ((f_X12_isPerson_60 p1 g).bind fun w1 =>
if w1 = 0 then
  some (0, g)
else
  xg (¬ ((30 + p1) < 0 ∨ 40 ≤ (30 + p1).toNatClampNeg)) (
    if (g.1 93 (30 + p1).toNatClampNeg) = 1 then
      (f_X12_does_60 (30 + p1) 0 g).bind fun w2 =>
      if w2.1 = 0 then
        some (0, w2.2)
      else
        some (1, w2.2)
    else
      some (0, g))) = some out := H
  refine xC.of 12 SH2 [some (.ref 60), some (.int p1)] hS (by decide +kernel) rfl (fun _ _ => Nat.le_of_ble_eq_true rfl) (fun _ _ => rfl) ?_
  intro k A hR hrm hz
  refine xb A [(.aload_n 0, 1, 0, 0, .null), (.iload_n 1, 1, 0, 0, .null)] (pc' := 2) (ls' := [some (.ref 60), some (.int p1)]) (st' := [.int p1, .ref 60]) (g' := g) (by decide +kernel) rfl ?_
  obtain ⟨w1, e1, H⟩ := xbind H
  refine xcallV A (ix := 425) (nxt := 5) hrm hz [.int p1] [] 1739 (c_X12_isPerson_60 hS _ e1) ok_X12_isPerson (by decide +kernel) rfl (fun r g1 hq => ?_)
  rw [hq.1, hq.2]
  show xW k S 0 0 5 [some (.ref 60), some (.int p1)] [.int w1] g
  refine xif_eq A (32) 37 8 (by decide +kernel) (fun h1 => ?_) (fun h1 => ?_)
  · rw [if_pos h1] at H
    refine xb A [(.iconst 0, 1, 0, 0, .int 0)] (pc' := 38) (ls' := [some (.ref 60), some (.int p1)]) (st' := [.int 0]) (g' := g) (by decide +kernel) rfl ?_
    obtain rfl := Option.some.inj H
    exact xret_i A hR hz (by decide +kernel) rfl ⟨rfl, rfl⟩
  · rw [if_neg h1] at H
    refine xb A [(.aload_n 0, 1, 0, 0, .null), (.getfield 116, 3, 60, 50, .ref 93), (.bipush 30, 2, 0, 0, .int 30), (.iload_n 1, 1, 0, 0, .null), (.iadd, 1, 0, 0, .null)] (pc' := 16) (ls' := [some (.ref 60), some (.int p1)]) (st' := [.int (30 + p1), .ref 93]) (g' := g) (by decide +kernel) rfl ?_
    obtain ⟨h2, H⟩ := xg_elim H
    refine xiald A (nxt := 17) (by decide +kernel) (hS _ _ sh_93) h2 ?_
    show xW k S 0 0 17 [some (.ref 60), some (.int p1)] [.int (g.1 93 (30 + p1).toNatClampNeg)] g
    refine xb A [(.iconst 1, 1, 0, 0, .int 1)] (pc' := 18) (ls' := [some (.ref 60), some (.int p1)]) (st' := [.int 1, .int (g.1 93 (30 + p1).toNatClampNeg)]) (g' := g) (by decide +kernel) rfl ?_
    refine xic_ne A (19) 37 21 (by decide +kernel) (fun h3 => ?_) (fun h3 => ?_)
    · rw [if_neg h3] at H
      refine xb A [(.iconst 0, 1, 0, 0, .int 0)] (pc' := 38) (ls' := [some (.ref 60), some (.int p1)]) (st' := [.int 0]) (g' := g) (by decide +kernel) rfl ?_
      obtain rfl := Option.some.inj H
      exact xret_i A hR hz (by decide +kernel) rfl ⟨rfl, rfl⟩
    · rw [if_pos h3] at H
      refine xb A [(.aload_n 0, 1, 0, 0, .null), (.bipush 30, 2, 0, 0, .int 30), (.iload_n 1, 1, 0, 0, .null), (.iadd, 1, 0, 0, .null), (.iconst 0, 1, 0, 0, .int 0)] (pc' := 27) (ls' := [some (.ref 60), some (.int p1)]) (st' := [.int 0, .int (30 + p1), .ref 60]) (g' := g) (by decide +kernel) rfl ?_
      obtain ⟨w2, e2, H⟩ := xbind H
      refine xcallV A (ix := 431) (nxt := 30) hrm hz [.int (30 + p1), .int 0] [] 1805 (c_X12_does_60 hS _ e2) ok_X12_does (by decide +kernel) rfl (fun r g1 hq => ?_)
      rw [hq.1, hq.2]
      show xW k S 0 0 30 [some (.ref 60), some (.int p1)] [.int w2.1] w2.2
      refine xif_eq A (7) 37 33 (by decide +kernel) (fun h4 => ?_) (fun h4 => ?_)
      · rw [if_pos h4] at H
        refine xb A [(.iconst 0, 1, 0, 0, .int 0)] (pc' := 38) (ls' := [some (.ref 60), some (.int p1)]) (st' := [.int 0]) (g' := w2.2) (by decide +kernel) rfl ?_
        obtain rfl := Option.some.inj H
        exact xret_i A hR hz (by decide +kernel) rfl ⟨rfl, rfl⟩
      · rw [if_neg h4] at H
        refine xb A [(.iconst 1, 1, 0, 0, .int 1)] (pc' := 34) (ls' := [some (.ref 60), some (.int p1)]) (st' := [.int 1]) (g' := w2.2) (by decide +kernel) rfl ?_
        refine xgoto A (4) 38 (by decide +kernel) ?_
        obtain rfl := Option.some.inj H
        exact xret_i A hR hz (by decide +kernel) rfl ⟨rfl, rfl⟩
theorem fr_X12_admit_60 {p1 : Int32} {g : xG} (out : Int32 × xG) (H : f_X12_admit_60 p1 g = some out) : xfrm fp_X12_admit_60 g (out.2) := by
  have H : ((f_X12_isPerson_60 p1 g).bind fun w1 =>
if w1 = 0 then
  some (0, g)
else
  xg (¬ ((30 + p1) < 0 ∨ 40 ≤ (30 + p1).toNatClampNeg)) (
    if (g.1 93 (30 + p1).toNatClampNeg) = 1 then
      (f_X12_does_60 (30 + p1) 0 g).bind fun w2 =>
      if w2.1 = 0 then
        some (0, w2.2)
      else
        some (1, w2.2)
    else
      some (0, g))) = some out := H
  obtain ⟨w1, e1, H⟩ := xbind H
  by_cases h1 : w1 = 0
  · rw [if_pos h1] at H
    obtain rfl := Option.some.inj H
    exact xfrm.rf
  · rw [if_neg h1] at H
    obtain ⟨h2, H⟩ := xg_elim H
    by_cases h3 : (g.1 93 (30 + p1).toNatClampNeg) = 1
    · rw [if_pos h3] at H
      obtain ⟨w2, e2, H⟩ := xbind H
      have hf1 : xfrm fp_X12_admit_60 g (w2.2) := xfrm.tr xfrm.rf (fr_X12_does_60 _ e2) rfl
      by_cases h4 : w2.1 = 0
      · rw [if_pos h4] at H
        obtain rfl := Option.some.inj H
        exact hf1
      · rw [if_neg h4] at H
        obtain rfl := Option.some.inj H
        exact hf1
    · rw [if_neg h3] at H
      obtain rfl := Option.some.inj H
      exact xfrm.rf
def f_X12_isLong (p0 : Int32) : Int32 :=
  f_X12_in p0 0 60
set_option maxRecDepth 20000 in
theorem c_X12_isLong {S : List xSh} (hS : xpf SH2 S) {g : xG} {p0 : Int32} (out : Int32) (H : f_X12_isLong p0 = out) : xC mX12_isLong 1 22 0 0 S [.int p0] g S (fun r g' => r = some (.int out) ∧ g' = g) := by
  have H : (f_X12_in p0 0 60) = out := H
  refine xC.of 12 SH2 [some (.int p0)] hS (by decide +kernel) rfl (fun _ _ => Nat.le_of_ble_eq_true rfl) (fun _ _ => rfl) ?_
  intro k A hR hrm hz
  refine xb A [(.iload_n 0, 1, 0, 0, .null), (.iconst 0, 1, 0, 0, .int 0), (.bipush 60, 2, 0, 0, .int 60)] (pc' := 4) (ls' := [some (.int p0)]) (st' := [.int 60, .int 0, .int p0]) (g' := g) (by decide +kernel) rfl ?_
  refine xcallS A (ix := 307) (nxt := 7) hrm hz [.int p0, .int 0, .int 60] [] 1696 (c_X12_in hS _ rfl) ok_X12_in (by decide +kernel) rfl (fun r g1 hq => ?_)
  rw [hq.1, hq.2]
  show xW k S 0 0 7 [some (.int p0)] [.int (f_X12_in p0 0 60)] g
  subst H
  exact xret_i A hR hz (by decide +kernel) (by unfold f_X12_in; repeat' (first | rfl | split)) ⟨rfl, rfl⟩
def f_X12_mayRing_60 (p1 : Int32) (g : xG) : Option (Int32) :=
  (f_X12_isThere_60 p1 g).bind fun w1 =>
  if w1 = 0 then
    some 0
  else
    xg (¬ ((30 + p1) < 0 ∨ 40 ≤ (30 + p1).toNatClampNeg)) (
      if (g.1 94 (30 + p1).toNatClampNeg) = 0 then
        some 1
      else
        some 0)
set_option maxRecDepth 20000 in
theorem c_X12_mayRing_60 {S : List xSh} (hS : xpf SH2 S) {g : xG} {p1 : Int32} (out : Int32) (H : f_X12_mayRing_60 p1 g = some out) : xC mX12_mayRing 1 21 0 0 S [.ref 60, .int p1] g S (fun r g' => r = some (.int out) ∧ g' = g) := by
  have H : ((f_X12_isThere_60 p1 g).bind fun w1 =>
if w1 = 0 then
  some 0
else
  xg (¬ ((30 + p1) < 0 ∨ 40 ≤ (30 + p1).toNatClampNeg)) (
    if (g.1 94 (30 + p1).toNatClampNeg) = 0 then
      some 1
    else
      some 0)) = some out := H
  refine xC.of 12 SH2 [some (.ref 60), some (.int p1)] hS (by decide +kernel) rfl (fun _ _ => Nat.le_of_ble_eq_true rfl) (fun _ _ => rfl) ?_
  intro k A hR hrm hz
  refine xb A [(.aload_n 0, 1, 0, 0, .null), (.iload_n 1, 1, 0, 0, .null)] (pc' := 2) (ls' := [some (.ref 60), some (.int p1)]) (st' := [.int p1, .ref 60]) (g' := g) (by decide +kernel) rfl ?_
  obtain ⟨w1, e1, H⟩ := xbind H
  refine xcallV A (ix := 327) (nxt := 5) hrm hz [.int p1] [] 1767 (c_X12_isThere_60 hS _ e1) ok_X12_isThere (by decide +kernel) rfl (fun r g1 hq => ?_)
  rw [hq.1, hq.2]
  show xW k S 0 0 5 [some (.ref 60), some (.int p1)] [.int w1] g
  refine xif_eq A (19) 24 8 (by decide +kernel) (fun h1 => ?_) (fun h1 => ?_)
  · rw [if_pos h1] at H
    refine xb A [(.iconst 0, 1, 0, 0, .int 0)] (pc' := 25) (ls' := [some (.ref 60), some (.int p1)]) (st' := [.int 0]) (g' := g) (by decide +kernel) rfl ?_
    obtain rfl := Option.some.inj H
    exact xret_i A hR hz (by decide +kernel) rfl ⟨rfl, rfl⟩
  · rw [if_neg h1] at H
    refine xb A [(.aload_n 0, 1, 0, 0, .null), (.getfield 119, 3, 60, 51, .ref 94), (.bipush 30, 2, 0, 0, .int 30), (.iload_n 1, 1, 0, 0, .null), (.iadd, 1, 0, 0, .null)] (pc' := 16) (ls' := [some (.ref 60), some (.int p1)]) (st' := [.int (30 + p1), .ref 94]) (g' := g) (by decide +kernel) rfl ?_
    obtain ⟨h2, H⟩ := xg_elim H
    refine xiald A (nxt := 17) (by decide +kernel) (hS _ _ sh_94) h2 ?_
    show xW k S 0 0 17 [some (.ref 60), some (.int p1)] [.int (g.1 94 (30 + p1).toNatClampNeg)] g
    refine xif_ne A (7) 24 20 (by decide +kernel) (fun h3 => ?_) (fun h3 => ?_)
    · rw [if_neg h3] at H
      refine xb A [(.iconst 0, 1, 0, 0, .int 0)] (pc' := 25) (ls' := [some (.ref 60), some (.int p1)]) (st' := [.int 0]) (g' := g) (by decide +kernel) rfl ?_
      obtain rfl := Option.some.inj H
      exact xret_i A hR hz (by decide +kernel) rfl ⟨rfl, rfl⟩
    · rw [if_pos h3] at H
      refine xb A [(.iconst 1, 1, 0, 0, .int 1)] (pc' := 21) (ls' := [some (.ref 60), some (.int p1)]) (st' := [.int 1]) (g' := g) (by decide +kernel) rfl ?_
      refine xgoto A (4) 25 (by decide +kernel) ?_
      obtain rfl := Option.some.inj H
      exact xret_i A hR hz (by decide +kernel) rfl ⟨rfl, rfl⟩
def fp_X12_ringerBy_60 : List (Nat × Option Nat) := [(60, some 49), (91, none), (92, none)]
def f_X12_ringerBy_60_53 (k8 : Int32 → Int32 → Int32 → Int32 → xG → Option (Int32 × xG)) (l1 : Int32) (l2 : Int32) (l3 : Int32) (l4 : Int32) (s0 : Int32) (g : xG) : Option (Int32 × xG) :=
  if l3 < s0 then
    k8 l1 l4 s0 (l4 + 1) g
  else
    k8 l1 l2 l3 (l4 + 1) g
def f_X12_ringerBy_60_8  : Nat → Int32 → Int32 → Int32 → Int32 → xG → Option (Int32 × xG)
  | 0, _, _, _, _, _ => none
  | n + 1, l1, l2, l3, l4, g =>
    xg (¬ ((g.1 60 18) < 0 ∨ 2 ≤ (g.1 60 18).toNatClampNeg)) (
      if (g.1 75 (g.1 60 18).toNatClampNeg) ≤ l4 then
        some (l2, g)
      else
        (f_X12_mayRing_60 l4 g).bind fun w1 =>
        if w1 = 0 then
          f_X12_ringerBy_60_8 n l1 l2 l3 (l4 + 1) g
        else
          if l1 = 0 then
            (f_X12_claimOf_60 l4 g).bind fun w2 =>
            f_X12_ringerBy_60_53 (f_X12_ringerBy_60_8 n) l1 l2 l3 l4 w2.1 w2.2
          else
            (f_X12_farOf_60 l4 g).bind fun w3 =>
            f_X12_ringerBy_60_53 (f_X12_ringerBy_60_8 n) l1 l2 l3 l4 w3 g)
def f_X12_ringerBy_60 (p1 : Int32) (g : xG) : Option (Int32 × xG) :=
  f_X12_ringerBy_60_8 xN p1 (-2) (-1) 0 g
set_option maxRecDepth 20000 in
theorem t_X12_ringerBy_60_53 {k : xK} {S : List xSh} {out : Int32 × xG} (hS : xpf SH2 S) (A : xAt k mX12_ringerBy.2.1 12 SH2 S) (hR : xRet k 0 0 S (fun r g' => r = some (.int out.1) ∧ g' = out.2) mX12_ringerBy.2.2.2) (hrm : xrm k = { frames := 5, cells := 0, slots := 0, locals := 108 }) (hz : xhs k = xb0 k + S.length) {k8 : Int32 → Int32 → Int32 → Int32 → xG → Option (Int32 × xG)} (hk8 : ∀ (l1 : Int32) (l2 : Int32) (l3 : Int32) (l4 : Int32) (g : xG), k8 l1 l2 l3 l4 g = some out → xW k S 0 0 8 [some (.ref 60), some (.int l1), some (.int l2), some (.int l3), some (.int l4), none] [] g) : ∀ (l1 : Int32) (l2 : Int32) (l3 : Int32) (l4 : Int32) (s0 : Int32) (g : xG), f_X12_ringerBy_60_53 k8 l1 l2 l3 l4 s0 g = some out → xW k S 0 0 53 [some (.ref 60), some (.int l1), some (.int l2), some (.int l3), some (.int l4), none] [.int s0] g := by
  intro l1 l2 l3 l4 s0 g H
  have H : (if l3 < s0 then
  k8 l1 l4 s0 (l4 + 1) g
else
  k8 l1 l2 l3 (l4 + 1) g) = some out := H
  refine xb A [(.istore 5, 2, 0, 0, .null), (.iload 5, 2, 0, 0, .null), (.iload_n 3, 1, 0, 0, .null)] (pc' := 58) (ls' := [some (.ref 60), some (.int l1), some (.int l2), some (.int l3), some (.int l4), some (.int s0)]) (st' := [.int l3, .int s0]) (g' := g) (by decide +kernel) rfl ?_
  refine xic_gt A (6) 64 61 (by decide +kernel) (fun h5 => ?_) (fun h5 => ?_)
  · rw [if_pos h5] at H
    refine xb A [(.iload 4, 2, 0, 0, .null), (.istore_n 2, 1, 0, 0, .null), (.iload 5, 2, 0, 0, .null), (.istore_n 3, 1, 0, 0, .null), (.iinc 4 1, 3, 0, 0, .null)] (pc' := 73) (ls' := [some (.ref 60), some (.int l1), some (.int l4), some (.int s0), some (.int (l4 + 1)), some (.int s0)]) (st' := []) (g' := g) (by decide +kernel) rfl ?_
    refine xgoto A (-65) 8 (by decide +kernel) ?_
    refine xweak (ls' := [some (.ref 60), some (.int l1), some (.int l4), some (.int s0), some (.int (l4 + 1)), none]) (by exact ⟨rfl, ⟨rfl, ⟨rfl, ⟨rfl, ⟨rfl, trivial⟩⟩⟩⟩⟩) ?_
    exact hk8 _ _ _ _ _ H
  · rw [if_neg h5] at H
    refine xgoto A (9) 70 (by decide +kernel) ?_
    refine xb A [(.iinc 4 1, 3, 0, 0, .null)] (pc' := 73) (ls' := [some (.ref 60), some (.int l1), some (.int l2), some (.int l3), some (.int (l4 + 1)), some (.int s0)]) (st' := []) (g' := g) (by decide +kernel) rfl ?_
    refine xgoto A (-65) 8 (by decide +kernel) ?_
    refine xweak (ls' := [some (.ref 60), some (.int l1), some (.int l2), some (.int l3), some (.int (l4 + 1)), none]) (by exact ⟨rfl, ⟨rfl, ⟨rfl, ⟨rfl, ⟨rfl, trivial⟩⟩⟩⟩⟩) ?_
    exact hk8 _ _ _ _ _ H
theorem fr_X12_ringerBy_60_53 {k8 : Int32 → Int32 → Int32 → Int32 → xG → Option (Int32 × xG)} (hk8 : ∀ (l1 : Int32) (l2 : Int32) (l3 : Int32) (l4 : Int32) (g : xG) (out : Int32 × xG), k8 l1 l2 l3 l4 g = some out → xfrm fp_X12_ringerBy_60 g (out.2)) : ∀ (l1 : Int32) (l2 : Int32) (l3 : Int32) (l4 : Int32) (s0 : Int32) (g : xG) (out : Int32 × xG), f_X12_ringerBy_60_53 k8 l1 l2 l3 l4 s0 g = some out → xfrm fp_X12_ringerBy_60 g (out.2) := by
  intro l1 l2 l3 l4 s0 g out H
  have H : (if l3 < s0 then
  k8 l1 l4 s0 (l4 + 1) g
else
  k8 l1 l2 l3 (l4 + 1) g) = some out := H
  by_cases h5 : l3 < s0
  · rw [if_pos h5] at H
    exact xfrm.tr xfrm.rf (hk8 _ _ _ _ _ _ H) rfl
  · rw [if_neg h5] at H
    exact xfrm.tr xfrm.rf (hk8 _ _ _ _ _ _ H) rfl
set_option maxRecDepth 20000 in
theorem t_X12_ringerBy_60_8 {k : xK} {S : List xSh} {out : Int32 × xG} (hS : xpf SH2 S) (A : xAt k mX12_ringerBy.2.1 12 SH2 S) (hR : xRet k 0 0 S (fun r g' => r = some (.int out.1) ∧ g' = out.2) mX12_ringerBy.2.2.2) (hrm : xrm k = { frames := 5, cells := 0, slots := 0, locals := 108 }) (hz : xhs k = xb0 k + S.length)   : ∀ (n : Nat) (l1 : Int32) (l2 : Int32) (l3 : Int32) (l4 : Int32) (g : xG), f_X12_ringerBy_60_8 n l1 l2 l3 l4 g = some out → xW k S 0 0 8 [some (.ref 60), some (.int l1), some (.int l2), some (.int l3), some (.int l4), none] [] g := by
  intro n
  induction n with
  | zero => intro l1 l2 l3 l4 g H; exact absurd H (by simp [f_X12_ringerBy_60_8])
  | succ n ih =>
    intro l1 l2 l3 l4 g H
    have H : (xg (¬ ((g.1 60 18) < 0 ∨ 2 ≤ (g.1 60 18).toNatClampNeg)) (
  if (g.1 75 (g.1 60 18).toNatClampNeg) ≤ l4 then
    some (l2, g)
  else
    (f_X12_mayRing_60 l4 g).bind fun w1 =>
    if w1 = 0 then
      f_X12_ringerBy_60_8 n l1 l2 l3 (l4 + 1) g
    else
      if l1 = 0 then
        (f_X12_claimOf_60 l4 g).bind fun w2 =>
        f_X12_ringerBy_60_53 (f_X12_ringerBy_60_8 n) l1 l2 l3 l4 w2.1 w2.2
      else
        (f_X12_farOf_60 l4 g).bind fun w3 =>
        f_X12_ringerBy_60_53 (f_X12_ringerBy_60_8 n) l1 l2 l3 l4 w3 g)) = some out := H
    refine xb A [(.iload 4, 2, 0, 0, .null), (.aload_n 0, 1, 0, 0, .null), (.getfield 61, 3, 60, 28, .ref 75), (.aload_n 0, 1, 0, 0, .null), (.getfield 227, 3, 60, 18, .int 0)] (pc' := 18) (ls' := [some (.ref 60), some (.int l1), some (.int l2), some (.int l3), some (.int l4), none]) (st' := [.int (g.1 60 18), .ref 75, .int l4]) (g' := g) (by decide +kernel) rfl ?_
    obtain ⟨h1, H⟩ := xg_elim H
    refine xiald A (nxt := 19) (by decide +kernel) (hS _ _ sh_75) h1 ?_
    show xW k S 0 0 19 [some (.ref 60), some (.int l1), some (.int l2), some (.int l3), some (.int l4), none] [.int (g.1 75 (g.1 60 18).toNatClampNeg), .int l4] g
    refine xic_ge A (57) 76 22 (by decide +kernel) (fun h2 => ?_) (fun h2 => ?_)
    · rw [if_pos h2] at H
      refine xb A [(.iload_n 2, 1, 0, 0, .null)] (pc' := 77) (ls' := [some (.ref 60), some (.int l1), some (.int l2), some (.int l3), some (.int l4), none]) (st' := [.int l2]) (g' := g) (by decide +kernel) rfl ?_
      obtain rfl := Option.some.inj H
      exact xret_i A hR hz (by decide +kernel) rfl ⟨rfl, rfl⟩
    · rw [if_neg h2] at H
      refine xb A [(.aload_n 0, 1, 0, 0, .null), (.iload 4, 2, 0, 0, .null)] (pc' := 25) (ls' := [some (.ref 60), some (.int l1), some (.int l2), some (.int l3), some (.int l4), none]) (st' := [.int l4, .ref 60]) (g' := g) (by decide +kernel) rfl ?_
      obtain ⟨w1, e1, H⟩ := xbind H
      refine xcallV A (ix := 365) (nxt := 28) hrm hz [.int l4] [] 1844 (c_X12_mayRing_60 hS _ e1) ok_X12_mayRing (by decide +kernel) rfl (fun r g1 hq => ?_)
      rw [hq.1, hq.2]
      show xW k S 0 0 28 [some (.ref 60), some (.int l1), some (.int l2), some (.int l3), some (.int l4), none] [.int w1] g
      refine xif_ne A (6) 34 31 (by decide +kernel) (fun h3 => ?_) (fun h3 => ?_)
      · rw [if_neg h3] at H
        refine xb A [(.iload_n 1, 1, 0, 0, .null)] (pc' := 35) (ls' := [some (.ref 60), some (.int l1), some (.int l2), some (.int l3), some (.int l4), none]) (st' := [.int l1]) (g' := g) (by decide +kernel) rfl ?_
        refine xif_eq A (12) 47 38 (by decide +kernel) (fun h4 => ?_) (fun h4 => ?_)
        · rw [if_pos h4] at H
          refine xb A [(.aload_n 0, 1, 0, 0, .null), (.iload 4, 2, 0, 0, .null)] (pc' := 50) (ls' := [some (.ref 60), some (.int l1), some (.int l2), some (.int l3), some (.int l4), none]) (st' := [.int l4, .ref 60]) (g' := g) (by decide +kernel) rfl ?_
          obtain ⟨w2, e2, H⟩ := xbind H
          refine xcallV A (ix := 362) (nxt := 53) hrm hz [.int l4] [] 1751 (c_X12_claimOf_60 hS _ e2) ok_X12_claimOf (by decide +kernel) rfl (fun r g1 hq => ?_)
          rw [hq.1, hq.2]
          show xW k S 0 0 53 [some (.ref 60), some (.int l1), some (.int l2), some (.int l3), some (.int l4), none] [.int w2.1] w2.2
          exact t_X12_ringerBy_60_53 hS A hR hrm hz ih _ _ _ _ _ _ H
        · rw [if_neg h4] at H
          refine xb A [(.aload_n 0, 1, 0, 0, .null), (.iload 4, 2, 0, 0, .null)] (pc' := 41) (ls' := [some (.ref 60), some (.int l1), some (.int l2), some (.int l3), some (.int l4), none]) (st' := [.int l4, .ref 60]) (g' := g) (by decide +kernel) rfl ?_
          obtain ⟨w3, e3, H⟩ := xbind H
          refine xcallV A (ix := 354) (nxt := 44) hrm hz [.int l4] [] 1747 (c_X12_farOf_60 hS _ e3) ok_X12_farOf (by decide +kernel) rfl (fun r g1 hq => ?_)
          rw [hq.1, hq.2]
          show xW k S 0 0 44 [some (.ref 60), some (.int l1), some (.int l2), some (.int l3), some (.int l4), none] [.int w3] g
          refine xgoto A (9) 53 (by decide +kernel) ?_
          exact t_X12_ringerBy_60_53 hS A hR hrm hz ih _ _ _ _ _ _ H
      · rw [if_pos h3] at H
        refine xgoto A (39) 70 (by decide +kernel) ?_
        refine xb A [(.iinc 4 1, 3, 0, 0, .null)] (pc' := 73) (ls' := [some (.ref 60), some (.int l1), some (.int l2), some (.int l3), some (.int (l4 + 1)), none]) (st' := []) (g' := g) (by decide +kernel) rfl ?_
        refine xgoto A (-65) 8 (by decide +kernel) ?_
        exact ih _ _ _ _ _ H
theorem fr_X12_ringerBy_60_8   : ∀ (n : Nat) (l1 : Int32) (l2 : Int32) (l3 : Int32) (l4 : Int32) (g : xG) (out : Int32 × xG), f_X12_ringerBy_60_8 n l1 l2 l3 l4 g = some out → xfrm fp_X12_ringerBy_60 g (out.2) := by
  intro n
  induction n with
  | zero => intro l1 l2 l3 l4 g out H; exact absurd H (by simp [f_X12_ringerBy_60_8])
  | succ n ih =>
    intro l1 l2 l3 l4 g out H
    have H : (xg (¬ ((g.1 60 18) < 0 ∨ 2 ≤ (g.1 60 18).toNatClampNeg)) (
  if (g.1 75 (g.1 60 18).toNatClampNeg) ≤ l4 then
    some (l2, g)
  else
    (f_X12_mayRing_60 l4 g).bind fun w1 =>
    if w1 = 0 then
      f_X12_ringerBy_60_8 n l1 l2 l3 (l4 + 1) g
    else
      if l1 = 0 then
        (f_X12_claimOf_60 l4 g).bind fun w2 =>
        f_X12_ringerBy_60_53 (f_X12_ringerBy_60_8 n) l1 l2 l3 l4 w2.1 w2.2
      else
        (f_X12_farOf_60 l4 g).bind fun w3 =>
        f_X12_ringerBy_60_53 (f_X12_ringerBy_60_8 n) l1 l2 l3 l4 w3 g)) = some out := H
    obtain ⟨h1, H⟩ := xg_elim H
    by_cases h2 : (g.1 75 (g.1 60 18).toNatClampNeg) ≤ l4
    · rw [if_pos h2] at H
      obtain rfl := Option.some.inj H
      exact xfrm.rf
    · rw [if_neg h2] at H
      obtain ⟨w1, e1, H⟩ := xbind H
      by_cases h3 : w1 = 0
      · rw [if_pos h3] at H
        exact xfrm.tr xfrm.rf (ih _ _ _ _ _ _ H) rfl
      · rw [if_neg h3] at H
        by_cases h4 : l1 = 0
        · rw [if_pos h4] at H
          obtain ⟨w2, e2, H⟩ := xbind H
          have hf1 : xfrm fp_X12_ringerBy_60 g (w2.2) := xfrm.tr xfrm.rf (fr_X12_claimOf_60 _ e2) rfl
          exact xfrm.tr hf1 (fr_X12_ringerBy_60_53 ih _ _ _ _ _ _ _ H) rfl
        · rw [if_neg h4] at H
          obtain ⟨w3, e3, H⟩ := xbind H
          exact xfrm.tr xfrm.rf (fr_X12_ringerBy_60_53 ih _ _ _ _ _ _ _ H) rfl
set_option maxRecDepth 20000 in
theorem c_X12_ringerBy_60 {S : List xSh} (hS : xpf SH2 S) {g : xG} {p1 : Int32} (out : Int32 × xG) (H : f_X12_ringerBy_60 p1 g = some out) : xC mX12_ringerBy 5 108 0 0 S [.ref 60, .int p1] g S (fun r g' => r = some (.int out.1) ∧ g' = out.2) := by
  have H : (f_X12_ringerBy_60_8 xN p1 (-2) (-1) 0 g) = some out := H
  refine xC.of 12 SH2 [some (.ref 60), some (.int p1), none, none, none, none] hS (by decide +kernel) rfl (fun _ _ => Nat.le_of_ble_eq_true rfl) (fun _ _ => rfl) ?_
  intro k A hR hrm hz
  refine xb A [(.bipush (-2), 2, 0, 0, .int (-2)), (.istore_n 2, 1, 0, 0, .null), (.iconst (-1), 1, 0, 0, .int (-1)), (.istore_n 3, 1, 0, 0, .null), (.iconst 0, 1, 0, 0, .int 0), (.istore 4, 2, 0, 0, .null)] (pc' := 8) (ls' := [some (.ref 60), some (.int p1), some (.int (-2)), some (.int (-1)), some (.int 0), none]) (st' := []) (g' := g) (by decide +kernel) rfl ?_
  exact t_X12_ringerBy_60_8 hS A hR hrm hz _ _ _ _ _ _ H
theorem fr_X12_ringerBy_60 {p1 : Int32} {g : xG} (out : Int32 × xG) (H : f_X12_ringerBy_60 p1 g = some out) : xfrm fp_X12_ringerBy_60 g (out.2) := by
  have H : (f_X12_ringerBy_60_8 xN p1 (-2) (-1) 0 g) = some out := H
  exact xfrm.tr xfrm.rf (fr_X12_ringerBy_60_8 _ _ _ _ _ _ _ H) rfl
def fp_X12_ringerNow_60 : List (Nat × Option Nat) := [(60, some 49), (91, none), (92, none)]
def f_X12_ringerNow_60  (g : xG) : Option (Int32 × xG) :=
  (f_X12_ringerBy_60 0 g).bind fun w1 =>
  some (w1.1, w1.2)
set_option maxRecDepth 20000 in
theorem c_X12_ringerNow_60 {S : List xSh} (hS : xpf SH2 S) {g : xG}  (out : Int32 × xG) (H : f_X12_ringerNow_60  g = some out) : xC mX12_ringerNow 6 133 0 0 S [.ref 60] g S (fun r g' => r = some (.int out.1) ∧ g' = out.2) := by
  have H : ((f_X12_ringerBy_60 0 g).bind fun w1 =>
some (w1.1, w1.2)) = some out := H
  refine xC.of 12 SH2 [some (.ref 60)] hS (by decide +kernel) rfl (fun _ _ => Nat.le_of_ble_eq_true rfl) (fun _ _ => rfl) ?_
  intro k A hR hrm hz
  refine xb A [(.aload_n 0, 1, 0, 0, .null), (.iconst 0, 1, 0, 0, .int 0)] (pc' := 2) (ls' := [some (.ref 60)]) (st' := [.int 0, .ref 60]) (g' := g) (by decide +kernel) rfl ?_
  obtain ⟨w1, e1, H⟩ := xbind H
  refine xcallV A (ix := 368) (nxt := 5) hrm hz [.int 0] [] 1840 (c_X12_ringerBy_60 hS _ e1) ok_X12_ringerBy (by decide +kernel) rfl (fun r g1 hq => ?_)
  rw [hq.1, hq.2]
  show xW k S 0 0 5 [some (.ref 60)] [.int w1.1] w1.2
  obtain rfl := Option.some.inj H
  exact xret_i A hR hz (by decide +kernel) rfl ⟨rfl, rfl⟩
theorem fr_X12_ringerNow_60  {g : xG} (out : Int32 × xG) (H : f_X12_ringerNow_60  g = some out) : xfrm fp_X12_ringerNow_60 g (out.2) := by
  have H : ((f_X12_ringerBy_60 0 g).bind fun w1 =>
some (w1.1, w1.2)) = some out := H
  obtain ⟨w1, e1, H⟩ := xbind H
  have hf1 : xfrm fp_X12_ringerNow_60 g (w1.2) := xfrm.tr xfrm.rf (fr_X12_ringerBy_60 _ e1) rfl
  obtain rfl := Option.some.inj H
  exact hf1
def fp_X12_doesLie_60 : List (Nat × Option Nat) := [(60, some 49), (91, none), (92, none)]
def f_X12_doesLie_60 (p1 : Int32) (g : xG) : Option (Int32 × xG) :=
  (f_X12_claimOf_60 p1 g).bind fun w1 =>
  (f_X12_farOf_60 p1 w1.2).bind fun w2 =>
  if w1.1 = w2 then
    some (0, w1.2)
  else
    some (1, w1.2)
set_option maxRecDepth 20000 in
theorem c_X12_doesLie_60 {S : List xSh} (hS : xpf SH2 S) {g : xG} {p1 : Int32} (out : Int32 × xG) (H : f_X12_doesLie_60 p1 g = some out) : xC mX12_doesLie 5 108 0 0 S [.ref 60, .int p1] g S (fun r g' => r = some (.int out.1) ∧ g' = out.2) := by
  have H : ((f_X12_claimOf_60 p1 g).bind fun w1 =>
(f_X12_farOf_60 p1 w1.2).bind fun w2 =>
if w1.1 = w2 then
  some (0, w1.2)
else
  some (1, w1.2)) = some out := H
  refine xC.of 12 SH2 [some (.ref 60), some (.int p1)] hS (by decide +kernel) rfl (fun _ _ => Nat.le_of_ble_eq_true rfl) (fun _ _ => rfl) ?_
  intro k A hR hrm hz
  refine xb A [(.aload_n 0, 1, 0, 0, .null), (.iload_n 1, 1, 0, 0, .null)] (pc' := 2) (ls' := [some (.ref 60), some (.int p1)]) (st' := [.int p1, .ref 60]) (g' := g) (by decide +kernel) rfl ?_
  obtain ⟨w1, e1, H⟩ := xbind H
  refine xcallV A (ix := 362) (nxt := 5) hrm hz [.int p1] [] 1751 (c_X12_claimOf_60 hS _ e1) ok_X12_claimOf (by decide +kernel) rfl (fun r g1 hq => ?_)
  rw [hq.1, hq.2]
  show xW k S 0 0 5 [some (.ref 60), some (.int p1)] [.int w1.1] w1.2
  refine xb A [(.aload_n 0, 1, 0, 0, .null), (.iload_n 1, 1, 0, 0, .null)] (pc' := 7) (ls' := [some (.ref 60), some (.int p1)]) (st' := [.int p1, .ref 60, .int w1.1]) (g' := w1.2) (by decide +kernel) rfl ?_
  obtain ⟨w2, e2, H⟩ := xbind H
  refine xcallV A (ix := 354) (nxt := 10) hrm hz [.int p1] [.int w1.1] 1747 (c_X12_farOf_60 hS _ e2) ok_X12_farOf (by decide +kernel) rfl (fun r g1 hq => ?_)
  rw [hq.1, hq.2]
  show xW k S 0 0 10 [some (.ref 60), some (.int p1)] [.int w2, .int w1.1] w1.2
  refine xic_eq A (7) 17 13 (by decide +kernel) (fun h1 => ?_) (fun h1 => ?_)
  · rw [if_pos h1] at H
    refine xb A [(.iconst 0, 1, 0, 0, .int 0)] (pc' := 18) (ls' := [some (.ref 60), some (.int p1)]) (st' := [.int 0]) (g' := w1.2) (by decide +kernel) rfl ?_
    obtain rfl := Option.some.inj H
    exact xret_i A hR hz (by decide +kernel) rfl ⟨rfl, rfl⟩
  · rw [if_neg h1] at H
    refine xb A [(.iconst 1, 1, 0, 0, .int 1)] (pc' := 14) (ls' := [some (.ref 60), some (.int p1)]) (st' := [.int 1]) (g' := w1.2) (by decide +kernel) rfl ?_
    refine xgoto A (4) 18 (by decide +kernel) ?_
    obtain rfl := Option.some.inj H
    exact xret_i A hR hz (by decide +kernel) rfl ⟨rfl, rfl⟩
theorem fr_X12_doesLie_60 {p1 : Int32} {g : xG} (out : Int32 × xG) (H : f_X12_doesLie_60 p1 g = some out) : xfrm fp_X12_doesLie_60 g (out.2) := by
  have H : ((f_X12_claimOf_60 p1 g).bind fun w1 =>
(f_X12_farOf_60 p1 w1.2).bind fun w2 =>
if w1.1 = w2 then
  some (0, w1.2)
else
  some (1, w1.2)) = some out := H
  obtain ⟨w1, e1, H⟩ := xbind H
  have hf1 : xfrm fp_X12_doesLie_60 g (w1.2) := xfrm.tr xfrm.rf (fr_X12_claimOf_60 _ e1) rfl
  obtain ⟨w2, e2, H⟩ := xbind H
  by_cases h1 : w1.1 = w2
  · rw [if_pos h1] at H
    obtain rfl := Option.some.inj H
    exact hf1
  · rw [if_neg h1] at H
    obtain rfl := Option.some.inj H
    exact hf1
def f_X12_mixed (p0 : Int32) (p1 : Int32) : Int32 :=
  (((p0 ^^^ p1) * 1103515245) + 12345) ^^^ (((((p0 ^^^ p1) * 1103515245) + 12345).toUInt32 >>> ((15 : Int32).toUInt32 &&& Int32.toUInt32 31)).toInt32)
set_option maxRecDepth 20000 in
theorem c_X12_mixed {S : List xSh} (hS : xpf SH2 S) {g : xG} {p0 : Int32} {p1 : Int32} (out : Int32) (H : f_X12_mixed p0 p1 = out) : xC mX12_mixed 0 0 0 0 S [.int p0, .int p1] g S (fun r g' => r = some (.int out) ∧ g' = g) := by
  have H : ((((p0 ^^^ p1) * 1103515245) + 12345) ^^^ (((((p0 ^^^ p1) * 1103515245) + 12345).toUInt32 >>> ((15 : Int32).toUInt32 &&& Int32.toUInt32 31)).toInt32)) = out := H
  refine xC.of 12 SH2 [some (.int p0), some (.int p1), none] hS (by decide +kernel) rfl (fun _ _ => Nat.le_of_ble_eq_true rfl) (fun _ _ => rfl) ?_
  intro k A hR hrm hz
  refine xb A [(.iload_n 0, 1, 0, 0, .null), (.iload_n 1, 1, 0, 0, .null), (.ixor, 1, 0, 0, .null), (.ldc_w 323, 3, 0, 0, .int 1103515245), (.imul, 1, 0, 0, .null), (.sipush 12345, 3, 0, 0, .int 12345), (.iadd, 1, 0, 0, .null), (.istore_n 2, 1, 0, 0, .null), (.iload_n 2, 1, 0, 0, .null), (.iload_n 2, 1, 0, 0, .null), (.bipush 15, 2, 0, 0, .int 15), (.iushr, 1, 0, 0, .null), (.ixor, 1, 0, 0, .null)] (pc' := 18) (ls' := [some (.int p0), some (.int p1), some (.int (((p0 ^^^ p1) * 1103515245) + 12345))]) (st' := [.int ((((p0 ^^^ p1) * 1103515245) + 12345) ^^^ (((((p0 ^^^ p1) * 1103515245) + 12345).toUInt32 >>> ((15 : Int32).toUInt32 &&& Int32.toUInt32 31)).toInt32))]) (g' := g) (by decide +kernel) rfl ?_
  subst H
  exact xret_i A hR hz (by decide +kernel) rfl ⟨rfl, rfl⟩
def f_X12_lotOf_60 (p1 : Int32) (g : xG) : Option (Int32) :=
  xg (¬ (100 : Int32) = 0) (
    some ((((f_X12_mixed (f_X12_mixed (g.1 60 52) 191) p1).toUInt32 >>> ((1 : Int32).toUInt32 &&& Int32.toUInt32 31)).toInt32) - (((f_X12_mixed (f_X12_mixed (g.1 60 52) 191) p1).toUInt32 >>> ((1 : Int32).toUInt32 &&& Int32.toUInt32 31)).toInt32) / 100 * 100))
set_option maxRecDepth 20000 in
theorem c_X12_lotOf_60 {S : List xSh} (hS : xpf SH2 S) {g : xG} {p1 : Int32} (out : Int32) (H : f_X12_lotOf_60 p1 g = some out) : xC mX12_lotOf 1 22 0 0 S [.ref 60, .int p1] g S (fun r g' => r = some (.int out) ∧ g' = g) := by
  have H : (xg (¬ (100 : Int32) = 0) (
  some ((((f_X12_mixed (f_X12_mixed (g.1 60 52) 191) p1).toUInt32 >>> ((1 : Int32).toUInt32 &&& Int32.toUInt32 31)).toInt32) - (((f_X12_mixed (f_X12_mixed (g.1 60 52) 191) p1).toUInt32 >>> ((1 : Int32).toUInt32 &&& Int32.toUInt32 31)).toInt32) / 100 * 100))) = some out := H
  refine xC.of 12 SH2 [some (.ref 60), some (.int p1)] hS (by decide +kernel) rfl (fun _ _ => Nat.le_of_ble_eq_true rfl) (fun _ _ => rfl) ?_
  intro k A hR hrm hz
  refine xb A [(.aload_n 0, 1, 0, 0, .null), (.getfield 311, 3, 60, 52, .int 0), (.sipush 191, 3, 0, 0, .int 191)] (pc' := 7) (ls' := [some (.ref 60), some (.int p1)]) (st' := [.int 191, .int (g.1 60 52)]) (g' := g) (by decide +kernel) rfl ?_
  refine xcallS A (ix := 324) (nxt := 10) hrm hz [.int (g.1 60 52), .int 191] [] 1856 (c_X12_mixed hS _ rfl) ok_X12_mixed (by decide +kernel) rfl (fun r g1 hq => ?_)
  rw [hq.1, hq.2]
  show xW k S 0 0 10 [some (.ref 60), some (.int p1)] [.int (f_X12_mixed (g.1 60 52) 191)] g
  refine xb A [(.iload_n 1, 1, 0, 0, .null)] (pc' := 11) (ls' := [some (.ref 60), some (.int p1)]) (st' := [.int p1, .int (f_X12_mixed (g.1 60 52) 191)]) (g' := g) (by decide +kernel) rfl ?_
  refine xcallS A (ix := 324) (nxt := 14) hrm hz [.int (f_X12_mixed (g.1 60 52) 191), .int p1] [] 1856 (c_X12_mixed hS _ rfl) ok_X12_mixed (by decide +kernel) rfl (fun r g1 hq => ?_)
  rw [hq.1, hq.2]
  show xW k S 0 0 14 [some (.ref 60), some (.int p1)] [.int (f_X12_mixed (f_X12_mixed (g.1 60 52) 191) p1)] g
  refine xb A [(.iconst 1, 1, 0, 0, .int 1), (.iushr, 1, 0, 0, .null), (.bipush 100, 2, 0, 0, .int 100)] (pc' := 18) (ls' := [some (.ref 60), some (.int p1)]) (st' := [.int 100, .int (((f_X12_mixed (f_X12_mixed (g.1 60 52) 191) p1).toUInt32 >>> ((1 : Int32).toUInt32 &&& Int32.toUInt32 31)).toInt32)]) (g' := g) (by decide +kernel) rfl ?_
  obtain ⟨h1, H⟩ := xg_elim H
  refine xirem A (nxt := 19) (by decide +kernel) h1 ?_
  obtain rfl := Option.some.inj H
  exact xret_i A hR hz (by decide +kernel) rfl ⟨rfl, rfl⟩
def f_X12_otherEnd_60 (p1 : Int32) (p2 : Int32) (g : xG) : Option (Int32) :=
  xg (¬ (((10 * (g.1 60 18)) + p1) < 0 ∨ 20 ≤ ((10 * (g.1 60 18)) + p1).toNatClampNeg)) (
    xg (¬ (((10 * (g.1 60 18)) + p1) < 0 ∨ 20 ≤ ((10 * (g.1 60 18)) + p1).toNatClampNeg)) (
      some (((g.1 72 ((10 * (g.1 60 18)) + p1).toNatClampNeg) + (g.1 73 ((10 * (g.1 60 18)) + p1).toNatClampNeg)) - p2)))
set_option maxRecDepth 20000 in
theorem c_X12_otherEnd_60 {S : List xSh} (hS : xpf SH2 S) {g : xG} {p1 : Int32} {p2 : Int32} (out : Int32) (H : f_X12_otherEnd_60 p1 p2 g = some out) : xC mX12_otherEnd 0 0 0 0 S [.ref 60, .int p1, .int p2] g S (fun r g' => r = some (.int out) ∧ g' = g) := by
  have H : (xg (¬ (((10 * (g.1 60 18)) + p1) < 0 ∨ 20 ≤ ((10 * (g.1 60 18)) + p1).toNatClampNeg)) (
  xg (¬ (((10 * (g.1 60 18)) + p1) < 0 ∨ 20 ≤ ((10 * (g.1 60 18)) + p1).toNatClampNeg)) (
    some (((g.1 72 ((10 * (g.1 60 18)) + p1).toNatClampNeg) + (g.1 73 ((10 * (g.1 60 18)) + p1).toNatClampNeg)) - p2)))) = some out := H
  refine xC.of 12 SH2 [some (.ref 60), some (.int p1), some (.int p2)] hS (by decide +kernel) rfl (fun _ _ => Nat.le_of_ble_eq_true rfl) (fun _ _ => rfl) ?_
  intro k A hR hrm hz
  refine xb A [(.aload_n 0, 1, 0, 0, .null), (.getfield 52, 3, 60, 25, .ref 72), (.bipush 10, 2, 0, 0, .int 10), (.aload_n 0, 1, 0, 0, .null), (.getfield 227, 3, 60, 18, .int 0), (.imul, 1, 0, 0, .null), (.iload_n 1, 1, 0, 0, .null), (.iadd, 1, 0, 0, .null)] (pc' := 13) (ls' := [some (.ref 60), some (.int p1), some (.int p2)]) (st' := [.int ((10 * (g.1 60 18)) + p1), .ref 72]) (g' := g) (by decide +kernel) rfl ?_
  obtain ⟨h1, H⟩ := xg_elim H
  refine xiald A (nxt := 14) (by decide +kernel) (hS _ _ sh_72) h1 ?_
  show xW k S 0 0 14 [some (.ref 60), some (.int p1), some (.int p2)] [.int (g.1 72 ((10 * (g.1 60 18)) + p1).toNatClampNeg)] g
  refine xb A [(.aload_n 0, 1, 0, 0, .null), (.getfield 55, 3, 60, 26, .ref 73), (.bipush 10, 2, 0, 0, .int 10), (.aload_n 0, 1, 0, 0, .null), (.getfield 227, 3, 60, 18, .int 0), (.imul, 1, 0, 0, .null), (.iload_n 1, 1, 0, 0, .null), (.iadd, 1, 0, 0, .null)] (pc' := 27) (ls' := [some (.ref 60), some (.int p1), some (.int p2)]) (st' := [.int ((10 * (g.1 60 18)) + p1), .ref 73, .int (g.1 72 ((10 * (g.1 60 18)) + p1).toNatClampNeg)]) (g' := g) (by decide +kernel) rfl ?_
  obtain ⟨h2, H⟩ := xg_elim H
  refine xiald A (nxt := 28) (by decide +kernel) (hS _ _ sh_73) h2 ?_
  show xW k S 0 0 28 [some (.ref 60), some (.int p1), some (.int p2)] [.int (g.1 73 ((10 * (g.1 60 18)) + p1).toNatClampNeg), .int (g.1 72 ((10 * (g.1 60 18)) + p1).toNatClampNeg)] g
  refine xb A [(.iadd, 1, 0, 0, .null), (.iload_n 2, 1, 0, 0, .null), (.isub, 1, 0, 0, .null)] (pc' := 31) (ls' := [some (.ref 60), some (.int p1), some (.int p2)]) (st' := [.int (((g.1 72 ((10 * (g.1 60 18)) + p1).toNatClampNeg) + (g.1 73 ((10 * (g.1 60 18)) + p1).toNatClampNeg)) - p2)]) (g' := g) (by decide +kernel) rfl ?_
  obtain rfl := Option.some.inj H
  exact xret_i A hR hz (by decide +kernel) rfl ⟨rfl, rfl⟩
def f_X12_roadFor_60_9  (g : xG) : Nat → Int32 → Int32 → Int32 → Int32 → Int32 → Option (Int32)
  | 0, _, _, _, _, _ => none
  | n + 1, l1, l2, l3, l4, l5 =>
    xg (¬ ((g.1 60 18) < 0 ∨ 2 ≤ (g.1 60 18).toNatClampNeg)) (
      if (g.1 71 (g.1 60 18).toNatClampNeg) ≤ l5 then
        some l3
      else
        (f_X12_isOpen_60 l5 g).bind fun w1 =>
        if w1 = 0 then
          f_X12_roadFor_60_9 g n l1 l2 l3 l4 (l5 + 1)
        else
          (f_X12_isEnd_60 l5 l1 g).bind fun w2 =>
          if w2 = 0 then
            f_X12_roadFor_60_9 g n l1 l2 l3 l4 (l5 + 1)
          else
            (f_X12_otherEnd_60 l5 l1 g).bind fun w3 =>
            xg (¬ (((7 * w3) + l2) < 0 ∨ 49 ≤ ((7 * w3) + l2).toNatClampNeg)) (
              xg (¬ (((10 * (g.1 60 18)) + l5) < 0 ∨ 20 ≤ ((10 * (g.1 60 18)) + l5).toNatClampNeg)) (
                if 999 ≤ (g.1 95 ((7 * w3) + l2).toNatClampNeg) then
                  f_X12_roadFor_60_9 g n l1 l2 l3 l4 (l5 + 1)
                else
                  if l3 < 0 then
                    f_X12_roadFor_60_9 g n l1 l2 l5 ((g.1 74 ((10 * (g.1 60 18)) + l5).toNatClampNeg) + (g.1 95 ((7 * w3) + l2).toNatClampNeg)) (l5 + 1)
                  else
                    if ((g.1 74 ((10 * (g.1 60 18)) + l5).toNatClampNeg) + (g.1 95 ((7 * w3) + l2).toNatClampNeg)) < l4 then
                      f_X12_roadFor_60_9 g n l1 l2 l5 ((g.1 74 ((10 * (g.1 60 18)) + l5).toNatClampNeg) + (g.1 95 ((7 * w3) + l2).toNatClampNeg)) (l5 + 1)
                    else
                      f_X12_roadFor_60_9 g n l1 l2 l3 l4 (l5 + 1))))
def f_X12_roadFor_60 (p1 : Int32) (p2 : Int32) (g : xG) : Option (Int32) :=
  f_X12_roadFor_60_9 g xN p1 p2 (-2) 0 0
set_option maxRecDepth 20000 in
theorem t_X12_roadFor_60_9 {k : xK} {S : List xSh} {g : xG} {out : Int32} (hS : xpf SH2 S) (A : xAt k mX12_roadFor.2.1 12 SH2 S) (hR : xRet k 0 0 S (fun r g' => r = some (.int out) ∧ g' = g) mX12_roadFor.2.2.2) (hrm : xrm k = { frames := 1, cells := 0, slots := 0, locals := 22 }) (hz : xhs k = xb0 k + S.length)   : ∀ (n : Nat) (l1 : Int32) (l2 : Int32) (l3 : Int32) (l4 : Int32) (l5 : Int32), f_X12_roadFor_60_9 g n l1 l2 l3 l4 l5 = some out → xW k S 0 0 9 [some (.ref 60), some (.int l1), some (.int l2), some (.int l3), some (.int l4), some (.int l5), none, none] [] g := by
  intro n
  induction n with
  | zero => intro l1 l2 l3 l4 l5 H; exact absurd H (by simp [f_X12_roadFor_60_9])
  | succ n ih =>
    intro l1 l2 l3 l4 l5 H
    have H : (xg (¬ ((g.1 60 18) < 0 ∨ 2 ≤ (g.1 60 18).toNatClampNeg)) (
  if (g.1 71 (g.1 60 18).toNatClampNeg) ≤ l5 then
    some l3
  else
    (f_X12_isOpen_60 l5 g).bind fun w1 =>
    if w1 = 0 then
      f_X12_roadFor_60_9 g n l1 l2 l3 l4 (l5 + 1)
    else
      (f_X12_isEnd_60 l5 l1 g).bind fun w2 =>
      if w2 = 0 then
        f_X12_roadFor_60_9 g n l1 l2 l3 l4 (l5 + 1)
      else
        (f_X12_otherEnd_60 l5 l1 g).bind fun w3 =>
        xg (¬ (((7 * w3) + l2) < 0 ∨ 49 ≤ ((7 * w3) + l2).toNatClampNeg)) (
          xg (¬ (((10 * (g.1 60 18)) + l5) < 0 ∨ 20 ≤ ((10 * (g.1 60 18)) + l5).toNatClampNeg)) (
            if 999 ≤ (g.1 95 ((7 * w3) + l2).toNatClampNeg) then
              f_X12_roadFor_60_9 g n l1 l2 l3 l4 (l5 + 1)
            else
              if l3 < 0 then
                f_X12_roadFor_60_9 g n l1 l2 l5 ((g.1 74 ((10 * (g.1 60 18)) + l5).toNatClampNeg) + (g.1 95 ((7 * w3) + l2).toNatClampNeg)) (l5 + 1)
              else
                if ((g.1 74 ((10 * (g.1 60 18)) + l5).toNatClampNeg) + (g.1 95 ((7 * w3) + l2).toNatClampNeg)) < l4 then
                  f_X12_roadFor_60_9 g n l1 l2 l5 ((g.1 74 ((10 * (g.1 60 18)) + l5).toNatClampNeg) + (g.1 95 ((7 * w3) + l2).toNatClampNeg)) (l5 + 1)
                else
                  f_X12_roadFor_60_9 g n l1 l2 l3 l4 (l5 + 1))))) = some out := H
    refine xb A [(.iload 5, 2, 0, 0, .null), (.aload_n 0, 1, 0, 0, .null), (.getfield 49, 3, 60, 24, .ref 71), (.aload_n 0, 1, 0, 0, .null), (.getfield 227, 3, 60, 18, .int 0)] (pc' := 19) (ls' := [some (.ref 60), some (.int l1), some (.int l2), some (.int l3), some (.int l4), some (.int l5), none, none]) (st' := [.int (g.1 60 18), .ref 71, .int l5]) (g' := g) (by decide +kernel) rfl ?_
    obtain ⟨h1, H⟩ := xg_elim H
    refine xiald A (nxt := 20) (by decide +kernel) (hS _ _ sh_71) h1 ?_
    show xW k S 0 0 20 [some (.ref 60), some (.int l1), some (.int l2), some (.int l3), some (.int l4), some (.int l5), none, none] [.int (g.1 71 (g.1 60 18).toNatClampNeg), .int l5] g
    refine xic_ge A (99) 119 23 (by decide +kernel) (fun h2 => ?_) (fun h2 => ?_)
    · rw [if_pos h2] at H
      refine xb A [(.iload_n 3, 1, 0, 0, .null)] (pc' := 120) (ls' := [some (.ref 60), some (.int l1), some (.int l2), some (.int l3), some (.int l4), some (.int l5), none, none]) (st' := [.int l3]) (g' := g) (by decide +kernel) rfl ?_
      obtain rfl := Option.some.inj H
      exact xret_i A hR hz (by decide +kernel) rfl ⟨rfl, rfl⟩
    · rw [if_neg h2] at H
      refine xb A [(.aload_n 0, 1, 0, 0, .null), (.iload 5, 2, 0, 0, .null)] (pc' := 26) (ls' := [some (.ref 60), some (.int l1), some (.int l2), some (.int l3), some (.int l4), some (.int l5), none, none]) (st' := [.int l5, .ref 60]) (g' := g) (by decide +kernel) rfl ?_
      obtain ⟨w1, e1, H⟩ := xbind H
      refine xcallV A (ix := 372) (nxt := 29) hrm hz [.int l5] [] 1711 (c_X12_isOpen_60 hS _ e1) ok_X12_isOpen (by decide +kernel) rfl (fun r g1 hq => ?_)
      rw [hq.1, hq.2]
      show xW k S 0 0 29 [some (.ref 60), some (.int l1), some (.int l2), some (.int l3), some (.int l4), some (.int l5), none, none] [.int w1] g
      refine xif_eq A (84) 113 32 (by decide +kernel) (fun h3 => ?_) (fun h3 => ?_)
      · rw [if_pos h3] at H
        refine xb A [(.iinc 5 1, 3, 0, 0, .null)] (pc' := 116) (ls' := [some (.ref 60), some (.int l1), some (.int l2), some (.int l3), some (.int l4), some (.int (l5 + 1)), none, none]) (st' := []) (g' := g) (by decide +kernel) rfl ?_
        refine xgoto A (-107) 9 (by decide +kernel) ?_
        exact ih _ _ _ _ _ H
      · rw [if_neg h3] at H
        refine xb A [(.aload_n 0, 1, 0, 0, .null), (.iload 5, 2, 0, 0, .null), (.iload_n 1, 1, 0, 0, .null)] (pc' := 36) (ls' := [some (.ref 60), some (.int l1), some (.int l2), some (.int l3), some (.int l4), some (.int l5), none, none]) (st' := [.int l1, .int l5, .ref 60]) (g' := g) (by decide +kernel) rfl ?_
        obtain ⟨w2, e2, H⟩ := xbind H
        refine xcallV A (ix := 375) (nxt := 39) hrm hz [.int l5, .int l1] [] 1715 (c_X12_isEnd_60 hS _ e2) ok_X12_isEnd (by decide +kernel) rfl (fun r g1 hq => ?_)
        rw [hq.1, hq.2]
        show xW k S 0 0 39 [some (.ref 60), some (.int l1), some (.int l2), some (.int l3), some (.int l4), some (.int l5), none, none] [.int w2] g
        refine xif_ne A (6) 45 42 (by decide +kernel) (fun h4 => ?_) (fun h4 => ?_)
        · rw [if_neg h4] at H
          refine xb A [(.aload_n 0, 1, 0, 0, .null), (.getfield 122, 3, 60, 54, .ref 95), (.bipush 7, 2, 0, 0, .int 7), (.aload_n 0, 1, 0, 0, .null), (.iload 5, 2, 0, 0, .null), (.iload_n 1, 1, 0, 0, .null)] (pc' := 55) (ls' := [some (.ref 60), some (.int l1), some (.int l2), some (.int l3), some (.int l4), some (.int l5), none, none]) (st' := [.int l1, .int l5, .ref 60, .int 7, .ref 95]) (g' := g) (by decide +kernel) rfl ?_
          obtain ⟨w3, e3, H⟩ := xbind H
          refine xcallV A (ix := 379) (nxt := 58) hrm hz [.int l5, .int l1] [.int 7, .ref 95] 1873 (c_X12_otherEnd_60 hS _ e3) ok_X12_otherEnd (by decide +kernel) rfl (fun r g1 hq => ?_)
          rw [hq.1, hq.2]
          show xW k S 0 0 58 [some (.ref 60), some (.int l1), some (.int l2), some (.int l3), some (.int l4), some (.int l5), none, none] [.int w3, .int 7, .ref 95] g
          refine xb A [(.imul, 1, 0, 0, .null), (.iload_n 2, 1, 0, 0, .null), (.iadd, 1, 0, 0, .null)] (pc' := 61) (ls' := [some (.ref 60), some (.int l1), some (.int l2), some (.int l3), some (.int l4), some (.int l5), none, none]) (st' := [.int ((7 * w3) + l2), .ref 95]) (g' := g) (by decide +kernel) rfl ?_
          obtain ⟨h5, H⟩ := xg_elim H
          refine xiald A (nxt := 62) (by decide +kernel) (hS _ _ sh_95) h5 ?_
          show xW k S 0 0 62 [some (.ref 60), some (.int l1), some (.int l2), some (.int l3), some (.int l4), some (.int l5), none, none] [.int (g.1 95 ((7 * w3) + l2).toNatClampNeg)] g
          refine xb A [(.istore 6, 2, 0, 0, .null), (.aload_n 0, 1, 0, 0, .null), (.getfield 58, 3, 60, 27, .ref 74), (.bipush 10, 2, 0, 0, .int 10), (.aload_n 0, 1, 0, 0, .null), (.getfield 227, 3, 60, 18, .int 0), (.imul, 1, 0, 0, .null), (.iload 5, 2, 0, 0, .null), (.iadd, 1, 0, 0, .null)] (pc' := 78) (ls' := [some (.ref 60), some (.int l1), some (.int l2), some (.int l3), some (.int l4), some (.int l5), some (.int (g.1 95 ((7 * w3) + l2).toNatClampNeg)), none]) (st' := [.int ((10 * (g.1 60 18)) + l5), .ref 74]) (g' := g) (by decide +kernel) rfl ?_
          obtain ⟨h6, H⟩ := xg_elim H
          refine xiald A (nxt := 79) (by decide +kernel) (hS _ _ sh_74) h6 ?_
          show xW k S 0 0 79 [some (.ref 60), some (.int l1), some (.int l2), some (.int l3), some (.int l4), some (.int l5), some (.int (g.1 95 ((7 * w3) + l2).toNatClampNeg)), none] [.int (g.1 74 ((10 * (g.1 60 18)) + l5).toNatClampNeg)] g
          refine xb A [(.iload 6, 2, 0, 0, .null), (.iadd, 1, 0, 0, .null), (.istore 7, 2, 0, 0, .null), (.iload 6, 2, 0, 0, .null), (.sipush 999, 3, 0, 0, .int 999)] (pc' := 89) (ls' := [some (.ref 60), some (.int l1), some (.int l2), some (.int l3), some (.int l4), some (.int l5), some (.int (g.1 95 ((7 * w3) + l2).toNatClampNeg)), some (.int ((g.1 74 ((10 * (g.1 60 18)) + l5).toNatClampNeg) + (g.1 95 ((7 * w3) + l2).toNatClampNeg)))]) (st' := [.int 999, .int (g.1 95 ((7 * w3) + l2).toNatClampNeg)]) (g' := g) (by decide +kernel) rfl ?_
          refine xic_ge A (24) 113 92 (by decide +kernel) (fun h7 => ?_) (fun h7 => ?_)
          · rw [if_pos h7] at H
            refine xb A [(.iinc 5 1, 3, 0, 0, .null)] (pc' := 116) (ls' := [some (.ref 60), some (.int l1), some (.int l2), some (.int l3), some (.int l4), some (.int (l5 + 1)), some (.int (g.1 95 ((7 * w3) + l2).toNatClampNeg)), some (.int ((g.1 74 ((10 * (g.1 60 18)) + l5).toNatClampNeg) + (g.1 95 ((7 * w3) + l2).toNatClampNeg)))]) (st' := []) (g' := g) (by decide +kernel) rfl ?_
            refine xgoto A (-107) 9 (by decide +kernel) ?_
            refine xweak (ls' := [some (.ref 60), some (.int l1), some (.int l2), some (.int l3), some (.int l4), some (.int (l5 + 1)), none, none]) (by exact ⟨rfl, ⟨rfl, ⟨rfl, ⟨rfl, ⟨rfl, ⟨rfl, trivial⟩⟩⟩⟩⟩⟩) ?_
            exact ih _ _ _ _ _ H
          · rw [if_neg h7] at H
            refine xb A [(.iload_n 3, 1, 0, 0, .null)] (pc' := 93) (ls' := [some (.ref 60), some (.int l1), some (.int l2), some (.int l3), some (.int l4), some (.int l5), some (.int (g.1 95 ((7 * w3) + l2).toNatClampNeg)), some (.int ((g.1 74 ((10 * (g.1 60 18)) + l5).toNatClampNeg) + (g.1 95 ((7 * w3) + l2).toNatClampNeg)))]) (st' := [.int l3]) (g' := g) (by decide +kernel) rfl ?_
            refine xif_lt A (13) 106 96 (by decide +kernel) (fun h8 => ?_) (fun h8 => ?_)
            · rw [if_pos h8] at H
              refine xb A [(.iload 5, 2, 0, 0, .null), (.istore_n 3, 1, 0, 0, .null), (.iload 7, 2, 0, 0, .null), (.istore 4, 2, 0, 0, .null), (.iinc 5 1, 3, 0, 0, .null)] (pc' := 116) (ls' := [some (.ref 60), some (.int l1), some (.int l2), some (.int l5), some (.int ((g.1 74 ((10 * (g.1 60 18)) + l5).toNatClampNeg) + (g.1 95 ((7 * w3) + l2).toNatClampNeg))), some (.int (l5 + 1)), some (.int (g.1 95 ((7 * w3) + l2).toNatClampNeg)), some (.int ((g.1 74 ((10 * (g.1 60 18)) + l5).toNatClampNeg) + (g.1 95 ((7 * w3) + l2).toNatClampNeg)))]) (st' := []) (g' := g) (by decide +kernel) rfl ?_
              refine xgoto A (-107) 9 (by decide +kernel) ?_
              refine xweak (ls' := [some (.ref 60), some (.int l1), some (.int l2), some (.int l5), some (.int ((g.1 74 ((10 * (g.1 60 18)) + l5).toNatClampNeg) + (g.1 95 ((7 * w3) + l2).toNatClampNeg))), some (.int (l5 + 1)), none, none]) (by exact ⟨rfl, ⟨rfl, ⟨rfl, ⟨rfl, ⟨rfl, ⟨rfl, trivial⟩⟩⟩⟩⟩⟩) ?_
              exact ih _ _ _ _ _ H
            · rw [if_neg h8] at H
              refine xb A [(.iload 7, 2, 0, 0, .null), (.iload 4, 2, 0, 0, .null)] (pc' := 100) (ls' := [some (.ref 60), some (.int l1), some (.int l2), some (.int l3), some (.int l4), some (.int l5), some (.int (g.1 95 ((7 * w3) + l2).toNatClampNeg)), some (.int ((g.1 74 ((10 * (g.1 60 18)) + l5).toNatClampNeg) + (g.1 95 ((7 * w3) + l2).toNatClampNeg)))]) (st' := [.int l4, .int ((g.1 74 ((10 * (g.1 60 18)) + l5).toNatClampNeg) + (g.1 95 ((7 * w3) + l2).toNatClampNeg))]) (g' := g) (by decide +kernel) rfl ?_
              refine xic_lt A (6) 106 103 (by decide +kernel) (fun h9 => ?_) (fun h9 => ?_)
              · rw [if_pos h9] at H
                refine xb A [(.iload 5, 2, 0, 0, .null), (.istore_n 3, 1, 0, 0, .null), (.iload 7, 2, 0, 0, .null), (.istore 4, 2, 0, 0, .null), (.iinc 5 1, 3, 0, 0, .null)] (pc' := 116) (ls' := [some (.ref 60), some (.int l1), some (.int l2), some (.int l5), some (.int ((g.1 74 ((10 * (g.1 60 18)) + l5).toNatClampNeg) + (g.1 95 ((7 * w3) + l2).toNatClampNeg))), some (.int (l5 + 1)), some (.int (g.1 95 ((7 * w3) + l2).toNatClampNeg)), some (.int ((g.1 74 ((10 * (g.1 60 18)) + l5).toNatClampNeg) + (g.1 95 ((7 * w3) + l2).toNatClampNeg)))]) (st' := []) (g' := g) (by decide +kernel) rfl ?_
                refine xgoto A (-107) 9 (by decide +kernel) ?_
                refine xweak (ls' := [some (.ref 60), some (.int l1), some (.int l2), some (.int l5), some (.int ((g.1 74 ((10 * (g.1 60 18)) + l5).toNatClampNeg) + (g.1 95 ((7 * w3) + l2).toNatClampNeg))), some (.int (l5 + 1)), none, none]) (by exact ⟨rfl, ⟨rfl, ⟨rfl, ⟨rfl, ⟨rfl, ⟨rfl, trivial⟩⟩⟩⟩⟩⟩) ?_
                exact ih _ _ _ _ _ H
              · rw [if_neg h9] at H
                refine xgoto A (10) 113 (by decide +kernel) ?_
                refine xb A [(.iinc 5 1, 3, 0, 0, .null)] (pc' := 116) (ls' := [some (.ref 60), some (.int l1), some (.int l2), some (.int l3), some (.int l4), some (.int (l5 + 1)), some (.int (g.1 95 ((7 * w3) + l2).toNatClampNeg)), some (.int ((g.1 74 ((10 * (g.1 60 18)) + l5).toNatClampNeg) + (g.1 95 ((7 * w3) + l2).toNatClampNeg)))]) (st' := []) (g' := g) (by decide +kernel) rfl ?_
                refine xgoto A (-107) 9 (by decide +kernel) ?_
                refine xweak (ls' := [some (.ref 60), some (.int l1), some (.int l2), some (.int l3), some (.int l4), some (.int (l5 + 1)), none, none]) (by exact ⟨rfl, ⟨rfl, ⟨rfl, ⟨rfl, ⟨rfl, ⟨rfl, trivial⟩⟩⟩⟩⟩⟩) ?_
                exact ih _ _ _ _ _ H
        · rw [if_pos h4] at H
          refine xgoto A (71) 113 (by decide +kernel) ?_
          refine xb A [(.iinc 5 1, 3, 0, 0, .null)] (pc' := 116) (ls' := [some (.ref 60), some (.int l1), some (.int l2), some (.int l3), some (.int l4), some (.int (l5 + 1)), none, none]) (st' := []) (g' := g) (by decide +kernel) rfl ?_
          refine xgoto A (-107) 9 (by decide +kernel) ?_
          exact ih _ _ _ _ _ H
set_option maxRecDepth 20000 in
theorem c_X12_roadFor_60 {S : List xSh} (hS : xpf SH2 S) {g : xG} {p1 : Int32} {p2 : Int32} (out : Int32) (H : f_X12_roadFor_60 p1 p2 g = some out) : xC mX12_roadFor 1 22 0 0 S [.ref 60, .int p1, .int p2] g S (fun r g' => r = some (.int out) ∧ g' = g) := by
  have H : (f_X12_roadFor_60_9 g xN p1 p2 (-2) 0 0) = some out := H
  refine xC.of 12 SH2 [some (.ref 60), some (.int p1), some (.int p2), none, none, none, none, none] hS (by decide +kernel) rfl (fun _ _ => Nat.le_of_ble_eq_true rfl) (fun _ _ => rfl) ?_
  intro k A hR hrm hz
  refine xb A [(.bipush (-2), 2, 0, 0, .int (-2)), (.istore_n 3, 1, 0, 0, .null), (.iconst 0, 1, 0, 0, .int 0), (.istore 4, 2, 0, 0, .null), (.iconst 0, 1, 0, 0, .int 0), (.istore 5, 2, 0, 0, .null)] (pc' := 9) (ls' := [some (.ref 60), some (.int p1), some (.int p2), some (.int (-2)), some (.int 0), some (.int 0), none, none]) (st' := []) (g' := g) (by decide +kernel) rfl ?_
  exact t_X12_roadFor_60_9 hS A hR hrm hz _ _ _ _ _ _ H
