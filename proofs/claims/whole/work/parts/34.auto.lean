/-! methods, walked by program -/
def f_X12_roadOf_60 (p1 : Int32) (g : xG) : Option (Int32) :=
  xg (¬ ((6 + p1) < 0 ∨ 40 ≤ (6 + p1).toNatClampNeg)) (
    if 0 ≤ (g.1 94 (6 + p1).toNatClampNeg) then
      xg (¬ (p1 < 0 ∨ 40 ≤ p1.toNatClampNeg)) (
        xg (¬ ((6 + p1) < 0 ∨ 40 ≤ (6 + p1).toNatClampNeg)) (
          (f_X12_roadFor_60 (g.1 94 p1.toNatClampNeg) (g.1 94 (6 + p1).toNatClampNeg) g).bind fun w1 =>
          some w1))
    else
      some (-2))
set_option maxRecDepth 20000 in
theorem c_X12_roadOf_60 {S : List xSh} (hS : xpf SH2 S) {g : xG} {p1 : Int32} (out : Int32) (H : f_X12_roadOf_60 p1 g = some out) : xC mX12_roadOf 2 49 0 0 S [.ref 60, .int p1] g S (fun r g' => r = some (.int out) ∧ g' = g) := by
  have H : (xg (¬ ((6 + p1) < 0 ∨ 40 ≤ (6 + p1).toNatClampNeg)) (
  if 0 ≤ (g.1 94 (6 + p1).toNatClampNeg) then
    xg (¬ (p1 < 0 ∨ 40 ≤ p1.toNatClampNeg)) (
      xg (¬ ((6 + p1) < 0 ∨ 40 ≤ (6 + p1).toNatClampNeg)) (
        (f_X12_roadFor_60 (g.1 94 p1.toNatClampNeg) (g.1 94 (6 + p1).toNatClampNeg) g).bind fun w1 =>
        some w1))
  else
    some (-2))) = some out := H
  refine xC.of 12 SH2 [some (.ref 60), some (.int p1)] hS (by decide +kernel) rfl (fun _ _ => Nat.le_of_ble_eq_true rfl) (fun _ _ => rfl) ?_
  intro k A hR hrm hz
  refine xb A [(.aload_n 0, 1, 0, 0, .null), (.getfield 119, 3, 60, 51, .ref 94), (.bipush 6, 2, 0, 0, .int 6), (.iload_n 1, 1, 0, 0, .null), (.iadd, 1, 0, 0, .null)] (pc' := 8) (ls' := [some (.ref 60), some (.int p1)]) (st' := [.int (6 + p1), .ref 94]) (g' := g) (by decide +kernel) rfl ?_
  obtain ⟨h1, H⟩ := xg_elim H
  refine xiald A (nxt := 9) (by decide +kernel) (hS _ _ sh_94) h1 ?_
  show xW k S 0 0 9 [some (.ref 60), some (.int p1)] [.int (g.1 94 (6 + p1).toNatClampNeg)] g
  refine xif_ge A (8) 17 12 (by decide +kernel) (fun h2 => ?_) (fun h2 => ?_)
  · rw [if_pos h2] at H
    refine xb A [(.aload_n 0, 1, 0, 0, .null), (.aload_n 0, 1, 0, 0, .null), (.getfield 119, 3, 60, 51, .ref 94), (.iload_n 1, 1, 0, 0, .null)] (pc' := 23) (ls' := [some (.ref 60), some (.int p1)]) (st' := [.int p1, .ref 94, .ref 60]) (g' := g) (by decide +kernel) rfl ?_
    obtain ⟨h3, H⟩ := xg_elim H
    refine xiald A (nxt := 24) (by decide +kernel) (hS _ _ sh_94) h3 ?_
    show xW k S 0 0 24 [some (.ref 60), some (.int p1)] [.int (g.1 94 p1.toNatClampNeg), .ref 60] g
    refine xb A [(.aload_n 0, 1, 0, 0, .null), (.getfield 119, 3, 60, 51, .ref 94), (.bipush 6, 2, 0, 0, .int 6), (.iload_n 1, 1, 0, 0, .null), (.iadd, 1, 0, 0, .null)] (pc' := 32) (ls' := [some (.ref 60), some (.int p1)]) (st' := [.int (6 + p1), .ref 94, .int (g.1 94 p1.toNatClampNeg), .ref 60]) (g' := g) (by decide +kernel) rfl ?_
    obtain ⟨h4, H⟩ := xg_elim H
    refine xiald A (nxt := 33) (by decide +kernel) (hS _ _ sh_94) h4 ?_
    show xW k S 0 0 33 [some (.ref 60), some (.int p1)] [.int (g.1 94 (6 + p1).toNatClampNeg), .int (g.1 94 p1.toNatClampNeg), .ref 60] g
    obtain ⟨w1, e1, H⟩ := xbind H
    refine xcallV A (ix := 382) (nxt := 36) hrm hz [.int (g.1 94 p1.toNatClampNeg), .int (g.1 94 (6 + p1).toNatClampNeg)] [] 1869 (c_X12_roadFor_60 hS _ e1) ok_X12_roadFor (by decide +kernel) rfl (fun r g1 hq => ?_)
    rw [hq.1, hq.2]
    show xW k S 0 0 36 [some (.ref 60), some (.int p1)] [.int w1] g
    obtain rfl := Option.some.inj H
    exact xret_i A hR hz (by decide +kernel) rfl ⟨rfl, rfl⟩
  · rw [if_neg h2] at H
    refine xb A [(.bipush (-2), 2, 0, 0, .int (-2))] (pc' := 14) (ls' := [some (.ref 60), some (.int p1)]) (st' := [.int (-2)]) (g' := g) (by decide +kernel) rfl ?_
    refine xgoto A (22) 36 (by decide +kernel) ?_
    obtain rfl := Option.some.inj H
    exact xret_i A hR hz (by decide +kernel) rfl ⟨rfl, rfl⟩
def fp_X12_walksOne_60 : List (Nat × Option Nat) := [(94, none)]
def f_X12_walksOne_60_83  (l1 : Int32) (g : xG) : Option (xG) :=
  xg (¬ (l1 < 0 ∨ 40 ≤ l1.toNatClampNeg)) (
    (f_X12_homeAt_60 l1 g).bind fun w3 =>
    if (g.1 94 l1.toNatClampNeg) = w3 then
      xg (¬ ((12 + l1) < 0 ∨ 40 ≤ (12 + l1).toNatClampNeg)) (
        some (xupd g.1 94 (12 + l1).toNatClampNeg 0, g.2))
    else
      some g)
def f_X12_walksOne_60 (p1 : Int32) (g : xG) : Option (xG) :=
  (f_X12_roadOf_60 p1 g).bind fun w1 =>
  if 0 ≤ w1 then
    xg (¬ ((12 + p1) < 0 ∨ 40 ≤ (12 + p1).toNatClampNeg)) (
      xg (¬ (((10 * (g.1 60 18)) + w1) < 0 ∨ 20 ≤ ((10 * (g.1 60 18)) + w1).toNatClampNeg)) (
        xg (¬ ((12 + p1) < 0 ∨ 40 ≤ (12 + p1).toNatClampNeg)) (
          xg (¬ (p1 < 0 ∨ 40 ≤ p1.toNatClampNeg)) (
            (f_X12_otherEnd_60 w1 ((xupd g.1 94 (12 + p1).toNatClampNeg ((g.1 94 (12 + p1).toNatClampNeg) + (g.1 74 ((10 * (g.1 60 18)) + w1).toNatClampNeg))) 94 p1.toNatClampNeg) (xupd g.1 94 (12 + p1).toNatClampNeg ((g.1 94 (12 + p1).toNatClampNeg) + (g.1 74 ((10 * (g.1 60 18)) + w1).toNatClampNeg)), g.2)).bind fun w2 =>
            xg (¬ (p1 < 0 ∨ 40 ≤ p1.toNatClampNeg)) (
              xg (¬ (p1 < 0 ∨ 40 ≤ p1.toNatClampNeg)) (
                xg (¬ ((6 + p1) < 0 ∨ 40 ≤ (6 + p1).toNatClampNeg)) (
                  if ((xupd (xupd g.1 94 (12 + p1).toNatClampNeg ((g.1 94 (12 + p1).toNatClampNeg) + (g.1 74 ((10 * (g.1 60 18)) + w1).toNatClampNeg))) 94 p1.toNatClampNeg w2) 94 p1.toNatClampNeg) = ((xupd (xupd g.1 94 (12 + p1).toNatClampNeg ((g.1 94 (12 + p1).toNatClampNeg) + (g.1 74 ((10 * (g.1 60 18)) + w1).toNatClampNeg))) 94 p1.toNatClampNeg w2) 94 (6 + p1).toNatClampNeg) then
                    xg (¬ ((6 + p1) < 0 ∨ 40 ≤ (6 + p1).toNatClampNeg)) (
                      f_X12_walksOne_60_83 p1 (xupd (xupd (xupd g.1 94 (12 + p1).toNatClampNeg ((g.1 94 (12 + p1).toNatClampNeg) + (g.1 74 ((10 * (g.1 60 18)) + w1).toNatClampNeg))) 94 p1.toNatClampNeg w2) 94 (6 + p1).toNatClampNeg (-2), g.2))
                  else
                    f_X12_walksOne_60_83 p1 (xupd (xupd g.1 94 (12 + p1).toNatClampNeg ((g.1 94 (12 + p1).toNatClampNeg) + (g.1 74 ((10 * (g.1 60 18)) + w1).toNatClampNeg))) 94 p1.toNatClampNeg w2, g.2))))))))
  else
    some g
set_option maxRecDepth 20000 in
theorem t_X12_walksOne_60_83 {k : xK} {S : List xSh} {out : xG} (hS : xpf SH2 S) (A : xAt k mX12_walksOne.2.1 12 SH2 S) (hR : xRet k 0 0 S (fun r g' => r = none ∧ g' = out) mX12_walksOne.2.2.2) (hrm : xrm k = { frames := 3, cells := 0, slots := 0, locals := 70 }) (hz : xhs k = xb0 k + S.length)   : ∀ (l1 : Int32) (g : xG), f_X12_walksOne_60_83 l1 g = some out → xW k S 0 0 83 [some (.ref 60), some (.int l1), none] [] g := by
  intro l1 g H
  have H : (xg (¬ (l1 < 0 ∨ 40 ≤ l1.toNatClampNeg)) (
  (f_X12_homeAt_60 l1 g).bind fun w3 =>
  if (g.1 94 l1.toNatClampNeg) = w3 then
    xg (¬ ((12 + l1) < 0 ∨ 40 ≤ (12 + l1).toNatClampNeg)) (
      some (xupd g.1 94 (12 + l1).toNatClampNeg 0, g.2))
  else
    some g)) = some out := H
  refine xb A [(.aload_n 0, 1, 0, 0, .null), (.getfield 119, 3, 60, 51, .ref 94), (.iload_n 1, 1, 0, 0, .null)] (pc' := 88) (ls' := [some (.ref 60), some (.int l1), none]) (st' := [.int l1, .ref 94]) (g' := g) (by decide +kernel) rfl ?_
  obtain ⟨h10, H⟩ := xg_elim H
  refine xiald A (nxt := 89) (by decide +kernel) (hS _ _ sh_94) h10 ?_
  show xW k S 0 0 89 [some (.ref 60), some (.int l1), none] [.int (g.1 94 l1.toNatClampNeg)] g
  refine xb A [(.aload_n 0, 1, 0, 0, .null), (.iload_n 1, 1, 0, 0, .null)] (pc' := 91) (ls' := [some (.ref 60), some (.int l1), none]) (st' := [.int l1, .ref 60, .int (g.1 94 l1.toNatClampNeg)]) (g' := g) (by decide +kernel) rfl ?_
  obtain ⟨w3, e3, H⟩ := xbind H
  refine xcallV A (ix := 339) (nxt := 94) hrm hz [.int l1] [.int (g.1 94 l1.toNatClampNeg)] 1743 (c_X12_homeAt_60 hS _ e3) ok_X12_homeAt (by decide +kernel) rfl (fun r g1 hq => ?_)
  rw [hq.1, hq.2]
  show xW k S 0 0 94 [some (.ref 60), some (.int l1), none] [.int w3, .int (g.1 94 l1.toNatClampNeg)] g
  refine xic_ne A (13) 107 97 (by decide +kernel) (fun h11 => ?_) (fun h11 => ?_)
  · rw [if_neg h11] at H
    obtain rfl := Option.some.inj H
    exact xret_v A hR hz (by decide +kernel) ⟨rfl, rfl⟩
  · rw [if_pos h11] at H
    refine xb A [(.aload_n 0, 1, 0, 0, .null), (.getfield 119, 3, 60, 51, .ref 94), (.bipush 12, 2, 0, 0, .int 12), (.iload_n 1, 1, 0, 0, .null), (.iadd, 1, 0, 0, .null), (.iconst 0, 1, 0, 0, .int 0)] (pc' := 106) (ls' := [some (.ref 60), some (.int l1), none]) (st' := [.int 0, .int (12 + l1), .ref 94]) (g' := g) (by decide +kernel) rfl ?_
    obtain ⟨h12, H⟩ := xg_elim H
    refine xiast A (nxt := 107) (by decide +kernel) (hS _ _ sh_94) h12 ?_
    show xW k S 0 0 107 [some (.ref 60), some (.int l1), none] [] (xupd g.1 94 (12 + l1).toNatClampNeg 0, g.2)
    obtain rfl := Option.some.inj H
    exact xret_v A hR hz (by decide +kernel) ⟨rfl, rfl⟩
theorem fr_X12_walksOne_60_83   : ∀ (l1 : Int32) (g : xG) (out : xG), f_X12_walksOne_60_83 l1 g = some out → xfrm fp_X12_walksOne_60 g (out) := by
  intro l1 g out H
  have H : (xg (¬ (l1 < 0 ∨ 40 ≤ l1.toNatClampNeg)) (
  (f_X12_homeAt_60 l1 g).bind fun w3 =>
  if (g.1 94 l1.toNatClampNeg) = w3 then
    xg (¬ ((12 + l1) < 0 ∨ 40 ≤ (12 + l1).toNatClampNeg)) (
      some (xupd g.1 94 (12 + l1).toNatClampNeg 0, g.2))
  else
    some g)) = some out := H
  obtain ⟨h10, H⟩ := xg_elim H
  obtain ⟨w3, e3, H⟩ := xbind H
  by_cases h11 : (g.1 94 l1.toNatClampNeg) = w3
  · rw [if_pos h11] at H
    obtain ⟨h12, H⟩ := xg_elim H
    have hf3 : xfrm fp_X12_walksOne_60 g ((xupd g.1 94 (12 + l1).toNatClampNeg 0, g.2)) := xfrm.ua xfrm.rf rfl
    obtain rfl := Option.some.inj H
    exact hf3
  · rw [if_neg h11] at H
    obtain rfl := Option.some.inj H
    exact xfrm.rf
set_option maxRecDepth 20000 in
theorem c_X12_walksOne_60 {S : List xSh} (hS : xpf SH2 S) {g : xG} {p1 : Int32} (out : xG) (H : f_X12_walksOne_60 p1 g = some out) : xC mX12_walksOne 3 70 0 0 S [.ref 60, .int p1] g S (fun r g' => r = none ∧ g' = out) := by
  have H : ((f_X12_roadOf_60 p1 g).bind fun w1 =>
if 0 ≤ w1 then
  xg (¬ ((12 + p1) < 0 ∨ 40 ≤ (12 + p1).toNatClampNeg)) (
    xg (¬ (((10 * (g.1 60 18)) + w1) < 0 ∨ 20 ≤ ((10 * (g.1 60 18)) + w1).toNatClampNeg)) (
      xg (¬ ((12 + p1) < 0 ∨ 40 ≤ (12 + p1).toNatClampNeg)) (
        xg (¬ (p1 < 0 ∨ 40 ≤ p1.toNatClampNeg)) (
          (f_X12_otherEnd_60 w1 ((xupd g.1 94 (12 + p1).toNatClampNeg ((g.1 94 (12 + p1).toNatClampNeg) + (g.1 74 ((10 * (g.1 60 18)) + w1).toNatClampNeg))) 94 p1.toNatClampNeg) (xupd g.1 94 (12 + p1).toNatClampNeg ((g.1 94 (12 + p1).toNatClampNeg) + (g.1 74 ((10 * (g.1 60 18)) + w1).toNatClampNeg)), g.2)).bind fun w2 =>
          xg (¬ (p1 < 0 ∨ 40 ≤ p1.toNatClampNeg)) (
            xg (¬ (p1 < 0 ∨ 40 ≤ p1.toNatClampNeg)) (
              xg (¬ ((6 + p1) < 0 ∨ 40 ≤ (6 + p1).toNatClampNeg)) (
                if ((xupd (xupd g.1 94 (12 + p1).toNatClampNeg ((g.1 94 (12 + p1).toNatClampNeg) + (g.1 74 ((10 * (g.1 60 18)) + w1).toNatClampNeg))) 94 p1.toNatClampNeg w2) 94 p1.toNatClampNeg) = ((xupd (xupd g.1 94 (12 + p1).toNatClampNeg ((g.1 94 (12 + p1).toNatClampNeg) + (g.1 74 ((10 * (g.1 60 18)) + w1).toNatClampNeg))) 94 p1.toNatClampNeg w2) 94 (6 + p1).toNatClampNeg) then
                  xg (¬ ((6 + p1) < 0 ∨ 40 ≤ (6 + p1).toNatClampNeg)) (
                    f_X12_walksOne_60_83 p1 (xupd (xupd (xupd g.1 94 (12 + p1).toNatClampNeg ((g.1 94 (12 + p1).toNatClampNeg) + (g.1 74 ((10 * (g.1 60 18)) + w1).toNatClampNeg))) 94 p1.toNatClampNeg w2) 94 (6 + p1).toNatClampNeg (-2), g.2))
                else
                  f_X12_walksOne_60_83 p1 (xupd (xupd g.1 94 (12 + p1).toNatClampNeg ((g.1 94 (12 + p1).toNatClampNeg) + (g.1 74 ((10 * (g.1 60 18)) + w1).toNatClampNeg))) 94 p1.toNatClampNeg w2, g.2))))))))
else
  some g) = some out := H
  refine xC.of 12 SH2 [some (.ref 60), some (.int p1), none] hS (by decide +kernel) rfl (fun _ _ => Nat.le_of_ble_eq_true rfl) (fun _ _ => rfl) ?_
  intro k A hR hrm hz
  refine xb A [(.aload_n 0, 1, 0, 0, .null), (.iload_n 1, 1, 0, 0, .null)] (pc' := 2) (ls' := [some (.ref 60), some (.int p1), none]) (st' := [.int p1, .ref 60]) (g' := g) (by decide +kernel) rfl ?_
  obtain ⟨w1, e1, H⟩ := xbind H
  refine xcallV A (ix := 385) (nxt := 5) hrm hz [.int p1] [] 1865 (c_X12_roadOf_60 hS _ e1) ok_X12_roadOf (by decide +kernel) rfl (fun r g1 hq => ?_)
  rw [hq.1, hq.2]
  show xW k S 0 0 5 [some (.ref 60), some (.int p1), none] [.int w1] g
  refine xb A [(.istore_n 2, 1, 0, 0, .null), (.iload_n 2, 1, 0, 0, .null)] (pc' := 7) (ls' := [some (.ref 60), some (.int p1), some (.int w1)]) (st' := [.int w1]) (g' := g) (by decide +kernel) rfl ?_
  refine xif_ge A (4) 11 10 (by decide +kernel) (fun h1 => ?_) (fun h1 => ?_)
  · rw [if_pos h1] at H
    refine xb A [(.aload_n 0, 1, 0, 0, .null), (.getfield 119, 3, 60, 51, .ref 94), (.bipush 12, 2, 0, 0, .int 12), (.iload_n 1, 1, 0, 0, .null), (.iadd, 1, 0, 0, .null), (.dup2, 1, 0, 0, .null)] (pc' := 20) (ls' := [some (.ref 60), some (.int p1), some (.int w1)]) (st' := [.int (12 + p1), .ref 94, .int (12 + p1), .ref 94]) (g' := g) (by decide +kernel) rfl ?_
    obtain ⟨h2, H⟩ := xg_elim H
    refine xiald A (nxt := 21) (by decide +kernel) (hS _ _ sh_94) h2 ?_
    show xW k S 0 0 21 [some (.ref 60), some (.int p1), some (.int w1)] [.int (g.1 94 (12 + p1).toNatClampNeg), .int (12 + p1), .ref 94] g
    refine xb A [(.aload_n 0, 1, 0, 0, .null), (.getfield 58, 3, 60, 27, .ref 74), (.bipush 10, 2, 0, 0, .int 10), (.aload_n 0, 1, 0, 0, .null), (.getfield 227, 3, 60, 18, .int 0), (.imul, 1, 0, 0, .null), (.iload_n 2, 1, 0, 0, .null), (.iadd, 1, 0, 0, .null)] (pc' := 34) (ls' := [some (.ref 60), some (.int p1), some (.int w1)]) (st' := [.int ((10 * (g.1 60 18)) + w1), .ref 74, .int (g.1 94 (12 + p1).toNatClampNeg), .int (12 + p1), .ref 94]) (g' := g) (by decide +kernel) rfl ?_
    obtain ⟨h3, H⟩ := xg_elim H
    refine xiald A (nxt := 35) (by decide +kernel) (hS _ _ sh_74) h3 ?_
    show xW k S 0 0 35 [some (.ref 60), some (.int p1), some (.int w1)] [.int (g.1 74 ((10 * (g.1 60 18)) + w1).toNatClampNeg), .int (g.1 94 (12 + p1).toNatClampNeg), .int (12 + p1), .ref 94] g
    refine xb A [(.iadd, 1, 0, 0, .null)] (pc' := 36) (ls' := [some (.ref 60), some (.int p1), some (.int w1)]) (st' := [.int ((g.1 94 (12 + p1).toNatClampNeg) + (g.1 74 ((10 * (g.1 60 18)) + w1).toNatClampNeg)), .int (12 + p1), .ref 94]) (g' := g) (by decide +kernel) rfl ?_
    obtain ⟨h4, H⟩ := xg_elim H
    refine xiast A (nxt := 37) (by decide +kernel) (hS _ _ sh_94) h4 ?_
    show xW k S 0 0 37 [some (.ref 60), some (.int p1), some (.int w1)] [] (xupd g.1 94 (12 + p1).toNatClampNeg ((g.1 94 (12 + p1).toNatClampNeg) + (g.1 74 ((10 * (g.1 60 18)) + w1).toNatClampNeg)), g.2)
    refine xb A [(.aload_n 0, 1, 0, 0, .null), (.getfield 119, 3, 60, 51, .ref 94), (.iload_n 1, 1, 0, 0, .null), (.aload_n 0, 1, 0, 0, .null), (.iload_n 2, 1, 0, 0, .null), (.aload_n 0, 1, 0, 0, .null), (.getfield 119, 3, 60, 51, .ref 94), (.iload_n 1, 1, 0, 0, .null)] (pc' := 49) (ls' := [some (.ref 60), some (.int p1), some (.int w1)]) (st' := [.int p1, .ref 94, .int w1, .ref 60, .int p1, .ref 94]) (g' := (xupd g.1 94 (12 + p1).toNatClampNeg ((g.1 94 (12 + p1).toNatClampNeg) + (g.1 74 ((10 * (g.1 60 18)) + w1).toNatClampNeg)), g.2)) (by decide +kernel) rfl ?_
    obtain ⟨h5, H⟩ := xg_elim H
    refine xiald A (nxt := 50) (by decide +kernel) (hS _ _ sh_94) h5 ?_
    show xW k S 0 0 50 [some (.ref 60), some (.int p1), some (.int w1)] [.int ((xupd g.1 94 (12 + p1).toNatClampNeg ((g.1 94 (12 + p1).toNatClampNeg) + (g.1 74 ((10 * (g.1 60 18)) + w1).toNatClampNeg))) 94 p1.toNatClampNeg), .int w1, .ref 60, .int p1, .ref 94] (xupd g.1 94 (12 + p1).toNatClampNeg ((g.1 94 (12 + p1).toNatClampNeg) + (g.1 74 ((10 * (g.1 60 18)) + w1).toNatClampNeg)), g.2)
    obtain ⟨w2, e2, H⟩ := xbind H
    refine xcallV A (ix := 379) (nxt := 53) hrm hz [.int w1, .int ((xupd g.1 94 (12 + p1).toNatClampNeg ((g.1 94 (12 + p1).toNatClampNeg) + (g.1 74 ((10 * (g.1 60 18)) + w1).toNatClampNeg))) 94 p1.toNatClampNeg)] [.int p1, .ref 94] 1873 (c_X12_otherEnd_60 hS _ e2) ok_X12_otherEnd (by decide +kernel) rfl (fun r g1 hq => ?_)
    rw [hq.1, hq.2]
    show xW k S 0 0 53 [some (.ref 60), some (.int p1), some (.int w1)] [.int w2, .int p1, .ref 94] (xupd g.1 94 (12 + p1).toNatClampNeg ((g.1 94 (12 + p1).toNatClampNeg) + (g.1 74 ((10 * (g.1 60 18)) + w1).toNatClampNeg)), g.2)
    obtain ⟨h6, H⟩ := xg_elim H
    refine xiast A (nxt := 54) (by decide +kernel) (hS _ _ sh_94) h6 ?_
    show xW k S 0 0 54 [some (.ref 60), some (.int p1), some (.int w1)] [] (xupd (xupd g.1 94 (12 + p1).toNatClampNeg ((g.1 94 (12 + p1).toNatClampNeg) + (g.1 74 ((10 * (g.1 60 18)) + w1).toNatClampNeg))) 94 p1.toNatClampNeg w2, g.2)
    refine xb A [(.aload_n 0, 1, 0, 0, .null), (.getfield 119, 3, 60, 51, .ref 94), (.iload_n 1, 1, 0, 0, .null)] (pc' := 59) (ls' := [some (.ref 60), some (.int p1), some (.int w1)]) (st' := [.int p1, .ref 94]) (g' := (xupd (xupd g.1 94 (12 + p1).toNatClampNeg ((g.1 94 (12 + p1).toNatClampNeg) + (g.1 74 ((10 * (g.1 60 18)) + w1).toNatClampNeg))) 94 p1.toNatClampNeg w2, g.2)) (by decide +kernel) rfl ?_
    obtain ⟨h7, H⟩ := xg_elim H
    refine xiald A (nxt := 60) (by decide +kernel) (hS _ _ sh_94) h7 ?_
    show xW k S 0 0 60 [some (.ref 60), some (.int p1), some (.int w1)] [.int ((xupd (xupd g.1 94 (12 + p1).toNatClampNeg ((g.1 94 (12 + p1).toNatClampNeg) + (g.1 74 ((10 * (g.1 60 18)) + w1).toNatClampNeg))) 94 p1.toNatClampNeg w2) 94 p1.toNatClampNeg)] (xupd (xupd g.1 94 (12 + p1).toNatClampNeg ((g.1 94 (12 + p1).toNatClampNeg) + (g.1 74 ((10 * (g.1 60 18)) + w1).toNatClampNeg))) 94 p1.toNatClampNeg w2, g.2)
    refine xb A [(.aload_n 0, 1, 0, 0, .null), (.getfield 119, 3, 60, 51, .ref 94), (.bipush 6, 2, 0, 0, .int 6), (.iload_n 1, 1, 0, 0, .null), (.iadd, 1, 0, 0, .null)] (pc' := 68) (ls' := [some (.ref 60), some (.int p1), some (.int w1)]) (st' := [.int (6 + p1), .ref 94, .int ((xupd (xupd g.1 94 (12 + p1).toNatClampNeg ((g.1 94 (12 + p1).toNatClampNeg) + (g.1 74 ((10 * (g.1 60 18)) + w1).toNatClampNeg))) 94 p1.toNatClampNeg w2) 94 p1.toNatClampNeg)]) (g' := (xupd (xupd g.1 94 (12 + p1).toNatClampNeg ((g.1 94 (12 + p1).toNatClampNeg) + (g.1 74 ((10 * (g.1 60 18)) + w1).toNatClampNeg))) 94 p1.toNatClampNeg w2, g.2)) (by decide +kernel) rfl ?_
    obtain ⟨h8, H⟩ := xg_elim H
    refine xiald A (nxt := 69) (by decide +kernel) (hS _ _ sh_94) h8 ?_
    show xW k S 0 0 69 [some (.ref 60), some (.int p1), some (.int w1)] [.int ((xupd (xupd g.1 94 (12 + p1).toNatClampNeg ((g.1 94 (12 + p1).toNatClampNeg) + (g.1 74 ((10 * (g.1 60 18)) + w1).toNatClampNeg))) 94 p1.toNatClampNeg w2) 94 (6 + p1).toNatClampNeg), .int ((xupd (xupd g.1 94 (12 + p1).toNatClampNeg ((g.1 94 (12 + p1).toNatClampNeg) + (g.1 74 ((10 * (g.1 60 18)) + w1).toNatClampNeg))) 94 p1.toNatClampNeg w2) 94 p1.toNatClampNeg)] (xupd (xupd g.1 94 (12 + p1).toNatClampNeg ((g.1 94 (12 + p1).toNatClampNeg) + (g.1 74 ((10 * (g.1 60 18)) + w1).toNatClampNeg))) 94 p1.toNatClampNeg w2, g.2)
    refine xic_ne A (14) 83 72 (by decide +kernel) (fun h9 => ?_) (fun h9 => ?_)
    · rw [if_neg h9] at H
      refine xweak (ls' := [some (.ref 60), some (.int p1), none]) (by exact ⟨rfl, ⟨rfl, trivial⟩⟩) ?_
      exact t_X12_walksOne_60_83 hS A hR hrm hz _ _ H
    · rw [if_pos h9] at H
      refine xb A [(.aload_n 0, 1, 0, 0, .null), (.getfield 119, 3, 60, 51, .ref 94), (.bipush 6, 2, 0, 0, .int 6), (.iload_n 1, 1, 0, 0, .null), (.iadd, 1, 0, 0, .null), (.bipush (-2), 2, 0, 0, .int (-2))] (pc' := 82) (ls' := [some (.ref 60), some (.int p1), some (.int w1)]) (st' := [.int (-2), .int (6 + p1), .ref 94]) (g' := (xupd (xupd g.1 94 (12 + p1).toNatClampNeg ((g.1 94 (12 + p1).toNatClampNeg) + (g.1 74 ((10 * (g.1 60 18)) + w1).toNatClampNeg))) 94 p1.toNatClampNeg w2, g.2)) (by decide +kernel) rfl ?_
      obtain ⟨h13, H⟩ := xg_elim H
      refine xiast A (nxt := 83) (by decide +kernel) (hS _ _ sh_94) h13 ?_
      show xW k S 0 0 83 [some (.ref 60), some (.int p1), some (.int w1)] [] (xupd (xupd (xupd g.1 94 (12 + p1).toNatClampNeg ((g.1 94 (12 + p1).toNatClampNeg) + (g.1 74 ((10 * (g.1 60 18)) + w1).toNatClampNeg))) 94 p1.toNatClampNeg w2) 94 (6 + p1).toNatClampNeg (-2), g.2)
      refine xweak (ls' := [some (.ref 60), some (.int p1), none]) (by exact ⟨rfl, ⟨rfl, trivial⟩⟩) ?_
      exact t_X12_walksOne_60_83 hS A hR hrm hz _ _ H
  · rw [if_neg h1] at H
    obtain rfl := Option.some.inj H
    exact xret_v A hR hz (by decide +kernel) ⟨rfl, rfl⟩
theorem fr_X12_walksOne_60 {p1 : Int32} {g : xG} (out : xG) (H : f_X12_walksOne_60 p1 g = some out) : xfrm fp_X12_walksOne_60 g (out) := by
  have H : ((f_X12_roadOf_60 p1 g).bind fun w1 =>
if 0 ≤ w1 then
  xg (¬ ((12 + p1) < 0 ∨ 40 ≤ (12 + p1).toNatClampNeg)) (
    xg (¬ (((10 * (g.1 60 18)) + w1) < 0 ∨ 20 ≤ ((10 * (g.1 60 18)) + w1).toNatClampNeg)) (
      xg (¬ ((12 + p1) < 0 ∨ 40 ≤ (12 + p1).toNatClampNeg)) (
        xg (¬ (p1 < 0 ∨ 40 ≤ p1.toNatClampNeg)) (
          (f_X12_otherEnd_60 w1 ((xupd g.1 94 (12 + p1).toNatClampNeg ((g.1 94 (12 + p1).toNatClampNeg) + (g.1 74 ((10 * (g.1 60 18)) + w1).toNatClampNeg))) 94 p1.toNatClampNeg) (xupd g.1 94 (12 + p1).toNatClampNeg ((g.1 94 (12 + p1).toNatClampNeg) + (g.1 74 ((10 * (g.1 60 18)) + w1).toNatClampNeg)), g.2)).bind fun w2 =>
          xg (¬ (p1 < 0 ∨ 40 ≤ p1.toNatClampNeg)) (
            xg (¬ (p1 < 0 ∨ 40 ≤ p1.toNatClampNeg)) (
              xg (¬ ((6 + p1) < 0 ∨ 40 ≤ (6 + p1).toNatClampNeg)) (
                if ((xupd (xupd g.1 94 (12 + p1).toNatClampNeg ((g.1 94 (12 + p1).toNatClampNeg) + (g.1 74 ((10 * (g.1 60 18)) + w1).toNatClampNeg))) 94 p1.toNatClampNeg w2) 94 p1.toNatClampNeg) = ((xupd (xupd g.1 94 (12 + p1).toNatClampNeg ((g.1 94 (12 + p1).toNatClampNeg) + (g.1 74 ((10 * (g.1 60 18)) + w1).toNatClampNeg))) 94 p1.toNatClampNeg w2) 94 (6 + p1).toNatClampNeg) then
                  xg (¬ ((6 + p1) < 0 ∨ 40 ≤ (6 + p1).toNatClampNeg)) (
                    f_X12_walksOne_60_83 p1 (xupd (xupd (xupd g.1 94 (12 + p1).toNatClampNeg ((g.1 94 (12 + p1).toNatClampNeg) + (g.1 74 ((10 * (g.1 60 18)) + w1).toNatClampNeg))) 94 p1.toNatClampNeg w2) 94 (6 + p1).toNatClampNeg (-2), g.2))
                else
                  f_X12_walksOne_60_83 p1 (xupd (xupd g.1 94 (12 + p1).toNatClampNeg ((g.1 94 (12 + p1).toNatClampNeg) + (g.1 74 ((10 * (g.1 60 18)) + w1).toNatClampNeg))) 94 p1.toNatClampNeg w2, g.2))))))))
else
  some g) = some out := H
  obtain ⟨w1, e1, H⟩ := xbind H
  by_cases h1 : 0 ≤ w1
  · rw [if_pos h1] at H
    obtain ⟨h2, H⟩ := xg_elim H
    obtain ⟨h3, H⟩ := xg_elim H
    obtain ⟨h4, H⟩ := xg_elim H
    have hf1 : xfrm fp_X12_walksOne_60 g ((xupd g.1 94 (12 + p1).toNatClampNeg ((g.1 94 (12 + p1).toNatClampNeg) + (g.1 74 ((10 * (g.1 60 18)) + w1).toNatClampNeg)), g.2)) := xfrm.ua xfrm.rf rfl
    obtain ⟨h5, H⟩ := xg_elim H
    obtain ⟨w2, e2, H⟩ := xbind H
    obtain ⟨h6, H⟩ := xg_elim H
    have hf2 : xfrm fp_X12_walksOne_60 g ((xupd (xupd g.1 94 (12 + p1).toNatClampNeg ((g.1 94 (12 + p1).toNatClampNeg) + (g.1 74 ((10 * (g.1 60 18)) + w1).toNatClampNeg))) 94 p1.toNatClampNeg w2, g.2)) := xfrm.ua hf1 rfl
    obtain ⟨h7, H⟩ := xg_elim H
    obtain ⟨h8, H⟩ := xg_elim H
    by_cases h9 : ((xupd (xupd g.1 94 (12 + p1).toNatClampNeg ((g.1 94 (12 + p1).toNatClampNeg) + (g.1 74 ((10 * (g.1 60 18)) + w1).toNatClampNeg))) 94 p1.toNatClampNeg w2) 94 p1.toNatClampNeg) = ((xupd (xupd g.1 94 (12 + p1).toNatClampNeg ((g.1 94 (12 + p1).toNatClampNeg) + (g.1 74 ((10 * (g.1 60 18)) + w1).toNatClampNeg))) 94 p1.toNatClampNeg w2) 94 (6 + p1).toNatClampNeg)
    · rw [if_pos h9] at H
      obtain ⟨h13, H⟩ := xg_elim H
      have hf4 : xfrm fp_X12_walksOne_60 g ((xupd (xupd (xupd g.1 94 (12 + p1).toNatClampNeg ((g.1 94 (12 + p1).toNatClampNeg) + (g.1 74 ((10 * (g.1 60 18)) + w1).toNatClampNeg))) 94 p1.toNatClampNeg w2) 94 (6 + p1).toNatClampNeg (-2), g.2)) := xfrm.ua hf2 rfl
      exact xfrm.tr hf4 (fr_X12_walksOne_60_83 _ _ _ H) rfl
    · rw [if_neg h9] at H
      exact xfrm.tr hf2 (fr_X12_walksOne_60_83 _ _ _ H) rfl
  · rw [if_neg h1] at H
    obtain rfl := Option.some.inj H
    exact xfrm.rf
def fp_X12_noonRings_60 : List (Nat × Option Nat) := [(60, some 49), (91, none), (92, none), (94, none)]
def f_X12_noonRings_60_155  : Nat → Int32 → xG → Option (xG)
  | 0, _, _ => none
  | n + 1, l2, g =>
    xg (¬ ((g.1 60 18) < 0 ∨ 2 ≤ (g.1 60 18).toNatClampNeg)) (
      if (g.1 75 (g.1 60 18).toNatClampNeg) ≤ l2 then
        xg (¬ ((37 : Int32) < 0 ∨ 40 ≤ (37 : Int32).toNatClampNeg)) (
          xg (¬ ((37 : Int32) < 0 ∨ 40 ≤ (37 : Int32).toNatClampNeg)) (
            some (xupd g.1 94 (37 : Int32).toNatClampNeg ((g.1 94 (37 : Int32).toNatClampNeg) + 1), g.2)))
      else
        (f_X12_walksOne_60 l2 g).bind fun w2 =>
        f_X12_noonRings_60_155 n (l2 + 1) w2)
def f_X12_noonRings_60_78  (l1 : Int32) (g : xG) : Option (xG) :=
  if l1 < 0 then
    f_X12_noonRings_60_155 xN 0 g
  else
    (f_X12_farOf_60 l1 g).bind fun w3 =>
    (f_X12_strokesBy_60 l1 w3 g).bind fun w4 =>
    xg (¬ ((24 + l1) < 0 ∨ 40 ≤ (24 + l1).toNatClampNeg)) (
      (f_X12_giftsOf_60 l1 w4.2).bind fun w5 =>
      xg (¬ ((24 + l1) < 0 ∨ 40 ≤ (24 + l1).toNatClampNeg)) (
        xg (¬ ((18 + l1) < 0 ∨ 40 ≤ (18 + l1).toNatClampNeg)) (
          xg (¬ ((18 + l1) < 0 ∨ 40 ≤ (18 + l1).toNatClampNeg)) (
            xg (¬ ((38 : Int32) < 0 ∨ 40 ≤ (38 : Int32).toNatClampNeg)) (
              xg (¬ ((39 : Int32) < 0 ∨ 40 ≤ (39 : Int32).toNatClampNeg)) (
                f_X12_noonRings_60_155 xN 0 (xupd (xupd (xupd (xupd w5.2.1 94 (24 + l1).toNatClampNeg (f_X12_within ((w4.2.1 94 (24 + l1).toNatClampNeg) + w5.1) 0 99999)) 94 (18 + l1).toNatClampNeg (((xupd w5.2.1 94 (24 + l1).toNatClampNeg (f_X12_within ((w4.2.1 94 (24 + l1).toNatClampNeg) + w5.1) 0 99999)) 94 (18 + l1).toNatClampNeg) + 1)) 94 (38 : Int32).toNatClampNeg l1) 94 (39 : Int32).toNatClampNeg w4.1, w5.2.2)))))))
def f_X12_noonRings_60  (g : xG) : Option (xG) :=
  (f_X12_ringerNow_60 g).bind fun w1 =>
  xg (¬ ((38 : Int32) < 0 ∨ 40 ≤ (38 : Int32).toNatClampNeg)) (
    xg (¬ ((39 : Int32) < 0 ∨ 40 ≤ (39 : Int32).toNatClampNeg)) (
      if w1.1 < 0 then
        f_X12_noonRings_60_78 w1.1 (xupd (xupd w1.2.1 94 (38 : Int32).toNatClampNeg (-2)) 94 (39 : Int32).toNatClampNeg 0, w1.2.2)
      else
        if (w1.2.1 60 53) = 0 then
          (f_X12_doesLie_60 w1.1 (xupd (xupd w1.2.1 94 (38 : Int32).toNatClampNeg (-2)) 94 (39 : Int32).toNatClampNeg 0, w1.2.2)).bind fun w6 =>
          if w6.1 = 0 then
            f_X12_noonRings_60_78 w1.1 w6.2
          else
            xg (¬ ((37 : Int32) < 0 ∨ 40 ≤ (37 : Int32).toNatClampNeg)) (
              (f_X12_lotOf_60 ((8 * (w6.2.1 94 (37 : Int32).toNatClampNeg)) + w1.1) w6.2).bind fun w7 =>
              (f_X12_doubtsOf_60 w1.1 w6.2).bind fun w8 =>
              if w8.1 ≤ w7 then
                f_X12_noonRings_60_78 w1.1 w8.2
              else
                xg (¬ ((30 + w1.1) < 0 ∨ 40 ≤ (30 + w1.1).toNatClampNeg)) (
                  f_X12_noonRings_60_155 xN 0 (xupd w8.2.1 94 (30 + w1.1).toNatClampNeg 1, w8.2.2)))
        else
          f_X12_noonRings_60_78 w1.1 (xupd (xupd w1.2.1 94 (38 : Int32).toNatClampNeg (-2)) 94 (39 : Int32).toNatClampNeg 0, w1.2.2)))
set_option maxRecDepth 20000 in
theorem t_X12_noonRings_60_155 {k : xK} {S : List xSh} {out : xG} (hS : xpf SH2 S) (A : xAt k mX12_noonRings.2.1 12 SH2 S) (hR : xRet k 0 0 S (fun r g' => r = none ∧ g' = out) mX12_noonRings.2.2.2) (hrm : xrm k = { frames := 7, cells := 0, slots := 0, locals := 153 }) (hz : xhs k = xb0 k + S.length)   : ∀ (n : Nat) (l2 : Int32) (g : xG), f_X12_noonRings_60_155 n l2 g = some out → xW k S 0 0 155 [some (.ref 60), none, some (.int l2)] [] g := by
  intro n
  induction n with
  | zero => intro l2 g H; exact absurd H (by simp [f_X12_noonRings_60_155])
  | succ n ih =>
    intro l2 g H
    have H : (xg (¬ ((g.1 60 18) < 0 ∨ 2 ≤ (g.1 60 18).toNatClampNeg)) (
  if (g.1 75 (g.1 60 18).toNatClampNeg) ≤ l2 then
    xg (¬ ((37 : Int32) < 0 ∨ 40 ≤ (37 : Int32).toNatClampNeg)) (
      xg (¬ ((37 : Int32) < 0 ∨ 40 ≤ (37 : Int32).toNatClampNeg)) (
        some (xupd g.1 94 (37 : Int32).toNatClampNeg ((g.1 94 (37 : Int32).toNatClampNeg) + 1), g.2)))
  else
    (f_X12_walksOne_60 l2 g).bind fun w2 =>
    f_X12_noonRings_60_155 n (l2 + 1) w2)) = some out := H
    refine xb A [(.iload_n 2, 1, 0, 0, .null), (.aload_n 0, 1, 0, 0, .null), (.getfield 61, 3, 60, 28, .ref 75), (.aload_n 0, 1, 0, 0, .null), (.getfield 227, 3, 60, 18, .int 0)] (pc' := 164) (ls' := [some (.ref 60), none, some (.int l2)]) (st' := [.int (g.1 60 18), .ref 75, .int l2]) (g' := g) (by decide +kernel) rfl ?_
    obtain ⟨h5, H⟩ := xg_elim H
    refine xiald A (nxt := 165) (by decide +kernel) (hS _ _ sh_75) h5 ?_
    show xW k S 0 0 165 [some (.ref 60), none, some (.int l2)] [.int (g.1 75 (g.1 60 18).toNatClampNeg), .int l2] g
    refine xic_ge A (14) 179 168 (by decide +kernel) (fun h6 => ?_) (fun h6 => ?_)
    · rw [if_pos h6] at H
      refine xb A [(.aload_n 0, 1, 0, 0, .null), (.getfield 119, 3, 60, 51, .ref 94), (.bipush 37, 2, 0, 0, .int 37), (.dup2, 1, 0, 0, .null)] (pc' := 186) (ls' := [some (.ref 60), none, some (.int l2)]) (st' := [.int 37, .ref 94, .int 37, .ref 94]) (g' := g) (by decide +kernel) rfl ?_
      obtain ⟨h7, H⟩ := xg_elim H
      refine xiald A (nxt := 187) (by decide +kernel) (hS _ _ sh_94) h7 ?_
      show xW k S 0 0 187 [some (.ref 60), none, some (.int l2)] [.int (g.1 94 (37 : Int32).toNatClampNeg), .int 37, .ref 94] g
      refine xb A [(.iconst 1, 1, 0, 0, .int 1), (.iadd, 1, 0, 0, .null)] (pc' := 189) (ls' := [some (.ref 60), none, some (.int l2)]) (st' := [.int ((g.1 94 (37 : Int32).toNatClampNeg) + 1), .int 37, .ref 94]) (g' := g) (by decide +kernel) rfl ?_
      obtain ⟨h8, H⟩ := xg_elim H
      refine xiast A (nxt := 190) (by decide +kernel) (hS _ _ sh_94) h8 ?_
      show xW k S 0 0 190 [some (.ref 60), none, some (.int l2)] [] (xupd g.1 94 (37 : Int32).toNatClampNeg ((g.1 94 (37 : Int32).toNatClampNeg) + 1), g.2)
      obtain rfl := Option.some.inj H
      exact xret_v A hR hz (by decide +kernel) ⟨rfl, rfl⟩
    · rw [if_neg h6] at H
      refine xb A [(.aload_n 0, 1, 0, 0, .null), (.iload_n 2, 1, 0, 0, .null)] (pc' := 170) (ls' := [some (.ref 60), none, some (.int l2)]) (st' := [.int l2, .ref 60]) (g' := g) (by decide +kernel) rfl ?_
      obtain ⟨w2, e2, H⟩ := xbind H
      refine xcallV A (ix := 407) (nxt := 173) hrm hz [.int l2] [] 1861 (c_X12_walksOne_60 hS _ e2) ok_X12_walksOne (by decide +kernel) rfl (fun r g1 hq => ?_)
      rw [hq.1, hq.2]
      show xW k S 0 0 173 [some (.ref 60), none, some (.int l2)] [] w2
      refine xb A [(.iinc 2 1, 3, 0, 0, .null)] (pc' := 176) (ls' := [some (.ref 60), none, some (.int (l2 + 1))]) (st' := []) (g' := w2) (by decide +kernel) rfl ?_
      refine xgoto A (-21) 155 (by decide +kernel) ?_
      exact ih _ _ H
theorem fr_X12_noonRings_60_155   : ∀ (n : Nat) (l2 : Int32) (g : xG) (out : xG), f_X12_noonRings_60_155 n l2 g = some out → xfrm fp_X12_noonRings_60 g (out) := by
  intro n
  induction n with
  | zero => intro l2 g out H; exact absurd H (by simp [f_X12_noonRings_60_155])
  | succ n ih =>
    intro l2 g out H
    have H : (xg (¬ ((g.1 60 18) < 0 ∨ 2 ≤ (g.1 60 18).toNatClampNeg)) (
  if (g.1 75 (g.1 60 18).toNatClampNeg) ≤ l2 then
    xg (¬ ((37 : Int32) < 0 ∨ 40 ≤ (37 : Int32).toNatClampNeg)) (
      xg (¬ ((37 : Int32) < 0 ∨ 40 ≤ (37 : Int32).toNatClampNeg)) (
        some (xupd g.1 94 (37 : Int32).toNatClampNeg ((g.1 94 (37 : Int32).toNatClampNeg) + 1), g.2)))
  else
    (f_X12_walksOne_60 l2 g).bind fun w2 =>
    f_X12_noonRings_60_155 n (l2 + 1) w2)) = some out := H
    obtain ⟨h5, H⟩ := xg_elim H
    by_cases h6 : (g.1 75 (g.1 60 18).toNatClampNeg) ≤ l2
    · rw [if_pos h6] at H
      obtain ⟨h7, H⟩ := xg_elim H
      obtain ⟨h8, H⟩ := xg_elim H
      have hf4 : xfrm fp_X12_noonRings_60 g ((xupd g.1 94 (37 : Int32).toNatClampNeg ((g.1 94 (37 : Int32).toNatClampNeg) + 1), g.2)) := xfrm.ua xfrm.rf rfl
      obtain rfl := Option.some.inj H
      exact hf4
    · rw [if_neg h6] at H
      obtain ⟨w2, e2, H⟩ := xbind H
      have hf5 : xfrm fp_X12_noonRings_60 g (w2) := xfrm.tr xfrm.rf (fr_X12_walksOne_60 _ e2) rfl
      exact xfrm.tr hf5 (ih _ _ _ H) rfl
set_option maxRecDepth 20000 in
theorem t_X12_noonRings_60_78 {k : xK} {S : List xSh} {out : xG} (hS : xpf SH2 S) (A : xAt k mX12_noonRings.2.1 12 SH2 S) (hR : xRet k 0 0 S (fun r g' => r = none ∧ g' = out) mX12_noonRings.2.2.2) (hrm : xrm k = { frames := 7, cells := 0, slots := 0, locals := 153 }) (hz : xhs k = xb0 k + S.length)   : ∀ (l1 : Int32) (g : xG), f_X12_noonRings_60_78 l1 g = some out → xW k S 0 0 78 [some (.ref 60), some (.int l1), none] [] g := by
  intro l1 g H
  have H : (if l1 < 0 then
  f_X12_noonRings_60_155 xN 0 g
else
  (f_X12_farOf_60 l1 g).bind fun w3 =>
  (f_X12_strokesBy_60 l1 w3 g).bind fun w4 =>
  xg (¬ ((24 + l1) < 0 ∨ 40 ≤ (24 + l1).toNatClampNeg)) (
    (f_X12_giftsOf_60 l1 w4.2).bind fun w5 =>
    xg (¬ ((24 + l1) < 0 ∨ 40 ≤ (24 + l1).toNatClampNeg)) (
      xg (¬ ((18 + l1) < 0 ∨ 40 ≤ (18 + l1).toNatClampNeg)) (
        xg (¬ ((18 + l1) < 0 ∨ 40 ≤ (18 + l1).toNatClampNeg)) (
          xg (¬ ((38 : Int32) < 0 ∨ 40 ≤ (38 : Int32).toNatClampNeg)) (
            xg (¬ ((39 : Int32) < 0 ∨ 40 ≤ (39 : Int32).toNatClampNeg)) (
              f_X12_noonRings_60_155 xN 0 (xupd (xupd (xupd (xupd w5.2.1 94 (24 + l1).toNatClampNeg (f_X12_within ((w4.2.1 94 (24 + l1).toNatClampNeg) + w5.1) 0 99999)) 94 (18 + l1).toNatClampNeg (((xupd w5.2.1 94 (24 + l1).toNatClampNeg (f_X12_within ((w4.2.1 94 (24 + l1).toNatClampNeg) + w5.1) 0 99999)) 94 (18 + l1).toNatClampNeg) + 1)) 94 (38 : Int32).toNatClampNeg l1) 94 (39 : Int32).toNatClampNeg w4.1, w5.2.2)))))))) = some out := H
  refine xb A [(.iload_n 1, 1, 0, 0, .null)] (pc' := 79) (ls' := [some (.ref 60), some (.int l1), none]) (st' := [.int l1]) (g' := g) (by decide +kernel) rfl ?_
  refine xif_lt A (74) 153 82 (by decide +kernel) (fun h4 => ?_) (fun h4 => ?_)
  · rw [if_pos h4] at H
    refine xb A [(.iconst 0, 1, 0, 0, .int 0), (.istore_n 2, 1, 0, 0, .null)] (pc' := 155) (ls' := [some (.ref 60), some (.int l1), some (.int 0)]) (st' := []) (g' := g) (by decide +kernel) rfl ?_
    refine xweak (ls' := [some (.ref 60), none, some (.int 0)]) (by exact ⟨rfl, ⟨rfl, trivial⟩⟩) ?_
    exact t_X12_noonRings_60_155 hS A hR hrm hz _ _ _ H
  · rw [if_neg h4] at H
    refine xb A [(.aload_n 0, 1, 0, 0, .null), (.iload_n 1, 1, 0, 0, .null), (.aload_n 0, 1, 0, 0, .null), (.iload_n 1, 1, 0, 0, .null)] (pc' := 86) (ls' := [some (.ref 60), some (.int l1), none]) (st' := [.int l1, .ref 60, .int l1, .ref 60]) (g' := g) (by decide +kernel) rfl ?_
    obtain ⟨w3, e3, H⟩ := xbind H
    refine xcallV A (ix := 354) (nxt := 89) hrm hz [.int l1] [.int l1, .ref 60] 1747 (c_X12_farOf_60 hS _ e3) ok_X12_farOf (by decide +kernel) rfl (fun r g1 hq => ?_)
    rw [hq.1, hq.2]
    show xW k S 0 0 89 [some (.ref 60), some (.int l1), none] [.int w3, .int l1, .ref 60] g
    obtain ⟨w4, e4, H⟩ := xbind H
    refine xcallV A (ix := 400) (nxt := 92) hrm hz [.int l1, .int w3] [] 1785 (c_X12_strokesBy_60 hS _ e4) ok_X12_strokesBy (by decide +kernel) rfl (fun r g1 hq => ?_)
    rw [hq.1, hq.2]
    show xW k S 0 0 92 [some (.ref 60), some (.int l1), none] [.int w4.1] w4.2
    refine xb A [(.istore_n 2, 1, 0, 0, .null), (.aload_n 0, 1, 0, 0, .null), (.getfield 119, 3, 60, 51, .ref 94), (.bipush 24, 2, 0, 0, .int 24), (.iload_n 1, 1, 0, 0, .null), (.iadd, 1, 0, 0, .null), (.aload_n 0, 1, 0, 0, .null), (.getfield 119, 3, 60, 51, .ref 94), (.bipush 24, 2, 0, 0, .int 24), (.iload_n 1, 1, 0, 0, .null), (.iadd, 1, 0, 0, .null)] (pc' := 109) (ls' := [some (.ref 60), some (.int l1), some (.int w4.1)]) (st' := [.int (24 + l1), .ref 94, .int (24 + l1), .ref 94]) (g' := w4.2) (by decide +kernel) rfl ?_
    obtain ⟨h9, H⟩ := xg_elim H
    refine xiald A (nxt := 110) (by decide +kernel) (hS _ _ sh_94) h9 ?_
    show xW k S 0 0 110 [some (.ref 60), some (.int l1), some (.int w4.1)] [.int (w4.2.1 94 (24 + l1).toNatClampNeg), .int (24 + l1), .ref 94] w4.2
    refine xb A [(.aload_n 0, 1, 0, 0, .null), (.iload_n 1, 1, 0, 0, .null)] (pc' := 112) (ls' := [some (.ref 60), some (.int l1), some (.int w4.1)]) (st' := [.int l1, .ref 60, .int (w4.2.1 94 (24 + l1).toNatClampNeg), .int (24 + l1), .ref 94]) (g' := w4.2) (by decide +kernel) rfl ?_
    obtain ⟨w5, e5, H⟩ := xbind H
    refine xcallV A (ix := 403) (nxt := 115) hrm hz [.int l1] [.int (w4.2.1 94 (24 + l1).toNatClampNeg), .int (24 + l1), .ref 94] 1793 (c_X12_giftsOf_60 hS _ e5) ok_X12_giftsOf (by decide +kernel) rfl (fun r g1 hq => ?_)
    rw [hq.1, hq.2]
    show xW k S 0 0 115 [some (.ref 60), some (.int l1), some (.int w4.1)] [.int w5.1, .int (w4.2.1 94 (24 + l1).toNatClampNeg), .int (24 + l1), .ref 94] w5.2
    refine xb A [(.iadd, 1, 0, 0, .null), (.iconst 0, 1, 0, 0, .int 0), (.ldc_w 406, 3, 0, 0, .int 99999)] (pc' := 120) (ls' := [some (.ref 60), some (.int l1), some (.int w4.1)]) (st' := [.int 99999, .int 0, .int ((w4.2.1 94 (24 + l1).toNatClampNeg) + w5.1), .int (24 + l1), .ref 94]) (g' := w5.2) (by decide +kernel) rfl ?_
    refine xcallS A (ix := 351) (nxt := 123) hrm hz [.int ((w4.2.1 94 (24 + l1).toNatClampNeg) + w5.1), .int 0, .int 99999] [.int (24 + l1), .ref 94] 1782 (c_X12_within hS _ rfl) ok_X12_within (by decide +kernel) rfl (fun r g1 hq => ?_)
    rw [hq.1, hq.2]
    show xW k S 0 0 123 [some (.ref 60), some (.int l1), some (.int w4.1)] [.int (f_X12_within ((w4.2.1 94 (24 + l1).toNatClampNeg) + w5.1) 0 99999), .int (24 + l1), .ref 94] w5.2
    obtain ⟨h10, H⟩ := xg_elim H
    refine xiast A (nxt := 124) (by decide +kernel) (hS _ _ sh_94) h10 ?_
    show xW k S 0 0 124 [some (.ref 60), some (.int l1), some (.int w4.1)] [] (xupd w5.2.1 94 (24 + l1).toNatClampNeg (f_X12_within ((w4.2.1 94 (24 + l1).toNatClampNeg) + w5.1) 0 99999), w5.2.2)
    refine xb A [(.aload_n 0, 1, 0, 0, .null), (.getfield 119, 3, 60, 51, .ref 94), (.bipush 18, 2, 0, 0, .int 18), (.iload_n 1, 1, 0, 0, .null), (.iadd, 1, 0, 0, .null), (.dup2, 1, 0, 0, .null)] (pc' := 133) (ls' := [some (.ref 60), some (.int l1), some (.int w4.1)]) (st' := [.int (18 + l1), .ref 94, .int (18 + l1), .ref 94]) (g' := (xupd w5.2.1 94 (24 + l1).toNatClampNeg (f_X12_within ((w4.2.1 94 (24 + l1).toNatClampNeg) + w5.1) 0 99999), w5.2.2)) (by decide +kernel) rfl ?_
    obtain ⟨h11, H⟩ := xg_elim H
    refine xiald A (nxt := 134) (by decide +kernel) (hS _ _ sh_94) h11 ?_
    show xW k S 0 0 134 [some (.ref 60), some (.int l1), some (.int w4.1)] [.int ((xupd w5.2.1 94 (24 + l1).toNatClampNeg (f_X12_within ((w4.2.1 94 (24 + l1).toNatClampNeg) + w5.1) 0 99999)) 94 (18 + l1).toNatClampNeg), .int (18 + l1), .ref 94] (xupd w5.2.1 94 (24 + l1).toNatClampNeg (f_X12_within ((w4.2.1 94 (24 + l1).toNatClampNeg) + w5.1) 0 99999), w5.2.2)
    refine xb A [(.iconst 1, 1, 0, 0, .int 1), (.iadd, 1, 0, 0, .null)] (pc' := 136) (ls' := [some (.ref 60), some (.int l1), some (.int w4.1)]) (st' := [.int (((xupd w5.2.1 94 (24 + l1).toNatClampNeg (f_X12_within ((w4.2.1 94 (24 + l1).toNatClampNeg) + w5.1) 0 99999)) 94 (18 + l1).toNatClampNeg) + 1), .int (18 + l1), .ref 94]) (g' := (xupd w5.2.1 94 (24 + l1).toNatClampNeg (f_X12_within ((w4.2.1 94 (24 + l1).toNatClampNeg) + w5.1) 0 99999), w5.2.2)) (by decide +kernel) rfl ?_
    obtain ⟨h12, H⟩ := xg_elim H
    refine xiast A (nxt := 137) (by decide +kernel) (hS _ _ sh_94) h12 ?_
    show xW k S 0 0 137 [some (.ref 60), some (.int l1), some (.int w4.1)] [] (xupd (xupd w5.2.1 94 (24 + l1).toNatClampNeg (f_X12_within ((w4.2.1 94 (24 + l1).toNatClampNeg) + w5.1) 0 99999)) 94 (18 + l1).toNatClampNeg (((xupd w5.2.1 94 (24 + l1).toNatClampNeg (f_X12_within ((w4.2.1 94 (24 + l1).toNatClampNeg) + w5.1) 0 99999)) 94 (18 + l1).toNatClampNeg) + 1), w5.2.2)
    refine xb A [(.aload_n 0, 1, 0, 0, .null), (.getfield 119, 3, 60, 51, .ref 94), (.bipush 38, 2, 0, 0, .int 38), (.iload_n 1, 1, 0, 0, .null)] (pc' := 144) (ls' := [some (.ref 60), some (.int l1), some (.int w4.1)]) (st' := [.int l1, .int 38, .ref 94]) (g' := (xupd (xupd w5.2.1 94 (24 + l1).toNatClampNeg (f_X12_within ((w4.2.1 94 (24 + l1).toNatClampNeg) + w5.1) 0 99999)) 94 (18 + l1).toNatClampNeg (((xupd w5.2.1 94 (24 + l1).toNatClampNeg (f_X12_within ((w4.2.1 94 (24 + l1).toNatClampNeg) + w5.1) 0 99999)) 94 (18 + l1).toNatClampNeg) + 1), w5.2.2)) (by decide +kernel) rfl ?_
    obtain ⟨h13, H⟩ := xg_elim H
    refine xiast A (nxt := 145) (by decide +kernel) (hS _ _ sh_94) h13 ?_
    show xW k S 0 0 145 [some (.ref 60), some (.int l1), some (.int w4.1)] [] (xupd (xupd (xupd w5.2.1 94 (24 + l1).toNatClampNeg (f_X12_within ((w4.2.1 94 (24 + l1).toNatClampNeg) + w5.1) 0 99999)) 94 (18 + l1).toNatClampNeg (((xupd w5.2.1 94 (24 + l1).toNatClampNeg (f_X12_within ((w4.2.1 94 (24 + l1).toNatClampNeg) + w5.1) 0 99999)) 94 (18 + l1).toNatClampNeg) + 1)) 94 (38 : Int32).toNatClampNeg l1, w5.2.2)
    refine xb A [(.aload_n 0, 1, 0, 0, .null), (.getfield 119, 3, 60, 51, .ref 94), (.bipush 39, 2, 0, 0, .int 39), (.iload_n 2, 1, 0, 0, .null)] (pc' := 152) (ls' := [some (.ref 60), some (.int l1), some (.int w4.1)]) (st' := [.int w4.1, .int 39, .ref 94]) (g' := (xupd (xupd (xupd w5.2.1 94 (24 + l1).toNatClampNeg (f_X12_within ((w4.2.1 94 (24 + l1).toNatClampNeg) + w5.1) 0 99999)) 94 (18 + l1).toNatClampNeg (((xupd w5.2.1 94 (24 + l1).toNatClampNeg (f_X12_within ((w4.2.1 94 (24 + l1).toNatClampNeg) + w5.1) 0 99999)) 94 (18 + l1).toNatClampNeg) + 1)) 94 (38 : Int32).toNatClampNeg l1, w5.2.2)) (by decide +kernel) rfl ?_
    obtain ⟨h14, H⟩ := xg_elim H
    refine xiast A (nxt := 153) (by decide +kernel) (hS _ _ sh_94) h14 ?_
    show xW k S 0 0 153 [some (.ref 60), some (.int l1), some (.int w4.1)] [] (xupd (xupd (xupd (xupd w5.2.1 94 (24 + l1).toNatClampNeg (f_X12_within ((w4.2.1 94 (24 + l1).toNatClampNeg) + w5.1) 0 99999)) 94 (18 + l1).toNatClampNeg (((xupd w5.2.1 94 (24 + l1).toNatClampNeg (f_X12_within ((w4.2.1 94 (24 + l1).toNatClampNeg) + w5.1) 0 99999)) 94 (18 + l1).toNatClampNeg) + 1)) 94 (38 : Int32).toNatClampNeg l1) 94 (39 : Int32).toNatClampNeg w4.1, w5.2.2)
    refine xb A [(.iconst 0, 1, 0, 0, .int 0), (.istore_n 2, 1, 0, 0, .null)] (pc' := 155) (ls' := [some (.ref 60), some (.int l1), some (.int 0)]) (st' := []) (g' := (xupd (xupd (xupd (xupd w5.2.1 94 (24 + l1).toNatClampNeg (f_X12_within ((w4.2.1 94 (24 + l1).toNatClampNeg) + w5.1) 0 99999)) 94 (18 + l1).toNatClampNeg (((xupd w5.2.1 94 (24 + l1).toNatClampNeg (f_X12_within ((w4.2.1 94 (24 + l1).toNatClampNeg) + w5.1) 0 99999)) 94 (18 + l1).toNatClampNeg) + 1)) 94 (38 : Int32).toNatClampNeg l1) 94 (39 : Int32).toNatClampNeg w4.1, w5.2.2)) (by decide +kernel) rfl ?_
    refine xweak (ls' := [some (.ref 60), none, some (.int 0)]) (by exact ⟨rfl, ⟨rfl, trivial⟩⟩) ?_
    exact t_X12_noonRings_60_155 hS A hR hrm hz _ _ _ H
theorem fr_X12_noonRings_60_78   : ∀ (l1 : Int32) (g : xG) (out : xG), f_X12_noonRings_60_78 l1 g = some out → xfrm fp_X12_noonRings_60 g (out) := by
  intro l1 g out H
  have H : (if l1 < 0 then
  f_X12_noonRings_60_155 xN 0 g
else
  (f_X12_farOf_60 l1 g).bind fun w3 =>
  (f_X12_strokesBy_60 l1 w3 g).bind fun w4 =>
  xg (¬ ((24 + l1) < 0 ∨ 40 ≤ (24 + l1).toNatClampNeg)) (
    (f_X12_giftsOf_60 l1 w4.2).bind fun w5 =>
    xg (¬ ((24 + l1) < 0 ∨ 40 ≤ (24 + l1).toNatClampNeg)) (
      xg (¬ ((18 + l1) < 0 ∨ 40 ≤ (18 + l1).toNatClampNeg)) (
        xg (¬ ((18 + l1) < 0 ∨ 40 ≤ (18 + l1).toNatClampNeg)) (
          xg (¬ ((38 : Int32) < 0 ∨ 40 ≤ (38 : Int32).toNatClampNeg)) (
            xg (¬ ((39 : Int32) < 0 ∨ 40 ≤ (39 : Int32).toNatClampNeg)) (
              f_X12_noonRings_60_155 xN 0 (xupd (xupd (xupd (xupd w5.2.1 94 (24 + l1).toNatClampNeg (f_X12_within ((w4.2.1 94 (24 + l1).toNatClampNeg) + w5.1) 0 99999)) 94 (18 + l1).toNatClampNeg (((xupd w5.2.1 94 (24 + l1).toNatClampNeg (f_X12_within ((w4.2.1 94 (24 + l1).toNatClampNeg) + w5.1) 0 99999)) 94 (18 + l1).toNatClampNeg) + 1)) 94 (38 : Int32).toNatClampNeg l1) 94 (39 : Int32).toNatClampNeg w4.1, w5.2.2)))))))) = some out := H
  by_cases h4 : l1 < 0
  · rw [if_pos h4] at H
    exact xfrm.tr xfrm.rf (fr_X12_noonRings_60_155 _ _ _ _ H) rfl
  · rw [if_neg h4] at H
    obtain ⟨w3, e3, H⟩ := xbind H
    obtain ⟨w4, e4, H⟩ := xbind H
    have hf6 : xfrm fp_X12_noonRings_60 g (w4.2) := xfrm.tr xfrm.rf (fr_X12_strokesBy_60 _ e4) rfl
    obtain ⟨h9, H⟩ := xg_elim H
    obtain ⟨w5, e5, H⟩ := xbind H
    have hf7 : xfrm fp_X12_noonRings_60 g (w5.2) := xfrm.tr hf6 (fr_X12_giftsOf_60 _ e5) rfl
    obtain ⟨h10, H⟩ := xg_elim H
    have hf8 : xfrm fp_X12_noonRings_60 g ((xupd w5.2.1 94 (24 + l1).toNatClampNeg (f_X12_within ((w4.2.1 94 (24 + l1).toNatClampNeg) + w5.1) 0 99999), w5.2.2)) := xfrm.ua hf7 rfl
    obtain ⟨h11, H⟩ := xg_elim H
    obtain ⟨h12, H⟩ := xg_elim H
    have hf9 : xfrm fp_X12_noonRings_60 g ((xupd (xupd w5.2.1 94 (24 + l1).toNatClampNeg (f_X12_within ((w4.2.1 94 (24 + l1).toNatClampNeg) + w5.1) 0 99999)) 94 (18 + l1).toNatClampNeg (((xupd w5.2.1 94 (24 + l1).toNatClampNeg (f_X12_within ((w4.2.1 94 (24 + l1).toNatClampNeg) + w5.1) 0 99999)) 94 (18 + l1).toNatClampNeg) + 1), w5.2.2)) := xfrm.ua hf8 rfl
    obtain ⟨h13, H⟩ := xg_elim H
    have hf10 : xfrm fp_X12_noonRings_60 g ((xupd (xupd (xupd w5.2.1 94 (24 + l1).toNatClampNeg (f_X12_within ((w4.2.1 94 (24 + l1).toNatClampNeg) + w5.1) 0 99999)) 94 (18 + l1).toNatClampNeg (((xupd w5.2.1 94 (24 + l1).toNatClampNeg (f_X12_within ((w4.2.1 94 (24 + l1).toNatClampNeg) + w5.1) 0 99999)) 94 (18 + l1).toNatClampNeg) + 1)) 94 (38 : Int32).toNatClampNeg l1, w5.2.2)) := xfrm.ua hf9 rfl
    obtain ⟨h14, H⟩ := xg_elim H
    have hf11 : xfrm fp_X12_noonRings_60 g ((xupd (xupd (xupd (xupd w5.2.1 94 (24 + l1).toNatClampNeg (f_X12_within ((w4.2.1 94 (24 + l1).toNatClampNeg) + w5.1) 0 99999)) 94 (18 + l1).toNatClampNeg (((xupd w5.2.1 94 (24 + l1).toNatClampNeg (f_X12_within ((w4.2.1 94 (24 + l1).toNatClampNeg) + w5.1) 0 99999)) 94 (18 + l1).toNatClampNeg) + 1)) 94 (38 : Int32).toNatClampNeg l1) 94 (39 : Int32).toNatClampNeg w4.1, w5.2.2)) := xfrm.ua hf10 rfl
    exact xfrm.tr hf11 (fr_X12_noonRings_60_155 _ _ _ _ H) rfl
set_option maxRecDepth 20000 in
theorem c_X12_noonRings_60 {S : List xSh} (hS : xpf SH2 S) {g : xG}  (out : xG) (H : f_X12_noonRings_60  g = some out) : xC mX12_noonRings 7 153 0 0 S [.ref 60] g S (fun r g' => r = none ∧ g' = out) := by
  have H : ((f_X12_ringerNow_60 g).bind fun w1 =>
xg (¬ ((38 : Int32) < 0 ∨ 40 ≤ (38 : Int32).toNatClampNeg)) (
  xg (¬ ((39 : Int32) < 0 ∨ 40 ≤ (39 : Int32).toNatClampNeg)) (
    if w1.1 < 0 then
      f_X12_noonRings_60_78 w1.1 (xupd (xupd w1.2.1 94 (38 : Int32).toNatClampNeg (-2)) 94 (39 : Int32).toNatClampNeg 0, w1.2.2)
    else
      if (w1.2.1 60 53) = 0 then
        (f_X12_doesLie_60 w1.1 (xupd (xupd w1.2.1 94 (38 : Int32).toNatClampNeg (-2)) 94 (39 : Int32).toNatClampNeg 0, w1.2.2)).bind fun w6 =>
        if w6.1 = 0 then
          f_X12_noonRings_60_78 w1.1 w6.2
        else
          xg (¬ ((37 : Int32) < 0 ∨ 40 ≤ (37 : Int32).toNatClampNeg)) (
            (f_X12_lotOf_60 ((8 * (w6.2.1 94 (37 : Int32).toNatClampNeg)) + w1.1) w6.2).bind fun w7 =>
            (f_X12_doubtsOf_60 w1.1 w6.2).bind fun w8 =>
            if w8.1 ≤ w7 then
              f_X12_noonRings_60_78 w1.1 w8.2
            else
              xg (¬ ((30 + w1.1) < 0 ∨ 40 ≤ (30 + w1.1).toNatClampNeg)) (
                f_X12_noonRings_60_155 xN 0 (xupd w8.2.1 94 (30 + w1.1).toNatClampNeg 1, w8.2.2)))
      else
        f_X12_noonRings_60_78 w1.1 (xupd (xupd w1.2.1 94 (38 : Int32).toNatClampNeg (-2)) 94 (39 : Int32).toNatClampNeg 0, w1.2.2)))) = some out := H
  refine xC.of 12 SH2 [some (.ref 60), none, none] hS (by decide +kernel) rfl (fun _ _ => Nat.le_of_ble_eq_true rfl) (fun _ _ => rfl) ?_
  intro k A hR hrm hz
  refine xb A [(.aload_n 0, 1, 0, 0, .null)] (pc' := 1) (ls' := [some (.ref 60), none, none]) (st' := [.ref 60]) (g' := g) (by decide +kernel) rfl ?_
  obtain ⟨w1, e1, H⟩ := xbind H
  refine xcallV A (ix := 388) (nxt := 4) hrm hz [] [] 1836 (c_X12_ringerNow_60 hS _ e1) ok_X12_ringerNow (by decide +kernel) rfl (fun r g1 hq => ?_)
  rw [hq.1, hq.2]
  show xW k S 0 0 4 [some (.ref 60), none, none] [.int w1.1] w1.2
  refine xb A [(.istore_n 1, 1, 0, 0, .null), (.aload_n 0, 1, 0, 0, .null), (.getfield 119, 3, 60, 51, .ref 94), (.bipush 38, 2, 0, 0, .int 38), (.bipush (-2), 2, 0, 0, .int (-2))] (pc' := 13) (ls' := [some (.ref 60), some (.int w1.1), none]) (st' := [.int (-2), .int 38, .ref 94]) (g' := w1.2) (by decide +kernel) rfl ?_
  obtain ⟨h1, H⟩ := xg_elim H
  refine xiast A (nxt := 14) (by decide +kernel) (hS _ _ sh_94) h1 ?_
  show xW k S 0 0 14 [some (.ref 60), some (.int w1.1), none] [] (xupd w1.2.1 94 (38 : Int32).toNatClampNeg (-2), w1.2.2)
  refine xb A [(.aload_n 0, 1, 0, 0, .null), (.getfield 119, 3, 60, 51, .ref 94), (.bipush 39, 2, 0, 0, .int 39), (.iconst 0, 1, 0, 0, .int 0)] (pc' := 21) (ls' := [some (.ref 60), some (.int w1.1), none]) (st' := [.int 0, .int 39, .ref 94]) (g' := (xupd w1.2.1 94 (38 : Int32).toNatClampNeg (-2), w1.2.2)) (by decide +kernel) rfl ?_
  obtain ⟨h2, H⟩ := xg_elim H
  refine xiast A (nxt := 22) (by decide +kernel) (hS _ _ sh_94) h2 ?_
  show xW k S 0 0 22 [some (.ref 60), some (.int w1.1), none] [] (xupd (xupd w1.2.1 94 (38 : Int32).toNatClampNeg (-2)) 94 (39 : Int32).toNatClampNeg 0, w1.2.2)
  refine xb A [(.iload_n 1, 1, 0, 0, .null)] (pc' := 23) (ls' := [some (.ref 60), some (.int w1.1), none]) (st' := [.int w1.1]) (g' := (xupd (xupd w1.2.1 94 (38 : Int32).toNatClampNeg (-2)) 94 (39 : Int32).toNatClampNeg 0, w1.2.2)) (by decide +kernel) rfl ?_
  refine xif_lt A (55) 78 26 (by decide +kernel) (fun h3 => ?_) (fun h3 => ?_)
  · rw [if_pos h3] at H
    exact t_X12_noonRings_60_78 hS A hR hrm hz _ _ H
  · rw [if_neg h3] at H
    refine xb A [(.aload_n 0, 1, 0, 0, .null), (.getfield 314, 3, 60, 53, .int 1)] (pc' := 30) (ls' := [some (.ref 60), some (.int w1.1), none]) (st' := [.int (w1.2.1 60 53)]) (g' := (xupd (xupd w1.2.1 94 (38 : Int32).toNatClampNeg (-2)) 94 (39 : Int32).toNatClampNeg 0, w1.2.2)) (by decide +kernel) rfl ?_
    refine xif_ne A (48) 78 33 (by decide +kernel) (fun h15 => ?_) (fun h15 => ?_)
    · rw [if_neg h15] at H
      exact t_X12_noonRings_60_78 hS A hR hrm hz _ _ H
    · rw [if_pos h15] at H
      refine xb A [(.aload_n 0, 1, 0, 0, .null), (.iload_n 1, 1, 0, 0, .null)] (pc' := 35) (ls' := [some (.ref 60), some (.int w1.1), none]) (st' := [.int w1.1, .ref 60]) (g' := (xupd (xupd w1.2.1 94 (38 : Int32).toNatClampNeg (-2)) 94 (39 : Int32).toNatClampNeg 0, w1.2.2)) (by decide +kernel) rfl ?_
      obtain ⟨w6, e6, H⟩ := xbind H
      refine xcallV A (ix := 391) (nxt := 38) hrm hz [.int w1.1] [] 1848 (c_X12_doesLie_60 hS _ e6) ok_X12_doesLie (by decide +kernel) rfl (fun r g1 hq => ?_)
      rw [hq.1, hq.2]
      show xW k S 0 0 38 [some (.ref 60), some (.int w1.1), none] [.int w6.1] w6.2
      refine xif_eq A (40) 78 41 (by decide +kernel) (fun h16 => ?_) (fun h16 => ?_)
      · rw [if_pos h16] at H
        exact t_X12_noonRings_60_78 hS A hR hrm hz _ _ H
      · rw [if_neg h16] at H
        refine xb A [(.aload_n 0, 1, 0, 0, .null), (.bipush 8, 2, 0, 0, .int 8), (.aload_n 0, 1, 0, 0, .null), (.getfield 119, 3, 60, 51, .ref 94), (.bipush 37, 2, 0, 0, .int 37)] (pc' := 50) (ls' := [some (.ref 60), some (.int w1.1), none]) (st' := [.int 37, .ref 94, .int 8, .ref 60]) (g' := w6.2) (by decide +kernel) rfl ?_
        obtain ⟨h17, H⟩ := xg_elim H
        refine xiald A (nxt := 51) (by decide +kernel) (hS _ _ sh_94) h17 ?_
        show xW k S 0 0 51 [some (.ref 60), some (.int w1.1), none] [.int (w6.2.1 94 (37 : Int32).toNatClampNeg), .int 8, .ref 60] w6.2
        refine xb A [(.imul, 1, 0, 0, .null), (.iload_n 1, 1, 0, 0, .null), (.iadd, 1, 0, 0, .null)] (pc' := 54) (ls' := [some (.ref 60), some (.int w1.1), none]) (st' := [.int ((8 * (w6.2.1 94 (37 : Int32).toNatClampNeg)) + w1.1), .ref 60]) (g' := w6.2) (by decide +kernel) rfl ?_
        obtain ⟨w7, e7, H⟩ := xbind H
        refine xcallV A (ix := 394) (nxt := 57) hrm hz [.int ((8 * (w6.2.1 94 (37 : Int32).toNatClampNeg)) + w1.1)] [] 1852 (c_X12_lotOf_60 hS _ e7) ok_X12_lotOf (by decide +kernel) rfl (fun r g1 hq => ?_)
        rw [hq.1, hq.2]
        show xW k S 0 0 57 [some (.ref 60), some (.int w1.1), none] [.int w7] w6.2
        refine xb A [(.aload_n 0, 1, 0, 0, .null), (.iload_n 1, 1, 0, 0, .null)] (pc' := 59) (ls' := [some (.ref 60), some (.int w1.1), none]) (st' := [.int w1.1, .ref 60, .int w7]) (g' := w6.2) (by decide +kernel) rfl ?_
        obtain ⟨w8, e8, H⟩ := xbind H
        refine xcallV A (ix := 397) (nxt := 62) hrm hz [.int w1.1] [.int w7] 1797 (c_X12_doubtsOf_60 hS _ e8) ok_X12_doubtsOf (by decide +kernel) rfl (fun r g1 hq => ?_)
        rw [hq.1, hq.2]
        show xW k S 0 0 62 [some (.ref 60), some (.int w1.1), none] [.int w8.1, .int w7] w8.2
        refine xic_ge A (16) 78 65 (by decide +kernel) (fun h18 => ?_) (fun h18 => ?_)
        · rw [if_pos h18] at H
          exact t_X12_noonRings_60_78 hS A hR hrm hz _ _ H
        · rw [if_neg h18] at H
          refine xb A [(.aload_n 0, 1, 0, 0, .null), (.getfield 119, 3, 60, 51, .ref 94), (.bipush 30, 2, 0, 0, .int 30), (.iload_n 1, 1, 0, 0, .null), (.iadd, 1, 0, 0, .null), (.iconst 1, 1, 0, 0, .int 1)] (pc' := 74) (ls' := [some (.ref 60), some (.int w1.1), none]) (st' := [.int 1, .int (30 + w1.1), .ref 94]) (g' := w8.2) (by decide +kernel) rfl ?_
          obtain ⟨h19, H⟩ := xg_elim H
          refine xiast A (nxt := 75) (by decide +kernel) (hS _ _ sh_94) h19 ?_
          show xW k S 0 0 75 [some (.ref 60), some (.int w1.1), none] [] (xupd w8.2.1 94 (30 + w1.1).toNatClampNeg 1, w8.2.2)
          refine xgoto A (78) 153 (by decide +kernel) ?_
          refine xb A [(.iconst 0, 1, 0, 0, .int 0), (.istore_n 2, 1, 0, 0, .null)] (pc' := 155) (ls' := [some (.ref 60), some (.int w1.1), some (.int 0)]) (st' := []) (g' := (xupd w8.2.1 94 (30 + w1.1).toNatClampNeg 1, w8.2.2)) (by decide +kernel) rfl ?_
          refine xweak (ls' := [some (.ref 60), none, some (.int 0)]) (by exact ⟨rfl, ⟨rfl, trivial⟩⟩) ?_
          exact t_X12_noonRings_60_155 hS A hR hrm hz _ _ _ H
theorem fr_X12_noonRings_60  {g : xG} (out : xG) (H : f_X12_noonRings_60  g = some out) : xfrm fp_X12_noonRings_60 g (out) := by
  have H : ((f_X12_ringerNow_60 g).bind fun w1 =>
xg (¬ ((38 : Int32) < 0 ∨ 40 ≤ (38 : Int32).toNatClampNeg)) (
  xg (¬ ((39 : Int32) < 0 ∨ 40 ≤ (39 : Int32).toNatClampNeg)) (
    if w1.1 < 0 then
      f_X12_noonRings_60_78 w1.1 (xupd (xupd w1.2.1 94 (38 : Int32).toNatClampNeg (-2)) 94 (39 : Int32).toNatClampNeg 0, w1.2.2)
    else
      if (w1.2.1 60 53) = 0 then
        (f_X12_doesLie_60 w1.1 (xupd (xupd w1.2.1 94 (38 : Int32).toNatClampNeg (-2)) 94 (39 : Int32).toNatClampNeg 0, w1.2.2)).bind fun w6 =>
        if w6.1 = 0 then
          f_X12_noonRings_60_78 w1.1 w6.2
        else
          xg (¬ ((37 : Int32) < 0 ∨ 40 ≤ (37 : Int32).toNatClampNeg)) (
            (f_X12_lotOf_60 ((8 * (w6.2.1 94 (37 : Int32).toNatClampNeg)) + w1.1) w6.2).bind fun w7 =>
            (f_X12_doubtsOf_60 w1.1 w6.2).bind fun w8 =>
            if w8.1 ≤ w7 then
              f_X12_noonRings_60_78 w1.1 w8.2
            else
              xg (¬ ((30 + w1.1) < 0 ∨ 40 ≤ (30 + w1.1).toNatClampNeg)) (
                f_X12_noonRings_60_155 xN 0 (xupd w8.2.1 94 (30 + w1.1).toNatClampNeg 1, w8.2.2)))
      else
        f_X12_noonRings_60_78 w1.1 (xupd (xupd w1.2.1 94 (38 : Int32).toNatClampNeg (-2)) 94 (39 : Int32).toNatClampNeg 0, w1.2.2)))) = some out := H
  obtain ⟨w1, e1, H⟩ := xbind H
  have hf1 : xfrm fp_X12_noonRings_60 g (w1.2) := xfrm.tr xfrm.rf (fr_X12_ringerNow_60 _ e1) rfl
  obtain ⟨h1, H⟩ := xg_elim H
  have hf2 : xfrm fp_X12_noonRings_60 g ((xupd w1.2.1 94 (38 : Int32).toNatClampNeg (-2), w1.2.2)) := xfrm.ua hf1 rfl
  obtain ⟨h2, H⟩ := xg_elim H
  have hf3 : xfrm fp_X12_noonRings_60 g ((xupd (xupd w1.2.1 94 (38 : Int32).toNatClampNeg (-2)) 94 (39 : Int32).toNatClampNeg 0, w1.2.2)) := xfrm.ua hf2 rfl
  by_cases h3 : w1.1 < 0
  · rw [if_pos h3] at H
    exact xfrm.tr hf3 (fr_X12_noonRings_60_78 _ _ _ H) rfl
  · rw [if_neg h3] at H
    by_cases h15 : (w1.2.1 60 53) = 0
    · rw [if_pos h15] at H
      obtain ⟨w6, e6, H⟩ := xbind H
      have hf12 : xfrm fp_X12_noonRings_60 g (w6.2) := xfrm.tr hf3 (fr_X12_doesLie_60 _ e6) rfl
      by_cases h16 : w6.1 = 0
      · rw [if_pos h16] at H
        exact xfrm.tr hf12 (fr_X12_noonRings_60_78 _ _ _ H) rfl
      · rw [if_neg h16] at H
        obtain ⟨h17, H⟩ := xg_elim H
        obtain ⟨w7, e7, H⟩ := xbind H
        obtain ⟨w8, e8, H⟩ := xbind H
        have hf13 : xfrm fp_X12_noonRings_60 g (w8.2) := xfrm.tr hf12 (fr_X12_doubtsOf_60 _ e8) rfl
        by_cases h18 : w8.1 ≤ w7
        · rw [if_pos h18] at H
          exact xfrm.tr hf13 (fr_X12_noonRings_60_78 _ _ _ H) rfl
        · rw [if_neg h18] at H
          obtain ⟨h19, H⟩ := xg_elim H
          have hf14 : xfrm fp_X12_noonRings_60 g ((xupd w8.2.1 94 (30 + w1.1).toNatClampNeg 1, w8.2.2)) := xfrm.ua hf13 rfl
          exact xfrm.tr hf14 (fr_X12_noonRings_60_155 _ _ _ _ H) rfl
    · rw [if_neg h15] at H
      exact xfrm.tr hf3 (fr_X12_noonRings_60_78 _ _ _ H) rfl
def fp_X12_goes_60 : List (Nat × Option Nat) := [(60, some 49), (91, none), (92, none), (94, none)]
def f_X12_goes_60_2  : Nat → Int32 → Int32 → xG → Option (xG)
  | 0, _, _, _ => none
  | n + 1, l1, l2, g =>
    if l1 ≤ l2 then
      some g
    else
      (f_X12_noonRings_60 g).bind fun w1 =>
      f_X12_goes_60_2 n l1 (l2 + 1) w1
def f_X12_goes_60 (p1 : Int32) (g : xG) : Option (xG) :=
  f_X12_goes_60_2 xN p1 0 g
set_option maxRecDepth 20000 in
theorem t_X12_goes_60_2 {k : xK} {S : List xSh} {out : xG} (hS : xpf SH2 S) (A : xAt k mX12_goes.2.1 12 SH2 S) (hR : xRet k 0 0 S (fun r g' => r = none ∧ g' = out) mX12_goes.2.2.2) (hrm : xrm k = { frames := 8, cells := 0, slots := 0, locals := 175 }) (hz : xhs k = xb0 k + S.length)   : ∀ (n : Nat) (l1 : Int32) (l2 : Int32) (g : xG), f_X12_goes_60_2 n l1 l2 g = some out → xW k S 0 0 2 [some (.ref 60), some (.int l1), some (.int l2)] [] g := by
  intro n
  induction n with
  | zero => intro l1 l2 g H; exact absurd H (by simp [f_X12_goes_60_2])
  | succ n ih =>
    intro l1 l2 g H
    have H : (if l1 ≤ l2 then
  some g
else
  (f_X12_noonRings_60 g).bind fun w1 =>
  f_X12_goes_60_2 n l1 (l2 + 1) w1) = some out := H
    refine xb A [(.iload_n 2, 1, 0, 0, .null), (.iload_n 1, 1, 0, 0, .null)] (pc' := 4) (ls' := [some (.ref 60), some (.int l1), some (.int l2)]) (st' := [.int l1, .int l2]) (g' := g) (by decide +kernel) rfl ?_
    refine xic_ge A (13) 17 7 (by decide +kernel) (fun h1 => ?_) (fun h1 => ?_)
    · rw [if_pos h1] at H
      obtain rfl := Option.some.inj H
      exact xret_v A hR hz (by decide +kernel) ⟨rfl, rfl⟩
    · rw [if_neg h1] at H
      refine xb A [(.aload_n 0, 1, 0, 0, .null)] (pc' := 8) (ls' := [some (.ref 60), some (.int l1), some (.int l2)]) (st' := [.ref 60]) (g' := g) (by decide +kernel) rfl ?_
      obtain ⟨w1, e1, H⟩ := xbind H
      refine xcallV A (ix := 410) (nxt := 11) hrm hz [] [] 1832 (c_X12_noonRings_60 hS _ e1) ok_X12_noonRings (by decide +kernel) rfl (fun r g1 hq => ?_)
      rw [hq.1, hq.2]
      show xW k S 0 0 11 [some (.ref 60), some (.int l1), some (.int l2)] [] w1
      refine xb A [(.iinc 2 1, 3, 0, 0, .null)] (pc' := 14) (ls' := [some (.ref 60), some (.int l1), some (.int (l2 + 1))]) (st' := []) (g' := w1) (by decide +kernel) rfl ?_
      refine xgoto A (-12) 2 (by decide +kernel) ?_
      exact ih _ _ _ H
theorem fr_X12_goes_60_2   : ∀ (n : Nat) (l1 : Int32) (l2 : Int32) (g : xG) (out : xG), f_X12_goes_60_2 n l1 l2 g = some out → xfrm fp_X12_goes_60 g (out) := by
  intro n
  induction n with
  | zero => intro l1 l2 g out H; exact absurd H (by simp [f_X12_goes_60_2])
  | succ n ih =>
    intro l1 l2 g out H
    have H : (if l1 ≤ l2 then
  some g
else
  (f_X12_noonRings_60 g).bind fun w1 =>
  f_X12_goes_60_2 n l1 (l2 + 1) w1) = some out := H
    by_cases h1 : l1 ≤ l2
    · rw [if_pos h1] at H
      obtain rfl := Option.some.inj H
      exact xfrm.rf
    · rw [if_neg h1] at H
      obtain ⟨w1, e1, H⟩ := xbind H
      have hf1 : xfrm fp_X12_goes_60 g (w1) := xfrm.tr xfrm.rf (fr_X12_noonRings_60 _ e1) rfl
      exact xfrm.tr hf1 (ih _ _ _ _ H) rfl
set_option maxRecDepth 20000 in
theorem c_X12_goes_60 {S : List xSh} (hS : xpf SH2 S) {g : xG} {p1 : Int32} (out : xG) (H : f_X12_goes_60 p1 g = some out) : xC mX12_goes 8 175 0 0 S [.ref 60, .int p1] g S (fun r g' => r = none ∧ g' = out) := by
  have H : (f_X12_goes_60_2 xN p1 0 g) = some out := H
  refine xC.of 12 SH2 [some (.ref 60), some (.int p1), none] hS (by decide +kernel) rfl (fun _ _ => Nat.le_of_ble_eq_true rfl) (fun _ _ => rfl) ?_
  intro k A hR hrm hz
  refine xb A [(.iconst 0, 1, 0, 0, .int 0), (.istore_n 2, 1, 0, 0, .null)] (pc' := 2) (ls' := [some (.ref 60), some (.int p1), some (.int 0)]) (st' := []) (g' := g) (by decide +kernel) rfl ?_
  exact t_X12_goes_60_2 hS A hR hrm hz _ _ _ _ H
theorem fr_X12_goes_60 {p1 : Int32} {g : xG} (out : xG) (H : f_X12_goes_60 p1 g = some out) : xfrm fp_X12_goes_60 g (out) := by
  have H : (f_X12_goes_60_2 xN p1 0 g) = some out := H
  exact xfrm.tr xfrm.rf (fr_X12_goes_60_2 _ _ _ _ _ H) rfl
def fp_X12_days_60 : List (Nat × Option Nat) := [(60, some 49), (60, some 52), (60, some 53), (60, some 55), (91, none), (92, none), (93, none), (94, none), (95, none), (96, none)]
def f_X12_days_60 (p1 : Int32) (g : xG) : Option (Int32 × xG) :=
  if (f_X12_isLong p1) = 0 then
    some ((-1), g)
  else
    if p1 = 0 then
      xg (¬ ((37 : Int32) < 0 ∨ 40 ≤ (37 : Int32).toNatClampNeg)) (
        some (g.1 93 (37 : Int32).toNatClampNeg, g))
    else
      (f_X12_copies_60 g).bind fun w1 =>
      (f_X12_goes_60 p1 w1).bind fun w2 =>
      (f_X12_records_60 w2).bind fun w3 =>
      xg (¬ ((37 : Int32) < 0 ∨ 40 ≤ (37 : Int32).toNatClampNeg)) (
        some (w3.1 93 (37 : Int32).toNatClampNeg, w3))
set_option maxRecDepth 20000 in
theorem c_X12_days_60 {S : List xSh} (hS : xpf SH2 S) {g : xG} {p1 : Int32} (out : Int32 × xG) (H : f_X12_days_60 p1 g = some out) : xC mX12_days 9 197 0 0 S [.ref 60, .int p1] g S (fun r g' => r = some (.int out.1) ∧ g' = out.2) := by
  have H : (if (f_X12_isLong p1) = 0 then
  some ((-1), g)
else
  if p1 = 0 then
    xg (¬ ((37 : Int32) < 0 ∨ 40 ≤ (37 : Int32).toNatClampNeg)) (
      some (g.1 93 (37 : Int32).toNatClampNeg, g))
  else
    (f_X12_copies_60 g).bind fun w1 =>
    (f_X12_goes_60 p1 w1).bind fun w2 =>
    (f_X12_records_60 w2).bind fun w3 =>
    xg (¬ ((37 : Int32) < 0 ∨ 40 ≤ (37 : Int32).toNatClampNeg)) (
      some (w3.1 93 (37 : Int32).toNatClampNeg, w3))) = some out := H
  refine xC.of 12 SH2 [some (.ref 60), some (.int p1)] hS (by decide +kernel) rfl (fun _ _ => Nat.le_of_ble_eq_true rfl) (fun _ _ => rfl) ?_
  intro k A hR hrm hz
  refine xb A [(.iload_n 1, 1, 0, 0, .null)] (pc' := 1) (ls' := [some (.ref 60), some (.int p1)]) (st' := [.int p1]) (g' := g) (by decide +kernel) rfl ?_
  refine xcallS A (ix := 434) (nxt := 4) hrm hz [.int p1] [] 1825 (c_X12_isLong hS _ rfl) ok_X12_isLong (by decide +kernel) rfl (fun r g1 hq => ?_)
  rw [hq.1, hq.2]
  show xW k S 0 0 4 [some (.ref 60), some (.int p1)] [.int (f_X12_isLong p1)] g
  refine xif_ne A (5) 9 7 (by decide +kernel) (fun h1 => ?_) (fun h1 => ?_)
  · rw [if_neg h1] at H
    refine xb A [(.iload_n 1, 1, 0, 0, .null)] (pc' := 10) (ls' := [some (.ref 60), some (.int p1)]) (st' := [.int p1]) (g' := g) (by decide +kernel) rfl ?_
    refine xif_ne A (11) 21 13 (by decide +kernel) (fun h2 => ?_) (fun h2 => ?_)
    · rw [if_neg h2] at H
      refine xb A [(.aload_n 0, 1, 0, 0, .null)] (pc' := 22) (ls' := [some (.ref 60), some (.int p1)]) (st' := [.ref 60]) (g' := g) (by decide +kernel) rfl ?_
      obtain ⟨w1, e1, H⟩ := xbind H
      refine xcallV A (ix := 320) (nxt := 25) hrm hz [] [] 1699 (c_X12_copies_60 hS _ e1) ok_X12_copies (by decide +kernel) rfl (fun r g1 hq => ?_)
      rw [hq.1, hq.2]
      show xW k S 0 0 25 [some (.ref 60), some (.int p1)] [] w1
      refine xb A [(.aload_n 0, 1, 0, 0, .null), (.iload_n 1, 1, 0, 0, .null)] (pc' := 27) (ls' := [some (.ref 60), some (.int p1)]) (st' := [.int p1, .ref 60]) (g' := w1) (by decide +kernel) rfl ?_
      obtain ⟨w2, e2, H⟩ := xbind H
      refine xcallV A (ix := 437) (nxt := 30) hrm hz [.int p1] [] 1828 (c_X12_goes_60 hS _ e2) ok_X12_goes (by decide +kernel) rfl (fun r g1 hq => ?_)
      rw [hq.1, hq.2]
      show xW k S 0 0 30 [some (.ref 60), some (.int p1)] [] w2
      refine xb A [(.aload_n 0, 1, 0, 0, .null)] (pc' := 31) (ls' := [some (.ref 60), some (.int p1)]) (st' := [.ref 60]) (g' := w2) (by decide +kernel) rfl ?_
      obtain ⟨w3, e3, H⟩ := xbind H
      refine xcallV A (ix := 428) (nxt := 34) hrm hz [] [] 1809 (c_X12_records_60 hS _ e3) ok_X12_records (by decide +kernel) rfl (fun r g1 hq => ?_)
      rw [hq.1, hq.2]
      show xW k S 0 0 34 [some (.ref 60), some (.int p1)] [] w3
      refine xb A [(.aload_n 0, 1, 0, 0, .null), (.getfield 116, 3, 60, 50, .ref 93), (.bipush 37, 2, 0, 0, .int 37)] (pc' := 40) (ls' := [some (.ref 60), some (.int p1)]) (st' := [.int 37, .ref 93]) (g' := w3) (by decide +kernel) rfl ?_
      obtain ⟨h3, H⟩ := xg_elim H
      refine xiald A (nxt := 41) (by decide +kernel) (hS _ _ sh_93) h3 ?_
      show xW k S 0 0 41 [some (.ref 60), some (.int p1)] [.int (w3.1 93 (37 : Int32).toNatClampNeg)] w3
      obtain rfl := Option.some.inj H
      exact xret_i A hR hz (by decide +kernel) rfl ⟨rfl, rfl⟩
    · rw [if_pos h2] at H
      refine xb A [(.aload_n 0, 1, 0, 0, .null), (.getfield 116, 3, 60, 50, .ref 93), (.bipush 37, 2, 0, 0, .int 37)] (pc' := 19) (ls' := [some (.ref 60), some (.int p1)]) (st' := [.int 37, .ref 93]) (g' := g) (by decide +kernel) rfl ?_
      obtain ⟨h4, H⟩ := xg_elim H
      refine xiald A (nxt := 20) (by decide +kernel) (hS _ _ sh_93) h4 ?_
      show xW k S 0 0 20 [some (.ref 60), some (.int p1)] [.int (g.1 93 (37 : Int32).toNatClampNeg)] g
      obtain rfl := Option.some.inj H
      exact xret_i A hR hz (by decide +kernel) rfl ⟨rfl, rfl⟩
  · rw [if_pos h1] at H
    refine xb A [(.iconst (-1), 1, 0, 0, .int (-1))] (pc' := 8) (ls' := [some (.ref 60), some (.int p1)]) (st' := [.int (-1)]) (g' := g) (by decide +kernel) rfl ?_
    obtain rfl := Option.some.inj H
    exact xret_i A hR hz (by decide +kernel) rfl ⟨rfl, rfl⟩
theorem fr_X12_days_60 {p1 : Int32} {g : xG} (out : Int32 × xG) (H : f_X12_days_60 p1 g = some out) : xfrm fp_X12_days_60 g (out.2) := by
  have H : (if (f_X12_isLong p1) = 0 then
  some ((-1), g)
else
  if p1 = 0 then
    xg (¬ ((37 : Int32) < 0 ∨ 40 ≤ (37 : Int32).toNatClampNeg)) (
      some (g.1 93 (37 : Int32).toNatClampNeg, g))
  else
    (f_X12_copies_60 g).bind fun w1 =>
    (f_X12_goes_60 p1 w1).bind fun w2 =>
    (f_X12_records_60 w2).bind fun w3 =>
    xg (¬ ((37 : Int32) < 0 ∨ 40 ≤ (37 : Int32).toNatClampNeg)) (
      some (w3.1 93 (37 : Int32).toNatClampNeg, w3))) = some out := H
  by_cases h1 : (f_X12_isLong p1) = 0
  · rw [if_pos h1] at H
    obtain rfl := Option.some.inj H
    exact xfrm.rf
  · rw [if_neg h1] at H
    by_cases h2 : p1 = 0
    · rw [if_pos h2] at H
      obtain ⟨h4, H⟩ := xg_elim H
      obtain rfl := Option.some.inj H
      exact xfrm.rf
    · rw [if_neg h2] at H
      obtain ⟨w1, e1, H⟩ := xbind H
      have hf1 : xfrm fp_X12_days_60 g (w1) := xfrm.tr xfrm.rf (fr_X12_copies_60 _ e1) rfl
      obtain ⟨w2, e2, H⟩ := xbind H
      have hf2 : xfrm fp_X12_days_60 g (w2) := xfrm.tr hf1 (fr_X12_goes_60 _ e2) rfl
      obtain ⟨w3, e3, H⟩ := xbind H
      have hf3 : xfrm fp_X12_days_60 g (w3) := xfrm.tr hf2 (fr_X12_records_60 _ e3) rfl
      obtain ⟨h3, H⟩ := xg_elim H
      obtain rfl := Option.some.inj H
      exact hf3
def fp_X12_undo_60 : List (Nat × Option Nat) := [(60, some 55), (93, none)]
def f_X12_undo_60_21  : Nat → Int32 → xG → Option (Int32 × xG)
  | 0, _, _ => none
  | n + 1, l1, g =>
    if 40 ≤ l1 then
      some (1, g)
    else
      xg (¬ (((40 * (g.1 60 55)) + l1) < 0 ∨ 1600 ≤ ((40 * (g.1 60 55)) + l1).toNatClampNeg)) (
        xg (¬ (l1 < 0 ∨ 40 ≤ l1.toNatClampNeg)) (
          f_X12_undo_60_21 n (l1 + 1) (xupd g.1 93 l1.toNatClampNeg (g.1 96 ((40 * (g.1 60 55)) + l1).toNatClampNeg), g.2)))
def f_X12_undo_60  (g : xG) : Option (Int32 × xG) :=
  if (g.1 60 55) = 0 then
    some (0, g)
  else
    f_X12_undo_60_21 xN 0 (xupd g.1 60 55 ((g.1 60 55) - 1), g.2)
set_option maxRecDepth 20000 in
theorem t_X12_undo_60_21 {k : xK} {S : List xSh} {out : Int32 × xG} (hS : xpf SH2 S) (A : xAt k mX12_undo.2.1 12 SH2 S) (hR : xRet k 0 0 S (fun r g' => r = some (.int out.1) ∧ g' = out.2) mX12_undo.2.2.2) (hrm : xrm k = { frames := 0, cells := 0, slots := 0, locals := 0 }) (hz : xhs k = xb0 k + S.length)   : ∀ (n : Nat) (l1 : Int32) (g : xG), f_X12_undo_60_21 n l1 g = some out → xW k S 0 0 21 [some (.ref 60), some (.int l1)] [] g := by
  intro n
  induction n with
  | zero => intro l1 g H; exact absurd H (by simp [f_X12_undo_60_21])
  | succ n ih =>
    intro l1 g H
    have H : (if 40 ≤ l1 then
  some (1, g)
else
  xg (¬ (((40 * (g.1 60 55)) + l1) < 0 ∨ 1600 ≤ ((40 * (g.1 60 55)) + l1).toNatClampNeg)) (
    xg (¬ (l1 < 0 ∨ 40 ≤ l1.toNatClampNeg)) (
      f_X12_undo_60_21 n (l1 + 1) (xupd g.1 93 l1.toNatClampNeg (g.1 96 ((40 * (g.1 60 55)) + l1).toNatClampNeg), g.2)))) = some out := H
    refine xb A [(.iload_n 1, 1, 0, 0, .null), (.bipush 40, 2, 0, 0, .int 40)] (pc' := 24) (ls' := [some (.ref 60), some (.int l1)]) (st' := [.int 40, .int l1]) (g' := g) (by decide +kernel) rfl ?_
    refine xic_ge A (29) 53 27 (by decide +kernel) (fun h2 => ?_) (fun h2 => ?_)
    · rw [if_pos h2] at H
      refine xb A [(.iconst 1, 1, 0, 0, .int 1)] (pc' := 54) (ls' := [some (.ref 60), some (.int l1)]) (st' := [.int 1]) (g' := g) (by decide +kernel) rfl ?_
      obtain rfl := Option.some.inj H
      exact xret_i A hR hz (by decide +kernel) rfl ⟨rfl, rfl⟩
    · rw [if_neg h2] at H
      refine xb A [(.aload_n 0, 1, 0, 0, .null), (.getfield 116, 3, 60, 50, .ref 93), (.iload_n 1, 1, 0, 0, .null), (.aload_n 0, 1, 0, 0, .null), (.getfield 125, 3, 60, 56, .ref 96), (.bipush 40, 2, 0, 0, .int 40), (.aload_n 0, 1, 0, 0, .null), (.getfield 245, 3, 60, 55, .int 0), (.imul, 1, 0, 0, .null), (.iload_n 1, 1, 0, 0, .null), (.iadd, 1, 0, 0, .null)] (pc' := 45) (ls' := [some (.ref 60), some (.int l1)]) (st' := [.int ((40 * (g.1 60 55)) + l1), .ref 96, .int l1, .ref 93]) (g' := g) (by decide +kernel) rfl ?_
      obtain ⟨h3, H⟩ := xg_elim H
      refine xiald A (nxt := 46) (by decide +kernel) (hS _ _ sh_96) h3 ?_
      show xW k S 0 0 46 [some (.ref 60), some (.int l1)] [.int (g.1 96 ((40 * (g.1 60 55)) + l1).toNatClampNeg), .int l1, .ref 93] g
      obtain ⟨h4, H⟩ := xg_elim H
      refine xiast A (nxt := 47) (by decide +kernel) (hS _ _ sh_93) h4 ?_
      show xW k S 0 0 47 [some (.ref 60), some (.int l1)] [] (xupd g.1 93 l1.toNatClampNeg (g.1 96 ((40 * (g.1 60 55)) + l1).toNatClampNeg), g.2)
      refine xb A [(.iinc 1 1, 3, 0, 0, .null)] (pc' := 50) (ls' := [some (.ref 60), some (.int (l1 + 1))]) (st' := []) (g' := (xupd g.1 93 l1.toNatClampNeg (g.1 96 ((40 * (g.1 60 55)) + l1).toNatClampNeg), g.2)) (by decide +kernel) rfl ?_
      refine xgoto A (-29) 21 (by decide +kernel) ?_
      exact ih _ _ H
theorem fr_X12_undo_60_21   : ∀ (n : Nat) (l1 : Int32) (g : xG) (out : Int32 × xG), f_X12_undo_60_21 n l1 g = some out → xfrm fp_X12_undo_60 g (out.2) := by
  intro n
  induction n with
  | zero => intro l1 g out H; exact absurd H (by simp [f_X12_undo_60_21])
  | succ n ih =>
    intro l1 g out H
    have H : (if 40 ≤ l1 then
  some (1, g)
else
  xg (¬ (((40 * (g.1 60 55)) + l1) < 0 ∨ 1600 ≤ ((40 * (g.1 60 55)) + l1).toNatClampNeg)) (
    xg (¬ (l1 < 0 ∨ 40 ≤ l1.toNatClampNeg)) (
      f_X12_undo_60_21 n (l1 + 1) (xupd g.1 93 l1.toNatClampNeg (g.1 96 ((40 * (g.1 60 55)) + l1).toNatClampNeg), g.2)))) = some out := H
    by_cases h2 : 40 ≤ l1
    · rw [if_pos h2] at H
      obtain rfl := Option.some.inj H
      exact xfrm.rf
    · rw [if_neg h2] at H
      obtain ⟨h3, H⟩ := xg_elim H
      obtain ⟨h4, H⟩ := xg_elim H
      have hf2 : xfrm fp_X12_undo_60 g ((xupd g.1 93 l1.toNatClampNeg (g.1 96 ((40 * (g.1 60 55)) + l1).toNatClampNeg), g.2)) := xfrm.ua xfrm.rf rfl
      exact xfrm.tr hf2 (ih _ _ _ H) rfl
set_option maxRecDepth 20000 in
theorem c_X12_undo_60 {S : List xSh} (hS : xpf SH2 S) {g : xG}  (out : Int32 × xG) (H : f_X12_undo_60  g = some out) : xC mX12_undo 0 0 0 0 S [.ref 60] g S (fun r g' => r = some (.int out.1) ∧ g' = out.2) := by
  have H : (if (g.1 60 55) = 0 then
  some (0, g)
else
  f_X12_undo_60_21 xN 0 (xupd g.1 60 55 ((g.1 60 55) - 1), g.2)) = some out := H
  refine xC.of 12 SH2 [some (.ref 60), none] hS (by decide +kernel) rfl (fun _ _ => Nat.le_of_ble_eq_true rfl) (fun _ _ => rfl) ?_
  intro k A hR hrm hz
  refine xb A [(.aload_n 0, 1, 0, 0, .null), (.getfield 245, 3, 60, 55, .int 0)] (pc' := 4) (ls' := [some (.ref 60), none]) (st' := [.int (g.1 60 55)]) (g' := g) (by decide +kernel) rfl ?_
  refine xif_ne A (5) 9 7 (by decide +kernel) (fun h1 => ?_) (fun h1 => ?_)
  · rw [if_neg h1] at H
    refine xb A [(.aload_n 0, 1, 0, 0, .null), (.dup, 1, 0, 0, .null), (.getfield 245, 3, 60, 55, .int 0), (.iconst 1, 1, 0, 0, .int 1), (.isub, 1, 0, 0, .null), (.putfield 245, 3, 60, 55, .int 0), (.iconst 0, 1, 0, 0, .int 0), (.istore_n 1, 1, 0, 0, .null)] (pc' := 21) (ls' := [some (.ref 60), some (.int 0)]) (st' := []) (g' := (xupd g.1 60 55 ((g.1 60 55) - 1), g.2)) (by decide +kernel) rfl ?_
    exact t_X12_undo_60_21 hS A hR hrm hz _ _ _ H
  · rw [if_pos h1] at H
    refine xb A [(.iconst 0, 1, 0, 0, .int 0)] (pc' := 8) (ls' := [some (.ref 60), none]) (st' := [.int 0]) (g' := g) (by decide +kernel) rfl ?_
    obtain rfl := Option.some.inj H
    exact xret_i A hR hz (by decide +kernel) rfl ⟨rfl, rfl⟩
theorem fr_X12_undo_60  {g : xG} (out : Int32 × xG) (H : f_X12_undo_60  g = some out) : xfrm fp_X12_undo_60 g (out.2) := by
  have H : (if (g.1 60 55) = 0 then
  some (0, g)
else
  f_X12_undo_60_21 xN 0 (xupd g.1 60 55 ((g.1 60 55) - 1), g.2)) = some out := H
  by_cases h1 : (g.1 60 55) = 0
  · rw [if_pos h1] at H
    obtain rfl := Option.some.inj H
    exact xfrm.rf
  · rw [if_neg h1] at H
    have hf1 : xfrm fp_X12_undo_60 g ((xupd g.1 60 55 ((g.1 60 55) - 1), g.2)) := xfrm.up xfrm.rf rfl
    exact xfrm.tr hf1 (fr_X12_undo_60_21 _ _ _ _ H) rfl
def fp_X12_ringer_60 : List (Nat × Option Nat) := [(60, some 49), (60, some 52), (60, some 53), (91, none), (92, none), (94, none), (95, none)]
def f_X12_ringer_60  (g : xG) : Option (Int32 × xG) :=
  (f_X12_copies_60 g).bind fun w1 =>
  (f_X12_ringerNow_60 w1).bind fun w2 =>
  some (w2.1, w2.2)
set_option maxRecDepth 20000 in
theorem c_X12_ringer_60 {S : List xSh} (hS : xpf SH2 S) {g : xG}  (out : Int32 × xG) (H : f_X12_ringer_60  g = some out) : xC mX12_ringer 7 153 0 0 S [.ref 60] g S (fun r g' => r = some (.int out.1) ∧ g' = out.2) := by
  have H : ((f_X12_copies_60 g).bind fun w1 =>
(f_X12_ringerNow_60 w1).bind fun w2 =>
some (w2.1, w2.2)) = some out := H
  refine xC.of 12 SH2 [some (.ref 60)] hS (by decide +kernel) rfl (fun _ _ => Nat.le_of_ble_eq_true rfl) (fun _ _ => rfl) ?_
  intro k A hR hrm hz
  refine xb A [(.aload_n 0, 1, 0, 0, .null)] (pc' := 1) (ls' := [some (.ref 60)]) (st' := [.ref 60]) (g' := g) (by decide +kernel) rfl ?_
  obtain ⟨w1, e1, H⟩ := xbind H
  refine xcallV A (ix := 320) (nxt := 4) hrm hz [] [] 1699 (c_X12_copies_60 hS _ e1) ok_X12_copies (by decide +kernel) rfl (fun r g1 hq => ?_)
  rw [hq.1, hq.2]
  show xW k S 0 0 4 [some (.ref 60)] [] w1
  refine xb A [(.aload_n 0, 1, 0, 0, .null)] (pc' := 5) (ls' := [some (.ref 60)]) (st' := [.ref 60]) (g' := w1) (by decide +kernel) rfl ?_
  obtain ⟨w2, e2, H⟩ := xbind H
  refine xcallV A (ix := 388) (nxt := 8) hrm hz [] [] 1836 (c_X12_ringerNow_60 hS _ e2) ok_X12_ringerNow (by decide +kernel) rfl (fun r g1 hq => ?_)
  rw [hq.1, hq.2]
  show xW k S 0 0 8 [some (.ref 60)] [.int w2.1] w2.2
  obtain rfl := Option.some.inj H
  exact xret_i A hR hz (by decide +kernel) rfl ⟨rfl, rfl⟩
theorem fr_X12_ringer_60  {g : xG} (out : Int32 × xG) (H : f_X12_ringer_60  g = some out) : xfrm fp_X12_ringer_60 g (out.2) := by
  have H : ((f_X12_copies_60 g).bind fun w1 =>
(f_X12_ringerNow_60 w1).bind fun w2 =>
some (w2.1, w2.2)) = some out := H
  obtain ⟨w1, e1, H⟩ := xbind H
  have hf1 : xfrm fp_X12_ringer_60 g (w1) := xfrm.tr xfrm.rf (fr_X12_copies_60 _ e1) rfl
  obtain ⟨w2, e2, H⟩ := xbind H
  have hf2 : xfrm fp_X12_ringer_60 g (w2.2) := xfrm.tr hf1 (fr_X12_ringerNow_60 _ e2) rfl
  obtain rfl := Option.some.inj H
  exact hf2
def fp_X12_far_60 : List (Nat × Option Nat) := [(60, some 52), (60, some 53), (94, none), (95, none)]
def f_X12_far_60 (p1 : Int32) (p2 : Int32) (g : xG) : Option (Int32 × xG) :=
  (f_X12_isTown_60 p1 g).bind fun w1 =>
  if w1 = 0 then
    some ((-1), g)
  else
    (f_X12_isTown_60 p2 g).bind fun w2 =>
    if w2 = 0 then
      some ((-1), g)
    else
      (f_X12_copies_60 g).bind fun w3 =>
      xg (¬ (((7 * p1) + p2) < 0 ∨ 49 ≤ ((7 * p1) + p2).toNatClampNeg)) (
        some (w3.1 95 ((7 * p1) + p2).toNatClampNeg, w3))
set_option maxRecDepth 20000 in
theorem c_X12_far_60 {S : List xSh} (hS : xpf SH2 S) {g : xG} {p1 : Int32} {p2 : Int32} (out : Int32 × xG) (H : f_X12_far_60 p1 p2 g = some out) : xC mX12_far 2 44 0 0 S [.ref 60, .int p1, .int p2] g S (fun r g' => r = some (.int out.1) ∧ g' = out.2) := by
  have H : ((f_X12_isTown_60 p1 g).bind fun w1 =>
if w1 = 0 then
  some ((-1), g)
else
  (f_X12_isTown_60 p2 g).bind fun w2 =>
  if w2 = 0 then
    some ((-1), g)
  else
    (f_X12_copies_60 g).bind fun w3 =>
    xg (¬ (((7 * p1) + p2) < 0 ∨ 49 ≤ ((7 * p1) + p2).toNatClampNeg)) (
      some (w3.1 95 ((7 * p1) + p2).toNatClampNeg, w3))) = some out := H
  refine xC.of 12 SH2 [some (.ref 60), some (.int p1), some (.int p2)] hS (by decide +kernel) rfl (fun _ _ => Nat.le_of_ble_eq_true rfl) (fun _ _ => rfl) ?_
  intro k A hR hrm hz
  refine xb A [(.aload_n 0, 1, 0, 0, .null), (.iload_n 1, 1, 0, 0, .null)] (pc' := 2) (ls' := [some (.ref 60), some (.int p1), some (.int p2)]) (st' := [.int p1, .ref 60]) (g' := g) (by decide +kernel) rfl ?_
  obtain ⟨w1, e1, H⟩ := xbind H
  refine xcallV A (ix := 413) (nxt := 5) hrm hz [.int p1] [] 1692 (c_X12_isTown_60 hS _ e1) ok_X12_isTown (by decide +kernel) rfl (fun r g1 hq => ?_)
  rw [hq.1, hq.2]
  show xW k S 0 0 5 [some (.ref 60), some (.int p1), some (.int p2)] [.int w1] g
  refine xif_eq A (11) 16 8 (by decide +kernel) (fun h1 => ?_) (fun h1 => ?_)
  · rw [if_pos h1] at H
    refine xb A [(.iconst (-1), 1, 0, 0, .int (-1))] (pc' := 17) (ls' := [some (.ref 60), some (.int p1), some (.int p2)]) (st' := [.int (-1)]) (g' := g) (by decide +kernel) rfl ?_
    obtain rfl := Option.some.inj H
    exact xret_i A hR hz (by decide +kernel) rfl ⟨rfl, rfl⟩
  · rw [if_neg h1] at H
    refine xb A [(.aload_n 0, 1, 0, 0, .null), (.iload_n 2, 1, 0, 0, .null)] (pc' := 10) (ls' := [some (.ref 60), some (.int p1), some (.int p2)]) (st' := [.int p2, .ref 60]) (g' := g) (by decide +kernel) rfl ?_
    obtain ⟨w2, e2, H⟩ := xbind H
    refine xcallV A (ix := 413) (nxt := 13) hrm hz [.int p2] [] 1692 (c_X12_isTown_60 hS _ e2) ok_X12_isTown (by decide +kernel) rfl (fun r g1 hq => ?_)
    rw [hq.1, hq.2]
    show xW k S 0 0 13 [some (.ref 60), some (.int p1), some (.int p2)] [.int w2] g
    refine xif_ne A (5) 18 16 (by decide +kernel) (fun h2 => ?_) (fun h2 => ?_)
    · rw [if_neg h2] at H
      refine xb A [(.aload_n 0, 1, 0, 0, .null)] (pc' := 19) (ls' := [some (.ref 60), some (.int p1), some (.int p2)]) (st' := [.ref 60]) (g' := g) (by decide +kernel) rfl ?_
      obtain ⟨w3, e3, H⟩ := xbind H
      refine xcallV A (ix := 320) (nxt := 22) hrm hz [] [] 1699 (c_X12_copies_60 hS _ e3) ok_X12_copies (by decide +kernel) rfl (fun r g1 hq => ?_)
      rw [hq.1, hq.2]
      show xW k S 0 0 22 [some (.ref 60), some (.int p1), some (.int p2)] [] w3
      refine xb A [(.aload_n 0, 1, 0, 0, .null), (.getfield 122, 3, 60, 54, .ref 95), (.bipush 7, 2, 0, 0, .int 7), (.iload_n 1, 1, 0, 0, .null), (.imul, 1, 0, 0, .null), (.iload_n 2, 1, 0, 0, .null), (.iadd, 1, 0, 0, .null)] (pc' := 32) (ls' := [some (.ref 60), some (.int p1), some (.int p2)]) (st' := [.int ((7 * p1) + p2), .ref 95]) (g' := w3) (by decide +kernel) rfl ?_
      obtain ⟨h3, H⟩ := xg_elim H
      refine xiald A (nxt := 33) (by decide +kernel) (hS _ _ sh_95) h3 ?_
      show xW k S 0 0 33 [some (.ref 60), some (.int p1), some (.int p2)] [.int (w3.1 95 ((7 * p1) + p2).toNatClampNeg)] w3
      obtain rfl := Option.some.inj H
      exact xret_i A hR hz (by decide +kernel) rfl ⟨rfl, rfl⟩
    · rw [if_pos h2] at H
      refine xb A [(.iconst (-1), 1, 0, 0, .int (-1))] (pc' := 17) (ls' := [some (.ref 60), some (.int p1), some (.int p2)]) (st' := [.int (-1)]) (g' := g) (by decide +kernel) rfl ?_
      obtain rfl := Option.some.inj H
      exact xret_i A hR hz (by decide +kernel) rfl ⟨rfl, rfl⟩
theorem fr_X12_far_60 {p1 : Int32} {p2 : Int32} {g : xG} (out : Int32 × xG) (H : f_X12_far_60 p1 p2 g = some out) : xfrm fp_X12_far_60 g (out.2) := by
  have H : ((f_X12_isTown_60 p1 g).bind fun w1 =>
if w1 = 0 then
  some ((-1), g)
else
  (f_X12_isTown_60 p2 g).bind fun w2 =>
  if w2 = 0 then
    some ((-1), g)
  else
    (f_X12_copies_60 g).bind fun w3 =>
    xg (¬ (((7 * p1) + p2) < 0 ∨ 49 ≤ ((7 * p1) + p2).toNatClampNeg)) (
      some (w3.1 95 ((7 * p1) + p2).toNatClampNeg, w3))) = some out := H
  obtain ⟨w1, e1, H⟩ := xbind H
  by_cases h1 : w1 = 0
  · rw [if_pos h1] at H
    obtain rfl := Option.some.inj H
    exact xfrm.rf
  · rw [if_neg h1] at H
    obtain ⟨w2, e2, H⟩ := xbind H
    by_cases h2 : w2 = 0
    · rw [if_pos h2] at H
      obtain rfl := Option.some.inj H
      exact xfrm.rf
    · rw [if_neg h2] at H
      obtain ⟨w3, e3, H⟩ := xbind H
      have hf1 : xfrm fp_X12_far_60 g (w3) := xfrm.tr xfrm.rf (fr_X12_copies_60 _ e3) rfl
      obtain ⟨h3, H⟩ := xg_elim H
      obtain rfl := Option.some.inj H
      exact hf1
def fp_X12_liars_60 : List (Nat × Option Nat) := [(60, some 49), (60, some 52), (60, some 53), (91, none), (92, none), (94, none), (95, none)]
def f_X12_liars_60_8  : Nat → Int32 → Int32 → xG → Option (Int32 × xG)
  | 0, _, _, _ => none
  | n + 1, l1, l2, g =>
    xg (¬ ((g.1 60 18) < 0 ∨ 2 ≤ (g.1 60 18).toNatClampNeg)) (
      if (g.1 75 (g.1 60 18).toNatClampNeg) ≤ l2 then
        some (l1, g)
      else
        (f_X12_doesLie_60 l2 g).bind fun w2 =>
        if w2.1 = 0 then
          f_X12_liars_60_8 n l1 (l2 + 1) w2.2
        else
          f_X12_liars_60_8 n (l1 ||| ((1 : Int32) <<< (l2 &&& 31))) (l2 + 1) w2.2)
def f_X12_liars_60  (g : xG) : Option (Int32 × xG) :=
  (f_X12_copies_60 g).bind fun w1 =>
  f_X12_liars_60_8 xN 0 0 w1
set_option maxRecDepth 20000 in
theorem t_X12_liars_60_8 {k : xK} {S : List xSh} {out : Int32 × xG} (hS : xpf SH2 S) (A : xAt k mX12_liars.2.1 12 SH2 S) (hR : xRet k 0 0 S (fun r g' => r = some (.int out.1) ∧ g' = out.2) mX12_liars.2.2.2) (hrm : xrm k = { frames := 6, cells := 0, slots := 0, locals := 129 }) (hz : xhs k = xb0 k + S.length)   : ∀ (n : Nat) (l1 : Int32) (l2 : Int32) (g : xG), f_X12_liars_60_8 n l1 l2 g = some out → xW k S 0 0 8 [some (.ref 60), some (.int l1), some (.int l2)] [] g := by
  intro n
  induction n with
  | zero => intro l1 l2 g H; exact absurd H (by simp [f_X12_liars_60_8])
  | succ n ih =>
    intro l1 l2 g H
    have H : (xg (¬ ((g.1 60 18) < 0 ∨ 2 ≤ (g.1 60 18).toNatClampNeg)) (
  if (g.1 75 (g.1 60 18).toNatClampNeg) ≤ l2 then
    some (l1, g)
  else
    (f_X12_doesLie_60 l2 g).bind fun w2 =>
    if w2.1 = 0 then
      f_X12_liars_60_8 n l1 (l2 + 1) w2.2
    else
      f_X12_liars_60_8 n (l1 ||| ((1 : Int32) <<< (l2 &&& 31))) (l2 + 1) w2.2)) = some out := H
    refine xb A [(.iload_n 2, 1, 0, 0, .null), (.aload_n 0, 1, 0, 0, .null), (.getfield 61, 3, 60, 28, .ref 75), (.aload_n 0, 1, 0, 0, .null), (.getfield 227, 3, 60, 18, .int 0)] (pc' := 17) (ls' := [some (.ref 60), some (.int l1), some (.int l2)]) (st' := [.int (g.1 60 18), .ref 75, .int l2]) (g' := g) (by decide +kernel) rfl ?_
    obtain ⟨h1, H⟩ := xg_elim H
    refine xiald A (nxt := 18) (by decide +kernel) (hS _ _ sh_75) h1 ?_
    show xW k S 0 0 18 [some (.ref 60), some (.int l1), some (.int l2)] [.int (g.1 75 (g.1 60 18).toNatClampNeg), .int l2] g
    refine xic_ge A (23) 41 21 (by decide +kernel) (fun h2 => ?_) (fun h2 => ?_)
    · rw [if_pos h2] at H
      refine xb A [(.iload_n 1, 1, 0, 0, .null)] (pc' := 42) (ls' := [some (.ref 60), some (.int l1), some (.int l2)]) (st' := [.int l1]) (g' := g) (by decide +kernel) rfl ?_
      obtain rfl := Option.some.inj H
      exact xret_i A hR hz (by decide +kernel) rfl ⟨rfl, rfl⟩
    · rw [if_neg h2] at H
      refine xb A [(.aload_n 0, 1, 0, 0, .null), (.iload_n 2, 1, 0, 0, .null)] (pc' := 23) (ls' := [some (.ref 60), some (.int l1), some (.int l2)]) (st' := [.int l2, .ref 60]) (g' := g) (by decide +kernel) rfl ?_
      obtain ⟨w2, e2, H⟩ := xbind H
      refine xcallV A (ix := 391) (nxt := 26) hrm hz [.int l2] [] 1848 (c_X12_doesLie_60 hS _ e2) ok_X12_doesLie (by decide +kernel) rfl (fun r g1 hq => ?_)
      rw [hq.1, hq.2]
      show xW k S 0 0 26 [some (.ref 60), some (.int l1), some (.int l2)] [.int w2.1] w2.2
      refine xif_eq A (9) 35 29 (by decide +kernel) (fun h3 => ?_) (fun h3 => ?_)
      · rw [if_pos h3] at H
        refine xb A [(.iinc 2 1, 3, 0, 0, .null)] (pc' := 38) (ls' := [some (.ref 60), some (.int l1), some (.int (l2 + 1))]) (st' := []) (g' := w2.2) (by decide +kernel) rfl ?_
        refine xgoto A (-30) 8 (by decide +kernel) ?_
        exact ih _ _ _ H
      · rw [if_neg h3] at H
        refine xb A [(.iload_n 1, 1, 0, 0, .null), (.iconst 1, 1, 0, 0, .int 1), (.iload_n 2, 1, 0, 0, .null), (.ishl, 1, 0, 0, .null), (.ior, 1, 0, 0, .null), (.istore_n 1, 1, 0, 0, .null), (.iinc 2 1, 3, 0, 0, .null)] (pc' := 38) (ls' := [some (.ref 60), some (.int (l1 ||| ((1 : Int32) <<< (l2 &&& 31)))), some (.int (l2 + 1))]) (st' := []) (g' := w2.2) (by decide +kernel) rfl ?_
        refine xgoto A (-30) 8 (by decide +kernel) ?_
        exact ih _ _ _ H
theorem fr_X12_liars_60_8   : ∀ (n : Nat) (l1 : Int32) (l2 : Int32) (g : xG) (out : Int32 × xG), f_X12_liars_60_8 n l1 l2 g = some out → xfrm fp_X12_liars_60 g (out.2) := by
  intro n
  induction n with
  | zero => intro l1 l2 g out H; exact absurd H (by simp [f_X12_liars_60_8])
  | succ n ih =>
    intro l1 l2 g out H
    have H : (xg (¬ ((g.1 60 18) < 0 ∨ 2 ≤ (g.1 60 18).toNatClampNeg)) (
  if (g.1 75 (g.1 60 18).toNatClampNeg) ≤ l2 then
    some (l1, g)
  else
    (f_X12_doesLie_60 l2 g).bind fun w2 =>
    if w2.1 = 0 then
      f_X12_liars_60_8 n l1 (l2 + 1) w2.2
    else
      f_X12_liars_60_8 n (l1 ||| ((1 : Int32) <<< (l2 &&& 31))) (l2 + 1) w2.2)) = some out := H
    obtain ⟨h1, H⟩ := xg_elim H
    by_cases h2 : (g.1 75 (g.1 60 18).toNatClampNeg) ≤ l2
    · rw [if_pos h2] at H
      obtain rfl := Option.some.inj H
      exact xfrm.rf
    · rw [if_neg h2] at H
      obtain ⟨w2, e2, H⟩ := xbind H
      have hf2 : xfrm fp_X12_liars_60 g (w2.2) := xfrm.tr xfrm.rf (fr_X12_doesLie_60 _ e2) rfl
      by_cases h3 : w2.1 = 0
      · rw [if_pos h3] at H
        exact xfrm.tr hf2 (ih _ _ _ _ H) rfl
      · rw [if_neg h3] at H
        exact xfrm.tr hf2 (ih _ _ _ _ H) rfl
set_option maxRecDepth 20000 in
theorem c_X12_liars_60 {S : List xSh} (hS : xpf SH2 S) {g : xG}  (out : Int32 × xG) (H : f_X12_liars_60  g = some out) : xC mX12_liars 6 129 0 0 S [.ref 60] g S (fun r g' => r = some (.int out.1) ∧ g' = out.2) := by
  have H : ((f_X12_copies_60 g).bind fun w1 =>
f_X12_liars_60_8 xN 0 0 w1) = some out := H
  refine xC.of 12 SH2 [some (.ref 60), none, none] hS (by decide +kernel) rfl (fun _ _ => Nat.le_of_ble_eq_true rfl) (fun _ _ => rfl) ?_
  intro k A hR hrm hz
  refine xb A [(.aload_n 0, 1, 0, 0, .null)] (pc' := 1) (ls' := [some (.ref 60), none, none]) (st' := [.ref 60]) (g' := g) (by decide +kernel) rfl ?_
  obtain ⟨w1, e1, H⟩ := xbind H
  refine xcallV A (ix := 320) (nxt := 4) hrm hz [] [] 1699 (c_X12_copies_60 hS _ e1) ok_X12_copies (by decide +kernel) rfl (fun r g1 hq => ?_)
  rw [hq.1, hq.2]
  show xW k S 0 0 4 [some (.ref 60), none, none] [] w1
  refine xb A [(.iconst 0, 1, 0, 0, .int 0), (.istore_n 1, 1, 0, 0, .null), (.iconst 0, 1, 0, 0, .int 0), (.istore_n 2, 1, 0, 0, .null)] (pc' := 8) (ls' := [some (.ref 60), some (.int 0), some (.int 0)]) (st' := []) (g' := w1) (by decide +kernel) rfl ?_
  exact t_X12_liars_60_8 hS A hR hrm hz _ _ _ _ H
theorem fr_X12_liars_60  {g : xG} (out : Int32 × xG) (H : f_X12_liars_60  g = some out) : xfrm fp_X12_liars_60 g (out.2) := by
  have H : ((f_X12_copies_60 g).bind fun w1 =>
f_X12_liars_60_8 xN 0 0 w1) = some out := H
  obtain ⟨w1, e1, H⟩ := xbind H
  have hf1 : xfrm fp_X12_liars_60 g (w1) := xfrm.tr xfrm.rf (fr_X12_copies_60 _ e1) rfl
  exact xfrm.tr hf1 (fr_X12_liars_60_8 _ _ _ _ _ H) rfl
def fp_X12_truth_60 : List (Nat × Option Nat) := [(60, some 49), (60, some 52), (60, some 53), (91, none), (92, none), (94, none), (95, none)]
def f_X12_truth_60  (g : xG) : Option (Int32 × xG) :=
  (f_X12_copies_60 g).bind fun w1 =>
  (f_X12_ringerBy_60 1 w1).bind fun w2 =>
  some (w2.1, w2.2)
set_option maxRecDepth 20000 in
theorem c_X12_truth_60 {S : List xSh} (hS : xpf SH2 S) {g : xG}  (out : Int32 × xG) (H : f_X12_truth_60  g = some out) : xC mX12_truth 6 133 0 0 S [.ref 60] g S (fun r g' => r = some (.int out.1) ∧ g' = out.2) := by
  have H : ((f_X12_copies_60 g).bind fun w1 =>
(f_X12_ringerBy_60 1 w1).bind fun w2 =>
some (w2.1, w2.2)) = some out := H
  refine xC.of 12 SH2 [some (.ref 60)] hS (by decide +kernel) rfl (fun _ _ => Nat.le_of_ble_eq_true rfl) (fun _ _ => rfl) ?_
  intro k A hR hrm hz
  refine xb A [(.aload_n 0, 1, 0, 0, .null)] (pc' := 1) (ls' := [some (.ref 60)]) (st' := [.ref 60]) (g' := g) (by decide +kernel) rfl ?_
  obtain ⟨w1, e1, H⟩ := xbind H
  refine xcallV A (ix := 320) (nxt := 4) hrm hz [] [] 1699 (c_X12_copies_60 hS _ e1) ok_X12_copies (by decide +kernel) rfl (fun r g1 hq => ?_)
  rw [hq.1, hq.2]
  show xW k S 0 0 4 [some (.ref 60)] [] w1
  refine xb A [(.aload_n 0, 1, 0, 0, .null), (.iconst 1, 1, 0, 0, .int 1)] (pc' := 6) (ls' := [some (.ref 60)]) (st' := [.int 1, .ref 60]) (g' := w1) (by decide +kernel) rfl ?_
  obtain ⟨w2, e2, H⟩ := xbind H
  refine xcallV A (ix := 368) (nxt := 9) hrm hz [.int 1] [] 1840 (c_X12_ringerBy_60 hS _ e2) ok_X12_ringerBy (by decide +kernel) rfl (fun r g1 hq => ?_)
  rw [hq.1, hq.2]
  show xW k S 0 0 9 [some (.ref 60)] [.int w2.1] w2.2
  obtain rfl := Option.some.inj H
  exact xret_i A hR hz (by decide +kernel) rfl ⟨rfl, rfl⟩
theorem fr_X12_truth_60  {g : xG} (out : Int32 × xG) (H : f_X12_truth_60  g = some out) : xfrm fp_X12_truth_60 g (out.2) := by
  have H : ((f_X12_copies_60 g).bind fun w1 =>
(f_X12_ringerBy_60 1 w1).bind fun w2 =>
some (w2.1, w2.2)) = some out := H
  obtain ⟨w1, e1, H⟩ := xbind H
  have hf1 : xfrm fp_X12_truth_60 g (w1) := xfrm.tr xfrm.rf (fr_X12_copies_60 _ e1) rfl
  obtain ⟨w2, e2, H⟩ := xbind H
  have hf2 : xfrm fp_X12_truth_60 g (w2.2) := xfrm.tr hf1 (fr_X12_ringerBy_60 _ e2) rfl
  obtain rfl := Option.some.inj H
  exact hf2
def f_X12_isOpenNow_60 (p1 : Int32) (g : xG) : Option (Int32) :=
  xg (¬ ((36 : Int32) < 0 ∨ 40 ≤ (36 : Int32).toNatClampNeg)) (
    if (((g.1 93 (36 : Int32).toNatClampNeg) >>> (p1 &&& 31)) &&& 1) = 0 then
      some 1
    else
      some 0)
set_option maxRecDepth 20000 in
theorem c_X12_isOpenNow_60 {S : List xSh} (hS : xpf SH2 S) {g : xG} {p1 : Int32} (out : Int32) (H : f_X12_isOpenNow_60 p1 g = some out) : xC mX12_isOpenNow 0 0 0 0 S [.ref 60, .int p1] g S (fun r g' => r = some (.int out) ∧ g' = g) := by
  have H : (xg (¬ ((36 : Int32) < 0 ∨ 40 ≤ (36 : Int32).toNatClampNeg)) (
  if (((g.1 93 (36 : Int32).toNatClampNeg) >>> (p1 &&& 31)) &&& 1) = 0 then
    some 1
  else
    some 0)) = some out := H
  refine xC.of 12 SH2 [some (.ref 60), some (.int p1)] hS (by decide +kernel) rfl (fun _ _ => Nat.le_of_ble_eq_true rfl) (fun _ _ => rfl) ?_
  intro k A hR hrm hz
  refine xb A [(.aload_n 0, 1, 0, 0, .null), (.getfield 116, 3, 60, 50, .ref 93), (.bipush 36, 2, 0, 0, .int 36)] (pc' := 6) (ls' := [some (.ref 60), some (.int p1)]) (st' := [.int 36, .ref 93]) (g' := g) (by decide +kernel) rfl ?_
  obtain ⟨h1, H⟩ := xg_elim H
  refine xiald A (nxt := 7) (by decide +kernel) (hS _ _ sh_93) h1 ?_
  show xW k S 0 0 7 [some (.ref 60), some (.int p1)] [.int (g.1 93 (36 : Int32).toNatClampNeg)] g
  refine xb A [(.iload_n 1, 1, 0, 0, .null), (.ishr, 1, 0, 0, .null), (.iconst 1, 1, 0, 0, .int 1), (.iand, 1, 0, 0, .null)] (pc' := 11) (ls' := [some (.ref 60), some (.int p1)]) (st' := [.int (((g.1 93 (36 : Int32).toNatClampNeg) >>> (p1 &&& 31)) &&& 1)]) (g' := g) (by decide +kernel) rfl ?_
  refine xif_ne A (7) 18 14 (by decide +kernel) (fun h2 => ?_) (fun h2 => ?_)
  · rw [if_neg h2] at H
    refine xb A [(.iconst 0, 1, 0, 0, .int 0)] (pc' := 19) (ls' := [some (.ref 60), some (.int p1)]) (st' := [.int 0]) (g' := g) (by decide +kernel) rfl ?_
    obtain rfl := Option.some.inj H
    exact xret_i A hR hz (by decide +kernel) rfl ⟨rfl, rfl⟩
  · rw [if_pos h2] at H
    refine xb A [(.iconst 1, 1, 0, 0, .int 1)] (pc' := 15) (ls' := [some (.ref 60), some (.int p1)]) (st' := [.int 1]) (g' := g) (by decide +kernel) rfl ?_
    refine xgoto A (4) 19 (by decide +kernel) ?_
    obtain rfl := Option.some.inj H
    exact xret_i A hR hz (by decide +kernel) rfl ⟨rfl, rfl⟩
def fp_X12_ringerWithout_60 : List (Nat × Option Nat) := [(60, some 49), (60, some 52), (60, some 53), (91, none), (92, none), (94, none), (95, none)]
def f_X12_ringerWithout_60 (p1 : Int32) (g : xG) : Option (Int32 × xG) :=
  (f_X12_copies_60 g).bind fun w1 =>
  xg (¬ ((36 : Int32) < 0 ∨ 40 ≤ (36 : Int32).toNatClampNeg)) (
    xg (¬ ((36 : Int32) < 0 ∨ 40 ≤ (36 : Int32).toNatClampNeg)) (
      (f_X12_fillsFar_60 (xupd w1.1 94 (36 : Int32).toNatClampNeg ((w1.1 94 (36 : Int32).toNatClampNeg) ||| ((1 : Int32) <<< (p1 &&& 31))), w1.2)).bind fun w2 =>
      (f_X12_ringerNow_60 w2).bind fun w3 =>
      some (w3.1, w3.2)))
set_option maxRecDepth 20000 in
theorem c_X12_ringerWithout_60 {S : List xSh} (hS : xpf SH2 S) {g : xG} {p1 : Int32} (out : Int32 × xG) (H : f_X12_ringerWithout_60 p1 g = some out) : xC mX12_ringerWithout 7 153 0 0 S [.ref 60, .int p1] g S (fun r g' => r = some (.int out.1) ∧ g' = out.2) := by
  have H : ((f_X12_copies_60 g).bind fun w1 =>
xg (¬ ((36 : Int32) < 0 ∨ 40 ≤ (36 : Int32).toNatClampNeg)) (
  xg (¬ ((36 : Int32) < 0 ∨ 40 ≤ (36 : Int32).toNatClampNeg)) (
    (f_X12_fillsFar_60 (xupd w1.1 94 (36 : Int32).toNatClampNeg ((w1.1 94 (36 : Int32).toNatClampNeg) ||| ((1 : Int32) <<< (p1 &&& 31))), w1.2)).bind fun w2 =>
    (f_X12_ringerNow_60 w2).bind fun w3 =>
    some (w3.1, w3.2)))) = some out := H
  refine xC.of 12 SH2 [some (.ref 60), some (.int p1)] hS (by decide +kernel) rfl (fun _ _ => Nat.le_of_ble_eq_true rfl) (fun _ _ => rfl) ?_
  intro k A hR hrm hz
  refine xb A [(.aload_n 0, 1, 0, 0, .null)] (pc' := 1) (ls' := [some (.ref 60), some (.int p1)]) (st' := [.ref 60]) (g' := g) (by decide +kernel) rfl ?_
  obtain ⟨w1, e1, H⟩ := xbind H
  refine xcallV A (ix := 320) (nxt := 4) hrm hz [] [] 1699 (c_X12_copies_60 hS _ e1) ok_X12_copies (by decide +kernel) rfl (fun r g1 hq => ?_)
  rw [hq.1, hq.2]
  show xW k S 0 0 4 [some (.ref 60), some (.int p1)] [] w1
  refine xb A [(.aload_n 0, 1, 0, 0, .null), (.getfield 119, 3, 60, 51, .ref 94), (.bipush 36, 2, 0, 0, .int 36), (.dup2, 1, 0, 0, .null)] (pc' := 11) (ls' := [some (.ref 60), some (.int p1)]) (st' := [.int 36, .ref 94, .int 36, .ref 94]) (g' := w1) (by decide +kernel) rfl ?_
  obtain ⟨h1, H⟩ := xg_elim H
  refine xiald A (nxt := 12) (by decide +kernel) (hS _ _ sh_94) h1 ?_
  show xW k S 0 0 12 [some (.ref 60), some (.int p1)] [.int (w1.1 94 (36 : Int32).toNatClampNeg), .int 36, .ref 94] w1
  refine xb A [(.iconst 1, 1, 0, 0, .int 1), (.iload_n 1, 1, 0, 0, .null), (.ishl, 1, 0, 0, .null), (.ior, 1, 0, 0, .null)] (pc' := 16) (ls' := [some (.ref 60), some (.int p1)]) (st' := [.int ((w1.1 94 (36 : Int32).toNatClampNeg) ||| ((1 : Int32) <<< (p1 &&& 31))), .int 36, .ref 94]) (g' := w1) (by decide +kernel) rfl ?_
  obtain ⟨h2, H⟩ := xg_elim H
  refine xiast A (nxt := 17) (by decide +kernel) (hS _ _ sh_94) h2 ?_
  show xW k S 0 0 17 [some (.ref 60), some (.int p1)] [] (xupd w1.1 94 (36 : Int32).toNatClampNeg ((w1.1 94 (36 : Int32).toNatClampNeg) ||| ((1 : Int32) <<< (p1 &&& 31))), w1.2)
  refine xb A [(.aload_n 0, 1, 0, 0, .null)] (pc' := 18) (ls' := [some (.ref 60), some (.int p1)]) (st' := [.ref 60]) (g' := (xupd w1.1 94 (36 : Int32).toNatClampNeg ((w1.1 94 (36 : Int32).toNatClampNeg) ||| ((1 : Int32) <<< (p1 &&& 31))), w1.2)) (by decide +kernel) rfl ?_
  obtain ⟨w2, e2, H⟩ := xbind H
  refine xcallV A (ix := 317) (nxt := 21) hrm hz [] [] 1703 (c_X12_fillsFar_60 hS _ e2) ok_X12_fillsFar (by decide +kernel) rfl (fun r g1 hq => ?_)
  rw [hq.1, hq.2]
  show xW k S 0 0 21 [some (.ref 60), some (.int p1)] [] w2
  refine xb A [(.aload_n 0, 1, 0, 0, .null)] (pc' := 22) (ls' := [some (.ref 60), some (.int p1)]) (st' := [.ref 60]) (g' := w2) (by decide +kernel) rfl ?_
  obtain ⟨w3, e3, H⟩ := xbind H
  refine xcallV A (ix := 388) (nxt := 25) hrm hz [] [] 1836 (c_X12_ringerNow_60 hS _ e3) ok_X12_ringerNow (by decide +kernel) rfl (fun r g1 hq => ?_)
  rw [hq.1, hq.2]
  show xW k S 0 0 25 [some (.ref 60), some (.int p1)] [.int w3.1] w3.2
  obtain rfl := Option.some.inj H
  exact xret_i A hR hz (by decide +kernel) rfl ⟨rfl, rfl⟩
theorem fr_X12_ringerWithout_60 {p1 : Int32} {g : xG} (out : Int32 × xG) (H : f_X12_ringerWithout_60 p1 g = some out) : xfrm fp_X12_ringerWithout_60 g (out.2) := by
  have H : ((f_X12_copies_60 g).bind fun w1 =>
xg (¬ ((36 : Int32) < 0 ∨ 40 ≤ (36 : Int32).toNatClampNeg)) (
  xg (¬ ((36 : Int32) < 0 ∨ 40 ≤ (36 : Int32).toNatClampNeg)) (
    (f_X12_fillsFar_60 (xupd w1.1 94 (36 : Int32).toNatClampNeg ((w1.1 94 (36 : Int32).toNatClampNeg) ||| ((1 : Int32) <<< (p1 &&& 31))), w1.2)).bind fun w2 =>
    (f_X12_ringerNow_60 w2).bind fun w3 =>
    some (w3.1, w3.2)))) = some out := H
  obtain ⟨w1, e1, H⟩ := xbind H
  have hf1 : xfrm fp_X12_ringerWithout_60 g (w1) := xfrm.tr xfrm.rf (fr_X12_copies_60 _ e1) rfl
  obtain ⟨h1, H⟩ := xg_elim H
  obtain ⟨h2, H⟩ := xg_elim H
  have hf2 : xfrm fp_X12_ringerWithout_60 g ((xupd w1.1 94 (36 : Int32).toNatClampNeg ((w1.1 94 (36 : Int32).toNatClampNeg) ||| ((1 : Int32) <<< (p1 &&& 31))), w1.2)) := xfrm.ua hf1 rfl
  obtain ⟨w2, e2, H⟩ := xbind H
  have hf3 : xfrm fp_X12_ringerWithout_60 g (w2) := xfrm.tr hf2 (fr_X12_fillsFar_60 _ e2) rfl
  obtain ⟨w3, e3, H⟩ := xbind H
  have hf4 : xfrm fp_X12_ringerWithout_60 g (w3.2) := xfrm.tr hf3 (fr_X12_ringerNow_60 _ e3) rfl
  obtain rfl := Option.some.inj H
  exact hf4
def fp_X12_turns_60 : List (Nat × Option Nat) := [(60, some 49), (60, some 52), (60, some 53), (91, none), (92, none), (94, none), (95, none)]
def f_X12_turns_60_13  : Nat → Int32 → Int32 → Int32 → xG → Option (Int32 × xG)
  | 0, _, _, _, _ => none
  | n + 1, l1, l2, l3, g =>
    xg (¬ ((g.1 60 18) < 0 ∨ 2 ≤ (g.1 60 18).toNatClampNeg)) (
      if (g.1 71 (g.1 60 18).toNatClampNeg) ≤ l3 then
        some (l2, g)
      else
        (f_X12_isOpenNow_60 l3 g).bind fun w3 =>
        if w3 = 0 then
          f_X12_turns_60_13 n l1 l2 (l3 + 1) g
        else
          (f_X12_ringerWithout_60 l3 g).bind fun w4 =>
          if w4.1 = l1 then
            f_X12_turns_60_13 n l1 l2 (l3 + 1) w4.2
          else
            f_X12_turns_60_13 n l1 (l2 ||| ((1 : Int32) <<< (l3 &&& 31))) (l3 + 1) w4.2)
def f_X12_turns_60  (g : xG) : Option (Int32 × xG) :=
  (f_X12_copies_60 g).bind fun w1 =>
  (f_X12_ringerNow_60 w1).bind fun w2 =>
  f_X12_turns_60_13 xN w2.1 0 0 w2.2
set_option maxRecDepth 20000 in
theorem t_X12_turns_60_13 {k : xK} {S : List xSh} {out : Int32 × xG} (hS : xpf SH2 S) (A : xAt k mX12_turns.2.1 12 SH2 S) (hR : xRet k 0 0 S (fun r g' => r = some (.int out.1) ∧ g' = out.2) mX12_turns.2.2.2) (hrm : xrm k = { frames := 8, cells := 0, slots := 0, locals := 174 }) (hz : xhs k = xb0 k + S.length)   : ∀ (n : Nat) (l1 : Int32) (l2 : Int32) (l3 : Int32) (g : xG), f_X12_turns_60_13 n l1 l2 l3 g = some out → xW k S 0 0 13 [some (.ref 60), some (.int l1), some (.int l2), some (.int l3)] [] g := by
  intro n
  induction n with
  | zero => intro l1 l2 l3 g H; exact absurd H (by simp [f_X12_turns_60_13])
  | succ n ih =>
    intro l1 l2 l3 g H
    have H : (xg (¬ ((g.1 60 18) < 0 ∨ 2 ≤ (g.1 60 18).toNatClampNeg)) (
  if (g.1 71 (g.1 60 18).toNatClampNeg) ≤ l3 then
    some (l2, g)
  else
    (f_X12_isOpenNow_60 l3 g).bind fun w3 =>
    if w3 = 0 then
      f_X12_turns_60_13 n l1 l2 (l3 + 1) g
    else
      (f_X12_ringerWithout_60 l3 g).bind fun w4 =>
      if w4.1 = l1 then
        f_X12_turns_60_13 n l1 l2 (l3 + 1) w4.2
      else
        f_X12_turns_60_13 n l1 (l2 ||| ((1 : Int32) <<< (l3 &&& 31))) (l3 + 1) w4.2)) = some out := H
    refine xb A [(.iload_n 3, 1, 0, 0, .null), (.aload_n 0, 1, 0, 0, .null), (.getfield 49, 3, 60, 24, .ref 71), (.aload_n 0, 1, 0, 0, .null), (.getfield 227, 3, 60, 18, .int 0)] (pc' := 22) (ls' := [some (.ref 60), some (.int l1), some (.int l2), some (.int l3)]) (st' := [.int (g.1 60 18), .ref 71, .int l3]) (g' := g) (by decide +kernel) rfl ?_
    obtain ⟨h1, H⟩ := xg_elim H
    refine xiald A (nxt := 23) (by decide +kernel) (hS _ _ sh_71) h1 ?_
    show xW k S 0 0 23 [some (.ref 60), some (.int l1), some (.int l2), some (.int l3)] [.int (g.1 71 (g.1 60 18).toNatClampNeg), .int l3] g
    refine xic_ge A (32) 55 26 (by decide +kernel) (fun h2 => ?_) (fun h2 => ?_)
    · rw [if_pos h2] at H
      refine xb A [(.iload_n 2, 1, 0, 0, .null)] (pc' := 56) (ls' := [some (.ref 60), some (.int l1), some (.int l2), some (.int l3)]) (st' := [.int l2]) (g' := g) (by decide +kernel) rfl ?_
      obtain rfl := Option.some.inj H
      exact xret_i A hR hz (by decide +kernel) rfl ⟨rfl, rfl⟩
    · rw [if_neg h2] at H
      refine xb A [(.aload_n 0, 1, 0, 0, .null), (.iload_n 3, 1, 0, 0, .null)] (pc' := 28) (ls' := [some (.ref 60), some (.int l1), some (.int l2), some (.int l3)]) (st' := [.int l3, .ref 60]) (g' := g) (by decide +kernel) rfl ?_
      obtain ⟨w3, e3, H⟩ := xbind H
      refine xcallV A (ix := 440) (nxt := 31) hrm hz [.int l3] [] 1901 (c_X12_isOpenNow_60 hS _ e3) ok_X12_isOpenNow (by decide +kernel) rfl (fun r g1 hq => ?_)
      rw [hq.1, hq.2]
      show xW k S 0 0 31 [some (.ref 60), some (.int l1), some (.int l2), some (.int l3)] [.int w3] g
      refine xif_eq A (18) 49 34 (by decide +kernel) (fun h3 => ?_) (fun h3 => ?_)
      · rw [if_pos h3] at H
        refine xb A [(.iinc 3 1, 3, 0, 0, .null)] (pc' := 52) (ls' := [some (.ref 60), some (.int l1), some (.int l2), some (.int (l3 + 1))]) (st' := []) (g' := g) (by decide +kernel) rfl ?_
        refine xgoto A (-39) 13 (by decide +kernel) ?_
        exact ih _ _ _ _ H
      · rw [if_neg h3] at H
        refine xb A [(.aload_n 0, 1, 0, 0, .null), (.iload_n 3, 1, 0, 0, .null)] (pc' := 36) (ls' := [some (.ref 60), some (.int l1), some (.int l2), some (.int l3)]) (st' := [.int l3, .ref 60]) (g' := g) (by decide +kernel) rfl ?_
        obtain ⟨w4, e4, H⟩ := xbind H
        refine xcallV A (ix := 443) (nxt := 39) hrm hz [.int l3] [] 1905 (c_X12_ringerWithout_60 hS _ e4) ok_X12_ringerWithout (by decide +kernel) rfl (fun r g1 hq => ?_)
        rw [hq.1, hq.2]
        show xW k S 0 0 39 [some (.ref 60), some (.int l1), some (.int l2), some (.int l3)] [.int w4.1] w4.2
        refine xb A [(.iload_n 1, 1, 0, 0, .null)] (pc' := 40) (ls' := [some (.ref 60), some (.int l1), some (.int l2), some (.int l3)]) (st' := [.int l1, .int w4.1]) (g' := w4.2) (by decide +kernel) rfl ?_
        refine xic_eq A (9) 49 43 (by decide +kernel) (fun h4 => ?_) (fun h4 => ?_)
        · rw [if_pos h4] at H
          refine xb A [(.iinc 3 1, 3, 0, 0, .null)] (pc' := 52) (ls' := [some (.ref 60), some (.int l1), some (.int l2), some (.int (l3 + 1))]) (st' := []) (g' := w4.2) (by decide +kernel) rfl ?_
          refine xgoto A (-39) 13 (by decide +kernel) ?_
          exact ih _ _ _ _ H
        · rw [if_neg h4] at H
          refine xb A [(.iload_n 2, 1, 0, 0, .null), (.iconst 1, 1, 0, 0, .int 1), (.iload_n 3, 1, 0, 0, .null), (.ishl, 1, 0, 0, .null), (.ior, 1, 0, 0, .null), (.istore_n 2, 1, 0, 0, .null), (.iinc 3 1, 3, 0, 0, .null)] (pc' := 52) (ls' := [some (.ref 60), some (.int l1), some (.int (l2 ||| ((1 : Int32) <<< (l3 &&& 31)))), some (.int (l3 + 1))]) (st' := []) (g' := w4.2) (by decide +kernel) rfl ?_
          refine xgoto A (-39) 13 (by decide +kernel) ?_
          exact ih _ _ _ _ H
theorem fr_X12_turns_60_13   : ∀ (n : Nat) (l1 : Int32) (l2 : Int32) (l3 : Int32) (g : xG) (out : Int32 × xG), f_X12_turns_60_13 n l1 l2 l3 g = some out → xfrm fp_X12_turns_60 g (out.2) := by
  intro n
  induction n with
  | zero => intro l1 l2 l3 g out H; exact absurd H (by simp [f_X12_turns_60_13])
  | succ n ih =>
    intro l1 l2 l3 g out H
    have H : (xg (¬ ((g.1 60 18) < 0 ∨ 2 ≤ (g.1 60 18).toNatClampNeg)) (
  if (g.1 71 (g.1 60 18).toNatClampNeg) ≤ l3 then
    some (l2, g)
  else
    (f_X12_isOpenNow_60 l3 g).bind fun w3 =>
    if w3 = 0 then
      f_X12_turns_60_13 n l1 l2 (l3 + 1) g
    else
      (f_X12_ringerWithout_60 l3 g).bind fun w4 =>
      if w4.1 = l1 then
        f_X12_turns_60_13 n l1 l2 (l3 + 1) w4.2
      else
        f_X12_turns_60_13 n l1 (l2 ||| ((1 : Int32) <<< (l3 &&& 31))) (l3 + 1) w4.2)) = some out := H
    obtain ⟨h1, H⟩ := xg_elim H
    by_cases h2 : (g.1 71 (g.1 60 18).toNatClampNeg) ≤ l3
    · rw [if_pos h2] at H
      obtain rfl := Option.some.inj H
      exact xfrm.rf
    · rw [if_neg h2] at H
      obtain ⟨w3, e3, H⟩ := xbind H
      by_cases h3 : w3 = 0
      · rw [if_pos h3] at H
        exact xfrm.tr xfrm.rf (ih _ _ _ _ _ H) rfl
      · rw [if_neg h3] at H
        obtain ⟨w4, e4, H⟩ := xbind H
        have hf3 : xfrm fp_X12_turns_60 g (w4.2) := xfrm.tr xfrm.rf (fr_X12_ringerWithout_60 _ e4) rfl
        by_cases h4 : w4.1 = l1
        · rw [if_pos h4] at H
          exact xfrm.tr hf3 (ih _ _ _ _ _ H) rfl
        · rw [if_neg h4] at H
          exact xfrm.tr hf3 (ih _ _ _ _ _ H) rfl
set_option maxRecDepth 20000 in
theorem c_X12_turns_60 {S : List xSh} (hS : xpf SH2 S) {g : xG}  (out : Int32 × xG) (H : f_X12_turns_60  g = some out) : xC mX12_turns 8 174 0 0 S [.ref 60] g S (fun r g' => r = some (.int out.1) ∧ g' = out.2) := by
  have H : ((f_X12_copies_60 g).bind fun w1 =>
(f_X12_ringerNow_60 w1).bind fun w2 =>
f_X12_turns_60_13 xN w2.1 0 0 w2.2) = some out := H
  refine xC.of 12 SH2 [some (.ref 60), none, none, none] hS (by decide +kernel) rfl (fun _ _ => Nat.le_of_ble_eq_true rfl) (fun _ _ => rfl) ?_
  intro k A hR hrm hz
  refine xb A [(.aload_n 0, 1, 0, 0, .null)] (pc' := 1) (ls' := [some (.ref 60), none, none, none]) (st' := [.ref 60]) (g' := g) (by decide +kernel) rfl ?_
  obtain ⟨w1, e1, H⟩ := xbind H
  refine xcallV A (ix := 320) (nxt := 4) hrm hz [] [] 1699 (c_X12_copies_60 hS _ e1) ok_X12_copies (by decide +kernel) rfl (fun r g1 hq => ?_)
  rw [hq.1, hq.2]
  show xW k S 0 0 4 [some (.ref 60), none, none, none] [] w1
  refine xb A [(.aload_n 0, 1, 0, 0, .null)] (pc' := 5) (ls' := [some (.ref 60), none, none, none]) (st' := [.ref 60]) (g' := w1) (by decide +kernel) rfl ?_
  obtain ⟨w2, e2, H⟩ := xbind H
  refine xcallV A (ix := 388) (nxt := 8) hrm hz [] [] 1836 (c_X12_ringerNow_60 hS _ e2) ok_X12_ringerNow (by decide +kernel) rfl (fun r g1 hq => ?_)
  rw [hq.1, hq.2]
  show xW k S 0 0 8 [some (.ref 60), none, none, none] [.int w2.1] w2.2
  refine xb A [(.istore_n 1, 1, 0, 0, .null), (.iconst 0, 1, 0, 0, .int 0), (.istore_n 2, 1, 0, 0, .null), (.iconst 0, 1, 0, 0, .int 0), (.istore_n 3, 1, 0, 0, .null)] (pc' := 13) (ls' := [some (.ref 60), some (.int w2.1), some (.int 0), some (.int 0)]) (st' := []) (g' := w2.2) (by decide +kernel) rfl ?_
  exact t_X12_turns_60_13 hS A hR hrm hz _ _ _ _ _ H
theorem fr_X12_turns_60  {g : xG} (out : Int32 × xG) (H : f_X12_turns_60  g = some out) : xfrm fp_X12_turns_60 g (out.2) := by
  have H : ((f_X12_copies_60 g).bind fun w1 =>
(f_X12_ringerNow_60 w1).bind fun w2 =>
f_X12_turns_60_13 xN w2.1 0 0 w2.2) = some out := H
  obtain ⟨w1, e1, H⟩ := xbind H
  have hf1 : xfrm fp_X12_turns_60 g (w1) := xfrm.tr xfrm.rf (fr_X12_copies_60 _ e1) rfl
  obtain ⟨w2, e2, H⟩ := xbind H
  have hf2 : xfrm fp_X12_turns_60 g (w2.2) := xfrm.tr hf1 (fr_X12_ringerNow_60 _ e2) rfl
  exact xfrm.tr hf2 (fr_X12_turns_60_13 _ _ _ _ _ _ H) rfl
def fp_X12_wish_60 : List (Nat × Option Nat) := [(60, some 49), (60, some 52), (60, some 53), (91, none), (92, none), (94, none), (95, none)]
def f_X12_wish_60_14  : Nat → Int32 → Int32 → Int32 → xG → Option (Int32 × xG)
  | 0, _, _, _, _ => none
  | n + 1, l1, l2, l3, g =>
    xg (¬ ((g.1 60 18) < 0 ∨ 2 ≤ (g.1 60 18).toNatClampNeg)) (
      if (g.1 71 (g.1 60 18).toNatClampNeg) ≤ l3 then
        some (l2, g)
      else
        (f_X12_isOpenNow_60 l3 g).bind fun w2 =>
        if w2 = 0 then
          f_X12_wish_60_14 n l1 l2 (l3 + 1) g
        else
          (f_X12_ringerWithout_60 l3 g).bind fun w3 =>
          if w3.1 = l1 then
            f_X12_wish_60_14 n l1 (l2 ||| ((1 : Int32) <<< (l3 &&& 31))) (l3 + 1) w3.2
          else
            f_X12_wish_60_14 n l1 l2 (l3 + 1) w3.2)
def f_X12_wish_60 (p1 : Int32) (g : xG) : Option (Int32 × xG) :=
  (f_X12_isPerson_60 p1 g).bind fun w1 =>
  if w1 = 0 then
    some ((-1), g)
  else
    f_X12_wish_60_14 xN p1 0 0 g
set_option maxRecDepth 20000 in
theorem t_X12_wish_60_14 {k : xK} {S : List xSh} {out : Int32 × xG} (hS : xpf SH2 S) (A : xAt k mX12_wish.2.1 12 SH2 S) (hR : xRet k 0 0 S (fun r g' => r = some (.int out.1) ∧ g' = out.2) mX12_wish.2.2.2) (hrm : xrm k = { frames := 8, cells := 0, slots := 0, locals := 174 }) (hz : xhs k = xb0 k + S.length)   : ∀ (n : Nat) (l1 : Int32) (l2 : Int32) (l3 : Int32) (g : xG), f_X12_wish_60_14 n l1 l2 l3 g = some out → xW k S 0 0 14 [some (.ref 60), some (.int l1), some (.int l2), some (.int l3)] [] g := by
  intro n
  induction n with
  | zero => intro l1 l2 l3 g H; exact absurd H (by simp [f_X12_wish_60_14])
  | succ n ih =>
    intro l1 l2 l3 g H
    have H : (xg (¬ ((g.1 60 18) < 0 ∨ 2 ≤ (g.1 60 18).toNatClampNeg)) (
  if (g.1 71 (g.1 60 18).toNatClampNeg) ≤ l3 then
    some (l2, g)
  else
    (f_X12_isOpenNow_60 l3 g).bind fun w2 =>
    if w2 = 0 then
      f_X12_wish_60_14 n l1 l2 (l3 + 1) g
    else
      (f_X12_ringerWithout_60 l3 g).bind fun w3 =>
      if w3.1 = l1 then
        f_X12_wish_60_14 n l1 (l2 ||| ((1 : Int32) <<< (l3 &&& 31))) (l3 + 1) w3.2
      else
        f_X12_wish_60_14 n l1 l2 (l3 + 1) w3.2)) = some out := H
    refine xb A [(.iload_n 3, 1, 0, 0, .null), (.aload_n 0, 1, 0, 0, .null), (.getfield 49, 3, 60, 24, .ref 71), (.aload_n 0, 1, 0, 0, .null), (.getfield 227, 3, 60, 18, .int 0)] (pc' := 23) (ls' := [some (.ref 60), some (.int l1), some (.int l2), some (.int l3)]) (st' := [.int (g.1 60 18), .ref 71, .int l3]) (g' := g) (by decide +kernel) rfl ?_
    obtain ⟨h2, H⟩ := xg_elim H
    refine xiald A (nxt := 24) (by decide +kernel) (hS _ _ sh_71) h2 ?_
    show xW k S 0 0 24 [some (.ref 60), some (.int l1), some (.int l2), some (.int l3)] [.int (g.1 71 (g.1 60 18).toNatClampNeg), .int l3] g
    refine xic_ge A (32) 56 27 (by decide +kernel) (fun h3 => ?_) (fun h3 => ?_)
    · rw [if_pos h3] at H
      refine xb A [(.iload_n 2, 1, 0, 0, .null)] (pc' := 57) (ls' := [some (.ref 60), some (.int l1), some (.int l2), some (.int l3)]) (st' := [.int l2]) (g' := g) (by decide +kernel) rfl ?_
      obtain rfl := Option.some.inj H
      exact xret_i A hR hz (by decide +kernel) rfl ⟨rfl, rfl⟩
    · rw [if_neg h3] at H
      refine xb A [(.aload_n 0, 1, 0, 0, .null), (.iload_n 3, 1, 0, 0, .null)] (pc' := 29) (ls' := [some (.ref 60), some (.int l1), some (.int l2), some (.int l3)]) (st' := [.int l3, .ref 60]) (g' := g) (by decide +kernel) rfl ?_
      obtain ⟨w2, e2, H⟩ := xbind H
      refine xcallV A (ix := 440) (nxt := 32) hrm hz [.int l3] [] 1901 (c_X12_isOpenNow_60 hS _ e2) ok_X12_isOpenNow (by decide +kernel) rfl (fun r g1 hq => ?_)
      rw [hq.1, hq.2]
      show xW k S 0 0 32 [some (.ref 60), some (.int l1), some (.int l2), some (.int l3)] [.int w2] g
      refine xif_eq A (18) 50 35 (by decide +kernel) (fun h4 => ?_) (fun h4 => ?_)
      · rw [if_pos h4] at H
        refine xb A [(.iinc 3 1, 3, 0, 0, .null)] (pc' := 53) (ls' := [some (.ref 60), some (.int l1), some (.int l2), some (.int (l3 + 1))]) (st' := []) (g' := g) (by decide +kernel) rfl ?_
        refine xgoto A (-39) 14 (by decide +kernel) ?_
        exact ih _ _ _ _ H
      · rw [if_neg h4] at H
        refine xb A [(.aload_n 0, 1, 0, 0, .null), (.iload_n 3, 1, 0, 0, .null)] (pc' := 37) (ls' := [some (.ref 60), some (.int l1), some (.int l2), some (.int l3)]) (st' := [.int l3, .ref 60]) (g' := g) (by decide +kernel) rfl ?_
        obtain ⟨w3, e3, H⟩ := xbind H
        refine xcallV A (ix := 443) (nxt := 40) hrm hz [.int l3] [] 1905 (c_X12_ringerWithout_60 hS _ e3) ok_X12_ringerWithout (by decide +kernel) rfl (fun r g1 hq => ?_)
        rw [hq.1, hq.2]
        show xW k S 0 0 40 [some (.ref 60), some (.int l1), some (.int l2), some (.int l3)] [.int w3.1] w3.2
        refine xb A [(.iload_n 1, 1, 0, 0, .null)] (pc' := 41) (ls' := [some (.ref 60), some (.int l1), some (.int l2), some (.int l3)]) (st' := [.int l1, .int w3.1]) (g' := w3.2) (by decide +kernel) rfl ?_
        refine xic_ne A (9) 50 44 (by decide +kernel) (fun h5 => ?_) (fun h5 => ?_)
        · rw [if_neg h5] at H
          refine xb A [(.iinc 3 1, 3, 0, 0, .null)] (pc' := 53) (ls' := [some (.ref 60), some (.int l1), some (.int l2), some (.int (l3 + 1))]) (st' := []) (g' := w3.2) (by decide +kernel) rfl ?_
          refine xgoto A (-39) 14 (by decide +kernel) ?_
          exact ih _ _ _ _ H
        · rw [if_pos h5] at H
          refine xb A [(.iload_n 2, 1, 0, 0, .null), (.iconst 1, 1, 0, 0, .int 1), (.iload_n 3, 1, 0, 0, .null), (.ishl, 1, 0, 0, .null), (.ior, 1, 0, 0, .null), (.istore_n 2, 1, 0, 0, .null), (.iinc 3 1, 3, 0, 0, .null)] (pc' := 53) (ls' := [some (.ref 60), some (.int l1), some (.int (l2 ||| ((1 : Int32) <<< (l3 &&& 31)))), some (.int (l3 + 1))]) (st' := []) (g' := w3.2) (by decide +kernel) rfl ?_
          refine xgoto A (-39) 14 (by decide +kernel) ?_
          exact ih _ _ _ _ H
theorem fr_X12_wish_60_14   : ∀ (n : Nat) (l1 : Int32) (l2 : Int32) (l3 : Int32) (g : xG) (out : Int32 × xG), f_X12_wish_60_14 n l1 l2 l3 g = some out → xfrm fp_X12_wish_60 g (out.2) := by
  intro n
  induction n with
  | zero => intro l1 l2 l3 g out H; exact absurd H (by simp [f_X12_wish_60_14])
  | succ n ih =>
    intro l1 l2 l3 g out H
    have H : (xg (¬ ((g.1 60 18) < 0 ∨ 2 ≤ (g.1 60 18).toNatClampNeg)) (
  if (g.1 71 (g.1 60 18).toNatClampNeg) ≤ l3 then
    some (l2, g)
  else
    (f_X12_isOpenNow_60 l3 g).bind fun w2 =>
    if w2 = 0 then
      f_X12_wish_60_14 n l1 l2 (l3 + 1) g
    else
      (f_X12_ringerWithout_60 l3 g).bind fun w3 =>
      if w3.1 = l1 then
        f_X12_wish_60_14 n l1 (l2 ||| ((1 : Int32) <<< (l3 &&& 31))) (l3 + 1) w3.2
      else
        f_X12_wish_60_14 n l1 l2 (l3 + 1) w3.2)) = some out := H
    obtain ⟨h2, H⟩ := xg_elim H
    by_cases h3 : (g.1 71 (g.1 60 18).toNatClampNeg) ≤ l3
    · rw [if_pos h3] at H
      obtain rfl := Option.some.inj H
      exact xfrm.rf
    · rw [if_neg h3] at H
      obtain ⟨w2, e2, H⟩ := xbind H
      by_cases h4 : w2 = 0
      · rw [if_pos h4] at H
        exact xfrm.tr xfrm.rf (ih _ _ _ _ _ H) rfl
      · rw [if_neg h4] at H
        obtain ⟨w3, e3, H⟩ := xbind H
        have hf1 : xfrm fp_X12_wish_60 g (w3.2) := xfrm.tr xfrm.rf (fr_X12_ringerWithout_60 _ e3) rfl
        by_cases h5 : w3.1 = l1
        · rw [if_pos h5] at H
          exact xfrm.tr hf1 (ih _ _ _ _ _ H) rfl
        · rw [if_neg h5] at H
          exact xfrm.tr hf1 (ih _ _ _ _ _ H) rfl
set_option maxRecDepth 20000 in
theorem c_X12_wish_60 {S : List xSh} (hS : xpf SH2 S) {g : xG} {p1 : Int32} (out : Int32 × xG) (H : f_X12_wish_60 p1 g = some out) : xC mX12_wish 8 174 0 0 S [.ref 60, .int p1] g S (fun r g' => r = some (.int out.1) ∧ g' = out.2) := by
  have H : ((f_X12_isPerson_60 p1 g).bind fun w1 =>
if w1 = 0 then
  some ((-1), g)
else
  f_X12_wish_60_14 xN p1 0 0 g) = some out := H
  refine xC.of 12 SH2 [some (.ref 60), some (.int p1), none, none] hS (by decide +kernel) rfl (fun _ _ => Nat.le_of_ble_eq_true rfl) (fun _ _ => rfl) ?_
  intro k A hR hrm hz
  refine xb A [(.aload_n 0, 1, 0, 0, .null), (.iload_n 1, 1, 0, 0, .null)] (pc' := 2) (ls' := [some (.ref 60), some (.int p1), none, none]) (st' := [.int p1, .ref 60]) (g' := g) (by decide +kernel) rfl ?_
  obtain ⟨w1, e1, H⟩ := xbind H
  refine xcallV A (ix := 425) (nxt := 5) hrm hz [.int p1] [] 1739 (c_X12_isPerson_60 hS _ e1) ok_X12_isPerson (by decide +kernel) rfl (fun r g1 hq => ?_)
  rw [hq.1, hq.2]
  show xW k S 0 0 5 [some (.ref 60), some (.int p1), none, none] [.int w1] g
  refine xif_ne A (5) 10 8 (by decide +kernel) (fun h1 => ?_) (fun h1 => ?_)
  · rw [if_neg h1] at H
    refine xb A [(.iconst 0, 1, 0, 0, .int 0), (.istore_n 2, 1, 0, 0, .null), (.iconst 0, 1, 0, 0, .int 0), (.istore_n 3, 1, 0, 0, .null)] (pc' := 14) (ls' := [some (.ref 60), some (.int p1), some (.int 0), some (.int 0)]) (st' := []) (g' := g) (by decide +kernel) rfl ?_
    exact t_X12_wish_60_14 hS A hR hrm hz _ _ _ _ _ H
  · rw [if_pos h1] at H
    refine xb A [(.iconst (-1), 1, 0, 0, .int (-1))] (pc' := 9) (ls' := [some (.ref 60), some (.int p1), none, none]) (st' := [.int (-1)]) (g' := g) (by decide +kernel) rfl ?_
    obtain rfl := Option.some.inj H
    exact xret_i A hR hz (by decide +kernel) rfl ⟨rfl, rfl⟩
theorem fr_X12_wish_60 {p1 : Int32} {g : xG} (out : Int32 × xG) (H : f_X12_wish_60 p1 g = some out) : xfrm fp_X12_wish_60 g (out.2) := by
  have H : ((f_X12_isPerson_60 p1 g).bind fun w1 =>
if w1 = 0 then
  some ((-1), g)
else
  f_X12_wish_60_14 xN p1 0 0 g) = some out := H
  obtain ⟨w1, e1, H⟩ := xbind H
  by_cases h1 : w1 = 0
  · rw [if_pos h1] at H
    obtain rfl := Option.some.inj H
    exact xfrm.rf
  · rw [if_neg h1] at H
    exact xfrm.tr xfrm.rf (fr_X12_wish_60_14 _ _ _ _ _ _ H) rfl
def fp_X12_copiesStill_60 : List (Nat × Option Nat) := [(60, some 52), (60, some 53), (94, none), (95, none)]
def f_X12_copiesStill_60  (g : xG) : Option (xG) :=
  (f_X12_copies_60 g).bind fun w1 =>
  some (xupd w1.1 60 53 1, w1.2)
set_option maxRecDepth 20000 in
theorem c_X12_copiesStill_60 {S : List xSh} (hS : xpf SH2 S) {g : xG}  (out : xG) (H : f_X12_copiesStill_60  g = some out) : xC mX12_copiesStill 2 44 0 0 S [.ref 60] g S (fun r g' => r = none ∧ g' = out) := by
  have H : ((f_X12_copies_60 g).bind fun w1 =>
some (xupd w1.1 60 53 1, w1.2)) = some out := H
  refine xC.of 12 SH2 [some (.ref 60)] hS (by decide +kernel) rfl (fun _ _ => Nat.le_of_ble_eq_true rfl) (fun _ _ => rfl) ?_
  intro k A hR hrm hz
  refine xb A [(.aload_n 0, 1, 0, 0, .null)] (pc' := 1) (ls' := [some (.ref 60)]) (st' := [.ref 60]) (g' := g) (by decide +kernel) rfl ?_
  obtain ⟨w1, e1, H⟩ := xbind H
  refine xcallV A (ix := 320) (nxt := 4) hrm hz [] [] 1699 (c_X12_copies_60 hS _ e1) ok_X12_copies (by decide +kernel) rfl (fun r g1 hq => ?_)
  rw [hq.1, hq.2]
  show xW k S 0 0 4 [some (.ref 60)] [] w1
  refine xb A [(.aload_n 0, 1, 0, 0, .null), (.iconst 1, 1, 0, 0, .int 1), (.putfield 314, 3, 60, 53, .int 1)] (pc' := 9) (ls' := [some (.ref 60)]) (st' := []) (g' := (xupd w1.1 60 53 1, w1.2)) (by decide +kernel) rfl ?_
  obtain rfl := Option.some.inj H
  exact xret_v A hR hz (by decide +kernel) ⟨rfl, rfl⟩
theorem fr_X12_copiesStill_60  {g : xG} (out : xG) (H : f_X12_copiesStill_60  g = some out) : xfrm fp_X12_copiesStill_60 g (out) := by
  have H : ((f_X12_copies_60 g).bind fun w1 =>
some (xupd w1.1 60 53 1, w1.2)) = some out := H
  obtain ⟨w1, e1, H⟩ := xbind H
  have hf1 : xfrm fp_X12_copiesStill_60 g (w1) := xfrm.tr xfrm.rf (fr_X12_copies_60 _ e1) rfl
  have hf2 : xfrm fp_X12_copiesStill_60 g ((xupd w1.1 60 53 1, w1.2)) := xfrm.up hf1 rfl
  obtain rfl := Option.some.inj H
  exact hf2
def fp_X12_whenRings_60 : List (Nat × Option Nat) := [(60, some 49), (91, none), (92, none), (94, none)]
def f_X12_whenRings_60_2  : Nat → Int32 → Int32 → xG → Option (Int32 × xG)
  | 0, _, _, _ => none
  | n + 1, l1, l2, g =>
    if 60 < l2 then
      some ((-2), g)
    else
      (f_X12_ringerNow_60 g).bind fun w1 =>
      if w1.1 = l1 then
        some (l2, w1.2)
      else
        (f_X12_noonRings_60 w1.2).bind fun w2 =>
        f_X12_whenRings_60_2 n l1 (l2 + 1) w2
def f_X12_whenRings_60 (p1 : Int32) (g : xG) : Option (Int32 × xG) :=
  f_X12_whenRings_60_2 xN p1 0 g
set_option maxRecDepth 20000 in
theorem t_X12_whenRings_60_2 {k : xK} {S : List xSh} {out : Int32 × xG} (hS : xpf SH2 S) (A : xAt k mX12_whenRings.2.1 12 SH2 S) (hR : xRet k 0 0 S (fun r g' => r = some (.int out.1) ∧ g' = out.2) mX12_whenRings.2.2.2) (hrm : xrm k = { frames := 8, cells := 0, slots := 0, locals := 175 }) (hz : xhs k = xb0 k + S.length)   : ∀ (n : Nat) (l1 : Int32) (l2 : Int32) (g : xG), f_X12_whenRings_60_2 n l1 l2 g = some out → xW k S 0 0 2 [some (.ref 60), some (.int l1), some (.int l2)] [] g := by
  intro n
  induction n with
  | zero => intro l1 l2 g H; exact absurd H (by simp [f_X12_whenRings_60_2])
  | succ n ih =>
    intro l1 l2 g H
    have H : (if 60 < l2 then
  some ((-2), g)
else
  (f_X12_ringerNow_60 g).bind fun w1 =>
  if w1.1 = l1 then
    some (l2, w1.2)
  else
    (f_X12_noonRings_60 w1.2).bind fun w2 =>
    f_X12_whenRings_60_2 n l1 (l2 + 1) w2) = some out := H
    refine xb A [(.iload_n 2, 1, 0, 0, .null), (.bipush 60, 2, 0, 0, .int 60)] (pc' := 5) (ls' := [some (.ref 60), some (.int l1), some (.int l2)]) (st' := [.int 60, .int l2]) (g' := g) (by decide +kernel) rfl ?_
    refine xic_gt A (23) 28 8 (by decide +kernel) (fun h1 => ?_) (fun h1 => ?_)
    · rw [if_pos h1] at H
      refine xb A [(.bipush (-2), 2, 0, 0, .int (-2))] (pc' := 30) (ls' := [some (.ref 60), some (.int l1), some (.int l2)]) (st' := [.int (-2)]) (g' := g) (by decide +kernel) rfl ?_
      obtain rfl := Option.some.inj H
      exact xret_i A hR hz (by decide +kernel) rfl ⟨rfl, rfl⟩
    · rw [if_neg h1] at H
      refine xb A [(.aload_n 0, 1, 0, 0, .null)] (pc' := 9) (ls' := [some (.ref 60), some (.int l1), some (.int l2)]) (st' := [.ref 60]) (g' := g) (by decide +kernel) rfl ?_
      obtain ⟨w1, e1, H⟩ := xbind H
      refine xcallV A (ix := 388) (nxt := 12) hrm hz [] [] 1836 (c_X12_ringerNow_60 hS _ e1) ok_X12_ringerNow (by decide +kernel) rfl (fun r g1 hq => ?_)
      rw [hq.1, hq.2]
      show xW k S 0 0 12 [some (.ref 60), some (.int l1), some (.int l2)] [.int w1.1] w1.2
      refine xb A [(.iload_n 1, 1, 0, 0, .null)] (pc' := 13) (ls' := [some (.ref 60), some (.int l1), some (.int l2)]) (st' := [.int l1, .int w1.1]) (g' := w1.2) (by decide +kernel) rfl ?_
      refine xic_ne A (5) 18 16 (by decide +kernel) (fun h2 => ?_) (fun h2 => ?_)
      · rw [if_neg h2] at H
        refine xb A [(.aload_n 0, 1, 0, 0, .null)] (pc' := 19) (ls' := [some (.ref 60), some (.int l1), some (.int l2)]) (st' := [.ref 60]) (g' := w1.2) (by decide +kernel) rfl ?_
        obtain ⟨w2, e2, H⟩ := xbind H
        refine xcallV A (ix := 410) (nxt := 22) hrm hz [] [] 1832 (c_X12_noonRings_60 hS _ e2) ok_X12_noonRings (by decide +kernel) rfl (fun r g1 hq => ?_)
        rw [hq.1, hq.2]
        show xW k S 0 0 22 [some (.ref 60), some (.int l1), some (.int l2)] [] w2
        refine xb A [(.iinc 2 1, 3, 0, 0, .null)] (pc' := 25) (ls' := [some (.ref 60), some (.int l1), some (.int (l2 + 1))]) (st' := []) (g' := w2) (by decide +kernel) rfl ?_
        refine xgoto A (-23) 2 (by decide +kernel) ?_
        exact ih _ _ _ H
      · rw [if_pos h2] at H
        refine xb A [(.iload_n 2, 1, 0, 0, .null)] (pc' := 17) (ls' := [some (.ref 60), some (.int l1), some (.int l2)]) (st' := [.int l2]) (g' := w1.2) (by decide +kernel) rfl ?_
        obtain rfl := Option.some.inj H
        exact xret_i A hR hz (by decide +kernel) rfl ⟨rfl, rfl⟩
theorem fr_X12_whenRings_60_2   : ∀ (n : Nat) (l1 : Int32) (l2 : Int32) (g : xG) (out : Int32 × xG), f_X12_whenRings_60_2 n l1 l2 g = some out → xfrm fp_X12_whenRings_60 g (out.2) := by
  intro n
  induction n with
  | zero => intro l1 l2 g out H; exact absurd H (by simp [f_X12_whenRings_60_2])
  | succ n ih =>
    intro l1 l2 g out H
    have H : (if 60 < l2 then
  some ((-2), g)
else
  (f_X12_ringerNow_60 g).bind fun w1 =>
  if w1.1 = l1 then
    some (l2, w1.2)
  else
    (f_X12_noonRings_60 w1.2).bind fun w2 =>
    f_X12_whenRings_60_2 n l1 (l2 + 1) w2) = some out := H
    by_cases h1 : 60 < l2
    · rw [if_pos h1] at H
      obtain rfl := Option.some.inj H
      exact xfrm.rf
    · rw [if_neg h1] at H
      obtain ⟨w1, e1, H⟩ := xbind H
      have hf1 : xfrm fp_X12_whenRings_60 g (w1.2) := xfrm.tr xfrm.rf (fr_X12_ringerNow_60 _ e1) rfl
      by_cases h2 : w1.1 = l1
      · rw [if_pos h2] at H
        obtain rfl := Option.some.inj H
        exact hf1
      · rw [if_neg h2] at H
        obtain ⟨w2, e2, H⟩ := xbind H
        have hf2 : xfrm fp_X12_whenRings_60 g (w2) := xfrm.tr hf1 (fr_X12_noonRings_60 _ e2) rfl
        exact xfrm.tr hf2 (ih _ _ _ _ H) rfl
set_option maxRecDepth 20000 in
theorem c_X12_whenRings_60 {S : List xSh} (hS : xpf SH2 S) {g : xG} {p1 : Int32} (out : Int32 × xG) (H : f_X12_whenRings_60 p1 g = some out) : xC mX12_whenRings 8 175 0 0 S [.ref 60, .int p1] g S (fun r g' => r = some (.int out.1) ∧ g' = out.2) := by
  have H : (f_X12_whenRings_60_2 xN p1 0 g) = some out := H
  refine xC.of 12 SH2 [some (.ref 60), some (.int p1), none] hS (by decide +kernel) rfl (fun _ _ => Nat.le_of_ble_eq_true rfl) (fun _ _ => rfl) ?_
  intro k A hR hrm hz
  refine xb A [(.iconst 0, 1, 0, 0, .int 0), (.istore_n 2, 1, 0, 0, .null)] (pc' := 2) (ls' := [some (.ref 60), some (.int p1), some (.int 0)]) (st' := []) (g' := g) (by decide +kernel) rfl ?_
  exact t_X12_whenRings_60_2 hS A hR hrm hz _ _ _ _ H
theorem fr_X12_whenRings_60 {p1 : Int32} {g : xG} (out : Int32 × xG) (H : f_X12_whenRings_60 p1 g = some out) : xfrm fp_X12_whenRings_60 g (out.2) := by
  have H : (f_X12_whenRings_60_2 xN p1 0 g) = some out := H
  exact xfrm.tr xfrm.rf (fr_X12_whenRings_60_2 _ _ _ _ _ H) rfl
def fp_X12_when_60 : List (Nat × Option Nat) := [(60, some 49), (60, some 52), (60, some 53), (91, none), (92, none), (94, none), (95, none)]
def f_X12_when_60 (p1 : Int32) (g : xG) : Option (Int32 × xG) :=
  (f_X12_isPerson_60 p1 g).bind fun w1 =>
  if w1 = 0 then
    some ((-1), g)
  else
    (f_X12_copiesStill_60 g).bind fun w2 =>
    (f_X12_whenRings_60 p1 w2).bind fun w3 =>
    some (w3.1, w3.2)
set_option maxRecDepth 20000 in
theorem c_X12_when_60 {S : List xSh} (hS : xpf SH2 S) {g : xG} {p1 : Int32} (out : Int32 × xG) (H : f_X12_when_60 p1 g = some out) : xC mX12_when 9 197 0 0 S [.ref 60, .int p1] g S (fun r g' => r = some (.int out.1) ∧ g' = out.2) := by
  have H : ((f_X12_isPerson_60 p1 g).bind fun w1 =>
if w1 = 0 then
  some ((-1), g)
else
  (f_X12_copiesStill_60 g).bind fun w2 =>
  (f_X12_whenRings_60 p1 w2).bind fun w3 =>
  some (w3.1, w3.2)) = some out := H
  refine xC.of 12 SH2 [some (.ref 60), some (.int p1)] hS (by decide +kernel) rfl (fun _ _ => Nat.le_of_ble_eq_true rfl) (fun _ _ => rfl) ?_
  intro k A hR hrm hz
  refine xb A [(.aload_n 0, 1, 0, 0, .null), (.iload_n 1, 1, 0, 0, .null)] (pc' := 2) (ls' := [some (.ref 60), some (.int p1)]) (st' := [.int p1, .ref 60]) (g' := g) (by decide +kernel) rfl ?_
  obtain ⟨w1, e1, H⟩ := xbind H
  refine xcallV A (ix := 425) (nxt := 5) hrm hz [.int p1] [] 1739 (c_X12_isPerson_60 hS _ e1) ok_X12_isPerson (by decide +kernel) rfl (fun r g1 hq => ?_)
  rw [hq.1, hq.2]
  show xW k S 0 0 5 [some (.ref 60), some (.int p1)] [.int w1] g
  refine xif_ne A (5) 10 8 (by decide +kernel) (fun h1 => ?_) (fun h1 => ?_)
  · rw [if_neg h1] at H
    refine xb A [(.aload_n 0, 1, 0, 0, .null)] (pc' := 11) (ls' := [some (.ref 60), some (.int p1)]) (st' := [.ref 60]) (g' := g) (by decide +kernel) rfl ?_
    obtain ⟨w2, e2, H⟩ := xbind H
    refine xcallV A (ix := 446) (nxt := 14) hrm hz [] [] 1917 (c_X12_copiesStill_60 hS _ e2) ok_X12_copiesStill (by decide +kernel) rfl (fun r g1 hq => ?_)
    rw [hq.1, hq.2]
    show xW k S 0 0 14 [some (.ref 60), some (.int p1)] [] w2
    refine xb A [(.aload_n 0, 1, 0, 0, .null), (.iload_n 1, 1, 0, 0, .null)] (pc' := 16) (ls' := [some (.ref 60), some (.int p1)]) (st' := [.int p1, .ref 60]) (g' := w2) (by decide +kernel) rfl ?_
    obtain ⟨w3, e3, H⟩ := xbind H
    refine xcallV A (ix := 449) (nxt := 19) hrm hz [.int p1] [] 1921 (c_X12_whenRings_60 hS _ e3) ok_X12_whenRings (by decide +kernel) rfl (fun r g1 hq => ?_)
    rw [hq.1, hq.2]
    show xW k S 0 0 19 [some (.ref 60), some (.int p1)] [.int w3.1] w3.2
    obtain rfl := Option.some.inj H
    exact xret_i A hR hz (by decide +kernel) rfl ⟨rfl, rfl⟩
  · rw [if_pos h1] at H
    refine xb A [(.iconst (-1), 1, 0, 0, .int (-1))] (pc' := 9) (ls' := [some (.ref 60), some (.int p1)]) (st' := [.int (-1)]) (g' := g) (by decide +kernel) rfl ?_
    obtain rfl := Option.some.inj H
    exact xret_i A hR hz (by decide +kernel) rfl ⟨rfl, rfl⟩
theorem fr_X12_when_60 {p1 : Int32} {g : xG} (out : Int32 × xG) (H : f_X12_when_60 p1 g = some out) : xfrm fp_X12_when_60 g (out.2) := by
  have H : ((f_X12_isPerson_60 p1 g).bind fun w1 =>
if w1 = 0 then
  some ((-1), g)
else
  (f_X12_copiesStill_60 g).bind fun w2 =>
  (f_X12_whenRings_60 p1 w2).bind fun w3 =>
  some (w3.1, w3.2)) = some out := H
  obtain ⟨w1, e1, H⟩ := xbind H
  by_cases h1 : w1 = 0
  · rw [if_pos h1] at H
    obtain rfl := Option.some.inj H
    exact xfrm.rf
  · rw [if_neg h1] at H
    obtain ⟨w2, e2, H⟩ := xbind H
    have hf1 : xfrm fp_X12_when_60 g (w2) := xfrm.tr xfrm.rf (fr_X12_copiesStill_60 _ e2) rfl
    obtain ⟨w3, e3, H⟩ := xbind H
    have hf2 : xfrm fp_X12_when_60 g (w3.2) := xfrm.tr hf1 (fr_X12_whenRings_60 _ e3) rfl
    obtain rfl := Option.some.inj H
    exact hf2
def fp_X12_sendsIn_60 : List (Nat × Option Nat) := [(94, none)]
def f_X12_sendsIn_60 (p1 : Int32) (g : xG) : Option (xG) :=
  (f_X12_isThere_60 p1 g).bind fun w1 =>
  if w1 = 0 then
    xg (¬ ((g.1 60 18) < 0 ∨ 2 ≤ (g.1 60 18).toNatClampNeg)) (
      xg (¬ ((6 + p1) < 0 ∨ 40 ≤ (6 + p1).toNatClampNeg)) (
        some (xupd g.1 94 (6 + p1).toNatClampNeg (g.1 79 (g.1 60 18).toNatClampNeg), g.2)))
  else
    xg (¬ ((6 + p1) < 0 ∨ 40 ≤ (6 + p1).toNatClampNeg)) (
      some (xupd g.1 94 (6 + p1).toNatClampNeg (-2), g.2))
set_option maxRecDepth 20000 in
theorem c_X12_sendsIn_60 {S : List xSh} (hS : xpf SH2 S) {g : xG} {p1 : Int32} (out : xG) (H : f_X12_sendsIn_60 p1 g = some out) : xC mX12_sendsIn 1 21 0 0 S [.ref 60, .int p1] g S (fun r g' => r = none ∧ g' = out) := by
  have H : ((f_X12_isThere_60 p1 g).bind fun w1 =>
if w1 = 0 then
  xg (¬ ((g.1 60 18) < 0 ∨ 2 ≤ (g.1 60 18).toNatClampNeg)) (
    xg (¬ ((6 + p1) < 0 ∨ 40 ≤ (6 + p1).toNatClampNeg)) (
      some (xupd g.1 94 (6 + p1).toNatClampNeg (g.1 79 (g.1 60 18).toNatClampNeg), g.2)))
else
  xg (¬ ((6 + p1) < 0 ∨ 40 ≤ (6 + p1).toNatClampNeg)) (
    some (xupd g.1 94 (6 + p1).toNatClampNeg (-2), g.2))) = some out := H
  refine xC.of 12 SH2 [some (.ref 60), some (.int p1)] hS (by decide +kernel) rfl (fun _ _ => Nat.le_of_ble_eq_true rfl) (fun _ _ => rfl) ?_
  intro k A hR hrm hz
  refine xb A [(.aload_n 0, 1, 0, 0, .null), (.getfield 119, 3, 60, 51, .ref 94), (.bipush 6, 2, 0, 0, .int 6), (.iload_n 1, 1, 0, 0, .null), (.iadd, 1, 0, 0, .null), (.aload_n 0, 1, 0, 0, .null), (.iload_n 1, 1, 0, 0, .null)] (pc' := 10) (ls' := [some (.ref 60), some (.int p1)]) (st' := [.int p1, .ref 60, .int (6 + p1), .ref 94]) (g' := g) (by decide +kernel) rfl ?_
  obtain ⟨w1, e1, H⟩ := xbind H
  refine xcallV A (ix := 327) (nxt := 13) hrm hz [.int p1] [.int (6 + p1), .ref 94] 1767 (c_X12_isThere_60 hS _ e1) ok_X12_isThere (by decide +kernel) rfl (fun r g1 hq => ?_)
  rw [hq.1, hq.2]
  show xW k S 0 0 13 [some (.ref 60), some (.int p1)] [.int w1, .int (6 + p1), .ref 94] g
  refine xif_eq A (8) 21 16 (by decide +kernel) (fun h1 => ?_) (fun h1 => ?_)
  · rw [if_pos h1] at H
    refine xb A [(.aload_n 0, 1, 0, 0, .null), (.getfield 73, 3, 60, 32, .ref 79), (.aload_n 0, 1, 0, 0, .null), (.getfield 227, 3, 60, 18, .int 0)] (pc' := 29) (ls' := [some (.ref 60), some (.int p1)]) (st' := [.int (g.1 60 18), .ref 79, .int (6 + p1), .ref 94]) (g' := g) (by decide +kernel) rfl ?_
    obtain ⟨h2, H⟩ := xg_elim H
    refine xiald A (nxt := 30) (by decide +kernel) (hS _ _ sh_79) h2 ?_
    show xW k S 0 0 30 [some (.ref 60), some (.int p1)] [.int (g.1 79 (g.1 60 18).toNatClampNeg), .int (6 + p1), .ref 94] g
    obtain ⟨h3, H⟩ := xg_elim H
    refine xiast A (nxt := 31) (by decide +kernel) (hS _ _ sh_94) h3 ?_
    show xW k S 0 0 31 [some (.ref 60), some (.int p1)] [] (xupd g.1 94 (6 + p1).toNatClampNeg (g.1 79 (g.1 60 18).toNatClampNeg), g.2)
    obtain rfl := Option.some.inj H
    exact xret_v A hR hz (by decide +kernel) ⟨rfl, rfl⟩
  · rw [if_neg h1] at H
    refine xb A [(.bipush (-2), 2, 0, 0, .int (-2))] (pc' := 18) (ls' := [some (.ref 60), some (.int p1)]) (st' := [.int (-2), .int (6 + p1), .ref 94]) (g' := g) (by decide +kernel) rfl ?_
    refine xgoto A (12) 30 (by decide +kernel) ?_
    obtain ⟨h4, H⟩ := xg_elim H
    refine xiast A (nxt := 31) (by decide +kernel) (hS _ _ sh_94) h4 ?_
    show xW k S 0 0 31 [some (.ref 60), some (.int p1)] [] (xupd g.1 94 (6 + p1).toNatClampNeg (-2), g.2)
    obtain rfl := Option.some.inj H
    exact xret_v A hR hz (by decide +kernel) ⟨rfl, rfl⟩
theorem fr_X12_sendsIn_60 {p1 : Int32} {g : xG} (out : xG) (H : f_X12_sendsIn_60 p1 g = some out) : xfrm fp_X12_sendsIn_60 g (out) := by
  have H : ((f_X12_isThere_60 p1 g).bind fun w1 =>
if w1 = 0 then
  xg (¬ ((g.1 60 18) < 0 ∨ 2 ≤ (g.1 60 18).toNatClampNeg)) (
    xg (¬ ((6 + p1) < 0 ∨ 40 ≤ (6 + p1).toNatClampNeg)) (
      some (xupd g.1 94 (6 + p1).toNatClampNeg (g.1 79 (g.1 60 18).toNatClampNeg), g.2)))
else
  xg (¬ ((6 + p1) < 0 ∨ 40 ≤ (6 + p1).toNatClampNeg)) (
    some (xupd g.1 94 (6 + p1).toNatClampNeg (-2), g.2))) = some out := H
  obtain ⟨w1, e1, H⟩ := xbind H
  by_cases h1 : w1 = 0
  · rw [if_pos h1] at H
    obtain ⟨h2, H⟩ := xg_elim H
    obtain ⟨h3, H⟩ := xg_elim H
    have hf1 : xfrm fp_X12_sendsIn_60 g ((xupd g.1 94 (6 + p1).toNatClampNeg (g.1 79 (g.1 60 18).toNatClampNeg), g.2)) := xfrm.ua xfrm.rf rfl
    obtain rfl := Option.some.inj H
    exact hf1
  · rw [if_neg h1] at H
    obtain ⟨h4, H⟩ := xg_elim H
    have hf2 : xfrm fp_X12_sendsIn_60 g ((xupd g.1 94 (6 + p1).toNatClampNeg (-2), g.2)) := xfrm.ua xfrm.rf rfl
    obtain rfl := Option.some.inj H
    exact hf2
def fp_X12_soonest_60 : List (Nat × Option Nat) := [(60, some 49), (60, some 52), (60, some 53), (91, none), (92, none), (94, none), (95, none)]
def f_X12_soonest_60 (p1 : Int32) (g : xG) : Option (Int32 × xG) :=
  (f_X12_isPerson_60 p1 g).bind fun w1 =>
  if w1 = 0 then
    some ((-1), g)
  else
    (f_X12_copiesStill_60 g).bind fun w2 =>
    (f_X12_sendsIn_60 p1 w2).bind fun w3 =>
    (f_X12_whenRings_60 p1 w3).bind fun w4 =>
    some (w4.1, w4.2)
set_option maxRecDepth 20000 in
theorem c_X12_soonest_60 {S : List xSh} (hS : xpf SH2 S) {g : xG} {p1 : Int32} (out : Int32 × xG) (H : f_X12_soonest_60 p1 g = some out) : xC mX12_soonest 9 197 0 0 S [.ref 60, .int p1] g S (fun r g' => r = some (.int out.1) ∧ g' = out.2) := by
  have H : ((f_X12_isPerson_60 p1 g).bind fun w1 =>
if w1 = 0 then
  some ((-1), g)
else
  (f_X12_copiesStill_60 g).bind fun w2 =>
  (f_X12_sendsIn_60 p1 w2).bind fun w3 =>
  (f_X12_whenRings_60 p1 w3).bind fun w4 =>
  some (w4.1, w4.2)) = some out := H
  refine xC.of 12 SH2 [some (.ref 60), some (.int p1)] hS (by decide +kernel) rfl (fun _ _ => Nat.le_of_ble_eq_true rfl) (fun _ _ => rfl) ?_
  intro k A hR hrm hz
  refine xb A [(.aload_n 0, 1, 0, 0, .null), (.iload_n 1, 1, 0, 0, .null)] (pc' := 2) (ls' := [some (.ref 60), some (.int p1)]) (st' := [.int p1, .ref 60]) (g' := g) (by decide +kernel) rfl ?_
  obtain ⟨w1, e1, H⟩ := xbind H
  refine xcallV A (ix := 425) (nxt := 5) hrm hz [.int p1] [] 1739 (c_X12_isPerson_60 hS _ e1) ok_X12_isPerson (by decide +kernel) rfl (fun r g1 hq => ?_)
  rw [hq.1, hq.2]
  show xW k S 0 0 5 [some (.ref 60), some (.int p1)] [.int w1] g
  refine xif_ne A (5) 10 8 (by decide +kernel) (fun h1 => ?_) (fun h1 => ?_)
  · rw [if_neg h1] at H
    refine xb A [(.aload_n 0, 1, 0, 0, .null)] (pc' := 11) (ls' := [some (.ref 60), some (.int p1)]) (st' := [.ref 60]) (g' := g) (by decide +kernel) rfl ?_
    obtain ⟨w2, e2, H⟩ := xbind H
    refine xcallV A (ix := 446) (nxt := 14) hrm hz [] [] 1917 (c_X12_copiesStill_60 hS _ e2) ok_X12_copiesStill (by decide +kernel) rfl (fun r g1 hq => ?_)
    rw [hq.1, hq.2]
    show xW k S 0 0 14 [some (.ref 60), some (.int p1)] [] w2
    refine xb A [(.aload_n 0, 1, 0, 0, .null), (.iload_n 1, 1, 0, 0, .null)] (pc' := 16) (ls' := [some (.ref 60), some (.int p1)]) (st' := [.int p1, .ref 60]) (g' := w2) (by decide +kernel) rfl ?_
    obtain ⟨w3, e3, H⟩ := xbind H
    refine xcallV A (ix := 452) (nxt := 19) hrm hz [.int p1] [] 1929 (c_X12_sendsIn_60 hS _ e3) ok_X12_sendsIn (by decide +kernel) rfl (fun r g1 hq => ?_)
    rw [hq.1, hq.2]
    show xW k S 0 0 19 [some (.ref 60), some (.int p1)] [] w3
    refine xb A [(.aload_n 0, 1, 0, 0, .null), (.iload_n 1, 1, 0, 0, .null)] (pc' := 21) (ls' := [some (.ref 60), some (.int p1)]) (st' := [.int p1, .ref 60]) (g' := w3) (by decide +kernel) rfl ?_
    obtain ⟨w4, e4, H⟩ := xbind H
    refine xcallV A (ix := 449) (nxt := 24) hrm hz [.int p1] [] 1921 (c_X12_whenRings_60 hS _ e4) ok_X12_whenRings (by decide +kernel) rfl (fun r g1 hq => ?_)
    rw [hq.1, hq.2]
    show xW k S 0 0 24 [some (.ref 60), some (.int p1)] [.int w4.1] w4.2
    obtain rfl := Option.some.inj H
    exact xret_i A hR hz (by decide +kernel) rfl ⟨rfl, rfl⟩
  · rw [if_pos h1] at H
    refine xb A [(.iconst (-1), 1, 0, 0, .int (-1))] (pc' := 9) (ls' := [some (.ref 60), some (.int p1)]) (st' := [.int (-1)]) (g' := g) (by decide +kernel) rfl ?_
    obtain rfl := Option.some.inj H
    exact xret_i A hR hz (by decide +kernel) rfl ⟨rfl, rfl⟩
theorem fr_X12_soonest_60 {p1 : Int32} {g : xG} (out : Int32 × xG) (H : f_X12_soonest_60 p1 g = some out) : xfrm fp_X12_soonest_60 g (out.2) := by
  have H : ((f_X12_isPerson_60 p1 g).bind fun w1 =>
if w1 = 0 then
  some ((-1), g)
else
  (f_X12_copiesStill_60 g).bind fun w2 =>
  (f_X12_sendsIn_60 p1 w2).bind fun w3 =>
  (f_X12_whenRings_60 p1 w3).bind fun w4 =>
  some (w4.1, w4.2)) = some out := H
  obtain ⟨w1, e1, H⟩ := xbind H
  by_cases h1 : w1 = 0
  · rw [if_pos h1] at H
    obtain rfl := Option.some.inj H
    exact xfrm.rf
  · rw [if_neg h1] at H
    obtain ⟨w2, e2, H⟩ := xbind H
    have hf1 : xfrm fp_X12_soonest_60 g (w2) := xfrm.tr xfrm.rf (fr_X12_copiesStill_60 _ e2) rfl
    obtain ⟨w3, e3, H⟩ := xbind H
    have hf2 : xfrm fp_X12_soonest_60 g (w3) := xfrm.tr hf1 (fr_X12_sendsIn_60 _ e3) rfl
    obtain ⟨w4, e4, H⟩ := xbind H
    have hf3 : xfrm fp_X12_soonest_60 g (w4.2) := xfrm.tr hf2 (fr_X12_whenRings_60 _ e4) rfl
    obtain rfl := Option.some.inj H
    exact hf3
def fp_X12_often_60 : List (Nat × Option Nat) := [(60, some 49), (60, some 52), (60, some 53), (91, none), (92, none), (94, none), (95, none)]
def f_X12_often_60 (p1 : Int32) (p2 : Int32) (g : xG) : Option (Int32 × xG) :=
  (f_X12_isPerson_60 p1 g).bind fun w1 =>
  if w1 = 0 then
    some ((-1), g)
  else
    if (f_X12_isLong p2) = 0 then
      some ((-1), g)
    else
      (f_X12_copiesStill_60 g).bind fun w2 =>
      (f_X12_goes_60 p2 w2).bind fun w3 =>
      xg (¬ ((18 + p1) < 0 ∨ 40 ≤ (18 + p1).toNatClampNeg)) (
        xg (¬ ((18 + p1) < 0 ∨ 40 ≤ (18 + p1).toNatClampNeg)) (
          some ((w3.1 94 (18 + p1).toNatClampNeg) - (w3.1 93 (18 + p1).toNatClampNeg), w3)))
set_option maxRecDepth 20000 in
theorem c_X12_often_60 {S : List xSh} (hS : xpf SH2 S) {g : xG} {p1 : Int32} {p2 : Int32} (out : Int32 × xG) (H : f_X12_often_60 p1 p2 g = some out) : xC mX12_often 9 197 0 0 S [.ref 60, .int p1, .int p2] g S (fun r g' => r = some (.int out.1) ∧ g' = out.2) := by
  have H : ((f_X12_isPerson_60 p1 g).bind fun w1 =>
if w1 = 0 then
  some ((-1), g)
else
  if (f_X12_isLong p2) = 0 then
    some ((-1), g)
  else
    (f_X12_copiesStill_60 g).bind fun w2 =>
    (f_X12_goes_60 p2 w2).bind fun w3 =>
    xg (¬ ((18 + p1) < 0 ∨ 40 ≤ (18 + p1).toNatClampNeg)) (
      xg (¬ ((18 + p1) < 0 ∨ 40 ≤ (18 + p1).toNatClampNeg)) (
        some ((w3.1 94 (18 + p1).toNatClampNeg) - (w3.1 93 (18 + p1).toNatClampNeg), w3)))) = some out := H
  refine xC.of 12 SH2 [some (.ref 60), some (.int p1), some (.int p2)] hS (by decide +kernel) rfl (fun _ _ => Nat.le_of_ble_eq_true rfl) (fun _ _ => rfl) ?_
  intro k A hR hrm hz
  refine xb A [(.aload_n 0, 1, 0, 0, .null), (.iload_n 1, 1, 0, 0, .null)] (pc' := 2) (ls' := [some (.ref 60), some (.int p1), some (.int p2)]) (st' := [.int p1, .ref 60]) (g' := g) (by decide +kernel) rfl ?_
  obtain ⟨w1, e1, H⟩ := xbind H
  refine xcallV A (ix := 425) (nxt := 5) hrm hz [.int p1] [] 1739 (c_X12_isPerson_60 hS _ e1) ok_X12_isPerson (by decide +kernel) rfl (fun r g1 hq => ?_)
  rw [hq.1, hq.2]
  show xW k S 0 0 5 [some (.ref 60), some (.int p1), some (.int p2)] [.int w1] g
  refine xif_eq A (10) 15 8 (by decide +kernel) (fun h1 => ?_) (fun h1 => ?_)
  · rw [if_pos h1] at H
    refine xb A [(.iconst (-1), 1, 0, 0, .int (-1))] (pc' := 16) (ls' := [some (.ref 60), some (.int p1), some (.int p2)]) (st' := [.int (-1)]) (g' := g) (by decide +kernel) rfl ?_
    obtain rfl := Option.some.inj H
    exact xret_i A hR hz (by decide +kernel) rfl ⟨rfl, rfl⟩
  · rw [if_neg h1] at H
    refine xb A [(.iload_n 2, 1, 0, 0, .null)] (pc' := 9) (ls' := [some (.ref 60), some (.int p1), some (.int p2)]) (st' := [.int p2]) (g' := g) (by decide +kernel) rfl ?_
    refine xcallS A (ix := 434) (nxt := 12) hrm hz [.int p2] [] 1825 (c_X12_isLong hS _ rfl) ok_X12_isLong (by decide +kernel) rfl (fun r g1 hq => ?_)
    rw [hq.1, hq.2]
    show xW k S 0 0 12 [some (.ref 60), some (.int p1), some (.int p2)] [.int (f_X12_isLong p2)] g
    refine xif_ne A (5) 17 15 (by decide +kernel) (fun h2 => ?_) (fun h2 => ?_)
    · rw [if_neg h2] at H
      refine xb A [(.aload_n 0, 1, 0, 0, .null)] (pc' := 18) (ls' := [some (.ref 60), some (.int p1), some (.int p2)]) (st' := [.ref 60]) (g' := g) (by decide +kernel) rfl ?_
      obtain ⟨w2, e2, H⟩ := xbind H
      refine xcallV A (ix := 446) (nxt := 21) hrm hz [] [] 1917 (c_X12_copiesStill_60 hS _ e2) ok_X12_copiesStill (by decide +kernel) rfl (fun r g1 hq => ?_)
      rw [hq.1, hq.2]
      show xW k S 0 0 21 [some (.ref 60), some (.int p1), some (.int p2)] [] w2
      refine xb A [(.aload_n 0, 1, 0, 0, .null), (.iload_n 2, 1, 0, 0, .null)] (pc' := 23) (ls' := [some (.ref 60), some (.int p1), some (.int p2)]) (st' := [.int p2, .ref 60]) (g' := w2) (by decide +kernel) rfl ?_
      obtain ⟨w3, e3, H⟩ := xbind H
      refine xcallV A (ix := 437) (nxt := 26) hrm hz [.int p2] [] 1828 (c_X12_goes_60 hS _ e3) ok_X12_goes (by decide +kernel) rfl (fun r g1 hq => ?_)
      rw [hq.1, hq.2]
      show xW k S 0 0 26 [some (.ref 60), some (.int p1), some (.int p2)] [] w3
      refine xb A [(.aload_n 0, 1, 0, 0, .null), (.getfield 119, 3, 60, 51, .ref 94), (.bipush 18, 2, 0, 0, .int 18), (.iload_n 1, 1, 0, 0, .null), (.iadd, 1, 0, 0, .null)] (pc' := 34) (ls' := [some (.ref 60), some (.int p1), some (.int p2)]) (st' := [.int (18 + p1), .ref 94]) (g' := w3) (by decide +kernel) rfl ?_
      obtain ⟨h3, H⟩ := xg_elim H
      refine xiald A (nxt := 35) (by decide +kernel) (hS _ _ sh_94) h3 ?_
      show xW k S 0 0 35 [some (.ref 60), some (.int p1), some (.int p2)] [.int (w3.1 94 (18 + p1).toNatClampNeg)] w3
      refine xb A [(.aload_n 0, 1, 0, 0, .null), (.getfield 116, 3, 60, 50, .ref 93), (.bipush 18, 2, 0, 0, .int 18), (.iload_n 1, 1, 0, 0, .null), (.iadd, 1, 0, 0, .null)] (pc' := 43) (ls' := [some (.ref 60), some (.int p1), some (.int p2)]) (st' := [.int (18 + p1), .ref 93, .int (w3.1 94 (18 + p1).toNatClampNeg)]) (g' := w3) (by decide +kernel) rfl ?_
      obtain ⟨h4, H⟩ := xg_elim H
      refine xiald A (nxt := 44) (by decide +kernel) (hS _ _ sh_93) h4 ?_
      show xW k S 0 0 44 [some (.ref 60), some (.int p1), some (.int p2)] [.int (w3.1 93 (18 + p1).toNatClampNeg), .int (w3.1 94 (18 + p1).toNatClampNeg)] w3
      refine xb A [(.isub, 1, 0, 0, .null)] (pc' := 45) (ls' := [some (.ref 60), some (.int p1), some (.int p2)]) (st' := [.int ((w3.1 94 (18 + p1).toNatClampNeg) - (w3.1 93 (18 + p1).toNatClampNeg))]) (g' := w3) (by decide +kernel) rfl ?_
      obtain rfl := Option.some.inj H
      exact xret_i A hR hz (by decide +kernel) rfl ⟨rfl, rfl⟩
    · rw [if_pos h2] at H
      refine xb A [(.iconst (-1), 1, 0, 0, .int (-1))] (pc' := 16) (ls' := [some (.ref 60), some (.int p1), some (.int p2)]) (st' := [.int (-1)]) (g' := g) (by decide +kernel) rfl ?_
      obtain rfl := Option.some.inj H
      exact xret_i A hR hz (by decide +kernel) rfl ⟨rfl, rfl⟩
theorem fr_X12_often_60 {p1 : Int32} {p2 : Int32} {g : xG} (out : Int32 × xG) (H : f_X12_often_60 p1 p2 g = some out) : xfrm fp_X12_often_60 g (out.2) := by
  have H : ((f_X12_isPerson_60 p1 g).bind fun w1 =>
if w1 = 0 then
  some ((-1), g)
else
  if (f_X12_isLong p2) = 0 then
    some ((-1), g)
  else
    (f_X12_copiesStill_60 g).bind fun w2 =>
    (f_X12_goes_60 p2 w2).bind fun w3 =>
    xg (¬ ((18 + p1) < 0 ∨ 40 ≤ (18 + p1).toNatClampNeg)) (
      xg (¬ ((18 + p1) < 0 ∨ 40 ≤ (18 + p1).toNatClampNeg)) (
        some ((w3.1 94 (18 + p1).toNatClampNeg) - (w3.1 93 (18 + p1).toNatClampNeg), w3)))) = some out := H
  obtain ⟨w1, e1, H⟩ := xbind H
  by_cases h1 : w1 = 0
  · rw [if_pos h1] at H
    obtain rfl := Option.some.inj H
    exact xfrm.rf
  · rw [if_neg h1] at H
    by_cases h2 : (f_X12_isLong p2) = 0
    · rw [if_pos h2] at H
      obtain rfl := Option.some.inj H
      exact xfrm.rf
    · rw [if_neg h2] at H
      obtain ⟨w2, e2, H⟩ := xbind H
      have hf1 : xfrm fp_X12_often_60 g (w2) := xfrm.tr xfrm.rf (fr_X12_copiesStill_60 _ e2) rfl
      obtain ⟨w3, e3, H⟩ := xbind H
      have hf2 : xfrm fp_X12_often_60 g (w3) := xfrm.tr hf1 (fr_X12_goes_60 _ e3) rfl
      obtain ⟨h3, H⟩ := xg_elim H
      obtain ⟨h4, H⟩ := xg_elim H
      obtain rfl := Option.some.inj H
      exact hf2
