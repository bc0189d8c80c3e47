/-! methods, walked by program -/
def fp_X12_rings_60 : List (Nat × Option Nat) := [(60, some 49), (60, some 52), (60, some 53), (91, none), (92, none), (94, none), (95, none)]
def f_X12_rings_60 (p1 : Int32) (g : xG) : Option (Int32 × xG) :=
  if (f_X12_isLong p1) = 0 then
    some ((-1), g)
  else
    (f_X12_copiesStill_60 g).bind fun w1 =>
    (f_X12_goes_60 p1 w1).bind fun w2 =>
    (f_X12_ringerNow_60 w2).bind fun w3 =>
    some (w3.1, w3.2)
set_option maxRecDepth 20000 in
theorem c_X12_rings_60 {S : List xSh} (hS : xpf SH2 S) {g : xG} {p1 : Int32} (out : Int32 × xG) (H : f_X12_rings_60 p1 g = some out) : xC mX12_rings 9 197 0 0 S [.ref 60, .int p1] g S (fun r g' => r = some (.int out.1) ∧ g' = out.2) := by
  have H : (if (f_X12_isLong p1) = 0 then
  some ((-1), g)
else
  (f_X12_copiesStill_60 g).bind fun w1 =>
  (f_X12_goes_60 p1 w1).bind fun w2 =>
  (f_X12_ringerNow_60 w2).bind fun w3 =>
  some (w3.1, w3.2)) = some out := H
  refine xC.of 12 SH2 [some (.ref 60), some (.int p1)] hS (by decide +kernel) rfl (fun _ _ => Nat.le_of_ble_eq_true rfl) (fun _ _ => rfl) ?_
  intro k A hR hrm hz
  refine xb A [(.iload_n 1, 1, 0, 0, .null)] (pc' := 1) (ls' := [some (.ref 60), some (.int p1)]) (st' := [.int p1]) (g' := g) (by decide +kernel) rfl ?_
  refine xcallS A (ix := 434) (nxt := 4) hrm hz [.int p1] [] 1825 (c_X12_isLong hS _ rfl) ok_X12_isLong (by decide +kernel) rfl (fun r g1 hq => ?_)
  rw [hq.1, hq.2]
  show xW k S 0 0 4 [some (.ref 60), some (.int p1)] [.int (f_X12_isLong p1)] g
  refine xif_ne A (5) 9 7 (by decide +kernel) (fun h1 => ?_) (fun h1 => ?_)
  · rw [if_neg h1] at H
    refine xb A [(.aload_n 0, 1, 0, 0, .null)] (pc' := 10) (ls' := [some (.ref 60), some (.int p1)]) (st' := [.ref 60]) (g' := g) (by decide +kernel) rfl ?_
    obtain ⟨w1, e1, H⟩ := xbind H
    refine xcallV A (ix := 446) (nxt := 13) hrm hz [] [] 1917 (c_X12_copiesStill_60 hS _ e1) ok_X12_copiesStill (by decide +kernel) rfl (fun r g1 hq => ?_)
    rw [hq.1, hq.2]
    show xW k S 0 0 13 [some (.ref 60), some (.int p1)] [] w1
    refine xb A [(.aload_n 0, 1, 0, 0, .null), (.iload_n 1, 1, 0, 0, .null)] (pc' := 15) (ls' := [some (.ref 60), some (.int p1)]) (st' := [.int p1, .ref 60]) (g' := w1) (by decide +kernel) rfl ?_
    obtain ⟨w2, e2, H⟩ := xbind H
    refine xcallV A (ix := 437) (nxt := 18) hrm hz [.int p1] [] 1828 (c_X12_goes_60 hS _ e2) ok_X12_goes (by decide +kernel) rfl (fun r g1 hq => ?_)
    rw [hq.1, hq.2]
    show xW k S 0 0 18 [some (.ref 60), some (.int p1)] [] w2
    refine xb A [(.aload_n 0, 1, 0, 0, .null)] (pc' := 19) (ls' := [some (.ref 60), some (.int p1)]) (st' := [.ref 60]) (g' := w2) (by decide +kernel) rfl ?_
    obtain ⟨w3, e3, H⟩ := xbind H
    refine xcallV A (ix := 388) (nxt := 22) hrm hz [] [] 1836 (c_X12_ringerNow_60 hS _ e3) ok_X12_ringerNow (by decide +kernel) rfl (fun r g1 hq => ?_)
    rw [hq.1, hq.2]
    show xW k S 0 0 22 [some (.ref 60), some (.int p1)] [.int w3.1] w3.2
    obtain rfl := Option.some.inj H
    exact xret_i A hR hz (by decide +kernel) rfl ⟨rfl, rfl⟩
  · rw [if_pos h1] at H
    refine xb A [(.iconst (-1), 1, 0, 0, .int (-1))] (pc' := 8) (ls' := [some (.ref 60), some (.int p1)]) (st' := [.int (-1)]) (g' := g) (by decide +kernel) rfl ?_
    obtain rfl := Option.some.inj H
    exact xret_i A hR hz (by decide +kernel) rfl ⟨rfl, rfl⟩
theorem fr_X12_rings_60 {p1 : Int32} {g : xG} (out : Int32 × xG) (H : f_X12_rings_60 p1 g = some out) : xfrm fp_X12_rings_60 g (out.2) := by
  have H : (if (f_X12_isLong p1) = 0 then
  some ((-1), g)
else
  (f_X12_copiesStill_60 g).bind fun w1 =>
  (f_X12_goes_60 p1 w1).bind fun w2 =>
  (f_X12_ringerNow_60 w2).bind fun w3 =>
  some (w3.1, w3.2)) = some out := H
  by_cases h1 : (f_X12_isLong p1) = 0
  · rw [if_pos h1] at H
    obtain rfl := Option.some.inj H
    exact xfrm.rf
  · rw [if_neg h1] at H
    obtain ⟨w1, e1, H⟩ := xbind H
    have hf1 : xfrm fp_X12_rings_60 g (w1) := xfrm.tr xfrm.rf (fr_X12_copiesStill_60 _ e1) rfl
    obtain ⟨w2, e2, H⟩ := xbind H
    have hf2 : xfrm fp_X12_rings_60 g (w2) := xfrm.tr hf1 (fr_X12_goes_60 _ e2) rfl
    obtain ⟨w3, e3, H⟩ := xbind H
    have hf3 : xfrm fp_X12_rings_60 g (w3.2) := xfrm.tr hf2 (fr_X12_ringerNow_60 _ e3) rfl
    obtain rfl := Option.some.inj H
    exact hf3
def fp_X12_walks_60 : List (Nat × Option Nat) := [(60, some 52), (60, some 53), (94, none), (95, none)]
def f_X12_walks_60 (p1 : Int32) (g : xG) : Option (Int32 × xG) :=
  (f_X12_isPerson_60 p1 g).bind fun w1 =>
  if w1 = 0 then
    some ((-1), g)
  else
    (f_X12_copies_60 g).bind fun w2 =>
    (f_X12_roadOf_60 p1 w2).bind fun w3 =>
    some (w3, w2)
set_option maxRecDepth 20000 in
theorem c_X12_walks_60 {S : List xSh} (hS : xpf SH2 S) {g : xG} {p1 : Int32} (out : Int32 × xG) (H : f_X12_walks_60 p1 g = some out) : xC mX12_walks 3 70 0 0 S [.ref 60, .int p1] g S (fun r g' => r = some (.int out.1) ∧ g' = out.2) := by
  have H : ((f_X12_isPerson_60 p1 g).bind fun w1 =>
if w1 = 0 then
  some ((-1), g)
else
  (f_X12_copies_60 g).bind fun w2 =>
  (f_X12_roadOf_60 p1 w2).bind fun w3 =>
  some (w3, w2)) = some out := H
  refine xC.of 12 SH2 [some (.ref 60), some (.int p1)] hS (by decide +kernel) rfl (fun _ _ => Nat.le_of_ble_eq_true rfl) (fun _ _ => rfl) ?_
  intro k A hR hrm hz
  refine xb A [(.aload_n 0, 1, 0, 0, .null), (.iload_n 1, 1, 0, 0, .null)] (pc' := 2) (ls' := [some (.ref 60), some (.int p1)]) (st' := [.int p1, .ref 60]) (g' := g) (by decide +kernel) rfl ?_
  obtain ⟨w1, e1, H⟩ := xbind H
  refine xcallV A (ix := 425) (nxt := 5) hrm hz [.int p1] [] 1739 (c_X12_isPerson_60 hS _ e1) ok_X12_isPerson (by decide +kernel) rfl (fun r g1 hq => ?_)
  rw [hq.1, hq.2]
  show xW k S 0 0 5 [some (.ref 60), some (.int p1)] [.int w1] g
  refine xif_ne A (5) 10 8 (by decide +kernel) (fun h1 => ?_) (fun h1 => ?_)
  · rw [if_neg h1] at H
    refine xb A [(.aload_n 0, 1, 0, 0, .null)] (pc' := 11) (ls' := [some (.ref 60), some (.int p1)]) (st' := [.ref 60]) (g' := g) (by decide +kernel) rfl ?_
    obtain ⟨w2, e2, H⟩ := xbind H
    refine xcallV A (ix := 320) (nxt := 14) hrm hz [] [] 1699 (c_X12_copies_60 hS _ e2) ok_X12_copies (by decide +kernel) rfl (fun r g1 hq => ?_)
    rw [hq.1, hq.2]
    show xW k S 0 0 14 [some (.ref 60), some (.int p1)] [] w2
    refine xb A [(.aload_n 0, 1, 0, 0, .null), (.iload_n 1, 1, 0, 0, .null)] (pc' := 16) (ls' := [some (.ref 60), some (.int p1)]) (st' := [.int p1, .ref 60]) (g' := w2) (by decide +kernel) rfl ?_
    obtain ⟨w3, e3, H⟩ := xbind H
    refine xcallV A (ix := 385) (nxt := 19) hrm hz [.int p1] [] 1865 (c_X12_roadOf_60 hS _ e3) ok_X12_roadOf (by decide +kernel) rfl (fun r g1 hq => ?_)
    rw [hq.1, hq.2]
    show xW k S 0 0 19 [some (.ref 60), some (.int p1)] [.int w3] w2
    obtain rfl := Option.some.inj H
    exact xret_i A hR hz (by decide +kernel) rfl ⟨rfl, rfl⟩
  · rw [if_pos h1] at H
    refine xb A [(.iconst (-1), 1, 0, 0, .int (-1))] (pc' := 9) (ls' := [some (.ref 60), some (.int p1)]) (st' := [.int (-1)]) (g' := g) (by decide +kernel) rfl ?_
    obtain rfl := Option.some.inj H
    exact xret_i A hR hz (by decide +kernel) rfl ⟨rfl, rfl⟩
theorem fr_X12_walks_60 {p1 : Int32} {g : xG} (out : Int32 × xG) (H : f_X12_walks_60 p1 g = some out) : xfrm fp_X12_walks_60 g (out.2) := by
  have H : ((f_X12_isPerson_60 p1 g).bind fun w1 =>
if w1 = 0 then
  some ((-1), g)
else
  (f_X12_copies_60 g).bind fun w2 =>
  (f_X12_roadOf_60 p1 w2).bind fun w3 =>
  some (w3, w2)) = some out := H
  obtain ⟨w1, e1, H⟩ := xbind H
  by_cases h1 : w1 = 0
  · rw [if_pos h1] at H
    obtain rfl := Option.some.inj H
    exact xfrm.rf
  · rw [if_neg h1] at H
    obtain ⟨w2, e2, H⟩ := xbind H
    have hf1 : xfrm fp_X12_walks_60 g (w2) := xfrm.tr xfrm.rf (fr_X12_copies_60 _ e2) rfl
    obtain ⟨w3, e3, H⟩ := xbind H
    obtain rfl := Option.some.inj H
    exact hf1
def fp_X12_stranger_60 : List (Nat × Option Nat) := [(60, some 52), (60, some 53), (94, none), (95, none)]
def f_X12_stranger_60_20  : Nat → Int32 → Int32 → Int32 → xG → Option (Int32 × xG)
  | 0, _, _, _, _ => none
  | n + 1, l1, l2, l3, g =>
    xg (¬ ((g.1 60 18) < 0 ∨ 2 ≤ (g.1 60 18).toNatClampNeg)) (
      if (g.1 75 (g.1 60 18).toNatClampNeg) ≤ l3 then
        if l2 < 0 then
          some (l2, g)
        else
          if l1 = 0 then
            some (l2, g)
          else
            (f_X12_farOf_60 l2 g).bind fun w2 =>
            some (w2, g)
      else
        if l2 < 0 then
          f_X12_stranger_60_20 n l1 l3 (l3 + 1) g
        else
          (f_X12_farOf_60 l3 g).bind fun w3 =>
          (f_X12_farOf_60 l2 g).bind fun w4 =>
          if w3 ≤ w4 then
            f_X12_stranger_60_20 n l1 l2 (l3 + 1) g
          else
            f_X12_stranger_60_20 n l1 l3 (l3 + 1) g)
def f_X12_stranger_60 (p1 : Int32) (g : xG) : Option (Int32 × xG) :=
  if (f_X12_in p1 0 1) = 0 then
    some ((-1), g)
  else
    (f_X12_copies_60 g).bind fun w1 =>
    f_X12_stranger_60_20 xN p1 (-2) 0 w1
set_option maxRecDepth 20000 in
theorem t_X12_stranger_60_20 {k : xK} {S : List xSh} {out : Int32 × xG} (hS : xpf SH2 S) (A : xAt k mX12_stranger.2.1 12 SH2 S) (hR : xRet k 0 0 S (fun r g' => r = some (.int out.1) ∧ g' = out.2) mX12_stranger.2.2.2) (hrm : xrm k = { frames := 2, cells := 0, slots := 0, locals := 44 }) (hz : xhs k = xb0 k + S.length)   : ∀ (n : Nat) (l1 : Int32) (l2 : Int32) (l3 : Int32) (g : xG), f_X12_stranger_60_20 n l1 l2 l3 g = some out → xW k S 0 0 20 [some (.ref 60), some (.int l1), some (.int l2), some (.int l3)] [] g := by
  intro n
  induction n with
  | zero => intro l1 l2 l3 g H; exact absurd H (by simp [f_X12_stranger_60_20])
  | succ n ih =>
    intro l1 l2 l3 g H
    have H : (xg (¬ ((g.1 60 18) < 0 ∨ 2 ≤ (g.1 60 18).toNatClampNeg)) (
  if (g.1 75 (g.1 60 18).toNatClampNeg) ≤ l3 then
    if l2 < 0 then
      some (l2, g)
    else
      if l1 = 0 then
        some (l2, g)
      else
        (f_X12_farOf_60 l2 g).bind fun w2 =>
        some (w2, g)
  else
    if l2 < 0 then
      f_X12_stranger_60_20 n l1 l3 (l3 + 1) g
    else
      (f_X12_farOf_60 l3 g).bind fun w3 =>
      (f_X12_farOf_60 l2 g).bind fun w4 =>
      if w3 ≤ w4 then
        f_X12_stranger_60_20 n l1 l2 (l3 + 1) g
      else
        f_X12_stranger_60_20 n l1 l3 (l3 + 1) g)) = some out := H
    refine xb A [(.iload_n 3, 1, 0, 0, .null), (.aload_n 0, 1, 0, 0, .null), (.getfield 61, 3, 60, 28, .ref 75), (.aload_n 0, 1, 0, 0, .null), (.getfield 227, 3, 60, 18, .int 0)] (pc' := 29) (ls' := [some (.ref 60), some (.int l1), some (.int l2), some (.int l3)]) (st' := [.int (g.1 60 18), .ref 75, .int l3]) (g' := g) (by decide +kernel) rfl ?_
    obtain ⟨h2, H⟩ := xg_elim H
    refine xiald A (nxt := 30) (by decide +kernel) (hS _ _ sh_75) h2 ?_
    show xW k S 0 0 30 [some (.ref 60), some (.int l1), some (.int l2), some (.int l3)] [.int (g.1 75 (g.1 60 18).toNatClampNeg), .int l3] g
    refine xic_ge A (28) 58 33 (by decide +kernel) (fun h3 => ?_) (fun h3 => ?_)
    · rw [if_pos h3] at H
      refine xb A [(.iload_n 2, 1, 0, 0, .null)] (pc' := 59) (ls' := [some (.ref 60), some (.int l1), some (.int l2), some (.int l3)]) (st' := [.int l2]) (g' := g) (by decide +kernel) rfl ?_
      refine xif_lt A (7) 66 62 (by decide +kernel) (fun h4 => ?_) (fun h4 => ?_)
      · rw [if_pos h4] at H
        refine xb A [(.iload_n 2, 1, 0, 0, .null)] (pc' := 67) (ls' := [some (.ref 60), some (.int l1), some (.int l2), some (.int l3)]) (st' := [.int l2]) (g' := g) (by decide +kernel) rfl ?_
        refine xgoto A (8) 75 (by decide +kernel) ?_
        obtain rfl := Option.some.inj H
        exact xret_i A hR hz (by decide +kernel) rfl ⟨rfl, rfl⟩
      · rw [if_neg h4] at H
        refine xb A [(.iload_n 1, 1, 0, 0, .null)] (pc' := 63) (ls' := [some (.ref 60), some (.int l1), some (.int l2), some (.int l3)]) (st' := [.int l1]) (g' := g) (by decide +kernel) rfl ?_
        refine xif_ne A (7) 70 66 (by decide +kernel) (fun h5 => ?_) (fun h5 => ?_)
        · rw [if_neg h5] at H
          refine xb A [(.aload_n 0, 1, 0, 0, .null), (.iload_n 2, 1, 0, 0, .null)] (pc' := 72) (ls' := [some (.ref 60), some (.int l1), some (.int l2), some (.int l3)]) (st' := [.int l2, .ref 60]) (g' := g) (by decide +kernel) rfl ?_
          obtain ⟨w2, e2, H⟩ := xbind H
          refine xcallV A (ix := 354) (nxt := 75) hrm hz [.int l2] [] 1747 (c_X12_farOf_60 hS _ e2) ok_X12_farOf (by decide +kernel) rfl (fun r g1 hq => ?_)
          rw [hq.1, hq.2]
          show xW k S 0 0 75 [some (.ref 60), some (.int l1), some (.int l2), some (.int l3)] [.int w2] g
          obtain rfl := Option.some.inj H
          exact xret_i A hR hz (by decide +kernel) rfl ⟨rfl, rfl⟩
        · rw [if_pos h5] at H
          refine xb A [(.iload_n 2, 1, 0, 0, .null)] (pc' := 67) (ls' := [some (.ref 60), some (.int l1), some (.int l2), some (.int l3)]) (st' := [.int l2]) (g' := g) (by decide +kernel) rfl ?_
          refine xgoto A (8) 75 (by decide +kernel) ?_
          obtain rfl := Option.some.inj H
          exact xret_i A hR hz (by decide +kernel) rfl ⟨rfl, rfl⟩
    · rw [if_neg h3] at H
      refine xb A [(.iload_n 2, 1, 0, 0, .null)] (pc' := 34) (ls' := [some (.ref 60), some (.int l1), some (.int l2), some (.int l3)]) (st' := [.int l2]) (g' := g) (by decide +kernel) rfl ?_
      refine xif_lt A (16) 50 37 (by decide +kernel) (fun h6 => ?_) (fun h6 => ?_)
      · rw [if_pos h6] at H
        refine xb A [(.iload_n 3, 1, 0, 0, .null), (.istore_n 2, 1, 0, 0, .null), (.iinc 3 1, 3, 0, 0, .null)] (pc' := 55) (ls' := [some (.ref 60), some (.int l1), some (.int l3), some (.int (l3 + 1))]) (st' := []) (g' := g) (by decide +kernel) rfl ?_
        refine xgoto A (-35) 20 (by decide +kernel) ?_
        exact ih _ _ _ _ H
      · rw [if_neg h6] at H
        refine xb A [(.aload_n 0, 1, 0, 0, .null), (.iload_n 3, 1, 0, 0, .null)] (pc' := 39) (ls' := [some (.ref 60), some (.int l1), some (.int l2), some (.int l3)]) (st' := [.int l3, .ref 60]) (g' := g) (by decide +kernel) rfl ?_
        obtain ⟨w3, e3, H⟩ := xbind H
        refine xcallV A (ix := 354) (nxt := 42) hrm hz [.int l3] [] 1747 (c_X12_farOf_60 hS _ e3) ok_X12_farOf (by decide +kernel) rfl (fun r g1 hq => ?_)
        rw [hq.1, hq.2]
        show xW k S 0 0 42 [some (.ref 60), some (.int l1), some (.int l2), some (.int l3)] [.int w3] g
        refine xb A [(.aload_n 0, 1, 0, 0, .null), (.iload_n 2, 1, 0, 0, .null)] (pc' := 44) (ls' := [some (.ref 60), some (.int l1), some (.int l2), some (.int l3)]) (st' := [.int l2, .ref 60, .int w3]) (g' := g) (by decide +kernel) rfl ?_
        obtain ⟨w4, e4, H⟩ := xbind H
        refine xcallV A (ix := 354) (nxt := 47) hrm hz [.int l2] [.int w3] 1747 (c_X12_farOf_60 hS _ e4) ok_X12_farOf (by decide +kernel) rfl (fun r g1 hq => ?_)
        rw [hq.1, hq.2]
        show xW k S 0 0 47 [some (.ref 60), some (.int l1), some (.int l2), some (.int l3)] [.int w4, .int w3] g
        refine xic_le A (5) 52 50 (by decide +kernel) (fun h7 => ?_) (fun h7 => ?_)
        · rw [if_pos h7] at H
          refine xb A [(.iinc 3 1, 3, 0, 0, .null)] (pc' := 55) (ls' := [some (.ref 60), some (.int l1), some (.int l2), some (.int (l3 + 1))]) (st' := []) (g' := g) (by decide +kernel) rfl ?_
          refine xgoto A (-35) 20 (by decide +kernel) ?_
          exact ih _ _ _ _ H
        · rw [if_neg h7] at H
          refine xb A [(.iload_n 3, 1, 0, 0, .null), (.istore_n 2, 1, 0, 0, .null), (.iinc 3 1, 3, 0, 0, .null)] (pc' := 55) (ls' := [some (.ref 60), some (.int l1), some (.int l3), some (.int (l3 + 1))]) (st' := []) (g' := g) (by decide +kernel) rfl ?_
          refine xgoto A (-35) 20 (by decide +kernel) ?_
          exact ih _ _ _ _ H
theorem fr_X12_stranger_60_20   : ∀ (n : Nat) (l1 : Int32) (l2 : Int32) (l3 : Int32) (g : xG) (out : Int32 × xG), f_X12_stranger_60_20 n l1 l2 l3 g = some out → xfrm fp_X12_stranger_60 g (out.2) := by
  intro n
  induction n with
  | zero => intro l1 l2 l3 g out H; exact absurd H (by simp [f_X12_stranger_60_20])
  | succ n ih =>
    intro l1 l2 l3 g out H
    have H : (xg (¬ ((g.1 60 18) < 0 ∨ 2 ≤ (g.1 60 18).toNatClampNeg)) (
  if (g.1 75 (g.1 60 18).toNatClampNeg) ≤ l3 then
    if l2 < 0 then
      some (l2, g)
    else
      if l1 = 0 then
        some (l2, g)
      else
        (f_X12_farOf_60 l2 g).bind fun w2 =>
        some (w2, g)
  else
    if l2 < 0 then
      f_X12_stranger_60_20 n l1 l3 (l3 + 1) g
    else
      (f_X12_farOf_60 l3 g).bind fun w3 =>
      (f_X12_farOf_60 l2 g).bind fun w4 =>
      if w3 ≤ w4 then
        f_X12_stranger_60_20 n l1 l2 (l3 + 1) g
      else
        f_X12_stranger_60_20 n l1 l3 (l3 + 1) g)) = some out := H
    obtain ⟨h2, H⟩ := xg_elim H
    by_cases h3 : (g.1 75 (g.1 60 18).toNatClampNeg) ≤ l3
    · rw [if_pos h3] at H
      by_cases h4 : l2 < 0
      · rw [if_pos h4] at H
        obtain rfl := Option.some.inj H
        exact xfrm.rf
      · rw [if_neg h4] at H
        by_cases h5 : l1 = 0
        · rw [if_pos h5] at H
          obtain rfl := Option.some.inj H
          exact xfrm.rf
        · rw [if_neg h5] at H
          obtain ⟨w2, e2, H⟩ := xbind H
          obtain rfl := Option.some.inj H
          exact xfrm.rf
    · rw [if_neg h3] at H
      by_cases h6 : l2 < 0
      · rw [if_pos h6] at H
        exact xfrm.tr xfrm.rf (ih _ _ _ _ _ H) rfl
      · rw [if_neg h6] at H
        obtain ⟨w3, e3, H⟩ := xbind H
        obtain ⟨w4, e4, H⟩ := xbind H
        by_cases h7 : w3 ≤ w4
        · rw [if_pos h7] at H
          exact xfrm.tr xfrm.rf (ih _ _ _ _ _ H) rfl
        · rw [if_neg h7] at H
          exact xfrm.tr xfrm.rf (ih _ _ _ _ _ H) rfl
set_option maxRecDepth 20000 in
theorem c_X12_stranger_60 {S : List xSh} (hS : xpf SH2 S) {g : xG} {p1 : Int32} (out : Int32 × xG) (H : f_X12_stranger_60 p1 g = some out) : xC mX12_stranger 2 44 0 0 S [.ref 60, .int p1] g S (fun r g' => r = some (.int out.1) ∧ g' = out.2) := by
  have H : (if (f_X12_in p1 0 1) = 0 then
  some ((-1), g)
else
  (f_X12_copies_60 g).bind fun w1 =>
  f_X12_stranger_60_20 xN p1 (-2) 0 w1) = some out := H
  refine xC.of 12 SH2 [some (.ref 60), some (.int p1), none, none] hS (by decide +kernel) rfl (fun _ _ => Nat.le_of_ble_eq_true rfl) (fun _ _ => rfl) ?_
  intro k A hR hrm hz
  refine xb A [(.iload_n 1, 1, 0, 0, .null), (.iconst 0, 1, 0, 0, .int 0), (.iconst 1, 1, 0, 0, .int 1)] (pc' := 3) (ls' := [some (.ref 60), some (.int p1), none, none]) (st' := [.int 1, .int 0, .int p1]) (g' := g) (by decide +kernel) rfl ?_
  refine xcallS A (ix := 307) (nxt := 6) hrm hz [.int p1, .int 0, .int 1] [] 1696 (c_X12_in hS _ rfl) ok_X12_in (by decide +kernel) rfl (fun r g1 hq => ?_)
  rw [hq.1, hq.2]
  show xW k S 0 0 6 [some (.ref 60), some (.int p1), none, none] [.int (f_X12_in p1 0 1)] g
  refine xif_ne A (5) 11 9 (by decide +kernel) (fun h1 => ?_) (fun h1 => ?_)
  · rw [if_neg h1] at H
    refine xb A [(.aload_n 0, 1, 0, 0, .null)] (pc' := 12) (ls' := [some (.ref 60), some (.int p1), none, none]) (st' := [.ref 60]) (g' := g) (by decide +kernel) rfl ?_
    obtain ⟨w1, e1, H⟩ := xbind H
    refine xcallV A (ix := 320) (nxt := 15) hrm hz [] [] 1699 (c_X12_copies_60 hS _ e1) ok_X12_copies (by decide +kernel) rfl (fun r g1 hq => ?_)
    rw [hq.1, hq.2]
    show xW k S 0 0 15 [some (.ref 60), some (.int p1), none, none] [] w1
    refine xb A [(.bipush (-2), 2, 0, 0, .int (-2)), (.istore_n 2, 1, 0, 0, .null), (.iconst 0, 1, 0, 0, .int 0), (.istore_n 3, 1, 0, 0, .null)] (pc' := 20) (ls' := [some (.ref 60), some (.int p1), some (.int (-2)), some (.int 0)]) (st' := []) (g' := w1) (by decide +kernel) rfl ?_
    exact t_X12_stranger_60_20 hS A hR hrm hz _ _ _ _ _ H
  · rw [if_pos h1] at H
    refine xb A [(.iconst (-1), 1, 0, 0, .int (-1))] (pc' := 10) (ls' := [some (.ref 60), some (.int p1), none, none]) (st' := [.int (-1)]) (g' := g) (by decide +kernel) rfl ?_
    obtain rfl := Option.some.inj H
    exact xret_i A hR hz (by decide +kernel) rfl ⟨rfl, rfl⟩
theorem fr_X12_stranger_60 {p1 : Int32} {g : xG} (out : Int32 × xG) (H : f_X12_stranger_60 p1 g = some out) : xfrm fp_X12_stranger_60 g (out.2) := by
  have H : (if (f_X12_in p1 0 1) = 0 then
  some ((-1), g)
else
  (f_X12_copies_60 g).bind fun w1 =>
  f_X12_stranger_60_20 xN p1 (-2) 0 w1) = some out := H
  by_cases h1 : (f_X12_in p1 0 1) = 0
  · rw [if_pos h1] at H
    obtain rfl := Option.some.inj H
    exact xfrm.rf
  · rw [if_neg h1] at H
    obtain ⟨w1, e1, H⟩ := xbind H
    have hf1 : xfrm fp_X12_stranger_60 g (w1) := xfrm.tr xfrm.rf (fr_X12_copies_60 _ e1) rfl
    exact xfrm.tr hf1 (fr_X12_stranger_60_20 _ _ _ _ _ _ H) rfl
def fp_X12_longest_60 : List (Nat × Option Nat) := [(60, some 52), (60, some 53), (94, none), (95, none), (97, none)]
def f_X12_longest_60_129 (k64 : Int32 → Int32 → Int32 → xG → Option (Int32 × xG)) : Nat → Int32 → Int32 → Int32 → Int32 → Int32 → xG → Option (Int32 × xG)
  | 0, _, _, _, _, _, _ => none
  | n + 1, l2, l3, l4, l5, l6, g =>
    xg (¬ ((g.1 60 18) < 0 ∨ 2 ≤ (g.1 60 18).toNatClampNeg)) (
      if (g.1 71 (g.1 60 18).toNatClampNeg) ≤ l6 then
        k64 l2 l3 (l4 + 1) g
      else
        (f_X12_isOpen_60 l6 g).bind fun w4 =>
        if w4 = 0 then
          f_X12_longest_60_129 k64 n l2 l3 l4 l5 (l6 + 1) g
        else
          (f_X12_isEnd_60 l6 l5 g).bind fun w5 =>
          if w5 = 0 then
            f_X12_longest_60_129 k64 n l2 l3 l4 l5 (l6 + 1) g
          else
            xg (¬ (7 : Int32) = 0) (
              (f_X12_otherEnd_60 l6 l5 g).bind fun w6 =>
              if (((l4 / 7) >>> (w6 &&& 31)) &&& 1) = 1 then
                f_X12_longest_60_129 k64 n l2 l3 l4 l5 (l6 + 1) g
              else
                xg (¬ (7 : Int32) = 0) (
                  (f_X12_otherEnd_60 l6 l5 g).bind fun w7 =>
                  (f_X12_otherEnd_60 l6 l5 g).bind fun w8 =>
                  xg (¬ (l4 < 0 ∨ 896 ≤ l4.toNatClampNeg)) (
                    xg (¬ (((10 * (g.1 60 18)) + l6) < 0 ∨ 20 ≤ ((10 * (g.1 60 18)) + l6).toNatClampNeg)) (
                      xg (¬ (((7 * ((l4 / 7) ||| ((1 : Int32) <<< (w7 &&& 31)))) + w8) < 0 ∨ 896 ≤ ((7 * ((l4 / 7) ||| ((1 : Int32) <<< (w7 &&& 31)))) + w8).toNatClampNeg)) (
                        if ((g.1 97 l4.toNatClampNeg) + (g.1 74 ((10 * (g.1 60 18)) + l6).toNatClampNeg)) ≤ (g.1 97 ((7 * ((l4 / 7) ||| ((1 : Int32) <<< (w7 &&& 31)))) + w8).toNatClampNeg) then
                          f_X12_longest_60_129 k64 n l2 l3 l4 l5 (l6 + 1) g
                        else
                          xg (¬ (l4 < 0 ∨ 896 ≤ l4.toNatClampNeg)) (
                            xg (¬ (((10 * (g.1 60 18)) + l6) < 0 ∨ 20 ≤ ((10 * (g.1 60 18)) + l6).toNatClampNeg)) (
                              xg (¬ (((7 * ((l4 / 7) ||| ((1 : Int32) <<< (w7 &&& 31)))) + w8) < 0 ∨ 896 ≤ ((7 * ((l4 / 7) ||| ((1 : Int32) <<< (w7 &&& 31)))) + w8).toNatClampNeg)) (
                                f_X12_longest_60_129 k64 n l2 l3 l4 l5 (l6 + 1) (xupd g.1 97 ((7 * ((l4 / 7) ||| ((1 : Int32) <<< (w7 &&& 31)))) + w8).toNatClampNeg ((g.1 97 l4.toNatClampNeg) + (g.1 74 ((10 * (g.1 60 18)) + l6).toNatClampNeg)), g.2))))))))))
def f_X12_longest_60_64  : Nat → Int32 → Int32 → Int32 → xG → Option (Int32 × xG)
  | 0, _, _, _, _ => none
  | n + 1, l2, l3, l4, g =>
    if 896 ≤ l4 then
      some (l3, g)
    else
      xg (¬ (l4 < 0 ∨ 896 ≤ l4.toNatClampNeg)) (
        if 0 ≤ (g.1 97 l4.toNatClampNeg) then
          xg (¬ (7 : Int32) = 0) (
            if (l4 - l4 / 7 * 7) = l2 then
              xg (¬ (l4 < 0 ∨ 896 ≤ l4.toNatClampNeg)) (
                if (g.1 97 l4.toNatClampNeg) ≤ l3 then
                  if (l4 - l4 / 7 * 7) = l2 then
                    f_X12_longest_60_64 n l2 l3 (l4 + 1) g
                  else
                    f_X12_longest_60_129 (f_X12_longest_60_64 n) xN l2 l3 l4 (l4 - l4 / 7 * 7) 0 g
                else
                  xg (¬ (l4 < 0 ∨ 896 ≤ l4.toNatClampNeg)) (
                    if (l4 - l4 / 7 * 7) = l2 then
                      f_X12_longest_60_64 n l2 (g.1 97 l4.toNatClampNeg) (l4 + 1) g
                    else
                      f_X12_longest_60_129 (f_X12_longest_60_64 n) xN l2 (g.1 97 l4.toNatClampNeg) l4 (l4 - l4 / 7 * 7) 0 g))
            else
              if (l4 - l4 / 7 * 7) = l2 then
                f_X12_longest_60_64 n l2 l3 (l4 + 1) g
              else
                f_X12_longest_60_129 (f_X12_longest_60_64 n) xN l2 l3 l4 (l4 - l4 / 7 * 7) 0 g)
        else
          f_X12_longest_60_64 n l2 l3 (l4 + 1) g)
def f_X12_longest_60_24  : Nat → Int32 → Int32 → Int32 → xG → Option (Int32 × xG)
  | 0, _, _, _, _ => none
  | n + 1, l1, l2, l3, g =>
    if 896 ≤ l3 then
      xg (¬ (((7 * ((1 : Int32) <<< (l1 &&& 31))) + l1) < 0 ∨ 896 ≤ ((7 * ((1 : Int32) <<< (l1 &&& 31))) + l1).toNatClampNeg)) (
        f_X12_longest_60_64 xN l2 (-2) 0 (xupd g.1 97 ((7 * ((1 : Int32) <<< (l1 &&& 31))) + l1).toNatClampNeg 0, g.2))
    else
      xg (¬ (l3 < 0 ∨ 896 ≤ l3.toNatClampNeg)) (
        f_X12_longest_60_24 n l1 l2 (l3 + 1) (xupd g.1 97 l3.toNatClampNeg (-1), g.2))
def f_X12_longest_60 (p1 : Int32) (p2 : Int32) (g : xG) : Option (Int32 × xG) :=
  (f_X12_isTown_60 p1 g).bind fun w1 =>
  if w1 = 0 then
    some ((-1), g)
  else
    (f_X12_isTown_60 p2 g).bind fun w2 =>
    if w2 = 0 then
      some ((-1), g)
    else
      (f_X12_copies_60 g).bind fun w3 =>
      f_X12_longest_60_24 xN p1 p2 0 w3
set_option maxRecDepth 20000 in
theorem t_X12_longest_60_129 {k : xK} {S : List xSh} {out : Int32 × xG} (hS : xpf SH2 S) (A : xAt k mX12_longest.2.1 12 SH2 S) (hR : xRet k 0 0 S (fun r g' => r = some (.int out.1) ∧ g' = out.2) mX12_longest.2.2.2) (hrm : xrm k = { frames := 2, cells := 0, slots := 0, locals := 44 }) (hz : xhs k = xb0 k + S.length) {k64 : Int32 → Int32 → Int32 → xG → Option (Int32 × xG)} (hk64 : ∀ (l2 : Int32) (l3 : Int32) (l4 : Int32) (g : xG), k64 l2 l3 l4 g = some out → xW k S 0 0 64 [some (.ref 60), none, some (.int l2), some (.int l3), some (.int l4), none, none, none] [] g) : ∀ (n : Nat) (l2 : Int32) (l3 : Int32) (l4 : Int32) (l5 : Int32) (l6 : Int32) (g : xG), f_X12_longest_60_129 k64 n l2 l3 l4 l5 l6 g = some out → xW k S 0 0 129 [some (.ref 60), none, some (.int l2), some (.int l3), some (.int l4), some (.int l5), some (.int l6), none] [] g := by
  intro n
  induction n with
  | zero => intro l2 l3 l4 l5 l6 g H; exact absurd H (by simp [f_X12_longest_60_129])
  | succ n ih =>
    intro l2 l3 l4 l5 l6 g H
    have H : (xg (¬ ((g.1 60 18) < 0 ∨ 2 ≤ (g.1 60 18).toNatClampNeg)) (
  if (g.1 71 (g.1 60 18).toNatClampNeg) ≤ l6 then
    k64 l2 l3 (l4 + 1) g
  else
    (f_X12_isOpen_60 l6 g).bind fun w4 =>
    if w4 = 0 then
      f_X12_longest_60_129 k64 n l2 l3 l4 l5 (l6 + 1) g
    else
      (f_X12_isEnd_60 l6 l5 g).bind fun w5 =>
      if w5 = 0 then
        f_X12_longest_60_129 k64 n l2 l3 l4 l5 (l6 + 1) g
      else
        xg (¬ (7 : Int32) = 0) (
          (f_X12_otherEnd_60 l6 l5 g).bind fun w6 =>
          if (((l4 / 7) >>> (w6 &&& 31)) &&& 1) = 1 then
            f_X12_longest_60_129 k64 n l2 l3 l4 l5 (l6 + 1) g
          else
            xg (¬ (7 : Int32) = 0) (
              (f_X12_otherEnd_60 l6 l5 g).bind fun w7 =>
              (f_X12_otherEnd_60 l6 l5 g).bind fun w8 =>
              xg (¬ (l4 < 0 ∨ 896 ≤ l4.toNatClampNeg)) (
                xg (¬ (((10 * (g.1 60 18)) + l6) < 0 ∨ 20 ≤ ((10 * (g.1 60 18)) + l6).toNatClampNeg)) (
                  xg (¬ (((7 * ((l4 / 7) ||| ((1 : Int32) <<< (w7 &&& 31)))) + w8) < 0 ∨ 896 ≤ ((7 * ((l4 / 7) ||| ((1 : Int32) <<< (w7 &&& 31)))) + w8).toNatClampNeg)) (
                    if ((g.1 97 l4.toNatClampNeg) + (g.1 74 ((10 * (g.1 60 18)) + l6).toNatClampNeg)) ≤ (g.1 97 ((7 * ((l4 / 7) ||| ((1 : Int32) <<< (w7 &&& 31)))) + w8).toNatClampNeg) then
                      f_X12_longest_60_129 k64 n l2 l3 l4 l5 (l6 + 1) g
                    else
                      xg (¬ (l4 < 0 ∨ 896 ≤ l4.toNatClampNeg)) (
                        xg (¬ (((10 * (g.1 60 18)) + l6) < 0 ∨ 20 ≤ ((10 * (g.1 60 18)) + l6).toNatClampNeg)) (
                          xg (¬ (((7 * ((l4 / 7) ||| ((1 : Int32) <<< (w7 &&& 31)))) + w8) < 0 ∨ 896 ≤ ((7 * ((l4 / 7) ||| ((1 : Int32) <<< (w7 &&& 31)))) + w8).toNatClampNeg)) (
                            f_X12_longest_60_129 k64 n l2 l3 l4 l5 (l6 + 1) (xupd g.1 97 ((7 * ((l4 / 7) ||| ((1 : Int32) <<< (w7 &&& 31)))) + w8).toNatClampNeg ((g.1 97 l4.toNatClampNeg) + (g.1 74 ((10 * (g.1 60 18)) + l6).toNatClampNeg)), g.2))))))))))) = some out := H
    refine xb A [(.iload 6, 2, 0, 0, .null), (.aload_n 0, 1, 0, 0, .null), (.getfield 49, 3, 60, 24, .ref 71), (.aload_n 0, 1, 0, 0, .null), (.getfield 227, 3, 60, 18, .int 0)] (pc' := 139) (ls' := [some (.ref 60), none, some (.int l2), some (.int l3), some (.int l4), some (.int l5), some (.int l6), none]) (st' := [.int (g.1 60 18), .ref 71, .int l6]) (g' := g) (by decide +kernel) rfl ?_
    obtain ⟨h11, H⟩ := xg_elim H
    refine xiald A (nxt := 140) (by decide +kernel) (hS _ _ sh_71) h11 ?_
    show xW k S 0 0 140 [some (.ref 60), none, some (.int l2), some (.int l3), some (.int l4), some (.int l5), some (.int l6), none] [.int (g.1 71 (g.1 60 18).toNatClampNeg), .int l6] g
    refine xic_ge A (145) 285 143 (by decide +kernel) (fun h12 => ?_) (fun h12 => ?_)
    · rw [if_pos h12] at H
      refine xb A [(.iinc 4 1, 3, 0, 0, .null)] (pc' := 288) (ls' := [some (.ref 60), none, some (.int l2), some (.int l3), some (.int (l4 + 1)), some (.int l5), some (.int l6), none]) (st' := []) (g' := g) (by decide +kernel) rfl ?_
      refine xgoto A (-224) 64 (by decide +kernel) ?_
      refine xweak (ls' := [some (.ref 60), none, some (.int l2), some (.int l3), some (.int (l4 + 1)), none, none, none]) (by exact ⟨rfl, ⟨rfl, ⟨rfl, ⟨rfl, trivial⟩⟩⟩⟩) ?_
      exact hk64 _ _ _ _ H
    · rw [if_neg h12] at H
      refine xb A [(.aload_n 0, 1, 0, 0, .null), (.iload 6, 2, 0, 0, .null)] (pc' := 146) (ls' := [some (.ref 60), none, some (.int l2), some (.int l3), some (.int l4), some (.int l5), some (.int l6), none]) (st' := [.int l6, .ref 60]) (g' := g) (by decide +kernel) rfl ?_
      obtain ⟨w4, e4, H⟩ := xbind H
      refine xcallV A (ix := 372) (nxt := 149) hrm hz [.int l6] [] 1711 (c_X12_isOpen_60 hS _ e4) ok_X12_isOpen (by decide +kernel) rfl (fun r g1 hq => ?_)
      rw [hq.1, hq.2]
      show xW k S 0 0 149 [some (.ref 60), none, some (.int l2), some (.int l3), some (.int l4), some (.int l5), some (.int l6), none] [.int w4] g
      refine xif_eq A (130) 279 152 (by decide +kernel) (fun h13 => ?_) (fun h13 => ?_)
      · rw [if_pos h13] at H
        refine xb A [(.iinc 6 1, 3, 0, 0, .null)] (pc' := 282) (ls' := [some (.ref 60), none, some (.int l2), some (.int l3), some (.int l4), some (.int l5), some (.int (l6 + 1)), none]) (st' := []) (g' := g) (by decide +kernel) rfl ?_
        refine xgoto A (-153) 129 (by decide +kernel) ?_
        exact ih _ _ _ _ _ _ H
      · rw [if_neg h13] at H
        refine xb A [(.aload_n 0, 1, 0, 0, .null), (.iload 6, 2, 0, 0, .null), (.iload 5, 2, 0, 0, .null)] (pc' := 157) (ls' := [some (.ref 60), none, some (.int l2), some (.int l3), some (.int l4), some (.int l5), some (.int l6), none]) (st' := [.int l5, .int l6, .ref 60]) (g' := g) (by decide +kernel) rfl ?_
        obtain ⟨w5, e5, H⟩ := xbind H
        refine xcallV A (ix := 375) (nxt := 160) hrm hz [.int l6, .int l5] [] 1715 (c_X12_isEnd_60 hS _ e5) ok_X12_isEnd (by decide +kernel) rfl (fun r g1 hq => ?_)
        rw [hq.1, hq.2]
        show xW k S 0 0 160 [some (.ref 60), none, some (.int l2), some (.int l3), some (.int l4), some (.int l5), some (.int l6), none] [.int w5] g
        refine xif_eq A (119) 279 163 (by decide +kernel) (fun h14 => ?_) (fun h14 => ?_)
        · rw [if_pos h14] at H
          refine xb A [(.iinc 6 1, 3, 0, 0, .null)] (pc' := 282) (ls' := [some (.ref 60), none, some (.int l2), some (.int l3), some (.int l4), some (.int l5), some (.int (l6 + 1)), none]) (st' := []) (g' := g) (by decide +kernel) rfl ?_
          refine xgoto A (-153) 129 (by decide +kernel) ?_
          exact ih _ _ _ _ _ _ H
        · rw [if_neg h14] at H
          refine xb A [(.iload 4, 2, 0, 0, .null), (.bipush 7, 2, 0, 0, .int 7)] (pc' := 167) (ls' := [some (.ref 60), none, some (.int l2), some (.int l3), some (.int l4), some (.int l5), some (.int l6), none]) (st' := [.int 7, .int l4]) (g' := g) (by decide +kernel) rfl ?_
          obtain ⟨h15, H⟩ := xg_elim H
          refine xidiv A (nxt := 168) (by decide +kernel) h15 ?_
          refine xb A [(.aload_n 0, 1, 0, 0, .null), (.iload 6, 2, 0, 0, .null), (.iload 5, 2, 0, 0, .null)] (pc' := 173) (ls' := [some (.ref 60), none, some (.int l2), some (.int l3), some (.int l4), some (.int l5), some (.int l6), none]) (st' := [.int l5, .int l6, .ref 60, .int (l4 / 7)]) (g' := g) (by decide +kernel) rfl ?_
          obtain ⟨w6, e6, H⟩ := xbind H
          refine xcallV A (ix := 379) (nxt := 176) hrm hz [.int l6, .int l5] [.int (l4 / 7)] 1873 (c_X12_otherEnd_60 hS _ e6) ok_X12_otherEnd (by decide +kernel) rfl (fun r g1 hq => ?_)
          rw [hq.1, hq.2]
          show xW k S 0 0 176 [some (.ref 60), none, some (.int l2), some (.int l3), some (.int l4), some (.int l5), some (.int l6), none] [.int w6, .int (l4 / 7)] g
          refine xb A [(.ishr, 1, 0, 0, .null), (.iconst 1, 1, 0, 0, .int 1), (.iand, 1, 0, 0, .null), (.iconst 1, 1, 0, 0, .int 1)] (pc' := 180) (ls' := [some (.ref 60), none, some (.int l2), some (.int l3), some (.int l4), some (.int l5), some (.int l6), none]) (st' := [.int 1, .int (((l4 / 7) >>> (w6 &&& 31)) &&& 1)]) (g' := g) (by decide +kernel) rfl ?_
          refine xic_ne A (6) 186 183 (by decide +kernel) (fun h16 => ?_) (fun h16 => ?_)
          · rw [if_neg h16] at H
            refine xb A [(.bipush 7, 2, 0, 0, .int 7), (.iload 4, 2, 0, 0, .null), (.bipush 7, 2, 0, 0, .int 7)] (pc' := 192) (ls' := [some (.ref 60), none, some (.int l2), some (.int l3), some (.int l4), some (.int l5), some (.int l6), none]) (st' := [.int 7, .int l4, .int 7]) (g' := g) (by decide +kernel) rfl ?_
            obtain ⟨h17, H⟩ := xg_elim H
            refine xidiv A (nxt := 193) (by decide +kernel) h17 ?_
            refine xb A [(.iconst 1, 1, 0, 0, .int 1), (.aload_n 0, 1, 0, 0, .null), (.iload 6, 2, 0, 0, .null), (.iload 5, 2, 0, 0, .null)] (pc' := 199) (ls' := [some (.ref 60), none, some (.int l2), some (.int l3), some (.int l4), some (.int l5), some (.int l6), none]) (st' := [.int l5, .int l6, .ref 60, .int 1, .int (l4 / 7), .int 7]) (g' := g) (by decide +kernel) rfl ?_
            obtain ⟨w7, e7, H⟩ := xbind H
            refine xcallV A (ix := 379) (nxt := 202) hrm hz [.int l6, .int l5] [.int 1, .int (l4 / 7), .int 7] 1873 (c_X12_otherEnd_60 hS _ e7) ok_X12_otherEnd (by decide +kernel) rfl (fun r g1 hq => ?_)
            rw [hq.1, hq.2]
            show xW k S 0 0 202 [some (.ref 60), none, some (.int l2), some (.int l3), some (.int l4), some (.int l5), some (.int l6), none] [.int w7, .int 1, .int (l4 / 7), .int 7] g
            refine xb A [(.ishl, 1, 0, 0, .null), (.ior, 1, 0, 0, .null), (.imul, 1, 0, 0, .null), (.aload_n 0, 1, 0, 0, .null), (.iload 6, 2, 0, 0, .null), (.iload 5, 2, 0, 0, .null)] (pc' := 210) (ls' := [some (.ref 60), none, some (.int l2), some (.int l3), some (.int l4), some (.int l5), some (.int l6), none]) (st' := [.int l5, .int l6, .ref 60, .int (7 * ((l4 / 7) ||| ((1 : Int32) <<< (w7 &&& 31))))]) (g' := g) (by decide +kernel) rfl ?_
            obtain ⟨w8, e8, H⟩ := xbind H
            refine xcallV A (ix := 379) (nxt := 213) hrm hz [.int l6, .int l5] [.int (7 * ((l4 / 7) ||| ((1 : Int32) <<< (w7 &&& 31))))] 1873 (c_X12_otherEnd_60 hS _ e8) ok_X12_otherEnd (by decide +kernel) rfl (fun r g1 hq => ?_)
            rw [hq.1, hq.2]
            show xW k S 0 0 213 [some (.ref 60), none, some (.int l2), some (.int l3), some (.int l4), some (.int l5), some (.int l6), none] [.int w8, .int (7 * ((l4 / 7) ||| ((1 : Int32) <<< (w7 &&& 31))))] g
            refine xb A [(.iadd, 1, 0, 0, .null), (.istore 7, 2, 0, 0, .null), (.aload_n 0, 1, 0, 0, .null), (.getfield 128, 3, 60, 57, .ref 97), (.iload 4, 2, 0, 0, .null)] (pc' := 222) (ls' := [some (.ref 60), none, some (.int l2), some (.int l3), some (.int l4), some (.int l5), some (.int l6), some (.int ((7 * ((l4 / 7) ||| ((1 : Int32) <<< (w7 &&& 31)))) + w8))]) (st' := [.int l4, .ref 97]) (g' := g) (by decide +kernel) rfl ?_
            obtain ⟨h18, H⟩ := xg_elim H
            refine xiald A (nxt := 223) (by decide +kernel) (hS _ _ sh_97) h18 ?_
            show xW k S 0 0 223 [some (.ref 60), none, some (.int l2), some (.int l3), some (.int l4), some (.int l5), some (.int l6), some (.int ((7 * ((l4 / 7) ||| ((1 : Int32) <<< (w7 &&& 31)))) + w8))] [.int (g.1 97 l4.toNatClampNeg)] g
            refine xb A [(.aload_n 0, 1, 0, 0, .null), (.getfield 58, 3, 60, 27, .ref 74), (.bipush 10, 2, 0, 0, .int 10), (.aload_n 0, 1, 0, 0, .null), (.getfield 227, 3, 60, 18, .int 0), (.imul, 1, 0, 0, .null), (.iload 6, 2, 0, 0, .null), (.iadd, 1, 0, 0, .null)] (pc' := 237) (ls' := [some (.ref 60), none, some (.int l2), some (.int l3), some (.int l4), some (.int l5), some (.int l6), some (.int ((7 * ((l4 / 7) ||| ((1 : Int32) <<< (w7 &&& 31)))) + w8))]) (st' := [.int ((10 * (g.1 60 18)) + l6), .ref 74, .int (g.1 97 l4.toNatClampNeg)]) (g' := g) (by decide +kernel) rfl ?_
            obtain ⟨h19, H⟩ := xg_elim H
            refine xiald A (nxt := 238) (by decide +kernel) (hS _ _ sh_74) h19 ?_
            show xW k S 0 0 238 [some (.ref 60), none, some (.int l2), some (.int l3), some (.int l4), some (.int l5), some (.int l6), some (.int ((7 * ((l4 / 7) ||| ((1 : Int32) <<< (w7 &&& 31)))) + w8))] [.int (g.1 74 ((10 * (g.1 60 18)) + l6).toNatClampNeg), .int (g.1 97 l4.toNatClampNeg)] g
            refine xb A [(.iadd, 1, 0, 0, .null), (.aload_n 0, 1, 0, 0, .null), (.getfield 128, 3, 60, 57, .ref 97), (.iload 7, 2, 0, 0, .null)] (pc' := 245) (ls' := [some (.ref 60), none, some (.int l2), some (.int l3), some (.int l4), some (.int l5), some (.int l6), some (.int ((7 * ((l4 / 7) ||| ((1 : Int32) <<< (w7 &&& 31)))) + w8))]) (st' := [.int ((7 * ((l4 / 7) ||| ((1 : Int32) <<< (w7 &&& 31)))) + w8), .ref 97, .int ((g.1 97 l4.toNatClampNeg) + (g.1 74 ((10 * (g.1 60 18)) + l6).toNatClampNeg))]) (g' := g) (by decide +kernel) rfl ?_
            obtain ⟨h20, H⟩ := xg_elim H
            refine xiald A (nxt := 246) (by decide +kernel) (hS _ _ sh_97) h20 ?_
            show xW k S 0 0 246 [some (.ref 60), none, some (.int l2), some (.int l3), some (.int l4), some (.int l5), some (.int l6), some (.int ((7 * ((l4 / 7) ||| ((1 : Int32) <<< (w7 &&& 31)))) + w8))] [.int (g.1 97 ((7 * ((l4 / 7) ||| ((1 : Int32) <<< (w7 &&& 31)))) + w8).toNatClampNeg), .int ((g.1 97 l4.toNatClampNeg) + (g.1 74 ((10 * (g.1 60 18)) + l6).toNatClampNeg))] g
            refine xic_le A (33) 279 249 (by decide +kernel) (fun h21 => ?_) (fun h21 => ?_)
            · rw [if_pos h21] at H
              refine xb A [(.iinc 6 1, 3, 0, 0, .null)] (pc' := 282) (ls' := [some (.ref 60), none, some (.int l2), some (.int l3), some (.int l4), some (.int l5), some (.int (l6 + 1)), some (.int ((7 * ((l4 / 7) ||| ((1 : Int32) <<< (w7 &&& 31)))) + w8))]) (st' := []) (g' := g) (by decide +kernel) rfl ?_
              refine xgoto A (-153) 129 (by decide +kernel) ?_
              refine xweak (ls' := [some (.ref 60), none, some (.int l2), some (.int l3), some (.int l4), some (.int l5), some (.int (l6 + 1)), none]) (by exact ⟨rfl, ⟨rfl, ⟨rfl, ⟨rfl, ⟨rfl, ⟨rfl, trivial⟩⟩⟩⟩⟩⟩) ?_
              exact ih _ _ _ _ _ _ H
            · rw [if_neg h21] at H
              refine xb A [(.aload_n 0, 1, 0, 0, .null), (.getfield 128, 3, 60, 57, .ref 97), (.iload 7, 2, 0, 0, .null), (.aload_n 0, 1, 0, 0, .null), (.getfield 128, 3, 60, 57, .ref 97), (.iload 4, 2, 0, 0, .null)] (pc' := 261) (ls' := [some (.ref 60), none, some (.int l2), some (.int l3), some (.int l4), some (.int l5), some (.int l6), some (.int ((7 * ((l4 / 7) ||| ((1 : Int32) <<< (w7 &&& 31)))) + w8))]) (st' := [.int l4, .ref 97, .int ((7 * ((l4 / 7) ||| ((1 : Int32) <<< (w7 &&& 31)))) + w8), .ref 97]) (g' := g) (by decide +kernel) rfl ?_
              obtain ⟨h22, H⟩ := xg_elim H
              refine xiald A (nxt := 262) (by decide +kernel) (hS _ _ sh_97) h22 ?_
              show xW k S 0 0 262 [some (.ref 60), none, some (.int l2), some (.int l3), some (.int l4), some (.int l5), some (.int l6), some (.int ((7 * ((l4 / 7) ||| ((1 : Int32) <<< (w7 &&& 31)))) + w8))] [.int (g.1 97 l4.toNatClampNeg), .int ((7 * ((l4 / 7) ||| ((1 : Int32) <<< (w7 &&& 31)))) + w8), .ref 97] g
              refine xb A [(.aload_n 0, 1, 0, 0, .null), (.getfield 58, 3, 60, 27, .ref 74), (.bipush 10, 2, 0, 0, .int 10), (.aload_n 0, 1, 0, 0, .null), (.getfield 227, 3, 60, 18, .int 0), (.imul, 1, 0, 0, .null), (.iload 6, 2, 0, 0, .null), (.iadd, 1, 0, 0, .null)] (pc' := 276) (ls' := [some (.ref 60), none, some (.int l2), some (.int l3), some (.int l4), some (.int l5), some (.int l6), some (.int ((7 * ((l4 / 7) ||| ((1 : Int32) <<< (w7 &&& 31)))) + w8))]) (st' := [.int ((10 * (g.1 60 18)) + l6), .ref 74, .int (g.1 97 l4.toNatClampNeg), .int ((7 * ((l4 / 7) ||| ((1 : Int32) <<< (w7 &&& 31)))) + w8), .ref 97]) (g' := g) (by decide +kernel) rfl ?_
              obtain ⟨h23, H⟩ := xg_elim H
              refine xiald A (nxt := 277) (by decide +kernel) (hS _ _ sh_74) h23 ?_
              show xW k S 0 0 277 [some (.ref 60), none, some (.int l2), some (.int l3), some (.int l4), some (.int l5), some (.int l6), some (.int ((7 * ((l4 / 7) ||| ((1 : Int32) <<< (w7 &&& 31)))) + w8))] [.int (g.1 74 ((10 * (g.1 60 18)) + l6).toNatClampNeg), .int (g.1 97 l4.toNatClampNeg), .int ((7 * ((l4 / 7) ||| ((1 : Int32) <<< (w7 &&& 31)))) + w8), .ref 97] g
              refine xb A [(.iadd, 1, 0, 0, .null)] (pc' := 278) (ls' := [some (.ref 60), none, some (.int l2), some (.int l3), some (.int l4), some (.int l5), some (.int l6), some (.int ((7 * ((l4 / 7) ||| ((1 : Int32) <<< (w7 &&& 31)))) + w8))]) (st' := [.int ((g.1 97 l4.toNatClampNeg) + (g.1 74 ((10 * (g.1 60 18)) + l6).toNatClampNeg)), .int ((7 * ((l4 / 7) ||| ((1 : Int32) <<< (w7 &&& 31)))) + w8), .ref 97]) (g' := g) (by decide +kernel) rfl ?_
              obtain ⟨h24, H⟩ := xg_elim H
              refine xiast A (nxt := 279) (by decide +kernel) (hS _ _ sh_97) h24 ?_
              show xW k S 0 0 279 [some (.ref 60), none, some (.int l2), some (.int l3), some (.int l4), some (.int l5), some (.int l6), some (.int ((7 * ((l4 / 7) ||| ((1 : Int32) <<< (w7 &&& 31)))) + w8))] [] (xupd g.1 97 ((7 * ((l4 / 7) ||| ((1 : Int32) <<< (w7 &&& 31)))) + w8).toNatClampNeg ((g.1 97 l4.toNatClampNeg) + (g.1 74 ((10 * (g.1 60 18)) + l6).toNatClampNeg)), g.2)
              refine xb A [(.iinc 6 1, 3, 0, 0, .null)] (pc' := 282) (ls' := [some (.ref 60), none, some (.int l2), some (.int l3), some (.int l4), some (.int l5), some (.int (l6 + 1)), some (.int ((7 * ((l4 / 7) ||| ((1 : Int32) <<< (w7 &&& 31)))) + w8))]) (st' := []) (g' := (xupd g.1 97 ((7 * ((l4 / 7) ||| ((1 : Int32) <<< (w7 &&& 31)))) + w8).toNatClampNeg ((g.1 97 l4.toNatClampNeg) + (g.1 74 ((10 * (g.1 60 18)) + l6).toNatClampNeg)), g.2)) (by decide +kernel) rfl ?_
              refine xgoto A (-153) 129 (by decide +kernel) ?_
              refine xweak (ls' := [some (.ref 60), none, some (.int l2), some (.int l3), some (.int l4), some (.int l5), some (.int (l6 + 1)), none]) (by exact ⟨rfl, ⟨rfl, ⟨rfl, ⟨rfl, ⟨rfl, ⟨rfl, trivial⟩⟩⟩⟩⟩⟩) ?_
              exact ih _ _ _ _ _ _ H
          · rw [if_pos h16] at H
            refine xgoto A (96) 279 (by decide +kernel) ?_
            refine xb A [(.iinc 6 1, 3, 0, 0, .null)] (pc' := 282) (ls' := [some (.ref 60), none, some (.int l2), some (.int l3), some (.int l4), some (.int l5), some (.int (l6 + 1)), none]) (st' := []) (g' := g) (by decide +kernel) rfl ?_
            refine xgoto A (-153) 129 (by decide +kernel) ?_
            exact ih _ _ _ _ _ _ H
theorem fr_X12_longest_60_129 {k64 : Int32 → Int32 → Int32 → xG → Option (Int32 × xG)} (hk64 : ∀ (l2 : Int32) (l3 : Int32) (l4 : Int32) (g : xG) (out : Int32 × xG), k64 l2 l3 l4 g = some out → xfrm fp_X12_longest_60 g (out.2)) : ∀ (n : Nat) (l2 : Int32) (l3 : Int32) (l4 : Int32) (l5 : Int32) (l6 : Int32) (g : xG) (out : Int32 × xG), f_X12_longest_60_129 k64 n l2 l3 l4 l5 l6 g = some out → xfrm fp_X12_longest_60 g (out.2) := by
  intro n
  induction n with
  | zero => intro l2 l3 l4 l5 l6 g out H; exact absurd H (by simp [f_X12_longest_60_129])
  | succ n ih =>
    intro l2 l3 l4 l5 l6 g out H
    have H : (xg (¬ ((g.1 60 18) < 0 ∨ 2 ≤ (g.1 60 18).toNatClampNeg)) (
  if (g.1 71 (g.1 60 18).toNatClampNeg) ≤ l6 then
    k64 l2 l3 (l4 + 1) g
  else
    (f_X12_isOpen_60 l6 g).bind fun w4 =>
    if w4 = 0 then
      f_X12_longest_60_129 k64 n l2 l3 l4 l5 (l6 + 1) g
    else
      (f_X12_isEnd_60 l6 l5 g).bind fun w5 =>
      if w5 = 0 then
        f_X12_longest_60_129 k64 n l2 l3 l4 l5 (l6 + 1) g
      else
        xg (¬ (7 : Int32) = 0) (
          (f_X12_otherEnd_60 l6 l5 g).bind fun w6 =>
          if (((l4 / 7) >>> (w6 &&& 31)) &&& 1) = 1 then
            f_X12_longest_60_129 k64 n l2 l3 l4 l5 (l6 + 1) g
          else
            xg (¬ (7 : Int32) = 0) (
              (f_X12_otherEnd_60 l6 l5 g).bind fun w7 =>
              (f_X12_otherEnd_60 l6 l5 g).bind fun w8 =>
              xg (¬ (l4 < 0 ∨ 896 ≤ l4.toNatClampNeg)) (
                xg (¬ (((10 * (g.1 60 18)) + l6) < 0 ∨ 20 ≤ ((10 * (g.1 60 18)) + l6).toNatClampNeg)) (
                  xg (¬ (((7 * ((l4 / 7) ||| ((1 : Int32) <<< (w7 &&& 31)))) + w8) < 0 ∨ 896 ≤ ((7 * ((l4 / 7) ||| ((1 : Int32) <<< (w7 &&& 31)))) + w8).toNatClampNeg)) (
                    if ((g.1 97 l4.toNatClampNeg) + (g.1 74 ((10 * (g.1 60 18)) + l6).toNatClampNeg)) ≤ (g.1 97 ((7 * ((l4 / 7) ||| ((1 : Int32) <<< (w7 &&& 31)))) + w8).toNatClampNeg) then
                      f_X12_longest_60_129 k64 n l2 l3 l4 l5 (l6 + 1) g
                    else
                      xg (¬ (l4 < 0 ∨ 896 ≤ l4.toNatClampNeg)) (
                        xg (¬ (((10 * (g.1 60 18)) + l6) < 0 ∨ 20 ≤ ((10 * (g.1 60 18)) + l6).toNatClampNeg)) (
                          xg (¬ (((7 * ((l4 / 7) ||| ((1 : Int32) <<< (w7 &&& 31)))) + w8) < 0 ∨ 896 ≤ ((7 * ((l4 / 7) ||| ((1 : Int32) <<< (w7 &&& 31)))) + w8).toNatClampNeg)) (
                            f_X12_longest_60_129 k64 n l2 l3 l4 l5 (l6 + 1) (xupd g.1 97 ((7 * ((l4 / 7) ||| ((1 : Int32) <<< (w7 &&& 31)))) + w8).toNatClampNeg ((g.1 97 l4.toNatClampNeg) + (g.1 74 ((10 * (g.1 60 18)) + l6).toNatClampNeg)), g.2))))))))))) = some out := H
    obtain ⟨h11, H⟩ := xg_elim H
    by_cases h12 : (g.1 71 (g.1 60 18).toNatClampNeg) ≤ l6
    · rw [if_pos h12] at H
      exact xfrm.tr xfrm.rf (hk64 _ _ _ _ _ H) rfl
    · rw [if_neg h12] at H
      obtain ⟨w4, e4, H⟩ := xbind H
      by_cases h13 : w4 = 0
      · rw [if_pos h13] at H
        exact xfrm.tr xfrm.rf (ih _ _ _ _ _ _ _ H) rfl
      · rw [if_neg h13] at H
        obtain ⟨w5, e5, H⟩ := xbind H
        by_cases h14 : w5 = 0
        · rw [if_pos h14] at H
          exact xfrm.tr xfrm.rf (ih _ _ _ _ _ _ _ H) rfl
        · rw [if_neg h14] at H
          obtain ⟨h15, H⟩ := xg_elim H
          obtain ⟨w6, e6, H⟩ := xbind H
          by_cases h16 : (((l4 / 7) >>> (w6 &&& 31)) &&& 1) = 1
          · rw [if_pos h16] at H
            exact xfrm.tr xfrm.rf (ih _ _ _ _ _ _ _ H) rfl
          · rw [if_neg h16] at H
            obtain ⟨h17, H⟩ := xg_elim H
            obtain ⟨w7, e7, H⟩ := xbind H
            obtain ⟨w8, e8, H⟩ := xbind H
            obtain ⟨h18, H⟩ := xg_elim H
            obtain ⟨h19, H⟩ := xg_elim H
            obtain ⟨h20, H⟩ := xg_elim H
            by_cases h21 : ((g.1 97 l4.toNatClampNeg) + (g.1 74 ((10 * (g.1 60 18)) + l6).toNatClampNeg)) ≤ (g.1 97 ((7 * ((l4 / 7) ||| ((1 : Int32) <<< (w7 &&& 31)))) + w8).toNatClampNeg)
            · rw [if_pos h21] at H
              exact xfrm.tr xfrm.rf (ih _ _ _ _ _ _ _ H) rfl
            · rw [if_neg h21] at H
              obtain ⟨h22, H⟩ := xg_elim H
              obtain ⟨h23, H⟩ := xg_elim H
              obtain ⟨h24, H⟩ := xg_elim H
              have hf3 : xfrm fp_X12_longest_60 g ((xupd g.1 97 ((7 * ((l4 / 7) ||| ((1 : Int32) <<< (w7 &&& 31)))) + w8).toNatClampNeg ((g.1 97 l4.toNatClampNeg) + (g.1 74 ((10 * (g.1 60 18)) + l6).toNatClampNeg)), g.2)) := xfrm.ua xfrm.rf rfl
              exact xfrm.tr hf3 (ih _ _ _ _ _ _ _ H) rfl
set_option maxRecDepth 20000 in
theorem t_X12_longest_60_64 {k : xK} {S : List xSh} {out : Int32 × xG} (hS : xpf SH2 S) (A : xAt k mX12_longest.2.1 12 SH2 S) (hR : xRet k 0 0 S (fun r g' => r = some (.int out.1) ∧ g' = out.2) mX12_longest.2.2.2) (hrm : xrm k = { frames := 2, cells := 0, slots := 0, locals := 44 }) (hz : xhs k = xb0 k + S.length)   : ∀ (n : Nat) (l2 : Int32) (l3 : Int32) (l4 : Int32) (g : xG), f_X12_longest_60_64 n l2 l3 l4 g = some out → xW k S 0 0 64 [some (.ref 60), none, some (.int l2), some (.int l3), some (.int l4), none, none, none] [] g := by
  intro n
  induction n with
  | zero => intro l2 l3 l4 g H; exact absurd H (by simp [f_X12_longest_60_64])
  | succ n ih =>
    intro l2 l3 l4 g H
    have H : (if 896 ≤ l4 then
  some (l3, g)
else
  xg (¬ (l4 < 0 ∨ 896 ≤ l4.toNatClampNeg)) (
    if 0 ≤ (g.1 97 l4.toNatClampNeg) then
      xg (¬ (7 : Int32) = 0) (
        if (l4 - l4 / 7 * 7) = l2 then
          xg (¬ (l4 < 0 ∨ 896 ≤ l4.toNatClampNeg)) (
            if (g.1 97 l4.toNatClampNeg) ≤ l3 then
              if (l4 - l4 / 7 * 7) = l2 then
                f_X12_longest_60_64 n l2 l3 (l4 + 1) g
              else
                f_X12_longest_60_129 (f_X12_longest_60_64 n) xN l2 l3 l4 (l4 - l4 / 7 * 7) 0 g
            else
              xg (¬ (l4 < 0 ∨ 896 ≤ l4.toNatClampNeg)) (
                if (l4 - l4 / 7 * 7) = l2 then
                  f_X12_longest_60_64 n l2 (g.1 97 l4.toNatClampNeg) (l4 + 1) g
                else
                  f_X12_longest_60_129 (f_X12_longest_60_64 n) xN l2 (g.1 97 l4.toNatClampNeg) l4 (l4 - l4 / 7 * 7) 0 g))
        else
          if (l4 - l4 / 7 * 7) = l2 then
            f_X12_longest_60_64 n l2 l3 (l4 + 1) g
          else
            f_X12_longest_60_129 (f_X12_longest_60_64 n) xN l2 l3 l4 (l4 - l4 / 7 * 7) 0 g)
    else
      f_X12_longest_60_64 n l2 l3 (l4 + 1) g)) = some out := H
    refine xb A [(.iload 4, 2, 0, 0, .null), (.sipush 896, 3, 0, 0, .int 896)] (pc' := 69) (ls' := [some (.ref 60), none, some (.int l2), some (.int l3), some (.int l4), none, none, none]) (st' := [.int 896, .int l4]) (g' := g) (by decide +kernel) rfl ?_
    refine xic_ge A (222) 291 72 (by decide +kernel) (fun h5 => ?_) (fun h5 => ?_)
    · rw [if_pos h5] at H
      refine xb A [(.iload_n 3, 1, 0, 0, .null)] (pc' := 292) (ls' := [some (.ref 60), none, some (.int l2), some (.int l3), some (.int l4), none, none, none]) (st' := [.int l3]) (g' := g) (by decide +kernel) rfl ?_
      obtain rfl := Option.some.inj H
      exact xret_i A hR hz (by decide +kernel) rfl ⟨rfl, rfl⟩
    · rw [if_neg h5] at H
      refine xb A [(.aload_n 0, 1, 0, 0, .null), (.getfield 128, 3, 60, 57, .ref 97), (.iload 4, 2, 0, 0, .null)] (pc' := 78) (ls' := [some (.ref 60), none, some (.int l2), some (.int l3), some (.int l4), none, none, none]) (st' := [.int l4, .ref 97]) (g' := g) (by decide +kernel) rfl ?_
      obtain ⟨h6, H⟩ := xg_elim H
      refine xiald A (nxt := 79) (by decide +kernel) (hS _ _ sh_97) h6 ?_
      show xW k S 0 0 79 [some (.ref 60), none, some (.int l2), some (.int l3), some (.int l4), none, none, none] [.int (g.1 97 l4.toNatClampNeg)] g
      refine xif_ge A (6) 85 82 (by decide +kernel) (fun h7 => ?_) (fun h7 => ?_)
      · rw [if_pos h7] at H
        refine xb A [(.iload 4, 2, 0, 0, .null), (.bipush 7, 2, 0, 0, .int 7)] (pc' := 89) (ls' := [some (.ref 60), none, some (.int l2), some (.int l3), some (.int l4), none, none, none]) (st' := [.int 7, .int l4]) (g' := g) (by decide +kernel) rfl ?_
        obtain ⟨h8, H⟩ := xg_elim H
        refine xirem A (nxt := 90) (by decide +kernel) h8 ?_
        refine xb A [(.istore 5, 2, 0, 0, .null), (.iload 5, 2, 0, 0, .null), (.iload_n 2, 1, 0, 0, .null)] (pc' := 95) (ls' := [some (.ref 60), none, some (.int l2), some (.int l3), some (.int l4), some (.int (l4 - l4 / 7 * 7)), none, none]) (st' := [.int l2, .int (l4 - l4 / 7 * 7)]) (g' := g) (by decide +kernel) rfl ?_
        refine xic_ne A (22) 117 98 (by decide +kernel) (fun h9 => ?_) (fun h9 => ?_)
        · rw [if_neg h9] at H
          refine xb A [(.iload 5, 2, 0, 0, .null), (.iload_n 2, 1, 0, 0, .null)] (pc' := 120) (ls' := [some (.ref 60), none, some (.int l2), some (.int l3), some (.int l4), some (.int (l4 - l4 / 7 * 7)), none, none]) (st' := [.int l2, .int (l4 - l4 / 7 * 7)]) (g' := g) (by decide +kernel) rfl ?_
          refine xic_ne A (6) 126 123 (by decide +kernel) (fun h10 => ?_) (fun h10 => ?_)
          · rw [if_neg h10] at H
            refine xb A [(.iconst 0, 1, 0, 0, .int 0), (.istore 6, 2, 0, 0, .null)] (pc' := 129) (ls' := [some (.ref 60), none, some (.int l2), some (.int l3), some (.int l4), some (.int (l4 - l4 / 7 * 7)), some (.int 0), none]) (st' := []) (g' := g) (by decide +kernel) rfl ?_
            exact t_X12_longest_60_129 hS A hR hrm hz ih _ _ _ _ _ _ _ H
          · rw [if_pos h10] at H
            refine xgoto A (162) 285 (by decide +kernel) ?_
            refine xb A [(.iinc 4 1, 3, 0, 0, .null)] (pc' := 288) (ls' := [some (.ref 60), none, some (.int l2), some (.int l3), some (.int (l4 + 1)), some (.int (l4 - l4 / 7 * 7)), none, none]) (st' := []) (g' := g) (by decide +kernel) rfl ?_
            refine xgoto A (-224) 64 (by decide +kernel) ?_
            refine xweak (ls' := [some (.ref 60), none, some (.int l2), some (.int l3), some (.int (l4 + 1)), none, none, none]) (by exact ⟨rfl, ⟨rfl, ⟨rfl, ⟨rfl, trivial⟩⟩⟩⟩) ?_
            exact ih _ _ _ _ H
        · rw [if_pos h9] at H
          refine xb A [(.aload_n 0, 1, 0, 0, .null), (.getfield 128, 3, 60, 57, .ref 97), (.iload 4, 2, 0, 0, .null)] (pc' := 104) (ls' := [some (.ref 60), none, some (.int l2), some (.int l3), some (.int l4), some (.int (l4 - l4 / 7 * 7)), none, none]) (st' := [.int l4, .ref 97]) (g' := g) (by decide +kernel) rfl ?_
          obtain ⟨h25, H⟩ := xg_elim H
          refine xiald A (nxt := 105) (by decide +kernel) (hS _ _ sh_97) h25 ?_
          show xW k S 0 0 105 [some (.ref 60), none, some (.int l2), some (.int l3), some (.int l4), some (.int (l4 - l4 / 7 * 7)), none, none] [.int (g.1 97 l4.toNatClampNeg)] g
          refine xb A [(.iload_n 3, 1, 0, 0, .null)] (pc' := 106) (ls' := [some (.ref 60), none, some (.int l2), some (.int l3), some (.int l4), some (.int (l4 - l4 / 7 * 7)), none, none]) (st' := [.int l3, .int (g.1 97 l4.toNatClampNeg)]) (g' := g) (by decide +kernel) rfl ?_
          refine xic_le A (11) 117 109 (by decide +kernel) (fun h26 => ?_) (fun h26 => ?_)
          · rw [if_pos h26] at H
            refine xb A [(.iload 5, 2, 0, 0, .null), (.iload_n 2, 1, 0, 0, .null)] (pc' := 120) (ls' := [some (.ref 60), none, some (.int l2), some (.int l3), some (.int l4), some (.int (l4 - l4 / 7 * 7)), none, none]) (st' := [.int l2, .int (l4 - l4 / 7 * 7)]) (g' := g) (by decide +kernel) rfl ?_
            refine xic_ne A (6) 126 123 (by decide +kernel) (fun h27 => ?_) (fun h27 => ?_)
            · rw [if_neg h27] at H
              refine xb A [(.iconst 0, 1, 0, 0, .int 0), (.istore 6, 2, 0, 0, .null)] (pc' := 129) (ls' := [some (.ref 60), none, some (.int l2), some (.int l3), some (.int l4), some (.int (l4 - l4 / 7 * 7)), some (.int 0), none]) (st' := []) (g' := g) (by decide +kernel) rfl ?_
              exact t_X12_longest_60_129 hS A hR hrm hz ih _ _ _ _ _ _ _ H
            · rw [if_pos h27] at H
              refine xgoto A (162) 285 (by decide +kernel) ?_
              refine xb A [(.iinc 4 1, 3, 0, 0, .null)] (pc' := 288) (ls' := [some (.ref 60), none, some (.int l2), some (.int l3), some (.int (l4 + 1)), some (.int (l4 - l4 / 7 * 7)), none, none]) (st' := []) (g' := g) (by decide +kernel) rfl ?_
              refine xgoto A (-224) 64 (by decide +kernel) ?_
              refine xweak (ls' := [some (.ref 60), none, some (.int l2), some (.int l3), some (.int (l4 + 1)), none, none, none]) (by exact ⟨rfl, ⟨rfl, ⟨rfl, ⟨rfl, trivial⟩⟩⟩⟩) ?_
              exact ih _ _ _ _ H
          · rw [if_neg h26] at H
            refine xb A [(.aload_n 0, 1, 0, 0, .null), (.getfield 128, 3, 60, 57, .ref 97), (.iload 4, 2, 0, 0, .null)] (pc' := 115) (ls' := [some (.ref 60), none, some (.int l2), some (.int l3), some (.int l4), some (.int (l4 - l4 / 7 * 7)), none, none]) (st' := [.int l4, .ref 97]) (g' := g) (by decide +kernel) rfl ?_
            obtain ⟨h28, H⟩ := xg_elim H
            refine xiald A (nxt := 116) (by decide +kernel) (hS _ _ sh_97) h28 ?_
            show xW k S 0 0 116 [some (.ref 60), none, some (.int l2), some (.int l3), some (.int l4), some (.int (l4 - l4 / 7 * 7)), none, none] [.int (g.1 97 l4.toNatClampNeg)] g
            refine xb A [(.istore_n 3, 1, 0, 0, .null), (.iload 5, 2, 0, 0, .null), (.iload_n 2, 1, 0, 0, .null)] (pc' := 120) (ls' := [some (.ref 60), none, some (.int l2), some (.int (g.1 97 l4.toNatClampNeg)), some (.int l4), some (.int (l4 - l4 / 7 * 7)), none, none]) (st' := [.int l2, .int (l4 - l4 / 7 * 7)]) (g' := g) (by decide +kernel) rfl ?_
            refine xic_ne A (6) 126 123 (by decide +kernel) (fun h29 => ?_) (fun h29 => ?_)
            · rw [if_neg h29] at H
              refine xb A [(.iconst 0, 1, 0, 0, .int 0), (.istore 6, 2, 0, 0, .null)] (pc' := 129) (ls' := [some (.ref 60), none, some (.int l2), some (.int (g.1 97 l4.toNatClampNeg)), some (.int l4), some (.int (l4 - l4 / 7 * 7)), some (.int 0), none]) (st' := []) (g' := g) (by decide +kernel) rfl ?_
              exact t_X12_longest_60_129 hS A hR hrm hz ih _ _ _ _ _ _ _ H
            · rw [if_pos h29] at H
              refine xgoto A (162) 285 (by decide +kernel) ?_
              refine xb A [(.iinc 4 1, 3, 0, 0, .null)] (pc' := 288) (ls' := [some (.ref 60), none, some (.int l2), some (.int (g.1 97 l4.toNatClampNeg)), some (.int (l4 + 1)), some (.int (l4 - l4 / 7 * 7)), none, none]) (st' := []) (g' := g) (by decide +kernel) rfl ?_
              refine xgoto A (-224) 64 (by decide +kernel) ?_
              refine xweak (ls' := [some (.ref 60), none, some (.int l2), some (.int (g.1 97 l4.toNatClampNeg)), some (.int (l4 + 1)), none, none, none]) (by exact ⟨rfl, ⟨rfl, ⟨rfl, ⟨rfl, trivial⟩⟩⟩⟩) ?_
              exact ih _ _ _ _ H
      · rw [if_neg h7] at H
        refine xgoto A (203) 285 (by decide +kernel) ?_
        refine xb A [(.iinc 4 1, 3, 0, 0, .null)] (pc' := 288) (ls' := [some (.ref 60), none, some (.int l2), some (.int l3), some (.int (l4 + 1)), none, none, none]) (st' := []) (g' := g) (by decide +kernel) rfl ?_
        refine xgoto A (-224) 64 (by decide +kernel) ?_
        exact ih _ _ _ _ H
theorem fr_X12_longest_60_64   : ∀ (n : Nat) (l2 : Int32) (l3 : Int32) (l4 : Int32) (g : xG) (out : Int32 × xG), f_X12_longest_60_64 n l2 l3 l4 g = some out → xfrm fp_X12_longest_60 g (out.2) := by
  intro n
  induction n with
  | zero => intro l2 l3 l4 g out H; exact absurd H (by simp [f_X12_longest_60_64])
  | succ n ih =>
    intro l2 l3 l4 g out H
    have H : (if 896 ≤ l4 then
  some (l3, g)
else
  xg (¬ (l4 < 0 ∨ 896 ≤ l4.toNatClampNeg)) (
    if 0 ≤ (g.1 97 l4.toNatClampNeg) then
      xg (¬ (7 : Int32) = 0) (
        if (l4 - l4 / 7 * 7) = l2 then
          xg (¬ (l4 < 0 ∨ 896 ≤ l4.toNatClampNeg)) (
            if (g.1 97 l4.toNatClampNeg) ≤ l3 then
              if (l4 - l4 / 7 * 7) = l2 then
                f_X12_longest_60_64 n l2 l3 (l4 + 1) g
              else
                f_X12_longest_60_129 (f_X12_longest_60_64 n) xN l2 l3 l4 (l4 - l4 / 7 * 7) 0 g
            else
              xg (¬ (l4 < 0 ∨ 896 ≤ l4.toNatClampNeg)) (
                if (l4 - l4 / 7 * 7) = l2 then
                  f_X12_longest_60_64 n l2 (g.1 97 l4.toNatClampNeg) (l4 + 1) g
                else
                  f_X12_longest_60_129 (f_X12_longest_60_64 n) xN l2 (g.1 97 l4.toNatClampNeg) l4 (l4 - l4 / 7 * 7) 0 g))
        else
          if (l4 - l4 / 7 * 7) = l2 then
            f_X12_longest_60_64 n l2 l3 (l4 + 1) g
          else
            f_X12_longest_60_129 (f_X12_longest_60_64 n) xN l2 l3 l4 (l4 - l4 / 7 * 7) 0 g)
    else
      f_X12_longest_60_64 n l2 l3 (l4 + 1) g)) = some out := H
    by_cases h5 : 896 ≤ l4
    · rw [if_pos h5] at H
      obtain rfl := Option.some.inj H
      exact xfrm.rf
    · rw [if_neg h5] at H
      obtain ⟨h6, H⟩ := xg_elim H
      by_cases h7 : 0 ≤ (g.1 97 l4.toNatClampNeg)
      · rw [if_pos h7] at H
        obtain ⟨h8, H⟩ := xg_elim H
        by_cases h9 : (l4 - l4 / 7 * 7) = l2
        · rw [if_pos h9] at H
          obtain ⟨h25, H⟩ := xg_elim H
          by_cases h26 : (g.1 97 l4.toNatClampNeg) ≤ l3
          · rw [if_pos h26] at H
            by_cases h27 : (l4 - l4 / 7 * 7) = l2
            · rw [if_pos h27] at H
              exact xfrm.tr xfrm.rf (ih _ _ _ _ _ H) rfl
            · rw [if_neg h27] at H
              exact xfrm.tr xfrm.rf (fr_X12_longest_60_129 ih _ _ _ _ _ _ _ _ H) rfl
          · rw [if_neg h26] at H
            obtain ⟨h28, H⟩ := xg_elim H
            by_cases h29 : (l4 - l4 / 7 * 7) = l2
            · rw [if_pos h29] at H
              exact xfrm.tr xfrm.rf (ih _ _ _ _ _ H) rfl
            · rw [if_neg h29] at H
              exact xfrm.tr xfrm.rf (fr_X12_longest_60_129 ih _ _ _ _ _ _ _ _ H) rfl
        · rw [if_neg h9] at H
          by_cases h10 : (l4 - l4 / 7 * 7) = l2
          · rw [if_pos h10] at H
            exact xfrm.tr xfrm.rf (ih _ _ _ _ _ H) rfl
          · rw [if_neg h10] at H
            exact xfrm.tr xfrm.rf (fr_X12_longest_60_129 ih _ _ _ _ _ _ _ _ H) rfl
      · rw [if_neg h7] at H
        exact xfrm.tr xfrm.rf (ih _ _ _ _ _ H) rfl
set_option maxRecDepth 20000 in
theorem t_X12_longest_60_24 {k : xK} {S : List xSh} {out : Int32 × xG} (hS : xpf SH2 S) (A : xAt k mX12_longest.2.1 12 SH2 S) (hR : xRet k 0 0 S (fun r g' => r = some (.int out.1) ∧ g' = out.2) mX12_longest.2.2.2) (hrm : xrm k = { frames := 2, cells := 0, slots := 0, locals := 44 }) (hz : xhs k = xb0 k + S.length)   : ∀ (n : Nat) (l1 : Int32) (l2 : Int32) (l3 : Int32) (g : xG), f_X12_longest_60_24 n l1 l2 l3 g = some out → xW k S 0 0 24 [some (.ref 60), some (.int l1), some (.int l2), some (.int l3), none, none, none, none] [] g := by
  intro n
  induction n with
  | zero => intro l1 l2 l3 g H; exact absurd H (by simp [f_X12_longest_60_24])
  | succ n ih =>
    intro l1 l2 l3 g H
    have H : (if 896 ≤ l3 then
  xg (¬ (((7 * ((1 : Int32) <<< (l1 &&& 31))) + l1) < 0 ∨ 896 ≤ ((7 * ((1 : Int32) <<< (l1 &&& 31))) + l1).toNatClampNeg)) (
    f_X12_longest_60_64 xN l2 (-2) 0 (xupd g.1 97 ((7 * ((1 : Int32) <<< (l1 &&& 31))) + l1).toNatClampNeg 0, g.2))
else
  xg (¬ (l3 < 0 ∨ 896 ≤ l3.toNatClampNeg)) (
    f_X12_longest_60_24 n l1 l2 (l3 + 1) (xupd g.1 97 l3.toNatClampNeg (-1), g.2))) = some out := H
    refine xb A [(.iload_n 3, 1, 0, 0, .null), (.sipush 896, 3, 0, 0, .int 896)] (pc' := 28) (ls' := [some (.ref 60), some (.int l1), some (.int l2), some (.int l3), none, none, none, none]) (st' := [.int 896, .int l3]) (g' := g) (by decide +kernel) rfl ?_
    refine xic_ge A (16) 44 31 (by decide +kernel) (fun h3 => ?_) (fun h3 => ?_)
    · rw [if_pos h3] at H
      refine xb A [(.aload_n 0, 1, 0, 0, .null), (.getfield 128, 3, 60, 57, .ref 97), (.bipush 7, 2, 0, 0, .int 7), (.iconst 1, 1, 0, 0, .int 1), (.iload_n 1, 1, 0, 0, .null), (.ishl, 1, 0, 0, .null), (.imul, 1, 0, 0, .null), (.iload_n 1, 1, 0, 0, .null), (.iadd, 1, 0, 0, .null), (.iconst 0, 1, 0, 0, .int 0)] (pc' := 57) (ls' := [some (.ref 60), some (.int l1), some (.int l2), some (.int l3), none, none, none, none]) (st' := [.int 0, .int ((7 * ((1 : Int32) <<< (l1 &&& 31))) + l1), .ref 97]) (g' := g) (by decide +kernel) rfl ?_
      obtain ⟨h4, H⟩ := xg_elim H
      refine xiast A (nxt := 58) (by decide +kernel) (hS _ _ sh_97) h4 ?_
      show xW k S 0 0 58 [some (.ref 60), some (.int l1), some (.int l2), some (.int l3), none, none, none, none] [] (xupd g.1 97 ((7 * ((1 : Int32) <<< (l1 &&& 31))) + l1).toNatClampNeg 0, g.2)
      refine xb A [(.bipush (-2), 2, 0, 0, .int (-2)), (.istore_n 3, 1, 0, 0, .null), (.iconst 0, 1, 0, 0, .int 0), (.istore 4, 2, 0, 0, .null)] (pc' := 64) (ls' := [some (.ref 60), some (.int l1), some (.int l2), some (.int (-2)), some (.int 0), none, none, none]) (st' := []) (g' := (xupd g.1 97 ((7 * ((1 : Int32) <<< (l1 &&& 31))) + l1).toNatClampNeg 0, g.2)) (by decide +kernel) rfl ?_
      refine xweak (ls' := [some (.ref 60), none, some (.int l2), some (.int (-2)), some (.int 0), none, none, none]) (by exact ⟨rfl, ⟨rfl, ⟨rfl, ⟨rfl, trivial⟩⟩⟩⟩) ?_
      exact t_X12_longest_60_64 hS A hR hrm hz _ _ _ _ _ H
    · rw [if_neg h3] at H
      refine xb A [(.aload_n 0, 1, 0, 0, .null), (.getfield 128, 3, 60, 57, .ref 97), (.iload_n 3, 1, 0, 0, .null), (.iconst (-1), 1, 0, 0, .int (-1))] (pc' := 37) (ls' := [some (.ref 60), some (.int l1), some (.int l2), some (.int l3), none, none, none, none]) (st' := [.int (-1), .int l3, .ref 97]) (g' := g) (by decide +kernel) rfl ?_
      obtain ⟨h30, H⟩ := xg_elim H
      refine xiast A (nxt := 38) (by decide +kernel) (hS _ _ sh_97) h30 ?_
      show xW k S 0 0 38 [some (.ref 60), some (.int l1), some (.int l2), some (.int l3), none, none, none, none] [] (xupd g.1 97 l3.toNatClampNeg (-1), g.2)
      refine xb A [(.iinc 3 1, 3, 0, 0, .null)] (pc' := 41) (ls' := [some (.ref 60), some (.int l1), some (.int l2), some (.int (l3 + 1)), none, none, none, none]) (st' := []) (g' := (xupd g.1 97 l3.toNatClampNeg (-1), g.2)) (by decide +kernel) rfl ?_
      refine xgoto A (-17) 24 (by decide +kernel) ?_
      exact ih _ _ _ _ H
theorem fr_X12_longest_60_24   : ∀ (n : Nat) (l1 : Int32) (l2 : Int32) (l3 : Int32) (g : xG) (out : Int32 × xG), f_X12_longest_60_24 n l1 l2 l3 g = some out → xfrm fp_X12_longest_60 g (out.2) := by
  intro n
  induction n with
  | zero => intro l1 l2 l3 g out H; exact absurd H (by simp [f_X12_longest_60_24])
  | succ n ih =>
    intro l1 l2 l3 g out H
    have H : (if 896 ≤ l3 then
  xg (¬ (((7 * ((1 : Int32) <<< (l1 &&& 31))) + l1) < 0 ∨ 896 ≤ ((7 * ((1 : Int32) <<< (l1 &&& 31))) + l1).toNatClampNeg)) (
    f_X12_longest_60_64 xN l2 (-2) 0 (xupd g.1 97 ((7 * ((1 : Int32) <<< (l1 &&& 31))) + l1).toNatClampNeg 0, g.2))
else
  xg (¬ (l3 < 0 ∨ 896 ≤ l3.toNatClampNeg)) (
    f_X12_longest_60_24 n l1 l2 (l3 + 1) (xupd g.1 97 l3.toNatClampNeg (-1), g.2))) = some out := H
    by_cases h3 : 896 ≤ l3
    · rw [if_pos h3] at H
      obtain ⟨h4, H⟩ := xg_elim H
      have hf2 : xfrm fp_X12_longest_60 g ((xupd g.1 97 ((7 * ((1 : Int32) <<< (l1 &&& 31))) + l1).toNatClampNeg 0, g.2)) := xfrm.ua xfrm.rf rfl
      exact xfrm.tr hf2 (fr_X12_longest_60_64 _ _ _ _ _ _ H) rfl
    · rw [if_neg h3] at H
      obtain ⟨h30, H⟩ := xg_elim H
      have hf4 : xfrm fp_X12_longest_60 g ((xupd g.1 97 l3.toNatClampNeg (-1), g.2)) := xfrm.ua xfrm.rf rfl
      exact xfrm.tr hf4 (ih _ _ _ _ _ H) rfl
set_option maxRecDepth 20000 in
theorem c_X12_longest_60 {S : List xSh} (hS : xpf SH2 S) {g : xG} {p1 : Int32} {p2 : Int32} (out : Int32 × xG) (H : f_X12_longest_60 p1 p2 g = some out) : xC mX12_longest 2 44 0 0 S [.ref 60, .int p1, .int p2] g S (fun r g' => r = some (.int out.1) ∧ g' = out.2) := by
  have H : ((f_X12_isTown_60 p1 g).bind fun w1 =>
if w1 = 0 then
  some ((-1), g)
else
  (f_X12_isTown_60 p2 g).bind fun w2 =>
  if w2 = 0 then
    some ((-1), g)
  else
    (f_X12_copies_60 g).bind fun w3 =>
    f_X12_longest_60_24 xN p1 p2 0 w3) = some out := H
  refine xC.of 12 SH2 [some (.ref 60), some (.int p1), some (.int p2), none, none, none, none, none] hS (by decide +kernel) rfl (fun _ _ => Nat.le_of_ble_eq_true rfl) (fun _ _ => rfl) ?_
  intro k A hR hrm hz
  refine xb A [(.aload_n 0, 1, 0, 0, .null), (.iload_n 1, 1, 0, 0, .null)] (pc' := 2) (ls' := [some (.ref 60), some (.int p1), some (.int p2), none, none, none, none, none]) (st' := [.int p1, .ref 60]) (g' := g) (by decide +kernel) rfl ?_
  obtain ⟨w1, e1, H⟩ := xbind H
  refine xcallV A (ix := 413) (nxt := 5) hrm hz [.int p1] [] 1692 (c_X12_isTown_60 hS _ e1) ok_X12_isTown (by decide +kernel) rfl (fun r g1 hq => ?_)
  rw [hq.1, hq.2]
  show xW k S 0 0 5 [some (.ref 60), some (.int p1), some (.int p2), none, none, none, none, none] [.int w1] g
  refine xif_eq A (11) 16 8 (by decide +kernel) (fun h1 => ?_) (fun h1 => ?_)
  · rw [if_pos h1] at H
    refine xb A [(.iconst (-1), 1, 0, 0, .int (-1))] (pc' := 17) (ls' := [some (.ref 60), some (.int p1), some (.int p2), none, none, none, none, none]) (st' := [.int (-1)]) (g' := g) (by decide +kernel) rfl ?_
    obtain rfl := Option.some.inj H
    exact xret_i A hR hz (by decide +kernel) rfl ⟨rfl, rfl⟩
  · rw [if_neg h1] at H
    refine xb A [(.aload_n 0, 1, 0, 0, .null), (.iload_n 2, 1, 0, 0, .null)] (pc' := 10) (ls' := [some (.ref 60), some (.int p1), some (.int p2), none, none, none, none, none]) (st' := [.int p2, .ref 60]) (g' := g) (by decide +kernel) rfl ?_
    obtain ⟨w2, e2, H⟩ := xbind H
    refine xcallV A (ix := 413) (nxt := 13) hrm hz [.int p2] [] 1692 (c_X12_isTown_60 hS _ e2) ok_X12_isTown (by decide +kernel) rfl (fun r g1 hq => ?_)
    rw [hq.1, hq.2]
    show xW k S 0 0 13 [some (.ref 60), some (.int p1), some (.int p2), none, none, none, none, none] [.int w2] g
    refine xif_ne A (5) 18 16 (by decide +kernel) (fun h2 => ?_) (fun h2 => ?_)
    · rw [if_neg h2] at H
      refine xb A [(.aload_n 0, 1, 0, 0, .null)] (pc' := 19) (ls' := [some (.ref 60), some (.int p1), some (.int p2), none, none, none, none, none]) (st' := [.ref 60]) (g' := g) (by decide +kernel) rfl ?_
      obtain ⟨w3, e3, H⟩ := xbind H
      refine xcallV A (ix := 320) (nxt := 22) hrm hz [] [] 1699 (c_X12_copies_60 hS _ e3) ok_X12_copies (by decide +kernel) rfl (fun r g1 hq => ?_)
      rw [hq.1, hq.2]
      show xW k S 0 0 22 [some (.ref 60), some (.int p1), some (.int p2), none, none, none, none, none] [] w3
      refine xb A [(.iconst 0, 1, 0, 0, .int 0), (.istore_n 3, 1, 0, 0, .null)] (pc' := 24) (ls' := [some (.ref 60), some (.int p1), some (.int p2), some (.int 0), none, none, none, none]) (st' := []) (g' := w3) (by decide +kernel) rfl ?_
      exact t_X12_longest_60_24 hS A hR hrm hz _ _ _ _ _ H
    · rw [if_pos h2] at H
      refine xb A [(.iconst (-1), 1, 0, 0, .int (-1))] (pc' := 17) (ls' := [some (.ref 60), some (.int p1), some (.int p2), none, none, none, none, none]) (st' := [.int (-1)]) (g' := g) (by decide +kernel) rfl ?_
      obtain rfl := Option.some.inj H
      exact xret_i A hR hz (by decide +kernel) rfl ⟨rfl, rfl⟩
theorem fr_X12_longest_60 {p1 : Int32} {p2 : Int32} {g : xG} (out : Int32 × xG) (H : f_X12_longest_60 p1 p2 g = some out) : xfrm fp_X12_longest_60 g (out.2) := by
  have H : ((f_X12_isTown_60 p1 g).bind fun w1 =>
if w1 = 0 then
  some ((-1), g)
else
  (f_X12_isTown_60 p2 g).bind fun w2 =>
  if w2 = 0 then
    some ((-1), g)
  else
    (f_X12_copies_60 g).bind fun w3 =>
    f_X12_longest_60_24 xN p1 p2 0 w3) = some out := H
  obtain ⟨w1, e1, H⟩ := xbind H
  by_cases h1 : w1 = 0
  · rw [if_pos h1] at H
    obtain rfl := Option.some.inj H
    exact xfrm.rf
  · rw [if_neg h1] at H
    obtain ⟨w2, e2, H⟩ := xbind H
    by_cases h2 : w2 = 0
    · rw [if_pos h2] at H
      obtain rfl := Option.some.inj H
      exact xfrm.rf
    · rw [if_neg h2] at H
      obtain ⟨w3, e3, H⟩ := xbind H
      have hf1 : xfrm fp_X12_longest_60 g (w3) := xfrm.tr xfrm.rf (fr_X12_copies_60 _ e3) rfl
      exact xfrm.tr hf1 (fr_X12_longest_60_24 _ _ _ _ _ _ H) rfl
def fp_X12_clerks_60 : List (Nat × Option Nat) := [(60, some 52), (60, some 53), (94, none), (95, none)]
def f_X12_clerks_60_59 (k19 : Int32 → Int32 → Int32 → xG → Option (Int32 × xG)) : Nat → Int32 → Int32 → Int32 → Int32 → Int32 → xG → Option (Int32 × xG)
  | 0, _, _, _, _, _, _ => none
  | n + 1, l1, l2, l3, l4, l5, g =>
    xg (¬ ((g.1 60 18) < 0 ∨ 2 ≤ (g.1 60 18).toNatClampNeg)) (
      if (g.1 71 (g.1 60 18).toNatClampNeg) ≤ l5 then
        if l4 = 0 then
          k19 l1 l2 (l3 + 1) g
        else
          k19 l1 l3 (l3 + 1) g
      else
        (f_X12_isOpen_60 l5 g).bind fun w3 =>
        if w3 = 0 then
          f_X12_clerks_60_59 k19 n l1 l2 l3 l4 (l5 + 1) g
        else
          xg (¬ (((10 * (g.1 60 18)) + l5) < 0 ∨ 20 ≤ ((10 * (g.1 60 18)) + l5).toNatClampNeg)) (
            xg (¬ (((10 * (g.1 60 18)) + l5) < 0 ∨ 20 ≤ ((10 * (g.1 60 18)) + l5).toNatClampNeg)) (
              if (l3 &&& (((1 : Int32) <<< ((g.1 72 ((10 * (g.1 60 18)) + l5).toNatClampNeg) &&& 31)) ||| ((1 : Int32) <<< ((g.1 73 ((10 * (g.1 60 18)) + l5).toNatClampNeg) &&& 31)))) = 0 then
                f_X12_clerks_60_59 k19 n l1 l2 l3 0 (l5 + 1) g
              else
                f_X12_clerks_60_59 k19 n l1 l2 l3 l4 (l5 + 1) g)))
def f_X12_clerks_60_19  : Nat → Int32 → Int32 → Int32 → xG → Option (Int32 × xG)
  | 0, _, _, _, _ => none
  | n + 1, l1, l2, l3, g =>
    xg (¬ ((g.1 60 18) < 0 ∨ 2 ≤ (g.1 60 18).toNatClampNeg)) (
      if ((1 : Int32) <<< ((g.1 70 (g.1 60 18).toNatClampNeg) &&& 31)) ≤ l3 then
        if l1 = 0 then
          (f_X12_bits l2).bind fun w2 =>
          some (w2, g)
        else
          some (l2, g)
      else
        if l2 < 0 then
          f_X12_clerks_60_59 (f_X12_clerks_60_19 n) xN l1 l2 l3 1 0 g
        else
          (f_X12_bits l3).bind fun w4 =>
          (f_X12_bits l2).bind fun w5 =>
          if w5 ≤ w4 then
            f_X12_clerks_60_59 (f_X12_clerks_60_19 n) xN l1 l2 l3 0 0 g
          else
            f_X12_clerks_60_59 (f_X12_clerks_60_19 n) xN l1 l2 l3 1 0 g)
def f_X12_clerks_60 (p1 : Int32) (g : xG) : Option (Int32 × xG) :=
  if (f_X12_in p1 0 1) = 0 then
    some ((-1), g)
  else
    (f_X12_copies_60 g).bind fun w1 =>
    f_X12_clerks_60_19 xN p1 (-1) 0 w1
set_option maxRecDepth 20000 in
theorem t_X12_clerks_60_59 {k : xK} {S : List xSh} {out : Int32 × xG} (hS : xpf SH2 S) (A : xAt k mX12_clerks.2.1 12 SH2 S) (hR : xRet k 0 0 S (fun r g' => r = some (.int out.1) ∧ g' = out.2) mX12_clerks.2.2.2) (hrm : xrm k = { frames := 2, cells := 0, slots := 0, locals := 44 }) (hz : xhs k = xb0 k + S.length) {k19 : Int32 → Int32 → Int32 → xG → Option (Int32 × xG)} (hk19 : ∀ (l1 : Int32) (l2 : Int32) (l3 : Int32) (g : xG), k19 l1 l2 l3 g = some out → xW k S 0 0 19 [some (.ref 60), some (.int l1), some (.int l2), some (.int l3), none, none] [] g) : ∀ (n : Nat) (l1 : Int32) (l2 : Int32) (l3 : Int32) (l4 : Int32) (l5 : Int32) (g : xG), f_X12_clerks_60_59 k19 n l1 l2 l3 l4 l5 g = some out → xW k S 0 0 59 [some (.ref 60), some (.int l1), some (.int l2), some (.int l3), some (.int l4), some (.int l5)] [] g := by
  intro n
  induction n with
  | zero => intro l1 l2 l3 l4 l5 g H; exact absurd H (by simp [f_X12_clerks_60_59])
  | succ n ih =>
    intro l1 l2 l3 l4 l5 g H
    have H : (xg (¬ ((g.1 60 18) < 0 ∨ 2 ≤ (g.1 60 18).toNatClampNeg)) (
  if (g.1 71 (g.1 60 18).toNatClampNeg) ≤ l5 then
    if l4 = 0 then
      k19 l1 l2 (l3 + 1) g
    else
      k19 l1 l3 (l3 + 1) g
  else
    (f_X12_isOpen_60 l5 g).bind fun w3 =>
    if w3 = 0 then
      f_X12_clerks_60_59 k19 n l1 l2 l3 l4 (l5 + 1) g
    else
      xg (¬ (((10 * (g.1 60 18)) + l5) < 0 ∨ 20 ≤ ((10 * (g.1 60 18)) + l5).toNatClampNeg)) (
        xg (¬ (((10 * (g.1 60 18)) + l5) < 0 ∨ 20 ≤ ((10 * (g.1 60 18)) + l5).toNatClampNeg)) (
          if (l3 &&& (((1 : Int32) <<< ((g.1 72 ((10 * (g.1 60 18)) + l5).toNatClampNeg) &&& 31)) ||| ((1 : Int32) <<< ((g.1 73 ((10 * (g.1 60 18)) + l5).toNatClampNeg) &&& 31)))) = 0 then
            f_X12_clerks_60_59 k19 n l1 l2 l3 0 (l5 + 1) g
          else
            f_X12_clerks_60_59 k19 n l1 l2 l3 l4 (l5 + 1) g)))) = some out := H
    refine xb A [(.iload 5, 2, 0, 0, .null), (.aload_n 0, 1, 0, 0, .null), (.getfield 49, 3, 60, 24, .ref 71), (.aload_n 0, 1, 0, 0, .null), (.getfield 227, 3, 60, 18, .int 0)] (pc' := 69) (ls' := [some (.ref 60), some (.int l1), some (.int l2), some (.int l3), some (.int l4), some (.int l5)]) (st' := [.int (g.1 60 18), .ref 71, .int l5]) (g' := g) (by decide +kernel) rfl ?_
    obtain ⟨h6, H⟩ := xg_elim H
    refine xiald A (nxt := 70) (by decide +kernel) (hS _ _ sh_71) h6 ?_
    show xW k S 0 0 70 [some (.ref 60), some (.int l1), some (.int l2), some (.int l3), some (.int l4), some (.int l5)] [.int (g.1 71 (g.1 60 18).toNatClampNeg), .int l5] g
    refine xic_ge A (61) 131 73 (by decide +kernel) (fun h7 => ?_) (fun h7 => ?_)
    · rw [if_pos h7] at H
      refine xb A [(.iload 4, 2, 0, 0, .null)] (pc' := 133) (ls' := [some (.ref 60), some (.int l1), some (.int l2), some (.int l3), some (.int l4), some (.int l5)]) (st' := [.int l4]) (g' := g) (by decide +kernel) rfl ?_
      refine xif_eq A (5) 138 136 (by decide +kernel) (fun h8 => ?_) (fun h8 => ?_)
      · rw [if_pos h8] at H
        refine xb A [(.iinc 3 1, 3, 0, 0, .null)] (pc' := 141) (ls' := [some (.ref 60), some (.int l1), some (.int l2), some (.int (l3 + 1)), some (.int l4), some (.int l5)]) (st' := []) (g' := g) (by decide +kernel) rfl ?_
        refine xgoto A (-122) 19 (by decide +kernel) ?_
        refine xweak (ls' := [some (.ref 60), some (.int l1), some (.int l2), some (.int (l3 + 1)), none, none]) (by exact ⟨rfl, ⟨rfl, ⟨rfl, ⟨rfl, trivial⟩⟩⟩⟩) ?_
        exact hk19 _ _ _ _ H
      · rw [if_neg h8] at H
        refine xb A [(.iload_n 3, 1, 0, 0, .null), (.istore_n 2, 1, 0, 0, .null), (.iinc 3 1, 3, 0, 0, .null)] (pc' := 141) (ls' := [some (.ref 60), some (.int l1), some (.int l3), some (.int (l3 + 1)), some (.int l4), some (.int l5)]) (st' := []) (g' := g) (by decide +kernel) rfl ?_
        refine xgoto A (-122) 19 (by decide +kernel) ?_
        refine xweak (ls' := [some (.ref 60), some (.int l1), some (.int l3), some (.int (l3 + 1)), none, none]) (by exact ⟨rfl, ⟨rfl, ⟨rfl, ⟨rfl, trivial⟩⟩⟩⟩) ?_
        exact hk19 _ _ _ _ H
    · rw [if_neg h7] at H
      refine xb A [(.aload_n 0, 1, 0, 0, .null), (.iload 5, 2, 0, 0, .null)] (pc' := 76) (ls' := [some (.ref 60), some (.int l1), some (.int l2), some (.int l3), some (.int l4), some (.int l5)]) (st' := [.int l5, .ref 60]) (g' := g) (by decide +kernel) rfl ?_
      obtain ⟨w3, e3, H⟩ := xbind H
      refine xcallV A (ix := 372) (nxt := 79) hrm hz [.int l5] [] 1711 (c_X12_isOpen_60 hS _ e3) ok_X12_isOpen (by decide +kernel) rfl (fun r g1 hq => ?_)
      rw [hq.1, hq.2]
      show xW k S 0 0 79 [some (.ref 60), some (.int l1), some (.int l2), some (.int l3), some (.int l4), some (.int l5)] [.int w3] g
      refine xif_eq A (46) 125 82 (by decide +kernel) (fun h9 => ?_) (fun h9 => ?_)
      · rw [if_pos h9] at H
        refine xb A [(.iinc 5 1, 3, 0, 0, .null)] (pc' := 128) (ls' := [some (.ref 60), some (.int l1), some (.int l2), some (.int l3), some (.int l4), some (.int (l5 + 1))]) (st' := []) (g' := g) (by decide +kernel) rfl ?_
        refine xgoto A (-69) 59 (by decide +kernel) ?_
        exact ih _ _ _ _ _ _ H
      · rw [if_neg h9] at H
        refine xb A [(.iload_n 3, 1, 0, 0, .null), (.iconst 1, 1, 0, 0, .int 1), (.aload_n 0, 1, 0, 0, .null), (.getfield 52, 3, 60, 25, .ref 72), (.bipush 10, 2, 0, 0, .int 10), (.aload_n 0, 1, 0, 0, .null), (.getfield 227, 3, 60, 18, .int 0), (.imul, 1, 0, 0, .null), (.iload 5, 2, 0, 0, .null), (.iadd, 1, 0, 0, .null)] (pc' := 98) (ls' := [some (.ref 60), some (.int l1), some (.int l2), some (.int l3), some (.int l4), some (.int l5)]) (st' := [.int ((10 * (g.1 60 18)) + l5), .ref 72, .int 1, .int l3]) (g' := g) (by decide +kernel) rfl ?_
        obtain ⟨h10, H⟩ := xg_elim H
        refine xiald A (nxt := 99) (by decide +kernel) (hS _ _ sh_72) h10 ?_
        show xW k S 0 0 99 [some (.ref 60), some (.int l1), some (.int l2), some (.int l3), some (.int l4), some (.int l5)] [.int (g.1 72 ((10 * (g.1 60 18)) + l5).toNatClampNeg), .int 1, .int l3] g
        refine xb A [(.ishl, 1, 0, 0, .null), (.iconst 1, 1, 0, 0, .int 1), (.aload_n 0, 1, 0, 0, .null), (.getfield 55, 3, 60, 26, .ref 73), (.bipush 10, 2, 0, 0, .int 10), (.aload_n 0, 1, 0, 0, .null), (.getfield 227, 3, 60, 18, .int 0), (.imul, 1, 0, 0, .null), (.iload 5, 2, 0, 0, .null), (.iadd, 1, 0, 0, .null)] (pc' := 115) (ls' := [some (.ref 60), some (.int l1), some (.int l2), some (.int l3), some (.int l4), some (.int l5)]) (st' := [.int ((10 * (g.1 60 18)) + l5), .ref 73, .int 1, .int ((1 : Int32) <<< ((g.1 72 ((10 * (g.1 60 18)) + l5).toNatClampNeg) &&& 31)), .int l3]) (g' := g) (by decide +kernel) rfl ?_
        obtain ⟨h11, H⟩ := xg_elim H
        refine xiald A (nxt := 116) (by decide +kernel) (hS _ _ sh_73) h11 ?_
        show xW k S 0 0 116 [some (.ref 60), some (.int l1), some (.int l2), some (.int l3), some (.int l4), some (.int l5)] [.int (g.1 73 ((10 * (g.1 60 18)) + l5).toNatClampNeg), .int 1, .int ((1 : Int32) <<< ((g.1 72 ((10 * (g.1 60 18)) + l5).toNatClampNeg) &&& 31)), .int l3] g
        refine xb A [(.ishl, 1, 0, 0, .null), (.ior, 1, 0, 0, .null), (.iand, 1, 0, 0, .null)] (pc' := 119) (ls' := [some (.ref 60), some (.int l1), some (.int l2), some (.int l3), some (.int l4), some (.int l5)]) (st' := [.int (l3 &&& (((1 : Int32) <<< ((g.1 72 ((10 * (g.1 60 18)) + l5).toNatClampNeg) &&& 31)) ||| ((1 : Int32) <<< ((g.1 73 ((10 * (g.1 60 18)) + l5).toNatClampNeg) &&& 31))))]) (g' := g) (by decide +kernel) rfl ?_
        refine xif_ne A (6) 125 122 (by decide +kernel) (fun h12 => ?_) (fun h12 => ?_)
        · rw [if_neg h12] at H
          refine xb A [(.iinc 5 1, 3, 0, 0, .null)] (pc' := 128) (ls' := [some (.ref 60), some (.int l1), some (.int l2), some (.int l3), some (.int l4), some (.int (l5 + 1))]) (st' := []) (g' := g) (by decide +kernel) rfl ?_
          refine xgoto A (-69) 59 (by decide +kernel) ?_
          exact ih _ _ _ _ _ _ H
        · rw [if_pos h12] at H
          refine xb A [(.iconst 0, 1, 0, 0, .int 0), (.istore 4, 2, 0, 0, .null), (.iinc 5 1, 3, 0, 0, .null)] (pc' := 128) (ls' := [some (.ref 60), some (.int l1), some (.int l2), some (.int l3), some (.int 0), some (.int (l5 + 1))]) (st' := []) (g' := g) (by decide +kernel) rfl ?_
          refine xgoto A (-69) 59 (by decide +kernel) ?_
          exact ih _ _ _ _ _ _ H
theorem fr_X12_clerks_60_59 {k19 : Int32 → Int32 → Int32 → xG → Option (Int32 × xG)} (hk19 : ∀ (l1 : Int32) (l2 : Int32) (l3 : Int32) (g : xG) (out : Int32 × xG), k19 l1 l2 l3 g = some out → xfrm fp_X12_clerks_60 g (out.2)) : ∀ (n : Nat) (l1 : Int32) (l2 : Int32) (l3 : Int32) (l4 : Int32) (l5 : Int32) (g : xG) (out : Int32 × xG), f_X12_clerks_60_59 k19 n l1 l2 l3 l4 l5 g = some out → xfrm fp_X12_clerks_60 g (out.2) := by
  intro n
  induction n with
  | zero => intro l1 l2 l3 l4 l5 g out H; exact absurd H (by simp [f_X12_clerks_60_59])
  | succ n ih =>
    intro l1 l2 l3 l4 l5 g out H
    have H : (xg (¬ ((g.1 60 18) < 0 ∨ 2 ≤ (g.1 60 18).toNatClampNeg)) (
  if (g.1 71 (g.1 60 18).toNatClampNeg) ≤ l5 then
    if l4 = 0 then
      k19 l1 l2 (l3 + 1) g
    else
      k19 l1 l3 (l3 + 1) g
  else
    (f_X12_isOpen_60 l5 g).bind fun w3 =>
    if w3 = 0 then
      f_X12_clerks_60_59 k19 n l1 l2 l3 l4 (l5 + 1) g
    else
      xg (¬ (((10 * (g.1 60 18)) + l5) < 0 ∨ 20 ≤ ((10 * (g.1 60 18)) + l5).toNatClampNeg)) (
        xg (¬ (((10 * (g.1 60 18)) + l5) < 0 ∨ 20 ≤ ((10 * (g.1 60 18)) + l5).toNatClampNeg)) (
          if (l3 &&& (((1 : Int32) <<< ((g.1 72 ((10 * (g.1 60 18)) + l5).toNatClampNeg) &&& 31)) ||| ((1 : Int32) <<< ((g.1 73 ((10 * (g.1 60 18)) + l5).toNatClampNeg) &&& 31)))) = 0 then
            f_X12_clerks_60_59 k19 n l1 l2 l3 0 (l5 + 1) g
          else
            f_X12_clerks_60_59 k19 n l1 l2 l3 l4 (l5 + 1) g)))) = some out := H
    obtain ⟨h6, H⟩ := xg_elim H
    by_cases h7 : (g.1 71 (g.1 60 18).toNatClampNeg) ≤ l5
    · rw [if_pos h7] at H
      by_cases h8 : l4 = 0
      · rw [if_pos h8] at H
        exact xfrm.tr xfrm.rf (hk19 _ _ _ _ _ H) rfl
      · rw [if_neg h8] at H
        exact xfrm.tr xfrm.rf (hk19 _ _ _ _ _ H) rfl
    · rw [if_neg h7] at H
      obtain ⟨w3, e3, H⟩ := xbind H
      by_cases h9 : w3 = 0
      · rw [if_pos h9] at H
        exact xfrm.tr xfrm.rf (ih _ _ _ _ _ _ _ H) rfl
      · rw [if_neg h9] at H
        obtain ⟨h10, H⟩ := xg_elim H
        obtain ⟨h11, H⟩ := xg_elim H
        by_cases h12 : (l3 &&& (((1 : Int32) <<< ((g.1 72 ((10 * (g.1 60 18)) + l5).toNatClampNeg) &&& 31)) ||| ((1 : Int32) <<< ((g.1 73 ((10 * (g.1 60 18)) + l5).toNatClampNeg) &&& 31)))) = 0
        · rw [if_pos h12] at H
          exact xfrm.tr xfrm.rf (ih _ _ _ _ _ _ _ H) rfl
        · rw [if_neg h12] at H
          exact xfrm.tr xfrm.rf (ih _ _ _ _ _ _ _ H) rfl
set_option maxRecDepth 20000 in
theorem t_X12_clerks_60_19 {k : xK} {S : List xSh} {out : Int32 × xG} (hS : xpf SH2 S) (A : xAt k mX12_clerks.2.1 12 SH2 S) (hR : xRet k 0 0 S (fun r g' => r = some (.int out.1) ∧ g' = out.2) mX12_clerks.2.2.2) (hrm : xrm k = { frames := 2, cells := 0, slots := 0, locals := 44 }) (hz : xhs k = xb0 k + S.length)   : ∀ (n : Nat) (l1 : Int32) (l2 : Int32) (l3 : Int32) (g : xG), f_X12_clerks_60_19 n l1 l2 l3 g = some out → xW k S 0 0 19 [some (.ref 60), some (.int l1), some (.int l2), some (.int l3), none, none] [] g := by
  intro n
  induction n with
  | zero => intro l1 l2 l3 g H; exact absurd H (by simp [f_X12_clerks_60_19])
  | succ n ih =>
    intro l1 l2 l3 g H
    have H : (xg (¬ ((g.1 60 18) < 0 ∨ 2 ≤ (g.1 60 18).toNatClampNeg)) (
  if ((1 : Int32) <<< ((g.1 70 (g.1 60 18).toNatClampNeg) &&& 31)) ≤ l3 then
    if l1 = 0 then
      (f_X12_bits l2).bind fun w2 =>
      some (w2, g)
    else
      some (l2, g)
  else
    if l2 < 0 then
      f_X12_clerks_60_59 (f_X12_clerks_60_19 n) xN l1 l2 l3 1 0 g
    else
      (f_X12_bits l3).bind fun w4 =>
      (f_X12_bits l2).bind fun w5 =>
      if w5 ≤ w4 then
        f_X12_clerks_60_59 (f_X12_clerks_60_19 n) xN l1 l2 l3 0 0 g
      else
        f_X12_clerks_60_59 (f_X12_clerks_60_19 n) xN l1 l2 l3 1 0 g)) = some out := H
    refine xb A [(.iload_n 3, 1, 0, 0, .null), (.iconst 1, 1, 0, 0, .int 1), (.aload_n 0, 1, 0, 0, .null), (.getfield 46, 3, 60, 23, .ref 70), (.aload_n 0, 1, 0, 0, .null), (.getfield 227, 3, 60, 18, .int 0)] (pc' := 29) (ls' := [some (.ref 60), some (.int l1), some (.int l2), some (.int l3), none, none]) (st' := [.int (g.1 60 18), .ref 70, .int 1, .int l3]) (g' := g) (by decide +kernel) rfl ?_
    obtain ⟨h2, H⟩ := xg_elim H
    refine xiald A (nxt := 30) (by decide +kernel) (hS _ _ sh_70) h2 ?_
    show xW k S 0 0 30 [some (.ref 60), some (.int l1), some (.int l2), some (.int l3), none, none] [.int (g.1 70 (g.1 60 18).toNatClampNeg), .int 1, .int l3] g
    refine xb A [(.ishl, 1, 0, 0, .null)] (pc' := 31) (ls' := [some (.ref 60), some (.int l1), some (.int l2), some (.int l3), none, none]) (st' := [.int ((1 : Int32) <<< ((g.1 70 (g.1 60 18).toNatClampNeg) &&& 31)), .int l3]) (g' := g) (by decide +kernel) rfl ?_
    refine xic_ge A (113) 144 34 (by decide +kernel) (fun h3 => ?_) (fun h3 => ?_)
    · rw [if_pos h3] at H
      refine xb A [(.iload_n 1, 1, 0, 0, .null)] (pc' := 145) (ls' := [some (.ref 60), some (.int l1), some (.int l2), some (.int l3), none, none]) (st' := [.int l1]) (g' := g) (by decide +kernel) rfl ?_
      refine xif_ne A (10) 155 148 (by decide +kernel) (fun h4 => ?_) (fun h4 => ?_)
      · rw [if_neg h4] at H
        refine xb A [(.iload_n 2, 1, 0, 0, .null)] (pc' := 156) (ls' := [some (.ref 60), some (.int l1), some (.int l2), some (.int l3), none, none]) (st' := [.int l2]) (g' := g) (by decide +kernel) rfl ?_
        obtain rfl := Option.some.inj H
        exact xret_i A hR hz (by decide +kernel) rfl ⟨rfl, rfl⟩
      · rw [if_pos h4] at H
        refine xb A [(.iload_n 2, 1, 0, 0, .null)] (pc' := 149) (ls' := [some (.ref 60), some (.int l1), some (.int l2), some (.int l3), none, none]) (st' := [.int l2]) (g' := g) (by decide +kernel) rfl ?_
        obtain ⟨w2, e2, H⟩ := xbind H
        refine xcallS A (ix := 336) (nxt := 152) hrm hz [.int l2] [] 1771 (c_X12_bits hS _ e2) ok_X12_bits (by decide +kernel) rfl (fun r g1 hq => ?_)
        rw [hq.1, hq.2]
        show xW k S 0 0 152 [some (.ref 60), some (.int l1), some (.int l2), some (.int l3), none, none] [.int w2] g
        refine xgoto A (4) 156 (by decide +kernel) ?_
        obtain rfl := Option.some.inj H
        exact xret_i A hR hz (by decide +kernel) rfl ⟨rfl, rfl⟩
    · rw [if_neg h3] at H
      refine xb A [(.iload_n 2, 1, 0, 0, .null)] (pc' := 35) (ls' := [some (.ref 60), some (.int l1), some (.int l2), some (.int l3), none, none]) (st' := [.int l2]) (g' := g) (by decide +kernel) rfl ?_
      refine xif_lt A (14) 49 38 (by decide +kernel) (fun h5 => ?_) (fun h5 => ?_)
      · rw [if_pos h5] at H
        refine xb A [(.iconst 1, 1, 0, 0, .int 1)] (pc' := 50) (ls' := [some (.ref 60), some (.int l1), some (.int l2), some (.int l3), none, none]) (st' := [.int 1]) (g' := g) (by decide +kernel) rfl ?_
        refine xgoto A (4) 54 (by decide +kernel) ?_
        refine xb A [(.istore 4, 2, 0, 0, .null), (.iconst 0, 1, 0, 0, .int 0), (.istore 5, 2, 0, 0, .null)] (pc' := 59) (ls' := [some (.ref 60), some (.int l1), some (.int l2), some (.int l3), some (.int 1), some (.int 0)]) (st' := []) (g' := g) (by decide +kernel) rfl ?_
        exact t_X12_clerks_60_59 hS A hR hrm hz ih _ _ _ _ _ _ _ H
      · rw [if_neg h5] at H
        refine xb A [(.iload_n 3, 1, 0, 0, .null)] (pc' := 39) (ls' := [some (.ref 60), some (.int l1), some (.int l2), some (.int l3), none, none]) (st' := [.int l3]) (g' := g) (by decide +kernel) rfl ?_
        obtain ⟨w4, e4, H⟩ := xbind H
        refine xcallS A (ix := 336) (nxt := 42) hrm hz [.int l3] [] 1771 (c_X12_bits hS _ e4) ok_X12_bits (by decide +kernel) rfl (fun r g1 hq => ?_)
        rw [hq.1, hq.2]
        show xW k S 0 0 42 [some (.ref 60), some (.int l1), some (.int l2), some (.int l3), none, none] [.int w4] g
        refine xb A [(.iload_n 2, 1, 0, 0, .null)] (pc' := 43) (ls' := [some (.ref 60), some (.int l1), some (.int l2), some (.int l3), none, none]) (st' := [.int l2, .int w4]) (g' := g) (by decide +kernel) rfl ?_
        obtain ⟨w5, e5, H⟩ := xbind H
        refine xcallS A (ix := 336) (nxt := 46) hrm hz [.int l2] [.int w4] 1771 (c_X12_bits hS _ e5) ok_X12_bits (by decide +kernel) rfl (fun r g1 hq => ?_)
        rw [hq.1, hq.2]
        show xW k S 0 0 46 [some (.ref 60), some (.int l1), some (.int l2), some (.int l3), none, none] [.int w5, .int w4] g
        refine xic_ge A (7) 53 49 (by decide +kernel) (fun h13 => ?_) (fun h13 => ?_)
        · rw [if_pos h13] at H
          refine xb A [(.iconst 0, 1, 0, 0, .int 0), (.istore 4, 2, 0, 0, .null), (.iconst 0, 1, 0, 0, .int 0), (.istore 5, 2, 0, 0, .null)] (pc' := 59) (ls' := [some (.ref 60), some (.int l1), some (.int l2), some (.int l3), some (.int 0), some (.int 0)]) (st' := []) (g' := g) (by decide +kernel) rfl ?_
          exact t_X12_clerks_60_59 hS A hR hrm hz ih _ _ _ _ _ _ _ H
        · rw [if_neg h13] at H
          refine xb A [(.iconst 1, 1, 0, 0, .int 1)] (pc' := 50) (ls' := [some (.ref 60), some (.int l1), some (.int l2), some (.int l3), none, none]) (st' := [.int 1]) (g' := g) (by decide +kernel) rfl ?_
          refine xgoto A (4) 54 (by decide +kernel) ?_
          refine xb A [(.istore 4, 2, 0, 0, .null), (.iconst 0, 1, 0, 0, .int 0), (.istore 5, 2, 0, 0, .null)] (pc' := 59) (ls' := [some (.ref 60), some (.int l1), some (.int l2), some (.int l3), some (.int 1), some (.int 0)]) (st' := []) (g' := g) (by decide +kernel) rfl ?_
          exact t_X12_clerks_60_59 hS A hR hrm hz ih _ _ _ _ _ _ _ H
theorem fr_X12_clerks_60_19   : ∀ (n : Nat) (l1 : Int32) (l2 : Int32) (l3 : Int32) (g : xG) (out : Int32 × xG), f_X12_clerks_60_19 n l1 l2 l3 g = some out → xfrm fp_X12_clerks_60 g (out.2) := by
  intro n
  induction n with
  | zero => intro l1 l2 l3 g out H; exact absurd H (by simp [f_X12_clerks_60_19])
  | succ n ih =>
    intro l1 l2 l3 g out H
    have H : (xg (¬ ((g.1 60 18) < 0 ∨ 2 ≤ (g.1 60 18).toNatClampNeg)) (
  if ((1 : Int32) <<< ((g.1 70 (g.1 60 18).toNatClampNeg) &&& 31)) ≤ l3 then
    if l1 = 0 then
      (f_X12_bits l2).bind fun w2 =>
      some (w2, g)
    else
      some (l2, g)
  else
    if l2 < 0 then
      f_X12_clerks_60_59 (f_X12_clerks_60_19 n) xN l1 l2 l3 1 0 g
    else
      (f_X12_bits l3).bind fun w4 =>
      (f_X12_bits l2).bind fun w5 =>
      if w5 ≤ w4 then
        f_X12_clerks_60_59 (f_X12_clerks_60_19 n) xN l1 l2 l3 0 0 g
      else
        f_X12_clerks_60_59 (f_X12_clerks_60_19 n) xN l1 l2 l3 1 0 g)) = some out := H
    obtain ⟨h2, H⟩ := xg_elim H
    by_cases h3 : ((1 : Int32) <<< ((g.1 70 (g.1 60 18).toNatClampNeg) &&& 31)) ≤ l3
    · rw [if_pos h3] at H
      by_cases h4 : l1 = 0
      · rw [if_pos h4] at H
        obtain ⟨w2, e2, H⟩ := xbind H
        obtain rfl := Option.some.inj H
        exact xfrm.rf
      · rw [if_neg h4] at H
        obtain rfl := Option.some.inj H
        exact xfrm.rf
    · rw [if_neg h3] at H
      by_cases h5 : l2 < 0
      · rw [if_pos h5] at H
        exact xfrm.tr xfrm.rf (fr_X12_clerks_60_59 ih _ _ _ _ _ _ _ _ H) rfl
      · rw [if_neg h5] at H
        obtain ⟨w4, e4, H⟩ := xbind H
        obtain ⟨w5, e5, H⟩ := xbind H
        by_cases h13 : w5 ≤ w4
        · rw [if_pos h13] at H
          exact xfrm.tr xfrm.rf (fr_X12_clerks_60_59 ih _ _ _ _ _ _ _ _ H) rfl
        · rw [if_neg h13] at H
          exact xfrm.tr xfrm.rf (fr_X12_clerks_60_59 ih _ _ _ _ _ _ _ _ H) rfl
set_option maxRecDepth 20000 in
theorem c_X12_clerks_60 {S : List xSh} (hS : xpf SH2 S) {g : xG} {p1 : Int32} (out : Int32 × xG) (H : f_X12_clerks_60 p1 g = some out) : xC mX12_clerks 2 44 0 0 S [.ref 60, .int p1] g S (fun r g' => r = some (.int out.1) ∧ g' = out.2) := by
  have H : (if (f_X12_in p1 0 1) = 0 then
  some ((-1), g)
else
  (f_X12_copies_60 g).bind fun w1 =>
  f_X12_clerks_60_19 xN p1 (-1) 0 w1) = some out := H
  refine xC.of 12 SH2 [some (.ref 60), some (.int p1), none, none, none, none] hS (by decide +kernel) rfl (fun _ _ => Nat.le_of_ble_eq_true rfl) (fun _ _ => rfl) ?_
  intro k A hR hrm hz
  refine xb A [(.iload_n 1, 1, 0, 0, .null), (.iconst 0, 1, 0, 0, .int 0), (.iconst 1, 1, 0, 0, .int 1)] (pc' := 3) (ls' := [some (.ref 60), some (.int p1), none, none, none, none]) (st' := [.int 1, .int 0, .int p1]) (g' := g) (by decide +kernel) rfl ?_
  refine xcallS A (ix := 307) (nxt := 6) hrm hz [.int p1, .int 0, .int 1] [] 1696 (c_X12_in hS _ rfl) ok_X12_in (by decide +kernel) rfl (fun r g1 hq => ?_)
  rw [hq.1, hq.2]
  show xW k S 0 0 6 [some (.ref 60), some (.int p1), none, none, none, none] [.int (f_X12_in p1 0 1)] g
  refine xif_ne A (5) 11 9 (by decide +kernel) (fun h1 => ?_) (fun h1 => ?_)
  · rw [if_neg h1] at H
    refine xb A [(.aload_n 0, 1, 0, 0, .null)] (pc' := 12) (ls' := [some (.ref 60), some (.int p1), none, none, none, none]) (st' := [.ref 60]) (g' := g) (by decide +kernel) rfl ?_
    obtain ⟨w1, e1, H⟩ := xbind H
    refine xcallV A (ix := 320) (nxt := 15) hrm hz [] [] 1699 (c_X12_copies_60 hS _ e1) ok_X12_copies (by decide +kernel) rfl (fun r g1 hq => ?_)
    rw [hq.1, hq.2]
    show xW k S 0 0 15 [some (.ref 60), some (.int p1), none, none, none, none] [] w1
    refine xb A [(.iconst (-1), 1, 0, 0, .int (-1)), (.istore_n 2, 1, 0, 0, .null), (.iconst 0, 1, 0, 0, .int 0), (.istore_n 3, 1, 0, 0, .null)] (pc' := 19) (ls' := [some (.ref 60), some (.int p1), some (.int (-1)), some (.int 0), none, none]) (st' := []) (g' := w1) (by decide +kernel) rfl ?_
    exact t_X12_clerks_60_19 hS A hR hrm hz _ _ _ _ _ H
  · rw [if_pos h1] at H
    refine xb A [(.iconst (-1), 1, 0, 0, .int (-1))] (pc' := 10) (ls' := [some (.ref 60), some (.int p1), none, none, none, none]) (st' := [.int (-1)]) (g' := g) (by decide +kernel) rfl ?_
    obtain rfl := Option.some.inj H
    exact xret_i A hR hz (by decide +kernel) rfl ⟨rfl, rfl⟩
theorem fr_X12_clerks_60 {p1 : Int32} {g : xG} (out : Int32 × xG) (H : f_X12_clerks_60 p1 g = some out) : xfrm fp_X12_clerks_60 g (out.2) := by
  have H : (if (f_X12_in p1 0 1) = 0 then
  some ((-1), g)
else
  (f_X12_copies_60 g).bind fun w1 =>
  f_X12_clerks_60_19 xN p1 (-1) 0 w1) = some out := H
  by_cases h1 : (f_X12_in p1 0 1) = 0
  · rw [if_pos h1] at H
    obtain rfl := Option.some.inj H
    exact xfrm.rf
  · rw [if_neg h1] at H
    obtain ⟨w1, e1, H⟩ := xbind H
    have hf1 : xfrm fp_X12_clerks_60 g (w1) := xfrm.tr xfrm.rf (fr_X12_copies_60 _ e1) rfl
    exact xfrm.tr hf1 (fr_X12_clerks_60_19 _ _ _ _ _ _ H) rfl
def f_X12_sumTo_60_4  (g : xG) : Nat → Int32 → Int32 → Int32 → Option (Int32)
  | 0, _, _, _ => none
  | n + 1, l1, l2, l3 =>
    xg (¬ ((g.1 60 18) < 0 ∨ 2 ≤ (g.1 60 18).toNatClampNeg)) (
      if (g.1 75 (g.1 60 18).toNatClampNeg) ≤ l3 then
        some l2
      else
        xg (¬ (l3 < 0 ∨ 40 ≤ l3.toNatClampNeg)) (
          xg (¬ (((7 * (g.1 94 l3.toNatClampNeg)) + l1) < 0 ∨ 49 ≤ ((7 * (g.1 94 l3.toNatClampNeg)) + l1).toNatClampNeg)) (
            f_X12_sumTo_60_4 g n l1 (l2 + (g.1 95 ((7 * (g.1 94 l3.toNatClampNeg)) + l1).toNatClampNeg)) (l3 + 1))))
def f_X12_sumTo_60 (p1 : Int32) (g : xG) : Option (Int32) :=
  f_X12_sumTo_60_4 g xN p1 0 0
set_option maxRecDepth 20000 in
theorem t_X12_sumTo_60_4 {k : xK} {S : List xSh} {g : xG} {out : Int32} (hS : xpf SH2 S) (A : xAt k mX12_sumTo.2.1 12 SH2 S) (hR : xRet k 0 0 S (fun r g' => r = some (.int out) ∧ g' = g) mX12_sumTo.2.2.2) (hrm : xrm k = { frames := 0, cells := 0, slots := 0, locals := 0 }) (hz : xhs k = xb0 k + S.length)   : ∀ (n : Nat) (l1 : Int32) (l2 : Int32) (l3 : Int32), f_X12_sumTo_60_4 g n l1 l2 l3 = some out → xW k S 0 0 4 [some (.ref 60), some (.int l1), some (.int l2), some (.int l3)] [] g := by
  intro n
  induction n with
  | zero => intro l1 l2 l3 H; exact absurd H (by simp [f_X12_sumTo_60_4])
  | succ n ih =>
    intro l1 l2 l3 H
    have H : (xg (¬ ((g.1 60 18) < 0 ∨ 2 ≤ (g.1 60 18).toNatClampNeg)) (
  if (g.1 75 (g.1 60 18).toNatClampNeg) ≤ l3 then
    some l2
  else
    xg (¬ (l3 < 0 ∨ 40 ≤ l3.toNatClampNeg)) (
      xg (¬ (((7 * (g.1 94 l3.toNatClampNeg)) + l1) < 0 ∨ 49 ≤ ((7 * (g.1 94 l3.toNatClampNeg)) + l1).toNatClampNeg)) (
        f_X12_sumTo_60_4 g n l1 (l2 + (g.1 95 ((7 * (g.1 94 l3.toNatClampNeg)) + l1).toNatClampNeg)) (l3 + 1))))) = some out := H
    refine xb A [(.iload_n 3, 1, 0, 0, .null), (.aload_n 0, 1, 0, 0, .null), (.getfield 61, 3, 60, 28, .ref 75), (.aload_n 0, 1, 0, 0, .null), (.getfield 227, 3, 60, 18, .int 0)] (pc' := 13) (ls' := [some (.ref 60), some (.int l1), some (.int l2), some (.int l3)]) (st' := [.int (g.1 60 18), .ref 75, .int l3]) (g' := g) (by decide +kernel) rfl ?_
    obtain ⟨h1, H⟩ := xg_elim H
    refine xiald A (nxt := 14) (by decide +kernel) (hS _ _ sh_75) h1 ?_
    show xW k S 0 0 14 [some (.ref 60), some (.int l1), some (.int l2), some (.int l3)] [.int (g.1 75 (g.1 60 18).toNatClampNeg), .int l3] g
    refine xic_ge A (28) 42 17 (by decide +kernel) (fun h2 => ?_) (fun h2 => ?_)
    · rw [if_pos h2] at H
      refine xb A [(.iload_n 2, 1, 0, 0, .null)] (pc' := 43) (ls' := [some (.ref 60), some (.int l1), some (.int l2), some (.int l3)]) (st' := [.int l2]) (g' := g) (by decide +kernel) rfl ?_
      obtain rfl := Option.some.inj H
      exact xret_i A hR hz (by decide +kernel) rfl ⟨rfl, rfl⟩
    · rw [if_neg h2] at H
      refine xb A [(.iload_n 2, 1, 0, 0, .null), (.aload_n 0, 1, 0, 0, .null), (.getfield 122, 3, 60, 54, .ref 95), (.bipush 7, 2, 0, 0, .int 7), (.aload_n 0, 1, 0, 0, .null), (.getfield 119, 3, 60, 51, .ref 94), (.iload_n 3, 1, 0, 0, .null)] (pc' := 29) (ls' := [some (.ref 60), some (.int l1), some (.int l2), some (.int l3)]) (st' := [.int l3, .ref 94, .int 7, .ref 95, .int l2]) (g' := g) (by decide +kernel) rfl ?_
      obtain ⟨h3, H⟩ := xg_elim H
      refine xiald A (nxt := 30) (by decide +kernel) (hS _ _ sh_94) h3 ?_
      show xW k S 0 0 30 [some (.ref 60), some (.int l1), some (.int l2), some (.int l3)] [.int (g.1 94 l3.toNatClampNeg), .int 7, .ref 95, .int l2] g
      refine xb A [(.imul, 1, 0, 0, .null), (.iload_n 1, 1, 0, 0, .null), (.iadd, 1, 0, 0, .null)] (pc' := 33) (ls' := [some (.ref 60), some (.int l1), some (.int l2), some (.int l3)]) (st' := [.int ((7 * (g.1 94 l3.toNatClampNeg)) + l1), .ref 95, .int l2]) (g' := g) (by decide +kernel) rfl ?_
      obtain ⟨h4, H⟩ := xg_elim H
      refine xiald A (nxt := 34) (by decide +kernel) (hS _ _ sh_95) h4 ?_
      show xW k S 0 0 34 [some (.ref 60), some (.int l1), some (.int l2), some (.int l3)] [.int (g.1 95 ((7 * (g.1 94 l3.toNatClampNeg)) + l1).toNatClampNeg), .int l2] g
      refine xb A [(.iadd, 1, 0, 0, .null), (.istore_n 2, 1, 0, 0, .null), (.iinc 3 1, 3, 0, 0, .null)] (pc' := 39) (ls' := [some (.ref 60), some (.int l1), some (.int (l2 + (g.1 95 ((7 * (g.1 94 l3.toNatClampNeg)) + l1).toNatClampNeg))), some (.int (l3 + 1))]) (st' := []) (g' := g) (by decide +kernel) rfl ?_
      refine xgoto A (-35) 4 (by decide +kernel) ?_
      exact ih _ _ _ H
set_option maxRecDepth 20000 in
theorem c_X12_sumTo_60 {S : List xSh} (hS : xpf SH2 S) {g : xG} {p1 : Int32} (out : Int32) (H : f_X12_sumTo_60 p1 g = some out) : xC mX12_sumTo 0 0 0 0 S [.ref 60, .int p1] g S (fun r g' => r = some (.int out) ∧ g' = g) := by
  have H : (f_X12_sumTo_60_4 g xN p1 0 0) = some out := H
  refine xC.of 12 SH2 [some (.ref 60), some (.int p1), none, none] hS (by decide +kernel) rfl (fun _ _ => Nat.le_of_ble_eq_true rfl) (fun _ _ => rfl) ?_
  intro k A hR hrm hz
  refine xb A [(.iconst 0, 1, 0, 0, .int 0), (.istore_n 2, 1, 0, 0, .null), (.iconst 0, 1, 0, 0, .int 0), (.istore_n 3, 1, 0, 0, .null)] (pc' := 4) (ls' := [some (.ref 60), some (.int p1), some (.int 0), some (.int 0)]) (st' := []) (g' := g) (by decide +kernel) rfl ?_
  exact t_X12_sumTo_60_4 hS A hR hrm hz _ _ _ _ H
def f_X12_widestOf_60_4  (g : xG) : Nat → Int32 → Int32 → Int32 → Option (Int32)
  | 0, _, _, _ => none
  | n + 1, l1, l2, l3 =>
    xg (¬ ((g.1 60 18) < 0 ∨ 2 ≤ (g.1 60 18).toNatClampNeg)) (
      if (g.1 70 (g.1 60 18).toNatClampNeg) ≤ l3 then
        some l2
      else
        xg (¬ (((7 * l1) + l3) < 0 ∨ 49 ≤ ((7 * l1) + l3).toNatClampNeg)) (
          if (g.1 95 ((7 * l1) + l3).toNatClampNeg) ≤ l2 then
            f_X12_widestOf_60_4 g n l1 l2 (l3 + 1)
          else
            xg (¬ (((7 * l1) + l3) < 0 ∨ 49 ≤ ((7 * l1) + l3).toNatClampNeg)) (
              f_X12_widestOf_60_4 g n l1 (g.1 95 ((7 * l1) + l3).toNatClampNeg) (l3 + 1))))
def f_X12_widestOf_60 (p1 : Int32) (g : xG) : Option (Int32) :=
  f_X12_widestOf_60_4 g xN p1 0 0
set_option maxRecDepth 20000 in
theorem t_X12_widestOf_60_4 {k : xK} {S : List xSh} {g : xG} {out : Int32} (hS : xpf SH2 S) (A : xAt k mX12_widestOf.2.1 12 SH2 S) (hR : xRet k 0 0 S (fun r g' => r = some (.int out) ∧ g' = g) mX12_widestOf.2.2.2) (hrm : xrm k = { frames := 0, cells := 0, slots := 0, locals := 0 }) (hz : xhs k = xb0 k + S.length)   : ∀ (n : Nat) (l1 : Int32) (l2 : Int32) (l3 : Int32), f_X12_widestOf_60_4 g n l1 l2 l3 = some out → xW k S 0 0 4 [some (.ref 60), some (.int l1), some (.int l2), some (.int l3)] [] g := by
  intro n
  induction n with
  | zero => intro l1 l2 l3 H; exact absurd H (by simp [f_X12_widestOf_60_4])
  | succ n ih =>
    intro l1 l2 l3 H
    have H : (xg (¬ ((g.1 60 18) < 0 ∨ 2 ≤ (g.1 60 18).toNatClampNeg)) (
  if (g.1 70 (g.1 60 18).toNatClampNeg) ≤ l3 then
    some l2
  else
    xg (¬ (((7 * l1) + l3) < 0 ∨ 49 ≤ ((7 * l1) + l3).toNatClampNeg)) (
      if (g.1 95 ((7 * l1) + l3).toNatClampNeg) ≤ l2 then
        f_X12_widestOf_60_4 g n l1 l2 (l3 + 1)
      else
        xg (¬ (((7 * l1) + l3) < 0 ∨ 49 ≤ ((7 * l1) + l3).toNatClampNeg)) (
          f_X12_widestOf_60_4 g n l1 (g.1 95 ((7 * l1) + l3).toNatClampNeg) (l3 + 1))))) = some out := H
    refine xb A [(.iload_n 3, 1, 0, 0, .null), (.aload_n 0, 1, 0, 0, .null), (.getfield 46, 3, 60, 23, .ref 70), (.aload_n 0, 1, 0, 0, .null), (.getfield 227, 3, 60, 18, .int 0)] (pc' := 13) (ls' := [some (.ref 60), some (.int l1), some (.int l2), some (.int l3)]) (st' := [.int (g.1 60 18), .ref 70, .int l3]) (g' := g) (by decide +kernel) rfl ?_
    obtain ⟨h1, H⟩ := xg_elim H
    refine xiald A (nxt := 14) (by decide +kernel) (hS _ _ sh_70) h1 ?_
    show xW k S 0 0 14 [some (.ref 60), some (.int l1), some (.int l2), some (.int l3)] [.int (g.1 70 (g.1 60 18).toNatClampNeg), .int l3] g
    refine xic_ge A (36) 50 17 (by decide +kernel) (fun h2 => ?_) (fun h2 => ?_)
    · rw [if_pos h2] at H
      refine xb A [(.iload_n 2, 1, 0, 0, .null)] (pc' := 51) (ls' := [some (.ref 60), some (.int l1), some (.int l2), some (.int l3)]) (st' := [.int l2]) (g' := g) (by decide +kernel) rfl ?_
      obtain rfl := Option.some.inj H
      exact xret_i A hR hz (by decide +kernel) rfl ⟨rfl, rfl⟩
    · rw [if_neg h2] at H
      refine xb A [(.aload_n 0, 1, 0, 0, .null), (.getfield 122, 3, 60, 54, .ref 95), (.bipush 7, 2, 0, 0, .int 7), (.iload_n 1, 1, 0, 0, .null), (.imul, 1, 0, 0, .null), (.iload_n 3, 1, 0, 0, .null), (.iadd, 1, 0, 0, .null)] (pc' := 27) (ls' := [some (.ref 60), some (.int l1), some (.int l2), some (.int l3)]) (st' := [.int ((7 * l1) + l3), .ref 95]) (g' := g) (by decide +kernel) rfl ?_
      obtain ⟨h3, H⟩ := xg_elim H
      refine xiald A (nxt := 28) (by decide +kernel) (hS _ _ sh_95) h3 ?_
      show xW k S 0 0 28 [some (.ref 60), some (.int l1), some (.int l2), some (.int l3)] [.int (g.1 95 ((7 * l1) + l3).toNatClampNeg)] g
      refine xb A [(.iload_n 2, 1, 0, 0, .null)] (pc' := 29) (ls' := [some (.ref 60), some (.int l1), some (.int l2), some (.int l3)]) (st' := [.int l2, .int (g.1 95 ((7 * l1) + l3).toNatClampNeg)]) (g' := g) (by decide +kernel) rfl ?_
      refine xic_le A (15) 44 32 (by decide +kernel) (fun h4 => ?_) (fun h4 => ?_)
      · rw [if_pos h4] at H
        refine xb A [(.iinc 3 1, 3, 0, 0, .null)] (pc' := 47) (ls' := [some (.ref 60), some (.int l1), some (.int l2), some (.int (l3 + 1))]) (st' := []) (g' := g) (by decide +kernel) rfl ?_
        refine xgoto A (-43) 4 (by decide +kernel) ?_
        exact ih _ _ _ H
      · rw [if_neg h4] at H
        refine xb A [(.aload_n 0, 1, 0, 0, .null), (.getfield 122, 3, 60, 54, .ref 95), (.bipush 7, 2, 0, 0, .int 7), (.iload_n 1, 1, 0, 0, .null), (.imul, 1, 0, 0, .null), (.iload_n 3, 1, 0, 0, .null), (.iadd, 1, 0, 0, .null)] (pc' := 42) (ls' := [some (.ref 60), some (.int l1), some (.int l2), some (.int l3)]) (st' := [.int ((7 * l1) + l3), .ref 95]) (g' := g) (by decide +kernel) rfl ?_
        obtain ⟨h5, H⟩ := xg_elim H
        refine xiald A (nxt := 43) (by decide +kernel) (hS _ _ sh_95) h5 ?_
        show xW k S 0 0 43 [some (.ref 60), some (.int l1), some (.int l2), some (.int l3)] [.int (g.1 95 ((7 * l1) + l3).toNatClampNeg)] g
        refine xb A [(.istore_n 2, 1, 0, 0, .null), (.iinc 3 1, 3, 0, 0, .null)] (pc' := 47) (ls' := [some (.ref 60), some (.int l1), some (.int (g.1 95 ((7 * l1) + l3).toNatClampNeg)), some (.int (l3 + 1))]) (st' := []) (g' := g) (by decide +kernel) rfl ?_
        refine xgoto A (-43) 4 (by decide +kernel) ?_
        exact ih _ _ _ H
set_option maxRecDepth 20000 in
theorem c_X12_widestOf_60 {S : List xSh} (hS : xpf SH2 S) {g : xG} {p1 : Int32} (out : Int32) (H : f_X12_widestOf_60 p1 g = some out) : xC mX12_widestOf 0 0 0 0 S [.ref 60, .int p1] g S (fun r g' => r = some (.int out) ∧ g' = g) := by
  have H : (f_X12_widestOf_60_4 g xN p1 0 0) = some out := H
  refine xC.of 12 SH2 [some (.ref 60), some (.int p1), none, none] hS (by decide +kernel) rfl (fun _ _ => Nat.le_of_ble_eq_true rfl) (fun _ _ => rfl) ?_
  intro k A hR hrm hz
  refine xb A [(.iconst 0, 1, 0, 0, .int 0), (.istore_n 2, 1, 0, 0, .null), (.iconst 0, 1, 0, 0, .int 0), (.istore_n 3, 1, 0, 0, .null)] (pc' := 4) (ls' := [some (.ref 60), some (.int p1), some (.int 0), some (.int 0)]) (st' := []) (g' := g) (by decide +kernel) rfl ?_
  exact t_X12_widestOf_60_4 hS A hR hrm hz _ _ _ _ H
def fp_X12_leastTown_60 : List (Nat × Option Nat) := [(60, some 52), (60, some 53), (94, none), (95, none)]
def f_X12_leastTown_60_58 (k25 : Int32 → Int32 → Int32 → Int32 → Int32 → xG → Option (Int32 × xG)) (l1 : Int32) (l2 : Int32) (l3 : Int32) (l4 : Int32) (l5 : Int32) (s0 : Int32) (g : xG) : Option (Int32 × xG) :=
  if l3 < 0 then
    k25 l1 l2 l5 s0 (l5 + 1) g
  else
    if s0 < l4 then
      k25 l1 l2 l5 s0 (l5 + 1) g
    else
      k25 l1 l2 l3 l4 (l5 + 1) g
def f_X12_leastTown_60_25  : Nat → Int32 → Int32 → Int32 → Int32 → Int32 → xG → Option (Int32 × xG)
  | 0, _, _, _, _, _, _ => none
  | n + 1, l1, l2, l3, l4, l5, g =>
    xg (¬ ((g.1 60 18) < 0 ∨ 2 ≤ (g.1 60 18).toNatClampNeg)) (
      if (g.1 70 (g.1 60 18).toNatClampNeg) ≤ l5 then
        if l2 = 0 then
          some (l3, g)
        else
          some (l4, g)
      else
        if l1 = 0 then
          (f_X12_widestOf_60 l5 g).bind fun w2 =>
          f_X12_leastTown_60_58 (f_X12_leastTown_60_25 n) l1 l2 l3 l4 l5 w2 g
        else
          (f_X12_sumTo_60 l5 g).bind fun w3 =>
          f_X12_leastTown_60_58 (f_X12_leastTown_60_25 n) l1 l2 l3 l4 l5 w3 g)
def f_X12_leastTown_60 (p1 : Int32) (p2 : Int32) (g : xG) : Option (Int32 × xG) :=
  if (f_X12_in p2 0 1) = 0 then
    some ((-1), g)
  else
    (f_X12_copies_60 g).bind fun w1 =>
    f_X12_leastTown_60_25 xN p1 p2 (-2) (-2) 0 w1
set_option maxRecDepth 20000 in
theorem t_X12_leastTown_60_58 {k : xK} {S : List xSh} {out : Int32 × xG} (hS : xpf SH2 S) (A : xAt k mX12_leastTown.2.1 12 SH2 S) (hR : xRet k 0 0 S (fun r g' => r = some (.int out.1) ∧ g' = out.2) mX12_leastTown.2.2.2) (hrm : xrm k = { frames := 2, cells := 0, slots := 0, locals := 44 }) (hz : xhs k = xb0 k + S.length) {k25 : Int32 → Int32 → Int32 → Int32 → Int32 → xG → Option (Int32 × xG)} (hk25 : ∀ (l1 : Int32) (l2 : Int32) (l3 : Int32) (l4 : Int32) (l5 : Int32) (g : xG), k25 l1 l2 l3 l4 l5 g = some out → xW k S 0 0 25 [some (.ref 60), some (.int l1), some (.int l2), some (.int l3), some (.int l4), some (.int l5), none] [] g) : ∀ (l1 : Int32) (l2 : Int32) (l3 : Int32) (l4 : Int32) (l5 : Int32) (s0 : Int32) (g : xG), f_X12_leastTown_60_58 k25 l1 l2 l3 l4 l5 s0 g = some out → xW k S 0 0 58 [some (.ref 60), some (.int l1), some (.int l2), some (.int l3), some (.int l4), some (.int l5), none] [.int s0] g := by
  intro l1 l2 l3 l4 l5 s0 g H
  have H : (if l3 < 0 then
  k25 l1 l2 l5 s0 (l5 + 1) g
else
  if s0 < l4 then
    k25 l1 l2 l5 s0 (l5 + 1) g
  else
    k25 l1 l2 l3 l4 (l5 + 1) g) = some out := H
  refine xb A [(.istore 6, 2, 0, 0, .null), (.iload_n 3, 1, 0, 0, .null)] (pc' := 61) (ls' := [some (.ref 60), some (.int l1), some (.int l2), some (.int l3), some (.int l4), some (.int l5), some (.int s0)]) (st' := [.int l3]) (g' := g) (by decide +kernel) rfl ?_
  refine xif_lt A (13) 74 64 (by decide +kernel) (fun h6 => ?_) (fun h6 => ?_)
  · rw [if_pos h6] at H
    refine xb A [(.iload 5, 2, 0, 0, .null), (.istore_n 3, 1, 0, 0, .null), (.iload 6, 2, 0, 0, .null), (.istore 4, 2, 0, 0, .null), (.iinc 5 1, 3, 0, 0, .null)] (pc' := 84) (ls' := [some (.ref 60), some (.int l1), some (.int l2), some (.int l5), some (.int s0), some (.int (l5 + 1)), some (.int s0)]) (st' := []) (g' := g) (by decide +kernel) rfl ?_
    refine xgoto A (-59) 25 (by decide +kernel) ?_
    refine xweak (ls' := [some (.ref 60), some (.int l1), some (.int l2), some (.int l5), some (.int s0), some (.int (l5 + 1)), none]) (by exact ⟨rfl, ⟨rfl, ⟨rfl, ⟨rfl, ⟨rfl, ⟨rfl, trivial⟩⟩⟩⟩⟩⟩) ?_
    exact hk25 _ _ _ _ _ _ H
  · rw [if_neg h6] at H
    refine xb A [(.iload 6, 2, 0, 0, .null), (.iload 4, 2, 0, 0, .null)] (pc' := 68) (ls' := [some (.ref 60), some (.int l1), some (.int l2), some (.int l3), some (.int l4), some (.int l5), some (.int s0)]) (st' := [.int l4, .int s0]) (g' := g) (by decide +kernel) rfl ?_
    refine xic_lt A (6) 74 71 (by decide +kernel) (fun h7 => ?_) (fun h7 => ?_)
    · rw [if_pos h7] at H
      refine xb A [(.iload 5, 2, 0, 0, .null), (.istore_n 3, 1, 0, 0, .null), (.iload 6, 2, 0, 0, .null), (.istore 4, 2, 0, 0, .null), (.iinc 5 1, 3, 0, 0, .null)] (pc' := 84) (ls' := [some (.ref 60), some (.int l1), some (.int l2), some (.int l5), some (.int s0), some (.int (l5 + 1)), some (.int s0)]) (st' := []) (g' := g) (by decide +kernel) rfl ?_
      refine xgoto A (-59) 25 (by decide +kernel) ?_
      refine xweak (ls' := [some (.ref 60), some (.int l1), some (.int l2), some (.int l5), some (.int s0), some (.int (l5 + 1)), none]) (by exact ⟨rfl, ⟨rfl, ⟨rfl, ⟨rfl, ⟨rfl, ⟨rfl, trivial⟩⟩⟩⟩⟩⟩) ?_
      exact hk25 _ _ _ _ _ _ H
    · rw [if_neg h7] at H
      refine xgoto A (10) 81 (by decide +kernel) ?_
      refine xb A [(.iinc 5 1, 3, 0, 0, .null)] (pc' := 84) (ls' := [some (.ref 60), some (.int l1), some (.int l2), some (.int l3), some (.int l4), some (.int (l5 + 1)), some (.int s0)]) (st' := []) (g' := g) (by decide +kernel) rfl ?_
      refine xgoto A (-59) 25 (by decide +kernel) ?_
      refine xweak (ls' := [some (.ref 60), some (.int l1), some (.int l2), some (.int l3), some (.int l4), some (.int (l5 + 1)), none]) (by exact ⟨rfl, ⟨rfl, ⟨rfl, ⟨rfl, ⟨rfl, ⟨rfl, trivial⟩⟩⟩⟩⟩⟩) ?_
      exact hk25 _ _ _ _ _ _ H
theorem fr_X12_leastTown_60_58 {k25 : Int32 → Int32 → Int32 → Int32 → Int32 → xG → Option (Int32 × xG)} (hk25 : ∀ (l1 : Int32) (l2 : Int32) (l3 : Int32) (l4 : Int32) (l5 : Int32) (g : xG) (out : Int32 × xG), k25 l1 l2 l3 l4 l5 g = some out → xfrm fp_X12_leastTown_60 g (out.2)) : ∀ (l1 : Int32) (l2 : Int32) (l3 : Int32) (l4 : Int32) (l5 : Int32) (s0 : Int32) (g : xG) (out : Int32 × xG), f_X12_leastTown_60_58 k25 l1 l2 l3 l4 l5 s0 g = some out → xfrm fp_X12_leastTown_60 g (out.2) := by
  intro l1 l2 l3 l4 l5 s0 g out H
  have H : (if l3 < 0 then
  k25 l1 l2 l5 s0 (l5 + 1) g
else
  if s0 < l4 then
    k25 l1 l2 l5 s0 (l5 + 1) g
  else
    k25 l1 l2 l3 l4 (l5 + 1) g) = some out := H
  by_cases h6 : l3 < 0
  · rw [if_pos h6] at H
    exact xfrm.tr xfrm.rf (hk25 _ _ _ _ _ _ _ H) rfl
  · rw [if_neg h6] at H
    by_cases h7 : s0 < l4
    · rw [if_pos h7] at H
      exact xfrm.tr xfrm.rf (hk25 _ _ _ _ _ _ _ H) rfl
    · rw [if_neg h7] at H
      exact xfrm.tr xfrm.rf (hk25 _ _ _ _ _ _ _ H) rfl
set_option maxRecDepth 20000 in
theorem t_X12_leastTown_60_25 {k : xK} {S : List xSh} {out : Int32 × xG} (hS : xpf SH2 S) (A : xAt k mX12_leastTown.2.1 12 SH2 S) (hR : xRet k 0 0 S (fun r g' => r = some (.int out.1) ∧ g' = out.2) mX12_leastTown.2.2.2) (hrm : xrm k = { frames := 2, cells := 0, slots := 0, locals := 44 }) (hz : xhs k = xb0 k + S.length)   : ∀ (n : Nat) (l1 : Int32) (l2 : Int32) (l3 : Int32) (l4 : Int32) (l5 : Int32) (g : xG), f_X12_leastTown_60_25 n l1 l2 l3 l4 l5 g = some out → xW k S 0 0 25 [some (.ref 60), some (.int l1), some (.int l2), some (.int l3), some (.int l4), some (.int l5), none] [] g := by
  intro n
  induction n with
  | zero => intro l1 l2 l3 l4 l5 g H; exact absurd H (by simp [f_X12_leastTown_60_25])
  | succ n ih =>
    intro l1 l2 l3 l4 l5 g H
    have H : (xg (¬ ((g.1 60 18) < 0 ∨ 2 ≤ (g.1 60 18).toNatClampNeg)) (
  if (g.1 70 (g.1 60 18).toNatClampNeg) ≤ l5 then
    if l2 = 0 then
      some (l3, g)
    else
      some (l4, g)
  else
    if l1 = 0 then
      (f_X12_widestOf_60 l5 g).bind fun w2 =>
      f_X12_leastTown_60_58 (f_X12_leastTown_60_25 n) l1 l2 l3 l4 l5 w2 g
    else
      (f_X12_sumTo_60 l5 g).bind fun w3 =>
      f_X12_leastTown_60_58 (f_X12_leastTown_60_25 n) l1 l2 l3 l4 l5 w3 g)) = some out := H
    refine xb A [(.iload 5, 2, 0, 0, .null), (.aload_n 0, 1, 0, 0, .null), (.getfield 46, 3, 60, 23, .ref 70), (.aload_n 0, 1, 0, 0, .null), (.getfield 227, 3, 60, 18, .int 0)] (pc' := 35) (ls' := [some (.ref 60), some (.int l1), some (.int l2), some (.int l3), some (.int l4), some (.int l5), none]) (st' := [.int (g.1 60 18), .ref 70, .int l5]) (g' := g) (by decide +kernel) rfl ?_
    obtain ⟨h2, H⟩ := xg_elim H
    refine xiald A (nxt := 36) (by decide +kernel) (hS _ _ sh_70) h2 ?_
    show xW k S 0 0 36 [some (.ref 60), some (.int l1), some (.int l2), some (.int l3), some (.int l4), some (.int l5), none] [.int (g.1 70 (g.1 60 18).toNatClampNeg), .int l5] g
    refine xic_ge A (51) 87 39 (by decide +kernel) (fun h3 => ?_) (fun h3 => ?_)
    · rw [if_pos h3] at H
      refine xb A [(.iload_n 2, 1, 0, 0, .null)] (pc' := 88) (ls' := [some (.ref 60), some (.int l1), some (.int l2), some (.int l3), some (.int l4), some (.int l5), none]) (st' := [.int l2]) (g' := g) (by decide +kernel) rfl ?_
      refine xif_ne A (7) 95 91 (by decide +kernel) (fun h4 => ?_) (fun h4 => ?_)
      · rw [if_neg h4] at H
        refine xb A [(.iload 4, 2, 0, 0, .null)] (pc' := 97) (ls' := [some (.ref 60), some (.int l1), some (.int l2), some (.int l3), some (.int l4), some (.int l5), none]) (st' := [.int l4]) (g' := g) (by decide +kernel) rfl ?_
        obtain rfl := Option.some.inj H
        exact xret_i A hR hz (by decide +kernel) rfl ⟨rfl, rfl⟩
      · rw [if_pos h4] at H
        refine xb A [(.iload_n 3, 1, 0, 0, .null)] (pc' := 92) (ls' := [some (.ref 60), some (.int l1), some (.int l2), some (.int l3), some (.int l4), some (.int l5), none]) (st' := [.int l3]) (g' := g) (by decide +kernel) rfl ?_
        refine xgoto A (5) 97 (by decide +kernel) ?_
        obtain rfl := Option.some.inj H
        exact xret_i A hR hz (by decide +kernel) rfl ⟨rfl, rfl⟩
    · rw [if_neg h3] at H
      refine xb A [(.iload_n 1, 1, 0, 0, .null)] (pc' := 40) (ls' := [some (.ref 60), some (.int l1), some (.int l2), some (.int l3), some (.int l4), some (.int l5), none]) (st' := [.int l1]) (g' := g) (by decide +kernel) rfl ?_
      refine xif_eq A (12) 52 43 (by decide +kernel) (fun h5 => ?_) (fun h5 => ?_)
      · rw [if_pos h5] at H
        refine xb A [(.aload_n 0, 1, 0, 0, .null), (.iload 5, 2, 0, 0, .null)] (pc' := 55) (ls' := [some (.ref 60), some (.int l1), some (.int l2), some (.int l3), some (.int l4), some (.int l5), none]) (st' := [.int l5, .ref 60]) (g' := g) (by decide +kernel) rfl ?_
        obtain ⟨w2, e2, H⟩ := xbind H
        refine xcallV A (ix := 458) (nxt := 58) hrm hz [.int l5] [] 1969 (c_X12_widestOf_60 hS _ e2) ok_X12_widestOf (by decide +kernel) rfl (fun r g1 hq => ?_)
        rw [hq.1, hq.2]
        show xW k S 0 0 58 [some (.ref 60), some (.int l1), some (.int l2), some (.int l3), some (.int l4), some (.int l5), none] [.int w2] g
        exact t_X12_leastTown_60_58 hS A hR hrm hz ih _ _ _ _ _ _ _ H
      · rw [if_neg h5] at H
        refine xb A [(.aload_n 0, 1, 0, 0, .null), (.iload 5, 2, 0, 0, .null)] (pc' := 46) (ls' := [some (.ref 60), some (.int l1), some (.int l2), some (.int l3), some (.int l4), some (.int l5), none]) (st' := [.int l5, .ref 60]) (g' := g) (by decide +kernel) rfl ?_
        obtain ⟨w3, e3, H⟩ := xbind H
        refine xcallV A (ix := 455) (nxt := 49) hrm hz [.int l5] [] 1965 (c_X12_sumTo_60 hS _ e3) ok_X12_sumTo (by decide +kernel) rfl (fun r g1 hq => ?_)
        rw [hq.1, hq.2]
        show xW k S 0 0 49 [some (.ref 60), some (.int l1), some (.int l2), some (.int l3), some (.int l4), some (.int l5), none] [.int w3] g
        refine xgoto A (9) 58 (by decide +kernel) ?_
        exact t_X12_leastTown_60_58 hS A hR hrm hz ih _ _ _ _ _ _ _ H
theorem fr_X12_leastTown_60_25   : ∀ (n : Nat) (l1 : Int32) (l2 : Int32) (l3 : Int32) (l4 : Int32) (l5 : Int32) (g : xG) (out : Int32 × xG), f_X12_leastTown_60_25 n l1 l2 l3 l4 l5 g = some out → xfrm fp_X12_leastTown_60 g (out.2) := by
  intro n
  induction n with
  | zero => intro l1 l2 l3 l4 l5 g out H; exact absurd H (by simp [f_X12_leastTown_60_25])
  | succ n ih =>
    intro l1 l2 l3 l4 l5 g out H
    have H : (xg (¬ ((g.1 60 18) < 0 ∨ 2 ≤ (g.1 60 18).toNatClampNeg)) (
  if (g.1 70 (g.1 60 18).toNatClampNeg) ≤ l5 then
    if l2 = 0 then
      some (l3, g)
    else
      some (l4, g)
  else
    if l1 = 0 then
      (f_X12_widestOf_60 l5 g).bind fun w2 =>
      f_X12_leastTown_60_58 (f_X12_leastTown_60_25 n) l1 l2 l3 l4 l5 w2 g
    else
      (f_X12_sumTo_60 l5 g).bind fun w3 =>
      f_X12_leastTown_60_58 (f_X12_leastTown_60_25 n) l1 l2 l3 l4 l5 w3 g)) = some out := H
    obtain ⟨h2, H⟩ := xg_elim H
    by_cases h3 : (g.1 70 (g.1 60 18).toNatClampNeg) ≤ l5
    · rw [if_pos h3] at H
      by_cases h4 : l2 = 0
      · rw [if_pos h4] at H
        obtain rfl := Option.some.inj H
        exact xfrm.rf
      · rw [if_neg h4] at H
        obtain rfl := Option.some.inj H
        exact xfrm.rf
    · rw [if_neg h3] at H
      by_cases h5 : l1 = 0
      · rw [if_pos h5] at H
        obtain ⟨w2, e2, H⟩ := xbind H
        exact xfrm.tr xfrm.rf (fr_X12_leastTown_60_58 ih _ _ _ _ _ _ _ _ H) rfl
      · rw [if_neg h5] at H
        obtain ⟨w3, e3, H⟩ := xbind H
        exact xfrm.tr xfrm.rf (fr_X12_leastTown_60_58 ih _ _ _ _ _ _ _ _ H) rfl
set_option maxRecDepth 20000 in
theorem c_X12_leastTown_60 {S : List xSh} (hS : xpf SH2 S) {g : xG} {p1 : Int32} {p2 : Int32} (out : Int32 × xG) (H : f_X12_leastTown_60 p1 p2 g = some out) : xC mX12_leastTown 2 44 0 0 S [.ref 60, .int p1, .int p2] g S (fun r g' => r = some (.int out.1) ∧ g' = out.2) := by
  have H : (if (f_X12_in p2 0 1) = 0 then
  some ((-1), g)
else
  (f_X12_copies_60 g).bind fun w1 =>
  f_X12_leastTown_60_25 xN p1 p2 (-2) (-2) 0 w1) = some out := H
  refine xC.of 12 SH2 [some (.ref 60), some (.int p1), some (.int p2), none, none, none, none] hS (by decide +kernel) rfl (fun _ _ => Nat.le_of_ble_eq_true rfl) (fun _ _ => rfl) ?_
  intro k A hR hrm hz
  refine xb A [(.iload_n 2, 1, 0, 0, .null), (.iconst 0, 1, 0, 0, .int 0), (.iconst 1, 1, 0, 0, .int 1)] (pc' := 3) (ls' := [some (.ref 60), some (.int p1), some (.int p2), none, none, none, none]) (st' := [.int 1, .int 0, .int p2]) (g' := g) (by decide +kernel) rfl ?_
  refine xcallS A (ix := 307) (nxt := 6) hrm hz [.int p2, .int 0, .int 1] [] 1696 (c_X12_in hS _ rfl) ok_X12_in (by decide +kernel) rfl (fun r g1 hq => ?_)
  rw [hq.1, hq.2]
  show xW k S 0 0 6 [some (.ref 60), some (.int p1), some (.int p2), none, none, none, none] [.int (f_X12_in p2 0 1)] g
  refine xif_ne A (5) 11 9 (by decide +kernel) (fun h1 => ?_) (fun h1 => ?_)
  · rw [if_neg h1] at H
    refine xb A [(.aload_n 0, 1, 0, 0, .null)] (pc' := 12) (ls' := [some (.ref 60), some (.int p1), some (.int p2), none, none, none, none]) (st' := [.ref 60]) (g' := g) (by decide +kernel) rfl ?_
    obtain ⟨w1, e1, H⟩ := xbind H
    refine xcallV A (ix := 320) (nxt := 15) hrm hz [] [] 1699 (c_X12_copies_60 hS _ e1) ok_X12_copies (by decide +kernel) rfl (fun r g1 hq => ?_)
    rw [hq.1, hq.2]
    show xW k S 0 0 15 [some (.ref 60), some (.int p1), some (.int p2), none, none, none, none] [] w1
    refine xb A [(.bipush (-2), 2, 0, 0, .int (-2)), (.istore_n 3, 1, 0, 0, .null), (.bipush (-2), 2, 0, 0, .int (-2)), (.istore 4, 2, 0, 0, .null), (.iconst 0, 1, 0, 0, .int 0), (.istore 5, 2, 0, 0, .null)] (pc' := 25) (ls' := [some (.ref 60), some (.int p1), some (.int p2), some (.int (-2)), some (.int (-2)), some (.int 0), none]) (st' := []) (g' := w1) (by decide +kernel) rfl ?_
    exact t_X12_leastTown_60_25 hS A hR hrm hz _ _ _ _ _ _ _ H
  · rw [if_pos h1] at H
    refine xb A [(.iconst (-1), 1, 0, 0, .int (-1))] (pc' := 10) (ls' := [some (.ref 60), some (.int p1), some (.int p2), none, none, none, none]) (st' := [.int (-1)]) (g' := g) (by decide +kernel) rfl ?_
    obtain rfl := Option.some.inj H
    exact xret_i A hR hz (by decide +kernel) rfl ⟨rfl, rfl⟩
theorem fr_X12_leastTown_60 {p1 : Int32} {p2 : Int32} {g : xG} (out : Int32 × xG) (H : f_X12_leastTown_60 p1 p2 g = some out) : xfrm fp_X12_leastTown_60 g (out.2) := by
  have H : (if (f_X12_in p2 0 1) = 0 then
  some ((-1), g)
else
  (f_X12_copies_60 g).bind fun w1 =>
  f_X12_leastTown_60_25 xN p1 p2 (-2) (-2) 0 w1) = some out := H
  by_cases h1 : (f_X12_in p2 0 1) = 0
  · rw [if_pos h1] at H
    obtain rfl := Option.some.inj H
    exact xfrm.rf
  · rw [if_neg h1] at H
    obtain ⟨w1, e1, H⟩ := xbind H
    have hf1 : xfrm fp_X12_leastTown_60 g (w1) := xfrm.tr xfrm.rf (fr_X12_copies_60 _ e1) rfl
    exact xfrm.tr hf1 (fr_X12_leastTown_60_25 _ _ _ _ _ _ _ _ H) rfl
def fp_X12_centre_60 : List (Nat × Option Nat) := [(60, some 52), (60, some 53), (94, none), (95, none)]
def f_X12_centre_60 (p1 : Int32) (g : xG) : Option (Int32 × xG) :=
  (f_X12_leastTown_60 0 p1 g).bind fun w1 =>
  some (w1.1, w1.2)
set_option maxRecDepth 20000 in
theorem c_X12_centre_60 {S : List xSh} (hS : xpf SH2 S) {g : xG} {p1 : Int32} (out : Int32 × xG) (H : f_X12_centre_60 p1 g = some out) : xC mX12_centre 3 70 0 0 S [.ref 60, .int p1] g S (fun r g' => r = some (.int out.1) ∧ g' = out.2) := by
  have H : ((f_X12_leastTown_60 0 p1 g).bind fun w1 =>
some (w1.1, w1.2)) = some out := H
  refine xC.of 12 SH2 [some (.ref 60), some (.int p1)] hS (by decide +kernel) rfl (fun _ _ => Nat.le_of_ble_eq_true rfl) (fun _ _ => rfl) ?_
  intro k A hR hrm hz
  refine xb A [(.aload_n 0, 1, 0, 0, .null), (.iconst 0, 1, 0, 0, .int 0), (.iload_n 1, 1, 0, 0, .null)] (pc' := 3) (ls' := [some (.ref 60), some (.int p1)]) (st' := [.int p1, .int 0, .ref 60]) (g' := g) (by decide +kernel) rfl ?_
  obtain ⟨w1, e1, H⟩ := xbind H
  refine xcallV A (ix := 461) (nxt := 6) hrm hz [.int 0, .int p1] [] 1961 (c_X12_leastTown_60 hS _ e1) ok_X12_leastTown (by decide +kernel) rfl (fun r g1 hq => ?_)
  rw [hq.1, hq.2]
  show xW k S 0 0 6 [some (.ref 60), some (.int p1)] [.int w1.1] w1.2
  obtain rfl := Option.some.inj H
  exact xret_i A hR hz (by decide +kernel) rfl ⟨rfl, rfl⟩
theorem fr_X12_centre_60 {p1 : Int32} {g : xG} (out : Int32 × xG) (H : f_X12_centre_60 p1 g = some out) : xfrm fp_X12_centre_60 g (out.2) := by
  have H : ((f_X12_leastTown_60 0 p1 g).bind fun w1 =>
some (w1.1, w1.2)) = some out := H
  obtain ⟨w1, e1, H⟩ := xbind H
  have hf1 : xfrm fp_X12_centre_60 g (w1.2) := xfrm.tr xfrm.rf (fr_X12_leastTown_60 _ e1) rfl
  obtain rfl := Option.some.inj H
  exact hf1
def fp_X12_meet_60 : List (Nat × Option Nat) := [(60, some 52), (60, some 53), (94, none), (95, none)]
def f_X12_meet_60 (p1 : Int32) (g : xG) : Option (Int32 × xG) :=
  (f_X12_leastTown_60 1 p1 g).bind fun w1 =>
  some (w1.1, w1.2)
set_option maxRecDepth 20000 in
theorem c_X12_meet_60 {S : List xSh} (hS : xpf SH2 S) {g : xG} {p1 : Int32} (out : Int32 × xG) (H : f_X12_meet_60 p1 g = some out) : xC mX12_meet 3 70 0 0 S [.ref 60, .int p1] g S (fun r g' => r = some (.int out.1) ∧ g' = out.2) := by
  have H : ((f_X12_leastTown_60 1 p1 g).bind fun w1 =>
some (w1.1, w1.2)) = some out := H
  refine xC.of 12 SH2 [some (.ref 60), some (.int p1)] hS (by decide +kernel) rfl (fun _ _ => Nat.le_of_ble_eq_true rfl) (fun _ _ => rfl) ?_
  intro k A hR hrm hz
  refine xb A [(.aload_n 0, 1, 0, 0, .null), (.iconst 1, 1, 0, 0, .int 1), (.iload_n 1, 1, 0, 0, .null)] (pc' := 3) (ls' := [some (.ref 60), some (.int p1)]) (st' := [.int p1, .int 1, .ref 60]) (g' := g) (by decide +kernel) rfl ?_
  obtain ⟨w1, e1, H⟩ := xbind H
  refine xcallV A (ix := 461) (nxt := 6) hrm hz [.int 1, .int p1] [] 1961 (c_X12_leastTown_60 hS _ e1) ok_X12_leastTown (by decide +kernel) rfl (fun r g1 hq => ?_)
  rw [hq.1, hq.2]
  show xW k S 0 0 6 [some (.ref 60), some (.int p1)] [.int w1.1] w1.2
  obtain rfl := Option.some.inj H
  exact xret_i A hR hz (by decide +kernel) rfl ⟨rfl, rfl⟩
theorem fr_X12_meet_60 {p1 : Int32} {g : xG} (out : Int32 × xG) (H : f_X12_meet_60 p1 g = some out) : xfrm fp_X12_meet_60 g (out.2) := by
  have H : ((f_X12_leastTown_60 1 p1 g).bind fun w1 =>
some (w1.1, w1.2)) = some out := H
  obtain ⟨w1, e1, H⟩ := xbind H
  have hf1 : xfrm fp_X12_meet_60 g (w1.2) := xfrm.tr xfrm.rf (fr_X12_leastTown_60 _ e1) rfl
  obtain rfl := Option.some.inj H
  exact hf1
def fp_X12_tree_60 : List (Nat × Option Nat) := [(60, some 52), (60, some 53), (94, none), (95, none)]
def f_X12_tree_60_105 (k29 : Int32 → Int32 → Int32 → xG → Option (Int32 × xG)) (k40 : Int32 → Int32 → Int32 → Int32 → Int32 → xG → Option (Int32 × xG)) (l1 : Int32) (l2 : Int32) (l3 : Int32) (l4 : Int32) (l5 : Int32) (l6 : Int32) (s0 : Int32) (g : xG) : Option (Int32 × xG) :=
  if s0 = 0 then
    k40 l1 l2 l3 l4 (l5 + 1) g
  else
    if l4 < 0 then
      k40 l1 l2 l3 l6 (l5 + 1) g
    else
      xg (¬ (l6 < 0 ∨ 20 ≤ l6.toNatClampNeg)) (
        xg (¬ (l4 < 0 ∨ 20 ≤ l4.toNatClampNeg)) (
          if (g.1 74 l4.toNatClampNeg) ≤ (g.1 74 l6.toNatClampNeg) then
            k40 l1 l2 l3 l4 (l5 + 1) g
          else
            k40 l1 l2 l3 l6 (l5 + 1) g))
def f_X12_tree_60_104 (k29 : Int32 → Int32 → Int32 → xG → Option (Int32 × xG)) (k40 : Int32 → Int32 → Int32 → Int32 → Int32 → xG → Option (Int32 × xG)) (l1 : Int32) (l2 : Int32) (l3 : Int32) (l4 : Int32) (l5 : Int32) (l6 : Int32) (g : xG) : Option (Int32 × xG) :=
  f_X12_tree_60_105 k29 k40 l1 l2 l3 l4 l5 l6 0 g
def f_X12_tree_60_40 (k29 : Int32 → Int32 → Int32 → xG → Option (Int32 × xG)) : Nat → Int32 → Int32 → Int32 → Int32 → Int32 → xG → Option (Int32 × xG)
  | 0, _, _, _, _, _, _ => none
  | n + 1, l1, l2, l3, l4, l5, g =>
    xg (¬ ((g.1 60 18) < 0 ∨ 2 ≤ (g.1 60 18).toNatClampNeg)) (
      if (g.1 71 (g.1 60 18).toNatClampNeg) ≤ l5 then
        if 0 ≤ l4 then
          xg (¬ (l4 < 0 ∨ 20 ≤ l4.toNatClampNeg)) (
            xg (¬ (l4 < 0 ∨ 20 ≤ l4.toNatClampNeg)) (
              xg (¬ (l4 < 0 ∨ 20 ≤ l4.toNatClampNeg)) (
                k29 l1 (l2 ||| (((1 : Int32) <<< ((g.1 72 l4.toNatClampNeg) &&& 31)) ||| ((1 : Int32) <<< ((g.1 73 l4.toNatClampNeg) &&& 31)))) (l3 + (g.1 74 l4.toNatClampNeg)) g)))
        else
          some ((-2), g)
      else
        (f_X12_isOpen_60 l5 g).bind fun w2 =>
        if w2 = 0 then
          f_X12_tree_60_104 k29 (f_X12_tree_60_40 k29 n) l1 l2 l3 l4 l5 ((10 * (g.1 60 18)) + l5) g
        else
          xg (¬ (((10 * (g.1 60 18)) + l5) < 0 ∨ 20 ≤ ((10 * (g.1 60 18)) + l5).toNatClampNeg)) (
            xg (¬ (((10 * (g.1 60 18)) + l5) < 0 ∨ 20 ≤ ((10 * (g.1 60 18)) + l5).toNatClampNeg)) (
              if ((l2 >>> ((g.1 72 ((10 * (g.1 60 18)) + l5).toNatClampNeg) &&& 31)) &&& 1) = ((l2 >>> ((g.1 73 ((10 * (g.1 60 18)) + l5).toNatClampNeg) &&& 31)) &&& 1) then
                f_X12_tree_60_104 k29 (f_X12_tree_60_40 k29 n) l1 l2 l3 l4 l5 ((10 * (g.1 60 18)) + l5) g
              else
                f_X12_tree_60_105 k29 (f_X12_tree_60_40 k29 n) l1 l2 l3 l4 l5 ((10 * (g.1 60 18)) + l5) 1 g)))
def f_X12_tree_60_29  : Nat → Int32 → Int32 → Int32 → xG → Option (Int32 × xG)
  | 0, _, _, _, _ => none
  | n + 1, l1, l2, l3, g =>
    if l2 = l1 then
      some (l3, g)
    else
      f_X12_tree_60_40 (f_X12_tree_60_29 n) xN l1 l2 l3 (-1) 0 g
def f_X12_tree_60  (g : xG) : Option (Int32 × xG) :=
  xg (¬ ((g.1 60 18) < 0 ∨ 2 ≤ (g.1 60 18).toNatClampNeg)) (
    if (((1 : Int32) <<< ((g.1 70 (g.1 60 18).toNatClampNeg) &&& 31)) - 1) = 0 then
      some ((-2), g)
    else
      (f_X12_copies_60 g).bind fun w1 =>
      f_X12_tree_60_29 xN (((1 : Int32) <<< ((g.1 70 (g.1 60 18).toNatClampNeg) &&& 31)) - 1) 1 0 w1)
set_option maxRecDepth 20000 in
theorem t_X12_tree_60_105 {k : xK} {S : List xSh} {out : Int32 × xG} (hS : xpf SH2 S) (A : xAt k mX12_tree.2.1 12 SH2 S) (hR : xRet k 0 0 S (fun r g' => r = some (.int out.1) ∧ g' = out.2) mX12_tree.2.2.2) (hrm : xrm k = { frames := 2, cells := 0, slots := 0, locals := 44 }) (hz : xhs k = xb0 k + S.length) {k29 : Int32 → Int32 → Int32 → xG → Option (Int32 × xG)} {k40 : Int32 → Int32 → Int32 → Int32 → Int32 → xG → Option (Int32 × xG)} (hk29 : ∀ (l1 : Int32) (l2 : Int32) (l3 : Int32) (g : xG), k29 l1 l2 l3 g = some out → xW k S 0 0 29 [some (.ref 60), some (.int l1), some (.int l2), some (.int l3), none, none, none, none] [] g) (hk40 : ∀ (l1 : Int32) (l2 : Int32) (l3 : Int32) (l4 : Int32) (l5 : Int32) (g : xG), k40 l1 l2 l3 l4 l5 g = some out → xW k S 0 0 40 [some (.ref 60), some (.int l1), some (.int l2), some (.int l3), some (.int l4), some (.int l5), none, none] [] g) : ∀ (l1 : Int32) (l2 : Int32) (l3 : Int32) (l4 : Int32) (l5 : Int32) (l6 : Int32) (s0 : Int32) (g : xG), f_X12_tree_60_105 k29 k40 l1 l2 l3 l4 l5 l6 s0 g = some out → xW k S 0 0 105 [some (.ref 60), some (.int l1), some (.int l2), some (.int l3), some (.int l4), some (.int l5), some (.int l6), none] [.int s0] g := by
  intro l1 l2 l3 l4 l5 l6 s0 g H
  have H : (if s0 = 0 then
  k40 l1 l2 l3 l4 (l5 + 1) g
else
  if l4 < 0 then
    k40 l1 l2 l3 l6 (l5 + 1) g
  else
    xg (¬ (l6 < 0 ∨ 20 ≤ l6.toNatClampNeg)) (
      xg (¬ (l4 < 0 ∨ 20 ≤ l4.toNatClampNeg)) (
        if (g.1 74 l4.toNatClampNeg) ≤ (g.1 74 l6.toNatClampNeg) then
          k40 l1 l2 l3 l4 (l5 + 1) g
        else
          k40 l1 l2 l3 l6 (l5 + 1) g))) = some out := H
  refine xb A [(.istore 7, 2, 0, 0, .null), (.iload 7, 2, 0, 0, .null)] (pc' := 109) (ls' := [some (.ref 60), some (.int l1), some (.int l2), some (.int l3), some (.int l4), some (.int l5), some (.int l6), some (.int s0)]) (st' := [.int s0]) (g' := g) (by decide +kernel) rfl ?_
  refine xif_eq A (29) 138 112 (by decide +kernel) (fun h11 => ?_) (fun h11 => ?_)
  · rw [if_pos h11] at H
    refine xb A [(.iinc 5 1, 3, 0, 0, .null)] (pc' := 141) (ls' := [some (.ref 60), some (.int l1), some (.int l2), some (.int l3), some (.int l4), some (.int (l5 + 1)), some (.int l6), some (.int s0)]) (st' := []) (g' := g) (by decide +kernel) rfl ?_
    refine xgoto A (-101) 40 (by decide +kernel) ?_
    refine xweak (ls' := [some (.ref 60), some (.int l1), some (.int l2), some (.int l3), some (.int l4), some (.int (l5 + 1)), none, none]) (by exact ⟨rfl, ⟨rfl, ⟨rfl, ⟨rfl, ⟨rfl, ⟨rfl, trivial⟩⟩⟩⟩⟩⟩) ?_
    exact hk40 _ _ _ _ _ _ H
  · rw [if_neg h11] at H
    refine xb A [(.iload 4, 2, 0, 0, .null)] (pc' := 114) (ls' := [some (.ref 60), some (.int l1), some (.int l2), some (.int l3), some (.int l4), some (.int l5), some (.int l6), some (.int s0)]) (st' := [.int l4]) (g' := g) (by decide +kernel) rfl ?_
    refine xif_lt A (20) 134 117 (by decide +kernel) (fun h12 => ?_) (fun h12 => ?_)
    · rw [if_pos h12] at H
      refine xb A [(.iload 6, 2, 0, 0, .null), (.istore 4, 2, 0, 0, .null), (.iinc 5 1, 3, 0, 0, .null)] (pc' := 141) (ls' := [some (.ref 60), some (.int l1), some (.int l2), some (.int l3), some (.int l6), some (.int (l5 + 1)), some (.int l6), some (.int s0)]) (st' := []) (g' := g) (by decide +kernel) rfl ?_
      refine xgoto A (-101) 40 (by decide +kernel) ?_
      refine xweak (ls' := [some (.ref 60), some (.int l1), some (.int l2), some (.int l3), some (.int l6), some (.int (l5 + 1)), none, none]) (by exact ⟨rfl, ⟨rfl, ⟨rfl, ⟨rfl, ⟨rfl, ⟨rfl, trivial⟩⟩⟩⟩⟩⟩) ?_
      exact hk40 _ _ _ _ _ _ H
    · rw [if_neg h12] at H
      refine xb A [(.aload_n 0, 1, 0, 0, .null), (.getfield 58, 3, 60, 27, .ref 74), (.iload 6, 2, 0, 0, .null)] (pc' := 123) (ls' := [some (.ref 60), some (.int l1), some (.int l2), some (.int l3), some (.int l4), some (.int l5), some (.int l6), some (.int s0)]) (st' := [.int l6, .ref 74]) (g' := g) (by decide +kernel) rfl ?_
      obtain ⟨h13, H⟩ := xg_elim H
      refine xiald A (nxt := 124) (by decide +kernel) (hS _ _ sh_74) h13 ?_
      show xW k S 0 0 124 [some (.ref 60), some (.int l1), some (.int l2), some (.int l3), some (.int l4), some (.int l5), some (.int l6), some (.int s0)] [.int (g.1 74 l6.toNatClampNeg)] g
      refine xb A [(.aload_n 0, 1, 0, 0, .null), (.getfield 58, 3, 60, 27, .ref 74), (.iload 4, 2, 0, 0, .null)] (pc' := 130) (ls' := [some (.ref 60), some (.int l1), some (.int l2), some (.int l3), some (.int l4), some (.int l5), some (.int l6), some (.int s0)]) (st' := [.int l4, .ref 74, .int (g.1 74 l6.toNatClampNeg)]) (g' := g) (by decide +kernel) rfl ?_
      obtain ⟨h14, H⟩ := xg_elim H
      refine xiald A (nxt := 131) (by decide +kernel) (hS _ _ sh_74) h14 ?_
      show xW k S 0 0 131 [some (.ref 60), some (.int l1), some (.int l2), some (.int l3), some (.int l4), some (.int l5), some (.int l6), some (.int s0)] [.int (g.1 74 l4.toNatClampNeg), .int (g.1 74 l6.toNatClampNeg)] g
      refine xic_ge A (7) 138 134 (by decide +kernel) (fun h15 => ?_) (fun h15 => ?_)
      · rw [if_pos h15] at H
        refine xb A [(.iinc 5 1, 3, 0, 0, .null)] (pc' := 141) (ls' := [some (.ref 60), some (.int l1), some (.int l2), some (.int l3), some (.int l4), some (.int (l5 + 1)), some (.int l6), some (.int s0)]) (st' := []) (g' := g) (by decide +kernel) rfl ?_
        refine xgoto A (-101) 40 (by decide +kernel) ?_
        refine xweak (ls' := [some (.ref 60), some (.int l1), some (.int l2), some (.int l3), some (.int l4), some (.int (l5 + 1)), none, none]) (by exact ⟨rfl, ⟨rfl, ⟨rfl, ⟨rfl, ⟨rfl, ⟨rfl, trivial⟩⟩⟩⟩⟩⟩) ?_
        exact hk40 _ _ _ _ _ _ H
      · rw [if_neg h15] at H
        refine xb A [(.iload 6, 2, 0, 0, .null), (.istore 4, 2, 0, 0, .null), (.iinc 5 1, 3, 0, 0, .null)] (pc' := 141) (ls' := [some (.ref 60), some (.int l1), some (.int l2), some (.int l3), some (.int l6), some (.int (l5 + 1)), some (.int l6), some (.int s0)]) (st' := []) (g' := g) (by decide +kernel) rfl ?_
        refine xgoto A (-101) 40 (by decide +kernel) ?_
        refine xweak (ls' := [some (.ref 60), some (.int l1), some (.int l2), some (.int l3), some (.int l6), some (.int (l5 + 1)), none, none]) (by exact ⟨rfl, ⟨rfl, ⟨rfl, ⟨rfl, ⟨rfl, ⟨rfl, trivial⟩⟩⟩⟩⟩⟩) ?_
        exact hk40 _ _ _ _ _ _ H
theorem fr_X12_tree_60_105 {k29 : Int32 → Int32 → Int32 → xG → Option (Int32 × xG)} {k40 : Int32 → Int32 → Int32 → Int32 → Int32 → xG → Option (Int32 × xG)} (hk29 : ∀ (l1 : Int32) (l2 : Int32) (l3 : Int32) (g : xG) (out : Int32 × xG), k29 l1 l2 l3 g = some out → xfrm fp_X12_tree_60 g (out.2)) (hk40 : ∀ (l1 : Int32) (l2 : Int32) (l3 : Int32) (l4 : Int32) (l5 : Int32) (g : xG) (out : Int32 × xG), k40 l1 l2 l3 l4 l5 g = some out → xfrm fp_X12_tree_60 g (out.2)) : ∀ (l1 : Int32) (l2 : Int32) (l3 : Int32) (l4 : Int32) (l5 : Int32) (l6 : Int32) (s0 : Int32) (g : xG) (out : Int32 × xG), f_X12_tree_60_105 k29 k40 l1 l2 l3 l4 l5 l6 s0 g = some out → xfrm fp_X12_tree_60 g (out.2) := by
  intro l1 l2 l3 l4 l5 l6 s0 g out H
  have H : (if s0 = 0 then
  k40 l1 l2 l3 l4 (l5 + 1) g
else
  if l4 < 0 then
    k40 l1 l2 l3 l6 (l5 + 1) g
  else
    xg (¬ (l6 < 0 ∨ 20 ≤ l6.toNatClampNeg)) (
      xg (¬ (l4 < 0 ∨ 20 ≤ l4.toNatClampNeg)) (
        if (g.1 74 l4.toNatClampNeg) ≤ (g.1 74 l6.toNatClampNeg) then
          k40 l1 l2 l3 l4 (l5 + 1) g
        else
          k40 l1 l2 l3 l6 (l5 + 1) g))) = some out := H
  by_cases h11 : s0 = 0
  · rw [if_pos h11] at H
    exact xfrm.tr xfrm.rf (hk40 _ _ _ _ _ _ _ H) rfl
  · rw [if_neg h11] at H
    by_cases h12 : l4 < 0
    · rw [if_pos h12] at H
      exact xfrm.tr xfrm.rf (hk40 _ _ _ _ _ _ _ H) rfl
    · rw [if_neg h12] at H
      obtain ⟨h13, H⟩ := xg_elim H
      obtain ⟨h14, H⟩ := xg_elim H
      by_cases h15 : (g.1 74 l4.toNatClampNeg) ≤ (g.1 74 l6.toNatClampNeg)
      · rw [if_pos h15] at H
        exact xfrm.tr xfrm.rf (hk40 _ _ _ _ _ _ _ H) rfl
      · rw [if_neg h15] at H
        exact xfrm.tr xfrm.rf (hk40 _ _ _ _ _ _ _ H) rfl
set_option maxRecDepth 20000 in
theorem t_X12_tree_60_104 {k : xK} {S : List xSh} {out : Int32 × xG} (hS : xpf SH2 S) (A : xAt k mX12_tree.2.1 12 SH2 S) (hR : xRet k 0 0 S (fun r g' => r = some (.int out.1) ∧ g' = out.2) mX12_tree.2.2.2) (hrm : xrm k = { frames := 2, cells := 0, slots := 0, locals := 44 }) (hz : xhs k = xb0 k + S.length) {k29 : Int32 → Int32 → Int32 → xG → Option (Int32 × xG)} {k40 : Int32 → Int32 → Int32 → Int32 → Int32 → xG → Option (Int32 × xG)} (hk29 : ∀ (l1 : Int32) (l2 : Int32) (l3 : Int32) (g : xG), k29 l1 l2 l3 g = some out → xW k S 0 0 29 [some (.ref 60), some (.int l1), some (.int l2), some (.int l3), none, none, none, none] [] g) (hk40 : ∀ (l1 : Int32) (l2 : Int32) (l3 : Int32) (l4 : Int32) (l5 : Int32) (g : xG), k40 l1 l2 l3 l4 l5 g = some out → xW k S 0 0 40 [some (.ref 60), some (.int l1), some (.int l2), some (.int l3), some (.int l4), some (.int l5), none, none] [] g) : ∀ (l1 : Int32) (l2 : Int32) (l3 : Int32) (l4 : Int32) (l5 : Int32) (l6 : Int32) (g : xG), f_X12_tree_60_104 k29 k40 l1 l2 l3 l4 l5 l6 g = some out → xW k S 0 0 104 [some (.ref 60), some (.int l1), some (.int l2), some (.int l3), some (.int l4), some (.int l5), some (.int l6), none] [] g := by
  intro l1 l2 l3 l4 l5 l6 g H
  have H : (f_X12_tree_60_105 k29 k40 l1 l2 l3 l4 l5 l6 0 g) = some out := H
  refine xb A [(.iconst 0, 1, 0, 0, .int 0)] (pc' := 105) (ls' := [some (.ref 60), some (.int l1), some (.int l2), some (.int l3), some (.int l4), some (.int l5), some (.int l6), none]) (st' := [.int 0]) (g' := g) (by decide +kernel) rfl ?_
  exact t_X12_tree_60_105 hS A hR hrm hz hk29 hk40 _ _ _ _ _ _ _ _ H
theorem fr_X12_tree_60_104 {k29 : Int32 → Int32 → Int32 → xG → Option (Int32 × xG)} {k40 : Int32 → Int32 → Int32 → Int32 → Int32 → xG → Option (Int32 × xG)} (hk29 : ∀ (l1 : Int32) (l2 : Int32) (l3 : Int32) (g : xG) (out : Int32 × xG), k29 l1 l2 l3 g = some out → xfrm fp_X12_tree_60 g (out.2)) (hk40 : ∀ (l1 : Int32) (l2 : Int32) (l3 : Int32) (l4 : Int32) (l5 : Int32) (g : xG) (out : Int32 × xG), k40 l1 l2 l3 l4 l5 g = some out → xfrm fp_X12_tree_60 g (out.2)) : ∀ (l1 : Int32) (l2 : Int32) (l3 : Int32) (l4 : Int32) (l5 : Int32) (l6 : Int32) (g : xG) (out : Int32 × xG), f_X12_tree_60_104 k29 k40 l1 l2 l3 l4 l5 l6 g = some out → xfrm fp_X12_tree_60 g (out.2) := by
  intro l1 l2 l3 l4 l5 l6 g out H
  have H : (f_X12_tree_60_105 k29 k40 l1 l2 l3 l4 l5 l6 0 g) = some out := H
  exact xfrm.tr xfrm.rf (fr_X12_tree_60_105 hk29 hk40 _ _ _ _ _ _ _ _ _ H) rfl
set_option maxRecDepth 20000 in
theorem t_X12_tree_60_40 {k : xK} {S : List xSh} {out : Int32 × xG} (hS : xpf SH2 S) (A : xAt k mX12_tree.2.1 12 SH2 S) (hR : xRet k 0 0 S (fun r g' => r = some (.int out.1) ∧ g' = out.2) mX12_tree.2.2.2) (hrm : xrm k = { frames := 2, cells := 0, slots := 0, locals := 44 }) (hz : xhs k = xb0 k + S.length) {k29 : Int32 → Int32 → Int32 → xG → Option (Int32 × xG)} (hk29 : ∀ (l1 : Int32) (l2 : Int32) (l3 : Int32) (g : xG), k29 l1 l2 l3 g = some out → xW k S 0 0 29 [some (.ref 60), some (.int l1), some (.int l2), some (.int l3), none, none, none, none] [] g) : ∀ (n : Nat) (l1 : Int32) (l2 : Int32) (l3 : Int32) (l4 : Int32) (l5 : Int32) (g : xG), f_X12_tree_60_40 k29 n l1 l2 l3 l4 l5 g = some out → xW k S 0 0 40 [some (.ref 60), some (.int l1), some (.int l2), some (.int l3), some (.int l4), some (.int l5), none, none] [] g := by
  intro n
  induction n with
  | zero => intro l1 l2 l3 l4 l5 g H; exact absurd H (by simp [f_X12_tree_60_40])
  | succ n ih =>
    intro l1 l2 l3 l4 l5 g H
    have H : (xg (¬ ((g.1 60 18) < 0 ∨ 2 ≤ (g.1 60 18).toNatClampNeg)) (
  if (g.1 71 (g.1 60 18).toNatClampNeg) ≤ l5 then
    if 0 ≤ l4 then
      xg (¬ (l4 < 0 ∨ 20 ≤ l4.toNatClampNeg)) (
        xg (¬ (l4 < 0 ∨ 20 ≤ l4.toNatClampNeg)) (
          xg (¬ (l4 < 0 ∨ 20 ≤ l4.toNatClampNeg)) (
            k29 l1 (l2 ||| (((1 : Int32) <<< ((g.1 72 l4.toNatClampNeg) &&& 31)) ||| ((1 : Int32) <<< ((g.1 73 l4.toNatClampNeg) &&& 31)))) (l3 + (g.1 74 l4.toNatClampNeg)) g)))
    else
      some ((-2), g)
  else
    (f_X12_isOpen_60 l5 g).bind fun w2 =>
    if w2 = 0 then
      f_X12_tree_60_104 k29 (f_X12_tree_60_40 k29 n) l1 l2 l3 l4 l5 ((10 * (g.1 60 18)) + l5) g
    else
      xg (¬ (((10 * (g.1 60 18)) + l5) < 0 ∨ 20 ≤ ((10 * (g.1 60 18)) + l5).toNatClampNeg)) (
        xg (¬ (((10 * (g.1 60 18)) + l5) < 0 ∨ 20 ≤ ((10 * (g.1 60 18)) + l5).toNatClampNeg)) (
          if ((l2 >>> ((g.1 72 ((10 * (g.1 60 18)) + l5).toNatClampNeg) &&& 31)) &&& 1) = ((l2 >>> ((g.1 73 ((10 * (g.1 60 18)) + l5).toNatClampNeg) &&& 31)) &&& 1) then
            f_X12_tree_60_104 k29 (f_X12_tree_60_40 k29 n) l1 l2 l3 l4 l5 ((10 * (g.1 60 18)) + l5) g
          else
            f_X12_tree_60_105 k29 (f_X12_tree_60_40 k29 n) l1 l2 l3 l4 l5 ((10 * (g.1 60 18)) + l5) 1 g)))) = some out := H
    refine xb A [(.iload 5, 2, 0, 0, .null), (.aload_n 0, 1, 0, 0, .null), (.getfield 49, 3, 60, 24, .ref 71), (.aload_n 0, 1, 0, 0, .null), (.getfield 227, 3, 60, 18, .int 0)] (pc' := 50) (ls' := [some (.ref 60), some (.int l1), some (.int l2), some (.int l3), some (.int l4), some (.int l5), none, none]) (st' := [.int (g.1 60 18), .ref 71, .int l5]) (g' := g) (by decide +kernel) rfl ?_
    obtain ⟨h4, H⟩ := xg_elim H
    refine xiald A (nxt := 51) (by decide +kernel) (hS _ _ sh_71) h4 ?_
    show xW k S 0 0 51 [some (.ref 60), some (.int l1), some (.int l2), some (.int l3), some (.int l4), some (.int l5), none, none] [.int (g.1 71 (g.1 60 18).toNatClampNeg), .int l5] g
    refine xic_ge A (93) 144 54 (by decide +kernel) (fun h5 => ?_) (fun h5 => ?_)
    · rw [if_pos h5] at H
      refine xb A [(.iload 4, 2, 0, 0, .null)] (pc' := 146) (ls' := [some (.ref 60), some (.int l1), some (.int l2), some (.int l3), some (.int l4), some (.int l5), none, none]) (st' := [.int l4]) (g' := g) (by decide +kernel) rfl ?_
      refine xif_ge A (6) 152 149 (by decide +kernel) (fun h6 => ?_) (fun h6 => ?_)
      · rw [if_pos h6] at H
        refine xb A [(.iload_n 2, 1, 0, 0, .null), (.iconst 1, 1, 0, 0, .int 1), (.aload_n 0, 1, 0, 0, .null), (.getfield 52, 3, 60, 25, .ref 72), (.iload 4, 2, 0, 0, .null)] (pc' := 160) (ls' := [some (.ref 60), some (.int l1), some (.int l2), some (.int l3), some (.int l4), some (.int l5), none, none]) (st' := [.int l4, .ref 72, .int 1, .int l2]) (g' := g) (by decide +kernel) rfl ?_
        obtain ⟨h7, H⟩ := xg_elim H
        refine xiald A (nxt := 161) (by decide +kernel) (hS _ _ sh_72) h7 ?_
        show xW k S 0 0 161 [some (.ref 60), some (.int l1), some (.int l2), some (.int l3), some (.int l4), some (.int l5), none, none] [.int (g.1 72 l4.toNatClampNeg), .int 1, .int l2] g
        refine xb A [(.ishl, 1, 0, 0, .null), (.iconst 1, 1, 0, 0, .int 1), (.aload_n 0, 1, 0, 0, .null), (.getfield 55, 3, 60, 26, .ref 73), (.iload 4, 2, 0, 0, .null)] (pc' := 169) (ls' := [some (.ref 60), some (.int l1), some (.int l2), some (.int l3), some (.int l4), some (.int l5), none, none]) (st' := [.int l4, .ref 73, .int 1, .int ((1 : Int32) <<< ((g.1 72 l4.toNatClampNeg) &&& 31)), .int l2]) (g' := g) (by decide +kernel) rfl ?_
        obtain ⟨h8, H⟩ := xg_elim H
        refine xiald A (nxt := 170) (by decide +kernel) (hS _ _ sh_73) h8 ?_
        show xW k S 0 0 170 [some (.ref 60), some (.int l1), some (.int l2), some (.int l3), some (.int l4), some (.int l5), none, none] [.int (g.1 73 l4.toNatClampNeg), .int 1, .int ((1 : Int32) <<< ((g.1 72 l4.toNatClampNeg) &&& 31)), .int l2] g
        refine xb A [(.ishl, 1, 0, 0, .null), (.ior, 1, 0, 0, .null), (.ior, 1, 0, 0, .null), (.istore_n 2, 1, 0, 0, .null), (.iload_n 3, 1, 0, 0, .null), (.aload_n 0, 1, 0, 0, .null), (.getfield 58, 3, 60, 27, .ref 74), (.iload 4, 2, 0, 0, .null)] (pc' := 181) (ls' := [some (.ref 60), some (.int l1), some (.int (l2 ||| (((1 : Int32) <<< ((g.1 72 l4.toNatClampNeg) &&& 31)) ||| ((1 : Int32) <<< ((g.1 73 l4.toNatClampNeg) &&& 31))))), some (.int l3), some (.int l4), some (.int l5), none, none]) (st' := [.int l4, .ref 74, .int l3]) (g' := g) (by decide +kernel) rfl ?_
        obtain ⟨h9, H⟩ := xg_elim H
        refine xiald A (nxt := 182) (by decide +kernel) (hS _ _ sh_74) h9 ?_
        show xW k S 0 0 182 [some (.ref 60), some (.int l1), some (.int (l2 ||| (((1 : Int32) <<< ((g.1 72 l4.toNatClampNeg) &&& 31)) ||| ((1 : Int32) <<< ((g.1 73 l4.toNatClampNeg) &&& 31))))), some (.int l3), some (.int l4), some (.int l5), none, none] [.int (g.1 74 l4.toNatClampNeg), .int l3] g
        refine xb A [(.iadd, 1, 0, 0, .null), (.istore_n 3, 1, 0, 0, .null)] (pc' := 184) (ls' := [some (.ref 60), some (.int l1), some (.int (l2 ||| (((1 : Int32) <<< ((g.1 72 l4.toNatClampNeg) &&& 31)) ||| ((1 : Int32) <<< ((g.1 73 l4.toNatClampNeg) &&& 31))))), some (.int (l3 + (g.1 74 l4.toNatClampNeg))), some (.int l4), some (.int l5), none, none]) (st' := []) (g' := g) (by decide +kernel) rfl ?_
        refine xgoto A (-155) 29 (by decide +kernel) ?_
        refine xweak (ls' := [some (.ref 60), some (.int l1), some (.int (l2 ||| (((1 : Int32) <<< ((g.1 72 l4.toNatClampNeg) &&& 31)) ||| ((1 : Int32) <<< ((g.1 73 l4.toNatClampNeg) &&& 31))))), some (.int (l3 + (g.1 74 l4.toNatClampNeg))), none, none, none, none]) (by exact ⟨rfl, ⟨rfl, ⟨rfl, ⟨rfl, trivial⟩⟩⟩⟩) ?_
        exact hk29 _ _ _ _ H
      · rw [if_neg h6] at H
        refine xb A [(.bipush (-2), 2, 0, 0, .int (-2))] (pc' := 151) (ls' := [some (.ref 60), some (.int l1), some (.int l2), some (.int l3), some (.int l4), some (.int l5), none, none]) (st' := [.int (-2)]) (g' := g) (by decide +kernel) rfl ?_
        obtain rfl := Option.some.inj H
        exact xret_i A hR hz (by decide +kernel) rfl ⟨rfl, rfl⟩
    · rw [if_neg h5] at H
      refine xb A [(.bipush 10, 2, 0, 0, .int 10), (.aload_n 0, 1, 0, 0, .null), (.getfield 227, 3, 60, 18, .int 0), (.imul, 1, 0, 0, .null), (.iload 5, 2, 0, 0, .null), (.iadd, 1, 0, 0, .null), (.istore 6, 2, 0, 0, .null), (.aload_n 0, 1, 0, 0, .null), (.iload 5, 2, 0, 0, .null)] (pc' := 69) (ls' := [some (.ref 60), some (.int l1), some (.int l2), some (.int l3), some (.int l4), some (.int l5), some (.int ((10 * (g.1 60 18)) + l5)), none]) (st' := [.int l5, .ref 60]) (g' := g) (by decide +kernel) rfl ?_
      obtain ⟨w2, e2, H⟩ := xbind H
      refine xcallV A (ix := 372) (nxt := 72) hrm hz [.int l5] [] 1711 (c_X12_isOpen_60 hS _ e2) ok_X12_isOpen (by decide +kernel) rfl (fun r g1 hq => ?_)
      rw [hq.1, hq.2]
      show xW k S 0 0 72 [some (.ref 60), some (.int l1), some (.int l2), some (.int l3), some (.int l4), some (.int l5), some (.int ((10 * (g.1 60 18)) + l5)), none] [.int w2] g
      refine xif_eq A (32) 104 75 (by decide +kernel) (fun h10 => ?_) (fun h10 => ?_)
      · rw [if_pos h10] at H
        exact t_X12_tree_60_104 hS A hR hrm hz hk29 ih _ _ _ _ _ _ _ H
      · rw [if_neg h10] at H
        refine xb A [(.iload_n 2, 1, 0, 0, .null), (.aload_n 0, 1, 0, 0, .null), (.getfield 52, 3, 60, 25, .ref 72), (.iload 6, 2, 0, 0, .null)] (pc' := 82) (ls' := [some (.ref 60), some (.int l1), some (.int l2), some (.int l3), some (.int l4), some (.int l5), some (.int ((10 * (g.1 60 18)) + l5)), none]) (st' := [.int ((10 * (g.1 60 18)) + l5), .ref 72, .int l2]) (g' := g) (by decide +kernel) rfl ?_
        obtain ⟨h16, H⟩ := xg_elim H
        refine xiald A (nxt := 83) (by decide +kernel) (hS _ _ sh_72) h16 ?_
        show xW k S 0 0 83 [some (.ref 60), some (.int l1), some (.int l2), some (.int l3), some (.int l4), some (.int l5), some (.int ((10 * (g.1 60 18)) + l5)), none] [.int (g.1 72 ((10 * (g.1 60 18)) + l5).toNatClampNeg), .int l2] g
        refine xb A [(.ishr, 1, 0, 0, .null), (.iconst 1, 1, 0, 0, .int 1), (.iand, 1, 0, 0, .null), (.iload_n 2, 1, 0, 0, .null), (.aload_n 0, 1, 0, 0, .null), (.getfield 55, 3, 60, 26, .ref 73), (.iload 6, 2, 0, 0, .null)] (pc' := 93) (ls' := [some (.ref 60), some (.int l1), some (.int l2), some (.int l3), some (.int l4), some (.int l5), some (.int ((10 * (g.1 60 18)) + l5)), none]) (st' := [.int ((10 * (g.1 60 18)) + l5), .ref 73, .int l2, .int ((l2 >>> ((g.1 72 ((10 * (g.1 60 18)) + l5).toNatClampNeg) &&& 31)) &&& 1)]) (g' := g) (by decide +kernel) rfl ?_
        obtain ⟨h17, H⟩ := xg_elim H
        refine xiald A (nxt := 94) (by decide +kernel) (hS _ _ sh_73) h17 ?_
        show xW k S 0 0 94 [some (.ref 60), some (.int l1), some (.int l2), some (.int l3), some (.int l4), some (.int l5), some (.int ((10 * (g.1 60 18)) + l5)), none] [.int (g.1 73 ((10 * (g.1 60 18)) + l5).toNatClampNeg), .int l2, .int ((l2 >>> ((g.1 72 ((10 * (g.1 60 18)) + l5).toNatClampNeg) &&& 31)) &&& 1)] g
        refine xb A [(.ishr, 1, 0, 0, .null), (.iconst 1, 1, 0, 0, .int 1), (.iand, 1, 0, 0, .null)] (pc' := 97) (ls' := [some (.ref 60), some (.int l1), some (.int l2), some (.int l3), some (.int l4), some (.int l5), some (.int ((10 * (g.1 60 18)) + l5)), none]) (st' := [.int ((l2 >>> ((g.1 73 ((10 * (g.1 60 18)) + l5).toNatClampNeg) &&& 31)) &&& 1), .int ((l2 >>> ((g.1 72 ((10 * (g.1 60 18)) + l5).toNatClampNeg) &&& 31)) &&& 1)]) (g' := g) (by decide +kernel) rfl ?_
        refine xic_eq A (7) 104 100 (by decide +kernel) (fun h18 => ?_) (fun h18 => ?_)
        · rw [if_pos h18] at H
          exact t_X12_tree_60_104 hS A hR hrm hz hk29 ih _ _ _ _ _ _ _ H
        · rw [if_neg h18] at H
          refine xb A [(.iconst 1, 1, 0, 0, .int 1)] (pc' := 101) (ls' := [some (.ref 60), some (.int l1), some (.int l2), some (.int l3), some (.int l4), some (.int l5), some (.int ((10 * (g.1 60 18)) + l5)), none]) (st' := [.int 1]) (g' := g) (by decide +kernel) rfl ?_
          refine xgoto A (4) 105 (by decide +kernel) ?_
          exact t_X12_tree_60_105 hS A hR hrm hz hk29 ih _ _ _ _ _ _ _ _ H
theorem fr_X12_tree_60_40 {k29 : Int32 → Int32 → Int32 → xG → Option (Int32 × xG)} (hk29 : ∀ (l1 : Int32) (l2 : Int32) (l3 : Int32) (g : xG) (out : Int32 × xG), k29 l1 l2 l3 g = some out → xfrm fp_X12_tree_60 g (out.2)) : ∀ (n : Nat) (l1 : Int32) (l2 : Int32) (l3 : Int32) (l4 : Int32) (l5 : Int32) (g : xG) (out : Int32 × xG), f_X12_tree_60_40 k29 n l1 l2 l3 l4 l5 g = some out → xfrm fp_X12_tree_60 g (out.2) := by
  intro n
  induction n with
  | zero => intro l1 l2 l3 l4 l5 g out H; exact absurd H (by simp [f_X12_tree_60_40])
  | succ n ih =>
    intro l1 l2 l3 l4 l5 g out H
    have H : (xg (¬ ((g.1 60 18) < 0 ∨ 2 ≤ (g.1 60 18).toNatClampNeg)) (
  if (g.1 71 (g.1 60 18).toNatClampNeg) ≤ l5 then
    if 0 ≤ l4 then
      xg (¬ (l4 < 0 ∨ 20 ≤ l4.toNatClampNeg)) (
        xg (¬ (l4 < 0 ∨ 20 ≤ l4.toNatClampNeg)) (
          xg (¬ (l4 < 0 ∨ 20 ≤ l4.toNatClampNeg)) (
            k29 l1 (l2 ||| (((1 : Int32) <<< ((g.1 72 l4.toNatClampNeg) &&& 31)) ||| ((1 : Int32) <<< ((g.1 73 l4.toNatClampNeg) &&& 31)))) (l3 + (g.1 74 l4.toNatClampNeg)) g)))
    else
      some ((-2), g)
  else
    (f_X12_isOpen_60 l5 g).bind fun w2 =>
    if w2 = 0 then
      f_X12_tree_60_104 k29 (f_X12_tree_60_40 k29 n) l1 l2 l3 l4 l5 ((10 * (g.1 60 18)) + l5) g
    else
      xg (¬ (((10 * (g.1 60 18)) + l5) < 0 ∨ 20 ≤ ((10 * (g.1 60 18)) + l5).toNatClampNeg)) (
        xg (¬ (((10 * (g.1 60 18)) + l5) < 0 ∨ 20 ≤ ((10 * (g.1 60 18)) + l5).toNatClampNeg)) (
          if ((l2 >>> ((g.1 72 ((10 * (g.1 60 18)) + l5).toNatClampNeg) &&& 31)) &&& 1) = ((l2 >>> ((g.1 73 ((10 * (g.1 60 18)) + l5).toNatClampNeg) &&& 31)) &&& 1) then
            f_X12_tree_60_104 k29 (f_X12_tree_60_40 k29 n) l1 l2 l3 l4 l5 ((10 * (g.1 60 18)) + l5) g
          else
            f_X12_tree_60_105 k29 (f_X12_tree_60_40 k29 n) l1 l2 l3 l4 l5 ((10 * (g.1 60 18)) + l5) 1 g)))) = some out := H
    obtain ⟨h4, H⟩ := xg_elim H
    by_cases h5 : (g.1 71 (g.1 60 18).toNatClampNeg) ≤ l5
    · rw [if_pos h5] at H
      by_cases h6 : 0 ≤ l4
      · rw [if_pos h6] at H
        obtain ⟨h7, H⟩ := xg_elim H
        obtain ⟨h8, H⟩ := xg_elim H
        obtain ⟨h9, H⟩ := xg_elim H
        exact xfrm.tr xfrm.rf (hk29 _ _ _ _ _ H) rfl
      · rw [if_neg h6] at H
        obtain rfl := Option.some.inj H
        exact xfrm.rf
    · rw [if_neg h5] at H
      obtain ⟨w2, e2, H⟩ := xbind H
      by_cases h10 : w2 = 0
      · rw [if_pos h10] at H
        exact xfrm.tr xfrm.rf (fr_X12_tree_60_104 hk29 ih _ _ _ _ _ _ _ _ H) rfl
      · rw [if_neg h10] at H
        obtain ⟨h16, H⟩ := xg_elim H
        obtain ⟨h17, H⟩ := xg_elim H
        by_cases h18 : ((l2 >>> ((g.1 72 ((10 * (g.1 60 18)) + l5).toNatClampNeg) &&& 31)) &&& 1) = ((l2 >>> ((g.1 73 ((10 * (g.1 60 18)) + l5).toNatClampNeg) &&& 31)) &&& 1)
        · rw [if_pos h18] at H
          exact xfrm.tr xfrm.rf (fr_X12_tree_60_104 hk29 ih _ _ _ _ _ _ _ _ H) rfl
        · rw [if_neg h18] at H
          exact xfrm.tr xfrm.rf (fr_X12_tree_60_105 hk29 ih _ _ _ _ _ _ _ _ _ H) rfl
set_option maxRecDepth 20000 in
theorem t_X12_tree_60_29 {k : xK} {S : List xSh} {out : Int32 × xG} (hS : xpf SH2 S) (A : xAt k mX12_tree.2.1 12 SH2 S) (hR : xRet k 0 0 S (fun r g' => r = some (.int out.1) ∧ g' = out.2) mX12_tree.2.2.2) (hrm : xrm k = { frames := 2, cells := 0, slots := 0, locals := 44 }) (hz : xhs k = xb0 k + S.length)   : ∀ (n : Nat) (l1 : Int32) (l2 : Int32) (l3 : Int32) (g : xG), f_X12_tree_60_29 n l1 l2 l3 g = some out → xW k S 0 0 29 [some (.ref 60), some (.int l1), some (.int l2), some (.int l3), none, none, none, none] [] g := by
  intro n
  induction n with
  | zero => intro l1 l2 l3 g H; exact absurd H (by simp [f_X12_tree_60_29])
  | succ n ih =>
    intro l1 l2 l3 g H
    have H : (if l2 = l1 then
  some (l3, g)
else
  f_X12_tree_60_40 (f_X12_tree_60_29 n) xN l1 l2 l3 (-1) 0 g) = some out := H
    refine xb A [(.iload_n 2, 1, 0, 0, .null), (.iload_n 1, 1, 0, 0, .null)] (pc' := 31) (ls' := [some (.ref 60), some (.int l1), some (.int l2), some (.int l3), none, none, none, none]) (st' := [.int l1, .int l2]) (g' := g) (by decide +kernel) rfl ?_
    refine xic_eq A (156) 187 34 (by decide +kernel) (fun h3 => ?_) (fun h3 => ?_)
    · rw [if_pos h3] at H
      refine xb A [(.iload_n 3, 1, 0, 0, .null)] (pc' := 188) (ls' := [some (.ref 60), some (.int l1), some (.int l2), some (.int l3), none, none, none, none]) (st' := [.int l3]) (g' := g) (by decide +kernel) rfl ?_
      obtain rfl := Option.some.inj H
      exact xret_i A hR hz (by decide +kernel) rfl ⟨rfl, rfl⟩
    · rw [if_neg h3] at H
      refine xb A [(.iconst (-1), 1, 0, 0, .int (-1)), (.istore 4, 2, 0, 0, .null), (.iconst 0, 1, 0, 0, .int 0), (.istore 5, 2, 0, 0, .null)] (pc' := 40) (ls' := [some (.ref 60), some (.int l1), some (.int l2), some (.int l3), some (.int (-1)), some (.int 0), none, none]) (st' := []) (g' := g) (by decide +kernel) rfl ?_
      exact t_X12_tree_60_40 hS A hR hrm hz ih _ _ _ _ _ _ _ H
theorem fr_X12_tree_60_29   : ∀ (n : Nat) (l1 : Int32) (l2 : Int32) (l3 : Int32) (g : xG) (out : Int32 × xG), f_X12_tree_60_29 n l1 l2 l3 g = some out → xfrm fp_X12_tree_60 g (out.2) := by
  intro n
  induction n with
  | zero => intro l1 l2 l3 g out H; exact absurd H (by simp [f_X12_tree_60_29])
  | succ n ih =>
    intro l1 l2 l3 g out H
    have H : (if l2 = l1 then
  some (l3, g)
else
  f_X12_tree_60_40 (f_X12_tree_60_29 n) xN l1 l2 l3 (-1) 0 g) = some out := H
    by_cases h3 : l2 = l1
    · rw [if_pos h3] at H
      obtain rfl := Option.some.inj H
      exact xfrm.rf
    · rw [if_neg h3] at H
      exact xfrm.tr xfrm.rf (fr_X12_tree_60_40 ih _ _ _ _ _ _ _ _ H) rfl
set_option maxRecDepth 20000 in
theorem c_X12_tree_60 {S : List xSh} (hS : xpf SH2 S) {g : xG}  (out : Int32 × xG) (H : f_X12_tree_60  g = some out) : xC mX12_tree 2 44 0 0 S [.ref 60] g S (fun r g' => r = some (.int out.1) ∧ g' = out.2) := by
  have H : (xg (¬ ((g.1 60 18) < 0 ∨ 2 ≤ (g.1 60 18).toNatClampNeg)) (
  if (((1 : Int32) <<< ((g.1 70 (g.1 60 18).toNatClampNeg) &&& 31)) - 1) = 0 then
    some ((-2), g)
  else
    (f_X12_copies_60 g).bind fun w1 =>
    f_X12_tree_60_29 xN (((1 : Int32) <<< ((g.1 70 (g.1 60 18).toNatClampNeg) &&& 31)) - 1) 1 0 w1)) = some out := H
  refine xC.of 12 SH2 [some (.ref 60), none, none, none, none, none, none, none] hS (by decide +kernel) rfl (fun _ _ => Nat.le_of_ble_eq_true rfl) (fun _ _ => rfl) ?_
  intro k A hR hrm hz
  refine xb A [(.iconst 1, 1, 0, 0, .int 1), (.aload_n 0, 1, 0, 0, .null), (.getfield 46, 3, 60, 23, .ref 70), (.aload_n 0, 1, 0, 0, .null), (.getfield 227, 3, 60, 18, .int 0)] (pc' := 9) (ls' := [some (.ref 60), none, none, none, none, none, none, none]) (st' := [.int (g.1 60 18), .ref 70, .int 1]) (g' := g) (by decide +kernel) rfl ?_
  obtain ⟨h1, H⟩ := xg_elim H
  refine xiald A (nxt := 10) (by decide +kernel) (hS _ _ sh_70) h1 ?_
  show xW k S 0 0 10 [some (.ref 60), none, none, none, none, none, none, none] [.int (g.1 70 (g.1 60 18).toNatClampNeg), .int 1] g
  refine xb A [(.ishl, 1, 0, 0, .null), (.iconst 1, 1, 0, 0, .int 1), (.isub, 1, 0, 0, .null), (.istore_n 1, 1, 0, 0, .null), (.iload_n 1, 1, 0, 0, .null)] (pc' := 15) (ls' := [some (.ref 60), some (.int (((1 : Int32) <<< ((g.1 70 (g.1 60 18).toNatClampNeg) &&& 31)) - 1)), none, none, none, none, none, none]) (st' := [.int (((1 : Int32) <<< ((g.1 70 (g.1 60 18).toNatClampNeg) &&& 31)) - 1)]) (g' := g) (by decide +kernel) rfl ?_
  refine xif_ne A (6) 21 18 (by decide +kernel) (fun h2 => ?_) (fun h2 => ?_)
  · rw [if_neg h2] at H
    refine xb A [(.aload_n 0, 1, 0, 0, .null)] (pc' := 22) (ls' := [some (.ref 60), some (.int (((1 : Int32) <<< ((g.1 70 (g.1 60 18).toNatClampNeg) &&& 31)) - 1)), none, none, none, none, none, none]) (st' := [.ref 60]) (g' := g) (by decide +kernel) rfl ?_
    obtain ⟨w1, e1, H⟩ := xbind H
    refine xcallV A (ix := 320) (nxt := 25) hrm hz [] [] 1699 (c_X12_copies_60 hS _ e1) ok_X12_copies (by decide +kernel) rfl (fun r g1 hq => ?_)
    rw [hq.1, hq.2]
    show xW k S 0 0 25 [some (.ref 60), some (.int (((1 : Int32) <<< ((g.1 70 (g.1 60 18).toNatClampNeg) &&& 31)) - 1)), none, none, none, none, none, none] [] w1
    refine xb A [(.iconst 1, 1, 0, 0, .int 1), (.istore_n 2, 1, 0, 0, .null), (.iconst 0, 1, 0, 0, .int 0), (.istore_n 3, 1, 0, 0, .null)] (pc' := 29) (ls' := [some (.ref 60), some (.int (((1 : Int32) <<< ((g.1 70 (g.1 60 18).toNatClampNeg) &&& 31)) - 1)), some (.int 1), some (.int 0), none, none, none, none]) (st' := []) (g' := w1) (by decide +kernel) rfl ?_
    exact t_X12_tree_60_29 hS A hR hrm hz _ _ _ _ _ H
  · rw [if_pos h2] at H
    refine xb A [(.bipush (-2), 2, 0, 0, .int (-2))] (pc' := 20) (ls' := [some (.ref 60), some (.int (((1 : Int32) <<< ((g.1 70 (g.1 60 18).toNatClampNeg) &&& 31)) - 1)), none, none, none, none, none, none]) (st' := [.int (-2)]) (g' := g) (by decide +kernel) rfl ?_
    obtain rfl := Option.some.inj H
    exact xret_i A hR hz (by decide +kernel) rfl ⟨rfl, rfl⟩
theorem fr_X12_tree_60  {g : xG} (out : Int32 × xG) (H : f_X12_tree_60  g = some out) : xfrm fp_X12_tree_60 g (out.2) := by
  have H : (xg (¬ ((g.1 60 18) < 0 ∨ 2 ≤ (g.1 60 18).toNatClampNeg)) (
  if (((1 : Int32) <<< ((g.1 70 (g.1 60 18).toNatClampNeg) &&& 31)) - 1) = 0 then
    some ((-2), g)
  else
    (f_X12_copies_60 g).bind fun w1 =>
    f_X12_tree_60_29 xN (((1 : Int32) <<< ((g.1 70 (g.1 60 18).toNatClampNeg) &&& 31)) - 1) 1 0 w1)) = some out := H
  obtain ⟨h1, H⟩ := xg_elim H
  by_cases h2 : (((1 : Int32) <<< ((g.1 70 (g.1 60 18).toNatClampNeg) &&& 31)) - 1) = 0
  · rw [if_pos h2] at H
    obtain rfl := Option.some.inj H
    exact xfrm.rf
  · rw [if_neg h2] at H
    obtain ⟨w1, e1, H⟩ := xbind H
    have hf1 : xfrm fp_X12_tree_60 g (w1) := xfrm.tr xfrm.rf (fr_X12_copies_60 _ e1) rfl
    exact xfrm.tr hf1 (fr_X12_tree_60_29 _ _ _ _ _ _ H) rfl
