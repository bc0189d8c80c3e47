/-! methods, walked by program -/
def f_X7_leastMilesToJoin_42_22  (g : xG) : Nat → Int32 → Int32 → Int32 → Option (Int32)
  | 0, _, _, _ => none
  | n + 1, l1, l2, l3 =>
    if (f_X4_towns_3 g) ≤ l3 then
      some l2
    else
      (f_X7_shortestOutOf_42 l1 g).bind fun w1 =>
      if 0 ≤ w1 then
        f_X7_leastMilesToJoin_42_22 g n (l1 ||| ((f_X11_bit (f_X4_oneEndOf_3 w1 g) g) ||| (f_X11_bit (f_X4_otherEndOf_3 w1 g) g))) (l2 + (f_X4_milesOf_3 w1 g)) (l3 + 1)
      else
        some (-2)
def f_X7_leastMilesToJoin_42  (g : xG) : Option (Int32) :=
  if (f_X4_towns_3 g) = 0 then
    some (-2)
  else
    f_X7_leastMilesToJoin_42_22 g xN (f_X11_bit 0 g) 0 1
set_option maxRecDepth 20000 in
theorem t_X7_leastMilesToJoin_42_22 {k : xK} {S : List xSh} {g : xG} {out : Int32} (hS : xpf SH1 S) (A : xAt k mX7_leastMilesToJoin.2.1 7 SH1 S) (hR : xRet k 0 0 S (fun r g' => r = some (.int out) ∧ g' = g) mX7_leastMilesToJoin.2.2.2) (hrm : xrm k = { frames := 3, cells := 0, slots := 0, locals := 67 }) (hz : xhs k = xb0 k + S.length)   : ∀ (n : Nat) (l1 : Int32) (l2 : Int32) (l3 : Int32), f_X7_leastMilesToJoin_42_22 g n l1 l2 l3 = some out → xW k S 0 0 22 [some (.ref 42), some (.int l1), some (.int l2), some (.int l3), none] [] g := by
  intro n
  induction n with
  | zero => intro l1 l2 l3 H; exact absurd H (by simp [f_X7_leastMilesToJoin_42_22])
  | succ n ih =>
    intro l1 l2 l3 H
    have H : (if (f_X4_towns_3 g) ≤ l3 then
  some l2
else
  (f_X7_shortestOutOf_42 l1 g).bind fun w1 =>
  if 0 ≤ w1 then
    f_X7_leastMilesToJoin_42_22 g n (l1 ||| ((f_X11_bit (f_X4_oneEndOf_3 w1 g) g) ||| (f_X11_bit (f_X4_otherEndOf_3 w1 g) g))) (l2 + (f_X4_milesOf_3 w1 g)) (l3 + 1)
  else
    some (-2)) = some out := H
    refine xb A [(.iload_n 3, 1, 0, 0, .null), (.aload_n 0, 1, 0, 0, .null), (.getfield 15, 3, 42, 0, .ref 3)] (pc' := 27) (ls' := [some (.ref 42), some (.int l1), some (.int l2), some (.int l3), none]) (st' := [.ref 3, .int l3]) (g' := g) (by decide +kernel) rfl ?_
    refine xcallV A (ix := 50) (nxt := 30) hrm hz [] [.int l3] 1111 (c_X4_towns_3 hS _ rfl) ok_X4_towns (by decide +kernel) rfl (fun r g1 hq => ?_)
    rw [hq.1, hq.2]
    show xW k S 0 0 30 [some (.ref 42), some (.int l1), some (.int l2), some (.int l3), none] [.int (f_X4_towns_3 g), .int l3] g
    refine xic_ge A (64) 94 33 (by decide +kernel) (fun h2 => ?_) (fun h2 => ?_)
    · rw [if_pos h2] at H
      refine xb A [(.iload_n 2, 1, 0, 0, .null)] (pc' := 95) (ls' := [some (.ref 42), some (.int l1), some (.int l2), some (.int l3), none]) (st' := [.int l2]) (g' := g) (by decide +kernel) rfl ?_
      obtain rfl := Option.some.inj H
      exact xret_i A hR hz (by decide +kernel) rfl ⟨rfl, rfl⟩
    · rw [if_neg h2] at H
      refine xb A [(.aload_n 0, 1, 0, 0, .null), (.iload_n 1, 1, 0, 0, .null)] (pc' := 35) (ls' := [some (.ref 42), some (.int l1), some (.int l2), some (.int l3), none]) (st' := [.int l1, .ref 42]) (g' := g) (by decide +kernel) rfl ?_
      obtain ⟨w1, e1, H⟩ := xbind H
      refine xcallV A (ix := 98) (nxt := 38) hrm hz [.int l1] [] 1240 (c_X7_shortestOutOf_42 hS _ e1) ok_X7_shortestOutOf (by decide +kernel) rfl (fun r g1 hq => ?_)
      rw [hq.1, hq.2]
      show xW k S 0 0 38 [some (.ref 42), some (.int l1), some (.int l2), some (.int l3), none] [.int w1] g
      refine xb A [(.istore 4, 2, 0, 0, .null), (.iload 4, 2, 0, 0, .null)] (pc' := 42) (ls' := [some (.ref 42), some (.int l1), some (.int l2), some (.int l3), some (.int w1)]) (st' := [.int w1]) (g' := g) (by decide +kernel) rfl ?_
      refine xif_ge A (6) 48 45 (by decide +kernel) (fun h3 => ?_) (fun h3 => ?_)
      · rw [if_pos h3] at H
        refine xb A [(.iload_n 1, 1, 0, 0, .null), (.aload_n 0, 1, 0, 0, .null), (.getfield 15, 3, 42, 0, .ref 3), (.iload 4, 2, 0, 0, .null)] (pc' := 55) (ls' := [some (.ref 42), some (.int l1), some (.int l2), some (.int l3), some (.int w1)]) (st' := [.int w1, .ref 3, .int l1]) (g' := g) (by decide +kernel) rfl ?_
        refine xcallV A (ix := 74) (nxt := 58) hrm hz [.int w1] [.int l1] 1200 (c_X4_oneEndOf_3 hS _ rfl) ok_X4_oneEndOf (by decide +kernel) rfl (fun r g1 hq => ?_)
        rw [hq.1, hq.2]
        show xW k S 0 0 58 [some (.ref 42), some (.int l1), some (.int l2), some (.int l3), some (.int w1)] [.int (f_X4_oneEndOf_3 w1 g), .int l1] g
        refine xcallSN A (ix := 39) (nxt := 61) (host := "NoonRinger") hrm hz [.int (f_X4_oneEndOf_3 w1 g)] [.int l1] 23 (c_X11_bit hS _ rfl) ok_X11_bit (by decide +kernel) rfl (fun r g1 hq => ?_)
        rw [hq.1, hq.2]
        show xW k S 0 0 61 [some (.ref 42), some (.int l1), some (.int l2), some (.int l3), some (.int w1)] [.int (f_X11_bit (f_X4_oneEndOf_3 w1 g) g), .int l1] g
        refine xb A [(.aload_n 0, 1, 0, 0, .null), (.getfield 15, 3, 42, 0, .ref 3), (.iload 4, 2, 0, 0, .null)] (pc' := 67) (ls' := [some (.ref 42), some (.int l1), some (.int l2), some (.int l3), some (.int w1)]) (st' := [.int w1, .ref 3, .int (f_X11_bit (f_X4_oneEndOf_3 w1 g) g), .int l1]) (g' := g) (by decide +kernel) rfl ?_
        refine xcallV A (ix := 77) (nxt := 70) hrm hz [.int w1] [.int (f_X11_bit (f_X4_oneEndOf_3 w1 g) g), .int l1] 1201 (c_X4_otherEndOf_3 hS _ rfl) ok_X4_otherEndOf (by decide +kernel) rfl (fun r g1 hq => ?_)
        rw [hq.1, hq.2]
        show xW k S 0 0 70 [some (.ref 42), some (.int l1), some (.int l2), some (.int l3), some (.int w1)] [.int (f_X4_otherEndOf_3 w1 g), .int (f_X11_bit (f_X4_oneEndOf_3 w1 g) g), .int l1] g
        refine xcallSN A (ix := 39) (nxt := 73) (host := "NoonRinger") hrm hz [.int (f_X4_otherEndOf_3 w1 g)] [.int (f_X11_bit (f_X4_oneEndOf_3 w1 g) g), .int l1] 23 (c_X11_bit hS _ rfl) ok_X11_bit (by decide +kernel) rfl (fun r g1 hq => ?_)
        rw [hq.1, hq.2]
        show xW k S 0 0 73 [some (.ref 42), some (.int l1), some (.int l2), some (.int l3), some (.int w1)] [.int (f_X11_bit (f_X4_otherEndOf_3 w1 g) g), .int (f_X11_bit (f_X4_oneEndOf_3 w1 g) g), .int l1] g
        refine xb A [(.ior, 1, 0, 0, .null), (.ior, 1, 0, 0, .null), (.istore_n 1, 1, 0, 0, .null), (.iload_n 2, 1, 0, 0, .null), (.aload_n 0, 1, 0, 0, .null), (.getfield 15, 3, 42, 0, .ref 3), (.iload 4, 2, 0, 0, .null)] (pc' := 83) (ls' := [some (.ref 42), some (.int (l1 ||| ((f_X11_bit (f_X4_oneEndOf_3 w1 g) g) ||| (f_X11_bit (f_X4_otherEndOf_3 w1 g) g)))), some (.int l2), some (.int l3), some (.int w1)]) (st' := [.int w1, .ref 3, .int l2]) (g' := g) (by decide +kernel) rfl ?_
        refine xcallV A (ix := 43) (nxt := 86) hrm hz [.int w1] [.int l2] 1117 (c_X4_milesOf_3 hS _ rfl) ok_X4_milesOf (by decide +kernel) rfl (fun r g1 hq => ?_)
        rw [hq.1, hq.2]
        show xW k S 0 0 86 [some (.ref 42), some (.int (l1 ||| ((f_X11_bit (f_X4_oneEndOf_3 w1 g) g) ||| (f_X11_bit (f_X4_otherEndOf_3 w1 g) g)))), some (.int l2), some (.int l3), some (.int w1)] [.int (f_X4_milesOf_3 w1 g), .int l2] g
        refine xb A [(.iadd, 1, 0, 0, .null), (.istore_n 2, 1, 0, 0, .null), (.iinc 3 1, 3, 0, 0, .null)] (pc' := 91) (ls' := [some (.ref 42), some (.int (l1 ||| ((f_X11_bit (f_X4_oneEndOf_3 w1 g) g) ||| (f_X11_bit (f_X4_otherEndOf_3 w1 g) g)))), some (.int (l2 + (f_X4_milesOf_3 w1 g))), some (.int (l3 + 1)), some (.int w1)]) (st' := []) (g' := g) (by decide +kernel) rfl ?_
        refine xgoto A (-69) 22 (by decide +kernel) ?_
        refine xweak (ls' := [some (.ref 42), some (.int (l1 ||| ((f_X11_bit (f_X4_oneEndOf_3 w1 g) g) ||| (f_X11_bit (f_X4_otherEndOf_3 w1 g) g)))), some (.int (l2 + (f_X4_milesOf_3 w1 g))), some (.int (l3 + 1)), none]) (by exact ⟨rfl, ⟨rfl, ⟨rfl, ⟨rfl, trivial⟩⟩⟩⟩) ?_
        exact ih _ _ _ H
      · rw [if_neg h3] at H
        refine xb A [(.bipush (-2), 2, 0, 0, .int (-2))] (pc' := 47) (ls' := [some (.ref 42), some (.int l1), some (.int l2), some (.int l3), some (.int w1)]) (st' := [.int (-2)]) (g' := g) (by decide +kernel) rfl ?_
        obtain rfl := Option.some.inj H
        exact xret_i A hR hz (by decide +kernel) rfl ⟨rfl, rfl⟩
set_option maxRecDepth 20000 in
theorem c_X7_leastMilesToJoin_42 {S : List xSh} (hS : xpf SH1 S) {g : xG}  (out : Int32) (H : f_X7_leastMilesToJoin_42  g = some out) : xC mX7_leastMilesToJoin 3 67 0 0 S [.ref 42] g S (fun r g' => r = some (.int out) ∧ g' = g) := by
  have H : (if (f_X4_towns_3 g) = 0 then
  some (-2)
else
  f_X7_leastMilesToJoin_42_22 g xN (f_X11_bit 0 g) 0 1) = some out := H
  refine xC.of 7 SH1 [some (.ref 42), none, none, none, none] hS (by decide +kernel) rfl (fun _ _ => Nat.le_of_ble_eq_true rfl) (fun _ _ => rfl) ?_
  intro k A hR hrm hz
  refine xb A [(.aload_n 0, 1, 0, 0, .null), (.getfield 15, 3, 42, 0, .ref 3)] (pc' := 4) (ls' := [some (.ref 42), none, none, none, none]) (st' := [.ref 3]) (g' := g) (by decide +kernel) rfl ?_
  refine xcallV A (ix := 50) (nxt := 7) hrm hz [] [] 1111 (c_X4_towns_3 hS _ rfl) ok_X4_towns (by decide +kernel) rfl (fun r g1 hq => ?_)
  rw [hq.1, hq.2]
  show xW k S 0 0 7 [some (.ref 42), none, none, none, none] [.int (f_X4_towns_3 g)] g
  refine xif_ne A (6) 13 10 (by decide +kernel) (fun h1 => ?_) (fun h1 => ?_)
  · rw [if_neg h1] at H
    refine xb A [(.iconst 0, 1, 0, 0, .int 0)] (pc' := 14) (ls' := [some (.ref 42), none, none, none, none]) (st' := [.int 0]) (g' := g) (by decide +kernel) rfl ?_
    refine xcallSN A (ix := 39) (nxt := 17) (host := "NoonRinger") hrm hz [.int 0] [] 23 (c_X11_bit hS _ rfl) ok_X11_bit (by decide +kernel) rfl (fun r g1 hq => ?_)
    rw [hq.1, hq.2]
    show xW k S 0 0 17 [some (.ref 42), none, none, none, none] [.int (f_X11_bit 0 g)] g
    refine xb A [(.istore_n 1, 1, 0, 0, .null), (.iconst 0, 1, 0, 0, .int 0), (.istore_n 2, 1, 0, 0, .null), (.iconst 1, 1, 0, 0, .int 1), (.istore_n 3, 1, 0, 0, .null)] (pc' := 22) (ls' := [some (.ref 42), some (.int (f_X11_bit 0 g)), some (.int 0), some (.int 1), none]) (st' := []) (g' := g) (by decide +kernel) rfl ?_
    exact t_X7_leastMilesToJoin_42_22 hS A hR hrm hz _ _ _ _ H
  · rw [if_pos h1] at H
    refine xb A [(.bipush (-2), 2, 0, 0, .int (-2))] (pc' := 12) (ls' := [some (.ref 42), none, none, none, none]) (st' := [.int (-2)]) (g' := g) (by decide +kernel) rfl ?_
    obtain rfl := Option.some.inj H
    exact xret_i A hR hz (by decide +kernel) rfl ⟨rfl, rfl⟩
def f_X11_tree_0  (g : xG) : Option (Int32) :=
  (f_X7_leastMilesToJoin_42 g).bind fun w1 =>
  some w1
set_option maxRecDepth 20000 in
theorem c_X11_tree_0 {S : List xSh} (hS : xpf SH1 S) {g : xG}  (out : Int32) (H : f_X11_tree_0  g = some out) : xC mX11_tree 4 91 0 0 S [.ref 0] g S (fun r g' => r = some (.int out) ∧ g' = g) := by
  have H : ((f_X7_leastMilesToJoin_42 g).bind fun w1 =>
some w1) = some out := H
  refine xC.of 11 SH1 [some (.ref 0)] hS (by decide +kernel) rfl (fun _ _ => Nat.le_of_ble_eq_true rfl) (fun _ _ => rfl) ?_
  intro k A hR hrm hz
  refine xb A [(.aload_n 0, 1, 0, 0, .null), (.getfield 49, 3, 0, 5, .ref 42)] (pc' := 4) (ls' := [some (.ref 0)]) (st' := [.ref 42]) (g' := g) (by decide +kernel) rfl ?_
  obtain ⟨w1, e1, H⟩ := xbind H
  refine xcallV A (ix := 302) (nxt := 7) hrm hz [] [] 1236 (c_X7_leastMilesToJoin_42 hS _ e1) ok_X7_leastMilesToJoin (by decide +kernel) rfl (fun r g1 hq => ?_)
  rw [hq.1, hq.2]
  show xW k S 0 0 7 [some (.ref 0)] [.int w1] g
  obtain rfl := Option.some.inj H
  exact xret_i A hR hz (by decide +kernel) rfl ⟨rfl, rfl⟩
def f_X11_bridges_0_4  : Nat → Int32 → Int32 → xG → Option (Int32 × xG)
  | 0, _, _, _ => none
  | n + 1, l1, l2, g =>
    if (f_X4_roads_3 g) ≤ l2 then
      some (l1, g)
    else
      if (f_X10_isOpen_38 l2 g) = 0 then
        f_X11_bridges_0_4 n l1 (l2 + 1) g
      else
        (f_X10_measure_40 ((f_X6_get_48 4 g) ||| (f_X11_bit l2 g)) g).bind fun w1 =>
        if (f_X10_between_40 (f_X4_oneEndOf_3 l2 w1) (f_X4_otherEndOf_3 l2 w1) w1) = 999 then
          f_X11_bridges_0_4 n (l1 ||| (f_X11_bit l2 w1)) (l2 + 1) w1
        else
          f_X11_bridges_0_4 n (l1 ||| 0) (l2 + 1) w1
def f_X11_bridges_0  (g : xG) : Option (Int32 × xG) :=
  f_X11_bridges_0_4 xN 0 0 g
set_option maxRecDepth 20000 in
theorem t_X11_bridges_0_4 {k : xK} {S : List xSh} {out : Int32 × xG} (hS : xpf SH1 S) (A : xAt k mX11_bridges.2.1 11 SH1 S) (hR : xRet k 0 0 S (fun r g' => r = some (.int out.1) ∧ g' = out.2) mX11_bridges.2.2.2) (hrm : xrm k = { frames := 4, cells := 0, slots := 0, locals := 90 }) (hz : xhs k = xb0 k + S.length)   : ∀ (n : Nat) (l1 : Int32) (l2 : Int32) (g : xG), f_X11_bridges_0_4 n l1 l2 g = some out → xW k S 0 0 4 [some (.ref 0), some (.int l1), some (.int l2), none] [] g := by
  intro n
  induction n with
  | zero => intro l1 l2 g H; exact absurd H (by simp [f_X11_bridges_0_4])
  | succ n ih =>
    intro l1 l2 g H
    have H : (if (f_X4_roads_3 g) ≤ l2 then
  some (l1, g)
else
  if (f_X10_isOpen_38 l2 g) = 0 then
    f_X11_bridges_0_4 n l1 (l2 + 1) g
  else
    (f_X10_measure_40 ((f_X6_get_48 4 g) ||| (f_X11_bit l2 g)) g).bind fun w1 =>
    if (f_X10_between_40 (f_X4_oneEndOf_3 l2 w1) (f_X4_otherEndOf_3 l2 w1) w1) = 999 then
      f_X11_bridges_0_4 n (l1 ||| (f_X11_bit l2 w1)) (l2 + 1) w1
    else
      f_X11_bridges_0_4 n (l1 ||| 0) (l2 + 1) w1) = some out := H
    refine xb A [(.iload_n 2, 1, 0, 0, .null), (.aload_n 0, 1, 0, 0, .null), (.getfield 19, 3, 0, 1, .ref 3)] (pc' := 9) (ls' := [some (.ref 0), some (.int l1), some (.int l2), none]) (st' := [.ref 3, .int l2]) (g' := g) (by decide +kernel) rfl ?_
    refine xcallV A (ix := 260) (nxt := 12) hrm hz [] [.int l2] 1136 (c_X4_roads_3 hS _ rfl) ok_X4_roads (by decide +kernel) rfl (fun r g1 hq => ?_)
    rw [hq.1, hq.2]
    show xW k S 0 0 12 [some (.ref 0), some (.int l1), some (.int l2), none] [.int (f_X4_roads_3 g), .int l2] g
    refine xic_ge A (82) 94 15 (by decide +kernel) (fun h1 => ?_) (fun h1 => ?_)
    · rw [if_pos h1] at H
      refine xb A [(.iload_n 1, 1, 0, 0, .null)] (pc' := 95) (ls' := [some (.ref 0), some (.int l1), some (.int l2), none]) (st' := [.int l1]) (g' := g) (by decide +kernel) rfl ?_
      obtain rfl := Option.some.inj H
      exact xret_i A hR hz (by decide +kernel) rfl ⟨rfl, rfl⟩
    · rw [if_neg h1] at H
      refine xb A [(.aload_n 0, 1, 0, 0, .null), (.getfield 37, 3, 0, 3, .ref 38), (.iload_n 2, 1, 0, 0, .null)] (pc' := 20) (ls' := [some (.ref 0), some (.int l1), some (.int l2), none]) (st' := [.int l2, .ref 38]) (g' := g) (by decide +kernel) rfl ?_
      refine xcallV A (ix := 180) (nxt := 23) hrm hz [.int l2] [] 927 (c_X10_isOpen_38 hS _ rfl) ok_X10_isOpen (by decide +kernel) rfl (fun r g1 hq => ?_)
      rw [hq.1, hq.2]
      show xW k S 0 0 23 [some (.ref 0), some (.int l1), some (.int l2), none] [.int (f_X10_isOpen_38 l2 g)] g
      refine xif_eq A (65) 88 26 (by decide +kernel) (fun h2 => ?_) (fun h2 => ?_)
      · rw [if_pos h2] at H
        refine xb A [(.iinc 2 1, 3, 0, 0, .null)] (pc' := 91) (ls' := [some (.ref 0), some (.int l1), some (.int (l2 + 1)), none]) (st' := []) (g' := g) (by decide +kernel) rfl ?_
        refine xgoto A (-87) 4 (by decide +kernel) ?_
        exact ih _ _ _ H
      · rw [if_neg h2] at H
        refine xb A [(.aload_n 0, 1, 0, 0, .null), (.getfield 41, 3, 0, 4, .ref 40), (.aload_n 0, 1, 0, 0, .null), (.getfield 66, 3, 0, 8, .ref 48), (.iconst 4, 1, 0, 0, .int 4)] (pc' := 35) (ls' := [some (.ref 0), some (.int l1), some (.int l2), none]) (st' := [.int 4, .ref 48, .ref 40]) (g' := g) (by decide +kernel) rfl ?_
        refine xcallV A (ix := 135) (nxt := 38) hrm hz [.int 4] [.ref 40] 489 (c_X6_get_48 hS _ rfl) ok_X6_get (by decide +kernel) rfl (fun r g1 hq => ?_)
        rw [hq.1, hq.2]
        show xW k S 0 0 38 [some (.ref 0), some (.int l1), some (.int l2), none] [.int (f_X6_get_48 4 g), .ref 40] g
        refine xb A [(.iload_n 2, 1, 0, 0, .null)] (pc' := 39) (ls' := [some (.ref 0), some (.int l1), some (.int l2), none]) (st' := [.int l2, .int (f_X6_get_48 4 g), .ref 40]) (g' := g) (by decide +kernel) rfl ?_
        refine xcallS A (ix := 214) (nxt := 42) hrm hz [.int l2] [.int (f_X6_get_48 4 g), .ref 40] 1017 (c_X11_bit hS _ rfl) ok_X11_bit (by decide +kernel) rfl (fun r g1 hq => ?_)
        rw [hq.1, hq.2]
        show xW k S 0 0 42 [some (.ref 0), some (.int l1), some (.int l2), none] [.int (f_X11_bit l2 g), .int (f_X6_get_48 4 g), .ref 40] g
        refine xb A [(.ior, 1, 0, 0, .null)] (pc' := 43) (ls' := [some (.ref 0), some (.int l1), some (.int l2), none]) (st' := [.int ((f_X6_get_48 4 g) ||| (f_X11_bit l2 g)), .ref 40]) (g' := g) (by decide +kernel) rfl ?_
        obtain ⟨w1, e1, H⟩ := xbind H
        refine xcallV A (ix := 139) (nxt := 46) hrm hz [.int ((f_X6_get_48 4 g) ||| (f_X11_bit l2 g))] [] 494 (c_X10_measure_40 hS _ e1) ok_X10_measure (by decide +kernel) rfl (fun r g1 hq => ?_)
        rw [hq.1, hq.2]
        show xW k S 0 0 46 [some (.ref 0), some (.int l1), some (.int l2), none] [] w1
        refine xb A [(.aload_n 0, 1, 0, 0, .null), (.getfield 41, 3, 0, 4, .ref 40), (.aload_n 0, 1, 0, 0, .null), (.getfield 19, 3, 0, 1, .ref 3), (.iload_n 2, 1, 0, 0, .null)] (pc' := 55) (ls' := [some (.ref 0), some (.int l1), some (.int l2), none]) (st' := [.int l2, .ref 3, .ref 40]) (g' := w1) (by decide +kernel) rfl ?_
        refine xcallV A (ix := 171) (nxt := 58) hrm hz [.int l2] [.ref 40] 924 (c_X4_oneEndOf_3 hS _ rfl) ok_X4_oneEndOf (by decide +kernel) rfl (fun r g1 hq => ?_)
        rw [hq.1, hq.2]
        show xW k S 0 0 58 [some (.ref 0), some (.int l1), some (.int l2), none] [.int (f_X4_oneEndOf_3 l2 w1), .ref 40] w1
        refine xb A [(.aload_n 0, 1, 0, 0, .null), (.getfield 19, 3, 0, 1, .ref 3), (.iload_n 2, 1, 0, 0, .null)] (pc' := 63) (ls' := [some (.ref 0), some (.int l1), some (.int l2), none]) (st' := [.int l2, .ref 3, .int (f_X4_oneEndOf_3 l2 w1), .ref 40]) (g' := w1) (by decide +kernel) rfl ?_
        refine xcallV A (ix := 174) (nxt := 66) hrm hz [.int l2] [.int (f_X4_oneEndOf_3 l2 w1), .ref 40] 925 (c_X4_otherEndOf_3 hS _ rfl) ok_X4_otherEndOf (by decide +kernel) rfl (fun r g1 hq => ?_)
        rw [hq.1, hq.2]
        show xW k S 0 0 66 [some (.ref 0), some (.int l1), some (.int l2), none] [.int (f_X4_otherEndOf_3 l2 w1), .int (f_X4_oneEndOf_3 l2 w1), .ref 40] w1
        refine xcallV A (ix := 165) (nxt := 69) hrm hz [.int (f_X4_oneEndOf_3 l2 w1), .int (f_X4_otherEndOf_3 l2 w1)] [] 918 (c_X10_between_40 hS _ rfl) ok_X10_between (by decide +kernel) rfl (fun r g1 hq => ?_)
        rw [hq.1, hq.2]
        show xW k S 0 0 69 [some (.ref 0), some (.int l1), some (.int l2), none] [.int (f_X10_between_40 (f_X4_oneEndOf_3 l2 w1) (f_X4_otherEndOf_3 l2 w1) w1)] w1
        refine xb A [(.istore_n 3, 1, 0, 0, .null), (.iload_n 1, 1, 0, 0, .null), (.iload_n 3, 1, 0, 0, .null), (.sipush 999, 3, 0, 0, .int 999)] (pc' := 75) (ls' := [some (.ref 0), some (.int l1), some (.int l2), some (.int (f_X10_between_40 (f_X4_oneEndOf_3 l2 w1) (f_X4_otherEndOf_3 l2 w1) w1))]) (st' := [.int 999, .int (f_X10_between_40 (f_X4_oneEndOf_3 l2 w1) (f_X4_otherEndOf_3 l2 w1) w1), .int l1]) (g' := w1) (by decide +kernel) rfl ?_
        refine xic_ne A (10) 85 78 (by decide +kernel) (fun h3 => ?_) (fun h3 => ?_)
        · rw [if_neg h3] at H
          refine xb A [(.iconst 0, 1, 0, 0, .int 0), (.ior, 1, 0, 0, .null), (.istore_n 1, 1, 0, 0, .null), (.iinc 2 1, 3, 0, 0, .null)] (pc' := 91) (ls' := [some (.ref 0), some (.int (l1 ||| 0)), some (.int (l2 + 1)), some (.int (f_X10_between_40 (f_X4_oneEndOf_3 l2 w1) (f_X4_otherEndOf_3 l2 w1) w1))]) (st' := []) (g' := w1) (by decide +kernel) rfl ?_
          refine xgoto A (-87) 4 (by decide +kernel) ?_
          refine xweak (ls' := [some (.ref 0), some (.int (l1 ||| 0)), some (.int (l2 + 1)), none]) (by exact ⟨rfl, ⟨rfl, ⟨rfl, trivial⟩⟩⟩) ?_
          exact ih _ _ _ H
        · rw [if_pos h3] at H
          refine xb A [(.iload_n 2, 1, 0, 0, .null)] (pc' := 79) (ls' := [some (.ref 0), some (.int l1), some (.int l2), some (.int (f_X10_between_40 (f_X4_oneEndOf_3 l2 w1) (f_X4_otherEndOf_3 l2 w1) w1))]) (st' := [.int l2, .int l1]) (g' := w1) (by decide +kernel) rfl ?_
          refine xcallS A (ix := 214) (nxt := 82) hrm hz [.int l2] [.int l1] 1017 (c_X11_bit hS _ rfl) ok_X11_bit (by decide +kernel) rfl (fun r g1 hq => ?_)
          rw [hq.1, hq.2]
          show xW k S 0 0 82 [some (.ref 0), some (.int l1), some (.int l2), some (.int (f_X10_between_40 (f_X4_oneEndOf_3 l2 w1) (f_X4_otherEndOf_3 l2 w1) w1))] [.int (f_X11_bit l2 w1), .int l1] w1
          refine xgoto A (4) 86 (by decide +kernel) ?_
          refine xb A [(.ior, 1, 0, 0, .null), (.istore_n 1, 1, 0, 0, .null), (.iinc 2 1, 3, 0, 0, .null)] (pc' := 91) (ls' := [some (.ref 0), some (.int (l1 ||| (f_X11_bit l2 w1))), some (.int (l2 + 1)), some (.int (f_X10_between_40 (f_X4_oneEndOf_3 l2 w1) (f_X4_otherEndOf_3 l2 w1) w1))]) (st' := []) (g' := w1) (by decide +kernel) rfl ?_
          refine xgoto A (-87) 4 (by decide +kernel) ?_
          refine xweak (ls' := [some (.ref 0), some (.int (l1 ||| (f_X11_bit l2 w1))), some (.int (l2 + 1)), none]) (by exact ⟨rfl, ⟨rfl, ⟨rfl, trivial⟩⟩⟩) ?_
          exact ih _ _ _ H
set_option maxRecDepth 20000 in
theorem c_X11_bridges_0 {S : List xSh} (hS : xpf SH1 S) {g : xG}  (out : Int32 × xG) (H : f_X11_bridges_0  g = some out) : xC mX11_bridges 4 90 0 0 S [.ref 0] g S (fun r g' => r = some (.int out.1) ∧ g' = out.2) := by
  have H : (f_X11_bridges_0_4 xN 0 0 g) = some out := H
  refine xC.of 11 SH1 [some (.ref 0), none, none, none] hS (by decide +kernel) rfl (fun _ _ => Nat.le_of_ble_eq_true rfl) (fun _ _ => rfl) ?_
  intro k A hR hrm hz
  refine xb A [(.iconst 0, 1, 0, 0, .int 0), (.istore_n 1, 1, 0, 0, .null), (.iconst 0, 1, 0, 0, .int 0), (.istore_n 2, 1, 0, 0, .null)] (pc' := 4) (ls' := [some (.ref 0), some (.int 0), some (.int 0), none]) (st' := []) (g' := g) (by decide +kernel) rfl ?_
  exact t_X11_bridges_0_4 hS A hR hrm hz _ _ _ _ H
def f_X11_steps_0_37  (g : xG) : Nat → Int32 → Int32 → Int32 → Option (Int32)
  | 0, _, _, _ => none
  | n + 1, l2, l3, l4 =>
    if 7 < l4 then
      some (-2)
    else
      if l3 = l2 then
        some l4
      else
        (f_X10_roadToward_38 l3 l2 g).bind fun w1 =>
        f_X11_steps_0_37 g n l2 (f_X4_acrossFrom_3 l3 w1 g) (l4 + 1)
def f_X11_steps_0 (p1 : Int32) (p2 : Int32) (g : xG) : Option (Int32) :=
  if (f_X4_isPerson_3 p1 g) = 0 then
    some (-1)
  else
    if (f_X4_isTown_3 p2 g) = 0 then
      some (-1)
    else
      f_X11_steps_0_37 g xN p2 (f_X6_of_48 p1 5 g) 0
set_option maxRecDepth 20000 in
theorem t_X11_steps_0_37 {k : xK} {S : List xSh} {g : xG} {out : Int32} (hS : xpf SH1 S) (A : xAt k mX11_steps.2.1 11 SH1 S) (hR : xRet k 0 0 S (fun r g' => r = some (.int out) ∧ g' = g) mX11_steps.2.2.2) (hrm : xrm k = { frames := 4, cells := 0, slots := 0, locals := 91 }) (hz : xhs k = xb0 k + S.length)   : ∀ (n : Nat) (l2 : Int32) (l3 : Int32) (l4 : Int32), f_X11_steps_0_37 g n l2 l3 l4 = some out → xW k S 0 0 37 [some (.ref 0), none, some (.int l2), some (.int l3), some (.int l4)] [] g := by
  intro n
  induction n with
  | zero => intro l2 l3 l4 H; exact absurd H (by simp [f_X11_steps_0_37])
  | succ n ih =>
    intro l2 l3 l4 H
    have H : (if 7 < l4 then
  some (-2)
else
  if l3 = l2 then
    some l4
  else
    (f_X10_roadToward_38 l3 l2 g).bind fun w1 =>
    f_X11_steps_0_37 g n l2 (f_X4_acrossFrom_3 l3 w1 g) (l4 + 1)) = some out := H
    refine xb A [(.iload 4, 2, 0, 0, .null), (.bipush 7, 2, 0, 0, .int 7)] (pc' := 41) (ls' := [some (.ref 0), none, some (.int l2), some (.int l3), some (.int l4)]) (st' := [.int 7, .int l4]) (g' := g) (by decide +kernel) rfl ?_
    refine xic_gt A (35) 76 44 (by decide +kernel) (fun h3 => ?_) (fun h3 => ?_)
    · rw [if_pos h3] at H
      refine xb A [(.bipush (-2), 2, 0, 0, .int (-2))] (pc' := 78) (ls' := [some (.ref 0), none, some (.int l2), some (.int l3), some (.int l4)]) (st' := [.int (-2)]) (g' := g) (by decide +kernel) rfl ?_
      obtain rfl := Option.some.inj H
      exact xret_i A hR hz (by decide +kernel) rfl ⟨rfl, rfl⟩
    · rw [if_neg h3] at H
      refine xb A [(.iload_n 3, 1, 0, 0, .null), (.iload_n 2, 1, 0, 0, .null)] (pc' := 46) (ls' := [some (.ref 0), none, some (.int l2), some (.int l3), some (.int l4)]) (st' := [.int l2, .int l3]) (g' := g) (by decide +kernel) rfl ?_
      refine xic_ne A (6) 52 49 (by decide +kernel) (fun h4 => ?_) (fun h4 => ?_)
      · rw [if_neg h4] at H
        refine xb A [(.aload_n 0, 1, 0, 0, .null), (.getfield 19, 3, 0, 1, .ref 3), (.iload_n 3, 1, 0, 0, .null), (.aload_n 0, 1, 0, 0, .null), (.getfield 37, 3, 0, 3, .ref 38), (.iload_n 3, 1, 0, 0, .null), (.iload_n 2, 1, 0, 0, .null)] (pc' := 63) (ls' := [some (.ref 0), none, some (.int l2), some (.int l3), some (.int l4)]) (st' := [.int l2, .int l3, .ref 38, .int l3, .ref 3]) (g' := g) (by decide +kernel) rfl ?_
        obtain ⟨w1, e1, H⟩ := xbind H
        refine xcallV A (ix := 275) (nxt := 66) hrm hz [.int l3, .int l2] [.int l3, .ref 3] 1178 (c_X10_roadToward_38 hS _ e1) ok_X10_roadToward (by decide +kernel) rfl (fun r g1 hq => ?_)
        rw [hq.1, hq.2]
        show xW k S 0 0 66 [some (.ref 0), none, some (.int l2), some (.int l3), some (.int l4)] [.int w1, .int l3, .ref 3] g
        refine xcallV A (ix := 305) (nxt := 69) hrm hz [.int l3, .int w1] [] 1252 (c_X4_acrossFrom_3 hS _ rfl) ok_X4_acrossFrom (by decide +kernel) rfl (fun r g1 hq => ?_)
        rw [hq.1, hq.2]
        show xW k S 0 0 69 [some (.ref 0), none, some (.int l2), some (.int l3), some (.int l4)] [.int (f_X4_acrossFrom_3 l3 w1 g)] g
        refine xb A [(.istore_n 3, 1, 0, 0, .null), (.iinc 4 1, 3, 0, 0, .null)] (pc' := 73) (ls' := [some (.ref 0), none, some (.int l2), some (.int (f_X4_acrossFrom_3 l3 w1 g)), some (.int (l4 + 1))]) (st' := []) (g' := g) (by decide +kernel) rfl ?_
        refine xgoto A (-36) 37 (by decide +kernel) ?_
        exact ih _ _ _ H
      · rw [if_pos h4] at H
        refine xb A [(.iload 4, 2, 0, 0, .null)] (pc' := 51) (ls' := [some (.ref 0), none, some (.int l2), some (.int l3), some (.int l4)]) (st' := [.int l4]) (g' := g) (by decide +kernel) rfl ?_
        obtain rfl := Option.some.inj H
        exact xret_i A hR hz (by decide +kernel) rfl ⟨rfl, rfl⟩
set_option maxRecDepth 20000 in
theorem c_X11_steps_0 {S : List xSh} (hS : xpf SH1 S) {g : xG} {p1 : Int32} {p2 : Int32} (out : Int32) (H : f_X11_steps_0 p1 p2 g = some out) : xC mX11_steps 4 91 0 0 S [.ref 0, .int p1, .int p2] g S (fun r g' => r = some (.int out) ∧ g' = g) := by
  have H : (if (f_X4_isPerson_3 p1 g) = 0 then
  some (-1)
else
  if (f_X4_isTown_3 p2 g) = 0 then
    some (-1)
  else
    f_X11_steps_0_37 g xN p2 (f_X6_of_48 p1 5 g) 0) = some out := H
  refine xC.of 11 SH1 [some (.ref 0), some (.int p1), some (.int p2), none, none] hS (by decide +kernel) rfl (fun _ _ => Nat.le_of_ble_eq_true rfl) (fun _ _ => rfl) ?_
  intro k A hR hrm hz
  refine xb A [(.aload_n 0, 1, 0, 0, .null), (.getfield 19, 3, 0, 1, .ref 3), (.iload_n 1, 1, 0, 0, .null)] (pc' := 5) (ls' := [some (.ref 0), some (.int p1), some (.int p2), none, none]) (st' := [.int p1, .ref 3]) (g' := g) (by decide +kernel) rfl ?_
  refine xcallV A (ix := 183) (nxt := 8) hrm hz [.int p1] [] 932 (c_X4_isPerson_3 hS _ rfl) ok_X4_isPerson (by decide +kernel) rfl (fun r g1 hq => ?_)
  rw [hq.1, hq.2]
  show xW k S 0 0 8 [some (.ref 0), some (.int p1), some (.int p2), none, none] [.int (f_X4_isPerson_3 p1 g)] g
  refine xif_eq A (14) 22 11 (by decide +kernel) (fun h1 => ?_) (fun h1 => ?_)
  · rw [if_pos h1] at H
    refine xb A [(.iconst (-1), 1, 0, 0, .int (-1))] (pc' := 23) (ls' := [some (.ref 0), some (.int p1), some (.int p2), none, none]) (st' := [.int (-1)]) (g' := g) (by decide +kernel) rfl ?_
    obtain rfl := Option.some.inj H
    exact xret_i A hR hz (by decide +kernel) rfl ⟨rfl, rfl⟩
  · rw [if_neg h1] at H
    refine xb A [(.aload_n 0, 1, 0, 0, .null), (.getfield 19, 3, 0, 1, .ref 3), (.iload_n 2, 1, 0, 0, .null)] (pc' := 16) (ls' := [some (.ref 0), some (.int p1), some (.int p2), none, none]) (st' := [.int p2, .ref 3]) (g' := g) (by decide +kernel) rfl ?_
    refine xcallV A (ix := 149) (nxt := 19) hrm hz [.int p2] [] 893 (c_X4_isTown_3 hS _ rfl) ok_X4_isTown (by decide +kernel) rfl (fun r g1 hq => ?_)
    rw [hq.1, hq.2]
    show xW k S 0 0 19 [some (.ref 0), some (.int p1), some (.int p2), none, none] [.int (f_X4_isTown_3 p2 g)] g
    refine xif_ne A (5) 24 22 (by decide +kernel) (fun h2 => ?_) (fun h2 => ?_)
    · rw [if_neg h2] at H
      refine xb A [(.aload_n 0, 1, 0, 0, .null), (.getfield 66, 3, 0, 8, .ref 48), (.iload_n 1, 1, 0, 0, .null), (.iconst 5, 1, 0, 0, .int 5)] (pc' := 30) (ls' := [some (.ref 0), some (.int p1), some (.int p2), none, none]) (st' := [.int 5, .int p1, .ref 48]) (g' := g) (by decide +kernel) rfl ?_
      refine xcallV A (ix := 192) (nxt := 33) hrm hz [.int p1, .int 5] [] 944 (c_X6_of_48 hS _ rfl) ok_X6_of (by decide +kernel) rfl (fun r g1 hq => ?_)
      rw [hq.1, hq.2]
      show xW k S 0 0 33 [some (.ref 0), some (.int p1), some (.int p2), none, none] [.int (f_X6_of_48 p1 5 g)] g
      refine xb A [(.istore_n 3, 1, 0, 0, .null), (.iconst 0, 1, 0, 0, .int 0), (.istore 4, 2, 0, 0, .null)] (pc' := 37) (ls' := [some (.ref 0), some (.int p1), some (.int p2), some (.int (f_X6_of_48 p1 5 g)), some (.int 0)]) (st' := []) (g' := g) (by decide +kernel) rfl ?_
      refine xweak (ls' := [some (.ref 0), none, some (.int p2), some (.int (f_X6_of_48 p1 5 g)), some (.int 0)]) (by exact ⟨rfl, ⟨rfl, ⟨rfl, ⟨rfl, trivial⟩⟩⟩⟩) ?_
      exact t_X11_steps_0_37 hS A hR hrm hz _ _ _ _ H
    · rw [if_pos h2] at H
      refine xb A [(.iconst (-1), 1, 0, 0, .int (-1))] (pc' := 23) (ls' := [some (.ref 0), some (.int p1), some (.int p2), none, none]) (st' := [.int (-1)]) (g' := g) (by decide +kernel) rfl ?_
      obtain rfl := Option.some.inj H
      exact xret_i A hR hz (by decide +kernel) rfl ⟨rfl, rfl⟩
def f_X11_goOnDoubting_0_13  : Nat → Int32 → Int32 → Int32 → xG → Option (xG)
  | 0, _, _, _, _ => none
  | n + 1, l1, l2, l3, g =>
    if l1 ≤ l3 then
      some g
    else
      (f_X1_goThroughNoon_44_50 l2 1 g).bind fun w2 =>
      f_X11_goOnDoubting_0_13 n l1 l2 (l3 + 1) w2
def f_X11_goOnDoubting_0 (p1 : Int32) (p2 : Int32) (g : xG) : Option (xG) :=
  xl (f_X6_copyFrom_50_48 g) fun w1 =>
  f_X11_goOnDoubting_0_13 xN p1 p2 0 w1
set_option maxRecDepth 20000 in
theorem t_X11_goOnDoubting_0_13 {k : xK} {S : List xSh} {out : xG} (hS : xpf SH1 S) (A : xAt k mX11_goOnDoubting.2.1 11 SH1 S) (hR : xRet k 0 0 S (fun r g' => r = none ∧ g' = out) mX11_goOnDoubting.2.2.2) (hrm : xrm k = { frames := 6, cells := 0, slots := 0, locals := 149 }) (hz : xhs k = xb0 k + S.length)   : ∀ (n : Nat) (l1 : Int32) (l2 : Int32) (l3 : Int32) (g : xG), f_X11_goOnDoubting_0_13 n l1 l2 l3 g = some out → xW k S 0 0 13 [some (.ref 0), some (.int l1), some (.int l2), some (.int l3)] [] g := by
  intro n
  induction n with
  | zero => intro l1 l2 l3 g H; exact absurd H (by simp [f_X11_goOnDoubting_0_13])
  | succ n ih =>
    intro l1 l2 l3 g H
    have H : (if l1 ≤ l3 then
  some g
else
  (f_X1_goThroughNoon_44_50 l2 1 g).bind fun w2 =>
  f_X11_goOnDoubting_0_13 n l1 l2 (l3 + 1) w2) = some out := H
    refine xb A [(.iload_n 3, 1, 0, 0, .null), (.iload_n 1, 1, 0, 0, .null)] (pc' := 15) (ls' := [some (.ref 0), some (.int l1), some (.int l2), some (.int l3)]) (st' := [.int l1, .int l3]) (g' := g) (by decide +kernel) rfl ?_
    refine xic_ge A (22) 37 18 (by decide +kernel) (fun h1 => ?_) (fun h1 => ?_)
    · rw [if_pos h1] at H
      obtain rfl := Option.some.inj H
      exact xret_v A hR hz (by decide +kernel) ⟨rfl, rfl⟩
    · rw [if_neg h1] at H
      refine xb A [(.aload_n 0, 1, 0, 0, .null), (.getfield 56, 3, 0, 6, .ref 44), (.aload_n 0, 1, 0, 0, .null), (.getfield 70, 3, 0, 9, .ref 50), (.iload_n 2, 1, 0, 0, .null), (.iconst 1, 1, 0, 0, .int 1)] (pc' := 28) (ls' := [some (.ref 0), some (.int l1), some (.int l2), some (.int l3)]) (st' := [.int 1, .int l2, .ref 50, .ref 44]) (g' := g) (by decide +kernel) rfl ?_
      obtain ⟨w2, e2, H⟩ := xbind H
      refine xcallV A (ix := 227) (nxt := 31) hrm hz [.ref 50, .int l2, .int 1] [] 1034 (c_X1_goThroughNoon_44_50 hS _ e2) ok_X1_goThroughNoon (by decide +kernel) rfl (fun r g1 hq => ?_)
      rw [hq.1, hq.2]
      show xW k S 0 0 31 [some (.ref 0), some (.int l1), some (.int l2), some (.int l3)] [] w2
      refine xb A [(.iinc 3 1, 3, 0, 0, .null)] (pc' := 34) (ls' := [some (.ref 0), some (.int l1), some (.int l2), some (.int (l3 + 1))]) (st' := []) (g' := w2) (by decide +kernel) rfl ?_
      refine xgoto A (-21) 13 (by decide +kernel) ?_
      exact ih _ _ _ _ H
set_option maxRecDepth 20000 in
theorem c_X11_goOnDoubting_0 {S : List xSh} (hS : xpf SH1 S) {g : xG} {p1 : Int32} {p2 : Int32} (out : xG) (H : f_X11_goOnDoubting_0 p1 p2 g = some out) : xC mX11_goOnDoubting 6 149 0 0 S [.ref 0, .int p1, .int p2] g S (fun r g' => r = none ∧ g' = out) := by
  have H : (xl (f_X6_copyFrom_50_48 g) fun w1 =>
f_X11_goOnDoubting_0_13 xN p1 p2 0 w1) = some out := H
  refine xC.of 11 SH1 [some (.ref 0), some (.int p1), some (.int p2), none] hS (by decide +kernel) rfl (fun _ _ => Nat.le_of_ble_eq_true rfl) (fun _ _ => rfl) ?_
  intro k A hR hrm hz
  refine xb A [(.aload_n 0, 1, 0, 0, .null), (.getfield 70, 3, 0, 9, .ref 50), (.aload_n 0, 1, 0, 0, .null), (.getfield 66, 3, 0, 8, .ref 48)] (pc' := 8) (ls' := [some (.ref 0), some (.int p1), some (.int p2), none]) (st' := [.ref 48, .ref 50]) (g' := g) (by decide +kernel) rfl ?_
  obtain ⟨w1, e1, H⟩ := xl_elim H
  refine xcallV A (ix := 266) (nxt := 11) hrm hz [.ref 48] [] 1149 (c_X6_copyFrom_50_48 hS _ e1) ok_X6_copyFrom (by decide +kernel) rfl (fun r g1 hq => ?_)
  rw [hq.1, hq.2]
  show xW k S 0 0 11 [some (.ref 0), some (.int p1), some (.int p2), none] [] w1
  refine xb A [(.iconst 0, 1, 0, 0, .int 0), (.istore_n 3, 1, 0, 0, .null)] (pc' := 13) (ls' := [some (.ref 0), some (.int p1), some (.int p2), some (.int 0)]) (st' := []) (g' := w1) (by decide +kernel) rfl ?_
  exact t_X11_goOnDoubting_0_13 hS A hR hrm hz _ _ _ _ _ H
def f_X11_then_0 (p1 : Int32) (p2 : Int32) (g : xG) : Option (Int32 × xG) :=
  if (f_X4_isPerson_3 p1 g) = 0 then
    some ((-1), g)
  else
    if (f_X11_isSpan p2 g) = 0 then
      some ((-1), g)
    else
      (f_X11_goOnDoubting_0 p2 (f_X4_seed_3 g) g).bind fun w1 =>
      some (f_X6_of_50 p1 5 w1, w1)
set_option maxRecDepth 20000 in
theorem c_X11_then_0 {S : List xSh} (hS : xpf SH1 S) {g : xG} {p1 : Int32} {p2 : Int32} (out : Int32 × xG) (H : f_X11_then_0 p1 p2 g = some out) : xC mX11_then 7 172 0 0 S [.ref 0, .int p1, .int p2] g S (fun r g' => r = some (.int out.1) ∧ g' = out.2) := by
  have H : (if (f_X4_isPerson_3 p1 g) = 0 then
  some ((-1), g)
else
  if (f_X11_isSpan p2 g) = 0 then
    some ((-1), g)
  else
    (f_X11_goOnDoubting_0 p2 (f_X4_seed_3 g) g).bind fun w1 =>
    some (f_X6_of_50 p1 5 w1, w1)) = some out := H
  refine xC.of 11 SH1 [some (.ref 0), some (.int p1), some (.int p2)] hS (by decide +kernel) rfl (fun _ _ => Nat.le_of_ble_eq_true rfl) (fun _ _ => rfl) ?_
  intro k A hR hrm hz
  refine xb A [(.aload_n 0, 1, 0, 0, .null), (.getfield 19, 3, 0, 1, .ref 3), (.iload_n 1, 1, 0, 0, .null)] (pc' := 5) (ls' := [some (.ref 0), some (.int p1), some (.int p2)]) (st' := [.int p1, .ref 3]) (g' := g) (by decide +kernel) rfl ?_
  refine xcallV A (ix := 183) (nxt := 8) hrm hz [.int p1] [] 932 (c_X4_isPerson_3 hS _ rfl) ok_X4_isPerson (by decide +kernel) rfl (fun r g1 hq => ?_)
  rw [hq.1, hq.2]
  show xW k S 0 0 8 [some (.ref 0), some (.int p1), some (.int p2)] [.int (f_X4_isPerson_3 p1 g)] g
  refine xif_eq A (10) 18 11 (by decide +kernel) (fun h1 => ?_) (fun h1 => ?_)
  · rw [if_pos h1] at H
    refine xb A [(.iconst (-1), 1, 0, 0, .int (-1))] (pc' := 19) (ls' := [some (.ref 0), some (.int p1), some (.int p2)]) (st' := [.int (-1)]) (g' := g) (by decide +kernel) rfl ?_
    obtain rfl := Option.some.inj H
    exact xret_i A hR hz (by decide +kernel) rfl ⟨rfl, rfl⟩
  · rw [if_neg h1] at H
    refine xb A [(.iload_n 2, 1, 0, 0, .null)] (pc' := 12) (ls' := [some (.ref 0), some (.int p1), some (.int p2)]) (st' := [.int p2]) (g' := g) (by decide +kernel) rfl ?_
    refine xcallS A (ix := 221) (nxt := 15) hrm hz [.int p2] [] 1027 (c_X11_isSpan hS _ rfl) ok_X11_isSpan (by decide +kernel) rfl (fun r g1 hq => ?_)
    rw [hq.1, hq.2]
    show xW k S 0 0 15 [some (.ref 0), some (.int p1), some (.int p2)] [.int (f_X11_isSpan p2 g)] g
    refine xif_ne A (5) 20 18 (by decide +kernel) (fun h2 => ?_) (fun h2 => ?_)
    · rw [if_neg h2] at H
      refine xb A [(.aload_n 0, 1, 0, 0, .null), (.iload_n 2, 1, 0, 0, .null), (.aload_n 0, 1, 0, 0, .null), (.getfield 19, 3, 0, 1, .ref 3)] (pc' := 26) (ls' := [some (.ref 0), some (.int p1), some (.int p2)]) (st' := [.ref 3, .int p2, .ref 0]) (g' := g) (by decide +kernel) rfl ?_
      refine xcallV A (ix := 224) (nxt := 29) hrm hz [] [.int p2, .ref 0] 1030 (c_X4_seed_3 hS _ rfl) ok_X4_seed (by decide +kernel) rfl (fun r g1 hq => ?_)
      rw [hq.1, hq.2]
      show xW k S 0 0 29 [some (.ref 0), some (.int p1), some (.int p2)] [.int (f_X4_seed_3 g), .int p2, .ref 0] g
      obtain ⟨w1, e1, H⟩ := xbind H
      refine xcallV A (ix := 308) (nxt := 32) hrm hz [.int p2, .int (f_X4_seed_3 g)] [] 1257 (c_X11_goOnDoubting_0 hS _ e1) ok_X11_goOnDoubting (by decide +kernel) rfl (fun r g1 hq => ?_)
      rw [hq.1, hq.2]
      show xW k S 0 0 32 [some (.ref 0), some (.int p1), some (.int p2)] [] w1
      refine xb A [(.aload_n 0, 1, 0, 0, .null), (.getfield 70, 3, 0, 9, .ref 50), (.iload_n 1, 1, 0, 0, .null), (.iconst 5, 1, 0, 0, .int 5)] (pc' := 38) (ls' := [some (.ref 0), some (.int p1), some (.int p2)]) (st' := [.int 5, .int p1, .ref 50]) (g' := w1) (by decide +kernel) rfl ?_
      refine xcallV A (ix := 192) (nxt := 41) hrm hz [.int p1, .int 5] [] 944 (c_X6_of_50 hS _ rfl) ok_X6_of (by decide +kernel) rfl (fun r g1 hq => ?_)
      rw [hq.1, hq.2]
      show xW k S 0 0 41 [some (.ref 0), some (.int p1), some (.int p2)] [.int (f_X6_of_50 p1 5 w1)] w1
      obtain rfl := Option.some.inj H
      exact xret_i A hR hz (by decide +kernel) rfl ⟨rfl, rfl⟩
    · rw [if_pos h2] at H
      refine xb A [(.iconst (-1), 1, 0, 0, .int (-1))] (pc' := 19) (ls' := [some (.ref 0), some (.int p1), some (.int p2)]) (st' := [.int (-1)]) (g' := g) (by decide +kernel) rfl ?_
      obtain rfl := Option.some.inj H
      exact xret_i A hR hz (by decide +kernel) rfl ⟨rfl, rfl⟩
def f_X11_rungIn_0 (p1 : Int32) (p2 : Int32) (g : xG) : Option (Int32 × xG) :=
  if (f_X4_isPerson_3 p1 g) = 0 then
    some ((-1), g)
  else
    if (f_X11_isSpan p2 g) = 0 then
      some ((-1), g)
    else
      (f_X11_goOnDoubting_0 p2 (f_X4_seed_3 g) g).bind fun w1 =>
      some (f_X6_of_50 p1 23 w1, w1)
set_option maxRecDepth 20000 in
theorem c_X11_rungIn_0 {S : List xSh} (hS : xpf SH1 S) {g : xG} {p1 : Int32} {p2 : Int32} (out : Int32 × xG) (H : f_X11_rungIn_0 p1 p2 g = some out) : xC mX11_rungIn 7 172 0 0 S [.ref 0, .int p1, .int p2] g S (fun r g' => r = some (.int out.1) ∧ g' = out.2) := by
  have H : (if (f_X4_isPerson_3 p1 g) = 0 then
  some ((-1), g)
else
  if (f_X11_isSpan p2 g) = 0 then
    some ((-1), g)
  else
    (f_X11_goOnDoubting_0 p2 (f_X4_seed_3 g) g).bind fun w1 =>
    some (f_X6_of_50 p1 23 w1, w1)) = some out := H
  refine xC.of 11 SH1 [some (.ref 0), some (.int p1), some (.int p2)] hS (by decide +kernel) rfl (fun _ _ => Nat.le_of_ble_eq_true rfl) (fun _ _ => rfl) ?_
  intro k A hR hrm hz
  refine xb A [(.aload_n 0, 1, 0, 0, .null), (.getfield 19, 3, 0, 1, .ref 3), (.iload_n 1, 1, 0, 0, .null)] (pc' := 5) (ls' := [some (.ref 0), some (.int p1), some (.int p2)]) (st' := [.int p1, .ref 3]) (g' := g) (by decide +kernel) rfl ?_
  refine xcallV A (ix := 183) (nxt := 8) hrm hz [.int p1] [] 932 (c_X4_isPerson_3 hS _ rfl) ok_X4_isPerson (by decide +kernel) rfl (fun r g1 hq => ?_)
  rw [hq.1, hq.2]
  show xW k S 0 0 8 [some (.ref 0), some (.int p1), some (.int p2)] [.int (f_X4_isPerson_3 p1 g)] g
  refine xif_eq A (10) 18 11 (by decide +kernel) (fun h1 => ?_) (fun h1 => ?_)
  · rw [if_pos h1] at H
    refine xb A [(.iconst (-1), 1, 0, 0, .int (-1))] (pc' := 19) (ls' := [some (.ref 0), some (.int p1), some (.int p2)]) (st' := [.int (-1)]) (g' := g) (by decide +kernel) rfl ?_
    obtain rfl := Option.some.inj H
    exact xret_i A hR hz (by decide +kernel) rfl ⟨rfl, rfl⟩
  · rw [if_neg h1] at H
    refine xb A [(.iload_n 2, 1, 0, 0, .null)] (pc' := 12) (ls' := [some (.ref 0), some (.int p1), some (.int p2)]) (st' := [.int p2]) (g' := g) (by decide +kernel) rfl ?_
    refine xcallS A (ix := 221) (nxt := 15) hrm hz [.int p2] [] 1027 (c_X11_isSpan hS _ rfl) ok_X11_isSpan (by decide +kernel) rfl (fun r g1 hq => ?_)
    rw [hq.1, hq.2]
    show xW k S 0 0 15 [some (.ref 0), some (.int p1), some (.int p2)] [.int (f_X11_isSpan p2 g)] g
    refine xif_ne A (5) 20 18 (by decide +kernel) (fun h2 => ?_) (fun h2 => ?_)
    · rw [if_neg h2] at H
      refine xb A [(.aload_n 0, 1, 0, 0, .null), (.iload_n 2, 1, 0, 0, .null), (.aload_n 0, 1, 0, 0, .null), (.getfield 19, 3, 0, 1, .ref 3)] (pc' := 26) (ls' := [some (.ref 0), some (.int p1), some (.int p2)]) (st' := [.ref 3, .int p2, .ref 0]) (g' := g) (by decide +kernel) rfl ?_
      refine xcallV A (ix := 224) (nxt := 29) hrm hz [] [.int p2, .ref 0] 1030 (c_X4_seed_3 hS _ rfl) ok_X4_seed (by decide +kernel) rfl (fun r g1 hq => ?_)
      rw [hq.1, hq.2]
      show xW k S 0 0 29 [some (.ref 0), some (.int p1), some (.int p2)] [.int (f_X4_seed_3 g), .int p2, .ref 0] g
      obtain ⟨w1, e1, H⟩ := xbind H
      refine xcallV A (ix := 308) (nxt := 32) hrm hz [.int p2, .int (f_X4_seed_3 g)] [] 1257 (c_X11_goOnDoubting_0 hS _ e1) ok_X11_goOnDoubting (by decide +kernel) rfl (fun r g1 hq => ?_)
      rw [hq.1, hq.2]
      show xW k S 0 0 32 [some (.ref 0), some (.int p1), some (.int p2)] [] w1
      refine xb A [(.aload_n 0, 1, 0, 0, .null), (.getfield 70, 3, 0, 9, .ref 50), (.iload_n 1, 1, 0, 0, .null), (.bipush 23, 2, 0, 0, .int 23)] (pc' := 39) (ls' := [some (.ref 0), some (.int p1), some (.int p2)]) (st' := [.int 23, .int p1, .ref 50]) (g' := w1) (by decide +kernel) rfl ?_
      refine xcallV A (ix := 192) (nxt := 42) hrm hz [.int p1, .int 23] [] 944 (c_X6_of_50 hS _ rfl) ok_X6_of (by decide +kernel) rfl (fun r g1 hq => ?_)
      rw [hq.1, hq.2]
      show xW k S 0 0 42 [some (.ref 0), some (.int p1), some (.int p2)] [.int (f_X6_of_50 p1 23 w1)] w1
      obtain rfl := Option.some.inj H
      exact xret_i A hR hz (by decide +kernel) rfl ⟨rfl, rfl⟩
    · rw [if_pos h2] at H
      refine xb A [(.iconst (-1), 1, 0, 0, .int (-1))] (pc' := 19) (ls' := [some (.ref 0), some (.int p1), some (.int p2)]) (st' := [.int (-1)]) (g' := g) (by decide +kernel) rfl ?_
      obtain rfl := Option.some.inj H
      exact xret_i A hR hz (by decide +kernel) rfl ⟨rfl, rfl⟩
def f_X11_barredIn_0 (p1 : Int32) (g : xG) : Option (Int32 × xG) :=
  if (f_X11_isSpan p1 g) = 0 then
    some ((-1), g)
  else
    (f_X11_goOnDoubting_0 p1 (f_X4_seed_3 g) g).bind fun w1 =>
    some (f_X6_get_50 3 w1, w1)
set_option maxRecDepth 20000 in
theorem c_X11_barredIn_0 {S : List xSh} (hS : xpf SH1 S) {g : xG} {p1 : Int32} (out : Int32 × xG) (H : f_X11_barredIn_0 p1 g = some out) : xC mX11_barredIn 7 172 0 0 S [.ref 0, .int p1] g S (fun r g' => r = some (.int out.1) ∧ g' = out.2) := by
  have H : (if (f_X11_isSpan p1 g) = 0 then
  some ((-1), g)
else
  (f_X11_goOnDoubting_0 p1 (f_X4_seed_3 g) g).bind fun w1 =>
  some (f_X6_get_50 3 w1, w1)) = some out := H
  refine xC.of 11 SH1 [some (.ref 0), some (.int p1)] hS (by decide +kernel) rfl (fun _ _ => Nat.le_of_ble_eq_true rfl) (fun _ _ => rfl) ?_
  intro k A hR hrm hz
  refine xb A [(.iload_n 1, 1, 0, 0, .null)] (pc' := 1) (ls' := [some (.ref 0), some (.int p1)]) (st' := [.int p1]) (g' := g) (by decide +kernel) rfl ?_
  refine xcallS A (ix := 221) (nxt := 4) hrm hz [.int p1] [] 1027 (c_X11_isSpan hS _ rfl) ok_X11_isSpan (by decide +kernel) rfl (fun r g1 hq => ?_)
  rw [hq.1, hq.2]
  show xW k S 0 0 4 [some (.ref 0), some (.int p1)] [.int (f_X11_isSpan p1 g)] g
  refine xif_ne A (5) 9 7 (by decide +kernel) (fun h1 => ?_) (fun h1 => ?_)
  · rw [if_neg h1] at H
    refine xb A [(.aload_n 0, 1, 0, 0, .null), (.iload_n 1, 1, 0, 0, .null), (.aload_n 0, 1, 0, 0, .null), (.getfield 19, 3, 0, 1, .ref 3)] (pc' := 15) (ls' := [some (.ref 0), some (.int p1)]) (st' := [.ref 3, .int p1, .ref 0]) (g' := g) (by decide +kernel) rfl ?_
    refine xcallV A (ix := 224) (nxt := 18) hrm hz [] [.int p1, .ref 0] 1030 (c_X4_seed_3 hS _ rfl) ok_X4_seed (by decide +kernel) rfl (fun r g1 hq => ?_)
    rw [hq.1, hq.2]
    show xW k S 0 0 18 [some (.ref 0), some (.int p1)] [.int (f_X4_seed_3 g), .int p1, .ref 0] g
    obtain ⟨w1, e1, H⟩ := xbind H
    refine xcallV A (ix := 308) (nxt := 21) hrm hz [.int p1, .int (f_X4_seed_3 g)] [] 1257 (c_X11_goOnDoubting_0 hS _ e1) ok_X11_goOnDoubting (by decide +kernel) rfl (fun r g1 hq => ?_)
    rw [hq.1, hq.2]
    show xW k S 0 0 21 [some (.ref 0), some (.int p1)] [] w1
    refine xb A [(.aload_n 0, 1, 0, 0, .null), (.getfield 70, 3, 0, 9, .ref 50), (.iconst 3, 1, 0, 0, .int 3)] (pc' := 26) (ls' := [some (.ref 0), some (.int p1)]) (st' := [.int 3, .ref 50]) (g' := w1) (by decide +kernel) rfl ?_
    refine xcallV A (ix := 135) (nxt := 29) hrm hz [.int 3] [] 489 (c_X6_get_50 hS _ rfl) ok_X6_get (by decide +kernel) rfl (fun r g1 hq => ?_)
    rw [hq.1, hq.2]
    show xW k S 0 0 29 [some (.ref 0), some (.int p1)] [.int (f_X6_get_50 3 w1)] w1
    obtain rfl := Option.some.inj H
    exact xret_i A hR hz (by decide +kernel) rfl ⟨rfl, rfl⟩
  · rw [if_pos h1] at H
    refine xb A [(.iconst (-1), 1, 0, 0, .int (-1))] (pc' := 8) (ls' := [some (.ref 0), some (.int p1)]) (st' := [.int (-1)]) (g' := g) (by decide +kernel) rfl ?_
    obtain rfl := Option.some.inj H
    exact xret_i A hR hz (by decide +kernel) rfl ⟨rfl, rfl⟩
def f_X11_year_0_37  : Nat → Int32 → Int32 → Int32 → Int32 → Int32 → xG → Option (Int32 × xG)
  | 0, _, _, _, _, _, _ => none
  | n + 1, l1, l2, l3, l4, l5, g =>
    if l3 ≤ l5 then
      some (l4, g)
    else
      (f_X11_goOnDoubting_0 l2 ((f_X4_seed_3 g) + l5) g).bind fun w1 =>
      if (f_X6_of_50 l1 23 w1) ≤ (f_X6_of_48 l1 23 w1) then
        f_X11_year_0_37 n l1 l2 l3 l4 (l5 + 1) w1
      else
        f_X11_year_0_37 n l1 l2 l3 (l4 + 1) (l5 + 1) w1
def f_X11_year_0 (p1 : Int32) (p2 : Int32) (p3 : Int32) (g : xG) : Option (Int32 × xG) :=
  if (f_X4_isPerson_3 p1 g) = 0 then
    some ((-1), g)
  else
    if (f_X11_isSpan p2 g) = 0 then
      some ((-1), g)
    else
      if p3 < 1 then
        some ((-1), g)
      else
        if p3 ≤ 20 then
          f_X11_year_0_37 xN p1 p2 p3 0 0 g
        else
          some ((-1), g)
set_option maxRecDepth 20000 in
theorem t_X11_year_0_37 {k : xK} {S : List xSh} {out : Int32 × xG} (hS : xpf SH1 S) (A : xAt k mX11_year.2.1 11 SH1 S) (hR : xRet k 0 0 S (fun r g' => r = some (.int out.1) ∧ g' = out.2) mX11_year.2.2.2) (hrm : xrm k = { frames := 7, cells := 0, slots := 0, locals := 172 }) (hz : xhs k = xb0 k + S.length)   : ∀ (n : Nat) (l1 : Int32) (l2 : Int32) (l3 : Int32) (l4 : Int32) (l5 : Int32) (g : xG), f_X11_year_0_37 n l1 l2 l3 l4 l5 g = some out → xW k S 0 0 37 [some (.ref 0), some (.int l1), some (.int l2), some (.int l3), some (.int l4), some (.int l5)] [] g := by
  intro n
  induction n with
  | zero => intro l1 l2 l3 l4 l5 g H; exact absurd H (by simp [f_X11_year_0_37])
  | succ n ih =>
    intro l1 l2 l3 l4 l5 g H
    have H : (if l3 ≤ l5 then
  some (l4, g)
else
  (f_X11_goOnDoubting_0 l2 ((f_X4_seed_3 g) + l5) g).bind fun w1 =>
  if (f_X6_of_50 l1 23 w1) ≤ (f_X6_of_48 l1 23 w1) then
    f_X11_year_0_37 n l1 l2 l3 l4 (l5 + 1) w1
  else
    f_X11_year_0_37 n l1 l2 l3 (l4 + 1) (l5 + 1) w1) = some out := H
    refine xb A [(.iload 5, 2, 0, 0, .null), (.iload_n 3, 1, 0, 0, .null)] (pc' := 40) (ls' := [some (.ref 0), some (.int l1), some (.int l2), some (.int l3), some (.int l4), some (.int l5)]) (st' := [.int l3, .int l5]) (g' := g) (by decide +kernel) rfl ?_
    refine xic_ge A (50) 90 43 (by decide +kernel) (fun h5 => ?_) (fun h5 => ?_)
    · rw [if_pos h5] at H
      refine xb A [(.iload 4, 2, 0, 0, .null)] (pc' := 92) (ls' := [some (.ref 0), some (.int l1), some (.int l2), some (.int l3), some (.int l4), some (.int l5)]) (st' := [.int l4]) (g' := g) (by decide +kernel) rfl ?_
      obtain rfl := Option.some.inj H
      exact xret_i A hR hz (by decide +kernel) rfl ⟨rfl, rfl⟩
    · rw [if_neg h5] at H
      refine xb A [(.aload_n 0, 1, 0, 0, .null), (.iload_n 2, 1, 0, 0, .null), (.aload_n 0, 1, 0, 0, .null), (.getfield 19, 3, 0, 1, .ref 3)] (pc' := 49) (ls' := [some (.ref 0), some (.int l1), some (.int l2), some (.int l3), some (.int l4), some (.int l5)]) (st' := [.ref 3, .int l2, .ref 0]) (g' := g) (by decide +kernel) rfl ?_
      refine xcallV A (ix := 224) (nxt := 52) hrm hz [] [.int l2, .ref 0] 1030 (c_X4_seed_3 hS _ rfl) ok_X4_seed (by decide +kernel) rfl (fun r g1 hq => ?_)
      rw [hq.1, hq.2]
      show xW k S 0 0 52 [some (.ref 0), some (.int l1), some (.int l2), some (.int l3), some (.int l4), some (.int l5)] [.int (f_X4_seed_3 g), .int l2, .ref 0] g
      refine xb A [(.iload 5, 2, 0, 0, .null), (.iadd, 1, 0, 0, .null)] (pc' := 55) (ls' := [some (.ref 0), some (.int l1), some (.int l2), some (.int l3), some (.int l4), some (.int l5)]) (st' := [.int ((f_X4_seed_3 g) + l5), .int l2, .ref 0]) (g' := g) (by decide +kernel) rfl ?_
      obtain ⟨w1, e1, H⟩ := xbind H
      refine xcallV A (ix := 308) (nxt := 58) hrm hz [.int l2, .int ((f_X4_seed_3 g) + l5)] [] 1257 (c_X11_goOnDoubting_0 hS _ e1) ok_X11_goOnDoubting (by decide +kernel) rfl (fun r g1 hq => ?_)
      rw [hq.1, hq.2]
      show xW k S 0 0 58 [some (.ref 0), some (.int l1), some (.int l2), some (.int l3), some (.int l4), some (.int l5)] [] w1
      refine xb A [(.aload_n 0, 1, 0, 0, .null), (.getfield 70, 3, 0, 9, .ref 50), (.iload_n 1, 1, 0, 0, .null), (.bipush 23, 2, 0, 0, .int 23)] (pc' := 65) (ls' := [some (.ref 0), some (.int l1), some (.int l2), some (.int l3), some (.int l4), some (.int l5)]) (st' := [.int 23, .int l1, .ref 50]) (g' := w1) (by decide +kernel) rfl ?_
      refine xcallV A (ix := 192) (nxt := 68) hrm hz [.int l1, .int 23] [] 944 (c_X6_of_50 hS _ rfl) ok_X6_of (by decide +kernel) rfl (fun r g1 hq => ?_)
      rw [hq.1, hq.2]
      show xW k S 0 0 68 [some (.ref 0), some (.int l1), some (.int l2), some (.int l3), some (.int l4), some (.int l5)] [.int (f_X6_of_50 l1 23 w1)] w1
      refine xb A [(.aload_n 0, 1, 0, 0, .null), (.getfield 66, 3, 0, 8, .ref 48), (.iload_n 1, 1, 0, 0, .null), (.bipush 23, 2, 0, 0, .int 23)] (pc' := 75) (ls' := [some (.ref 0), some (.int l1), some (.int l2), some (.int l3), some (.int l4), some (.int l5)]) (st' := [.int 23, .int l1, .ref 48, .int (f_X6_of_50 l1 23 w1)]) (g' := w1) (by decide +kernel) rfl ?_
      refine xcallV A (ix := 192) (nxt := 78) hrm hz [.int l1, .int 23] [.int (f_X6_of_50 l1 23 w1)] 944 (c_X6_of_48 hS _ rfl) ok_X6_of (by decide +kernel) rfl (fun r g1 hq => ?_)
      rw [hq.1, hq.2]
      show xW k S 0 0 78 [some (.ref 0), some (.int l1), some (.int l2), some (.int l3), some (.int l4), some (.int l5)] [.int (f_X6_of_48 l1 23 w1), .int (f_X6_of_50 l1 23 w1)] w1
      refine xic_le A (6) 84 81 (by decide +kernel) (fun h6 => ?_) (fun h6 => ?_)
      · rw [if_pos h6] at H
        refine xb A [(.iinc 5 1, 3, 0, 0, .null)] (pc' := 87) (ls' := [some (.ref 0), some (.int l1), some (.int l2), some (.int l3), some (.int l4), some (.int (l5 + 1))]) (st' := []) (g' := w1) (by decide +kernel) rfl ?_
        refine xgoto A (-50) 37 (by decide +kernel) ?_
        exact ih _ _ _ _ _ _ H
      · rw [if_neg h6] at H
        refine xb A [(.iinc 4 1, 3, 0, 0, .null), (.iinc 5 1, 3, 0, 0, .null)] (pc' := 87) (ls' := [some (.ref 0), some (.int l1), some (.int l2), some (.int l3), some (.int (l4 + 1)), some (.int (l5 + 1))]) (st' := []) (g' := w1) (by decide +kernel) rfl ?_
        refine xgoto A (-50) 37 (by decide +kernel) ?_
        exact ih _ _ _ _ _ _ H
set_option maxRecDepth 20000 in
theorem c_X11_year_0 {S : List xSh} (hS : xpf SH1 S) {g : xG} {p1 : Int32} {p2 : Int32} {p3 : Int32} (out : Int32 × xG) (H : f_X11_year_0 p1 p2 p3 g = some out) : xC mX11_year 7 172 0 0 S [.ref 0, .int p1, .int p2, .int p3] g S (fun r g' => r = some (.int out.1) ∧ g' = out.2) := by
  have H : (if (f_X4_isPerson_3 p1 g) = 0 then
  some ((-1), g)
else
  if (f_X11_isSpan p2 g) = 0 then
    some ((-1), g)
  else
    if p3 < 1 then
      some ((-1), g)
    else
      if p3 ≤ 20 then
        f_X11_year_0_37 xN p1 p2 p3 0 0 g
      else
        some ((-1), g)) = some out := H
  refine xC.of 11 SH1 [some (.ref 0), some (.int p1), some (.int p2), some (.int p3), none, none] hS (by decide +kernel) rfl (fun _ _ => Nat.le_of_ble_eq_true rfl) (fun _ _ => rfl) ?_
  intro k A hR hrm hz
  refine xb A [(.aload_n 0, 1, 0, 0, .null), (.getfield 19, 3, 0, 1, .ref 3), (.iload_n 1, 1, 0, 0, .null)] (pc' := 5) (ls' := [some (.ref 0), some (.int p1), some (.int p2), some (.int p3), none, none]) (st' := [.int p1, .ref 3]) (g' := g) (by decide +kernel) rfl ?_
  refine xcallV A (ix := 183) (nxt := 8) hrm hz [.int p1] [] 932 (c_X4_isPerson_3 hS _ rfl) ok_X4_isPerson (by decide +kernel) rfl (fun r g1 hq => ?_)
  rw [hq.1, hq.2]
  show xW k S 0 0 8 [some (.ref 0), some (.int p1), some (.int p2), some (.int p3), none, none] [.int (f_X4_isPerson_3 p1 g)] g
  refine xif_eq A (21) 29 11 (by decide +kernel) (fun h1 => ?_) (fun h1 => ?_)
  · rw [if_pos h1] at H
    refine xb A [(.iconst (-1), 1, 0, 0, .int (-1))] (pc' := 30) (ls' := [some (.ref 0), some (.int p1), some (.int p2), some (.int p3), none, none]) (st' := [.int (-1)]) (g' := g) (by decide +kernel) rfl ?_
    obtain rfl := Option.some.inj H
    exact xret_i A hR hz (by decide +kernel) rfl ⟨rfl, rfl⟩
  · rw [if_neg h1] at H
    refine xb A [(.iload_n 2, 1, 0, 0, .null)] (pc' := 12) (ls' := [some (.ref 0), some (.int p1), some (.int p2), some (.int p3), none, none]) (st' := [.int p2]) (g' := g) (by decide +kernel) rfl ?_
    refine xcallS A (ix := 221) (nxt := 15) hrm hz [.int p2] [] 1027 (c_X11_isSpan hS _ rfl) ok_X11_isSpan (by decide +kernel) rfl (fun r g1 hq => ?_)
    rw [hq.1, hq.2]
    show xW k S 0 0 15 [some (.ref 0), some (.int p1), some (.int p2), some (.int p3), none, none] [.int (f_X11_isSpan p2 g)] g
    refine xif_eq A (14) 29 18 (by decide +kernel) (fun h2 => ?_) (fun h2 => ?_)
    · rw [if_pos h2] at H
      refine xb A [(.iconst (-1), 1, 0, 0, .int (-1))] (pc' := 30) (ls' := [some (.ref 0), some (.int p1), some (.int p2), some (.int p3), none, none]) (st' := [.int (-1)]) (g' := g) (by decide +kernel) rfl ?_
      obtain rfl := Option.some.inj H
      exact xret_i A hR hz (by decide +kernel) rfl ⟨rfl, rfl⟩
    · rw [if_neg h2] at H
      refine xb A [(.iload_n 3, 1, 0, 0, .null), (.iconst 1, 1, 0, 0, .int 1)] (pc' := 20) (ls' := [some (.ref 0), some (.int p1), some (.int p2), some (.int p3), none, none]) (st' := [.int 1, .int p3]) (g' := g) (by decide +kernel) rfl ?_
      refine xic_lt A (9) 29 23 (by decide +kernel) (fun h3 => ?_) (fun h3 => ?_)
      · rw [if_pos h3] at H
        refine xb A [(.iconst (-1), 1, 0, 0, .int (-1))] (pc' := 30) (ls' := [some (.ref 0), some (.int p1), some (.int p2), some (.int p3), none, none]) (st' := [.int (-1)]) (g' := g) (by decide +kernel) rfl ?_
        obtain rfl := Option.some.inj H
        exact xret_i A hR hz (by decide +kernel) rfl ⟨rfl, rfl⟩
      · rw [if_neg h3] at H
        refine xb A [(.iload_n 3, 1, 0, 0, .null), (.bipush 20, 2, 0, 0, .int 20)] (pc' := 26) (ls' := [some (.ref 0), some (.int p1), some (.int p2), some (.int p3), none, none]) (st' := [.int 20, .int p3]) (g' := g) (by decide +kernel) rfl ?_
        refine xic_le A (5) 31 29 (by decide +kernel) (fun h4 => ?_) (fun h4 => ?_)
        · rw [if_pos h4] at H
          refine xb A [(.iconst 0, 1, 0, 0, .int 0), (.istore 4, 2, 0, 0, .null), (.iconst 0, 1, 0, 0, .int 0), (.istore 5, 2, 0, 0, .null)] (pc' := 37) (ls' := [some (.ref 0), some (.int p1), some (.int p2), some (.int p3), some (.int 0), some (.int 0)]) (st' := []) (g' := g) (by decide +kernel) rfl ?_
          exact t_X11_year_0_37 hS A hR hrm hz _ _ _ _ _ _ _ H
        · rw [if_neg h4] at H
          refine xb A [(.iconst (-1), 1, 0, 0, .int (-1))] (pc' := 30) (ls' := [some (.ref 0), some (.int p1), some (.int p2), some (.int p3), none, none]) (st' := [.int (-1)]) (g' := g) (by decide +kernel) rfl ?_
          obtain rfl := Option.some.inj H
          exact xret_i A hR hz (by decide +kernel) rfl ⟨rfl, rfl⟩
def f_X0_add_56 (p1 : Int32) (p2 : Int32) (g : xG) : Option (Int32 × xG) :=
  if p1 < 0 then
    some ((-1), g)
  else
    if 999 < p1 then
      some ((-1), g)
    else
      if (g.1 56 5) < 0 then
        some ((-1), g)
      else
        if (g.1 56 5) < 20 then
          xl (xput g 57 20 (g.1 56 5) p1) fun w1 =>
          xg (¬ ((w1.1 56 5) < 0 ∨ 20 ≤ (w1.1 56 5).toNatClampNeg)) (
            some (((w1.1 56 5) + 1) - 1, (xupd (xupd w1.1 58 (w1.1 56 5).toNatClampNeg (p2 &&& 1)) 56 5 ((w1.1 56 5) + 1), w1.2)))
        else
          some ((-1), g)
set_option maxRecDepth 20000 in
theorem c_X0_add_56 {S : List xSh} (hS : xpf SH1 S) {g : xG} {p1 : Int32} {p2 : Int32} (out : Int32 × xG) (H : f_X0_add_56 p1 p2 g = some out) : xC mX0_add 1 22 0 0 S [.ref 56, .int p1, .int p2] g S (fun r g' => r = some (.int out.1) ∧ g' = out.2) := by
  have H : (if p1 < 0 then
  some ((-1), g)
else
  if 999 < p1 then
    some ((-1), g)
  else
    if (g.1 56 5) < 0 then
      some ((-1), g)
    else
      if (g.1 56 5) < 20 then
        xl (xput g 57 20 (g.1 56 5) p1) fun w1 =>
        xg (¬ ((w1.1 56 5) < 0 ∨ 20 ≤ (w1.1 56 5).toNatClampNeg)) (
          some (((w1.1 56 5) + 1) - 1, (xupd (xupd w1.1 58 (w1.1 56 5).toNatClampNeg (p2 &&& 1)) 56 5 ((w1.1 56 5) + 1), w1.2)))
      else
        some ((-1), g)) = some out := H
  refine xC.of 0 SH1 [some (.ref 56), some (.int p1), some (.int p2)] hS (by decide +kernel) rfl (fun _ _ => Nat.le_of_ble_eq_true rfl) (fun _ _ => rfl) ?_
  intro k A hR hrm hz
  refine xb A [(.iload_n 1, 1, 0, 0, .null)] (pc' := 1) (ls' := [some (.ref 56), some (.int p1), some (.int p2)]) (st' := [.int p1]) (g' := g) (by decide +kernel) rfl ?_
  refine xif_lt A (29) 30 4 (by decide +kernel) (fun h1 => ?_) (fun h1 => ?_)
  · rw [if_pos h1] at H
    refine xb A [(.iconst (-1), 1, 0, 0, .int (-1))] (pc' := 31) (ls' := [some (.ref 56), some (.int p1), some (.int p2)]) (st' := [.int (-1)]) (g' := g) (by decide +kernel) rfl ?_
    obtain rfl := Option.some.inj H
    exact xret_i A hR hz (by decide +kernel) rfl ⟨rfl, rfl⟩
  · rw [if_neg h1] at H
    refine xb A [(.iload_n 1, 1, 0, 0, .null), (.sipush 999, 3, 0, 0, .int 999)] (pc' := 8) (ls' := [some (.ref 56), some (.int p1), some (.int p2)]) (st' := [.int 999, .int p1]) (g' := g) (by decide +kernel) rfl ?_
    refine xic_gt A (22) 30 11 (by decide +kernel) (fun h2 => ?_) (fun h2 => ?_)
    · rw [if_pos h2] at H
      refine xb A [(.iconst (-1), 1, 0, 0, .int (-1))] (pc' := 31) (ls' := [some (.ref 56), some (.int p1), some (.int p2)]) (st' := [.int (-1)]) (g' := g) (by decide +kernel) rfl ?_
      obtain rfl := Option.some.inj H
      exact xret_i A hR hz (by decide +kernel) rfl ⟨rfl, rfl⟩
    · rw [if_neg h2] at H
      refine xb A [(.aload_n 0, 1, 0, 0, .null), (.getfield 30, 3, 56, 5, .int 0)] (pc' := 15) (ls' := [some (.ref 56), some (.int p1), some (.int p2)]) (st' := [.int (g.1 56 5)]) (g' := g) (by decide +kernel) rfl ?_
      refine xif_lt A (15) 30 18 (by decide +kernel) (fun h3 => ?_) (fun h3 => ?_)
      · rw [if_pos h3] at H
        refine xb A [(.iconst (-1), 1, 0, 0, .int (-1))] (pc' := 31) (ls' := [some (.ref 56), some (.int p1), some (.int p2)]) (st' := [.int (-1)]) (g' := g) (by decide +kernel) rfl ?_
        obtain rfl := Option.some.inj H
        exact xret_i A hR hz (by decide +kernel) rfl ⟨rfl, rfl⟩
      · rw [if_neg h3] at H
        refine xb A [(.aload_n 0, 1, 0, 0, .null), (.getfield 30, 3, 56, 5, .int 0), (.aload_n 0, 1, 0, 0, .null), (.getfield 15, 3, 56, 3, .ref 58), (.arraylength, 1, 58, 0, .int 20)] (pc' := 27) (ls' := [some (.ref 56), some (.int p1), some (.int p2)]) (st' := [.int 20, .int (g.1 56 5)]) (g' := g) (by decide +kernel) rfl ?_
        refine xic_lt A (5) 32 30 (by decide +kernel) (fun h4 => ?_) (fun h4 => ?_)
        · rw [if_pos h4] at H
          refine xb A [(.aload_n 0, 1, 0, 0, .null), (.getfield 11, 3, 56, 2, .ref 57), (.aload_n 0, 1, 0, 0, .null), (.getfield 30, 3, 56, 5, .int 0), (.iload_n 1, 1, 0, 0, .null)] (pc' := 41) (ls' := [some (.ref 56), some (.int p1), some (.int p2)]) (st' := [.int p1, .int (g.1 56 5), .ref 57]) (g' := g) (by decide +kernel) rfl ?_
          obtain ⟨w1, e1, H⟩ := xl_elim H
          refine xcallSN A (ix := 34) (nxt := 44) (host := "NoonRinger") hrm hz [.ref 57, .int (g.1 56 5), .int p1] [] 33 (c_X11_put (hS _ _ sh_57) (by decide)) ok_X11_put (by decide +kernel) rfl (fun r g1 hq => ?_)
          rw [hq.1, hq.2]
          rw [e1]
          show xW k S 0 0 44 [some (.ref 56), some (.int p1), some (.int p2)] [] w1
          refine xb A [(.aload_n 0, 1, 0, 0, .null), (.getfield 15, 3, 56, 3, .ref 58), (.aload_n 0, 1, 0, 0, .null), (.getfield 30, 3, 56, 5, .int 0), (.iload_n 2, 1, 0, 0, .null)] (pc' := 53) (ls' := [some (.ref 56), some (.int p1), some (.int p2)]) (st' := [.int p2, .int (w1.1 56 5), .ref 58]) (g' := w1) (by decide +kernel) rfl ?_
          obtain ⟨h5, H⟩ := xg_elim H
          refine xzast A (nxt := 54) (by decide +kernel) (hS _ _ sh_58) h5 ?_
          show xW k S 0 0 54 [some (.ref 56), some (.int p1), some (.int p2)] [] (xupd w1.1 58 (w1.1 56 5).toNatClampNeg (p2 &&& 1), w1.2)
          refine xb A [(.aload_n 0, 1, 0, 0, .null), (.dup, 1, 0, 0, .null), (.getfield 30, 3, 56, 5, .int 0), (.iconst 1, 1, 0, 0, .int 1), (.iadd, 1, 0, 0, .null), (.putfield 30, 3, 56, 5, .int 0), (.aload_n 0, 1, 0, 0, .null), (.getfield 30, 3, 56, 5, .int 0), (.iconst 1, 1, 0, 0, .int 1), (.isub, 1, 0, 0, .null)] (pc' := 70) (ls' := [some (.ref 56), some (.int p1), some (.int p2)]) (st' := [.int (((w1.1 56 5) + 1) - 1)]) (g' := (xupd (xupd w1.1 58 (w1.1 56 5).toNatClampNeg (p2 &&& 1)) 56 5 ((w1.1 56 5) + 1), w1.2)) (by decide +kernel) rfl ?_
          obtain rfl := Option.some.inj H
          exact xret_i A hR hz (by decide +kernel) rfl ⟨rfl, rfl⟩
        · rw [if_neg h4] at H
          refine xb A [(.iconst (-1), 1, 0, 0, .int (-1))] (pc' := 31) (ls' := [some (.ref 56), some (.int p1), some (.int p2)]) (st' := [.int (-1)]) (g' := g) (by decide +kernel) rfl ?_
          obtain rfl := Option.some.inj H
          exact xret_i A hR hz (by decide +kernel) rfl ⟨rfl, rfl⟩
def f_X11_tell_0 (p1 : Int32) (p2 : Int32) (g : xG) : Option (Int32 × xG) :=
  (f_X0_add_56 p1 p2 g).bind fun w1 =>
  some (w1.1, w1.2)
set_option maxRecDepth 20000 in
theorem c_X11_tell_0 {S : List xSh} (hS : xpf SH1 S) {g : xG} {p1 : Int32} {p2 : Int32} (out : Int32 × xG) (H : f_X11_tell_0 p1 p2 g = some out) : xC mX11_tell 2 44 0 0 S [.ref 0, .int p1, .int p2] g S (fun r g' => r = some (.int out.1) ∧ g' = out.2) := by
  have H : ((f_X0_add_56 p1 p2 g).bind fun w1 =>
some (w1.1, w1.2)) = some out := H
  refine xC.of 11 SH1 [some (.ref 0), some (.int p1), some (.int p2)] hS (by decide +kernel) rfl (fun _ _ => Nat.le_of_ble_eq_true rfl) (fun _ _ => rfl) ?_
  intro k A hR hrm hz
  refine xb A [(.aload_n 0, 1, 0, 0, .null), (.getfield 90, 3, 0, 12, .ref 56), (.iload_n 1, 1, 0, 0, .null), (.iload_n 2, 1, 0, 0, .null)] (pc' := 6) (ls' := [some (.ref 0), some (.int p1), some (.int p2)]) (st' := [.int p2, .int p1, .ref 56]) (g' := g) (by decide +kernel) rfl ?_
  obtain ⟨w1, e1, H⟩ := xbind H
  refine xcallV A (ix := 311) (nxt := 9) hrm hz [.int p1, .int p2] [] 1277 (c_X0_add_56 hS _ e1) ok_X0_add (by decide +kernel) rfl (fun r g1 hq => ?_)
  rw [hq.1, hq.2]
  show xW k S 0 0 9 [some (.ref 0), some (.int p1), some (.int p2)] [.int w1.1] w1.2
  obtain rfl := Option.some.inj H
  exact xret_i A hR hz (by decide +kernel) rfl ⟨rfl, rfl⟩
def f_X0_size_56  (g : xG) : Int32 :=
  g.1 56 5
set_option maxRecDepth 20000 in
theorem c_X0_size_56 {S : List xSh} (hS : xpf SH1 S) {g : xG}  (out : Int32) (H : f_X0_size_56  g = out) : xC mX0_size 0 0 0 0 S [.ref 56] g S (fun r g' => r = some (.int out) ∧ g' = g) := by
  have H : (g.1 56 5) = out := H
  refine xC.of 0 SH1 [some (.ref 56)] hS (by decide +kernel) rfl (fun _ _ => Nat.le_of_ble_eq_true rfl) (fun _ _ => rfl) ?_
  intro k A hR hrm hz
  refine xb A [(.aload_n 0, 1, 0, 0, .null), (.getfield 30, 3, 56, 5, .int 0)] (pc' := 4) (ls' := [some (.ref 56)]) (st' := [.int (g.1 56 5)]) (g' := g) (by decide +kernel) rfl ?_
  subst H
  exact xret_i A hR hz (by decide +kernel) rfl ⟨rfl, rfl⟩
def f_X11_forget_0  (g : xG) : Int32 × xG :=
  xl (f_X0_clear_56 g) fun w1 =>
  (f_X0_size_56 g, w1)
set_option maxRecDepth 20000 in
theorem c_X11_forget_0 {S : List xSh} (hS : xpf SH1 S) {g : xG}  (out : Int32 × xG) (H : f_X11_forget_0  g = out) : xC mX11_forget 1 20 0 0 S [.ref 0] g S (fun r g' => r = some (.int out.1) ∧ g' = out.2) := by
  have H : (xl (f_X0_clear_56 g) fun w1 =>
(f_X0_size_56 g, w1)) = out := H
  refine xC.of 11 SH1 [some (.ref 0), none] hS (by decide +kernel) rfl (fun _ _ => Nat.le_of_ble_eq_true rfl) (fun _ _ => rfl) ?_
  intro k A hR hrm hz
  refine xb A [(.aload_n 0, 1, 0, 0, .null), (.getfield 90, 3, 0, 12, .ref 56)] (pc' := 4) (ls' := [some (.ref 0), none]) (st' := [.ref 56]) (g' := g) (by decide +kernel) rfl ?_
  refine xcallV A (ix := 315) (nxt := 7) hrm hz [] [] 1286 (c_X0_size_56 hS _ rfl) ok_X0_size (by decide +kernel) rfl (fun r g1 hq => ?_)
  rw [hq.1, hq.2]
  show xW k S 0 0 7 [some (.ref 0), none] [.int (f_X0_size_56 g)] g
  refine xb A [(.istore_n 1, 1, 0, 0, .null), (.aload_n 0, 1, 0, 0, .null), (.getfield 90, 3, 0, 12, .ref 56)] (pc' := 12) (ls' := [some (.ref 0), some (.int (f_X0_size_56 g))]) (st' := [.ref 56]) (g' := g) (by decide +kernel) rfl ?_
  obtain ⟨w1, e1, H⟩ := xl_elim H
  refine xcallV A (ix := 142) (nxt := 15) hrm hz [] [] 543 (c_X0_clear_56 hS _ e1) ok_X0_clear (by decide +kernel) rfl (fun r g1 hq => ?_)
  rw [hq.1, hq.2]
  show xW k S 0 0 15 [some (.ref 0), some (.int (f_X0_size_56 g))] [] w1
  refine xb A [(.iload_n 1, 1, 0, 0, .null)] (pc' := 16) (ls' := [some (.ref 0), some (.int (f_X0_size_56 g))]) (st' := [.int (f_X0_size_56 g)]) (g' := w1) (by decide +kernel) rfl ?_
  subst H
  exact xret_i A hR hz (by decide +kernel) rfl ⟨rfl, rfl⟩
def f_X11_isKnown_0 (p1 : Int32) (g : xG) : Int32 :=
  if p1 < 0 then
    0
  else
    if (f_X0_size_56 g) < p1 then
      0
    else
      1
set_option maxRecDepth 20000 in
theorem c_X11_isKnown_0 {S : List xSh} (hS : xpf SH1 S) {g : xG} {p1 : Int32} (out : Int32) (H : f_X11_isKnown_0 p1 g = out) : xC mX11_isKnown 1 20 0 0 S [.ref 0, .int p1] g S (fun r g' => r = some (.int out) ∧ g' = g) := by
  have H : (if p1 < 0 then
  0
else
  if (f_X0_size_56 g) < p1 then
    0
  else
    1) = out := H
  refine xC.of 11 SH1 [some (.ref 0), some (.int p1)] hS (by decide +kernel) rfl (fun _ _ => Nat.le_of_ble_eq_true rfl) (fun _ _ => rfl) ?_
  intro k A hR hrm hz
  refine xb A [(.iload_n 1, 1, 0, 0, .null)] (pc' := 1) (ls' := [some (.ref 0), some (.int p1)]) (st' := [.int p1]) (g' := g) (by decide +kernel) rfl ?_
  refine xif_lt A (18) 19 4 (by decide +kernel) (fun h1 => ?_) (fun h1 => ?_)
  · rw [if_pos h1] at H
    refine xb A [(.iconst 0, 1, 0, 0, .int 0)] (pc' := 20) (ls' := [some (.ref 0), some (.int p1)]) (st' := [.int 0]) (g' := g) (by decide +kernel) rfl ?_
    subst H
    exact xret_i A hR hz (by decide +kernel) rfl ⟨rfl, rfl⟩
  · rw [if_neg h1] at H
    refine xb A [(.iload_n 1, 1, 0, 0, .null), (.aload_n 0, 1, 0, 0, .null), (.getfield 90, 3, 0, 12, .ref 56)] (pc' := 9) (ls' := [some (.ref 0), some (.int p1)]) (st' := [.ref 56, .int p1]) (g' := g) (by decide +kernel) rfl ?_
    refine xcallV A (ix := 315) (nxt := 12) hrm hz [] [.int p1] 1286 (c_X0_size_56 hS _ rfl) ok_X0_size (by decide +kernel) rfl (fun r g1 hq => ?_)
    rw [hq.1, hq.2]
    show xW k S 0 0 12 [some (.ref 0), some (.int p1)] [.int (f_X0_size_56 g), .int p1] g
    refine xic_gt A (7) 19 15 (by decide +kernel) (fun h2 => ?_) (fun h2 => ?_)
    · rw [if_pos h2] at H
      refine xb A [(.iconst 0, 1, 0, 0, .int 0)] (pc' := 20) (ls' := [some (.ref 0), some (.int p1)]) (st' := [.int 0]) (g' := g) (by decide +kernel) rfl ?_
      subst H
      exact xret_i A hR hz (by decide +kernel) rfl ⟨rfl, rfl⟩
    · rw [if_neg h2] at H
      refine xb A [(.iconst 1, 1, 0, 0, .int 1)] (pc' := 16) (ls' := [some (.ref 0), some (.int p1)]) (st' := [.int 1]) (g' := g) (by decide +kernel) rfl ?_
      refine xgoto A (4) 20 (by decide +kernel) ?_
      subst H
      exact xret_i A hR hz (by decide +kernel) rfl ⟨rfl, rfl⟩
def f_X0_agrees_56_2  (g : xG) : Nat → Int32 → Int32 → Int32 → Option (Int32)
  | 0, _, _, _ => none
  | n + 1, l1, l2, l3 =>
    if l1 ≤ l3 then
      some 1
    else
      if 20 ≤ l3 then
        some 1
      else
        if l2 < (xat g 57 20 l3) then
          xg (¬ (l3 < 0 ∨ 20 ≤ l3.toNatClampNeg)) (
            if 0 = (g.1 58 l3.toNatClampNeg) then
              f_X0_agrees_56_2 g n l1 l2 (l3 + 1)
            else
              some 0)
        else
          xg (¬ (l3 < 0 ∨ 20 ≤ l3.toNatClampNeg)) (
            if 1 = (g.1 58 l3.toNatClampNeg) then
              f_X0_agrees_56_2 g n l1 l2 (l3 + 1)
            else
              some 0)
def f_X0_agrees_56 (p1 : Int32) (p2 : Int32) (g : xG) : Option (Int32) :=
  f_X0_agrees_56_2 g xN p1 p2 0
set_option maxRecDepth 20000 in
theorem t_X0_agrees_56_2 {k : xK} {S : List xSh} {g : xG} {out : Int32} (hS : xpf SH1 S) (A : xAt k mX0_agrees.2.1 0 SH1 S) (hR : xRet k 0 0 S (fun r g' => r = some (.int out) ∧ g' = g) mX0_agrees.2.2.2) (hrm : xrm k = { frames := 1, cells := 0, slots := 0, locals := 21 }) (hz : xhs k = xb0 k + S.length)   : ∀ (n : Nat) (l1 : Int32) (l2 : Int32) (l3 : Int32), f_X0_agrees_56_2 g n l1 l2 l3 = some out → xW k S 0 0 2 [some (.ref 56), some (.int l1), some (.int l2), some (.int l3)] [] g := by
  intro n
  induction n with
  | zero => intro l1 l2 l3 H; exact absurd H (by simp [f_X0_agrees_56_2])
  | succ n ih =>
    intro l1 l2 l3 H
    have H : (if l1 ≤ l3 then
  some 1
else
  if 20 ≤ l3 then
    some 1
  else
    if l2 < (xat g 57 20 l3) then
      xg (¬ (l3 < 0 ∨ 20 ≤ l3.toNatClampNeg)) (
        if 0 = (g.1 58 l3.toNatClampNeg) then
          f_X0_agrees_56_2 g n l1 l2 (l3 + 1)
        else
          some 0)
    else
      xg (¬ (l3 < 0 ∨ 20 ≤ l3.toNatClampNeg)) (
        if 1 = (g.1 58 l3.toNatClampNeg) then
          f_X0_agrees_56_2 g n l1 l2 (l3 + 1)
        else
          some 0)) = some out := H
    refine xb A [(.iload_n 3, 1, 0, 0, .null), (.iload_n 1, 1, 0, 0, .null)] (pc' := 4) (ls' := [some (.ref 56), some (.int l1), some (.int l2), some (.int l3)]) (st' := [.int l1, .int l3]) (g' := g) (by decide +kernel) rfl ?_
    refine xic_ge A (46) 50 7 (by decide +kernel) (fun h1 => ?_) (fun h1 => ?_)
    · rw [if_pos h1] at H
      refine xb A [(.iconst 1, 1, 0, 0, .int 1)] (pc' := 51) (ls' := [some (.ref 56), some (.int l1), some (.int l2), some (.int l3)]) (st' := [.int 1]) (g' := g) (by decide +kernel) rfl ?_
      obtain rfl := Option.some.inj H
      exact xret_i A hR hz (by decide +kernel) rfl ⟨rfl, rfl⟩
    · rw [if_neg h1] at H
      refine xb A [(.iload_n 3, 1, 0, 0, .null), (.aload_n 0, 1, 0, 0, .null), (.getfield 15, 3, 56, 3, .ref 58), (.arraylength, 1, 58, 0, .int 20)] (pc' := 13) (ls' := [some (.ref 56), some (.int l1), some (.int l2), some (.int l3)]) (st' := [.int 20, .int l3]) (g' := g) (by decide +kernel) rfl ?_
      refine xic_ge A (37) 50 16 (by decide +kernel) (fun h2 => ?_) (fun h2 => ?_)
      · rw [if_pos h2] at H
        refine xb A [(.iconst 1, 1, 0, 0, .int 1)] (pc' := 51) (ls' := [some (.ref 56), some (.int l1), some (.int l2), some (.int l3)]) (st' := [.int 1]) (g' := g) (by decide +kernel) rfl ?_
        obtain rfl := Option.some.inj H
        exact xret_i A hR hz (by decide +kernel) rfl ⟨rfl, rfl⟩
      · rw [if_neg h2] at H
        refine xb A [(.iload_n 2, 1, 0, 0, .null), (.aload_n 0, 1, 0, 0, .null), (.getfield 11, 3, 56, 2, .ref 57), (.iload_n 3, 1, 0, 0, .null)] (pc' := 22) (ls' := [some (.ref 56), some (.int l1), some (.int l2), some (.int l3)]) (st' := [.int l3, .ref 57, .int l2]) (g' := g) (by decide +kernel) rfl ?_
        refine xcallSN A (ix := 60) (nxt := 25) (host := "NoonRinger") hrm hz [.ref 57, .int l3] [.int l2] 34 (c_X11_at (hS _ _ sh_57) (by decide)) ok_X11_at (by decide +kernel) rfl (fun r g1 hq => ?_)
        rw [hq.1, hq.2]
        show xW k S 0 0 25 [some (.ref 56), some (.int l1), some (.int l2), some (.int l3)] [.int (xat g 57 20 l3), .int l2] g
        refine xic_lt A (7) 32 28 (by decide +kernel) (fun h3 => ?_) (fun h3 => ?_)
        · rw [if_pos h3] at H
          refine xb A [(.iconst 0, 1, 0, 0, .int 0), (.aload_n 0, 1, 0, 0, .null), (.getfield 15, 3, 56, 3, .ref 58), (.iload_n 3, 1, 0, 0, .null)] (pc' := 38) (ls' := [some (.ref 56), some (.int l1), some (.int l2), some (.int l3)]) (st' := [.int l3, .ref 58, .int 0]) (g' := g) (by decide +kernel) rfl ?_
          obtain ⟨h4, H⟩ := xg_elim H
          refine xzald A (nxt := 39) (by decide +kernel) (hS _ _ sh_58) h4 ?_
          show xW k S 0 0 39 [some (.ref 56), some (.int l1), some (.int l2), some (.int l3)] [.int (g.1 58 l3.toNatClampNeg), .int 0] g
          refine xic_eq A (5) 44 42 (by decide +kernel) (fun h5 => ?_) (fun h5 => ?_)
          · rw [if_pos h5] at H
            refine xb A [(.iinc 3 1, 3, 0, 0, .null)] (pc' := 47) (ls' := [some (.ref 56), some (.int l1), some (.int l2), some (.int (l3 + 1))]) (st' := []) (g' := g) (by decide +kernel) rfl ?_
            refine xgoto A (-45) 2 (by decide +kernel) ?_
            exact ih _ _ _ H
          · rw [if_neg h5] at H
            refine xb A [(.iconst 0, 1, 0, 0, .int 0)] (pc' := 43) (ls' := [some (.ref 56), some (.int l1), some (.int l2), some (.int l3)]) (st' := [.int 0]) (g' := g) (by decide +kernel) rfl ?_
            obtain rfl := Option.some.inj H
            exact xret_i A hR hz (by decide +kernel) rfl ⟨rfl, rfl⟩
        · rw [if_neg h3] at H
          refine xb A [(.iconst 1, 1, 0, 0, .int 1)] (pc' := 29) (ls' := [some (.ref 56), some (.int l1), some (.int l2), some (.int l3)]) (st' := [.int 1]) (g' := g) (by decide +kernel) rfl ?_
          refine xgoto A (4) 33 (by decide +kernel) ?_
          refine xb A [(.aload_n 0, 1, 0, 0, .null), (.getfield 15, 3, 56, 3, .ref 58), (.iload_n 3, 1, 0, 0, .null)] (pc' := 38) (ls' := [some (.ref 56), some (.int l1), some (.int l2), some (.int l3)]) (st' := [.int l3, .ref 58, .int 1]) (g' := g) (by decide +kernel) rfl ?_
          obtain ⟨h6, H⟩ := xg_elim H
          refine xzald A (nxt := 39) (by decide +kernel) (hS _ _ sh_58) h6 ?_
          show xW k S 0 0 39 [some (.ref 56), some (.int l1), some (.int l2), some (.int l3)] [.int (g.1 58 l3.toNatClampNeg), .int 1] g
          refine xic_eq A (5) 44 42 (by decide +kernel) (fun h7 => ?_) (fun h7 => ?_)
          · rw [if_pos h7] at H
            refine xb A [(.iinc 3 1, 3, 0, 0, .null)] (pc' := 47) (ls' := [some (.ref 56), some (.int l1), some (.int l2), some (.int (l3 + 1))]) (st' := []) (g' := g) (by decide +kernel) rfl ?_
            refine xgoto A (-45) 2 (by decide +kernel) ?_
            exact ih _ _ _ H
          · rw [if_neg h7] at H
            refine xb A [(.iconst 0, 1, 0, 0, .int 0)] (pc' := 43) (ls' := [some (.ref 56), some (.int l1), some (.int l2), some (.int l3)]) (st' := [.int 0]) (g' := g) (by decide +kernel) rfl ?_
            obtain rfl := Option.some.inj H
            exact xret_i A hR hz (by decide +kernel) rfl ⟨rfl, rfl⟩
set_option maxRecDepth 20000 in
theorem c_X0_agrees_56 {S : List xSh} (hS : xpf SH1 S) {g : xG} {p1 : Int32} {p2 : Int32} (out : Int32) (H : f_X0_agrees_56 p1 p2 g = some out) : xC mX0_agrees 1 21 0 0 S [.ref 56, .int p1, .int p2] g S (fun r g' => r = some (.int out) ∧ g' = g) := by
  have H : (f_X0_agrees_56_2 g xN p1 p2 0) = some out := H
  refine xC.of 0 SH1 [some (.ref 56), some (.int p1), some (.int p2), none] hS (by decide +kernel) rfl (fun _ _ => Nat.le_of_ble_eq_true rfl) (fun _ _ => rfl) ?_
  intro k A hR hrm hz
  refine xb A [(.iconst 0, 1, 0, 0, .int 0), (.istore_n 3, 1, 0, 0, .null)] (pc' := 2) (ls' := [some (.ref 56), some (.int p1), some (.int p2), some (.int 0)]) (st' := []) (g' := g) (by decide +kernel) rfl ?_
  exact t_X0_agrees_56_2 hS A hR hrm hz _ _ _ _ H
def f_X0_homesLeft_56_48_6  : Nat → Int32 → Int32 → Int32 → Int32 → xG → Option (Int32 × xG)
  | 0, _, _, _, _, _ => none
  | n + 1, l2, l3, l4, l5, g =>
    if (f_X4_towns_3 g) ≤ l5 then
      some (l4, g)
    else
      (f_X1_lawFrom_44_48 l3 l5 1 g).bind fun w1 =>
      xl (xput w1.2 59 7 l5 w1.1) fun w2 =>
      (f_X0_agrees_56 l2 w1.1 w2).bind fun w3 =>
      if w3 = 0 then
        f_X0_homesLeft_56_48_6 n l2 l3 l4 (l5 + 1) w2
      else
        f_X0_homesLeft_56_48_6 n l2 l3 (l4 ||| (f_X11_bit l5 w2)) (l5 + 1) w2
def f_X0_homesLeft_56_48 (p2 : Int32) (p3 : Int32) (g : xG) : Option (Int32 × xG) :=
  f_X0_homesLeft_56_48_6 xN p2 p3 0 0 g
set_option maxRecDepth 20000 in
theorem t_X0_homesLeft_56_48_6 {k : xK} {S : List xSh} {out : Int32 × xG} (hS : xpf SH1 S) (A : xAt k mX0_homesLeft.2.1 0 SH1 S) (hR : xRet k 0 0 S (fun r g' => r = some (.int out.1) ∧ g' = out.2) mX0_homesLeft.2.2.2) (hrm : xrm k = { frames := 3, cells := 0, slots := 0, locals := 76 }) (hz : xhs k = xb0 k + S.length)   : ∀ (n : Nat) (l2 : Int32) (l3 : Int32) (l4 : Int32) (l5 : Int32) (g : xG), f_X0_homesLeft_56_48_6 n l2 l3 l4 l5 g = some out → xW k S 0 0 6 [some (.ref 56), some (.ref 48), some (.int l2), some (.int l3), some (.int l4), some (.int l5), none] [] g := by
  intro n
  induction n with
  | zero => intro l2 l3 l4 l5 g H; exact absurd H (by simp [f_X0_homesLeft_56_48_6])
  | succ n ih =>
    intro l2 l3 l4 l5 g H
    have H : (if (f_X4_towns_3 g) ≤ l5 then
  some (l4, g)
else
  (f_X1_lawFrom_44_48 l3 l5 1 g).bind fun w1 =>
  xl (xput w1.2 59 7 l5 w1.1) fun w2 =>
  (f_X0_agrees_56 l2 w1.1 w2).bind fun w3 =>
  if w3 = 0 then
    f_X0_homesLeft_56_48_6 n l2 l3 l4 (l5 + 1) w2
  else
    f_X0_homesLeft_56_48_6 n l2 l3 (l4 ||| (f_X11_bit l5 w2)) (l5 + 1) w2) = some out := H
    refine xb A [(.iload 5, 2, 0, 0, .null), (.aload_n 0, 1, 0, 0, .null), (.getfield 22, 3, 56, 0, .ref 3)] (pc' := 12) (ls' := [some (.ref 56), some (.ref 48), some (.int l2), some (.int l3), some (.int l4), some (.int l5), none]) (st' := [.ref 3, .int l5]) (g' := g) (by decide +kernel) rfl ?_
    refine xcallV A (ix := 38) (nxt := 15) hrm hz [] [.int l5] 1302 (c_X4_towns_3 hS _ rfl) ok_X4_towns (by decide +kernel) rfl (fun r g1 hq => ?_)
    rw [hq.1, hq.2]
    show xW k S 0 0 15 [some (.ref 56), some (.ref 48), some (.int l2), some (.int l3), some (.int l4), some (.int l5), none] [.int (f_X4_towns_3 g), .int l5] g
    refine xic_ge A (54) 69 18 (by decide +kernel) (fun h1 => ?_) (fun h1 => ?_)
    · rw [if_pos h1] at H
      refine xb A [(.iload 4, 2, 0, 0, .null)] (pc' := 71) (ls' := [some (.ref 56), some (.ref 48), some (.int l2), some (.int l3), some (.int l4), some (.int l5), none]) (st' := [.int l4]) (g' := g) (by decide +kernel) rfl ?_
      obtain rfl := Option.some.inj H
      exact xret_i A hR hz (by decide +kernel) rfl ⟨rfl, rfl⟩
    · rw [if_neg h1] at H
      refine xb A [(.aload_n 0, 1, 0, 0, .null), (.getfield 26, 3, 56, 1, .ref 44), (.aload_n 1, 1, 0, 0, .null), (.iload_n 3, 1, 0, 0, .null), (.iload 5, 2, 0, 0, .null), (.iconst 1, 1, 0, 0, .int 1)] (pc' := 27) (ls' := [some (.ref 56), some (.ref 48), some (.int l2), some (.int l3), some (.int l4), some (.int l5), none]) (st' := [.int 1, .int l5, .int l3, .ref 48, .ref 44]) (g' := g) (by decide +kernel) rfl ?_
      obtain ⟨w1, e1, H⟩ := xbind H
      refine xcallV A (ix := 46) (nxt := 30) hrm hz [.ref 48, .int l3, .int l5, .int 1] [] 1303 (c_X1_lawFrom_44_48 hS _ e1) ok_X1_lawFrom (by decide +kernel) rfl (fun r g1 hq => ?_)
      rw [hq.1, hq.2]
      show xW k S 0 0 30 [some (.ref 56), some (.ref 48), some (.int l2), some (.int l3), some (.int l4), some (.int l5), none] [.int w1.1] w1.2
      refine xb A [(.istore 6, 2, 0, 0, .null), (.aload_n 0, 1, 0, 0, .null), (.getfield 19, 3, 56, 4, .ref 59), (.iload 5, 2, 0, 0, .null), (.iload 6, 2, 0, 0, .null)] (pc' := 40) (ls' := [some (.ref 56), some (.ref 48), some (.int l2), some (.int l3), some (.int l4), some (.int l5), some (.int w1.1)]) (st' := [.int w1.1, .int l5, .ref 59]) (g' := w1.2) (by decide +kernel) rfl ?_
      obtain ⟨w2, e2, H⟩ := xl_elim H
      refine xcallSN A (ix := 34) (nxt := 43) (host := "NoonRinger") hrm hz [.ref 59, .int l5, .int w1.1] [] 33 (c_X11_put (hS _ _ sh_59) (by decide)) ok_X11_put (by decide +kernel) rfl (fun r g1 hq => ?_)
      rw [hq.1, hq.2]
      rw [e2]
      show xW k S 0 0 43 [some (.ref 56), some (.ref 48), some (.int l2), some (.int l3), some (.int l4), some (.int l5), some (.int w1.1)] [] w2
      refine xb A [(.aload_n 0, 1, 0, 0, .null), (.iload_n 2, 1, 0, 0, .null), (.iload 6, 2, 0, 0, .null)] (pc' := 47) (ls' := [some (.ref 56), some (.ref 48), some (.int l2), some (.int l3), some (.int l4), some (.int l5), some (.int w1.1)]) (st' := [.int w1.1, .int l2, .ref 56]) (g' := w2) (by decide +kernel) rfl ?_
      obtain ⟨w3, e3, H⟩ := xbind H
      refine xcallV A (ix := 52) (nxt := 50) hrm hz [.int l2, .int w1.1] [] 1304 (c_X0_agrees_56 hS _ e3) ok_X0_agrees (by decide +kernel) rfl (fun r g1 hq => ?_)
      rw [hq.1, hq.2]
      show xW k S 0 0 50 [some (.ref 56), some (.ref 48), some (.int l2), some (.int l3), some (.int l4), some (.int l5), some (.int w1.1)] [.int w3] w2
      refine xif_eq A (13) 63 53 (by decide +kernel) (fun h2 => ?_) (fun h2 => ?_)
      · rw [if_pos h2] at H
        refine xb A [(.iinc 5 1, 3, 0, 0, .null)] (pc' := 66) (ls' := [some (.ref 56), some (.ref 48), some (.int l2), some (.int l3), some (.int l4), some (.int (l5 + 1)), some (.int w1.1)]) (st' := []) (g' := w2) (by decide +kernel) rfl ?_
        refine xgoto A (-60) 6 (by decide +kernel) ?_
        refine xweak (ls' := [some (.ref 56), some (.ref 48), some (.int l2), some (.int l3), some (.int l4), some (.int (l5 + 1)), none]) (by exact ⟨rfl, ⟨rfl, ⟨rfl, ⟨rfl, ⟨rfl, ⟨rfl, trivial⟩⟩⟩⟩⟩⟩) ?_
        exact ih _ _ _ _ _ H
      · rw [if_neg h2] at H
        refine xb A [(.iload 4, 2, 0, 0, .null), (.iload 5, 2, 0, 0, .null)] (pc' := 57) (ls' := [some (.ref 56), some (.ref 48), some (.int l2), some (.int l3), some (.int l4), some (.int l5), some (.int w1.1)]) (st' := [.int l5, .int l4]) (g' := w2) (by decide +kernel) rfl ?_
        refine xcallSN A (ix := 56) (nxt := 60) (host := "NoonRinger") hrm hz [.int l5] [.int l4] 35 (c_X11_bit hS _ rfl) ok_X11_bit (by decide +kernel) rfl (fun r g1 hq => ?_)
        rw [hq.1, hq.2]
        show xW k S 0 0 60 [some (.ref 56), some (.ref 48), some (.int l2), some (.int l3), some (.int l4), some (.int l5), some (.int w1.1)] [.int (f_X11_bit l5 w2), .int l4] w2
        refine xb A [(.ior, 1, 0, 0, .null), (.istore 4, 2, 0, 0, .null), (.iinc 5 1, 3, 0, 0, .null)] (pc' := 66) (ls' := [some (.ref 56), some (.ref 48), some (.int l2), some (.int l3), some (.int (l4 ||| (f_X11_bit l5 w2))), some (.int (l5 + 1)), some (.int w1.1)]) (st' := []) (g' := w2) (by decide +kernel) rfl ?_
        refine xgoto A (-60) 6 (by decide +kernel) ?_
        refine xweak (ls' := [some (.ref 56), some (.ref 48), some (.int l2), some (.int l3), some (.int (l4 ||| (f_X11_bit l5 w2))), some (.int (l5 + 1)), none]) (by exact ⟨rfl, ⟨rfl, ⟨rfl, ⟨rfl, ⟨rfl, ⟨rfl, trivial⟩⟩⟩⟩⟩⟩) ?_
        exact ih _ _ _ _ _ H
set_option maxRecDepth 20000 in
theorem c_X0_homesLeft_56_48 {S : List xSh} (hS : xpf SH1 S) {g : xG} {p2 : Int32} {p3 : Int32} (out : Int32 × xG) (H : f_X0_homesLeft_56_48 p2 p3 g = some out) : xC mX0_homesLeft 3 76 0 0 S [.ref 56, .ref 48, .int p2, .int p3] g S (fun r g' => r = some (.int out.1) ∧ g' = out.2) := by
  have H : (f_X0_homesLeft_56_48_6 xN p2 p3 0 0 g) = some out := H
  refine xC.of 0 SH1 [some (.ref 56), some (.ref 48), some (.int p2), some (.int p3), none, none, none] hS (by decide +kernel) rfl (fun _ _ => Nat.le_of_ble_eq_true rfl) (fun _ _ => rfl) ?_
  intro k A hR hrm hz
  refine xb A [(.iconst 0, 1, 0, 0, .int 0), (.istore 4, 2, 0, 0, .null), (.iconst 0, 1, 0, 0, .int 0), (.istore 5, 2, 0, 0, .null)] (pc' := 6) (ls' := [some (.ref 56), some (.ref 48), some (.int p2), some (.int p3), some (.int 0), some (.int 0), none]) (st' := []) (g' := g) (by decide +kernel) rfl ?_
  exact t_X0_homesLeft_56_48_6 hS A hR hrm hz _ _ _ _ _ _ H
def f_X11_whence_0_30  (l1 : Int32) (l2 : Int32) (l3 : Int32) (g : xG) : Option (Int32 × xG) :=
  (f_X0_homesLeft_56_48 l1 l2 g).bind fun w1 =>
  if l3 = 0 then
    some (f_J6_bitCount_0f7a4 w1.1 w1.2, w1.2)
  else
    some (w1.1, w1.2)
def f_X11_whence_0 (p1 : Int32) (p2 : Int32) (p3 : Int32) (g : xG) : Option (Int32 × xG) :=
  if (f_X11_isKnown_0 p1 g) = 0 then
    some ((-1), g)
  else
    if (f_X4_isPerson_3 p2 g) = 0 then
      some ((-1), g)
    else
      if p3 = 0 then
        f_X11_whence_0_30 p1 p2 p3 g
      else
        if p3 = 1 then
          f_X11_whence_0_30 p1 p2 p3 g
        else
          some ((-1), g)
set_option maxRecDepth 20000 in
theorem t_X11_whence_0_30 {k : xK} {S : List xSh} {out : Int32 × xG} (hS : xpf SH1 S) (A : xAt k mX11_whence.2.1 11 SH1 S) (hR : xRet k 0 0 S (fun r g' => r = some (.int out.1) ∧ g' = out.2) mX11_whence.2.2.2) (hrm : xrm k = { frames := 4, cells := 0, slots := 0, locals := 102 }) (hz : xhs k = xb0 k + S.length)   : ∀ (l1 : Int32) (l2 : Int32) (l3 : Int32) (g : xG), f_X11_whence_0_30 l1 l2 l3 g = some out → xW k S 0 0 30 [some (.ref 0), some (.int l1), some (.int l2), some (.int l3), none] [] g := by
  intro l1 l2 l3 g H
  have H : ((f_X0_homesLeft_56_48 l1 l2 g).bind fun w1 =>
if l3 = 0 then
  some (f_J6_bitCount_0f7a4 w1.1 w1.2, w1.2)
else
  some (w1.1, w1.2)) = some out := H
  refine xb A [(.aload_n 0, 1, 0, 0, .null), (.getfield 90, 3, 0, 12, .ref 56), (.aload_n 0, 1, 0, 0, .null), (.getfield 66, 3, 0, 8, .ref 48), (.iload_n 1, 1, 0, 0, .null), (.iload_n 2, 1, 0, 0, .null)] (pc' := 40) (ls' := [some (.ref 0), some (.int l1), some (.int l2), some (.int l3), none]) (st' := [.int l2, .int l1, .ref 48, .ref 56]) (g' := g) (by decide +kernel) rfl ?_
  obtain ⟨w1, e1, H⟩ := xbind H
  refine xcallV A (ix := 319) (nxt := 43) hrm hz [.ref 48, .int l1, .int l2] [] 1298 (c_X0_homesLeft_56_48 hS _ e1) ok_X0_homesLeft (by decide +kernel) rfl (fun r g1 hq => ?_)
  rw [hq.1, hq.2]
  show xW k S 0 0 43 [some (.ref 0), some (.int l1), some (.int l2), some (.int l3), none] [.int w1.1] w1.2
  refine xb A [(.istore 4, 2, 0, 0, .null), (.iload_n 3, 1, 0, 0, .null)] (pc' := 46) (ls' := [some (.ref 0), some (.int l1), some (.int l2), some (.int l3), some (.int w1.1)]) (st' := [.int l3]) (g' := w1.2) (by decide +kernel) rfl ?_
  refine xif_ne A (11) 57 49 (by decide +kernel) (fun h4 => ?_) (fun h4 => ?_)
  · rw [if_neg h4] at H
    refine xb A [(.iload 4, 2, 0, 0, .null)] (pc' := 59) (ls' := [some (.ref 0), some (.int l1), some (.int l2), some (.int l3), some (.int w1.1)]) (st' := [.int w1.1]) (g' := w1.2) (by decide +kernel) rfl ?_
    obtain rfl := Option.some.inj H
    exact xret_i A hR hz (by decide +kernel) rfl ⟨rfl, rfl⟩
  · rw [if_pos h4] at H
    refine xb A [(.iload 4, 2, 0, 0, .null)] (pc' := 51) (ls' := [some (.ref 0), some (.int l1), some (.int l2), some (.int l3), some (.int w1.1)]) (st' := [.int w1.1]) (g' := w1.2) (by decide +kernel) rfl ?_
    refine xcallS A (ix := 284) (nxt := 54) hrm hz [.int w1.1] [] 1202 (c_J6_bitCount_0f7a4 hS _ rfl) ok_J6_bitCount_0f7a4 (by decide +kernel) rfl (fun r g1 hq => ?_)
    rw [hq.1, hq.2]
    show xW k S 0 0 54 [some (.ref 0), some (.int l1), some (.int l2), some (.int l3), some (.int w1.1)] [.int (f_J6_bitCount_0f7a4 w1.1 w1.2)] w1.2
    refine xgoto A (5) 59 (by decide +kernel) ?_
    obtain rfl := Option.some.inj H
    exact xret_i A hR hz (by decide +kernel) rfl ⟨rfl, rfl⟩
set_option maxRecDepth 20000 in
theorem c_X11_whence_0 {S : List xSh} (hS : xpf SH1 S) {g : xG} {p1 : Int32} {p2 : Int32} {p3 : Int32} (out : Int32 × xG) (H : f_X11_whence_0 p1 p2 p3 g = some out) : xC mX11_whence 4 102 0 0 S [.ref 0, .int p1, .int p2, .int p3] g S (fun r g' => r = some (.int out.1) ∧ g' = out.2) := by
  have H : (if (f_X11_isKnown_0 p1 g) = 0 then
  some ((-1), g)
else
  if (f_X4_isPerson_3 p2 g) = 0 then
    some ((-1), g)
  else
    if p3 = 0 then
      f_X11_whence_0_30 p1 p2 p3 g
    else
      if p3 = 1 then
        f_X11_whence_0_30 p1 p2 p3 g
      else
        some ((-1), g)) = some out := H
  refine xC.of 11 SH1 [some (.ref 0), some (.int p1), some (.int p2), some (.int p3), none] hS (by decide +kernel) rfl (fun _ _ => Nat.le_of_ble_eq_true rfl) (fun _ _ => rfl) ?_
  intro k A hR hrm hz
  refine xb A [(.aload_n 0, 1, 0, 0, .null), (.iload_n 1, 1, 0, 0, .null)] (pc' := 2) (ls' := [some (.ref 0), some (.int p1), some (.int p2), some (.int p3), none]) (st' := [.int p1, .ref 0]) (g' := g) (by decide +kernel) rfl ?_
  refine xcallV A (ix := 316) (nxt := 5) hrm hz [.int p1] [] 1294 (c_X11_isKnown_0 hS _ rfl) ok_X11_isKnown (by decide +kernel) rfl (fun r g1 hq => ?_)
  rw [hq.1, hq.2]
  show xW k S 0 0 5 [some (.ref 0), some (.int p1), some (.int p2), some (.int p3), none] [.int (f_X11_isKnown_0 p1 g)] g
  refine xif_eq A (23) 28 8 (by decide +kernel) (fun h1 => ?_) (fun h1 => ?_)
  · rw [if_pos h1] at H
    refine xb A [(.iconst (-1), 1, 0, 0, .int (-1))] (pc' := 29) (ls' := [some (.ref 0), some (.int p1), some (.int p2), some (.int p3), none]) (st' := [.int (-1)]) (g' := g) (by decide +kernel) rfl ?_
    obtain rfl := Option.some.inj H
    exact xret_i A hR hz (by decide +kernel) rfl ⟨rfl, rfl⟩
  · rw [if_neg h1] at H
    refine xb A [(.aload_n 0, 1, 0, 0, .null), (.getfield 19, 3, 0, 1, .ref 3), (.iload_n 2, 1, 0, 0, .null)] (pc' := 13) (ls' := [some (.ref 0), some (.int p1), some (.int p2), some (.int p3), none]) (st' := [.int p2, .ref 3]) (g' := g) (by decide +kernel) rfl ?_
    refine xcallV A (ix := 183) (nxt := 16) hrm hz [.int p2] [] 932 (c_X4_isPerson_3 hS _ rfl) ok_X4_isPerson (by decide +kernel) rfl (fun r g1 hq => ?_)
    rw [hq.1, hq.2]
    show xW k S 0 0 16 [some (.ref 0), some (.int p1), some (.int p2), some (.int p3), none] [.int (f_X4_isPerson_3 p2 g)] g
    refine xif_eq A (12) 28 19 (by decide +kernel) (fun h2 => ?_) (fun h2 => ?_)
    · rw [if_pos h2] at H
      refine xb A [(.iconst (-1), 1, 0, 0, .int (-1))] (pc' := 29) (ls' := [some (.ref 0), some (.int p1), some (.int p2), some (.int p3), none]) (st' := [.int (-1)]) (g' := g) (by decide +kernel) rfl ?_
      obtain rfl := Option.some.inj H
      exact xret_i A hR hz (by decide +kernel) rfl ⟨rfl, rfl⟩
    · rw [if_neg h2] at H
      refine xb A [(.iload_n 3, 1, 0, 0, .null)] (pc' := 20) (ls' := [some (.ref 0), some (.int p1), some (.int p2), some (.int p3), none]) (st' := [.int p3]) (g' := g) (by decide +kernel) rfl ?_
      refine xif_eq A (10) 30 23 (by decide +kernel) (fun h3 => ?_) (fun h3 => ?_)
      · rw [if_pos h3] at H
        exact t_X11_whence_0_30 hS A hR hrm hz _ _ _ _ H
      · rw [if_neg h3] at H
        refine xb A [(.iload_n 3, 1, 0, 0, .null), (.iconst 1, 1, 0, 0, .int 1)] (pc' := 25) (ls' := [some (.ref 0), some (.int p1), some (.int p2), some (.int p3), none]) (st' := [.int 1, .int p3]) (g' := g) (by decide +kernel) rfl ?_
        refine xic_eq A (5) 30 28 (by decide +kernel) (fun h5 => ?_) (fun h5 => ?_)
        · rw [if_pos h5] at H
          exact t_X11_whence_0_30 hS A hR hrm hz _ _ _ _ H
        · rw [if_neg h5] at H
          refine xb A [(.iconst (-1), 1, 0, 0, .int (-1))] (pc' := 29) (ls' := [some (.ref 0), some (.int p1), some (.int p2), some (.int p3), none]) (st' := [.int (-1)]) (g' := g) (by decide +kernel) rfl ?_
          obtain rfl := Option.some.inj H
          exact xret_i A hR hz (by decide +kernel) rfl ⟨rfl, rfl⟩
def f_X0_homesStriking_56_5  (g : xG) : Nat → Int32 → Int32 → Int32 → Int32 → Option (Int32)
  | 0, _, _, _, _ => none
  | n + 1, l1, l2, l3, l4 =>
    if 7 ≤ l4 then
      some l3
    else
      if (l1 &&& (f_X11_bit l4 g)) = 0 then
        f_X0_homesStriking_56_5 g n l1 l2 l3 (l4 + 1)
      else
        xg (¬ (l4 < 0 ∨ 7 ≤ l4.toNatClampNeg)) (
          if (g.1 59 l4.toNatClampNeg) < l2 then
            f_X0_homesStriking_56_5 g n l1 l2 l3 (l4 + 1)
          else
            f_X0_homesStriking_56_5 g n l1 l2 (l3 + 1) (l4 + 1))
def f_X0_homesStriking_56 (p1 : Int32) (p2 : Int32) (g : xG) : Option (Int32) :=
  f_X0_homesStriking_56_5 g xN p1 p2 0 0
set_option maxRecDepth 20000 in
theorem t_X0_homesStriking_56_5 {k : xK} {S : List xSh} {g : xG} {out : Int32} (hS : xpf SH1 S) (A : xAt k mX0_homesStriking.2.1 0 SH1 S) (hR : xRet k 0 0 S (fun r g' => r = some (.int out) ∧ g' = g) mX0_homesStriking.2.2.2) (hrm : xrm k = { frames := 1, cells := 0, slots := 0, locals := 20 }) (hz : xhs k = xb0 k + S.length)   : ∀ (n : Nat) (l1 : Int32) (l2 : Int32) (l3 : Int32) (l4 : Int32), f_X0_homesStriking_56_5 g n l1 l2 l3 l4 = some out → xW k S 0 0 5 [some (.ref 56), some (.int l1), some (.int l2), some (.int l3), some (.int l4)] [] g := by
  intro n
  induction n with
  | zero => intro l1 l2 l3 l4 H; exact absurd H (by simp [f_X0_homesStriking_56_5])
  | succ n ih =>
    intro l1 l2 l3 l4 H
    have H : (if 7 ≤ l4 then
  some l3
else
  if (l1 &&& (f_X11_bit l4 g)) = 0 then
    f_X0_homesStriking_56_5 g n l1 l2 l3 (l4 + 1)
  else
    xg (¬ (l4 < 0 ∨ 7 ≤ l4.toNatClampNeg)) (
      if (g.1 59 l4.toNatClampNeg) < l2 then
        f_X0_homesStriking_56_5 g n l1 l2 l3 (l4 + 1)
      else
        f_X0_homesStriking_56_5 g n l1 l2 (l3 + 1) (l4 + 1))) = some out := H
    refine xb A [(.iload 4, 2, 0, 0, .null), (.aload_n 0, 1, 0, 0, .null), (.getfield 19, 3, 56, 4, .ref 59), (.arraylength, 1, 59, 0, .int 7)] (pc' := 12) (ls' := [some (.ref 56), some (.int l1), some (.int l2), some (.int l3), some (.int l4)]) (st' := [.int 7, .int l4]) (g' := g) (by decide +kernel) rfl ?_
    refine xic_ge A (33) 45 15 (by decide +kernel) (fun h1 => ?_) (fun h1 => ?_)
    · rw [if_pos h1] at H
      refine xb A [(.iload_n 3, 1, 0, 0, .null)] (pc' := 46) (ls' := [some (.ref 56), some (.int l1), some (.int l2), some (.int l3), some (.int l4)]) (st' := [.int l3]) (g' := g) (by decide +kernel) rfl ?_
      obtain rfl := Option.some.inj H
      exact xret_i A hR hz (by decide +kernel) rfl ⟨rfl, rfl⟩
    · rw [if_neg h1] at H
      refine xb A [(.iload_n 1, 1, 0, 0, .null), (.iload 4, 2, 0, 0, .null)] (pc' := 18) (ls' := [some (.ref 56), some (.int l1), some (.int l2), some (.int l3), some (.int l4)]) (st' := [.int l4, .int l1]) (g' := g) (by decide +kernel) rfl ?_
      refine xcallSN A (ix := 56) (nxt := 21) (host := "NoonRinger") hrm hz [.int l4] [.int l1] 35 (c_X11_bit hS _ rfl) ok_X11_bit (by decide +kernel) rfl (fun r g1 hq => ?_)
      rw [hq.1, hq.2]
      show xW k S 0 0 21 [some (.ref 56), some (.int l1), some (.int l2), some (.int l3), some (.int l4)] [.int (f_X11_bit l4 g), .int l1] g
      refine xb A [(.iand, 1, 0, 0, .null)] (pc' := 22) (ls' := [some (.ref 56), some (.int l1), some (.int l2), some (.int l3), some (.int l4)]) (st' := [.int (l1 &&& (f_X11_bit l4 g))]) (g' := g) (by decide +kernel) rfl ?_
      refine xif_eq A (17) 39 25 (by decide +kernel) (fun h2 => ?_) (fun h2 => ?_)
      · rw [if_pos h2] at H
        refine xb A [(.iinc 4 1, 3, 0, 0, .null)] (pc' := 42) (ls' := [some (.ref 56), some (.int l1), some (.int l2), some (.int l3), some (.int (l4 + 1))]) (st' := []) (g' := g) (by decide +kernel) rfl ?_
        refine xgoto A (-37) 5 (by decide +kernel) ?_
        exact ih _ _ _ _ H
      · rw [if_neg h2] at H
        refine xb A [(.aload_n 0, 1, 0, 0, .null), (.getfield 19, 3, 56, 4, .ref 59), (.iload 4, 2, 0, 0, .null)] (pc' := 31) (ls' := [some (.ref 56), some (.int l1), some (.int l2), some (.int l3), some (.int l4)]) (st' := [.int l4, .ref 59]) (g' := g) (by decide +kernel) rfl ?_
        obtain ⟨h3, H⟩ := xg_elim H
        refine xiald A (nxt := 32) (by decide +kernel) (hS _ _ sh_59) h3 ?_
        show xW k S 0 0 32 [some (.ref 56), some (.int l1), some (.int l2), some (.int l3), some (.int l4)] [.int (g.1 59 l4.toNatClampNeg)] g
        refine xb A [(.iload_n 2, 1, 0, 0, .null)] (pc' := 33) (ls' := [some (.ref 56), some (.int l1), some (.int l2), some (.int l3), some (.int l4)]) (st' := [.int l2, .int (g.1 59 l4.toNatClampNeg)]) (g' := g) (by decide +kernel) rfl ?_
        refine xic_lt A (6) 39 36 (by decide +kernel) (fun h4 => ?_) (fun h4 => ?_)
        · rw [if_pos h4] at H
          refine xb A [(.iinc 4 1, 3, 0, 0, .null)] (pc' := 42) (ls' := [some (.ref 56), some (.int l1), some (.int l2), some (.int l3), some (.int (l4 + 1))]) (st' := []) (g' := g) (by decide +kernel) rfl ?_
          refine xgoto A (-37) 5 (by decide +kernel) ?_
          exact ih _ _ _ _ H
        · rw [if_neg h4] at H
          refine xb A [(.iinc 3 1, 3, 0, 0, .null), (.iinc 4 1, 3, 0, 0, .null)] (pc' := 42) (ls' := [some (.ref 56), some (.int l1), some (.int l2), some (.int (l3 + 1)), some (.int (l4 + 1))]) (st' := []) (g' := g) (by decide +kernel) rfl ?_
          refine xgoto A (-37) 5 (by decide +kernel) ?_
          exact ih _ _ _ _ H
set_option maxRecDepth 20000 in
theorem c_X0_homesStriking_56 {S : List xSh} (hS : xpf SH1 S) {g : xG} {p1 : Int32} {p2 : Int32} (out : Int32) (H : f_X0_homesStriking_56 p1 p2 g = some out) : xC mX0_homesStriking 1 20 0 0 S [.ref 56, .int p1, .int p2] g S (fun r g' => r = some (.int out) ∧ g' = g) := by
  have H : (f_X0_homesStriking_56_5 g xN p1 p2 0 0) = some out := H
  refine xC.of 0 SH1 [some (.ref 56), some (.int p1), some (.int p2), none, none] hS (by decide +kernel) rfl (fun _ _ => Nat.le_of_ble_eq_true rfl) (fun _ _ => rfl) ?_
  intro k A hR hrm hz
  refine xb A [(.iconst 0, 1, 0, 0, .int 0), (.istore_n 3, 1, 0, 0, .null), (.iconst 0, 1, 0, 0, .int 0), (.istore 4, 2, 0, 0, .null)] (pc' := 5) (ls' := [some (.ref 56), some (.int p1), some (.int p2), some (.int 0), some (.int 0)]) (st' := []) (g' := g) (by decide +kernel) rfl ?_
  exact t_X0_homesStriking_56_5 hS A hR hrm hz _ _ _ _ _ H
def f_X0_bestQuestion_56_14  (g : xG) : Nat → Int32 → Int32 → Int32 → Int32 → Int32 → Option (Int32)
  | 0, _, _, _, _, _ => none
  | n + 1, l1, l2, l3, l4, l5 =>
    if l4 ≤ 0 then
      some l2
    else
      if 999 < l5 then
        some l2
      else
        (f_X0_homesStriking_56 l1 l5 g).bind fun w1 =>
        if l2 < 0 then
          f_X0_bestQuestion_56_14 g n l1 l5 (f_J9_max_7cf53 w1 (l4 - w1) g) l4 (l5 + 1)
        else
          if l3 ≤ (f_J9_max_7cf53 w1 (l4 - w1) g) then
            f_X0_bestQuestion_56_14 g n l1 l2 l3 l4 (l5 + 1)
          else
            f_X0_bestQuestion_56_14 g n l1 l5 (f_J9_max_7cf53 w1 (l4 - w1) g) l4 (l5 + 1)
def f_X0_bestQuestion_56 (p1 : Int32) (g : xG) : Option (Int32) :=
  f_X0_bestQuestion_56_14 g xN p1 (-2) 0 (f_J6_bitCount_0f7a4 p1 g) 1
set_option maxRecDepth 20000 in
theorem t_X0_bestQuestion_56_14 {k : xK} {S : List xSh} {g : xG} {out : Int32} (hS : xpf SH1 S) (A : xAt k mX0_bestQuestion.2.1 0 SH1 S) (hR : xRet k 0 0 S (fun r g' => r = some (.int out) ∧ g' = g) mX0_bestQuestion.2.2.2) (hrm : xrm k = { frames := 2, cells := 0, slots := 0, locals := 44 }) (hz : xhs k = xb0 k + S.length)   : ∀ (n : Nat) (l1 : Int32) (l2 : Int32) (l3 : Int32) (l4 : Int32) (l5 : Int32), f_X0_bestQuestion_56_14 g n l1 l2 l3 l4 l5 = some out → xW k S 0 0 14 [some (.ref 56), some (.int l1), some (.int l2), some (.int l3), some (.int l4), some (.int l5), none, none] [] g := by
  intro n
  induction n with
  | zero => intro l1 l2 l3 l4 l5 H; exact absurd H (by simp [f_X0_bestQuestion_56_14])
  | succ n ih =>
    intro l1 l2 l3 l4 l5 H
    have H : (if l4 ≤ 0 then
  some l2
else
  if 999 < l5 then
    some l2
  else
    (f_X0_homesStriking_56 l1 l5 g).bind fun w1 =>
    if l2 < 0 then
      f_X0_bestQuestion_56_14 g n l1 l5 (f_J9_max_7cf53 w1 (l4 - w1) g) l4 (l5 + 1)
    else
      if l3 ≤ (f_J9_max_7cf53 w1 (l4 - w1) g) then
        f_X0_bestQuestion_56_14 g n l1 l2 l3 l4 (l5 + 1)
      else
        f_X0_bestQuestion_56_14 g n l1 l5 (f_J9_max_7cf53 w1 (l4 - w1) g) l4 (l5 + 1)) = some out := H
    refine xb A [(.iload 4, 2, 0, 0, .null)] (pc' := 16) (ls' := [some (.ref 56), some (.int l1), some (.int l2), some (.int l3), some (.int l4), some (.int l5), none, none]) (st' := [.int l4]) (g' := g) (by decide +kernel) rfl ?_
    refine xif_le A (54) 70 19 (by decide +kernel) (fun h1 => ?_) (fun h1 => ?_)
    · rw [if_pos h1] at H
      refine xb A [(.iload_n 2, 1, 0, 0, .null)] (pc' := 71) (ls' := [some (.ref 56), some (.int l1), some (.int l2), some (.int l3), some (.int l4), some (.int l5), none, none]) (st' := [.int l2]) (g' := g) (by decide +kernel) rfl ?_
      obtain rfl := Option.some.inj H
      exact xret_i A hR hz (by decide +kernel) rfl ⟨rfl, rfl⟩
    · rw [if_neg h1] at H
      refine xb A [(.iload 5, 2, 0, 0, .null), (.sipush 999, 3, 0, 0, .int 999)] (pc' := 24) (ls' := [some (.ref 56), some (.int l1), some (.int l2), some (.int l3), some (.int l4), some (.int l5), none, none]) (st' := [.int 999, .int l5]) (g' := g) (by decide +kernel) rfl ?_
      refine xic_gt A (46) 70 27 (by decide +kernel) (fun h2 => ?_) (fun h2 => ?_)
      · rw [if_pos h2] at H
        refine xb A [(.iload_n 2, 1, 0, 0, .null)] (pc' := 71) (ls' := [some (.ref 56), some (.int l1), some (.int l2), some (.int l3), some (.int l4), some (.int l5), none, none]) (st' := [.int l2]) (g' := g) (by decide +kernel) rfl ?_
        obtain rfl := Option.some.inj H
        exact xret_i A hR hz (by decide +kernel) rfl ⟨rfl, rfl⟩
      · rw [if_neg h2] at H
        refine xb A [(.aload_n 0, 1, 0, 0, .null), (.iload_n 1, 1, 0, 0, .null), (.iload 5, 2, 0, 0, .null)] (pc' := 31) (ls' := [some (.ref 56), some (.int l1), some (.int l2), some (.int l3), some (.int l4), some (.int l5), none, none]) (st' := [.int l5, .int l1, .ref 56]) (g' := g) (by decide +kernel) rfl ?_
        obtain ⟨w1, e1, H⟩ := xbind H
        refine xcallV A (ix := 69) (nxt := 34) hrm hz [.int l1, .int l5] [] 1319 (c_X0_homesStriking_56 hS _ e1) ok_X0_homesStriking (by decide +kernel) rfl (fun r g1 hq => ?_)
        rw [hq.1, hq.2]
        show xW k S 0 0 34 [some (.ref 56), some (.int l1), some (.int l2), some (.int l3), some (.int l4), some (.int l5), none, none] [.int w1] g
        refine xb A [(.istore 6, 2, 0, 0, .null), (.iload 6, 2, 0, 0, .null), (.iload 4, 2, 0, 0, .null), (.iload 6, 2, 0, 0, .null), (.isub, 1, 0, 0, .null)] (pc' := 43) (ls' := [some (.ref 56), some (.int l1), some (.int l2), some (.int l3), some (.int l4), some (.int l5), some (.int w1), none]) (st' := [.int (l4 - w1), .int w1]) (g' := g) (by decide +kernel) rfl ?_
        refine xcallS A (ix := 73) (nxt := 46) hrm hz [.int w1, .int (l4 - w1)] [] 1323 (c_J9_max_7cf53 hS _ rfl) ok_J9_max_7cf53 (by decide +kernel) rfl (fun r g1 hq => ?_)
        rw [hq.1, hq.2]
        show xW k S 0 0 46 [some (.ref 56), some (.int l1), some (.int l2), some (.int l3), some (.int l4), some (.int l5), some (.int w1), none] [.int (f_J9_max_7cf53 w1 (l4 - w1) g)] g
        refine xb A [(.istore 7, 2, 0, 0, .null), (.iload_n 2, 1, 0, 0, .null)] (pc' := 49) (ls' := [some (.ref 56), some (.int l1), some (.int l2), some (.int l3), some (.int l4), some (.int l5), some (.int w1), some (.int (f_J9_max_7cf53 w1 (l4 - w1) g))]) (st' := [.int l2]) (g' := g) (by decide +kernel) rfl ?_
        refine xif_lt A (9) 58 52 (by decide +kernel) (fun h3 => ?_) (fun h3 => ?_)
        · rw [if_pos h3] at H
          refine xb A [(.iload 5, 2, 0, 0, .null), (.istore_n 2, 1, 0, 0, .null), (.iload 7, 2, 0, 0, .null), (.istore_n 3, 1, 0, 0, .null), (.iinc 5 1, 3, 0, 0, .null)] (pc' := 67) (ls' := [some (.ref 56), some (.int l1), some (.int l5), some (.int (f_J9_max_7cf53 w1 (l4 - w1) g)), some (.int l4), some (.int (l5 + 1)), some (.int w1), some (.int (f_J9_max_7cf53 w1 (l4 - w1) g))]) (st' := []) (g' := g) (by decide +kernel) rfl ?_
          refine xgoto A (-53) 14 (by decide +kernel) ?_
          refine xweak (ls' := [some (.ref 56), some (.int l1), some (.int l5), some (.int (f_J9_max_7cf53 w1 (l4 - w1) g)), some (.int l4), some (.int (l5 + 1)), none, none]) (by exact ⟨rfl, ⟨rfl, ⟨rfl, ⟨rfl, ⟨rfl, ⟨rfl, trivial⟩⟩⟩⟩⟩⟩) ?_
          exact ih _ _ _ _ _ H
        · rw [if_neg h3] at H
          refine xb A [(.iload 7, 2, 0, 0, .null), (.iload_n 3, 1, 0, 0, .null)] (pc' := 55) (ls' := [some (.ref 56), some (.int l1), some (.int l2), some (.int l3), some (.int l4), some (.int l5), some (.int w1), some (.int (f_J9_max_7cf53 w1 (l4 - w1) g))]) (st' := [.int l3, .int (f_J9_max_7cf53 w1 (l4 - w1) g)]) (g' := g) (by decide +kernel) rfl ?_
          refine xic_ge A (9) 64 58 (by decide +kernel) (fun h4 => ?_) (fun h4 => ?_)
          · rw [if_pos h4] at H
            refine xb A [(.iinc 5 1, 3, 0, 0, .null)] (pc' := 67) (ls' := [some (.ref 56), some (.int l1), some (.int l2), some (.int l3), some (.int l4), some (.int (l5 + 1)), some (.int w1), some (.int (f_J9_max_7cf53 w1 (l4 - w1) g))]) (st' := []) (g' := g) (by decide +kernel) rfl ?_
            refine xgoto A (-53) 14 (by decide +kernel) ?_
            refine xweak (ls' := [some (.ref 56), some (.int l1), some (.int l2), some (.int l3), some (.int l4), some (.int (l5 + 1)), none, none]) (by exact ⟨rfl, ⟨rfl, ⟨rfl, ⟨rfl, ⟨rfl, ⟨rfl, trivial⟩⟩⟩⟩⟩⟩) ?_
            exact ih _ _ _ _ _ H
          · rw [if_neg h4] at H
            refine xb A [(.iload 5, 2, 0, 0, .null), (.istore_n 2, 1, 0, 0, .null), (.iload 7, 2, 0, 0, .null), (.istore_n 3, 1, 0, 0, .null), (.iinc 5 1, 3, 0, 0, .null)] (pc' := 67) (ls' := [some (.ref 56), some (.int l1), some (.int l5), some (.int (f_J9_max_7cf53 w1 (l4 - w1) g)), some (.int l4), some (.int (l5 + 1)), some (.int w1), some (.int (f_J9_max_7cf53 w1 (l4 - w1) g))]) (st' := []) (g' := g) (by decide +kernel) rfl ?_
            refine xgoto A (-53) 14 (by decide +kernel) ?_
            refine xweak (ls' := [some (.ref 56), some (.int l1), some (.int l5), some (.int (f_J9_max_7cf53 w1 (l4 - w1) g)), some (.int l4), some (.int (l5 + 1)), none, none]) (by exact ⟨rfl, ⟨rfl, ⟨rfl, ⟨rfl, ⟨rfl, ⟨rfl, trivial⟩⟩⟩⟩⟩⟩) ?_
            exact ih _ _ _ _ _ H
set_option maxRecDepth 20000 in
theorem c_X0_bestQuestion_56 {S : List xSh} (hS : xpf SH1 S) {g : xG} {p1 : Int32} (out : Int32) (H : f_X0_bestQuestion_56 p1 g = some out) : xC mX0_bestQuestion 2 44 0 0 S [.ref 56, .int p1] g S (fun r g' => r = some (.int out) ∧ g' = g) := by
  have H : (f_X0_bestQuestion_56_14 g xN p1 (-2) 0 (f_J6_bitCount_0f7a4 p1 g) 1) = some out := H
  refine xC.of 0 SH1 [some (.ref 56), some (.int p1), none, none, none, none, none, none] hS (by decide +kernel) rfl (fun _ _ => Nat.le_of_ble_eq_true rfl) (fun _ _ => rfl) ?_
  intro k A hR hrm hz
  refine xb A [(.bipush (-2), 2, 0, 0, .int (-2)), (.istore_n 2, 1, 0, 0, .null), (.iconst 0, 1, 0, 0, .int 0), (.istore_n 3, 1, 0, 0, .null), (.iload_n 1, 1, 0, 0, .null)] (pc' := 6) (ls' := [some (.ref 56), some (.int p1), some (.int (-2)), some (.int 0), none, none, none, none]) (st' := [.int p1]) (g' := g) (by decide +kernel) rfl ?_
  refine xcallS A (ix := 64) (nxt := 9) hrm hz [.int p1] [] 1318 (c_J6_bitCount_0f7a4 hS _ rfl) ok_J6_bitCount_0f7a4 (by decide +kernel) rfl (fun r g1 hq => ?_)
  rw [hq.1, hq.2]
  show xW k S 0 0 9 [some (.ref 56), some (.int p1), some (.int (-2)), some (.int 0), none, none, none, none] [.int (f_J6_bitCount_0f7a4 p1 g)] g
  refine xb A [(.istore 4, 2, 0, 0, .null), (.iconst 1, 1, 0, 0, .int 1), (.istore 5, 2, 0, 0, .null)] (pc' := 14) (ls' := [some (.ref 56), some (.int p1), some (.int (-2)), some (.int 0), some (.int (f_J6_bitCount_0f7a4 p1 g)), some (.int 1), none, none]) (st' := []) (g' := g) (by decide +kernel) rfl ?_
  exact t_X0_bestQuestion_56_14 hS A hR hrm hz _ _ _ _ _ _ H
