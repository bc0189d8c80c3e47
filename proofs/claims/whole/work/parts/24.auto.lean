/-! methods, walked by program -/
def f_X1_lawNow_44_48 (p2 : Int32) (p3 : Int32) (g : xG) : Option (Int32 × xG) :=
  (f_X1_lawFrom_44_48 p2 (f_X4_homeOf_3 p2 g) p3 g).bind fun w1 =>
  some (w1.1, w1.2)
set_option maxRecDepth 20000 in
theorem c_X1_lawNow_44_48 {S : List xSh} (hS : xpf SH1 S) {g : xG} {p2 : Int32} {p3 : Int32} (out : Int32 × xG) (H : f_X1_lawNow_44_48 p2 p3 g = some out) : xC mX1_lawNow 3 76 0 0 S [.ref 44, .ref 48, .int p2, .int p3] g S (fun r g' => r = some (.int out.1) ∧ g' = out.2) := by
  have H : ((f_X1_lawFrom_44_48 p2 (f_X4_homeOf_3 p2 g) p3 g).bind fun w1 =>
some (w1.1, w1.2)) = some out := H
  refine xC.of 1 SH1 [some (.ref 44), some (.ref 48), some (.int p2), some (.int p3)] hS (by decide +kernel) rfl (fun _ _ => Nat.le_of_ble_eq_true rfl) (fun _ _ => rfl) ?_
  intro k A hR hrm hz
  refine xb A [(.aload_n 0, 1, 0, 0, .null), (.aload_n 1, 1, 0, 0, .null), (.iload_n 2, 1, 0, 0, .null), (.aload_n 0, 1, 0, 0, .null), (.getfield 17, 3, 44, 0, .ref 3), (.iload_n 2, 1, 0, 0, .null)] (pc' := 8) (ls' := [some (.ref 44), some (.ref 48), some (.int p2), some (.int p3)]) (st' := [.int p2, .ref 3, .int p2, .ref 48, .ref 44]) (g' := g) (by decide +kernel) rfl ?_
  refine xcallV A (ix := 25) (nxt := 11) hrm hz [.int p2] [.int p2, .ref 48, .ref 44] 957 (c_X4_homeOf_3 hS _ rfl) ok_X4_homeOf (by decide +kernel) rfl (fun r g1 hq => ?_)
  rw [hq.1, hq.2]
  show xW k S 0 0 11 [some (.ref 44), some (.ref 48), some (.int p2), some (.int p3)] [.int (f_X4_homeOf_3 p2 g), .int p2, .ref 48, .ref 44] g
  refine xb A [(.iload_n 3, 1, 0, 0, .null)] (pc' := 12) (ls' := [some (.ref 44), some (.ref 48), some (.int p2), some (.int p3)]) (st' := [.int p3, .int (f_X4_homeOf_3 p2 g), .int p2, .ref 48, .ref 44]) (g' := g) (by decide +kernel) rfl ?_
  obtain ⟨w1, e1, H⟩ := xbind H
  refine xcallV A (ix := 41) (nxt := 15) hrm hz [.ref 48, .int p2, .int (f_X4_homeOf_3 p2 g), .int p3] [] 964 (c_X1_lawFrom_44_48 hS _ e1) ok_X1_lawFrom (by decide +kernel) rfl (fun r g1 hq => ?_)
  rw [hq.1, hq.2]
  show xW k S 0 0 15 [some (.ref 44), some (.ref 48), some (.int p2), some (.int p3)] [.int w1.1] w1.2
  obtain rfl := Option.some.inj H
  exact xret_i A hR hz (by decide +kernel) rfl ⟨rfl, rfl⟩
def f_X1_trueFarOf_44 (p1 : Int32) (g : xG) : Int32 :=
  f_X10_between_38 (f_X4_homeOf_3 p1 g) (f_X4_capital_3 g) g
set_option maxRecDepth 20000 in
theorem c_X1_trueFarOf_44 {S : List xSh} (hS : xpf SH1 S) {g : xG} {p1 : Int32} (out : Int32) (H : f_X1_trueFarOf_44 p1 g = out) : xC mX1_trueFarOf 2 43 0 0 S [.ref 44, .int p1] g S (fun r g' => r = some (.int out) ∧ g' = g) := by
  have H : (f_X10_between_38 (f_X4_homeOf_3 p1 g) (f_X4_capital_3 g) g) = out := H
  refine xC.of 1 SH1 [some (.ref 44), some (.int p1)] hS (by decide +kernel) rfl (fun _ _ => Nat.le_of_ble_eq_true rfl) (fun _ _ => rfl) ?_
  intro k A hR hrm hz
  refine xb A [(.aload_n 0, 1, 0, 0, .null), (.getfield 21, 3, 44, 1, .ref 38), (.aload_n 0, 1, 0, 0, .null), (.getfield 17, 3, 44, 0, .ref 3), (.iload_n 1, 1, 0, 0, .null)] (pc' := 9) (ls' := [some (.ref 44), some (.int p1)]) (st' := [.int p1, .ref 3, .ref 38]) (g' := g) (by decide +kernel) rfl ?_
  refine xcallV A (ix := 25) (nxt := 12) hrm hz [.int p1] [.ref 38] 957 (c_X4_homeOf_3 hS _ rfl) ok_X4_homeOf (by decide +kernel) rfl (fun r g1 hq => ?_)
  rw [hq.1, hq.2]
  show xW k S 0 0 12 [some (.ref 44), some (.int p1)] [.int (f_X4_homeOf_3 p1 g), .ref 38] g
  refine xb A [(.aload_n 0, 1, 0, 0, .null), (.getfield 17, 3, 44, 0, .ref 3)] (pc' := 16) (ls' := [some (.ref 44), some (.int p1)]) (st' := [.ref 3, .int (f_X4_homeOf_3 p1 g), .ref 38]) (g' := g) (by decide +kernel) rfl ?_
  refine xcallV A (ix := 31) (nxt := 19) hrm hz [] [.int (f_X4_homeOf_3 p1 g), .ref 38] 958 (c_X4_capital_3 hS _ rfl) ok_X4_capital (by decide +kernel) rfl (fun r g1 hq => ?_)
  rw [hq.1, hq.2]
  show xW k S 0 0 19 [some (.ref 44), some (.int p1)] [.int (f_X4_capital_3 g), .int (f_X4_homeOf_3 p1 g), .ref 38] g
  refine xcallV A (ix := 35) (nxt := 22) hrm hz [.int (f_X4_homeOf_3 p1 g), .int (f_X4_capital_3 g)] [] 959 (c_X10_between_38 hS _ rfl) ok_X10_between (by decide +kernel) rfl (fun r g1 hq => ?_)
  rw [hq.1, hq.2]
  show xW k S 0 0 22 [some (.ref 44), some (.int p1)] [.int (f_X10_between_38 (f_X4_homeOf_3 p1 g) (f_X4_capital_3 g) g)] g
  subst H
  exact xret_i A hR hz (by decide +kernel) rfl ⟨rfl, rfl⟩
def f_X6_isBarred_48 (p1 : Int32) (g : xG) : Int32 :=
  if ((f_X6_get_48 3 g) &&& (f_X11_bit p1 g)) = 0 then
    0
  else
    1
set_option maxRecDepth 20000 in
theorem c_X6_isBarred_48 {S : List xSh} (hS : xpf SH1 S) {g : xG} {p1 : Int32} (out : Int32) (H : f_X6_isBarred_48 p1 g = out) : xC mX6_isBarred 2 42 0 0 S [.ref 48, .int p1] g S (fun r g' => r = some (.int out) ∧ g' = g) := by
  have H : (if ((f_X6_get_48 3 g) &&& (f_X11_bit p1 g)) = 0 then
  0
else
  1) = out := H
  refine xC.of 6 SH1 [some (.ref 48), some (.int p1)] hS (by decide +kernel) rfl (fun _ _ => Nat.le_of_ble_eq_true rfl) (fun _ _ => rfl) ?_
  intro k A hR hrm hz
  refine xb A [(.aload_n 0, 1, 0, 0, .null), (.iconst 3, 1, 0, 0, .int 3)] (pc' := 2) (ls' := [some (.ref 48), some (.int p1)]) (st' := [.int 3, .ref 48]) (g' := g) (by decide +kernel) rfl ?_
  refine xcallV A (ix := 45) (nxt := 5) hrm hz [.int 3] [] 952 (c_X6_get_48 hS _ rfl) ok_X6_get (by decide +kernel) rfl (fun r g1 hq => ?_)
  rw [hq.1, hq.2]
  show xW k S 0 0 5 [some (.ref 48), some (.int p1)] [.int (f_X6_get_48 3 g)] g
  refine xb A [(.iload_n 1, 1, 0, 0, .null)] (pc' := 6) (ls' := [some (.ref 48), some (.int p1)]) (st' := [.int p1, .int (f_X6_get_48 3 g)]) (g' := g) (by decide +kernel) rfl ?_
  refine xcallSN A (ix := 48) (nxt := 9) (host := "NoonRinger") hrm hz [.int p1] [.int (f_X6_get_48 3 g)] 24 (c_X11_bit hS _ rfl) ok_X11_bit (by decide +kernel) rfl (fun r g1 hq => ?_)
  rw [hq.1, hq.2]
  show xW k S 0 0 9 [some (.ref 48), some (.int p1)] [.int (f_X11_bit p1 g), .int (f_X6_get_48 3 g)] g
  refine xb A [(.iand, 1, 0, 0, .null)] (pc' := 10) (ls' := [some (.ref 48), some (.int p1)]) (st' := [.int ((f_X6_get_48 3 g) &&& (f_X11_bit p1 g))]) (g' := g) (by decide +kernel) rfl ?_
  refine xif_eq A (7) 17 13 (by decide +kernel) (fun h1 => ?_) (fun h1 => ?_)
  · rw [if_pos h1] at H
    refine xb A [(.iconst 0, 1, 0, 0, .int 0)] (pc' := 18) (ls' := [some (.ref 48), some (.int p1)]) (st' := [.int 0]) (g' := g) (by decide +kernel) rfl ?_
    subst H
    exact xret_i A hR hz (by decide +kernel) rfl ⟨rfl, rfl⟩
  · rw [if_neg h1] at H
    refine xb A [(.iconst 1, 1, 0, 0, .int 1)] (pc' := 14) (ls' := [some (.ref 48), some (.int p1)]) (st' := [.int 1]) (g' := g) (by decide +kernel) rfl ?_
    refine xgoto A (4) 18 (by decide +kernel) ?_
    subst H
    exact xret_i A hR hz (by decide +kernel) rfl ⟨rfl, rfl⟩
def f_X11_person_0 (p1 : Int32) (p2 : Int32) (g : xG) : Option (Int32 × xG) :=
  if (f_X4_isPerson_3 p1 g) = 0 then
    some ((-1), g)
  else
    if p2 = 0 then
      some (f_X4_honestyOf_3 p1 g, g)
    else
      if p2 = 1 then
        some (f_X4_homeOf_3 p1 g, g)
      else
        if p2 = 2 then
          some (f_X6_of_48 p1 5 g, g)
        else
          if p2 = 3 then
            some (f_X6_of_48 p1 11 g, g)
          else
            if p2 = 4 then
              some (f_X6_of_48 p1 17 g, g)
            else
              if p2 = 5 then
                some (f_X6_of_48 p1 23 g, g)
              else
                if p2 = 6 then
                  some (f_X6_of_48 p1 29 g, g)
                else
                  if p2 = 7 then
                    if (f_X6_isBarred_48 p1 g) = 0 then
                      some (0, g)
                    else
                      some (1, g)
                  else
                    if p2 = 8 then
                      some (f_X1_trueFarOf_44 p1 g, g)
                    else
                      if p2 = 9 then
                        (f_X1_lawNow_44_48 p1 0 g).bind fun w1 =>
                        some (w1.1, w1.2)
                      else
                        if p2 = 10 then
                          (f_X1_lawNow_44_48 p1 1 g).bind fun w2 =>
                          some (w2.1, w2.2)
                        else
                          if p2 = 11 then
                            (f_X1_lawNow_44_48 p1 2 g).bind fun w3 =>
                            some (w3.1, w3.2)
                          else
                            if p2 = 12 then
                              (f_X1_lawNow_44_48 p1 3 g).bind fun w4 =>
                              some (w4.1, w4.2)
                            else
                              some ((-1), g)
set_option maxRecDepth 20000 in
theorem c_X11_person_0 {S : List xSh} (hS : xpf SH1 S) {g : xG} {p1 : Int32} {p2 : Int32} (out : Int32 × xG) (H : f_X11_person_0 p1 p2 g = some out) : xC mX11_person 4 99 0 0 S [.ref 0, .int p1, .int p2] g S (fun r g' => r = some (.int out.1) ∧ g' = out.2) := by
  have H : (if (f_X4_isPerson_3 p1 g) = 0 then
  some ((-1), g)
else
  if p2 = 0 then
    some (f_X4_honestyOf_3 p1 g, g)
  else
    if p2 = 1 then
      some (f_X4_homeOf_3 p1 g, g)
    else
      if p2 = 2 then
        some (f_X6_of_48 p1 5 g, g)
      else
        if p2 = 3 then
          some (f_X6_of_48 p1 11 g, g)
        else
          if p2 = 4 then
            some (f_X6_of_48 p1 17 g, g)
          else
            if p2 = 5 then
              some (f_X6_of_48 p1 23 g, g)
            else
              if p2 = 6 then
                some (f_X6_of_48 p1 29 g, g)
              else
                if p2 = 7 then
                  if (f_X6_isBarred_48 p1 g) = 0 then
                    some (0, g)
                  else
                    some (1, g)
                else
                  if p2 = 8 then
                    some (f_X1_trueFarOf_44 p1 g, g)
                  else
                    if p2 = 9 then
                      (f_X1_lawNow_44_48 p1 0 g).bind fun w1 =>
                      some (w1.1, w1.2)
                    else
                      if p2 = 10 then
                        (f_X1_lawNow_44_48 p1 1 g).bind fun w2 =>
                        some (w2.1, w2.2)
                      else
                        if p2 = 11 then
                          (f_X1_lawNow_44_48 p1 2 g).bind fun w3 =>
                          some (w3.1, w3.2)
                        else
                          if p2 = 12 then
                            (f_X1_lawNow_44_48 p1 3 g).bind fun w4 =>
                            some (w4.1, w4.2)
                          else
                            some ((-1), g)) = some out := H
  refine xC.of 11 SH1 [some (.ref 0), some (.int p1), some (.int p2)] hS (by decide +kernel) rfl (fun _ _ => Nat.le_of_ble_eq_true rfl) (fun _ _ => rfl) ?_
  intro k A hR hrm hz
  refine xb A [(.aload_n 0, 1, 0, 0, .null), (.getfield 19, 3, 0, 1, .ref 3), (.iload_n 1, 1, 0, 0, .null)] (pc' := 5) (ls' := [some (.ref 0), some (.int p1), some (.int p2)]) (st' := [.int p1, .ref 3]) (g' := g) (by decide +kernel) rfl ?_
  refine xcallV A (ix := 183) (nxt := 8) hrm hz [.int p1] [] 932 (c_X4_isPerson_3 hS _ rfl) ok_X4_isPerson (by decide +kernel) rfl (fun r g1 hq => ?_)
  rw [hq.1, hq.2]
  show xW k S 0 0 8 [some (.ref 0), some (.int p1), some (.int p2)] [.int (f_X4_isPerson_3 p1 g)] g
  refine xif_ne A (5) 13 11 (by decide +kernel) (fun h1 => ?_) (fun h1 => ?_)
  · rw [if_neg h1] at H
    refine xb A [(.iload_n 2, 1, 0, 0, .null)] (pc' := 14) (ls' := [some (.ref 0), some (.int p1), some (.int p2)]) (st' := [.int p2]) (g' := g) (by decide +kernel) rfl ?_
    by_cases h2 : p2 = 0
    · rw [if_pos h2] at H
      refine xtabIn A (dflt := 220) (lo := 0) (hi := 12) (off := 66) (offs := #[(66), (75), (84), (94), (105), (116), (127), (138), (155), (164), (178), (192), (206)]) (len := 66) (tgt := 80) (0) (by rw [h2]; rfl) (by decide +kernel) ?_
      refine xb A [(.aload_n 0, 1, 0, 0, .null), (.getfield 19, 3, 0, 1, .ref 3), (.iload_n 1, 1, 0, 0, .null)] (pc' := 85) (ls' := [some (.ref 0), some (.int p1), some (.int p2)]) (st' := [.int p1, .ref 3]) (g' := g) (by decide +kernel) rfl ?_
      refine xcallV A (ix := 186) (nxt := 88) hrm hz [.int p1] [] 936 (c_X4_honestyOf_3 hS _ rfl) ok_X4_honestyOf (by decide +kernel) rfl (fun r g1 hq => ?_)
      rw [hq.1, hq.2]
      show xW k S 0 0 88 [some (.ref 0), some (.int p1), some (.int p2)] [.int (f_X4_honestyOf_3 p1 g)] g
      obtain rfl := Option.some.inj H
      exact xret_i A hR hz (by decide +kernel) rfl ⟨rfl, rfl⟩
    · rw [if_neg h2] at H
      by_cases h3 : p2 = 1
      · rw [if_pos h3] at H
        refine xtabIn A (dflt := 220) (lo := 0) (hi := 12) (off := 75) (offs := #[(66), (75), (84), (94), (105), (116), (127), (138), (155), (164), (178), (192), (206)]) (len := 66) (tgt := 89) (1) (by rw [h3]; rfl) (by decide +kernel) ?_
        refine xb A [(.aload_n 0, 1, 0, 0, .null), (.getfield 19, 3, 0, 1, .ref 3), (.iload_n 1, 1, 0, 0, .null)] (pc' := 94) (ls' := [some (.ref 0), some (.int p1), some (.int p2)]) (st' := [.int p1, .ref 3]) (g' := g) (by decide +kernel) rfl ?_
        refine xcallV A (ix := 189) (nxt := 97) hrm hz [.int p1] [] 940 (c_X4_homeOf_3 hS _ rfl) ok_X4_homeOf (by decide +kernel) rfl (fun r g1 hq => ?_)
        rw [hq.1, hq.2]
        show xW k S 0 0 97 [some (.ref 0), some (.int p1), some (.int p2)] [.int (f_X4_homeOf_3 p1 g)] g
        obtain rfl := Option.some.inj H
        exact xret_i A hR hz (by decide +kernel) rfl ⟨rfl, rfl⟩
      · rw [if_neg h3] at H
        by_cases h4 : p2 = 2
        · rw [if_pos h4] at H
          refine xtabIn A (dflt := 220) (lo := 0) (hi := 12) (off := 84) (offs := #[(66), (75), (84), (94), (105), (116), (127), (138), (155), (164), (178), (192), (206)]) (len := 66) (tgt := 98) (2) (by rw [h4]; rfl) (by decide +kernel) ?_
          refine xb A [(.aload_n 0, 1, 0, 0, .null), (.getfield 66, 3, 0, 8, .ref 48), (.iload_n 1, 1, 0, 0, .null), (.iconst 5, 1, 0, 0, .int 5)] (pc' := 104) (ls' := [some (.ref 0), some (.int p1), some (.int p2)]) (st' := [.int 5, .int p1, .ref 48]) (g' := g) (by decide +kernel) rfl ?_
          refine xcallV A (ix := 192) (nxt := 107) hrm hz [.int p1, .int 5] [] 944 (c_X6_of_48 hS _ rfl) ok_X6_of (by decide +kernel) rfl (fun r g1 hq => ?_)
          rw [hq.1, hq.2]
          show xW k S 0 0 107 [some (.ref 0), some (.int p1), some (.int p2)] [.int (f_X6_of_48 p1 5 g)] g
          obtain rfl := Option.some.inj H
          exact xret_i A hR hz (by decide +kernel) rfl ⟨rfl, rfl⟩
        · rw [if_neg h4] at H
          by_cases h5 : p2 = 3
          · rw [if_pos h5] at H
            refine xtabIn A (dflt := 220) (lo := 0) (hi := 12) (off := 94) (offs := #[(66), (75), (84), (94), (105), (116), (127), (138), (155), (164), (178), (192), (206)]) (len := 66) (tgt := 108) (3) (by rw [h5]; rfl) (by decide +kernel) ?_
            refine xb A [(.aload_n 0, 1, 0, 0, .null), (.getfield 66, 3, 0, 8, .ref 48), (.iload_n 1, 1, 0, 0, .null), (.bipush 11, 2, 0, 0, .int 11)] (pc' := 115) (ls' := [some (.ref 0), some (.int p1), some (.int p2)]) (st' := [.int 11, .int p1, .ref 48]) (g' := g) (by decide +kernel) rfl ?_
            refine xcallV A (ix := 192) (nxt := 118) hrm hz [.int p1, .int 11] [] 944 (c_X6_of_48 hS _ rfl) ok_X6_of (by decide +kernel) rfl (fun r g1 hq => ?_)
            rw [hq.1, hq.2]
            show xW k S 0 0 118 [some (.ref 0), some (.int p1), some (.int p2)] [.int (f_X6_of_48 p1 11 g)] g
            obtain rfl := Option.some.inj H
            exact xret_i A hR hz (by decide +kernel) rfl ⟨rfl, rfl⟩
          · rw [if_neg h5] at H
            by_cases h6 : p2 = 4
            · rw [if_pos h6] at H
              refine xtabIn A (dflt := 220) (lo := 0) (hi := 12) (off := 105) (offs := #[(66), (75), (84), (94), (105), (116), (127), (138), (155), (164), (178), (192), (206)]) (len := 66) (tgt := 119) (4) (by rw [h6]; rfl) (by decide +kernel) ?_
              refine xb A [(.aload_n 0, 1, 0, 0, .null), (.getfield 66, 3, 0, 8, .ref 48), (.iload_n 1, 1, 0, 0, .null), (.bipush 17, 2, 0, 0, .int 17)] (pc' := 126) (ls' := [some (.ref 0), some (.int p1), some (.int p2)]) (st' := [.int 17, .int p1, .ref 48]) (g' := g) (by decide +kernel) rfl ?_
              refine xcallV A (ix := 192) (nxt := 129) hrm hz [.int p1, .int 17] [] 944 (c_X6_of_48 hS _ rfl) ok_X6_of (by decide +kernel) rfl (fun r g1 hq => ?_)
              rw [hq.1, hq.2]
              show xW k S 0 0 129 [some (.ref 0), some (.int p1), some (.int p2)] [.int (f_X6_of_48 p1 17 g)] g
              obtain rfl := Option.some.inj H
              exact xret_i A hR hz (by decide +kernel) rfl ⟨rfl, rfl⟩
            · rw [if_neg h6] at H
              by_cases h7 : p2 = 5
              · rw [if_pos h7] at H
                refine xtabIn A (dflt := 220) (lo := 0) (hi := 12) (off := 116) (offs := #[(66), (75), (84), (94), (105), (116), (127), (138), (155), (164), (178), (192), (206)]) (len := 66) (tgt := 130) (5) (by rw [h7]; rfl) (by decide +kernel) ?_
                refine xb A [(.aload_n 0, 1, 0, 0, .null), (.getfield 66, 3, 0, 8, .ref 48), (.iload_n 1, 1, 0, 0, .null), (.bipush 23, 2, 0, 0, .int 23)] (pc' := 137) (ls' := [some (.ref 0), some (.int p1), some (.int p2)]) (st' := [.int 23, .int p1, .ref 48]) (g' := g) (by decide +kernel) rfl ?_
                refine xcallV A (ix := 192) (nxt := 140) hrm hz [.int p1, .int 23] [] 944 (c_X6_of_48 hS _ rfl) ok_X6_of (by decide +kernel) rfl (fun r g1 hq => ?_)
                rw [hq.1, hq.2]
                show xW k S 0 0 140 [some (.ref 0), some (.int p1), some (.int p2)] [.int (f_X6_of_48 p1 23 g)] g
                obtain rfl := Option.some.inj H
                exact xret_i A hR hz (by decide +kernel) rfl ⟨rfl, rfl⟩
              · rw [if_neg h7] at H
                by_cases h8 : p2 = 6
                · rw [if_pos h8] at H
                  refine xtabIn A (dflt := 220) (lo := 0) (hi := 12) (off := 127) (offs := #[(66), (75), (84), (94), (105), (116), (127), (138), (155), (164), (178), (192), (206)]) (len := 66) (tgt := 141) (6) (by rw [h8]; rfl) (by decide +kernel) ?_
                  refine xb A [(.aload_n 0, 1, 0, 0, .null), (.getfield 66, 3, 0, 8, .ref 48), (.iload_n 1, 1, 0, 0, .null), (.bipush 29, 2, 0, 0, .int 29)] (pc' := 148) (ls' := [some (.ref 0), some (.int p1), some (.int p2)]) (st' := [.int 29, .int p1, .ref 48]) (g' := g) (by decide +kernel) rfl ?_
                  refine xcallV A (ix := 192) (nxt := 151) hrm hz [.int p1, .int 29] [] 944 (c_X6_of_48 hS _ rfl) ok_X6_of (by decide +kernel) rfl (fun r g1 hq => ?_)
                  rw [hq.1, hq.2]
                  show xW k S 0 0 151 [some (.ref 0), some (.int p1), some (.int p2)] [.int (f_X6_of_48 p1 29 g)] g
                  obtain rfl := Option.some.inj H
                  exact xret_i A hR hz (by decide +kernel) rfl ⟨rfl, rfl⟩
                · rw [if_neg h8] at H
                  by_cases h9 : p2 = 7
                  · rw [if_pos h9] at H
                    refine xtabIn A (dflt := 220) (lo := 0) (hi := 12) (off := 138) (offs := #[(66), (75), (84), (94), (105), (116), (127), (138), (155), (164), (178), (192), (206)]) (len := 66) (tgt := 152) (7) (by rw [h9]; rfl) (by decide +kernel) ?_
                    refine xb A [(.aload_n 0, 1, 0, 0, .null), (.getfield 66, 3, 0, 8, .ref 48), (.iload_n 1, 1, 0, 0, .null)] (pc' := 157) (ls' := [some (.ref 0), some (.int p1), some (.int p2)]) (st' := [.int p1, .ref 48]) (g' := g) (by decide +kernel) rfl ?_
                    refine xcallV A (ix := 195) (nxt := 160) hrm hz [.int p1] [] 948 (c_X6_isBarred_48 hS _ rfl) ok_X6_isBarred (by decide +kernel) rfl (fun r g1 hq => ?_)
                    rw [hq.1, hq.2]
                    show xW k S 0 0 160 [some (.ref 0), some (.int p1), some (.int p2)] [.int (f_X6_isBarred_48 p1 g)] g
                    refine xif_eq A (7) 167 163 (by decide +kernel) (fun h10 => ?_) (fun h10 => ?_)
                    · rw [if_pos h10] at H
                      refine xb A [(.iconst 0, 1, 0, 0, .int 0)] (pc' := 168) (ls' := [some (.ref 0), some (.int p1), some (.int p2)]) (st' := [.int 0]) (g' := g) (by decide +kernel) rfl ?_
                      obtain rfl := Option.some.inj H
                      exact xret_i A hR hz (by decide +kernel) rfl ⟨rfl, rfl⟩
                    · rw [if_neg h10] at H
                      refine xb A [(.iconst 1, 1, 0, 0, .int 1)] (pc' := 164) (ls' := [some (.ref 0), some (.int p1), some (.int p2)]) (st' := [.int 1]) (g' := g) (by decide +kernel) rfl ?_
                      refine xgoto A (4) 168 (by decide +kernel) ?_
                      obtain rfl := Option.some.inj H
                      exact xret_i A hR hz (by decide +kernel) rfl ⟨rfl, rfl⟩
                  · rw [if_neg h9] at H
                    by_cases h11 : p2 = 8
                    · rw [if_pos h11] at H
                      refine xtabIn A (dflt := 220) (lo := 0) (hi := 12) (off := 155) (offs := #[(66), (75), (84), (94), (105), (116), (127), (138), (155), (164), (178), (192), (206)]) (len := 66) (tgt := 169) (8) (by rw [h11]; rfl) (by decide +kernel) ?_
                      refine xb A [(.aload_n 0, 1, 0, 0, .null), (.getfield 56, 3, 0, 6, .ref 44), (.iload_n 1, 1, 0, 0, .null)] (pc' := 174) (ls' := [some (.ref 0), some (.int p1), some (.int p2)]) (st' := [.int p1, .ref 44]) (g' := g) (by decide +kernel) rfl ?_
                      refine xcallV A (ix := 198) (nxt := 177) hrm hz [.int p1] [] 953 (c_X1_trueFarOf_44 hS _ rfl) ok_X1_trueFarOf (by decide +kernel) rfl (fun r g1 hq => ?_)
                      rw [hq.1, hq.2]
                      show xW k S 0 0 177 [some (.ref 0), some (.int p1), some (.int p2)] [.int (f_X1_trueFarOf_44 p1 g)] g
                      obtain rfl := Option.some.inj H
                      exact xret_i A hR hz (by decide +kernel) rfl ⟨rfl, rfl⟩
                    · rw [if_neg h11] at H
                      by_cases h12 : p2 = 9
                      · rw [if_pos h12] at H
                        refine xtabIn A (dflt := 220) (lo := 0) (hi := 12) (off := 164) (offs := #[(66), (75), (84), (94), (105), (116), (127), (138), (155), (164), (178), (192), (206)]) (len := 66) (tgt := 178) (9) (by rw [h12]; rfl) (by decide +kernel) ?_
                        refine xb A [(.aload_n 0, 1, 0, 0, .null), (.getfield 56, 3, 0, 6, .ref 44), (.aload_n 0, 1, 0, 0, .null), (.getfield 66, 3, 0, 8, .ref 48), (.iload_n 1, 1, 0, 0, .null), (.iconst 0, 1, 0, 0, .int 0)] (pc' := 188) (ls' := [some (.ref 0), some (.int p1), some (.int p2)]) (st' := [.int 0, .int p1, .ref 48, .ref 44]) (g' := g) (by decide +kernel) rfl ?_
                        obtain ⟨w1, e1, H⟩ := xbind H
                        refine xcallV A (ix := 203) (nxt := 191) hrm hz [.ref 48, .int p1, .int 0] [] 960 (c_X1_lawNow_44_48 hS _ e1) ok_X1_lawNow (by decide +kernel) rfl (fun r g1 hq => ?_)
                        rw [hq.1, hq.2]
                        show xW k S 0 0 191 [some (.ref 0), some (.int p1), some (.int p2)] [.int w1.1] w1.2
                        obtain rfl := Option.some.inj H
                        exact xret_i A hR hz (by decide +kernel) rfl ⟨rfl, rfl⟩
                      · rw [if_neg h12] at H
                        by_cases h13 : p2 = 10
                        · rw [if_pos h13] at H
                          refine xtabIn A (dflt := 220) (lo := 0) (hi := 12) (off := 178) (offs := #[(66), (75), (84), (94), (105), (116), (127), (138), (155), (164), (178), (192), (206)]) (len := 66) (tgt := 192) (10) (by rw [h13]; rfl) (by decide +kernel) ?_
                          refine xb A [(.aload_n 0, 1, 0, 0, .null), (.getfield 56, 3, 0, 6, .ref 44), (.aload_n 0, 1, 0, 0, .null), (.getfield 66, 3, 0, 8, .ref 48), (.iload_n 1, 1, 0, 0, .null), (.iconst 1, 1, 0, 0, .int 1)] (pc' := 202) (ls' := [some (.ref 0), some (.int p1), some (.int p2)]) (st' := [.int 1, .int p1, .ref 48, .ref 44]) (g' := g) (by decide +kernel) rfl ?_
                          obtain ⟨w2, e2, H⟩ := xbind H
                          refine xcallV A (ix := 203) (nxt := 205) hrm hz [.ref 48, .int p1, .int 1] [] 960 (c_X1_lawNow_44_48 hS _ e2) ok_X1_lawNow (by decide +kernel) rfl (fun r g1 hq => ?_)
                          rw [hq.1, hq.2]
                          show xW k S 0 0 205 [some (.ref 0), some (.int p1), some (.int p2)] [.int w2.1] w2.2
                          obtain rfl := Option.some.inj H
                          exact xret_i A hR hz (by decide +kernel) rfl ⟨rfl, rfl⟩
                        · rw [if_neg h13] at H
                          by_cases h14 : p2 = 11
                          · rw [if_pos h14] at H
                            refine xtabIn A (dflt := 220) (lo := 0) (hi := 12) (off := 192) (offs := #[(66), (75), (84), (94), (105), (116), (127), (138), (155), (164), (178), (192), (206)]) (len := 66) (tgt := 206) (11) (by rw [h14]; rfl) (by decide +kernel) ?_
                            refine xb A [(.aload_n 0, 1, 0, 0, .null), (.getfield 56, 3, 0, 6, .ref 44), (.aload_n 0, 1, 0, 0, .null), (.getfield 66, 3, 0, 8, .ref 48), (.iload_n 1, 1, 0, 0, .null), (.iconst 2, 1, 0, 0, .int 2)] (pc' := 216) (ls' := [some (.ref 0), some (.int p1), some (.int p2)]) (st' := [.int 2, .int p1, .ref 48, .ref 44]) (g' := g) (by decide +kernel) rfl ?_
                            obtain ⟨w3, e3, H⟩ := xbind H
                            refine xcallV A (ix := 203) (nxt := 219) hrm hz [.ref 48, .int p1, .int 2] [] 960 (c_X1_lawNow_44_48 hS _ e3) ok_X1_lawNow (by decide +kernel) rfl (fun r g1 hq => ?_)
                            rw [hq.1, hq.2]
                            show xW k S 0 0 219 [some (.ref 0), some (.int p1), some (.int p2)] [.int w3.1] w3.2
                            obtain rfl := Option.some.inj H
                            exact xret_i A hR hz (by decide +kernel) rfl ⟨rfl, rfl⟩
                          · rw [if_neg h14] at H
                            by_cases h15 : p2 = 12
                            · rw [if_pos h15] at H
                              refine xtabIn A (dflt := 220) (lo := 0) (hi := 12) (off := 206) (offs := #[(66), (75), (84), (94), (105), (116), (127), (138), (155), (164), (178), (192), (206)]) (len := 66) (tgt := 220) (12) (by rw [h15]; rfl) (by decide +kernel) ?_
                              refine xb A [(.aload_n 0, 1, 0, 0, .null), (.getfield 56, 3, 0, 6, .ref 44), (.aload_n 0, 1, 0, 0, .null), (.getfield 66, 3, 0, 8, .ref 48), (.iload_n 1, 1, 0, 0, .null), (.iconst 3, 1, 0, 0, .int 3)] (pc' := 230) (ls' := [some (.ref 0), some (.int p1), some (.int p2)]) (st' := [.int 3, .int p1, .ref 48, .ref 44]) (g' := g) (by decide +kernel) rfl ?_
                              obtain ⟨w4, e4, H⟩ := xbind H
                              refine xcallV A (ix := 203) (nxt := 233) hrm hz [.ref 48, .int p1, .int 3] [] 960 (c_X1_lawNow_44_48 hS _ e4) ok_X1_lawNow (by decide +kernel) rfl (fun r g1 hq => ?_)
                              rw [hq.1, hq.2]
                              show xW k S 0 0 233 [some (.ref 0), some (.int p1), some (.int p2)] [.int w4.1] w4.2
                              obtain rfl := Option.some.inj H
                              exact xret_i A hR hz (by decide +kernel) rfl ⟨rfl, rfl⟩
                            · rw [if_neg h15] at H
                              refine xtabOut A (dflt := 220) (lo := 0) (hi := 12) (offs := #[(66), (75), (84), (94), (105), (116), (127), (138), (155), (164), (178), (192), (206)]) (len := 66) (tgt := 234) (by decide +kernel) ?_ ?_
                              · have e0 := lv_neT (a := 0) h2 rfl; have e1 := lv_neT (a := 1) h3 rfl; have e2 := lv_neT (a := 2) h4 rfl; have e3 := lv_neT (a := 3) h5 rfl; have e4 := lv_neT (a := 4) h6 rfl; have e5 := lv_neT (a := 5) h7 rfl; have e6 := lv_neT (a := 6) h8 rfl; have e7 := lv_neT (a := 7) h9 rfl; have e8 := lv_neT (a := 8) h11 rfl; have e9 := lv_neT (a := 9) h12 rfl; have e10 := lv_neT (a := 10) h13 rfl; have e11 := lv_neT (a := 11) h14 rfl; have e12 := lv_neT (a := 12) h15 rfl; omega
                              · skip
                                refine xb A [(.iconst (-1), 1, 0, 0, .int (-1))] (pc' := 235) (ls' := [some (.ref 0), some (.int p1), some (.int p2)]) (st' := [.int (-1)]) (g' := g) (by decide +kernel) rfl ?_
                                obtain rfl := Option.some.inj H
                                exact xret_i A hR hz (by decide +kernel) rfl ⟨rfl, rfl⟩
  · rw [if_pos h1] at H
    refine xb A [(.iconst (-1), 1, 0, 0, .int (-1))] (pc' := 12) (ls' := [some (.ref 0), some (.int p1), some (.int p2)]) (st' := [.int (-1)]) (g' := g) (by decide +kernel) rfl ?_
    obtain rfl := Option.some.inj H
    exact xret_i A hR hz (by decide +kernel) rfl ⟨rfl, rfl⟩
def f_X5_keep_52_48_2  : Nat → Int32 → Int32 → xG → Option (xG)
  | 0, _, _, _ => none
  | n + 1, l1, l3, g =>
    if 35 ≤ l3 then
      some g
    else
      xl (xput g 53 1400 ((l1 * 35) + l3) (f_X6_get_48 l3 g)) fun w1 =>
      f_X5_keep_52_48_2 n l1 (l3 + 1) w1
def f_X5_keep_52_48 (p1 : Int32) (g : xG) : Option (xG) :=
  f_X5_keep_52_48_2 xN p1 0 g
set_option maxRecDepth 20000 in
theorem t_X5_keep_52_48_2 {k : xK} {S : List xSh} {out : xG} (hS : xpf SH1 S) (A : xAt k mX5_keep.2.1 5 SH1 S) (hR : xRet k 0 0 S (fun r g' => r = none ∧ g' = out) mX5_keep.2.2.2) (hrm : xrm k = { frames := 2, cells := 0, slots := 0, locals := 42 }) (hz : xhs k = xb0 k + S.length)   : ∀ (n : Nat) (l1 : Int32) (l3 : Int32) (g : xG), f_X5_keep_52_48_2 n l1 l3 g = some out → xW k S 0 0 2 [some (.ref 52), some (.int l1), some (.ref 48), some (.int l3)] [] g := by
  intro n
  induction n with
  | zero => intro l1 l3 g H; exact absurd H (by simp [f_X5_keep_52_48_2])
  | succ n ih =>
    intro l1 l3 g H
    have H : (if 35 ≤ l3 then
  some g
else
  xl (xput g 53 1400 ((l1 * 35) + l3) (f_X6_get_48 l3 g)) fun w1 =>
  f_X5_keep_52_48_2 n l1 (l3 + 1) w1) = some out := H
    refine xb A [(.iload_n 3, 1, 0, 0, .null), (.bipush 35, 2, 0, 0, .int 35)] (pc' := 5) (ls' := [some (.ref 52), some (.int l1), some (.ref 48), some (.int l3)]) (st' := [.int 35, .int l3]) (g' := g) (by decide +kernel) rfl ?_
    refine xic_ge A (27) 32 8 (by decide +kernel) (fun h1 => ?_) (fun h1 => ?_)
    · rw [if_pos h1] at H
      obtain rfl := Option.some.inj H
      exact xret_v A hR hz (by decide +kernel) ⟨rfl, rfl⟩
    · rw [if_neg h1] at H
      refine xb A [(.aload_n 0, 1, 0, 0, .null), (.getfield 15, 3, 52, 0, .ref 53), (.iload_n 1, 1, 0, 0, .null), (.bipush 35, 2, 0, 0, .int 35), (.imul, 1, 0, 0, .null), (.iload_n 3, 1, 0, 0, .null), (.iadd, 1, 0, 0, .null), (.aload_n 2, 1, 0, 0, .null), (.iload_n 3, 1, 0, 0, .null)] (pc' := 20) (ls' := [some (.ref 52), some (.int l1), some (.ref 48), some (.int l3)]) (st' := [.int l3, .ref 48, .int ((l1 * 35) + l3), .ref 53]) (g' := g) (by decide +kernel) rfl ?_
      refine xcallV A (ix := 21) (nxt := 23) hrm hz [.int l3] [.int ((l1 * 35) + l3), .ref 53] 1009 (c_X6_get_48 hS _ rfl) ok_X6_get (by decide +kernel) rfl (fun r g1 hq => ?_)
      rw [hq.1, hq.2]
      show xW k S 0 0 23 [some (.ref 52), some (.int l1), some (.ref 48), some (.int l3)] [.int (f_X6_get_48 l3 g), .int ((l1 * 35) + l3), .ref 53] g
      obtain ⟨w1, e1, H⟩ := xl_elim H
      refine xcallSN A (ix := 25) (nxt := 26) (host := "NoonRinger") hrm hz [.ref 53, .int ((l1 * 35) + l3), .int (f_X6_get_48 l3 g)] [] 27 (c_X11_put (hS _ _ sh_53) (by decide)) ok_X11_put (by decide +kernel) rfl (fun r g1 hq => ?_)
      rw [hq.1, hq.2]
      rw [e1]
      show xW k S 0 0 26 [some (.ref 52), some (.int l1), some (.ref 48), some (.int l3)] [] w1
      refine xb A [(.iinc 3 1, 3, 0, 0, .null)] (pc' := 29) (ls' := [some (.ref 52), some (.int l1), some (.ref 48), some (.int (l3 + 1))]) (st' := []) (g' := w1) (by decide +kernel) rfl ?_
      refine xgoto A (-27) 2 (by decide +kernel) ?_
      exact ih _ _ _ H
set_option maxRecDepth 20000 in
theorem c_X5_keep_52_48 {S : List xSh} (hS : xpf SH1 S) {g : xG} {p1 : Int32} (out : xG) (H : f_X5_keep_52_48 p1 g = some out) : xC mX5_keep 2 42 0 0 S [.ref 52, .int p1, .ref 48] g S (fun r g' => r = none ∧ g' = out) := by
  have H : (f_X5_keep_52_48_2 xN p1 0 g) = some out := H
  refine xC.of 5 SH1 [some (.ref 52), some (.int p1), some (.ref 48), none] hS (by decide +kernel) rfl (fun _ _ => Nat.le_of_ble_eq_true rfl) (fun _ _ => rfl) ?_
  intro k A hR hrm hz
  refine xb A [(.iconst 0, 1, 0, 0, .int 0), (.istore_n 3, 1, 0, 0, .null)] (pc' := 2) (ls' := [some (.ref 52), some (.int p1), some (.ref 48), some (.int 0)]) (st' := []) (g' := g) (by decide +kernel) rfl ?_
  exact t_X5_keep_52_48_2 hS A hR hrm hz _ _ _ _ H
def f_X11_remember_0  (g : xG) : Option (xG) :=
  xg (¬ 40 = 0) (
    (f_X5_keep_52_48 (((g.1 0 14) + 1) - ((g.1 0 14) + 1) / 40 * 40) (xupd g.1 0 14 (((g.1 0 14) + 1) - ((g.1 0 14) + 1) / 40 * 40), g.2)).bind fun w1 =>
    some (xupd w1.1 0 13 (f_J9_min_7cf53 ((w1.1 0 13) + 1) 40 w1), w1.2))
set_option maxRecDepth 20000 in
theorem c_X11_remember_0 {S : List xSh} (hS : xpf SH1 S) {g : xG}  (out : xG) (H : f_X11_remember_0  g = some out) : xC mX11_remember 3 65 0 0 S [.ref 0] g S (fun r g' => r = none ∧ g' = out) := by
  have H : (xg (¬ 40 = 0) (
  (f_X5_keep_52_48 (((g.1 0 14) + 1) - ((g.1 0 14) + 1) / 40 * 40) (xupd g.1 0 14 (((g.1 0 14) + 1) - ((g.1 0 14) + 1) / 40 * 40), g.2)).bind fun w1 =>
  some (xupd w1.1 0 13 (f_J9_min_7cf53 ((w1.1 0 13) + 1) 40 w1), w1.2))) = some out := H
  refine xC.of 11 SH1 [some (.ref 0)] hS (by decide +kernel) rfl (fun _ _ => Nat.le_of_ble_eq_true rfl) (fun _ _ => rfl) ?_
  intro k A hR hrm hz
  refine xb A [(.aload_n 0, 1, 0, 0, .null), (.aload_n 0, 1, 0, 0, .null), (.getfield 231, 3, 0, 14, .int 0), (.iconst 1, 1, 0, 0, .int 1), (.iadd, 1, 0, 0, .null), (.bipush 40, 2, 0, 0, .int 40)] (pc' := 9) (ls' := [some (.ref 0)]) (st' := [.int 40, .int ((g.1 0 14) + 1), .ref 0]) (g' := g) (by decide +kernel) rfl ?_
  obtain ⟨h1, H⟩ := xg_elim H
  refine xirem A (nxt := 10) (by decide +kernel) h1 ?_
  refine xb A [(.putfield 231, 3, 0, 14, .int 0), (.aload_n 0, 1, 0, 0, .null), (.getfield 78, 3, 0, 10, .ref 52), (.aload_n 0, 1, 0, 0, .null), (.getfield 231, 3, 0, 14, .int 0), (.aload_n 0, 1, 0, 0, .null), (.getfield 66, 3, 0, 8, .ref 48)] (pc' := 25) (ls' := [some (.ref 0)]) (st' := [.ref 48, .int (((g.1 0 14) + 1) - ((g.1 0 14) + 1) / 40 * 40), .ref 52]) (g' := (xupd g.1 0 14 (((g.1 0 14) + 1) - ((g.1 0 14) + 1) / 40 * 40), g.2)) (by decide +kernel) rfl ?_
  obtain ⟨w1, e1, H⟩ := xbind H
  refine xcallV A (ix := 238) (nxt := 28) hrm hz [.int (((g.1 0 14) + 1) - ((g.1 0 14) + 1) / 40 * 40), .ref 48] [] 1005 (c_X5_keep_52_48 hS _ e1) ok_X5_keep (by decide +kernel) rfl (fun r g1 hq => ?_)
  rw [hq.1, hq.2]
  show xW k S 0 0 28 [some (.ref 0)] [] w1
  refine xb A [(.aload_n 0, 1, 0, 0, .null), (.aload_n 0, 1, 0, 0, .null), (.getfield 143, 3, 0, 13, .int 0), (.iconst 1, 1, 0, 0, .int 1), (.iadd, 1, 0, 0, .null), (.bipush 40, 2, 0, 0, .int 40)] (pc' := 37) (ls' := [some (.ref 0)]) (st' := [.int 40, .int ((w1.1 0 13) + 1), .ref 0]) (g' := w1) (by decide +kernel) rfl ?_
  refine xcallS A (ix := 241) (nxt := 40) hrm hz [.int ((w1.1 0 13) + 1), .int 40] [.ref 0] 1011 (c_J9_min_7cf53 hS _ rfl) ok_J9_min_7cf53 (by decide +kernel) rfl (fun r g1 hq => ?_)
  rw [hq.1, hq.2]
  show xW k S 0 0 40 [some (.ref 0)] [.int (f_J9_min_7cf53 ((w1.1 0 13) + 1) 40 w1), .ref 0] w1
  refine xb A [(.putfield 143, 3, 0, 13, .int 0)] (pc' := 43) (ls' := [some (.ref 0)]) (st' := []) (g' := (xupd w1.1 0 13 (f_J9_min_7cf53 ((w1.1 0 13) + 1) 40 w1), w1.2)) (by decide +kernel) rfl ?_
  obtain rfl := Option.some.inj H
  exact xret_v A hR hz (by decide +kernel) ⟨rfl, rfl⟩
def f_X11_send_0_40  (l1 : Int32) (s0 : Int32) (g : xG) : Option (Int32 × xG) :=
  if s0 = (f_X6_of_48 l1 11 g) then
    some (0, g)
  else
    if s0 = (f_X6_of_48 l1 5 g) then
      some (0, g)
    else
      (f_X11_remember_0 g).bind fun w1 =>
      xl (f_X6_setOf_48 l1 11 s0 w1) fun w2 =>
      some (1, w2)
def f_X11_send_0_29  (l1 : Int32) (l2 : Int32) (g : xG) : Option (Int32 × xG) :=
  if l2 = (-1) then
    f_X11_send_0_40 l1 (-2) g
  else
    f_X11_send_0_40 l1 l2 g
def f_X11_send_0 (p1 : Int32) (p2 : Int32) (g : xG) : Option (Int32 × xG) :=
  if (f_X4_isPerson_3 p1 g) = 0 then
    some (0, g)
  else
    if p2 = (-1) then
      f_X11_send_0_29 p1 p2 g
    else
      if (f_X4_isTown_3 p2 g) = 0 then
        some (0, g)
      else
        f_X11_send_0_29 p1 p2 g
set_option maxRecDepth 20000 in
theorem t_X11_send_0_40 {k : xK} {S : List xSh} {out : Int32 × xG} (hS : xpf SH1 S) (A : xAt k mX11_send.2.1 11 SH1 S) (hR : xRet k 0 0 S (fun r g' => r = some (.int out.1) ∧ g' = out.2) mX11_send.2.2.2) (hrm : xrm k = { frames := 4, cells := 0, slots := 0, locals := 85 }) (hz : xhs k = xb0 k + S.length)   : ∀ (l1 : Int32) (s0 : Int32) (g : xG), f_X11_send_0_40 l1 s0 g = some out → xW k S 0 0 40 [some (.ref 0), some (.int l1), none, none] [.int s0] g := by
  intro l1 s0 g H
  have H : (if s0 = (f_X6_of_48 l1 11 g) then
  some (0, g)
else
  if s0 = (f_X6_of_48 l1 5 g) then
    some (0, g)
  else
    (f_X11_remember_0 g).bind fun w1 =>
    xl (f_X6_setOf_48 l1 11 s0 w1) fun w2 =>
    some (1, w2)) = some out := H
  refine xb A [(.istore_n 3, 1, 0, 0, .null), (.iload_n 3, 1, 0, 0, .null), (.aload_n 0, 1, 0, 0, .null), (.getfield 66, 3, 0, 8, .ref 48), (.iload_n 1, 1, 0, 0, .null), (.bipush 11, 2, 0, 0, .int 11)] (pc' := 49) (ls' := [some (.ref 0), some (.int l1), none, some (.int s0)]) (st' := [.int 11, .int l1, .ref 48, .int s0]) (g' := g) (by decide +kernel) rfl ?_
  refine xcallV A (ix := 192) (nxt := 52) hrm hz [.int l1, .int 11] [.int s0] 944 (c_X6_of_48 hS _ rfl) ok_X6_of (by decide +kernel) rfl (fun r g1 hq => ?_)
  rw [hq.1, hq.2]
  show xW k S 0 0 52 [some (.ref 0), some (.int l1), none, some (.int s0)] [.int (f_X6_of_48 l1 11 g), .int s0] g
  refine xic_eq A (16) 68 55 (by decide +kernel) (fun h4 => ?_) (fun h4 => ?_)
  · rw [if_pos h4] at H
    refine xb A [(.iconst 0, 1, 0, 0, .int 0)] (pc' := 69) (ls' := [some (.ref 0), some (.int l1), none, some (.int s0)]) (st' := [.int 0]) (g' := g) (by decide +kernel) rfl ?_
    obtain rfl := Option.some.inj H
    exact xret_i A hR hz (by decide +kernel) rfl ⟨rfl, rfl⟩
  · rw [if_neg h4] at H
    refine xb A [(.iload_n 3, 1, 0, 0, .null), (.aload_n 0, 1, 0, 0, .null), (.getfield 66, 3, 0, 8, .ref 48), (.iload_n 1, 1, 0, 0, .null), (.iconst 5, 1, 0, 0, .int 5)] (pc' := 62) (ls' := [some (.ref 0), some (.int l1), none, some (.int s0)]) (st' := [.int 5, .int l1, .ref 48, .int s0]) (g' := g) (by decide +kernel) rfl ?_
    refine xcallV A (ix := 192) (nxt := 65) hrm hz [.int l1, .int 5] [.int s0] 944 (c_X6_of_48 hS _ rfl) ok_X6_of (by decide +kernel) rfl (fun r g1 hq => ?_)
    rw [hq.1, hq.2]
    show xW k S 0 0 65 [some (.ref 0), some (.int l1), none, some (.int s0)] [.int (f_X6_of_48 l1 5 g), .int s0] g
    refine xic_ne A (5) 70 68 (by decide +kernel) (fun h5 => ?_) (fun h5 => ?_)
    · rw [if_neg h5] at H
      refine xb A [(.aload_n 0, 1, 0, 0, .null)] (pc' := 71) (ls' := [some (.ref 0), some (.int l1), none, some (.int s0)]) (st' := [.ref 0]) (g' := g) (by decide +kernel) rfl ?_
      obtain ⟨w1, e1, H⟩ := xbind H
      refine xcallV A (ix := 207) (nxt := 74) hrm hz [] [] 1001 (c_X11_remember_0 hS _ e1) ok_X11_remember (by decide +kernel) rfl (fun r g1 hq => ?_)
      rw [hq.1, hq.2]
      show xW k S 0 0 74 [some (.ref 0), some (.int l1), none, some (.int s0)] [] w1
      refine xb A [(.aload_n 0, 1, 0, 0, .null), (.getfield 66, 3, 0, 8, .ref 48), (.iload_n 1, 1, 0, 0, .null), (.bipush 11, 2, 0, 0, .int 11), (.iload_n 3, 1, 0, 0, .null)] (pc' := 82) (ls' := [some (.ref 0), some (.int l1), none, some (.int s0)]) (st' := [.int s0, .int 11, .int l1, .ref 48]) (g' := w1) (by decide +kernel) rfl ?_
      obtain ⟨w2, e2, H⟩ := xl_elim H
      refine xcallV A (ix := 210) (nxt := 85) hrm hz [.int l1, .int 11, .int s0] [] 1012 (c_X6_setOf_48 hS _ e2) ok_X6_setOf (by decide +kernel) rfl (fun r g1 hq => ?_)
      rw [hq.1, hq.2]
      show xW k S 0 0 85 [some (.ref 0), some (.int l1), none, some (.int s0)] [] w2
      refine xb A [(.iconst 1, 1, 0, 0, .int 1)] (pc' := 86) (ls' := [some (.ref 0), some (.int l1), none, some (.int s0)]) (st' := [.int 1]) (g' := w2) (by decide +kernel) rfl ?_
      obtain rfl := Option.some.inj H
      exact xret_i A hR hz (by decide +kernel) rfl ⟨rfl, rfl⟩
    · rw [if_pos h5] at H
      refine xb A [(.iconst 0, 1, 0, 0, .int 0)] (pc' := 69) (ls' := [some (.ref 0), some (.int l1), none, some (.int s0)]) (st' := [.int 0]) (g' := g) (by decide +kernel) rfl ?_
      obtain rfl := Option.some.inj H
      exact xret_i A hR hz (by decide +kernel) rfl ⟨rfl, rfl⟩
set_option maxRecDepth 20000 in
theorem t_X11_send_0_29 {k : xK} {S : List xSh} {out : Int32 × xG} (hS : xpf SH1 S) (A : xAt k mX11_send.2.1 11 SH1 S) (hR : xRet k 0 0 S (fun r g' => r = some (.int out.1) ∧ g' = out.2) mX11_send.2.2.2) (hrm : xrm k = { frames := 4, cells := 0, slots := 0, locals := 85 }) (hz : xhs k = xb0 k + S.length)   : ∀ (l1 : Int32) (l2 : Int32) (g : xG), f_X11_send_0_29 l1 l2 g = some out → xW k S 0 0 29 [some (.ref 0), some (.int l1), some (.int l2), none] [] g := by
  intro l1 l2 g H
  have H : (if l2 = (-1) then
  f_X11_send_0_40 l1 (-2) g
else
  f_X11_send_0_40 l1 l2 g) = some out := H
  refine xb A [(.iload_n 2, 1, 0, 0, .null), (.iconst (-1), 1, 0, 0, .int (-1))] (pc' := 31) (ls' := [some (.ref 0), some (.int l1), some (.int l2), none]) (st' := [.int (-1), .int l2]) (g' := g) (by decide +kernel) rfl ?_
  refine xic_ne A (8) 39 34 (by decide +kernel) (fun h3 => ?_) (fun h3 => ?_)
  · rw [if_neg h3] at H
    refine xb A [(.iload_n 2, 1, 0, 0, .null)] (pc' := 40) (ls' := [some (.ref 0), some (.int l1), some (.int l2), none]) (st' := [.int l2]) (g' := g) (by decide +kernel) rfl ?_
    refine xweak (ls' := [some (.ref 0), some (.int l1), none, none]) (by exact ⟨rfl, ⟨rfl, trivial⟩⟩) ?_
    exact t_X11_send_0_40 hS A hR hrm hz _ _ _ H
  · rw [if_pos h3] at H
    refine xb A [(.bipush (-2), 2, 0, 0, .int (-2))] (pc' := 36) (ls' := [some (.ref 0), some (.int l1), some (.int l2), none]) (st' := [.int (-2)]) (g' := g) (by decide +kernel) rfl ?_
    refine xgoto A (4) 40 (by decide +kernel) ?_
    refine xweak (ls' := [some (.ref 0), some (.int l1), none, none]) (by exact ⟨rfl, ⟨rfl, trivial⟩⟩) ?_
    exact t_X11_send_0_40 hS A hR hrm hz _ _ _ H
set_option maxRecDepth 20000 in
theorem c_X11_send_0 {S : List xSh} (hS : xpf SH1 S) {g : xG} {p1 : Int32} {p2 : Int32} (out : Int32 × xG) (H : f_X11_send_0 p1 p2 g = some out) : xC mX11_send 4 85 0 0 S [.ref 0, .int p1, .int p2] g S (fun r g' => r = some (.int out.1) ∧ g' = out.2) := by
  have H : (if (f_X4_isPerson_3 p1 g) = 0 then
  some (0, g)
else
  if p2 = (-1) then
    f_X11_send_0_29 p1 p2 g
  else
    if (f_X4_isTown_3 p2 g) = 0 then
      some (0, g)
    else
      f_X11_send_0_29 p1 p2 g) = some out := H
  refine xC.of 11 SH1 [some (.ref 0), some (.int p1), some (.int p2), none] hS (by decide +kernel) rfl (fun _ _ => Nat.le_of_ble_eq_true rfl) (fun _ _ => rfl) ?_
  intro k A hR hrm hz
  refine xb A [(.aload_n 0, 1, 0, 0, .null), (.getfield 19, 3, 0, 1, .ref 3), (.iload_n 1, 1, 0, 0, .null)] (pc' := 5) (ls' := [some (.ref 0), some (.int p1), some (.int p2), none]) (st' := [.int p1, .ref 3]) (g' := g) (by decide +kernel) rfl ?_
  refine xcallV A (ix := 183) (nxt := 8) hrm hz [.int p1] [] 932 (c_X4_isPerson_3 hS _ rfl) ok_X4_isPerson (by decide +kernel) rfl (fun r g1 hq => ?_)
  rw [hq.1, hq.2]
  show xW k S 0 0 8 [some (.ref 0), some (.int p1), some (.int p2), none] [.int (f_X4_isPerson_3 p1 g)] g
  refine xif_eq A (19) 27 11 (by decide +kernel) (fun h1 => ?_) (fun h1 => ?_)
  · rw [if_pos h1] at H
    refine xb A [(.iconst 0, 1, 0, 0, .int 0)] (pc' := 28) (ls' := [some (.ref 0), some (.int p1), some (.int p2), none]) (st' := [.int 0]) (g' := g) (by decide +kernel) rfl ?_
    obtain rfl := Option.some.inj H
    exact xret_i A hR hz (by decide +kernel) rfl ⟨rfl, rfl⟩
  · rw [if_neg h1] at H
    refine xb A [(.iload_n 2, 1, 0, 0, .null), (.iconst (-1), 1, 0, 0, .int (-1))] (pc' := 13) (ls' := [some (.ref 0), some (.int p1), some (.int p2), none]) (st' := [.int (-1), .int p2]) (g' := g) (by decide +kernel) rfl ?_
    refine xic_eq A (16) 29 16 (by decide +kernel) (fun h2 => ?_) (fun h2 => ?_)
    · rw [if_pos h2] at H
      exact t_X11_send_0_29 hS A hR hrm hz _ _ _ H
    · rw [if_neg h2] at H
      refine xb A [(.aload_n 0, 1, 0, 0, .null), (.getfield 19, 3, 0, 1, .ref 3), (.iload_n 2, 1, 0, 0, .null)] (pc' := 21) (ls' := [some (.ref 0), some (.int p1), some (.int p2), none]) (st' := [.int p2, .ref 3]) (g' := g) (by decide +kernel) rfl ?_
      refine xcallV A (ix := 149) (nxt := 24) hrm hz [.int p2] [] 893 (c_X4_isTown_3 hS _ rfl) ok_X4_isTown (by decide +kernel) rfl (fun r g1 hq => ?_)
      rw [hq.1, hq.2]
      show xW k S 0 0 24 [some (.ref 0), some (.int p1), some (.int p2), none] [.int (f_X4_isTown_3 p2 g)] g
      refine xif_ne A (5) 29 27 (by decide +kernel) (fun h6 => ?_) (fun h6 => ?_)
      · rw [if_neg h6] at H
        exact t_X11_send_0_29 hS A hR hrm hz _ _ _ H
      · rw [if_pos h6] at H
        refine xb A [(.iconst 0, 1, 0, 0, .int 0)] (pc' := 28) (ls' := [some (.ref 0), some (.int p1), some (.int p2), none]) (st' := [.int 0]) (g' := g) (by decide +kernel) rfl ?_
        obtain rfl := Option.some.inj H
        exact xret_i A hR hz (by decide +kernel) rfl ⟨rfl, rfl⟩
def f_X11_close_0 (p1 : Int32) (p2 : Int32) (g : xG) : Option (Int32 × xG) :=
  if (f_X4_isRoad_3 p1 g) = 0 then
    some (0, g)
  else
    if p2 = (f_X10_isOpen_38 p1 g) then
      (f_X11_remember_0 g).bind fun w1 =>
      xl (f_X6_set_48 4 ((f_X6_get_48 4 w1) ^^^ (f_X11_bit p1 w1)) w1) fun w2 =>
      (f_X10_measure_38 (f_X6_get_48 4 w2) w2).bind fun w3 =>
      some (1, w3)
    else
      some (0, g)
set_option maxRecDepth 20000 in
theorem c_X11_close_0 {S : List xSh} (hS : xpf SH1 S) {g : xG} {p1 : Int32} {p2 : Int32} (out : Int32 × xG) (H : f_X11_close_0 p1 p2 g = some out) : xC mX11_close 4 90 0 0 S [.ref 0, .int p1, .int p2] g S (fun r g' => r = some (.int out.1) ∧ g' = out.2) := by
  have H : (if (f_X4_isRoad_3 p1 g) = 0 then
  some (0, g)
else
  if p2 = (f_X10_isOpen_38 p1 g) then
    (f_X11_remember_0 g).bind fun w1 =>
    xl (f_X6_set_48 4 ((f_X6_get_48 4 w1) ^^^ (f_X11_bit p1 w1)) w1) fun w2 =>
    (f_X10_measure_38 (f_X6_get_48 4 w2) w2).bind fun w3 =>
    some (1, w3)
  else
    some (0, g)) = some out := H
  refine xC.of 11 SH1 [some (.ref 0), some (.int p1), some (.int p2)] hS (by decide +kernel) rfl (fun _ _ => Nat.le_of_ble_eq_true rfl) (fun _ _ => rfl) ?_
  intro k A hR hrm hz
  refine xb A [(.aload_n 0, 1, 0, 0, .null), (.getfield 19, 3, 0, 1, .ref 3), (.iload_n 1, 1, 0, 0, .null)] (pc' := 5) (ls' := [some (.ref 0), some (.int p1), some (.int p2)]) (st' := [.int p1, .ref 3]) (g' := g) (by decide +kernel) rfl ?_
  refine xcallV A (ix := 168) (nxt := 8) hrm hz [.int p1] [] 923 (c_X4_isRoad_3 hS _ rfl) ok_X4_isRoad (by decide +kernel) rfl (fun r g1 hq => ?_)
  rw [hq.1, hq.2]
  show xW k S 0 0 8 [some (.ref 0), some (.int p1), some (.int p2)] [.int (f_X4_isRoad_3 p1 g)] g
  refine xif_eq A (15) 23 11 (by decide +kernel) (fun h1 => ?_) (fun h1 => ?_)
  · rw [if_pos h1] at H
    refine xb A [(.iconst 0, 1, 0, 0, .int 0)] (pc' := 24) (ls' := [some (.ref 0), some (.int p1), some (.int p2)]) (st' := [.int 0]) (g' := g) (by decide +kernel) rfl ?_
    obtain rfl := Option.some.inj H
    exact xret_i A hR hz (by decide +kernel) rfl ⟨rfl, rfl⟩
  · rw [if_neg h1] at H
    refine xb A [(.iload_n 2, 1, 0, 0, .null), (.aload_n 0, 1, 0, 0, .null), (.getfield 37, 3, 0, 3, .ref 38), (.iload_n 1, 1, 0, 0, .null)] (pc' := 17) (ls' := [some (.ref 0), some (.int p1), some (.int p2)]) (st' := [.int p1, .ref 38, .int p2]) (g' := g) (by decide +kernel) rfl ?_
    refine xcallV A (ix := 180) (nxt := 20) hrm hz [.int p1] [.int p2] 927 (c_X10_isOpen_38 hS _ rfl) ok_X10_isOpen (by decide +kernel) rfl (fun r g1 hq => ?_)
    rw [hq.1, hq.2]
    show xW k S 0 0 20 [some (.ref 0), some (.int p1), some (.int p2)] [.int (f_X10_isOpen_38 p1 g), .int p2] g
    refine xic_eq A (5) 25 23 (by decide +kernel) (fun h2 => ?_) (fun h2 => ?_)
    · rw [if_pos h2] at H
      refine xb A [(.aload_n 0, 1, 0, 0, .null)] (pc' := 26) (ls' := [some (.ref 0), some (.int p1), some (.int p2)]) (st' := [.ref 0]) (g' := g) (by decide +kernel) rfl ?_
      obtain ⟨w1, e1, H⟩ := xbind H
      refine xcallV A (ix := 207) (nxt := 29) hrm hz [] [] 1001 (c_X11_remember_0 hS _ e1) ok_X11_remember (by decide +kernel) rfl (fun r g1 hq => ?_)
      rw [hq.1, hq.2]
      show xW k S 0 0 29 [some (.ref 0), some (.int p1), some (.int p2)] [] w1
      refine xb A [(.aload_n 0, 1, 0, 0, .null), (.getfield 66, 3, 0, 8, .ref 48), (.iconst 4, 1, 0, 0, .int 4), (.aload_n 0, 1, 0, 0, .null), (.getfield 66, 3, 0, 8, .ref 48), (.iconst 4, 1, 0, 0, .int 4)] (pc' := 39) (ls' := [some (.ref 0), some (.int p1), some (.int p2)]) (st' := [.int 4, .ref 48, .int 4, .ref 48]) (g' := w1) (by decide +kernel) rfl ?_
      refine xcallV A (ix := 135) (nxt := 42) hrm hz [.int 4] [.int 4, .ref 48] 489 (c_X6_get_48 hS _ rfl) ok_X6_get (by decide +kernel) rfl (fun r g1 hq => ?_)
      rw [hq.1, hq.2]
      show xW k S 0 0 42 [some (.ref 0), some (.int p1), some (.int p2)] [.int (f_X6_get_48 4 w1), .int 4, .ref 48] w1
      refine xb A [(.iload_n 1, 1, 0, 0, .null)] (pc' := 43) (ls' := [some (.ref 0), some (.int p1), some (.int p2)]) (st' := [.int p1, .int (f_X6_get_48 4 w1), .int 4, .ref 48]) (g' := w1) (by decide +kernel) rfl ?_
      refine xcallS A (ix := 214) (nxt := 46) hrm hz [.int p1] [.int (f_X6_get_48 4 w1), .int 4, .ref 48] 1017 (c_X11_bit hS _ rfl) ok_X11_bit (by decide +kernel) rfl (fun r g1 hq => ?_)
      rw [hq.1, hq.2]
      show xW k S 0 0 46 [some (.ref 0), some (.int p1), some (.int p2)] [.int (f_X11_bit p1 w1), .int (f_X6_get_48 4 w1), .int 4, .ref 48] w1
      refine xb A [(.ixor, 1, 0, 0, .null)] (pc' := 47) (ls' := [some (.ref 0), some (.int p1), some (.int p2)]) (st' := [.int ((f_X6_get_48 4 w1) ^^^ (f_X11_bit p1 w1)), .int 4, .ref 48]) (g' := w1) (by decide +kernel) rfl ?_
      obtain ⟨w2, e2, H⟩ := xl_elim H
      refine xcallV A (ix := 217) (nxt := 50) hrm hz [.int 4, .int ((f_X6_get_48 4 w1) ^^^ (f_X11_bit p1 w1))] [] 1018 (c_X6_set_48 hS _ e2) ok_X6_set (by decide +kernel) rfl (fun r g1 hq => ?_)
      rw [hq.1, hq.2]
      show xW k S 0 0 50 [some (.ref 0), some (.int p1), some (.int p2)] [] w2
      refine xb A [(.aload_n 0, 1, 0, 0, .null), (.getfield 37, 3, 0, 3, .ref 38), (.aload_n 0, 1, 0, 0, .null), (.getfield 66, 3, 0, 8, .ref 48), (.iconst 4, 1, 0, 0, .int 4)] (pc' := 59) (ls' := [some (.ref 0), some (.int p1), some (.int p2)]) (st' := [.int 4, .ref 48, .ref 38]) (g' := w2) (by decide +kernel) rfl ?_
      refine xcallV A (ix := 135) (nxt := 62) hrm hz [.int 4] [.ref 38] 489 (c_X6_get_48 hS _ rfl) ok_X6_get (by decide +kernel) rfl (fun r g1 hq => ?_)
      rw [hq.1, hq.2]
      show xW k S 0 0 62 [some (.ref 0), some (.int p1), some (.int p2)] [.int (f_X6_get_48 4 w2), .ref 38] w2
      obtain ⟨w3, e3, H⟩ := xbind H
      refine xcallV A (ix := 139) (nxt := 65) hrm hz [.int (f_X6_get_48 4 w2)] [] 494 (c_X10_measure_38 hS _ e3) ok_X10_measure (by decide +kernel) rfl (fun r g1 hq => ?_)
      rw [hq.1, hq.2]
      show xW k S 0 0 65 [some (.ref 0), some (.int p1), some (.int p2)] [] w3
      refine xb A [(.iconst 1, 1, 0, 0, .int 1)] (pc' := 66) (ls' := [some (.ref 0), some (.int p1), some (.int p2)]) (st' := [.int 1]) (g' := w3) (by decide +kernel) rfl ?_
      obtain rfl := Option.some.inj H
      exact xret_i A hR hz (by decide +kernel) rfl ⟨rfl, rfl⟩
    · rw [if_neg h2] at H
      refine xb A [(.iconst 0, 1, 0, 0, .int 0)] (pc' := 24) (ls' := [some (.ref 0), some (.int p1), some (.int p2)]) (st' := [.int 0]) (g' := g) (by decide +kernel) rfl ?_
      obtain rfl := Option.some.inj H
      exact xret_i A hR hz (by decide +kernel) rfl ⟨rfl, rfl⟩
def f_X11_admit_0 (p1 : Int32) (g : xG) : Option (Int32 × xG) :=
  if (f_X4_isPerson_3 p1 g) = 0 then
    some (0, g)
  else
    if (f_X6_isBarred_48 p1 g) = 0 then
      some (0, g)
    else
      (f_X11_remember_0 g).bind fun w1 =>
      xl (f_X6_set_48 3 ((f_X6_get_48 3 w1) &&& ((f_X11_bit p1 w1) ^^^ (-1))) w1) fun w2 =>
      some (1, w2)
set_option maxRecDepth 20000 in
theorem c_X11_admit_0 {S : List xSh} (hS : xpf SH1 S) {g : xG} {p1 : Int32} (out : Int32 × xG) (H : f_X11_admit_0 p1 g = some out) : xC mX11_admit 4 85 0 0 S [.ref 0, .int p1] g S (fun r g' => r = some (.int out.1) ∧ g' = out.2) := by
  have H : (if (f_X4_isPerson_3 p1 g) = 0 then
  some (0, g)
else
  if (f_X6_isBarred_48 p1 g) = 0 then
    some (0, g)
  else
    (f_X11_remember_0 g).bind fun w1 =>
    xl (f_X6_set_48 3 ((f_X6_get_48 3 w1) &&& ((f_X11_bit p1 w1) ^^^ (-1))) w1) fun w2 =>
    some (1, w2)) = some out := H
  refine xC.of 11 SH1 [some (.ref 0), some (.int p1)] hS (by decide +kernel) rfl (fun _ _ => Nat.le_of_ble_eq_true rfl) (fun _ _ => rfl) ?_
  intro k A hR hrm hz
  refine xb A [(.aload_n 0, 1, 0, 0, .null), (.getfield 19, 3, 0, 1, .ref 3), (.iload_n 1, 1, 0, 0, .null)] (pc' := 5) (ls' := [some (.ref 0), some (.int p1)]) (st' := [.int p1, .ref 3]) (g' := g) (by decide +kernel) rfl ?_
  refine xcallV A (ix := 183) (nxt := 8) hrm hz [.int p1] [] 932 (c_X4_isPerson_3 hS _ rfl) ok_X4_isPerson (by decide +kernel) rfl (fun r g1 hq => ?_)
  rw [hq.1, hq.2]
  show xW k S 0 0 8 [some (.ref 0), some (.int p1)] [.int (f_X4_isPerson_3 p1 g)] g
  refine xif_eq A (14) 22 11 (by decide +kernel) (fun h1 => ?_) (fun h1 => ?_)
  · rw [if_pos h1] at H
    refine xb A [(.iconst 0, 1, 0, 0, .int 0)] (pc' := 23) (ls' := [some (.ref 0), some (.int p1)]) (st' := [.int 0]) (g' := g) (by decide +kernel) rfl ?_
    obtain rfl := Option.some.inj H
    exact xret_i A hR hz (by decide +kernel) rfl ⟨rfl, rfl⟩
  · rw [if_neg h1] at H
    refine xb A [(.aload_n 0, 1, 0, 0, .null), (.getfield 66, 3, 0, 8, .ref 48), (.iload_n 1, 1, 0, 0, .null)] (pc' := 16) (ls' := [some (.ref 0), some (.int p1)]) (st' := [.int p1, .ref 48]) (g' := g) (by decide +kernel) rfl ?_
    refine xcallV A (ix := 195) (nxt := 19) hrm hz [.int p1] [] 948 (c_X6_isBarred_48 hS _ rfl) ok_X6_isBarred (by decide +kernel) rfl (fun r g1 hq => ?_)
    rw [hq.1, hq.2]
    show xW k S 0 0 19 [some (.ref 0), some (.int p1)] [.int (f_X6_isBarred_48 p1 g)] g
    refine xif_ne A (5) 24 22 (by decide +kernel) (fun h2 => ?_) (fun h2 => ?_)
    · rw [if_neg h2] at H
      refine xb A [(.aload_n 0, 1, 0, 0, .null)] (pc' := 25) (ls' := [some (.ref 0), some (.int p1)]) (st' := [.ref 0]) (g' := g) (by decide +kernel) rfl ?_
      obtain ⟨w1, e1, H⟩ := xbind H
      refine xcallV A (ix := 207) (nxt := 28) hrm hz [] [] 1001 (c_X11_remember_0 hS _ e1) ok_X11_remember (by decide +kernel) rfl (fun r g1 hq => ?_)
      rw [hq.1, hq.2]
      show xW k S 0 0 28 [some (.ref 0), some (.int p1)] [] w1
      refine xb A [(.aload_n 0, 1, 0, 0, .null), (.getfield 66, 3, 0, 8, .ref 48), (.iconst 3, 1, 0, 0, .int 3), (.aload_n 0, 1, 0, 0, .null), (.getfield 66, 3, 0, 8, .ref 48), (.iconst 3, 1, 0, 0, .int 3)] (pc' := 38) (ls' := [some (.ref 0), some (.int p1)]) (st' := [.int 3, .ref 48, .int 3, .ref 48]) (g' := w1) (by decide +kernel) rfl ?_
      refine xcallV A (ix := 135) (nxt := 41) hrm hz [.int 3] [.int 3, .ref 48] 489 (c_X6_get_48 hS _ rfl) ok_X6_get (by decide +kernel) rfl (fun r g1 hq => ?_)
      rw [hq.1, hq.2]
      show xW k S 0 0 41 [some (.ref 0), some (.int p1)] [.int (f_X6_get_48 3 w1), .int 3, .ref 48] w1
      refine xb A [(.iload_n 1, 1, 0, 0, .null)] (pc' := 42) (ls' := [some (.ref 0), some (.int p1)]) (st' := [.int p1, .int (f_X6_get_48 3 w1), .int 3, .ref 48]) (g' := w1) (by decide +kernel) rfl ?_
      refine xcallS A (ix := 214) (nxt := 45) hrm hz [.int p1] [.int (f_X6_get_48 3 w1), .int 3, .ref 48] 1017 (c_X11_bit hS _ rfl) ok_X11_bit (by decide +kernel) rfl (fun r g1 hq => ?_)
      rw [hq.1, hq.2]
      show xW k S 0 0 45 [some (.ref 0), some (.int p1)] [.int (f_X11_bit p1 w1), .int (f_X6_get_48 3 w1), .int 3, .ref 48] w1
      refine xb A [(.iconst (-1), 1, 0, 0, .int (-1)), (.ixor, 1, 0, 0, .null), (.iand, 1, 0, 0, .null)] (pc' := 48) (ls' := [some (.ref 0), some (.int p1)]) (st' := [.int ((f_X6_get_48 3 w1) &&& ((f_X11_bit p1 w1) ^^^ (-1))), .int 3, .ref 48]) (g' := w1) (by decide +kernel) rfl ?_
      obtain ⟨w2, e2, H⟩ := xl_elim H
      refine xcallV A (ix := 217) (nxt := 51) hrm hz [.int 3, .int ((f_X6_get_48 3 w1) &&& ((f_X11_bit p1 w1) ^^^ (-1)))] [] 1018 (c_X6_set_48 hS _ e2) ok_X6_set (by decide +kernel) rfl (fun r g1 hq => ?_)
      rw [hq.1, hq.2]
      show xW k S 0 0 51 [some (.ref 0), some (.int p1)] [] w2
      refine xb A [(.iconst 1, 1, 0, 0, .int 1)] (pc' := 52) (ls' := [some (.ref 0), some (.int p1)]) (st' := [.int 1]) (g' := w2) (by decide +kernel) rfl ?_
      obtain rfl := Option.some.inj H
      exact xret_i A hR hz (by decide +kernel) rfl ⟨rfl, rfl⟩
    · rw [if_pos h2] at H
      refine xb A [(.iconst 0, 1, 0, 0, .int 0)] (pc' := 23) (ls' := [some (.ref 0), some (.int p1)]) (st' := [.int 0]) (g' := g) (by decide +kernel) rfl ?_
      obtain rfl := Option.some.inj H
      exact xret_i A hR hz (by decide +kernel) rfl ⟨rfl, rfl⟩
def f_X11_isSpan (p0 : Int32) (g : xG) : Int32 :=
  if p0 < 0 then
    0
  else
    if 60 < p0 then
      0
    else
      1
set_option maxRecDepth 20000 in
theorem c_X11_isSpan {S : List xSh} (hS : xpf SH1 S) {g : xG} {p0 : Int32} (out : Int32) (H : f_X11_isSpan p0 g = out) : xC mX11_isSpan 0 0 0 0 S [.int p0] g S (fun r g' => r = some (.int out) ∧ g' = g) := by
  have H : (if p0 < 0 then
  0
else
  if 60 < p0 then
    0
  else
    1) = out := H
  refine xC.of 11 SH1 [some (.int p0)] hS (by decide +kernel) rfl (fun _ _ => Nat.le_of_ble_eq_true rfl) (fun _ _ => rfl) ?_
  intro k A hR hrm hz
  refine xb A [(.iload_n 0, 1, 0, 0, .null)] (pc' := 1) (ls' := [some (.int p0)]) (st' := [.int p0]) (g' := g) (by decide +kernel) rfl ?_
  refine xif_lt A (13) 14 4 (by decide +kernel) (fun h1 => ?_) (fun h1 => ?_)
  · rw [if_pos h1] at H
    refine xb A [(.iconst 0, 1, 0, 0, .int 0)] (pc' := 15) (ls' := [some (.int p0)]) (st' := [.int 0]) (g' := g) (by decide +kernel) rfl ?_
    subst H
    exact xret_i A hR hz (by decide +kernel) rfl ⟨rfl, rfl⟩
  · rw [if_neg h1] at H
    refine xb A [(.iload_n 0, 1, 0, 0, .null), (.bipush 60, 2, 0, 0, .int 60)] (pc' := 7) (ls' := [some (.int p0)]) (st' := [.int 60, .int p0]) (g' := g) (by decide +kernel) rfl ?_
    refine xic_gt A (7) 14 10 (by decide +kernel) (fun h2 => ?_) (fun h2 => ?_)
    · rw [if_pos h2] at H
      refine xb A [(.iconst 0, 1, 0, 0, .int 0)] (pc' := 15) (ls' := [some (.int p0)]) (st' := [.int 0]) (g' := g) (by decide +kernel) rfl ?_
      subst H
      exact xret_i A hR hz (by decide +kernel) rfl ⟨rfl, rfl⟩
    · rw [if_neg h2] at H
      refine xb A [(.iconst 1, 1, 0, 0, .int 1)] (pc' := 11) (ls' := [some (.int p0)]) (st' := [.int 1]) (g' := g) (by decide +kernel) rfl ?_
      refine xgoto A (4) 15 (by decide +kernel) ?_
      subst H
      exact xret_i A hR hz (by decide +kernel) rfl ⟨rfl, rfl⟩
def f_X4_seed_3  (g : xG) : Int32 :=
  g.1 3 13
set_option maxRecDepth 20000 in
theorem c_X4_seed_3 {S : List xSh} (hS : xpf SH1 S) {g : xG}  (out : Int32) (H : f_X4_seed_3  g = out) : xC mX4_seed 0 0 0 0 S [.ref 3] g S (fun r g' => r = some (.int out) ∧ g' = g) := by
  have H : (g.1 3 13) = out := H
  refine xC.of 4 SH1 [some (.ref 3)] hS (by decide +kernel) rfl (fun _ _ => Nat.le_of_ble_eq_true rfl) (fun _ _ => rfl) ?_
  intro k A hR hrm hz
  refine xb A [(.aload_n 0, 1, 0, 0, .null), (.getfield 57, 3, 3, 13, .int 0)] (pc' := 4) (ls' := [some (.ref 3)]) (st' := [.int (g.1 3 13)]) (g' := g) (by decide +kernel) rfl ?_
  subst H
  exact xret_i A hR hz (by decide +kernel) rfl ⟨rfl, rfl⟩
def f_X1_mayRing_44_48 (p2 : Int32) (g : xG) : Int32 :=
  if (f_X6_of_48 p2 5 g) = (f_X4_capital_3 g) then
    if (f_X6_isBarred_48 p2 g) = 0 then
      1
    else
      0
  else
    0
set_option maxRecDepth 20000 in
theorem c_X1_mayRing_44_48 {S : List xSh} (hS : xpf SH1 S) {g : xG} {p2 : Int32} (out : Int32) (H : f_X1_mayRing_44_48 p2 g = out) : xC mX1_mayRing 3 63 0 0 S [.ref 44, .ref 48, .int p2] g S (fun r g' => r = some (.int out) ∧ g' = g) := by
  have H : (if (f_X6_of_48 p2 5 g) = (f_X4_capital_3 g) then
  if (f_X6_isBarred_48 p2 g) = 0 then
    1
  else
    0
else
  0) = out := H
  refine xC.of 1 SH1 [some (.ref 44), some (.ref 48), some (.int p2)] hS (by decide +kernel) rfl (fun _ _ => Nat.le_of_ble_eq_true rfl) (fun _ _ => rfl) ?_
  intro k A hR hrm hz
  refine xb A [(.aload_n 1, 1, 0, 0, .null), (.iload_n 2, 1, 0, 0, .null), (.iconst 5, 1, 0, 0, .int 5)] (pc' := 3) (ls' := [some (.ref 44), some (.ref 48), some (.int p2)]) (st' := [.int 5, .int p2, .ref 48]) (g' := g) (by decide +kernel) rfl ?_
  refine xcallV A (ix := 51) (nxt := 6) hrm hz [.int p2, .int 5] [] 969 (c_X6_of_48 hS _ rfl) ok_X6_of (by decide +kernel) rfl (fun r g1 hq => ?_)
  rw [hq.1, hq.2]
  show xW k S 0 0 6 [some (.ref 44), some (.ref 48), some (.int p2)] [.int (f_X6_of_48 p2 5 g)] g
  refine xb A [(.aload_n 0, 1, 0, 0, .null), (.getfield 17, 3, 44, 0, .ref 3)] (pc' := 10) (ls' := [some (.ref 44), some (.ref 48), some (.int p2)]) (st' := [.ref 3, .int (f_X6_of_48 p2 5 g)]) (g' := g) (by decide +kernel) rfl ?_
  refine xcallV A (ix := 31) (nxt := 13) hrm hz [] [.int (f_X6_of_48 p2 5 g)] 958 (c_X4_capital_3 hS _ rfl) ok_X4_capital (by decide +kernel) rfl (fun r g1 hq => ?_)
  rw [hq.1, hq.2]
  show xW k S 0 0 13 [some (.ref 44), some (.ref 48), some (.int p2)] [.int (f_X4_capital_3 g), .int (f_X6_of_48 p2 5 g)] g
  refine xic_ne A (15) 28 16 (by decide +kernel) (fun h1 => ?_) (fun h1 => ?_)
  · rw [if_neg h1] at H
    refine xb A [(.iconst 0, 1, 0, 0, .int 0)] (pc' := 29) (ls' := [some (.ref 44), some (.ref 48), some (.int p2)]) (st' := [.int 0]) (g' := g) (by decide +kernel) rfl ?_
    subst H
    exact xret_i A hR hz (by decide +kernel) rfl ⟨rfl, rfl⟩
  · rw [if_pos h1] at H
    refine xb A [(.aload_n 1, 1, 0, 0, .null), (.iload_n 2, 1, 0, 0, .null)] (pc' := 18) (ls' := [some (.ref 44), some (.ref 48), some (.int p2)]) (st' := [.int p2, .ref 48]) (g' := g) (by decide +kernel) rfl ?_
    refine xcallV A (ix := 104) (nxt := 21) hrm hz [.int p2] [] 1046 (c_X6_isBarred_48 hS _ rfl) ok_X6_isBarred (by decide +kernel) rfl (fun r g1 hq => ?_)
    rw [hq.1, hq.2]
    show xW k S 0 0 21 [some (.ref 44), some (.ref 48), some (.int p2)] [.int (f_X6_isBarred_48 p2 g)] g
    refine xif_ne A (7) 28 24 (by decide +kernel) (fun h2 => ?_) (fun h2 => ?_)
    · rw [if_neg h2] at H
      refine xb A [(.iconst 0, 1, 0, 0, .int 0)] (pc' := 29) (ls' := [some (.ref 44), some (.ref 48), some (.int p2)]) (st' := [.int 0]) (g' := g) (by decide +kernel) rfl ?_
      subst H
      exact xret_i A hR hz (by decide +kernel) rfl ⟨rfl, rfl⟩
    · rw [if_pos h2] at H
      refine xb A [(.iconst 1, 1, 0, 0, .int 1)] (pc' := 25) (ls' := [some (.ref 44), some (.ref 48), some (.int p2)]) (st' := [.int 1]) (g' := g) (by decide +kernel) rfl ?_
      refine xgoto A (4) 29 (by decide +kernel) ?_
      subst H
      exact xret_i A hR hz (by decide +kernel) rfl ⟨rfl, rfl⟩
def f_X1_ringerOf_44_48_8  : Nat → Int32 → Int32 → Int32 → xG → Option (Int32 × xG)
  | 0, _, _, _, _ => none
  | n + 1, l2, l3, l4, g =>
    if (f_X4_people_3 g) ≤ l4 then
      some (l2, g)
    else
      if (f_X1_mayRing_44_48 l4 g) = 0 then
        f_X1_ringerOf_44_48_8 n l2 l3 (l4 + 1) g
      else
        (f_X1_lawNow_44_48 l4 0 g).bind fun w1 =>
        if l2 < 0 then
          f_X1_ringerOf_44_48_8 n l4 w1.1 (l4 + 1) w1.2
        else
          if w1.1 ≤ l3 then
            f_X1_ringerOf_44_48_8 n l2 l3 (l4 + 1) w1.2
          else
            f_X1_ringerOf_44_48_8 n l4 w1.1 (l4 + 1) w1.2
def f_X1_ringerOf_44_48  (g : xG) : Option (Int32 × xG) :=
  f_X1_ringerOf_44_48_8 xN (-2) 0 0 g
set_option maxRecDepth 20000 in
theorem t_X1_ringerOf_44_48_8 {k : xK} {S : List xSh} {out : Int32 × xG} (hS : xpf SH1 S) (A : xAt k mX1_ringerOf.2.1 1 SH1 S) (hR : xRet k 0 0 S (fun r g' => r = some (.int out.1) ∧ g' = out.2) mX1_ringerOf.2.2.2) (hrm : xrm k = { frames := 4, cells := 0, slots := 0, locals := 99 }) (hz : xhs k = xb0 k + S.length)   : ∀ (n : Nat) (l2 : Int32) (l3 : Int32) (l4 : Int32) (g : xG), f_X1_ringerOf_44_48_8 n l2 l3 l4 g = some out → xW k S 0 0 8 [some (.ref 44), some (.ref 48), some (.int l2), some (.int l3), some (.int l4), none] [] g := by
  intro n
  induction n with
  | zero => intro l2 l3 l4 g H; exact absurd H (by simp [f_X1_ringerOf_44_48_8])
  | succ n ih =>
    intro l2 l3 l4 g H
    have H : (if (f_X4_people_3 g) ≤ l4 then
  some (l2, g)
else
  if (f_X1_mayRing_44_48 l4 g) = 0 then
    f_X1_ringerOf_44_48_8 n l2 l3 (l4 + 1) g
  else
    (f_X1_lawNow_44_48 l4 0 g).bind fun w1 =>
    if l2 < 0 then
      f_X1_ringerOf_44_48_8 n l4 w1.1 (l4 + 1) w1.2
    else
      if w1.1 ≤ l3 then
        f_X1_ringerOf_44_48_8 n l2 l3 (l4 + 1) w1.2
      else
        f_X1_ringerOf_44_48_8 n l4 w1.1 (l4 + 1) w1.2) = some out := H
    refine xb A [(.iload 4, 2, 0, 0, .null), (.aload_n 0, 1, 0, 0, .null), (.getfield 17, 3, 44, 0, .ref 3)] (pc' := 14) (ls' := [some (.ref 44), some (.ref 48), some (.int l2), some (.int l3), some (.int l4), none]) (st' := [.ref 3, .int l4]) (g' := g) (by decide +kernel) rfl ?_
    refine xcallV A (ix := 60) (nxt := 17) hrm hz [] [.int l4] 972 (c_X4_people_3 hS _ rfl) ok_X4_people (by decide +kernel) rfl (fun r g1 hq => ?_)
    rw [hq.1, hq.2]
    show xW k S 0 0 17 [some (.ref 44), some (.ref 48), some (.int l2), some (.int l3), some (.int l4), none] [.int (f_X4_people_3 g), .int l4] g
    refine xic_ge A (45) 62 20 (by decide +kernel) (fun h1 => ?_) (fun h1 => ?_)
    · rw [if_pos h1] at H
      refine xb A [(.iload_n 2, 1, 0, 0, .null)] (pc' := 63) (ls' := [some (.ref 44), some (.ref 48), some (.int l2), some (.int l3), some (.int l4), none]) (st' := [.int l2]) (g' := g) (by decide +kernel) rfl ?_
      obtain rfl := Option.some.inj H
      exact xret_i A hR hz (by decide +kernel) rfl ⟨rfl, rfl⟩
    · rw [if_neg h1] at H
      refine xb A [(.aload_n 0, 1, 0, 0, .null), (.aload_n 1, 1, 0, 0, .null), (.iload 4, 2, 0, 0, .null)] (pc' := 24) (ls' := [some (.ref 44), some (.ref 48), some (.int l2), some (.int l3), some (.int l4), none]) (st' := [.int l4, .ref 48, .ref 44]) (g' := g) (by decide +kernel) rfl ?_
      refine xcallV A (ix := 96) (nxt := 27) hrm hz [.ref 48, .int l4] [] 1042 (c_X1_mayRing_44_48 hS _ rfl) ok_X1_mayRing (by decide +kernel) rfl (fun r g1 hq => ?_)
      rw [hq.1, hq.2]
      show xW k S 0 0 27 [some (.ref 44), some (.ref 48), some (.int l2), some (.int l3), some (.int l4), none] [.int (f_X1_mayRing_44_48 l4 g)] g
      refine xif_eq A (29) 56 30 (by decide +kernel) (fun h2 => ?_) (fun h2 => ?_)
      · rw [if_pos h2] at H
        refine xb A [(.iinc 4 1, 3, 0, 0, .null)] (pc' := 59) (ls' := [some (.ref 44), some (.ref 48), some (.int l2), some (.int l3), some (.int (l4 + 1)), none]) (st' := []) (g' := g) (by decide +kernel) rfl ?_
        refine xgoto A (-51) 8 (by decide +kernel) ?_
        exact ih _ _ _ _ H
      · rw [if_neg h2] at H
        refine xb A [(.aload_n 0, 1, 0, 0, .null), (.aload_n 1, 1, 0, 0, .null), (.iload 4, 2, 0, 0, .null), (.iconst 0, 1, 0, 0, .int 0)] (pc' := 35) (ls' := [some (.ref 44), some (.ref 48), some (.int l2), some (.int l3), some (.int l4), none]) (st' := [.int 0, .int l4, .ref 48, .ref 44]) (g' := g) (by decide +kernel) rfl ?_
        obtain ⟨w1, e1, H⟩ := xbind H
        refine xcallV A (ix := 100) (nxt := 38) hrm hz [.ref 48, .int l4, .int 0] [] 1047 (c_X1_lawNow_44_48 hS _ e1) ok_X1_lawNow (by decide +kernel) rfl (fun r g1 hq => ?_)
        rw [hq.1, hq.2]
        show xW k S 0 0 38 [some (.ref 44), some (.ref 48), some (.int l2), some (.int l3), some (.int l4), none] [.int w1.1] w1.2
        refine xb A [(.istore 5, 2, 0, 0, .null), (.iload_n 2, 1, 0, 0, .null)] (pc' := 41) (ls' := [some (.ref 44), some (.ref 48), some (.int l2), some (.int l3), some (.int l4), some (.int w1.1)]) (st' := [.int l2]) (g' := w1.2) (by decide +kernel) rfl ?_
        refine xif_lt A (9) 50 44 (by decide +kernel) (fun h3 => ?_) (fun h3 => ?_)
        · rw [if_pos h3] at H
          refine xb A [(.iload 4, 2, 0, 0, .null), (.istore_n 2, 1, 0, 0, .null), (.iload 5, 2, 0, 0, .null), (.istore_n 3, 1, 0, 0, .null), (.iinc 4 1, 3, 0, 0, .null)] (pc' := 59) (ls' := [some (.ref 44), some (.ref 48), some (.int l4), some (.int w1.1), some (.int (l4 + 1)), some (.int w1.1)]) (st' := []) (g' := w1.2) (by decide +kernel) rfl ?_
          refine xgoto A (-51) 8 (by decide +kernel) ?_
          refine xweak (ls' := [some (.ref 44), some (.ref 48), some (.int l4), some (.int w1.1), some (.int (l4 + 1)), none]) (by exact ⟨rfl, ⟨rfl, ⟨rfl, ⟨rfl, ⟨rfl, trivial⟩⟩⟩⟩⟩) ?_
          exact ih _ _ _ _ H
        · rw [if_neg h3] at H
          refine xb A [(.iload 5, 2, 0, 0, .null), (.iload_n 3, 1, 0, 0, .null)] (pc' := 47) (ls' := [some (.ref 44), some (.ref 48), some (.int l2), some (.int l3), some (.int l4), some (.int w1.1)]) (st' := [.int l3, .int w1.1]) (g' := w1.2) (by decide +kernel) rfl ?_
          refine xic_le A (9) 56 50 (by decide +kernel) (fun h4 => ?_) (fun h4 => ?_)
          · rw [if_pos h4] at H
            refine xb A [(.iinc 4 1, 3, 0, 0, .null)] (pc' := 59) (ls' := [some (.ref 44), some (.ref 48), some (.int l2), some (.int l3), some (.int (l4 + 1)), some (.int w1.1)]) (st' := []) (g' := w1.2) (by decide +kernel) rfl ?_
            refine xgoto A (-51) 8 (by decide +kernel) ?_
            refine xweak (ls' := [some (.ref 44), some (.ref 48), some (.int l2), some (.int l3), some (.int (l4 + 1)), none]) (by exact ⟨rfl, ⟨rfl, ⟨rfl, ⟨rfl, ⟨rfl, trivial⟩⟩⟩⟩⟩) ?_
            exact ih _ _ _ _ H
          · rw [if_neg h4] at H
            refine xb A [(.iload 4, 2, 0, 0, .null), (.istore_n 2, 1, 0, 0, .null), (.iload 5, 2, 0, 0, .null), (.istore_n 3, 1, 0, 0, .null), (.iinc 4 1, 3, 0, 0, .null)] (pc' := 59) (ls' := [some (.ref 44), some (.ref 48), some (.int l4), some (.int w1.1), some (.int (l4 + 1)), some (.int w1.1)]) (st' := []) (g' := w1.2) (by decide +kernel) rfl ?_
            refine xgoto A (-51) 8 (by decide +kernel) ?_
            refine xweak (ls' := [some (.ref 44), some (.ref 48), some (.int l4), some (.int w1.1), some (.int (l4 + 1)), none]) (by exact ⟨rfl, ⟨rfl, ⟨rfl, ⟨rfl, ⟨rfl, trivial⟩⟩⟩⟩⟩) ?_
            exact ih _ _ _ _ H
set_option maxRecDepth 20000 in
theorem c_X1_ringerOf_44_48 {S : List xSh} (hS : xpf SH1 S) {g : xG}  (out : Int32 × xG) (H : f_X1_ringerOf_44_48  g = some out) : xC mX1_ringerOf 4 99 0 0 S [.ref 44, .ref 48] g S (fun r g' => r = some (.int out.1) ∧ g' = out.2) := by
  have H : (f_X1_ringerOf_44_48_8 xN (-2) 0 0 g) = some out := H
  refine xC.of 1 SH1 [some (.ref 44), some (.ref 48), none, none, none, none] hS (by decide +kernel) rfl (fun _ _ => Nat.le_of_ble_eq_true rfl) (fun _ _ => rfl) ?_
  intro k A hR hrm hz
  refine xb A [(.bipush (-2), 2, 0, 0, .int (-2)), (.istore_n 2, 1, 0, 0, .null), (.iconst 0, 1, 0, 0, .int 0), (.istore_n 3, 1, 0, 0, .null), (.iconst 0, 1, 0, 0, .int 0), (.istore 4, 2, 0, 0, .null)] (pc' := 8) (ls' := [some (.ref 44), some (.ref 48), some (.int (-2)), some (.int 0), some (.int 0), none]) (st' := []) (g' := g) (by decide +kernel) rfl ?_
  exact t_X1_ringerOf_44_48_8 hS A hR hrm hz _ _ _ _ _ H
def f_X1_lies_44_48 (p2 : Int32) (g : xG) : Option (Int32 × xG) :=
  (f_X1_lawFrom_44_48 p2 (f_X4_homeOf_3 p2 g) 0 g).bind fun w1 =>
  if w1.1 = (f_X1_trueFarOf_44 p2 w1.2) then
    some (0, w1.2)
  else
    some (1, w1.2)
set_option maxRecDepth 20000 in
theorem c_X1_lies_44_48 {S : List xSh} (hS : xpf SH1 S) {g : xG} {p2 : Int32} (out : Int32 × xG) (H : f_X1_lies_44_48 p2 g = some out) : xC mX1_lies 3 76 0 0 S [.ref 44, .ref 48, .int p2] g S (fun r g' => r = some (.int out.1) ∧ g' = out.2) := by
  have H : ((f_X1_lawFrom_44_48 p2 (f_X4_homeOf_3 p2 g) 0 g).bind fun w1 =>
if w1.1 = (f_X1_trueFarOf_44 p2 w1.2) then
  some (0, w1.2)
else
  some (1, w1.2)) = some out := H
  refine xC.of 1 SH1 [some (.ref 44), some (.ref 48), some (.int p2)] hS (by decide +kernel) rfl (fun _ _ => Nat.le_of_ble_eq_true rfl) (fun _ _ => rfl) ?_
  intro k A hR hrm hz
  refine xb A [(.aload_n 0, 1, 0, 0, .null), (.aload_n 1, 1, 0, 0, .null), (.iload_n 2, 1, 0, 0, .null), (.aload_n 0, 1, 0, 0, .null), (.getfield 17, 3, 44, 0, .ref 3), (.iload_n 2, 1, 0, 0, .null)] (pc' := 8) (ls' := [some (.ref 44), some (.ref 48), some (.int p2)]) (st' := [.int p2, .ref 3, .int p2, .ref 48, .ref 44]) (g' := g) (by decide +kernel) rfl ?_
  refine xcallV A (ix := 25) (nxt := 11) hrm hz [.int p2] [.int p2, .ref 48, .ref 44] 957 (c_X4_homeOf_3 hS _ rfl) ok_X4_homeOf (by decide +kernel) rfl (fun r g1 hq => ?_)
  rw [hq.1, hq.2]
  show xW k S 0 0 11 [some (.ref 44), some (.ref 48), some (.int p2)] [.int (f_X4_homeOf_3 p2 g), .int p2, .ref 48, .ref 44] g
  refine xb A [(.iconst 0, 1, 0, 0, .int 0)] (pc' := 12) (ls' := [some (.ref 44), some (.ref 48), some (.int p2)]) (st' := [.int 0, .int (f_X4_homeOf_3 p2 g), .int p2, .ref 48, .ref 44]) (g' := g) (by decide +kernel) rfl ?_
  obtain ⟨w1, e1, H⟩ := xbind H
  refine xcallV A (ix := 41) (nxt := 15) hrm hz [.ref 48, .int p2, .int (f_X4_homeOf_3 p2 g), .int 0] [] 964 (c_X1_lawFrom_44_48 hS _ e1) ok_X1_lawFrom (by decide +kernel) rfl (fun r g1 hq => ?_)
  rw [hq.1, hq.2]
  show xW k S 0 0 15 [some (.ref 44), some (.ref 48), some (.int p2)] [.int w1.1] w1.2
  refine xb A [(.aload_n 0, 1, 0, 0, .null), (.iload_n 2, 1, 0, 0, .null)] (pc' := 17) (ls' := [some (.ref 44), some (.ref 48), some (.int p2)]) (st' := [.int p2, .ref 44, .int w1.1]) (g' := w1.2) (by decide +kernel) rfl ?_
  refine xcallV A (ix := 93) (nxt := 20) hrm hz [.int p2] [.int w1.1] 1056 (c_X1_trueFarOf_44 hS _ rfl) ok_X1_trueFarOf (by decide +kernel) rfl (fun r g1 hq => ?_)
  rw [hq.1, hq.2]
  show xW k S 0 0 20 [some (.ref 44), some (.ref 48), some (.int p2)] [.int (f_X1_trueFarOf_44 p2 w1.2), .int w1.1] w1.2
  refine xic_eq A (7) 27 23 (by decide +kernel) (fun h1 => ?_) (fun h1 => ?_)
  · rw [if_pos h1] at H
    refine xb A [(.iconst 0, 1, 0, 0, .int 0)] (pc' := 28) (ls' := [some (.ref 44), some (.ref 48), some (.int p2)]) (st' := [.int 0]) (g' := w1.2) (by decide +kernel) rfl ?_
    obtain rfl := Option.some.inj H
    exact xret_i A hR hz (by decide +kernel) rfl ⟨rfl, rfl⟩
  · rw [if_neg h1] at H
    refine xb A [(.iconst 1, 1, 0, 0, .int 1)] (pc' := 24) (ls' := [some (.ref 44), some (.ref 48), some (.int p2)]) (st' := [.int 1]) (g' := w1.2) (by decide +kernel) rfl ?_
    refine xgoto A (4) 28 (by decide +kernel) ?_
    obtain rfl := Option.some.inj H
    exact xret_i A hR hz (by decide +kernel) rfl ⟨rfl, rfl⟩
def f_X1_mix (p0 : Int32) (p1 : Int32) (g : xG) : Int32 :=
  (((p0 ^^^ p1) * 1103515245) + 12345) ^^^ (((((p0 ^^^ p1) * 1103515245) + 12345).toUInt32 >>> ((15 : Int32).toUInt32 &&& Int32.toUInt32 31)).toInt32)
set_option maxRecDepth 20000 in
theorem c_X1_mix {S : List xSh} (hS : xpf SH1 S) {g : xG} {p0 : Int32} {p1 : Int32} (out : Int32) (H : f_X1_mix p0 p1 g = out) : xC mX1_mix 0 0 0 0 S [.int p0, .int p1] g S (fun r g' => r = some (.int out) ∧ g' = g) := by
  have H : ((((p0 ^^^ p1) * 1103515245) + 12345) ^^^ (((((p0 ^^^ p1) * 1103515245) + 12345).toUInt32 >>> ((15 : Int32).toUInt32 &&& Int32.toUInt32 31)).toInt32)) = out := H
  refine xC.of 1 SH1 [some (.int p0), some (.int p1), none] hS (by decide +kernel) rfl (fun _ _ => Nat.le_of_ble_eq_true rfl) (fun _ _ => rfl) ?_
  intro k A hR hrm hz
  refine xb A [(.iload_n 0, 1, 0, 0, .null), (.iload_n 1, 1, 0, 0, .null), (.ixor, 1, 0, 0, .null), (.ldc 139, 2, 0, 0, .int 1103515245), (.imul, 1, 0, 0, .null), (.sipush 12345, 3, 0, 0, .int 12345), (.iadd, 1, 0, 0, .null), (.istore_n 2, 1, 0, 0, .null), (.iload_n 2, 1, 0, 0, .null), (.iload_n 2, 1, 0, 0, .null), (.bipush 15, 2, 0, 0, .int 15), (.iushr, 1, 0, 0, .null), (.ixor, 1, 0, 0, .null)] (pc' := 17) (ls' := [some (.int p0), some (.int p1), some (.int (((p0 ^^^ p1) * 1103515245) + 12345))]) (st' := [.int ((((p0 ^^^ p1) * 1103515245) + 12345) ^^^ (((((p0 ^^^ p1) * 1103515245) + 12345).toUInt32 >>> ((15 : Int32).toUInt32 &&& Int32.toUInt32 31)).toInt32))]) (g' := g) (by decide +kernel) rfl ?_
  subst H
  exact xret_i A hR hz (by decide +kernel) rfl ⟨rfl, rfl⟩
def f_X1_lot (p0 : Int32) (p1 : Int32) (g : xG) : Option (Int32) :=
  xg (¬ 100 = 0) (
    some ((((f_X1_mix (f_X1_mix p0 191 g) p1 g).toUInt32 >>> ((1 : Int32).toUInt32 &&& Int32.toUInt32 31)).toInt32) - (((f_X1_mix (f_X1_mix p0 191 g) p1 g).toUInt32 >>> ((1 : Int32).toUInt32 &&& Int32.toUInt32 31)).toInt32) / 100 * 100))
set_option maxRecDepth 20000 in
theorem c_X1_lot {S : List xSh} (hS : xpf SH1 S) {g : xG} {p0 : Int32} {p1 : Int32} (out : Int32) (H : f_X1_lot p0 p1 g = some out) : xC mX1_lot 1 22 0 0 S [.int p0, .int p1] g S (fun r g' => r = some (.int out) ∧ g' = g) := by
  have H : (xg (¬ 100 = 0) (
  some ((((f_X1_mix (f_X1_mix p0 191 g) p1 g).toUInt32 >>> ((1 : Int32).toUInt32 &&& Int32.toUInt32 31)).toInt32) - (((f_X1_mix (f_X1_mix p0 191 g) p1 g).toUInt32 >>> ((1 : Int32).toUInt32 &&& Int32.toUInt32 31)).toInt32) / 100 * 100))) = some out := H
  refine xC.of 1 SH1 [some (.int p0), some (.int p1), none] hS (by decide +kernel) rfl (fun _ _ => Nat.le_of_ble_eq_true rfl) (fun _ _ => rfl) ?_
  intro k A hR hrm hz
  refine xb A [(.iload_n 0, 1, 0, 0, .null), (.sipush 191, 3, 0, 0, .int 191)] (pc' := 4) (ls' := [some (.int p0), some (.int p1), none]) (st' := [.int 191, .int p0]) (g' := g) (by decide +kernel) rfl ?_
  refine xcallS A (ix := 136) (nxt := 7) hrm hz [.int p0, .int 191] [] 1060 (c_X1_mix hS _ rfl) ok_X1_mix (by decide +kernel) rfl (fun r g1 hq => ?_)
  rw [hq.1, hq.2]
  show xW k S 0 0 7 [some (.int p0), some (.int p1), none] [.int (f_X1_mix p0 191 g)] g
  refine xb A [(.iload_n 1, 1, 0, 0, .null)] (pc' := 8) (ls' := [some (.int p0), some (.int p1), none]) (st' := [.int p1, .int (f_X1_mix p0 191 g)]) (g' := g) (by decide +kernel) rfl ?_
  refine xcallS A (ix := 136) (nxt := 11) hrm hz [.int (f_X1_mix p0 191 g), .int p1] [] 1060 (c_X1_mix hS _ rfl) ok_X1_mix (by decide +kernel) rfl (fun r g1 hq => ?_)
  rw [hq.1, hq.2]
  show xW k S 0 0 11 [some (.int p0), some (.int p1), none] [.int (f_X1_mix (f_X1_mix p0 191 g) p1 g)] g
  refine xb A [(.istore_n 2, 1, 0, 0, .null), (.iload_n 2, 1, 0, 0, .null), (.iconst 1, 1, 0, 0, .int 1), (.iushr, 1, 0, 0, .null), (.bipush 100, 2, 0, 0, .int 100)] (pc' := 17) (ls' := [some (.int p0), some (.int p1), some (.int (f_X1_mix (f_X1_mix p0 191 g) p1 g))]) (st' := [.int 100, .int (((f_X1_mix (f_X1_mix p0 191 g) p1 g).toUInt32 >>> ((1 : Int32).toUInt32 &&& Int32.toUInt32 31)).toInt32)]) (g' := g) (by decide +kernel) rfl ?_
  obtain ⟨h1, H⟩ := xg_elim H
  refine xirem A (nxt := 18) (by decide +kernel) h1 ?_
  obtain rfl := Option.some.inj H
  exact xret_i A hR hz (by decide +kernel) rfl ⟨rfl, rfl⟩
def f_X1_isFoundOut_44_48 (p2 : Int32) (p3 : Int32) (g : xG) : Option (Int32 × xG) :=
  (f_X1_lies_44_48 p2 g).bind fun w1 =>
  if w1.1 = 0 then
    some (0, w1.2)
  else
    (f_X1_lot p3 ((8 * (f_X6_get_48 0 w1.2)) + p2) w1.2).bind fun w2 =>
    (f_X1_lawNow_44_48 p2 3 w1.2).bind fun w3 =>
    if w3.1 ≤ w2 then
      some (0, w3.2)
    else
      some (1, w3.2)
set_option maxRecDepth 20000 in
theorem c_X1_isFoundOut_44_48 {S : List xSh} (hS : xpf SH1 S) {g : xG} {p2 : Int32} {p3 : Int32} (out : Int32 × xG) (H : f_X1_isFoundOut_44_48 p2 p3 g = some out) : xC mX1_isFoundOut 4 99 0 0 S [.ref 44, .ref 48, .int p2, .int p3] g S (fun r g' => r = some (.int out.1) ∧ g' = out.2) := by
  have H : ((f_X1_lies_44_48 p2 g).bind fun w1 =>
if w1.1 = 0 then
  some (0, w1.2)
else
  (f_X1_lot p3 ((8 * (f_X6_get_48 0 w1.2)) + p2) w1.2).bind fun w2 =>
  (f_X1_lawNow_44_48 p2 3 w1.2).bind fun w3 =>
  if w3.1 ≤ w2 then
    some (0, w3.2)
  else
    some (1, w3.2)) = some out := H
  refine xC.of 1 SH1 [some (.ref 44), some (.ref 48), some (.int p2), some (.int p3)] hS (by decide +kernel) rfl (fun _ _ => Nat.le_of_ble_eq_true rfl) (fun _ _ => rfl) ?_
  intro k A hR hrm hz
  refine xb A [(.aload_n 0, 1, 0, 0, .null), (.aload_n 1, 1, 0, 0, .null), (.iload_n 2, 1, 0, 0, .null)] (pc' := 3) (ls' := [some (.ref 44), some (.ref 48), some (.int p2), some (.int p3)]) (st' := [.int p2, .ref 48, .ref 44]) (g' := g) (by decide +kernel) rfl ?_
  obtain ⟨w1, e1, H⟩ := xbind H
  refine xcallV A (ix := 130) (nxt := 6) hrm hz [.ref 48, .int p2] [] 1052 (c_X1_lies_44_48 hS _ e1) ok_X1_lies (by decide +kernel) rfl (fun r g1 hq => ?_)
  rw [hq.1, hq.2]
  show xW k S 0 0 6 [some (.ref 44), some (.ref 48), some (.int p2), some (.int p3)] [.int w1.1] w1.2
  refine xif_eq A (31) 37 9 (by decide +kernel) (fun h1 => ?_) (fun h1 => ?_)
  · rw [if_pos h1] at H
    refine xb A [(.iconst 0, 1, 0, 0, .int 0)] (pc' := 38) (ls' := [some (.ref 44), some (.ref 48), some (.int p2), some (.int p3)]) (st' := [.int 0]) (g' := w1.2) (by decide +kernel) rfl ?_
    obtain rfl := Option.some.inj H
    exact xret_i A hR hz (by decide +kernel) rfl ⟨rfl, rfl⟩
  · rw [if_neg h1] at H
    refine xb A [(.iload_n 3, 1, 0, 0, .null), (.bipush 8, 2, 0, 0, .int 8), (.aload_n 1, 1, 0, 0, .null), (.iconst 0, 1, 0, 0, .int 0)] (pc' := 14) (ls' := [some (.ref 44), some (.ref 48), some (.int p2), some (.int p3)]) (st' := [.int 0, .ref 48, .int 8, .int p3]) (g' := w1.2) (by decide +kernel) rfl ?_
    refine xcallV A (ix := 57) (nxt := 17) hrm hz [.int 0] [.int 8, .int p3] 971 (c_X6_get_48 hS _ rfl) ok_X6_get (by decide +kernel) rfl (fun r g1 hq => ?_)
    rw [hq.1, hq.2]
    show xW k S 0 0 17 [some (.ref 44), some (.ref 48), some (.int p2), some (.int p3)] [.int (f_X6_get_48 0 w1.2), .int 8, .int p3] w1.2
    refine xb A [(.imul, 1, 0, 0, .null), (.iload_n 2, 1, 0, 0, .null), (.iadd, 1, 0, 0, .null)] (pc' := 20) (ls' := [some (.ref 44), some (.ref 48), some (.int p2), some (.int p3)]) (st' := [.int ((8 * (f_X6_get_48 0 w1.2)) + p2), .int p3]) (g' := w1.2) (by decide +kernel) rfl ?_
    obtain ⟨w2, e2, H⟩ := xbind H
    refine xcallS A (ix := 133) (nxt := 23) hrm hz [.int p3, .int ((8 * (f_X6_get_48 0 w1.2)) + p2)] [] 1057 (c_X1_lot hS _ e2) ok_X1_lot (by decide +kernel) rfl (fun r g1 hq => ?_)
    rw [hq.1, hq.2]
    show xW k S 0 0 23 [some (.ref 44), some (.ref 48), some (.int p2), some (.int p3)] [.int w2] w1.2
    refine xb A [(.aload_n 0, 1, 0, 0, .null), (.aload_n 1, 1, 0, 0, .null), (.iload_n 2, 1, 0, 0, .null), (.iconst 3, 1, 0, 0, .int 3)] (pc' := 27) (ls' := [some (.ref 44), some (.ref 48), some (.int p2), some (.int p3)]) (st' := [.int 3, .int p2, .ref 48, .ref 44, .int w2]) (g' := w1.2) (by decide +kernel) rfl ?_
    obtain ⟨w3, e3, H⟩ := xbind H
    refine xcallV A (ix := 100) (nxt := 30) hrm hz [.ref 48, .int p2, .int 3] [.int w2] 1047 (c_X1_lawNow_44_48 hS _ e3) ok_X1_lawNow (by decide +kernel) rfl (fun r g1 hq => ?_)
    rw [hq.1, hq.2]
    show xW k S 0 0 30 [some (.ref 44), some (.ref 48), some (.int p2), some (.int p3)] [.int w3.1, .int w2] w3.2
    refine xic_ge A (7) 37 33 (by decide +kernel) (fun h2 => ?_) (fun h2 => ?_)
    · rw [if_pos h2] at H
      refine xb A [(.iconst 0, 1, 0, 0, .int 0)] (pc' := 38) (ls' := [some (.ref 44), some (.ref 48), some (.int p2), some (.int p3)]) (st' := [.int 0]) (g' := w3.2) (by decide +kernel) rfl ?_
      obtain rfl := Option.some.inj H
      exact xret_i A hR hz (by decide +kernel) rfl ⟨rfl, rfl⟩
    · rw [if_neg h2] at H
      refine xb A [(.iconst 1, 1, 0, 0, .int 1)] (pc' := 34) (ls' := [some (.ref 44), some (.ref 48), some (.int p2), some (.int p3)]) (st' := [.int 1]) (g' := w3.2) (by decide +kernel) rfl ?_
      refine xgoto A (4) 38 (by decide +kernel) ?_
      obtain rfl := Option.some.inj H
      exact xret_i A hR hz (by decide +kernel) rfl ⟨rfl, rfl⟩
def f_X1_strike_44_48 (p2 : Int32) (g : xG) : Option (xG) :=
  (f_X1_lawNow_44_48 p2 1 g).bind fun w1 =>
  (f_X1_lawNow_44_48 p2 2 w1.2).bind fun w2 =>
  xl (f_X6_set_48 2 w1.1 w2.2) fun w3 =>
  xl (f_X6_setOf_48 p2 23 ((f_X6_of_48 p2 23 w3) + 1) w3) fun w4 =>
  xl (f_X6_setOf_48 p2 29 (f_J9_min_7cf53 99999 ((f_X6_of_48 p2 29 w2.2) + w2.1) w4) w4) fun w5 =>
  some w5
set_option maxRecDepth 20000 in
theorem c_X1_strike_44_48 {S : List xSh} (hS : xpf SH1 S) {g : xG} {p2 : Int32} (out : xG) (H : f_X1_strike_44_48 p2 g = some out) : xC mX1_strike 4 99 0 0 S [.ref 44, .ref 48, .int p2] g S (fun r g' => r = none ∧ g' = out) := by
  have H : ((f_X1_lawNow_44_48 p2 1 g).bind fun w1 =>
(f_X1_lawNow_44_48 p2 2 w1.2).bind fun w2 =>
xl (f_X6_set_48 2 w1.1 w2.2) fun w3 =>
xl (f_X6_setOf_48 p2 23 ((f_X6_of_48 p2 23 w3) + 1) w3) fun w4 =>
xl (f_X6_setOf_48 p2 29 (f_J9_min_7cf53 99999 ((f_X6_of_48 p2 29 w2.2) + w2.1) w4) w4) fun w5 =>
some w5) = some out := H
  refine xC.of 1 SH1 [some (.ref 44), some (.ref 48), some (.int p2), none, none, none] hS (by decide +kernel) rfl (fun _ _ => Nat.le_of_ble_eq_true rfl) (fun _ _ => rfl) ?_
  intro k A hR hrm hz
  refine xb A [(.aload_n 0, 1, 0, 0, .null), (.aload_n 1, 1, 0, 0, .null), (.iload_n 2, 1, 0, 0, .null), (.iconst 1, 1, 0, 0, .int 1)] (pc' := 4) (ls' := [some (.ref 44), some (.ref 48), some (.int p2), none, none, none]) (st' := [.int 1, .int p2, .ref 48, .ref 44]) (g' := g) (by decide +kernel) rfl ?_
  obtain ⟨w1, e1, H⟩ := xbind H
  refine xcallV A (ix := 100) (nxt := 7) hrm hz [.ref 48, .int p2, .int 1] [] 1047 (c_X1_lawNow_44_48 hS _ e1) ok_X1_lawNow (by decide +kernel) rfl (fun r g1 hq => ?_)
  rw [hq.1, hq.2]
  show xW k S 0 0 7 [some (.ref 44), some (.ref 48), some (.int p2), none, none, none] [.int w1.1] w1.2
  refine xb A [(.istore_n 3, 1, 0, 0, .null), (.aload_n 0, 1, 0, 0, .null), (.aload_n 1, 1, 0, 0, .null), (.iload_n 2, 1, 0, 0, .null), (.iconst 2, 1, 0, 0, .int 2)] (pc' := 12) (ls' := [some (.ref 44), some (.ref 48), some (.int p2), some (.int w1.1), none, none]) (st' := [.int 2, .int p2, .ref 48, .ref 44]) (g' := w1.2) (by decide +kernel) rfl ?_
  obtain ⟨w2, e2, H⟩ := xbind H
  refine xcallV A (ix := 100) (nxt := 15) hrm hz [.ref 48, .int p2, .int 2] [] 1047 (c_X1_lawNow_44_48 hS _ e2) ok_X1_lawNow (by decide +kernel) rfl (fun r g1 hq => ?_)
  rw [hq.1, hq.2]
  show xW k S 0 0 15 [some (.ref 44), some (.ref 48), some (.int p2), some (.int w1.1), none, none] [.int w2.1] w2.2
  refine xb A [(.istore 4, 2, 0, 0, .null), (.aload_n 1, 1, 0, 0, .null), (.iload_n 2, 1, 0, 0, .null), (.bipush 29, 2, 0, 0, .int 29)] (pc' := 21) (ls' := [some (.ref 44), some (.ref 48), some (.int p2), some (.int w1.1), some (.int w2.1), none]) (st' := [.int 29, .int p2, .ref 48]) (g' := w2.2) (by decide +kernel) rfl ?_
  refine xcallV A (ix := 51) (nxt := 24) hrm hz [.int p2, .int 29] [] 969 (c_X6_of_48 hS _ rfl) ok_X6_of (by decide +kernel) rfl (fun r g1 hq => ?_)
  rw [hq.1, hq.2]
  show xW k S 0 0 24 [some (.ref 44), some (.ref 48), some (.int p2), some (.int w1.1), some (.int w2.1), none] [.int (f_X6_of_48 p2 29 w2.2)] w2.2
  refine xb A [(.istore 5, 2, 0, 0, .null), (.aload_n 1, 1, 0, 0, .null), (.iconst 2, 1, 0, 0, .int 2), (.iload_n 3, 1, 0, 0, .null)] (pc' := 29) (ls' := [some (.ref 44), some (.ref 48), some (.int p2), some (.int w1.1), some (.int w2.1), some (.int (f_X6_of_48 p2 29 w2.2))]) (st' := [.int w1.1, .int 2, .ref 48]) (g' := w2.2) (by decide +kernel) rfl ?_
  obtain ⟨w3, e3, H⟩ := xl_elim H
  refine xcallV A (ix := 119) (nxt := 32) hrm hz [.int 2, .int w1.1] [] 1065 (c_X6_set_48 hS _ e3) ok_X6_set (by decide +kernel) rfl (fun r g1 hq => ?_)
  rw [hq.1, hq.2]
  show xW k S 0 0 32 [some (.ref 44), some (.ref 48), some (.int p2), some (.int w1.1), some (.int w2.1), some (.int (f_X6_of_48 p2 29 w2.2))] [] w3
  refine xb A [(.aload_n 1, 1, 0, 0, .null), (.iload_n 2, 1, 0, 0, .null), (.bipush 23, 2, 0, 0, .int 23), (.aload_n 1, 1, 0, 0, .null), (.iload_n 2, 1, 0, 0, .null), (.bipush 23, 2, 0, 0, .int 23)] (pc' := 40) (ls' := [some (.ref 44), some (.ref 48), some (.int p2), some (.int w1.1), some (.int w2.1), some (.int (f_X6_of_48 p2 29 w2.2))]) (st' := [.int 23, .int p2, .ref 48, .int 23, .int p2, .ref 48]) (g' := w3) (by decide +kernel) rfl ?_
  refine xcallV A (ix := 51) (nxt := 43) hrm hz [.int p2, .int 23] [.int 23, .int p2, .ref 48] 969 (c_X6_of_48 hS _ rfl) ok_X6_of (by decide +kernel) rfl (fun r g1 hq => ?_)
  rw [hq.1, hq.2]
  show xW k S 0 0 43 [some (.ref 44), some (.ref 48), some (.int p2), some (.int w1.1), some (.int w2.1), some (.int (f_X6_of_48 p2 29 w2.2))] [.int (f_X6_of_48 p2 23 w3), .int 23, .int p2, .ref 48] w3
  refine xb A [(.iconst 1, 1, 0, 0, .int 1), (.iadd, 1, 0, 0, .null)] (pc' := 45) (ls' := [some (.ref 44), some (.ref 48), some (.int p2), some (.int w1.1), some (.int w2.1), some (.int (f_X6_of_48 p2 29 w2.2))]) (st' := [.int ((f_X6_of_48 p2 23 w3) + 1), .int 23, .int p2, .ref 48]) (g' := w3) (by decide +kernel) rfl ?_
  obtain ⟨w4, e4, H⟩ := xl_elim H
  refine xcallV A (ix := 140) (nxt := 48) hrm hz [.int p2, .int 23, .int ((f_X6_of_48 p2 23 w3) + 1)] [] 1070 (c_X6_setOf_48 hS _ e4) ok_X6_setOf (by decide +kernel) rfl (fun r g1 hq => ?_)
  rw [hq.1, hq.2]
  show xW k S 0 0 48 [some (.ref 44), some (.ref 48), some (.int p2), some (.int w1.1), some (.int w2.1), some (.int (f_X6_of_48 p2 29 w2.2))] [] w4
  refine xb A [(.aload_n 1, 1, 0, 0, .null), (.iload_n 2, 1, 0, 0, .null), (.bipush 29, 2, 0, 0, .int 29), (.ldc 144, 2, 0, 0, .int 99999), (.iload 5, 2, 0, 0, .null), (.iload 4, 2, 0, 0, .null), (.iadd, 1, 0, 0, .null)] (pc' := 59) (ls' := [some (.ref 44), some (.ref 48), some (.int p2), some (.int w1.1), some (.int w2.1), some (.int (f_X6_of_48 p2 29 w2.2))]) (st' := [.int ((f_X6_of_48 p2 29 w2.2) + w2.1), .int 99999, .int 29, .int p2, .ref 48]) (g' := w4) (by decide +kernel) rfl ?_
  refine xcallS A (ix := 85) (nxt := 62) hrm hz [.int 99999, .int ((f_X6_of_48 p2 29 w2.2) + w2.1)] [.int 29, .int p2, .ref 48] 995 (c_J9_min_7cf53 hS _ rfl) ok_J9_min_7cf53 (by decide +kernel) rfl (fun r g1 hq => ?_)
  rw [hq.1, hq.2]
  show xW k S 0 0 62 [some (.ref 44), some (.ref 48), some (.int p2), some (.int w1.1), some (.int w2.1), some (.int (f_X6_of_48 p2 29 w2.2))] [.int (f_J9_min_7cf53 99999 ((f_X6_of_48 p2 29 w2.2) + w2.1) w4), .int 29, .int p2, .ref 48] w4
  obtain ⟨w5, e5, H⟩ := xl_elim H
  refine xcallV A (ix := 140) (nxt := 65) hrm hz [.int p2, .int 29, .int (f_J9_min_7cf53 99999 ((f_X6_of_48 p2 29 w2.2) + w2.1) w4)] [] 1070 (c_X6_setOf_48 hS _ e5) ok_X6_setOf (by decide +kernel) rfl (fun r g1 hq => ?_)
  rw [hq.1, hq.2]
  show xW k S 0 0 65 [some (.ref 44), some (.ref 48), some (.int p2), some (.int w1.1), some (.int w2.1), some (.int (f_X6_of_48 p2 29 w2.2))] [] w5
  obtain rfl := Option.some.inj H
  exact xret_v A hR hz (by decide +kernel) ⟨rfl, rfl⟩
def f_X10_roadToward_38_9  (g : xG) : Nat → Int32 → Int32 → Int32 → Int32 → Int32 → Option (Int32)
  | 0, _, _, _, _, _ => none
  | n + 1, l1, l2, l3, l4, l5 =>
    if (f_X4_roads_3 g) ≤ l5 then
      some l3
    else
      if (f_X10_isOpen_38 l5 g) = 0 then
        f_X10_roadToward_38_9 g n l1 l2 l3 l4 (l5 + 1)
      else
        if 999 ≤ (f_X10_between_38 (f_X4_acrossFrom_3 l1 l5 g) l2 g) then
          f_X10_roadToward_38_9 g n l1 l2 l3 l4 (l5 + 1)
        else
          if l3 = (-2) then
            f_X10_roadToward_38_9 g n l1 l2 l5 ((f_X4_milesOf_3 l5 g) + (f_X10_between_38 (f_X4_acrossFrom_3 l1 l5 g) l2 g)) (l5 + 1)
          else
            if l4 ≤ ((f_X4_milesOf_3 l5 g) + (f_X10_between_38 (f_X4_acrossFrom_3 l1 l5 g) l2 g)) then
              f_X10_roadToward_38_9 g n l1 l2 l3 l4 (l5 + 1)
            else
              f_X10_roadToward_38_9 g n l1 l2 l5 ((f_X4_milesOf_3 l5 g) + (f_X10_between_38 (f_X4_acrossFrom_3 l1 l5 g) l2 g)) (l5 + 1)
def f_X10_roadToward_38 (p1 : Int32) (p2 : Int32) (g : xG) : Option (Int32) :=
  f_X10_roadToward_38_9 g xN p1 p2 (-2) 0 0
set_option maxRecDepth 20000 in
theorem t_X10_roadToward_38_9 {k : xK} {S : List xSh} {g : xG} {out : Int32} (hS : xpf SH1 S) (A : xAt k mX10_roadToward.2.1 10 SH1 S) (hR : xRet k 0 0 S (fun r g' => r = some (.int out) ∧ g' = g) mX10_roadToward.2.2.2) (hrm : xrm k = { frames := 3, cells := 0, slots := 0, locals := 64 }) (hz : xhs k = xb0 k + S.length)   : ∀ (n : Nat) (l1 : Int32) (l2 : Int32) (l3 : Int32) (l4 : Int32) (l5 : Int32), f_X10_roadToward_38_9 g n l1 l2 l3 l4 l5 = some out → xW k S 0 0 9 [some (.ref 38), some (.int l1), some (.int l2), some (.int l3), some (.int l4), some (.int l5), none, none] [] g := by
  intro n
  induction n with
  | zero => intro l1 l2 l3 l4 l5 H; exact absurd H (by simp [f_X10_roadToward_38_9])
  | succ n ih =>
    intro l1 l2 l3 l4 l5 H
    have H : (if (f_X4_roads_3 g) ≤ l5 then
  some l3
else
  if (f_X10_isOpen_38 l5 g) = 0 then
    f_X10_roadToward_38_9 g n l1 l2 l3 l4 (l5 + 1)
  else
    if 999 ≤ (f_X10_between_38 (f_X4_acrossFrom_3 l1 l5 g) l2 g) then
      f_X10_roadToward_38_9 g n l1 l2 l3 l4 (l5 + 1)
    else
      if l3 = (-2) then
        f_X10_roadToward_38_9 g n l1 l2 l5 ((f_X4_milesOf_3 l5 g) + (f_X10_between_38 (f_X4_acrossFrom_3 l1 l5 g) l2 g)) (l5 + 1)
      else
        if l4 ≤ ((f_X4_milesOf_3 l5 g) + (f_X10_between_38 (f_X4_acrossFrom_3 l1 l5 g) l2 g)) then
          f_X10_roadToward_38_9 g n l1 l2 l3 l4 (l5 + 1)
        else
          f_X10_roadToward_38_9 g n l1 l2 l5 ((f_X4_milesOf_3 l5 g) + (f_X10_between_38 (f_X4_acrossFrom_3 l1 l5 g) l2 g)) (l5 + 1)) = some out := H
    refine xb A [(.iload 5, 2, 0, 0, .null), (.aload_n 0, 1, 0, 0, .null), (.getfield 15, 3, 38, 0, .ref 3)] (pc' := 15) (ls' := [some (.ref 38), some (.int l1), some (.int l2), some (.int l3), some (.int l4), some (.int l5), none, none]) (st' := [.ref 3, .int l5]) (g' := g) (by decide +kernel) rfl ?_
    refine xcallV A (ix := 23) (nxt := 18) hrm hz [] [.int l5] 498 (c_X4_roads_3 hS _ rfl) ok_X4_roads (by decide +kernel) rfl (fun r g1 hq => ?_)
    rw [hq.1, hq.2]
    show xW k S 0 0 18 [some (.ref 38), some (.int l1), some (.int l2), some (.int l3), some (.int l4), some (.int l5), none, none] [.int (f_X4_roads_3 g), .int l5] g
    refine xic_ge A (77) 95 21 (by decide +kernel) (fun h1 => ?_) (fun h1 => ?_)
    · rw [if_pos h1] at H
      refine xb A [(.iload_n 3, 1, 0, 0, .null)] (pc' := 96) (ls' := [some (.ref 38), some (.int l1), some (.int l2), some (.int l3), some (.int l4), some (.int l5), none, none]) (st' := [.int l3]) (g' := g) (by decide +kernel) rfl ?_
      obtain rfl := Option.some.inj H
      exact xret_i A hR hz (by decide +kernel) rfl ⟨rfl, rfl⟩
    · rw [if_neg h1] at H
      refine xb A [(.aload_n 0, 1, 0, 0, .null), (.aload_n 0, 1, 0, 0, .null), (.getfield 15, 3, 38, 0, .ref 3), (.iload_n 1, 1, 0, 0, .null), (.iload 5, 2, 0, 0, .null)] (pc' := 29) (ls' := [some (.ref 38), some (.int l1), some (.int l2), some (.int l3), some (.int l4), some (.int l5), none, none]) (st' := [.int l5, .int l1, .ref 3, .ref 38]) (g' := g) (by decide +kernel) rfl ?_
      refine xcallV A (ix := 71) (nxt := 32) hrm hz [.int l1, .int l5] [.ref 38] 1080 (c_X4_acrossFrom_3 hS _ rfl) ok_X4_acrossFrom (by decide +kernel) rfl (fun r g1 hq => ?_)
      rw [hq.1, hq.2]
      show xW k S 0 0 32 [some (.ref 38), some (.int l1), some (.int l2), some (.int l3), some (.int l4), some (.int l5), none, none] [.int (f_X4_acrossFrom_3 l1 l5 g), .ref 38] g
      refine xb A [(.iload_n 2, 1, 0, 0, .null)] (pc' := 33) (ls' := [some (.ref 38), some (.int l1), some (.int l2), some (.int l3), some (.int l4), some (.int l5), none, none]) (st' := [.int l2, .int (f_X4_acrossFrom_3 l1 l5 g), .ref 38]) (g' := g) (by decide +kernel) rfl ?_
      refine xcallV A (ix := 50) (nxt := 36) hrm hz [.int (f_X4_acrossFrom_3 l1 l5 g), .int l2] [] 529 (c_X10_between_38 hS _ rfl) ok_X10_between (by decide +kernel) rfl (fun r g1 hq => ?_)
      rw [hq.1, hq.2]
      show xW k S 0 0 36 [some (.ref 38), some (.int l1), some (.int l2), some (.int l3), some (.int l4), some (.int l5), none, none] [.int (f_X10_between_38 (f_X4_acrossFrom_3 l1 l5 g) l2 g)] g
      refine xb A [(.istore 6, 2, 0, 0, .null), (.aload_n 0, 1, 0, 0, .null), (.getfield 15, 3, 38, 0, .ref 3), (.iload 5, 2, 0, 0, .null)] (pc' := 44) (ls' := [some (.ref 38), some (.int l1), some (.int l2), some (.int l3), some (.int l4), some (.int l5), some (.int (f_X10_between_38 (f_X4_acrossFrom_3 l1 l5 g) l2 g)), none]) (st' := [.int l5, .ref 3]) (g' := g) (by decide +kernel) rfl ?_
      refine xcallV A (ix := 40) (nxt := 47) hrm hz [.int l5] [] 521 (c_X4_milesOf_3 hS _ rfl) ok_X4_milesOf (by decide +kernel) rfl (fun r g1 hq => ?_)
      rw [hq.1, hq.2]
      show xW k S 0 0 47 [some (.ref 38), some (.int l1), some (.int l2), some (.int l3), some (.int l4), some (.int l5), some (.int (f_X10_between_38 (f_X4_acrossFrom_3 l1 l5 g) l2 g)), none] [.int (f_X4_milesOf_3 l5 g)] g
      refine xb A [(.iload 6, 2, 0, 0, .null), (.iadd, 1, 0, 0, .null), (.istore 7, 2, 0, 0, .null), (.aload_n 0, 1, 0, 0, .null), (.iload 5, 2, 0, 0, .null)] (pc' := 55) (ls' := [some (.ref 38), some (.int l1), some (.int l2), some (.int l3), some (.int l4), some (.int l5), some (.int (f_X10_between_38 (f_X4_acrossFrom_3 l1 l5 g) l2 g)), some (.int ((f_X4_milesOf_3 l5 g) + (f_X10_between_38 (f_X4_acrossFrom_3 l1 l5 g) l2 g)))]) (st' := [.int l5, .ref 38]) (g' := g) (by decide +kernel) rfl ?_
      refine xcallV A (ix := 29) (nxt := 58) hrm hz [.int l5] [] 502 (c_X10_isOpen_38 hS _ rfl) ok_X10_isOpen (by decide +kernel) rfl (fun r g1 hq => ?_)
      rw [hq.1, hq.2]
      show xW k S 0 0 58 [some (.ref 38), some (.int l1), some (.int l2), some (.int l3), some (.int l4), some (.int l5), some (.int (f_X10_between_38 (f_X4_acrossFrom_3 l1 l5 g) l2 g)), some (.int ((f_X4_milesOf_3 l5 g) + (f_X10_between_38 (f_X4_acrossFrom_3 l1 l5 g) l2 g)))] [.int (f_X10_isOpen_38 l5 g)] g
      refine xif_eq A (31) 89 61 (by decide +kernel) (fun h2 => ?_) (fun h2 => ?_)
      · rw [if_pos h2] at H
        refine xb A [(.iinc 5 1, 3, 0, 0, .null)] (pc' := 92) (ls' := [some (.ref 38), some (.int l1), some (.int l2), some (.int l3), some (.int l4), some (.int (l5 + 1)), some (.int (f_X10_between_38 (f_X4_acrossFrom_3 l1 l5 g) l2 g)), some (.int ((f_X4_milesOf_3 l5 g) + (f_X10_between_38 (f_X4_acrossFrom_3 l1 l5 g) l2 g)))]) (st' := []) (g' := g) (by decide +kernel) rfl ?_
        refine xgoto A (-83) 9 (by decide +kernel) ?_
        refine xweak (ls' := [some (.ref 38), some (.int l1), some (.int l2), some (.int l3), some (.int l4), some (.int (l5 + 1)), none, none]) (by exact ⟨rfl, ⟨rfl, ⟨rfl, ⟨rfl, ⟨rfl, ⟨rfl, trivial⟩⟩⟩⟩⟩⟩) ?_
        exact ih _ _ _ _ _ H
      · rw [if_neg h2] at H
        refine xb A [(.iload 6, 2, 0, 0, .null), (.sipush 999, 3, 0, 0, .int 999)] (pc' := 66) (ls' := [some (.ref 38), some (.int l1), some (.int l2), some (.int l3), some (.int l4), some (.int l5), some (.int (f_X10_between_38 (f_X4_acrossFrom_3 l1 l5 g) l2 g)), some (.int ((f_X4_milesOf_3 l5 g) + (f_X10_between_38 (f_X4_acrossFrom_3 l1 l5 g) l2 g)))]) (st' := [.int 999, .int (f_X10_between_38 (f_X4_acrossFrom_3 l1 l5 g) l2 g)]) (g' := g) (by decide +kernel) rfl ?_
        refine xic_ge A (23) 89 69 (by decide +kernel) (fun h3 => ?_) (fun h3 => ?_)
        · rw [if_pos h3] at H
          refine xb A [(.iinc 5 1, 3, 0, 0, .null)] (pc' := 92) (ls' := [some (.ref 38), some (.int l1), some (.int l2), some (.int l3), some (.int l4), some (.int (l5 + 1)), some (.int (f_X10_between_38 (f_X4_acrossFrom_3 l1 l5 g) l2 g)), some (.int ((f_X4_milesOf_3 l5 g) + (f_X10_between_38 (f_X4_acrossFrom_3 l1 l5 g) l2 g)))]) (st' := []) (g' := g) (by decide +kernel) rfl ?_
          refine xgoto A (-83) 9 (by decide +kernel) ?_
          refine xweak (ls' := [some (.ref 38), some (.int l1), some (.int l2), some (.int l3), some (.int l4), some (.int (l5 + 1)), none, none]) (by exact ⟨rfl, ⟨rfl, ⟨rfl, ⟨rfl, ⟨rfl, ⟨rfl, trivial⟩⟩⟩⟩⟩⟩) ?_
          exact ih _ _ _ _ _ H
        · rw [if_neg h3] at H
          refine xb A [(.iload_n 3, 1, 0, 0, .null), (.bipush (-2), 2, 0, 0, .int (-2))] (pc' := 72) (ls' := [some (.ref 38), some (.int l1), some (.int l2), some (.int l3), some (.int l4), some (.int l5), some (.int (f_X10_between_38 (f_X4_acrossFrom_3 l1 l5 g) l2 g)), some (.int ((f_X4_milesOf_3 l5 g) + (f_X10_between_38 (f_X4_acrossFrom_3 l1 l5 g) l2 g)))]) (st' := [.int (-2), .int l3]) (g' := g) (by decide +kernel) rfl ?_
          refine xic_eq A (10) 82 75 (by decide +kernel) (fun h4 => ?_) (fun h4 => ?_)
          · rw [if_pos h4] at H
            refine xb A [(.iload 5, 2, 0, 0, .null), (.istore_n 3, 1, 0, 0, .null), (.iload 7, 2, 0, 0, .null), (.istore 4, 2, 0, 0, .null), (.iinc 5 1, 3, 0, 0, .null)] (pc' := 92) (ls' := [some (.ref 38), some (.int l1), some (.int l2), some (.int l5), some (.int ((f_X4_milesOf_3 l5 g) + (f_X10_between_38 (f_X4_acrossFrom_3 l1 l5 g) l2 g))), some (.int (l5 + 1)), some (.int (f_X10_between_38 (f_X4_acrossFrom_3 l1 l5 g) l2 g)), some (.int ((f_X4_milesOf_3 l5 g) + (f_X10_between_38 (f_X4_acrossFrom_3 l1 l5 g) l2 g)))]) (st' := []) (g' := g) (by decide +kernel) rfl ?_
            refine xgoto A (-83) 9 (by decide +kernel) ?_
            refine xweak (ls' := [some (.ref 38), some (.int l1), some (.int l2), some (.int l5), some (.int ((f_X4_milesOf_3 l5 g) + (f_X10_between_38 (f_X4_acrossFrom_3 l1 l5 g) l2 g))), some (.int (l5 + 1)), none, none]) (by exact ⟨rfl, ⟨rfl, ⟨rfl, ⟨rfl, ⟨rfl, ⟨rfl, trivial⟩⟩⟩⟩⟩⟩) ?_
            exact ih _ _ _ _ _ H
          · rw [if_neg h4] at H
            refine xb A [(.iload 7, 2, 0, 0, .null), (.iload 4, 2, 0, 0, .null)] (pc' := 79) (ls' := [some (.ref 38), some (.int l1), some (.int l2), some (.int l3), some (.int l4), some (.int l5), some (.int (f_X10_between_38 (f_X4_acrossFrom_3 l1 l5 g) l2 g)), some (.int ((f_X4_milesOf_3 l5 g) + (f_X10_between_38 (f_X4_acrossFrom_3 l1 l5 g) l2 g)))]) (st' := [.int l4, .int ((f_X4_milesOf_3 l5 g) + (f_X10_between_38 (f_X4_acrossFrom_3 l1 l5 g) l2 g))]) (g' := g) (by decide +kernel) rfl ?_
            refine xic_ge A (10) 89 82 (by decide +kernel) (fun h5 => ?_) (fun h5 => ?_)
            · rw [if_pos h5] at H
              refine xb A [(.iinc 5 1, 3, 0, 0, .null)] (pc' := 92) (ls' := [some (.ref 38), some (.int l1), some (.int l2), some (.int l3), some (.int l4), some (.int (l5 + 1)), some (.int (f_X10_between_38 (f_X4_acrossFrom_3 l1 l5 g) l2 g)), some (.int ((f_X4_milesOf_3 l5 g) + (f_X10_between_38 (f_X4_acrossFrom_3 l1 l5 g) l2 g)))]) (st' := []) (g' := g) (by decide +kernel) rfl ?_
              refine xgoto A (-83) 9 (by decide +kernel) ?_
              refine xweak (ls' := [some (.ref 38), some (.int l1), some (.int l2), some (.int l3), some (.int l4), some (.int (l5 + 1)), none, none]) (by exact ⟨rfl, ⟨rfl, ⟨rfl, ⟨rfl, ⟨rfl, ⟨rfl, trivial⟩⟩⟩⟩⟩⟩) ?_
              exact ih _ _ _ _ _ H
            · rw [if_neg h5] at H
              refine xb A [(.iload 5, 2, 0, 0, .null), (.istore_n 3, 1, 0, 0, .null), (.iload 7, 2, 0, 0, .null), (.istore 4, 2, 0, 0, .null), (.iinc 5 1, 3, 0, 0, .null)] (pc' := 92) (ls' := [some (.ref 38), some (.int l1), some (.int l2), some (.int l5), some (.int ((f_X4_milesOf_3 l5 g) + (f_X10_between_38 (f_X4_acrossFrom_3 l1 l5 g) l2 g))), some (.int (l5 + 1)), some (.int (f_X10_between_38 (f_X4_acrossFrom_3 l1 l5 g) l2 g)), some (.int ((f_X4_milesOf_3 l5 g) + (f_X10_between_38 (f_X4_acrossFrom_3 l1 l5 g) l2 g)))]) (st' := []) (g' := g) (by decide +kernel) rfl ?_
              refine xgoto A (-83) 9 (by decide +kernel) ?_
              refine xweak (ls' := [some (.ref 38), some (.int l1), some (.int l2), some (.int l5), some (.int ((f_X4_milesOf_3 l5 g) + (f_X10_between_38 (f_X4_acrossFrom_3 l1 l5 g) l2 g))), some (.int (l5 + 1)), none, none]) (by exact ⟨rfl, ⟨rfl, ⟨rfl, ⟨rfl, ⟨rfl, ⟨rfl, trivial⟩⟩⟩⟩⟩⟩) ?_
              exact ih _ _ _ _ _ H
set_option maxRecDepth 20000 in
theorem c_X10_roadToward_38 {S : List xSh} (hS : xpf SH1 S) {g : xG} {p1 : Int32} {p2 : Int32} (out : Int32) (H : f_X10_roadToward_38 p1 p2 g = some out) : xC mX10_roadToward 3 64 0 0 S [.ref 38, .int p1, .int p2] g S (fun r g' => r = some (.int out) ∧ g' = g) := by
  have H : (f_X10_roadToward_38_9 g xN p1 p2 (-2) 0 0) = some out := H
  refine xC.of 10 SH1 [some (.ref 38), some (.int p1), some (.int p2), none, none, none, none, none] hS (by decide +kernel) rfl (fun _ _ => Nat.le_of_ble_eq_true rfl) (fun _ _ => rfl) ?_
  intro k A hR hrm hz
  refine xb A [(.bipush (-2), 2, 0, 0, .int (-2)), (.istore_n 3, 1, 0, 0, .null), (.iconst 0, 1, 0, 0, .int 0), (.istore 4, 2, 0, 0, .null), (.iconst 0, 1, 0, 0, .int 0), (.istore 5, 2, 0, 0, .null)] (pc' := 9) (ls' := [some (.ref 38), some (.int p1), some (.int p2), some (.int (-2)), some (.int 0), some (.int 0), none, none]) (st' := []) (g' := g) (by decide +kernel) rfl ?_
  exact t_X10_roadToward_38_9 hS A hR hrm hz _ _ _ _ _ _ H
