/-! methods, walked by program -/
def f_X4_towns_23  (g : xG) : Int32 :=
  g.1 23 9
set_option maxRecDepth 20000 in
theorem c_X4_towns_23 {S : List xSh} (hS : xpf SH1 S) {g : xG}  (out : Int32) (H : f_X4_towns_23  g = out) : xC mX4_towns 0 0 0 0 S [.ref 23] g S (fun r g' => r = some (.int out) ∧ g' = g) := by
  have H : (g.1 23 9) = out := H
  refine xC.of 4 SH1 [some (.ref 23)] hS (by decide +kernel) rfl (fun _ _ => Nat.le_of_ble_eq_true rfl) (fun _ _ => rfl) ?_
  intro k A hR hrm hz
  refine xb A [(.aload_n 0, 1, 0, 0, .null), (.getfield 44, 3, 23, 9, .int 0)] (pc' := 4) (ls' := [some (.ref 23)]) (st' := [.int (g.1 23 9)]) (g' := g) (by decide +kernel) rfl ?_
  subst H
  exact xret_i A hR hz (by decide +kernel) rfl ⟨rfl, rfl⟩
def f_X4_addTown_23 (p1 : Int64) (g : xG) : xG :=
  xl (xlput g 24 7 (g.1 23 9) p1) fun w1 =>
  (xupd w1.1 23 9 ((w1.1 23 9) + 1), w1.2)
set_option maxRecDepth 20000 in
theorem c_X4_addTown_23 {S : List xSh} (hS : xpf SH1 S) {g : xG} {p1 : Int64} (out : xG) (H : f_X4_addTown_23 p1 g = out) : xC mX4_addTown 1 23 0 0 S [.ref 23, .long p1] g S (fun r g' => r = none ∧ g' = out) := by
  have H : (xl (xlput g 24 7 (g.1 23 9) p1) fun w1 =>
(xupd w1.1 23 9 ((w1.1 23 9) + 1), w1.2)) = out := H
  refine xC.of 4 SH1 [some (.ref 23), some (.long p1), none] hS (by decide +kernel) rfl (fun _ _ => Nat.le_of_ble_eq_true rfl) (fun _ _ => rfl) ?_
  intro k A hR hrm hz
  refine xb A [(.aload_n 0, 1, 0, 0, .null), (.getfield 9, 3, 23, 0, .ref 24), (.aload_n 0, 1, 0, 0, .null), (.getfield 44, 3, 23, 9, .int 0), (.lload_n 1, 1, 0, 0, .null)] (pc' := 9) (ls' := [some (.ref 23), some (.long p1), none]) (st' := [.long p1, .int (g.1 23 9), .ref 24]) (g' := g) (by decide +kernel) rfl ?_
  obtain ⟨w1, e1, H⟩ := xl_elim H
  refine xcallSN A (ix := 71) (nxt := 12) (host := "NoonRinger") hrm hz [.ref 24, .int (g.1 23 9), .long p1] [] 17 (c_X11_putLong (hS _ _ sh_24) (by decide)) ok_X11_putLong (by decide +kernel) rfl (fun r g1 hq => ?_)
  rw [hq.1, hq.2]
  rw [e1]
  show xW k S 0 0 12 [some (.ref 23), some (.long p1), none] [] w1
  refine xb A [(.aload_n 0, 1, 0, 0, .null), (.dup, 1, 0, 0, .null), (.getfield 44, 3, 23, 9, .int 0), (.iconst 1, 1, 0, 0, .int 1), (.iadd, 1, 0, 0, .null), (.putfield 44, 3, 23, 9, .int 0)] (pc' := 22) (ls' := [some (.ref 23), some (.long p1), none]) (st' := []) (g' := (xupd w1.1 23 9 ((w1.1 23 9) + 1), w1.2)) (by decide +kernel) rfl ?_
  subst H
  exact xret_v A hR hz (by decide +kernel) ⟨rfl, rfl⟩
def f_X3_readTown_17  (g : xG) : Option (xG) :=
  (f_X3_takeOneMore_17 13 (f_X4_towns_23 g) 7 g).bind fun w1 =>
  (f_X3_takeNewName_17 w1).bind fun w2 =>
  xl (f_X4_addTown_23 w2.1 w2.2) fun w3 =>
  some w3
set_option maxRecDepth 20000 in
theorem c_X3_readTown_17 {S : List xSh} (hS : xpf SH1 S) {g : xG}  (out : xG) (H : f_X3_readTown_17  g = some out) : xC mX3_readTown 4 89 0 0 S [.ref 17] g S (fun r g' => r = none ∧ g' = out) := by
  have H : ((f_X3_takeOneMore_17 13 (f_X4_towns_23 g) 7 g).bind fun w1 =>
(f_X3_takeNewName_17 w1).bind fun w2 =>
xl (f_X4_addTown_23 w2.1 w2.2) fun w3 =>
some w3) = some out := H
  refine xC.of 3 SH1 [some (.ref 17)] hS (by decide +kernel) rfl (fun _ _ => Nat.le_of_ble_eq_true rfl) (fun _ _ => rfl) ?_
  intro k A hR hrm hz
  refine xb A [(.aload_n 0, 1, 0, 0, .null), (.bipush 13, 2, 0, 0, .int 13), (.aload_n 0, 1, 0, 0, .null), (.getfield 21, 3, 17, 2, .ref 23)] (pc' := 7) (ls' := [some (.ref 17)]) (st' := [.ref 23, .int 13, .ref 17]) (g' := g) (by decide +kernel) rfl ?_
  refine xcallV A (ix := 85) (nxt := 10) hrm hz [] [.int 13, .ref 17] 737 (c_X4_towns_23 hS _ rfl) ok_X4_towns (by decide +kernel) rfl (fun r g1 hq => ?_)
  rw [hq.1, hq.2]
  show xW k S 0 0 10 [some (.ref 17)] [.int (f_X4_towns_23 g), .int 13, .ref 17] g
  refine xb A [(.bipush 7, 2, 0, 0, .int 7)] (pc' := 12) (ls' := [some (.ref 17)]) (st' := [.int 7, .int (f_X4_towns_23 g), .int 13, .ref 17]) (g' := g) (by decide +kernel) rfl ?_
  obtain ⟨w1, e1, H⟩ := xbind H
  refine xcallV A (ix := 89) (nxt := 15) hrm hz [.int 13, .int (f_X4_towns_23 g), .int 7] [] 738 (c_X3_takeOneMore_17 hS _ e1) ok_X3_takeOneMore (by decide +kernel) rfl (fun r g1 hq => ?_)
  rw [hq.1, hq.2]
  show xW k S 0 0 15 [some (.ref 17)] [] w1
  refine xb A [(.aload_n 0, 1, 0, 0, .null), (.getfield 21, 3, 17, 2, .ref 23), (.aload_n 0, 1, 0, 0, .null)] (pc' := 20) (ls' := [some (.ref 17)]) (st' := [.ref 17, .ref 23]) (g' := w1) (by decide +kernel) rfl ?_
  obtain ⟨w2, e2, H⟩ := xbind H
  refine xcallV A (ix := 93) (nxt := 23) hrm hz [] [.ref 23] 750 (c_X3_takeNewName_17 hS _ e2) ok_X3_takeNewName (by decide +kernel) rfl (fun r g1 hq => ?_)
  rw [hq.1, hq.2]
  show xW k S 0 0 23 [some (.ref 17)] [.long w2.1, .ref 23] w2.2
  obtain ⟨w3, e3, H⟩ := xl_elim H
  refine xcallV A (ix := 97) (nxt := 26) hrm hz [.long w2.1] [] 768 (c_X4_addTown_23 hS _ e3) ok_X4_addTown (by decide +kernel) rfl (fun r g1 hq => ?_)
  rw [hq.1, hq.2]
  show xW k S 0 0 26 [some (.ref 17)] [] w3
  obtain rfl := Option.some.inj H
  exact xret_v A hR hz (by decide +kernel) ⟨rfl, rfl⟩
def f_X3_readText_17_159 (k35 : Int32 → xG → Option (Int32 × xG)) (l1 : Int32) (g : xG) : Option (Int32 × xG) :=
  (f_X9_kindAt_18 (g.1 17 5) g).bind fun w13 =>
  (f_X3_readLaw_17 w13 g).bind fun w14 =>
  (f_X3_take_17 4 w14).bind fun w15 =>
  k35 (l1 + 1) w15
def f_X3_readText_17_35  : Nat → Int32 → xG → Option (Int32 × xG)
  | 0, _, _ => none
  | n + 1, l1, g =>
    if 400 < l1 then
      if (g.1 17 6) = 0 then
        some (g.1 17 7, g)
      else
        some (g.1 17 6, g)
    else
      if (g.1 17 6) = 0 then
        (f_X9_kindAt_18 (g.1 17 5) g).bind fun w3 =>
        if w3 = 0 then
          if (g.1 17 6) = 0 then
            some (g.1 17 7, g)
          else
            some (g.1 17 6, g)
        else
          (f_X9_kindAt_18 (g.1 17 5) g).bind fun w4 =>
          if w4 = 13 then
            (f_X3_readTown_17 g).bind fun w5 =>
            (f_X3_take_17 4 w5).bind fun w6 =>
            f_X3_readText_17_35 n (l1 + 1) w6
          else
            if w4 = 14 then
              (f_X3_readRoad_17 g).bind fun w7 =>
              (f_X3_take_17 4 w7).bind fun w8 =>
              f_X3_readText_17_35 n (l1 + 1) w8
            else
              if w4 = 15 then
                (f_X3_readPerson_17 g).bind fun w9 =>
                (f_X3_take_17 4 w9).bind fun w10 =>
                f_X3_readText_17_35 n (l1 + 1) w10
              else
                if w4 = 16 then
                  (f_X3_readCapital_17 g).bind fun w11 =>
                  (f_X3_take_17 4 w11).bind fun w12 =>
                  f_X3_readText_17_35 n (l1 + 1) w12
                else
                  if w4 = 17 then
                    f_X3_readText_17_159 (f_X3_readText_17_35 n) l1 g
                  else
                    if w4 = 18 then
                      f_X3_readText_17_159 (f_X3_readText_17_35 n) l1 g
                    else
                      if w4 = 19 then
                        f_X3_readText_17_159 (f_X3_readText_17_35 n) l1 g
                      else
                        if w4 = 20 then
                          f_X3_readText_17_159 (f_X3_readText_17_35 n) l1 g
                        else
                          if w4 = 21 then
                            (f_X3_readSeed_17 g).bind fun w16 =>
                            (f_X3_take_17 4 w16).bind fun w17 =>
                            f_X3_readText_17_35 n (l1 + 1) w17
                          else
                            xl (f_X3_stop_17 1 g) fun w18 =>
                            (f_X3_take_17 4 w18).bind fun w19 =>
                            f_X3_readText_17_35 n (l1 + 1) w19
      else
        if (g.1 17 6) = 0 then
          some (g.1 17 7, g)
        else
          some (g.1 17 6, g)
def f_X3_readText_17  (g : xG) : Option (Int32 × xG) :=
  (f_X9_scan_18_1 g).bind fun w1 =>
  xl (f_X4_clear_23 w1) fun w2 =>
  f_X3_readText_17_35 xN 0 (xupd (xupd (xupd w2.1 17 5 0) 17 6 0) 17 7 0, w2.2)
set_option maxRecDepth 20000 in
theorem t_X3_readText_17_159 {k : xK} {S : List xSh} {out : Int32 × xG} (hS : xpf SH1 S) (A : xAt k mX3_readText.2.1 3 SH1 S) (hR : xRet k 0 0 S (fun r g' => r = some (.int out.1) ∧ g' = out.2) mX3_readText.2.2.2) (hrm : xrm k = { frames := 6, cells := 0, slots := 0, locals := 138 }) (hz : xhs k = xb0 k + S.length) {k35 : Int32 → xG → Option (Int32 × xG)} (hk35 : ∀ (l1 : Int32) (g : xG), k35 l1 g = some out → xW k S 0 0 35 [some (.ref 17), some (.int l1)] [] g) : ∀ (l1 : Int32) (g : xG), f_X3_readText_17_159 k35 l1 g = some out → xW k S 0 0 159 [some (.ref 17), some (.int l1)] [] g := by
  intro l1 g H
  have H : ((f_X9_kindAt_18 (g.1 17 5) g).bind fun w13 =>
(f_X3_readLaw_17 w13 g).bind fun w14 =>
(f_X3_take_17 4 w14).bind fun w15 =>
k35 (l1 + 1) w15) = some out := H
  refine xb A [(.aload_n 0, 1, 0, 0, .null), (.aload_n 0, 1, 0, 0, .null), (.getfield 14, 3, 17, 1, .ref 18), (.aload_n 0, 1, 0, 0, .null), (.getfield 37, 3, 17, 5, .int 0)] (pc' := 168) (ls' := [some (.ref 17), some (.int l1)]) (st' := [.int (g.1 17 5), .ref 18, .ref 17]) (g' := g) (by decide +kernel) rfl ?_
  obtain ⟨w13, e13, H⟩ := xbind H
  refine xcallV A (ix := 57) (nxt := 171) hrm hz [.int (g.1 17 5)] [.ref 17] 732 (c_X9_kindAt_18 hS _ e13) ok_X9_kindAt (by decide +kernel) rfl (fun r g1 hq => ?_)
  rw [hq.1, hq.2]
  show xW k S 0 0 171 [some (.ref 17), some (.int l1)] [.int w13, .ref 17] g
  obtain ⟨w14, e14, H⟩ := xbind H
  refine xcallV A (ix := 75) (nxt := 174) hrm hz [.int w13] [] 817 (c_X3_readLaw_17 hS _ e14) ok_X3_readLaw (by decide +kernel) rfl (fun r g1 hq => ?_)
  rw [hq.1, hq.2]
  show xW k S 0 0 174 [some (.ref 17), some (.int l1)] [] w14
  refine xgoto A (8) 182 (by decide +kernel) ?_
  refine xb A [(.aload_n 0, 1, 0, 0, .null), (.iconst 4, 1, 0, 0, .int 4)] (pc' := 184) (ls' := [some (.ref 17), some (.int l1)]) (st' := [.int 4, .ref 17]) (g' := w14) (by decide +kernel) rfl ?_
  obtain ⟨w15, e15, H⟩ := xbind H
  refine xcallV A (ix := 82) (nxt := 187) hrm hz [.int 4] [] 746 (c_X3_take_17 hS _ e15) ok_X3_take (by decide +kernel) rfl (fun r g1 hq => ?_)
  rw [hq.1, hq.2]
  show xW k S 0 0 187 [some (.ref 17), some (.int l1)] [] w15
  refine xb A [(.iinc 1 1, 3, 0, 0, .null)] (pc' := 190) (ls' := [some (.ref 17), some (.int (l1 + 1))]) (st' := []) (g' := w15) (by decide +kernel) rfl ?_
  refine xgoto A (-155) 35 (by decide +kernel) ?_
  exact hk35 _ _ H
set_option maxRecDepth 20000 in
theorem t_X3_readText_17_35 {k : xK} {S : List xSh} {out : Int32 × xG} (hS : xpf SH1 S) (A : xAt k mX3_readText.2.1 3 SH1 S) (hR : xRet k 0 0 S (fun r g' => r = some (.int out.1) ∧ g' = out.2) mX3_readText.2.2.2) (hrm : xrm k = { frames := 6, cells := 0, slots := 0, locals := 138 }) (hz : xhs k = xb0 k + S.length)   : ∀ (n : Nat) (l1 : Int32) (g : xG), f_X3_readText_17_35 n l1 g = some out → xW k S 0 0 35 [some (.ref 17), some (.int l1)] [] g := by
  intro n
  induction n with
  | zero => intro l1 g H; exact absurd H (by simp [f_X3_readText_17_35])
  | succ n ih =>
    intro l1 g H
    have H : (if 400 < l1 then
  if (g.1 17 6) = 0 then
    some (g.1 17 7, g)
  else
    some (g.1 17 6, g)
else
  if (g.1 17 6) = 0 then
    (f_X9_kindAt_18 (g.1 17 5) g).bind fun w3 =>
    if w3 = 0 then
      if (g.1 17 6) = 0 then
        some (g.1 17 7, g)
      else
        some (g.1 17 6, g)
    else
      (f_X9_kindAt_18 (g.1 17 5) g).bind fun w4 =>
      if w4 = 13 then
        (f_X3_readTown_17 g).bind fun w5 =>
        (f_X3_take_17 4 w5).bind fun w6 =>
        f_X3_readText_17_35 n (l1 + 1) w6
      else
        if w4 = 14 then
          (f_X3_readRoad_17 g).bind fun w7 =>
          (f_X3_take_17 4 w7).bind fun w8 =>
          f_X3_readText_17_35 n (l1 + 1) w8
        else
          if w4 = 15 then
            (f_X3_readPerson_17 g).bind fun w9 =>
            (f_X3_take_17 4 w9).bind fun w10 =>
            f_X3_readText_17_35 n (l1 + 1) w10
          else
            if w4 = 16 then
              (f_X3_readCapital_17 g).bind fun w11 =>
              (f_X3_take_17 4 w11).bind fun w12 =>
              f_X3_readText_17_35 n (l1 + 1) w12
            else
              if w4 = 17 then
                f_X3_readText_17_159 (f_X3_readText_17_35 n) l1 g
              else
                if w4 = 18 then
                  f_X3_readText_17_159 (f_X3_readText_17_35 n) l1 g
                else
                  if w4 = 19 then
                    f_X3_readText_17_159 (f_X3_readText_17_35 n) l1 g
                  else
                    if w4 = 20 then
                      f_X3_readText_17_159 (f_X3_readText_17_35 n) l1 g
                    else
                      if w4 = 21 then
                        (f_X3_readSeed_17 g).bind fun w16 =>
                        (f_X3_take_17 4 w16).bind fun w17 =>
                        f_X3_readText_17_35 n (l1 + 1) w17
                      else
                        xl (f_X3_stop_17 1 g) fun w18 =>
                        (f_X3_take_17 4 w18).bind fun w19 =>
                        f_X3_readText_17_35 n (l1 + 1) w19
  else
    if (g.1 17 6) = 0 then
      some (g.1 17 7, g)
    else
      some (g.1 17 6, g)) = some out := H
    refine xb A [(.iload_n 1, 1, 0, 0, .null), (.sipush 400, 3, 0, 0, .int 400)] (pc' := 39) (ls' := [some (.ref 17), some (.int l1)]) (st' := [.int 400, .int l1]) (g' := g) (by decide +kernel) rfl ?_
    refine xic_gt A (154) 193 42 (by decide +kernel) (fun h1 => ?_) (fun h1 => ?_)
    · rw [if_pos h1] at H
      refine xb A [(.aload_n 0, 1, 0, 0, .null), (.getfield 33, 3, 17, 6, .int 0)] (pc' := 197) (ls' := [some (.ref 17), some (.int l1)]) (st' := [.int (g.1 17 6)]) (g' := g) (by decide +kernel) rfl ?_
      refine xif_eq A (10) 207 200 (by decide +kernel) (fun h2 => ?_) (fun h2 => ?_)
      · rw [if_pos h2] at H
        refine xb A [(.aload_n 0, 1, 0, 0, .null), (.getfield 44, 3, 17, 7, .int 0)] (pc' := 211) (ls' := [some (.ref 17), some (.int l1)]) (st' := [.int (g.1 17 7)]) (g' := g) (by decide +kernel) rfl ?_
        obtain rfl := Option.some.inj H
        exact xret_i A hR hz (by decide +kernel) rfl ⟨rfl, rfl⟩
      · rw [if_neg h2] at H
        refine xb A [(.aload_n 0, 1, 0, 0, .null), (.getfield 33, 3, 17, 6, .int 0)] (pc' := 204) (ls' := [some (.ref 17), some (.int l1)]) (st' := [.int (g.1 17 6)]) (g' := g) (by decide +kernel) rfl ?_
        refine xgoto A (7) 211 (by decide +kernel) ?_
        obtain rfl := Option.some.inj H
        exact xret_i A hR hz (by decide +kernel) rfl ⟨rfl, rfl⟩
    · rw [if_neg h1] at H
      refine xb A [(.aload_n 0, 1, 0, 0, .null), (.getfield 33, 3, 17, 6, .int 0)] (pc' := 46) (ls' := [some (.ref 17), some (.int l1)]) (st' := [.int (g.1 17 6)]) (g' := g) (by decide +kernel) rfl ?_
      refine xif_ne A (147) 193 49 (by decide +kernel) (fun h3 => ?_) (fun h3 => ?_)
      · rw [if_neg h3] at H
        refine xb A [(.aload_n 0, 1, 0, 0, .null), (.getfield 33, 3, 17, 6, .int 0)] (pc' := 197) (ls' := [some (.ref 17), some (.int l1)]) (st' := [.int (g.1 17 6)]) (g' := g) (by decide +kernel) rfl ?_
        refine xif_eq A (10) 207 200 (by decide +kernel) (fun h4 => ?_) (fun h4 => ?_)
        · rw [if_pos h4] at H
          refine xb A [(.aload_n 0, 1, 0, 0, .null), (.getfield 44, 3, 17, 7, .int 0)] (pc' := 211) (ls' := [some (.ref 17), some (.int l1)]) (st' := [.int (g.1 17 7)]) (g' := g) (by decide +kernel) rfl ?_
          obtain rfl := Option.some.inj H
          exact xret_i A hR hz (by decide +kernel) rfl ⟨rfl, rfl⟩
        · rw [if_neg h4] at H
          refine xb A [(.aload_n 0, 1, 0, 0, .null), (.getfield 33, 3, 17, 6, .int 0)] (pc' := 204) (ls' := [some (.ref 17), some (.int l1)]) (st' := [.int (g.1 17 6)]) (g' := g) (by decide +kernel) rfl ?_
          refine xgoto A (7) 211 (by decide +kernel) ?_
          obtain rfl := Option.some.inj H
          exact xret_i A hR hz (by decide +kernel) rfl ⟨rfl, rfl⟩
      · rw [if_pos h3] at H
        refine xb A [(.aload_n 0, 1, 0, 0, .null), (.getfield 14, 3, 17, 1, .ref 18), (.aload_n 0, 1, 0, 0, .null), (.getfield 37, 3, 17, 5, .int 0)] (pc' := 57) (ls' := [some (.ref 17), some (.int l1)]) (st' := [.int (g.1 17 5), .ref 18]) (g' := g) (by decide +kernel) rfl ?_
        obtain ⟨w3, e3, H⟩ := xbind H
        refine xcallV A (ix := 57) (nxt := 60) hrm hz [.int (g.1 17 5)] [] 732 (c_X9_kindAt_18 hS _ e3) ok_X9_kindAt (by decide +kernel) rfl (fun r g1 hq => ?_)
        rw [hq.1, hq.2]
        show xW k S 0 0 60 [some (.ref 17), some (.int l1)] [.int w3] g
        refine xif_eq A (133) 193 63 (by decide +kernel) (fun h5 => ?_) (fun h5 => ?_)
        · rw [if_pos h5] at H
          refine xb A [(.aload_n 0, 1, 0, 0, .null), (.getfield 33, 3, 17, 6, .int 0)] (pc' := 197) (ls' := [some (.ref 17), some (.int l1)]) (st' := [.int (g.1 17 6)]) (g' := g) (by decide +kernel) rfl ?_
          refine xif_eq A (10) 207 200 (by decide +kernel) (fun h6 => ?_) (fun h6 => ?_)
          · rw [if_pos h6] at H
            refine xb A [(.aload_n 0, 1, 0, 0, .null), (.getfield 44, 3, 17, 7, .int 0)] (pc' := 211) (ls' := [some (.ref 17), some (.int l1)]) (st' := [.int (g.1 17 7)]) (g' := g) (by decide +kernel) rfl ?_
            obtain rfl := Option.some.inj H
            exact xret_i A hR hz (by decide +kernel) rfl ⟨rfl, rfl⟩
          · rw [if_neg h6] at H
            refine xb A [(.aload_n 0, 1, 0, 0, .null), (.getfield 33, 3, 17, 6, .int 0)] (pc' := 204) (ls' := [some (.ref 17), some (.int l1)]) (st' := [.int (g.1 17 6)]) (g' := g) (by decide +kernel) rfl ?_
            refine xgoto A (7) 211 (by decide +kernel) ?_
            obtain rfl := Option.some.inj H
            exact xret_i A hR hz (by decide +kernel) rfl ⟨rfl, rfl⟩
        · rw [if_neg h5] at H
          refine xb A [(.aload_n 0, 1, 0, 0, .null), (.getfield 14, 3, 17, 1, .ref 18), (.aload_n 0, 1, 0, 0, .null), (.getfield 37, 3, 17, 5, .int 0)] (pc' := 71) (ls' := [some (.ref 17), some (.int l1)]) (st' := [.int (g.1 17 5), .ref 18]) (g' := g) (by decide +kernel) rfl ?_
          obtain ⟨w4, e4, H⟩ := xbind H
          refine xcallV A (ix := 57) (nxt := 74) hrm hz [.int (g.1 17 5)] [] 732 (c_X9_kindAt_18 hS _ e4) ok_X9_kindAt (by decide +kernel) rfl (fun r g1 hq => ?_)
          rw [hq.1, hq.2]
          show xW k S 0 0 74 [some (.ref 17), some (.int l1)] [.int w4] g
          by_cases h7 : w4 = 13
          · rw [if_pos h7] at H
            refine xtabIn A (dflt := 103) (lo := 13) (hi := 21) (off := 50) (offs := #[(50), (57), (64), (71), (85), (85), (85), (85), (78)]) (len := 50) (tgt := 124) (13) (by rw [h7]; rfl) (by decide +kernel) ?_
            refine xb A [(.aload_n 0, 1, 0, 0, .null)] (pc' := 125) (ls' := [some (.ref 17), some (.int l1)]) (st' := [.ref 17]) (g' := g) (by decide +kernel) rfl ?_
            obtain ⟨w5, e5, H⟩ := xbind H
            refine xcallV A (ix := 60) (nxt := 128) hrm hz [] [] 733 (c_X3_readTown_17 hS _ e5) ok_X3_readTown (by decide +kernel) rfl (fun r g1 hq => ?_)
            rw [hq.1, hq.2]
            show xW k S 0 0 128 [some (.ref 17), some (.int l1)] [] w5
            refine xgoto A (54) 182 (by decide +kernel) ?_
            refine xb A [(.aload_n 0, 1, 0, 0, .null), (.iconst 4, 1, 0, 0, .int 4)] (pc' := 184) (ls' := [some (.ref 17), some (.int l1)]) (st' := [.int 4, .ref 17]) (g' := w5) (by decide +kernel) rfl ?_
            obtain ⟨w6, e6, H⟩ := xbind H
            refine xcallV A (ix := 82) (nxt := 187) hrm hz [.int 4] [] 746 (c_X3_take_17 hS _ e6) ok_X3_take (by decide +kernel) rfl (fun r g1 hq => ?_)
            rw [hq.1, hq.2]
            show xW k S 0 0 187 [some (.ref 17), some (.int l1)] [] w6
            refine xb A [(.iinc 1 1, 3, 0, 0, .null)] (pc' := 190) (ls' := [some (.ref 17), some (.int (l1 + 1))]) (st' := []) (g' := w6) (by decide +kernel) rfl ?_
            refine xgoto A (-155) 35 (by decide +kernel) ?_
            exact ih _ _ H
          · rw [if_neg h7] at H
            by_cases h8 : w4 = 14
            · rw [if_pos h8] at H
              refine xtabIn A (dflt := 103) (lo := 13) (hi := 21) (off := 57) (offs := #[(50), (57), (64), (71), (85), (85), (85), (85), (78)]) (len := 50) (tgt := 131) (14) (by rw [h8]; rfl) (by decide +kernel) ?_
              refine xb A [(.aload_n 0, 1, 0, 0, .null)] (pc' := 132) (ls' := [some (.ref 17), some (.int l1)]) (st' := [.ref 17]) (g' := g) (by decide +kernel) rfl ?_
              obtain ⟨w7, e7, H⟩ := xbind H
              refine xcallV A (ix := 63) (nxt := 135) hrm hz [] [] 773 (c_X3_readRoad_17 hS _ e7) ok_X3_readRoad (by decide +kernel) rfl (fun r g1 hq => ?_)
              rw [hq.1, hq.2]
              show xW k S 0 0 135 [some (.ref 17), some (.int l1)] [] w7
              refine xgoto A (47) 182 (by decide +kernel) ?_
              refine xb A [(.aload_n 0, 1, 0, 0, .null), (.iconst 4, 1, 0, 0, .int 4)] (pc' := 184) (ls' := [some (.ref 17), some (.int l1)]) (st' := [.int 4, .ref 17]) (g' := w7) (by decide +kernel) rfl ?_
              obtain ⟨w8, e8, H⟩ := xbind H
              refine xcallV A (ix := 82) (nxt := 187) hrm hz [.int 4] [] 746 (c_X3_take_17 hS _ e8) ok_X3_take (by decide +kernel) rfl (fun r g1 hq => ?_)
              rw [hq.1, hq.2]
              show xW k S 0 0 187 [some (.ref 17), some (.int l1)] [] w8
              refine xb A [(.iinc 1 1, 3, 0, 0, .null)] (pc' := 190) (ls' := [some (.ref 17), some (.int (l1 + 1))]) (st' := []) (g' := w8) (by decide +kernel) rfl ?_
              refine xgoto A (-155) 35 (by decide +kernel) ?_
              exact ih _ _ H
            · rw [if_neg h8] at H
              by_cases h9 : w4 = 15
              · rw [if_pos h9] at H
                refine xtabIn A (dflt := 103) (lo := 13) (hi := 21) (off := 64) (offs := #[(50), (57), (64), (71), (85), (85), (85), (85), (78)]) (len := 50) (tgt := 138) (15) (by rw [h9]; rfl) (by decide +kernel) ?_
                refine xb A [(.aload_n 0, 1, 0, 0, .null)] (pc' := 139) (ls' := [some (.ref 17), some (.int l1)]) (st' := [.ref 17]) (g' := g) (by decide +kernel) rfl ?_
                obtain ⟨w9, e9, H⟩ := xbind H
                refine xcallV A (ix := 66) (nxt := 142) hrm hz [] [] 792 (c_X3_readPerson_17 hS _ e9) ok_X3_readPerson (by decide +kernel) rfl (fun r g1 hq => ?_)
                rw [hq.1, hq.2]
                show xW k S 0 0 142 [some (.ref 17), some (.int l1)] [] w9
                refine xgoto A (40) 182 (by decide +kernel) ?_
                refine xb A [(.aload_n 0, 1, 0, 0, .null), (.iconst 4, 1, 0, 0, .int 4)] (pc' := 184) (ls' := [some (.ref 17), some (.int l1)]) (st' := [.int 4, .ref 17]) (g' := w9) (by decide +kernel) rfl ?_
                obtain ⟨w10, e10, H⟩ := xbind H
                refine xcallV A (ix := 82) (nxt := 187) hrm hz [.int 4] [] 746 (c_X3_take_17 hS _ e10) ok_X3_take (by decide +kernel) rfl (fun r g1 hq => ?_)
                rw [hq.1, hq.2]
                show xW k S 0 0 187 [some (.ref 17), some (.int l1)] [] w10
                refine xb A [(.iinc 1 1, 3, 0, 0, .null)] (pc' := 190) (ls' := [some (.ref 17), some (.int (l1 + 1))]) (st' := []) (g' := w10) (by decide +kernel) rfl ?_
                refine xgoto A (-155) 35 (by decide +kernel) ?_
                exact ih _ _ H
              · rw [if_neg h9] at H
                by_cases h10 : w4 = 16
                · rw [if_pos h10] at H
                  refine xtabIn A (dflt := 103) (lo := 13) (hi := 21) (off := 71) (offs := #[(50), (57), (64), (71), (85), (85), (85), (85), (78)]) (len := 50) (tgt := 145) (16) (by rw [h10]; rfl) (by decide +kernel) ?_
                  refine xb A [(.aload_n 0, 1, 0, 0, .null)] (pc' := 146) (ls' := [some (.ref 17), some (.int l1)]) (st' := [.ref 17]) (g' := g) (by decide +kernel) rfl ?_
                  obtain ⟨w11, e11, H⟩ := xbind H
                  refine xcallV A (ix := 69) (nxt := 149) hrm hz [] [] 801 (c_X3_readCapital_17 hS _ e11) ok_X3_readCapital (by decide +kernel) rfl (fun r g1 hq => ?_)
                  rw [hq.1, hq.2]
                  show xW k S 0 0 149 [some (.ref 17), some (.int l1)] [] w11
                  refine xgoto A (33) 182 (by decide +kernel) ?_
                  refine xb A [(.aload_n 0, 1, 0, 0, .null), (.iconst 4, 1, 0, 0, .int 4)] (pc' := 184) (ls' := [some (.ref 17), some (.int l1)]) (st' := [.int 4, .ref 17]) (g' := w11) (by decide +kernel) rfl ?_
                  obtain ⟨w12, e12, H⟩ := xbind H
                  refine xcallV A (ix := 82) (nxt := 187) hrm hz [.int 4] [] 746 (c_X3_take_17 hS _ e12) ok_X3_take (by decide +kernel) rfl (fun r g1 hq => ?_)
                  rw [hq.1, hq.2]
                  show xW k S 0 0 187 [some (.ref 17), some (.int l1)] [] w12
                  refine xb A [(.iinc 1 1, 3, 0, 0, .null)] (pc' := 190) (ls' := [some (.ref 17), some (.int (l1 + 1))]) (st' := []) (g' := w12) (by decide +kernel) rfl ?_
                  refine xgoto A (-155) 35 (by decide +kernel) ?_
                  exact ih _ _ H
                · rw [if_neg h10] at H
                  by_cases h11 : w4 = 17
                  · rw [if_pos h11] at H
                    refine xtabIn A (dflt := 103) (lo := 13) (hi := 21) (off := 85) (offs := #[(50), (57), (64), (71), (85), (85), (85), (85), (78)]) (len := 50) (tgt := 159) (17) (by rw [h11]; rfl) (by decide +kernel) ?_
                    exact t_X3_readText_17_159 hS A hR hrm hz ih _ _ H
                  · rw [if_neg h11] at H
                    by_cases h12 : w4 = 18
                    · rw [if_pos h12] at H
                      refine xtabIn A (dflt := 103) (lo := 13) (hi := 21) (off := 85) (offs := #[(50), (57), (64), (71), (85), (85), (85), (85), (78)]) (len := 50) (tgt := 159) (18) (by rw [h12]; rfl) (by decide +kernel) ?_
                      exact t_X3_readText_17_159 hS A hR hrm hz ih _ _ H
                    · rw [if_neg h12] at H
                      by_cases h13 : w4 = 19
                      · rw [if_pos h13] at H
                        refine xtabIn A (dflt := 103) (lo := 13) (hi := 21) (off := 85) (offs := #[(50), (57), (64), (71), (85), (85), (85), (85), (78)]) (len := 50) (tgt := 159) (19) (by rw [h13]; rfl) (by decide +kernel) ?_
                        exact t_X3_readText_17_159 hS A hR hrm hz ih _ _ H
                      · rw [if_neg h13] at H
                        by_cases h14 : w4 = 20
                        · rw [if_pos h14] at H
                          refine xtabIn A (dflt := 103) (lo := 13) (hi := 21) (off := 85) (offs := #[(50), (57), (64), (71), (85), (85), (85), (85), (78)]) (len := 50) (tgt := 159) (20) (by rw [h14]; rfl) (by decide +kernel) ?_
                          exact t_X3_readText_17_159 hS A hR hrm hz ih _ _ H
                        · rw [if_neg h14] at H
                          by_cases h15 : w4 = 21
                          · rw [if_pos h15] at H
                            refine xtabIn A (dflt := 103) (lo := 13) (hi := 21) (off := 78) (offs := #[(50), (57), (64), (71), (85), (85), (85), (85), (78)]) (len := 50) (tgt := 152) (21) (by rw [h15]; rfl) (by decide +kernel) ?_
                            refine xb A [(.aload_n 0, 1, 0, 0, .null)] (pc' := 153) (ls' := [some (.ref 17), some (.int l1)]) (st' := [.ref 17]) (g' := g) (by decide +kernel) rfl ?_
                            obtain ⟨w16, e16, H⟩ := xbind H
                            refine xcallV A (ix := 72) (nxt := 156) hrm hz [] [] 809 (c_X3_readSeed_17 hS _ e16) ok_X3_readSeed (by decide +kernel) rfl (fun r g1 hq => ?_)
                            rw [hq.1, hq.2]
                            show xW k S 0 0 156 [some (.ref 17), some (.int l1)] [] w16
                            refine xgoto A (26) 182 (by decide +kernel) ?_
                            refine xb A [(.aload_n 0, 1, 0, 0, .null), (.iconst 4, 1, 0, 0, .int 4)] (pc' := 184) (ls' := [some (.ref 17), some (.int l1)]) (st' := [.int 4, .ref 17]) (g' := w16) (by decide +kernel) rfl ?_
                            obtain ⟨w17, e17, H⟩ := xbind H
                            refine xcallV A (ix := 82) (nxt := 187) hrm hz [.int 4] [] 746 (c_X3_take_17 hS _ e17) ok_X3_take (by decide +kernel) rfl (fun r g1 hq => ?_)
                            rw [hq.1, hq.2]
                            show xW k S 0 0 187 [some (.ref 17), some (.int l1)] [] w17
                            refine xb A [(.iinc 1 1, 3, 0, 0, .null)] (pc' := 190) (ls' := [some (.ref 17), some (.int (l1 + 1))]) (st' := []) (g' := w17) (by decide +kernel) rfl ?_
                            refine xgoto A (-155) 35 (by decide +kernel) ?_
                            exact ih _ _ H
                          · rw [if_neg h15] at H
                            refine xtabOut A (dflt := 103) (lo := 13) (hi := 21) (offs := #[(50), (57), (64), (71), (85), (85), (85), (85), (78)]) (len := 50) (tgt := 177) (by decide +kernel) ?_ ?_
                            · have e0 := lv_neT (a := 13) h7 rfl; have e1 := lv_neT (a := 14) h8 rfl; have e2 := lv_neT (a := 15) h9 rfl; have e3 := lv_neT (a := 16) h10 rfl; have e4 := lv_neT (a := 17) h11 rfl; have e5 := lv_neT (a := 18) h12 rfl; have e6 := lv_neT (a := 19) h13 rfl; have e7 := lv_neT (a := 20) h14 rfl; have e8 := lv_neT (a := 21) h15 rfl; omega
                            · skip
                              refine xb A [(.aload_n 0, 1, 0, 0, .null), (.iconst 1, 1, 0, 0, .int 1)] (pc' := 179) (ls' := [some (.ref 17), some (.int l1)]) (st' := [.int 1, .ref 17]) (g' := g) (by decide +kernel) rfl ?_
                              obtain ⟨w18, e18, H⟩ := xl_elim H
                              refine xcallV A (ix := 79) (nxt := 182) hrm hz [.int 1] [] 742 (c_X3_stop_17 hS _ e18) ok_X3_stop (by decide +kernel) rfl (fun r g1 hq => ?_)
                              rw [hq.1, hq.2]
                              show xW k S 0 0 182 [some (.ref 17), some (.int l1)] [] w18
                              refine xb A [(.aload_n 0, 1, 0, 0, .null), (.iconst 4, 1, 0, 0, .int 4)] (pc' := 184) (ls' := [some (.ref 17), some (.int l1)]) (st' := [.int 4, .ref 17]) (g' := w18) (by decide +kernel) rfl ?_
                              obtain ⟨w19, e19, H⟩ := xbind H
                              refine xcallV A (ix := 82) (nxt := 187) hrm hz [.int 4] [] 746 (c_X3_take_17 hS _ e19) ok_X3_take (by decide +kernel) rfl (fun r g1 hq => ?_)
                              rw [hq.1, hq.2]
                              show xW k S 0 0 187 [some (.ref 17), some (.int l1)] [] w19
                              refine xb A [(.iinc 1 1, 3, 0, 0, .null)] (pc' := 190) (ls' := [some (.ref 17), some (.int (l1 + 1))]) (st' := []) (g' := w19) (by decide +kernel) rfl ?_
                              refine xgoto A (-155) 35 (by decide +kernel) ?_
                              exact ih _ _ H
set_option maxRecDepth 20000 in
theorem c_X3_readText_17 {S : List xSh} (hS : xpf SH1 S) {g : xG}  (out : Int32 × xG) (H : f_X3_readText_17  g = some out) : xC mX3_readText 6 138 0 0 S [.ref 17] g S (fun r g' => r = some (.int out.1) ∧ g' = out.2) := by
  have H : ((f_X9_scan_18_1 g).bind fun w1 =>
xl (f_X4_clear_23 w1) fun w2 =>
f_X3_readText_17_35 xN 0 (xupd (xupd (xupd w2.1 17 5 0) 17 6 0) 17 7 0, w2.2)) = some out := H
  refine xC.of 3 SH1 [some (.ref 17), none] hS (by decide +kernel) rfl (fun _ _ => Nat.le_of_ble_eq_true rfl) (fun _ _ => rfl) ?_
  intro k A hR hrm hz
  refine xb A [(.aload_n 0, 1, 0, 0, .null), (.getfield 14, 3, 17, 1, .ref 18), (.aload_n 0, 1, 0, 0, .null), (.getfield 29, 3, 17, 0, .ref 1)] (pc' := 8) (ls' := [some (.ref 17), none]) (st' := [.ref 1, .ref 18]) (g' := g) (by decide +kernel) rfl ?_
  obtain ⟨w1, e1, H⟩ := xbind H
  refine xcallV A (ix := 50) (nxt := 11) hrm hz [.ref 1] [] 631 (c_X9_scan_18_1 hS _ e1) ok_X9_scan (by decide +kernel) rfl (fun r g1 hq => ?_)
  rw [hq.1, hq.2]
  show xW k S 0 0 11 [some (.ref 17), none] [] w1
  refine xb A [(.aload_n 0, 1, 0, 0, .null), (.getfield 21, 3, 17, 2, .ref 23)] (pc' := 15) (ls' := [some (.ref 17), none]) (st' := [.ref 23]) (g' := w1) (by decide +kernel) rfl ?_
  obtain ⟨w2, e2, H⟩ := xl_elim H
  refine xcallV A (ix := 54) (nxt := 18) hrm hz [] [] 731 (c_X4_clear_23 hS _ e2) ok_X4_clear (by decide +kernel) rfl (fun r g1 hq => ?_)
  rw [hq.1, hq.2]
  show xW k S 0 0 18 [some (.ref 17), none] [] w2
  refine xb A [(.aload_n 0, 1, 0, 0, .null), (.iconst 0, 1, 0, 0, .int 0), (.putfield 37, 3, 17, 5, .int 0), (.aload_n 0, 1, 0, 0, .null), (.iconst 0, 1, 0, 0, .int 0), (.putfield 33, 3, 17, 6, .int 0), (.aload_n 0, 1, 0, 0, .null), (.iconst 0, 1, 0, 0, .int 0), (.putfield 44, 3, 17, 7, .int 0), (.iconst 0, 1, 0, 0, .int 0), (.istore_n 1, 1, 0, 0, .null)] (pc' := 35) (ls' := [some (.ref 17), some (.int 0)]) (st' := []) (g' := (xupd (xupd (xupd w2.1 17 5 0) 17 6 0) 17 7 0, w2.2)) (by decide +kernel) rfl ?_
  exact t_X3_readText_17_35 hS A hR hrm hz _ _ _ H
def f_X3_faultPlace_17  (g : xG) : Int32 :=
  if (g.1 17 6) = 0 then
    if (g.1 17 7) = 0 then
      (-1)
    else
      f_X9_startOf_18 (g.1 17 8) g
  else
    f_X9_startOf_18 (g.1 17 5) g
set_option maxRecDepth 20000 in
theorem c_X3_faultPlace_17 {S : List xSh} (hS : xpf SH1 S) {g : xG}  (out : Int32) (H : f_X3_faultPlace_17  g = out) : xC mX3_faultPlace 2 42 0 0 S [.ref 17] g S (fun r g' => r = some (.int out) ∧ g' = g) := by
  have H : (if (g.1 17 6) = 0 then
  if (g.1 17 7) = 0 then
    (-1)
  else
    f_X9_startOf_18 (g.1 17 8) g
else
  f_X9_startOf_18 (g.1 17 5) g) = out := H
  refine xC.of 3 SH1 [some (.ref 17)] hS (by decide +kernel) rfl (fun _ _ => Nat.le_of_ble_eq_true rfl) (fun _ _ => rfl) ?_
  intro k A hR hrm hz
  refine xb A [(.aload_n 0, 1, 0, 0, .null), (.getfield 33, 3, 17, 6, .int 0)] (pc' := 4) (ls' := [some (.ref 17)]) (st' := [.int (g.1 17 6)]) (g' := g) (by decide +kernel) rfl ?_
  refine xif_eq A (15) 19 7 (by decide +kernel) (fun h1 => ?_) (fun h1 => ?_)
  · rw [if_pos h1] at H
    refine xb A [(.aload_n 0, 1, 0, 0, .null), (.getfield 44, 3, 17, 7, .int 0)] (pc' := 23) (ls' := [some (.ref 17)]) (st' := [.int (g.1 17 7)]) (g' := g) (by decide +kernel) rfl ?_
    refine xif_eq A (17) 40 26 (by decide +kernel) (fun h2 => ?_) (fun h2 => ?_)
    · rw [if_pos h2] at H
      refine xb A [(.iconst (-1), 1, 0, 0, .int (-1))] (pc' := 41) (ls' := [some (.ref 17)]) (st' := [.int (-1)]) (g' := g) (by decide +kernel) rfl ?_
      subst H
      exact xret_i A hR hz (by decide +kernel) rfl ⟨rfl, rfl⟩
    · rw [if_neg h2] at H
      refine xb A [(.aload_n 0, 1, 0, 0, .null), (.getfield 14, 3, 17, 1, .ref 18), (.aload_n 0, 1, 0, 0, .null), (.getfield 47, 3, 17, 8, .int 0)] (pc' := 34) (ls' := [some (.ref 17)]) (st' := [.int (g.1 17 8), .ref 18]) (g' := g) (by decide +kernel) rfl ?_
      refine xcallV A (ix := 40) (nxt := 37) hrm hz [.int (g.1 17 8)] [] 864 (c_X9_startOf_18 hS _ rfl) ok_X9_startOf (by decide +kernel) rfl (fun r g1 hq => ?_)
      rw [hq.1, hq.2]
      show xW k S 0 0 37 [some (.ref 17)] [.int (f_X9_startOf_18 (g.1 17 8) g)] g
      refine xgoto A (4) 41 (by decide +kernel) ?_
      subst H
      exact xret_i A hR hz (by decide +kernel) rfl ⟨rfl, rfl⟩
  · rw [if_neg h1] at H
    refine xb A [(.aload_n 0, 1, 0, 0, .null), (.getfield 14, 3, 17, 1, .ref 18), (.aload_n 0, 1, 0, 0, .null), (.getfield 37, 3, 17, 5, .int 0)] (pc' := 15) (ls' := [some (.ref 17)]) (st' := [.int (g.1 17 5), .ref 18]) (g' := g) (by decide +kernel) rfl ?_
    refine xcallV A (ix := 40) (nxt := 18) hrm hz [.int (g.1 17 5)] [] 864 (c_X9_startOf_18 hS _ rfl) ok_X9_startOf (by decide +kernel) rfl (fun r g1 hq => ?_)
    rw [hq.1, hq.2]
    show xW k S 0 0 18 [some (.ref 17)] [.int (f_X9_startOf_18 (g.1 17 5) g)] g
    subst H
    exact xret_i A hR hz (by decide +kernel) rfl ⟨rfl, rfl⟩
def f_X8_clear_1  (g : xG) : xG :=
  (xupd g.1 1 1 0, g.2)
set_option maxRecDepth 20000 in
theorem c_X8_clear_1 {S : List xSh} (hS : xpf SH1 S) {g : xG}  (out : xG) (H : f_X8_clear_1  g = out) : xC mX8_clear 0 0 0 0 S [.ref 1] g S (fun r g' => r = none ∧ g' = out) := by
  have H : ((xupd g.1 1 1 0, g.2)) = out := H
  refine xC.of 8 SH1 [some (.ref 1)] hS (by decide +kernel) rfl (fun _ _ => Nat.le_of_ble_eq_true rfl) (fun _ _ => rfl) ?_
  intro k A hR hrm hz
  refine xb A [(.aload_n 0, 1, 0, 0, .null), (.iconst 0, 1, 0, 0, .int 0), (.putfield 13, 3, 1, 1, .int 0)] (pc' := 5) (ls' := [some (.ref 1)]) (st' := []) (g' := (xupd g.1 1 1 0, g.2)) (by decide +kernel) rfl ?_
  subst H
  exact xret_v A hR hz (by decide +kernel) ⟨rfl, rfl⟩
def f_X2_copyFrom_12_32  (g : xG) : xG :=
  xl (xcopy g 33 13 408) fun w1 =>
  xl (xcopy w1 34 14 408) fun w2 =>
  xl (xcopy w2 35 15 4) fun w3 =>
  (xupd w3.1 12 4 (w3.1 32 4), w3.2)
set_option maxRecDepth 20000 in
theorem c_X2_copyFrom_12_32 {S : List xSh} (hS : xpf SH1 S) {g : xG}  (out : xG) (H : f_X2_copyFrom_12_32  g = out) : xC mX2_copyFrom 1 22 0 0 S [.ref 12, .ref 32] g S (fun r g' => r = none ∧ g' = out) := by
  have H : (xl (xcopy g 33 13 408) fun w1 =>
xl (xcopy w1 34 14 408) fun w2 =>
xl (xcopy w2 35 15 4) fun w3 =>
(xupd w3.1 12 4 (w3.1 32 4), w3.2)) = out := H
  refine xC.of 2 SH1 [some (.ref 12), some (.ref 32)] hS (by decide +kernel) rfl (fun _ _ => Nat.le_of_ble_eq_true rfl) (fun _ _ => rfl) ?_
  intro k A hR hrm hz
  refine xb A [(.aload_n 1, 1, 0, 0, .null), (.getfield 13, 3, 32, 0, .ref 33), (.aload_n 0, 1, 0, 0, .null), (.getfield 13, 3, 12, 0, .ref 13)] (pc' := 8) (ls' := [some (.ref 12), some (.ref 32)]) (st' := [.ref 13, .ref 33]) (g' := g) (by decide +kernel) rfl ?_
  obtain ⟨w1, e1, H⟩ := xl_elim H
  refine xcallSN A (ix := 38) (nxt := 11) (host := "NoonRinger") hrm hz [.ref 33, .ref 13] [] 22 (c_X11_copyAll (hS _ _ sh_33) (hS _ _ sh_13) (by decide) (by decide)) ok_X11_copyAll (by decide +kernel) rfl (fun r g1 hq => ?_)
  rw [hq.1, hq.2]
  rw [e1]
  show xW k S 0 0 11 [some (.ref 12), some (.ref 32)] [] w1
  refine xb A [(.aload_n 1, 1, 0, 0, .null), (.getfield 17, 3, 32, 1, .ref 34), (.aload_n 0, 1, 0, 0, .null), (.getfield 17, 3, 12, 1, .ref 14)] (pc' := 19) (ls' := [some (.ref 12), some (.ref 32)]) (st' := [.ref 14, .ref 34]) (g' := w1) (by decide +kernel) rfl ?_
  obtain ⟨w2, e2, H⟩ := xl_elim H
  refine xcallSN A (ix := 38) (nxt := 22) (host := "NoonRinger") hrm hz [.ref 34, .ref 14] [] 22 (c_X11_copyAll (hS _ _ sh_34) (hS _ _ sh_14) (by decide) (by decide)) ok_X11_copyAll (by decide +kernel) rfl (fun r g1 hq => ?_)
  rw [hq.1, hq.2]
  rw [e2]
  show xW k S 0 0 22 [some (.ref 12), some (.ref 32)] [] w2
  refine xb A [(.aload_n 1, 1, 0, 0, .null), (.getfield 20, 3, 32, 2, .ref 35), (.aload_n 0, 1, 0, 0, .null), (.getfield 20, 3, 12, 2, .ref 15)] (pc' := 30) (ls' := [some (.ref 12), some (.ref 32)]) (st' := [.ref 15, .ref 35]) (g' := w2) (by decide +kernel) rfl ?_
  obtain ⟨w3, e3, H⟩ := xl_elim H
  refine xcallSN A (ix := 38) (nxt := 33) (host := "NoonRinger") hrm hz [.ref 35, .ref 15] [] 22 (c_X11_copyAll (hS _ _ sh_35) (hS _ _ sh_15) (by decide) (by decide)) ok_X11_copyAll (by decide +kernel) rfl (fun r g1 hq => ?_)
  rw [hq.1, hq.2]
  rw [e3]
  show xW k S 0 0 33 [some (.ref 12), some (.ref 32)] [] w3
  refine xb A [(.aload_n 0, 1, 0, 0, .null), (.aload_n 1, 1, 0, 0, .null), (.getfield 26, 3, 32, 4, .int 0), (.putfield 26, 3, 12, 4, .int 0)] (pc' := 41) (ls' := [some (.ref 12), some (.ref 32)]) (st' := []) (g' := (xupd w3.1 12 4 (w3.1 32 4), w3.2)) (by decide +kernel) rfl ?_
  subst H
  exact xret_v A hR hz (by decide +kernel) ⟨rfl, rfl⟩
def f_X4_copyFrom_3_23  (g : xG) : xG :=
  xl (xcopy g 25 5 10) fun w1 =>
  xl (xcopy w1 26 6 10) fun w2 =>
  xl (xcopy w2 27 7 10) fun w3 =>
  xl (xcopy w3 29 9 6) fun w4 =>
  xl (xcopy w4 30 10 6) fun w5 =>
  xl (xcopy w5 31 11 6) fun w6 =>
  xl (f_X2_copyFrom_12_32 w6) fun w7 =>
  (xupd (xupd (xupd (xupd (xupd w7.1 3 9 (w7.1 23 9)) 3 10 (w7.1 23 10)) 3 11 (w7.1 23 11)) 3 12 (w7.1 23 12)) 3 13 (w7.1 23 13), w7.2)
set_option maxRecDepth 20000 in
theorem c_X4_copyFrom_3_23 {S : List xSh} (hS : xpf SH1 S) {g : xG}  (out : xG) (H : f_X4_copyFrom_3_23  g = out) : xC mX4_copyFrom 2 43 0 0 S [.ref 3, .ref 23] g S (fun r g' => r = none ∧ g' = out) := by
  have H : (xl (xcopy g 25 5 10) fun w1 =>
xl (xcopy w1 26 6 10) fun w2 =>
xl (xcopy w2 27 7 10) fun w3 =>
xl (xcopy w3 29 9 6) fun w4 =>
xl (xcopy w4 30 10 6) fun w5 =>
xl (xcopy w5 31 11 6) fun w6 =>
xl (f_X2_copyFrom_12_32 w6) fun w7 =>
(xupd (xupd (xupd (xupd (xupd w7.1 3 9 (w7.1 23 9)) 3 10 (w7.1 23 10)) 3 11 (w7.1 23 11)) 3 12 (w7.1 23 12)) 3 13 (w7.1 23 13), w7.2)) = out := H
  refine xC.of 4 SH1 [some (.ref 3), some (.ref 23)] hS (by decide +kernel) rfl (fun _ _ => Nat.le_of_ble_eq_true rfl) (fun _ _ => rfl) ?_
  intro k A hR hrm hz
  refine xb A [(.aload_n 1, 1, 0, 0, .null), (.getfield 15, 3, 23, 1, .ref 25), (.aload_n 0, 1, 0, 0, .null), (.getfield 15, 3, 3, 1, .ref 5)] (pc' := 8) (ls' := [some (.ref 3), some (.ref 23)]) (st' := [.ref 5, .ref 25]) (g' := g) (by decide +kernel) rfl ?_
  obtain ⟨w1, e1, H⟩ := xl_elim H
  refine xcallSN A (ix := 63) (nxt := 11) (host := "NoonRinger") hrm hz [.ref 25, .ref 5] [] 21 (c_X11_copyAll (hS _ _ sh_25) (hS _ _ sh_5) (by decide) (by decide)) ok_X11_copyAll (by decide +kernel) rfl (fun r g1 hq => ?_)
  rw [hq.1, hq.2]
  rw [e1]
  show xW k S 0 0 11 [some (.ref 3), some (.ref 23)] [] w1
  refine xb A [(.aload_n 1, 1, 0, 0, .null), (.getfield 19, 3, 23, 2, .ref 26), (.aload_n 0, 1, 0, 0, .null), (.getfield 19, 3, 3, 2, .ref 6)] (pc' := 19) (ls' := [some (.ref 3), some (.ref 23)]) (st' := [.ref 6, .ref 26]) (g' := w1) (by decide +kernel) rfl ?_
  obtain ⟨w2, e2, H⟩ := xl_elim H
  refine xcallSN A (ix := 63) (nxt := 22) (host := "NoonRinger") hrm hz [.ref 26, .ref 6] [] 21 (c_X11_copyAll (hS _ _ sh_26) (hS _ _ sh_6) (by decide) (by decide)) ok_X11_copyAll (by decide +kernel) rfl (fun r g1 hq => ?_)
  rw [hq.1, hq.2]
  rw [e2]
  show xW k S 0 0 22 [some (.ref 3), some (.ref 23)] [] w2
  refine xb A [(.aload_n 1, 1, 0, 0, .null), (.getfield 22, 3, 23, 3, .ref 27), (.aload_n 0, 1, 0, 0, .null), (.getfield 22, 3, 3, 3, .ref 7)] (pc' := 30) (ls' := [some (.ref 3), some (.ref 23)]) (st' := [.ref 7, .ref 27]) (g' := w2) (by decide +kernel) rfl ?_
  obtain ⟨w3, e3, H⟩ := xl_elim H
  refine xcallSN A (ix := 63) (nxt := 33) (host := "NoonRinger") hrm hz [.ref 27, .ref 7] [] 21 (c_X11_copyAll (hS _ _ sh_27) (hS _ _ sh_7) (by decide) (by decide)) ok_X11_copyAll (by decide +kernel) rfl (fun r g1 hq => ?_)
  rw [hq.1, hq.2]
  rw [e3]
  show xW k S 0 0 33 [some (.ref 3), some (.ref 23)] [] w3
  refine xb A [(.aload_n 1, 1, 0, 0, .null), (.getfield 28, 3, 23, 5, .ref 29), (.aload_n 0, 1, 0, 0, .null), (.getfield 28, 3, 3, 5, .ref 9)] (pc' := 41) (ls' := [some (.ref 3), some (.ref 23)]) (st' := [.ref 9, .ref 29]) (g' := w3) (by decide +kernel) rfl ?_
  obtain ⟨w4, e4, H⟩ := xl_elim H
  refine xcallSN A (ix := 63) (nxt := 44) (host := "NoonRinger") hrm hz [.ref 29, .ref 9] [] 21 (c_X11_copyAll (hS _ _ sh_29) (hS _ _ sh_9) (by decide) (by decide)) ok_X11_copyAll (by decide +kernel) rfl (fun r g1 hq => ?_)
  rw [hq.1, hq.2]
  rw [e4]
  show xW k S 0 0 44 [some (.ref 3), some (.ref 23)] [] w4
  refine xb A [(.aload_n 1, 1, 0, 0, .null), (.getfield 31, 3, 23, 6, .ref 30), (.aload_n 0, 1, 0, 0, .null), (.getfield 31, 3, 3, 6, .ref 10)] (pc' := 52) (ls' := [some (.ref 3), some (.ref 23)]) (st' := [.ref 10, .ref 30]) (g' := w4) (by decide +kernel) rfl ?_
  obtain ⟨w5, e5, H⟩ := xl_elim H
  refine xcallSN A (ix := 63) (nxt := 55) (host := "NoonRinger") hrm hz [.ref 30, .ref 10] [] 21 (c_X11_copyAll (hS _ _ sh_30) (hS _ _ sh_10) (by decide) (by decide)) ok_X11_copyAll (by decide +kernel) rfl (fun r g1 hq => ?_)
  rw [hq.1, hq.2]
  rw [e5]
  show xW k S 0 0 55 [some (.ref 3), some (.ref 23)] [] w5
  refine xb A [(.aload_n 1, 1, 0, 0, .null), (.getfield 34, 3, 23, 7, .ref 31), (.aload_n 0, 1, 0, 0, .null), (.getfield 34, 3, 3, 7, .ref 11)] (pc' := 63) (ls' := [some (.ref 3), some (.ref 23)]) (st' := [.ref 11, .ref 31]) (g' := w5) (by decide +kernel) rfl ?_
  obtain ⟨w6, e6, H⟩ := xl_elim H
  refine xcallSN A (ix := 63) (nxt := 66) (host := "NoonRinger") hrm hz [.ref 31, .ref 11] [] 21 (c_X11_copyAll (hS _ _ sh_31) (hS _ _ sh_11) (by decide) (by decide)) ok_X11_copyAll (by decide +kernel) rfl (fun r g1 hq => ?_)
  rw [hq.1, hq.2]
  rw [e6]
  show xW k S 0 0 66 [some (.ref 3), some (.ref 23)] [] w6
  refine xb A [(.aload_n 0, 1, 0, 0, .null), (.getfield 40, 3, 3, 8, .ref 12), (.aload_n 1, 1, 0, 0, .null), (.getfield 40, 3, 23, 8, .ref 32)] (pc' := 74) (ls' := [some (.ref 3), some (.ref 23)]) (st' := [.ref 32, .ref 12]) (g' := w6) (by decide +kernel) rfl ?_
  obtain ⟨w7, e7, H⟩ := xl_elim H
  refine xcallV A (ix := 67) (nxt := 77) hrm hz [.ref 32] [] 880 (c_X2_copyFrom_12_32 hS _ e7) ok_X2_copyFrom (by decide +kernel) rfl (fun r g1 hq => ?_)
  rw [hq.1, hq.2]
  show xW k S 0 0 77 [some (.ref 3), some (.ref 23)] [] w7
  refine xb A [(.aload_n 0, 1, 0, 0, .null), (.aload_n 1, 1, 0, 0, .null), (.getfield 44, 3, 23, 9, .int 0), (.putfield 44, 3, 3, 9, .int 0), (.aload_n 0, 1, 0, 0, .null), (.aload_n 1, 1, 0, 0, .null), (.getfield 48, 3, 23, 10, .int 0), (.putfield 48, 3, 3, 10, .int 0), (.aload_n 0, 1, 0, 0, .null), (.aload_n 1, 1, 0, 0, .null), (.getfield 51, 3, 23, 11, .int 0), (.putfield 51, 3, 3, 11, .int 0), (.aload_n 0, 1, 0, 0, .null), (.aload_n 1, 1, 0, 0, .null), (.getfield 54, 3, 23, 12, .int 0), (.putfield 54, 3, 3, 12, .int 0), (.aload_n 0, 1, 0, 0, .null), (.aload_n 1, 1, 0, 0, .null), (.getfield 57, 3, 23, 13, .int 0), (.putfield 57, 3, 3, 13, .int 0)] (pc' := 117) (ls' := [some (.ref 3), some (.ref 23)]) (st' := []) (g' := (xupd (xupd (xupd (xupd (xupd w7.1 3 9 (w7.1 23 9)) 3 10 (w7.1 23 10)) 3 11 (w7.1 23 11)) 3 12 (w7.1 23 12)) 3 13 (w7.1 23 13), w7.2)) (by decide +kernel) rfl ?_
  subst H
  exact xret_v A hR hz (by decide +kernel) ⟨rfl, rfl⟩
def f_X6_set_48 (p1 : Int32) (p2 : Int32) (g : xG) : xG :=
  xl (xput g 49 35 p1 p2) fun w1 =>
  w1
set_option maxRecDepth 20000 in
theorem c_X6_set_48 {S : List xSh} (hS : xpf SH1 S) {g : xG} {p1 : Int32} {p2 : Int32} (out : xG) (H : f_X6_set_48 p1 p2 g = out) : xC mX6_set 1 22 0 0 S [.ref 48, .int p1, .int p2] g S (fun r g' => r = none ∧ g' = out) := by
  have H : (xl (xput g 49 35 p1 p2) fun w1 =>
w1) = out := H
  refine xC.of 6 SH1 [some (.ref 48), some (.int p1), some (.int p2)] hS (by decide +kernel) rfl (fun _ _ => Nat.le_of_ble_eq_true rfl) (fun _ _ => rfl) ?_
  intro k A hR hrm hz
  refine xb A [(.aload_n 0, 1, 0, 0, .null), (.getfield 11, 3, 48, 0, .ref 49), (.iload_n 1, 1, 0, 0, .null), (.iload_n 2, 1, 0, 0, .null)] (pc' := 6) (ls' := [some (.ref 48), some (.int p1), some (.int p2)]) (st' := [.int p2, .int p1, .ref 49]) (g' := g) (by decide +kernel) rfl ?_
  obtain ⟨w1, e1, H⟩ := xl_elim H
  refine xcallSN A (ix := 19) (nxt := 9) (host := "NoonRinger") hrm hz [.ref 49, .int p1, .int p2] [] 7 (c_X11_put (hS _ _ sh_49) (by decide)) ok_X11_put (by decide +kernel) rfl (fun r g1 hq => ?_)
  rw [hq.1, hq.2]
  rw [e1]
  show xW k S 0 0 9 [some (.ref 48), some (.int p1), some (.int p2)] [] w1
  subst H
  exact xret_v A hR hz (by decide +kernel) ⟨rfl, rfl⟩
def f_X4_people_3  (g : xG) : Int32 :=
  g.1 3 11
set_option maxRecDepth 20000 in
theorem c_X4_people_3 {S : List xSh} (hS : xpf SH1 S) {g : xG}  (out : Int32) (H : f_X4_people_3  g = out) : xC mX4_people 0 0 0 0 S [.ref 3] g S (fun r g' => r = some (.int out) ∧ g' = g) := by
  have H : (g.1 3 11) = out := H
  refine xC.of 4 SH1 [some (.ref 3)] hS (by decide +kernel) rfl (fun _ _ => Nat.le_of_ble_eq_true rfl) (fun _ _ => rfl) ?_
  intro k A hR hrm hz
  refine xb A [(.aload_n 0, 1, 0, 0, .null), (.getfield 51, 3, 3, 11, .int 0)] (pc' := 4) (ls' := [some (.ref 3)]) (st' := [.int (g.1 3 11)]) (g' := g) (by decide +kernel) rfl ?_
  subst H
  exact xret_i A hR hz (by decide +kernel) rfl ⟨rfl, rfl⟩
def f_X4_firstPlaceOf_3 (p1 : Int32) (g : xG) : Int32 :=
  xat g 11 6 p1
set_option maxRecDepth 20000 in
theorem c_X4_firstPlaceOf_3 {S : List xSh} (hS : xpf SH1 S) {g : xG} {p1 : Int32} (out : Int32) (H : f_X4_firstPlaceOf_3 p1 g = out) : xC mX4_firstPlaceOf 1 21 0 0 S [.ref 3, .int p1] g S (fun r g' => r = some (.int out) ∧ g' = g) := by
  have H : (xat g 11 6 p1) = out := H
  refine xC.of 4 SH1 [some (.ref 3), some (.int p1)] hS (by decide +kernel) rfl (fun _ _ => Nat.le_of_ble_eq_true rfl) (fun _ _ => rfl) ?_
  intro k A hR hrm hz
  refine xb A [(.aload_n 0, 1, 0, 0, .null), (.getfield 34, 3, 3, 7, .ref 11), (.iload_n 1, 1, 0, 0, .null)] (pc' := 5) (ls' := [some (.ref 3), some (.int p1)]) (st' := [.int p1, .ref 11]) (g' := g) (by decide +kernel) rfl ?_
  refine xcallSN A (ix := 87) (nxt := 8) (host := "NoonRinger") hrm hz [.ref 11, .int p1] [] 8 (c_X11_at (hS _ _ sh_11) (by decide)) ok_X11_at (by decide +kernel) rfl (fun r g1 hq => ?_)
  rw [hq.1, hq.2]
  show xW k S 0 0 8 [some (.ref 3), some (.int p1)] [.int (xat g 11 6 p1)] g
  subst H
  exact xret_i A hR hz (by decide +kernel) rfl ⟨rfl, rfl⟩
def f_X6_setOf_48 (p1 : Int32) (p2 : Int32) (p3 : Int32) (g : xG) : xG :=
  xl (xput g 49 35 (p2 + p1) p3) fun w1 =>
  w1
set_option maxRecDepth 20000 in
theorem c_X6_setOf_48 {S : List xSh} (hS : xpf SH1 S) {g : xG} {p1 : Int32} {p2 : Int32} {p3 : Int32} (out : xG) (H : f_X6_setOf_48 p1 p2 p3 g = out) : xC mX6_setOf 1 22 0 0 S [.ref 48, .int p1, .int p2, .int p3] g S (fun r g' => r = none ∧ g' = out) := by
  have H : (xl (xput g 49 35 (p2 + p1) p3) fun w1 =>
w1) = out := H
  refine xC.of 6 SH1 [some (.ref 48), some (.int p1), some (.int p2), some (.int p3)] hS (by decide +kernel) rfl (fun _ _ => Nat.le_of_ble_eq_true rfl) (fun _ _ => rfl) ?_
  intro k A hR hrm hz
  refine xb A [(.aload_n 0, 1, 0, 0, .null), (.getfield 11, 3, 48, 0, .ref 49), (.iload_n 2, 1, 0, 0, .null), (.iload_n 1, 1, 0, 0, .null), (.iadd, 1, 0, 0, .null), (.iload_n 3, 1, 0, 0, .null)] (pc' := 8) (ls' := [some (.ref 48), some (.int p1), some (.int p2), some (.int p3)]) (st' := [.int p3, .int (p2 + p1), .ref 49]) (g' := g) (by decide +kernel) rfl ?_
  obtain ⟨w1, e1, H⟩ := xl_elim H
  refine xcallSN A (ix := 19) (nxt := 11) (host := "NoonRinger") hrm hz [.ref 49, .int (p2 + p1), .int p3] [] 7 (c_X11_put (hS _ _ sh_49) (by decide)) ok_X11_put (by decide +kernel) rfl (fun r g1 hq => ?_)
  rw [hq.1, hq.2]
  rw [e1]
  show xW k S 0 0 11 [some (.ref 48), some (.int p1), some (.int p2), some (.int p3)] [] w1
  subst H
  exact xret_v A hR hz (by decide +kernel) ⟨rfl, rfl⟩
def f_X6_begin_48_3_33  : Nat → Int32 → xG → Option (xG)
  | 0, _, _ => none
  | n + 1, l2, g =>
    if (f_X4_people_3 g) ≤ l2 then
      some g
    else
      xl (f_X6_setOf_48 l2 5 (f_X4_firstPlaceOf_3 l2 g) g) fun w2 =>
      xl (f_X6_setOf_48 l2 11 (-2) w2) fun w3 =>
      f_X6_begin_48_3_33 n (l2 + 1) w3
def f_X6_begin_48_3_2  : Nat → Int32 → xG → Option (xG)
  | 0, _, _ => none
  | n + 1, l2, g =>
    if 35 ≤ l2 then
      xl (f_X6_set_48 1 (-2) g) fun w1 =>
      f_X6_begin_48_3_33 xN 0 w1
    else
      xg (¬ (l2 < 0 ∨ 35 ≤ l2.toNatClampNeg)) (
        f_X6_begin_48_3_2 n (l2 + 1) (xupd g.1 49 l2.toNatClampNeg 0, g.2))
def f_X6_begin_48_3  (g : xG) : Option (xG) :=
  f_X6_begin_48_3_2 xN 0 g
set_option maxRecDepth 20000 in
theorem t_X6_begin_48_3_33 {k : xK} {S : List xSh} {out : xG} (hS : xpf SH1 S) (A : xAt k mX6_begin.2.1 6 SH1 S) (hR : xRet k 0 0 S (fun r g' => r = none ∧ g' = out) mX6_begin.2.2.2) (hrm : xrm k = { frames := 2, cells := 0, slots := 0, locals := 45 }) (hz : xhs k = xb0 k + S.length)   : ∀ (n : Nat) (l2 : Int32) (g : xG), f_X6_begin_48_3_33 n l2 g = some out → xW k S 0 0 33 [some (.ref 48), some (.ref 3), some (.int l2)] [] g := by
  intro n
  induction n with
  | zero => intro l2 g H; exact absurd H (by simp [f_X6_begin_48_3_33])
  | succ n ih =>
    intro l2 g H
    have H : (if (f_X4_people_3 g) ≤ l2 then
  some g
else
  xl (f_X6_setOf_48 l2 5 (f_X4_firstPlaceOf_3 l2 g) g) fun w2 =>
  xl (f_X6_setOf_48 l2 11 (-2) w2) fun w3 =>
  f_X6_begin_48_3_33 n (l2 + 1) w3) = some out := H
    refine xb A [(.iload_n 2, 1, 0, 0, .null), (.aload_n 1, 1, 0, 0, .null)] (pc' := 35) (ls' := [some (.ref 48), some (.ref 3), some (.int l2)]) (st' := [.ref 3, .int l2]) (g' := g) (by decide +kernel) rfl ?_
    refine xcallV A (ix := 27) (nxt := 38) hrm hz [] [.int l2] 474 (c_X4_people_3 hS _ rfl) ok_X4_people (by decide +kernel) rfl (fun r g1 hq => ?_)
    rw [hq.1, hq.2]
    show xW k S 0 0 38 [some (.ref 48), some (.ref 3), some (.int l2)] [.int (f_X4_people_3 g), .int l2] g
    refine xic_ge A (29) 67 41 (by decide +kernel) (fun h2 => ?_) (fun h2 => ?_)
    · rw [if_pos h2] at H
      obtain rfl := Option.some.inj H
      exact xret_v A hR hz (by decide +kernel) ⟨rfl, rfl⟩
    · rw [if_neg h2] at H
      refine xb A [(.aload_n 0, 1, 0, 0, .null), (.iload_n 2, 1, 0, 0, .null), (.iconst 5, 1, 0, 0, .int 5), (.aload_n 1, 1, 0, 0, .null), (.iload_n 2, 1, 0, 0, .null)] (pc' := 46) (ls' := [some (.ref 48), some (.ref 3), some (.int l2)]) (st' := [.int l2, .ref 3, .int 5, .int l2, .ref 48]) (g' := g) (by decide +kernel) rfl ?_
      refine xcallV A (ix := 33) (nxt := 49) hrm hz [.int l2] [.int 5, .int l2, .ref 48] 478 (c_X4_firstPlaceOf_3 hS _ rfl) ok_X4_firstPlaceOf (by decide +kernel) rfl (fun r g1 hq => ?_)
      rw [hq.1, hq.2]
      show xW k S 0 0 49 [some (.ref 48), some (.ref 3), some (.int l2)] [.int (f_X4_firstPlaceOf_3 l2 g), .int 5, .int l2, .ref 48] g
      obtain ⟨w2, e2, H⟩ := xl_elim H
      refine xcallV A (ix := 37) (nxt := 52) hrm hz [.int l2, .int 5, .int (f_X4_firstPlaceOf_3 l2 g)] [] 485 (c_X6_setOf_48 hS _ e2) ok_X6_setOf (by decide +kernel) rfl (fun r g1 hq => ?_)
      rw [hq.1, hq.2]
      show xW k S 0 0 52 [some (.ref 48), some (.ref 3), some (.int l2)] [] w2
      refine xb A [(.aload_n 0, 1, 0, 0, .null), (.iload_n 2, 1, 0, 0, .null), (.bipush 11, 2, 0, 0, .int 11), (.bipush (-2), 2, 0, 0, .int (-2))] (pc' := 58) (ls' := [some (.ref 48), some (.ref 3), some (.int l2)]) (st' := [.int (-2), .int 11, .int l2, .ref 48]) (g' := w2) (by decide +kernel) rfl ?_
      obtain ⟨w3, e3, H⟩ := xl_elim H
      refine xcallV A (ix := 37) (nxt := 61) hrm hz [.int l2, .int 11, .int (-2)] [] 485 (c_X6_setOf_48 hS _ e3) ok_X6_setOf (by decide +kernel) rfl (fun r g1 hq => ?_)
      rw [hq.1, hq.2]
      show xW k S 0 0 61 [some (.ref 48), some (.ref 3), some (.int l2)] [] w3
      refine xb A [(.iinc 2 1, 3, 0, 0, .null)] (pc' := 64) (ls' := [some (.ref 48), some (.ref 3), some (.int (l2 + 1))]) (st' := []) (g' := w3) (by decide +kernel) rfl ?_
      refine xgoto A (-31) 33 (by decide +kernel) ?_
      exact ih _ _ H
set_option maxRecDepth 20000 in
theorem t_X6_begin_48_3_2 {k : xK} {S : List xSh} {out : xG} (hS : xpf SH1 S) (A : xAt k mX6_begin.2.1 6 SH1 S) (hR : xRet k 0 0 S (fun r g' => r = none ∧ g' = out) mX6_begin.2.2.2) (hrm : xrm k = { frames := 2, cells := 0, slots := 0, locals := 45 }) (hz : xhs k = xb0 k + S.length)   : ∀ (n : Nat) (l2 : Int32) (g : xG), f_X6_begin_48_3_2 n l2 g = some out → xW k S 0 0 2 [some (.ref 48), some (.ref 3), some (.int l2)] [] g := by
  intro n
  induction n with
  | zero => intro l2 g H; exact absurd H (by simp [f_X6_begin_48_3_2])
  | succ n ih =>
    intro l2 g H
    have H : (if 35 ≤ l2 then
  xl (f_X6_set_48 1 (-2) g) fun w1 =>
  f_X6_begin_48_3_33 xN 0 w1
else
  xg (¬ (l2 < 0 ∨ 35 ≤ l2.toNatClampNeg)) (
    f_X6_begin_48_3_2 n (l2 + 1) (xupd g.1 49 l2.toNatClampNeg 0, g.2))) = some out := H
    refine xb A [(.iload_n 2, 1, 0, 0, .null), (.aload_n 0, 1, 0, 0, .null), (.getfield 11, 3, 48, 0, .ref 49), (.arraylength, 1, 49, 0, .int 35)] (pc' := 8) (ls' := [some (.ref 48), some (.ref 3), some (.int l2)]) (st' := [.int 35, .int l2]) (g' := g) (by decide +kernel) rfl ?_
    refine xic_ge A (16) 24 11 (by decide +kernel) (fun h1 => ?_) (fun h1 => ?_)
    · rw [if_pos h1] at H
      refine xb A [(.aload_n 0, 1, 0, 0, .null), (.iconst 1, 1, 0, 0, .int 1), (.bipush (-2), 2, 0, 0, .int (-2))] (pc' := 28) (ls' := [some (.ref 48), some (.ref 3), some (.int l2)]) (st' := [.int (-2), .int 1, .ref 48]) (g' := g) (by decide +kernel) rfl ?_
      obtain ⟨w1, e1, H⟩ := xl_elim H
      refine xcallV A (ix := 23) (nxt := 31) hrm hz [.int 1, .int (-2)] [] 469 (c_X6_set_48 hS _ e1) ok_X6_set (by decide +kernel) rfl (fun r g1 hq => ?_)
      rw [hq.1, hq.2]
      show xW k S 0 0 31 [some (.ref 48), some (.ref 3), some (.int l2)] [] w1
      refine xb A [(.iconst 0, 1, 0, 0, .int 0), (.istore_n 2, 1, 0, 0, .null)] (pc' := 33) (ls' := [some (.ref 48), some (.ref 3), some (.int 0)]) (st' := []) (g' := w1) (by decide +kernel) rfl ?_
      exact t_X6_begin_48_3_33 hS A hR hrm hz _ _ _ H
    · rw [if_neg h1] at H
      refine xb A [(.aload_n 0, 1, 0, 0, .null), (.getfield 11, 3, 48, 0, .ref 49), (.iload_n 2, 1, 0, 0, .null), (.iconst 0, 1, 0, 0, .int 0)] (pc' := 17) (ls' := [some (.ref 48), some (.ref 3), some (.int l2)]) (st' := [.int 0, .int l2, .ref 49]) (g' := g) (by decide +kernel) rfl ?_
      obtain ⟨h3, H⟩ := xg_elim H
      refine xiast A (nxt := 18) (by decide +kernel) (hS _ _ sh_49) h3 ?_
      show xW k S 0 0 18 [some (.ref 48), some (.ref 3), some (.int l2)] [] (xupd g.1 49 l2.toNatClampNeg 0, g.2)
      refine xb A [(.iinc 2 1, 3, 0, 0, .null)] (pc' := 21) (ls' := [some (.ref 48), some (.ref 3), some (.int (l2 + 1))]) (st' := []) (g' := (xupd g.1 49 l2.toNatClampNeg 0, g.2)) (by decide +kernel) rfl ?_
      refine xgoto A (-19) 2 (by decide +kernel) ?_
      exact ih _ _ H
set_option maxRecDepth 20000 in
theorem c_X6_begin_48_3 {S : List xSh} (hS : xpf SH1 S) {g : xG}  (out : xG) (H : f_X6_begin_48_3  g = some out) : xC mX6_begin 2 45 0 0 S [.ref 48, .ref 3] g S (fun r g' => r = none ∧ g' = out) := by
  have H : (f_X6_begin_48_3_2 xN 0 g) = some out := H
  refine xC.of 6 SH1 [some (.ref 48), some (.ref 3), none] hS (by decide +kernel) rfl (fun _ _ => Nat.le_of_ble_eq_true rfl) (fun _ _ => rfl) ?_
  intro k A hR hrm hz
  refine xb A [(.iconst 0, 1, 0, 0, .int 0), (.istore_n 2, 1, 0, 0, .null)] (pc' := 2) (ls' := [some (.ref 48), some (.ref 3), some (.int 0)]) (st' := []) (g' := g) (by decide +kernel) rfl ?_
  exact t_X6_begin_48_3_2 hS A hR hrm hz _ _ _ H
def f_X6_get_48 (p1 : Int32) (g : xG) : Int32 :=
  xat g 49 35 p1
set_option maxRecDepth 20000 in
theorem c_X6_get_48 {S : List xSh} (hS : xpf SH1 S) {g : xG} {p1 : Int32} (out : Int32) (H : f_X6_get_48 p1 g = out) : xC mX6_get 1 21 0 0 S [.ref 48, .int p1] g S (fun r g' => r = some (.int out) ∧ g' = g) := by
  have H : (xat g 49 35 p1) = out := H
  refine xC.of 6 SH1 [some (.ref 48), some (.int p1)] hS (by decide +kernel) rfl (fun _ _ => Nat.le_of_ble_eq_true rfl) (fun _ _ => rfl) ?_
  intro k A hR hrm hz
  refine xb A [(.aload_n 0, 1, 0, 0, .null), (.getfield 11, 3, 48, 0, .ref 49), (.iload_n 1, 1, 0, 0, .null)] (pc' := 5) (ls' := [some (.ref 48), some (.int p1)]) (st' := [.int p1, .ref 49]) (g' := g) (by decide +kernel) rfl ?_
  refine xcallSN A (ix := 15) (nxt := 8) (host := "NoonRinger") hrm hz [.ref 49, .int p1] [] 9 (c_X11_at (hS _ _ sh_49) (by decide)) ok_X11_at (by decide +kernel) rfl (fun r g1 hq => ?_)
  rw [hq.1, hq.2]
  show xW k S 0 0 8 [some (.ref 48), some (.int p1)] [.int (xat g 49 35 p1)] g
  subst H
  exact xret_i A hR hz (by decide +kernel) rfl ⟨rfl, rfl⟩
def f_X4_roads_3  (g : xG) : Int32 :=
  g.1 3 10
set_option maxRecDepth 20000 in
theorem c_X4_roads_3 {S : List xSh} (hS : xpf SH1 S) {g : xG}  (out : Int32) (H : f_X4_roads_3  g = out) : xC mX4_roads 0 0 0 0 S [.ref 3] g S (fun r g' => r = some (.int out) ∧ g' = g) := by
  have H : (g.1 3 10) = out := H
  refine xC.of 4 SH1 [some (.ref 3)] hS (by decide +kernel) rfl (fun _ _ => Nat.le_of_ble_eq_true rfl) (fun _ _ => rfl) ?_
  intro k A hR hrm hz
  refine xb A [(.aload_n 0, 1, 0, 0, .null), (.getfield 48, 3, 3, 10, .int 0)] (pc' := 4) (ls' := [some (.ref 3)]) (st' := [.int (g.1 3 10)]) (g' := g) (by decide +kernel) rfl ?_
  subst H
  exact xret_i A hR hz (by decide +kernel) rfl ⟨rfl, rfl⟩
def f_X4_isRoad_3 (p1 : Int32) (g : xG) : Int32 :=
  if p1 < 0 then
    0
  else
    if (g.1 3 10) ≤ p1 then
      0
    else
      1
set_option maxRecDepth 20000 in
theorem c_X4_isRoad_3 {S : List xSh} (hS : xpf SH1 S) {g : xG} {p1 : Int32} (out : Int32) (H : f_X4_isRoad_3 p1 g = out) : xC mX4_isRoad 0 0 0 0 S [.ref 3, .int p1] g S (fun r g' => r = some (.int out) ∧ g' = g) := by
  have H : (if p1 < 0 then
  0
else
  if (g.1 3 10) ≤ p1 then
    0
  else
    1) = out := H
  refine xC.of 4 SH1 [some (.ref 3), some (.int p1)] hS (by decide +kernel) rfl (fun _ _ => Nat.le_of_ble_eq_true rfl) (fun _ _ => rfl) ?_
  intro k A hR hrm hz
  refine xb A [(.iload_n 1, 1, 0, 0, .null)] (pc' := 1) (ls' := [some (.ref 3), some (.int p1)]) (st' := [.int p1]) (g' := g) (by decide +kernel) rfl ?_
  refine xif_lt A (15) 16 4 (by decide +kernel) (fun h1 => ?_) (fun h1 => ?_)
  · rw [if_pos h1] at H
    refine xb A [(.iconst 0, 1, 0, 0, .int 0)] (pc' := 17) (ls' := [some (.ref 3), some (.int p1)]) (st' := [.int 0]) (g' := g) (by decide +kernel) rfl ?_
    subst H
    exact xret_i A hR hz (by decide +kernel) rfl ⟨rfl, rfl⟩
  · rw [if_neg h1] at H
    refine xb A [(.iload_n 1, 1, 0, 0, .null), (.aload_n 0, 1, 0, 0, .null), (.getfield 48, 3, 3, 10, .int 0)] (pc' := 9) (ls' := [some (.ref 3), some (.int p1)]) (st' := [.int (g.1 3 10), .int p1]) (g' := g) (by decide +kernel) rfl ?_
    refine xic_ge A (7) 16 12 (by decide +kernel) (fun h2 => ?_) (fun h2 => ?_)
    · rw [if_pos h2] at H
      refine xb A [(.iconst 0, 1, 0, 0, .int 0)] (pc' := 17) (ls' := [some (.ref 3), some (.int p1)]) (st' := [.int 0]) (g' := g) (by decide +kernel) rfl ?_
      subst H
      exact xret_i A hR hz (by decide +kernel) rfl ⟨rfl, rfl⟩
    · rw [if_neg h2] at H
      refine xb A [(.iconst 1, 1, 0, 0, .int 1)] (pc' := 13) (ls' := [some (.ref 3), some (.int p1)]) (st' := [.int 1]) (g' := g) (by decide +kernel) rfl ?_
      refine xgoto A (4) 17 (by decide +kernel) ?_
      subst H
      exact xret_i A hR hz (by decide +kernel) rfl ⟨rfl, rfl⟩
def f_X11_bit (p0 : Int32) (g : xG) : Int32 :=
  if p0 < 0 then
    0
  else
    if 31 ≤ p0 then
      0
    else
      1 <<< (p0 &&& 31)
set_option maxRecDepth 20000 in
theorem c_X11_bit {S : List xSh} (hS : xpf SH1 S) {g : xG} {p0 : Int32} (out : Int32) (H : f_X11_bit p0 g = out) : xC mX11_bit 0 0 0 0 S [.int p0] g S (fun r g' => r = some (.int out) ∧ g' = g) := by
  have H : (if p0 < 0 then
  0
else
  if 31 ≤ p0 then
    0
  else
    1 <<< (p0 &&& 31)) = out := H
  refine xC.of 11 SH1 [some (.int p0)] hS (by decide +kernel) rfl (fun _ _ => Nat.le_of_ble_eq_true rfl) (fun _ _ => rfl) ?_
  intro k A hR hrm hz
  refine xb A [(.iload_n 0, 1, 0, 0, .null)] (pc' := 1) (ls' := [some (.int p0)]) (st' := [.int p0]) (g' := g) (by decide +kernel) rfl ?_
  refine xif_lt A (15) 16 4 (by decide +kernel) (fun h1 => ?_) (fun h1 => ?_)
  · rw [if_pos h1] at H
    refine xb A [(.iconst 0, 1, 0, 0, .int 0)] (pc' := 17) (ls' := [some (.int p0)]) (st' := [.int 0]) (g' := g) (by decide +kernel) rfl ?_
    subst H
    exact xret_i A hR hz (by decide +kernel) rfl ⟨rfl, rfl⟩
  · rw [if_neg h1] at H
    refine xb A [(.iload_n 0, 1, 0, 0, .null), (.bipush 31, 2, 0, 0, .int 31)] (pc' := 7) (ls' := [some (.int p0)]) (st' := [.int 31, .int p0]) (g' := g) (by decide +kernel) rfl ?_
    refine xic_ge A (9) 16 10 (by decide +kernel) (fun h2 => ?_) (fun h2 => ?_)
    · rw [if_pos h2] at H
      refine xb A [(.iconst 0, 1, 0, 0, .int 0)] (pc' := 17) (ls' := [some (.int p0)]) (st' := [.int 0]) (g' := g) (by decide +kernel) rfl ?_
      subst H
      exact xret_i A hR hz (by decide +kernel) rfl ⟨rfl, rfl⟩
    · rw [if_neg h2] at H
      refine xb A [(.iconst 1, 1, 0, 0, .int 1), (.iload_n 0, 1, 0, 0, .null), (.ishl, 1, 0, 0, .null)] (pc' := 13) (ls' := [some (.int p0)]) (st' := [.int (1 <<< (p0 &&& 31))]) (g' := g) (by decide +kernel) rfl ?_
      refine xgoto A (4) 17 (by decide +kernel) ?_
      subst H
      exact xret_i A hR hz (by decide +kernel) rfl ⟨rfl, rfl⟩
def f_X10_isOpen_38 (p1 : Int32) (g : xG) : Int32 :=
  if (f_X4_isRoad_3 p1 g) = 0 then
    0
  else
    if ((g.1 38 2) &&& (f_X11_bit p1 g)) = 0 then
      1
    else
      0
set_option maxRecDepth 20000 in
theorem c_X10_isOpen_38 {S : List xSh} (hS : xpf SH1 S) {g : xG} {p1 : Int32} (out : Int32) (H : f_X10_isOpen_38 p1 g = out) : xC mX10_isOpen 1 21 0 0 S [.ref 38, .int p1] g S (fun r g' => r = some (.int out) ∧ g' = g) := by
  have H : (if (f_X4_isRoad_3 p1 g) = 0 then
  0
else
  if ((g.1 38 2) &&& (f_X11_bit p1 g)) = 0 then
    1
  else
    0) = out := H
  refine xC.of 10 SH1 [some (.ref 38), some (.int p1)] hS (by decide +kernel) rfl (fun _ _ => Nat.le_of_ble_eq_true rfl) (fun _ _ => rfl) ?_
  intro k A hR hrm hz
  refine xb A [(.aload_n 0, 1, 0, 0, .null), (.getfield 15, 3, 38, 0, .ref 3), (.iload_n 1, 1, 0, 0, .null)] (pc' := 5) (ls' := [some (.ref 38), some (.int p1)]) (st' := [.int p1, .ref 3]) (g' := g) (by decide +kernel) rfl ?_
  refine xcallV A (ix := 65) (nxt := 8) hrm hz [.int p1] [] 506 (c_X4_isRoad_3 hS _ rfl) ok_X4_isRoad (by decide +kernel) rfl (fun r g1 hq => ?_)
  rw [hq.1, hq.2]
  show xW k S 0 0 8 [some (.ref 38), some (.int p1)] [.int (f_X4_isRoad_3 p1 g)] g
  refine xif_eq A (19) 27 11 (by decide +kernel) (fun h1 => ?_) (fun h1 => ?_)
  · rw [if_pos h1] at H
    refine xb A [(.iconst 0, 1, 0, 0, .int 0)] (pc' := 28) (ls' := [some (.ref 38), some (.int p1)]) (st' := [.int 0]) (g' := g) (by decide +kernel) rfl ?_
    subst H
    exact xret_i A hR hz (by decide +kernel) rfl ⟨rfl, rfl⟩
  · rw [if_neg h1] at H
    refine xb A [(.aload_n 0, 1, 0, 0, .null), (.getfield 19, 3, 38, 2, .int 0), (.iload_n 1, 1, 0, 0, .null)] (pc' := 16) (ls' := [some (.ref 38), some (.int p1)]) (st' := [.int p1, .int (g.1 38 2)]) (g' := g) (by decide +kernel) rfl ?_
    refine xcallSN A (ix := 68) (nxt := 19) (host := "NoonRinger") hrm hz [.int p1] [.int (g.1 38 2)] 10 (c_X11_bit hS _ rfl) ok_X11_bit (by decide +kernel) rfl (fun r g1 hq => ?_)
    rw [hq.1, hq.2]
    show xW k S 0 0 19 [some (.ref 38), some (.int p1)] [.int (f_X11_bit p1 g), .int (g.1 38 2)] g
    refine xb A [(.iand, 1, 0, 0, .null)] (pc' := 20) (ls' := [some (.ref 38), some (.int p1)]) (st' := [.int ((g.1 38 2) &&& (f_X11_bit p1 g))]) (g' := g) (by decide +kernel) rfl ?_
    refine xif_ne A (7) 27 23 (by decide +kernel) (fun h2 => ?_) (fun h2 => ?_)
    · rw [if_neg h2] at H
      refine xb A [(.iconst 0, 1, 0, 0, .int 0)] (pc' := 28) (ls' := [some (.ref 38), some (.int p1)]) (st' := [.int 0]) (g' := g) (by decide +kernel) rfl ?_
      subst H
      exact xret_i A hR hz (by decide +kernel) rfl ⟨rfl, rfl⟩
    · rw [if_pos h2] at H
      refine xb A [(.iconst 1, 1, 0, 0, .int 1)] (pc' := 24) (ls' := [some (.ref 38), some (.int p1)]) (st' := [.int 1]) (g' := g) (by decide +kernel) rfl ?_
      refine xgoto A (4) 28 (by decide +kernel) ?_
      subst H
      exact xret_i A hR hz (by decide +kernel) rfl ⟨rfl, rfl⟩
def f_X4_oneEndOf_3 (p1 : Int32) (g : xG) : Int32 :=
  xat g 5 10 p1
set_option maxRecDepth 20000 in
theorem c_X4_oneEndOf_3 {S : List xSh} (hS : xpf SH1 S) {g : xG} {p1 : Int32} (out : Int32) (H : f_X4_oneEndOf_3 p1 g = out) : xC mX4_oneEndOf 1 21 0 0 S [.ref 3, .int p1] g S (fun r g' => r = some (.int out) ∧ g' = g) := by
  have H : (xat g 5 10 p1) = out := H
  refine xC.of 4 SH1 [some (.ref 3), some (.int p1)] hS (by decide +kernel) rfl (fun _ _ => Nat.le_of_ble_eq_true rfl) (fun _ _ => rfl) ?_
  intro k A hR hrm hz
  refine xb A [(.aload_n 0, 1, 0, 0, .null), (.getfield 15, 3, 3, 1, .ref 5), (.iload_n 1, 1, 0, 0, .null)] (pc' := 5) (ls' := [some (.ref 3), some (.int p1)]) (st' := [.int p1, .ref 5]) (g' := g) (by decide +kernel) rfl ?_
  refine xcallSN A (ix := 87) (nxt := 8) (host := "NoonRinger") hrm hz [.ref 5, .int p1] [] 8 (c_X11_at (hS _ _ sh_5) (by decide)) ok_X11_at (by decide +kernel) rfl (fun r g1 hq => ?_)
  rw [hq.1, hq.2]
  show xW k S 0 0 8 [some (.ref 3), some (.int p1)] [.int (xat g 5 10 p1)] g
  subst H
  exact xret_i A hR hz (by decide +kernel) rfl ⟨rfl, rfl⟩
def f_X4_otherEndOf_3 (p1 : Int32) (g : xG) : Int32 :=
  xat g 6 10 p1
set_option maxRecDepth 20000 in
theorem c_X4_otherEndOf_3 {S : List xSh} (hS : xpf SH1 S) {g : xG} {p1 : Int32} (out : Int32) (H : f_X4_otherEndOf_3 p1 g = out) : xC mX4_otherEndOf 1 21 0 0 S [.ref 3, .int p1] g S (fun r g' => r = some (.int out) ∧ g' = g) := by
  have H : (xat g 6 10 p1) = out := H
  refine xC.of 4 SH1 [some (.ref 3), some (.int p1)] hS (by decide +kernel) rfl (fun _ _ => Nat.le_of_ble_eq_true rfl) (fun _ _ => rfl) ?_
  intro k A hR hrm hz
  refine xb A [(.aload_n 0, 1, 0, 0, .null), (.getfield 19, 3, 3, 2, .ref 6), (.iload_n 1, 1, 0, 0, .null)] (pc' := 5) (ls' := [some (.ref 3), some (.int p1)]) (st' := [.int p1, .ref 6]) (g' := g) (by decide +kernel) rfl ?_
  refine xcallSN A (ix := 87) (nxt := 8) (host := "NoonRinger") hrm hz [.ref 6, .int p1] [] 8 (c_X11_at (hS _ _ sh_6) (by decide)) ok_X11_at (by decide +kernel) rfl (fun r g1 hq => ?_)
  rw [hq.1, hq.2]
  show xW k S 0 0 8 [some (.ref 3), some (.int p1)] [.int (xat g 6 10 p1)] g
  subst H
  exact xret_i A hR hz (by decide +kernel) rfl ⟨rfl, rfl⟩
def f_X4_milesOf_3 (p1 : Int32) (g : xG) : Int32 :=
  xat g 7 10 p1
set_option maxRecDepth 20000 in
theorem c_X4_milesOf_3 {S : List xSh} (hS : xpf SH1 S) {g : xG} {p1 : Int32} (out : Int32) (H : f_X4_milesOf_3 p1 g = out) : xC mX4_milesOf 1 21 0 0 S [.ref 3, .int p1] g S (fun r g' => r = some (.int out) ∧ g' = g) := by
  have H : (xat g 7 10 p1) = out := H
  refine xC.of 4 SH1 [some (.ref 3), some (.int p1)] hS (by decide +kernel) rfl (fun _ _ => Nat.le_of_ble_eq_true rfl) (fun _ _ => rfl) ?_
  intro k A hR hrm hz
  refine xb A [(.aload_n 0, 1, 0, 0, .null), (.getfield 22, 3, 3, 3, .ref 7), (.iload_n 1, 1, 0, 0, .null)] (pc' := 5) (ls' := [some (.ref 3), some (.int p1)]) (st' := [.int p1, .ref 7]) (g' := g) (by decide +kernel) rfl ?_
  refine xcallSN A (ix := 87) (nxt := 8) (host := "NoonRinger") hrm hz [.ref 7, .int p1] [] 8 (c_X11_at (hS _ _ sh_7) (by decide)) ok_X11_at (by decide +kernel) rfl (fun r g1 hq => ?_)
  rw [hq.1, hq.2]
  show xW k S 0 0 8 [some (.ref 3), some (.int p1)] [.int (xat g 7 10 p1)] g
  subst H
  exact xret_i A hR hz (by decide +kernel) rfl ⟨rfl, rfl⟩
def f_X4_isTown_3 (p1 : Int32) (g : xG) : Int32 :=
  if p1 < 0 then
    0
  else
    if (g.1 3 9) ≤ p1 then
      0
    else
      1
set_option maxRecDepth 20000 in
theorem c_X4_isTown_3 {S : List xSh} (hS : xpf SH1 S) {g : xG} {p1 : Int32} (out : Int32) (H : f_X4_isTown_3 p1 g = out) : xC mX4_isTown 0 0 0 0 S [.ref 3, .int p1] g S (fun r g' => r = some (.int out) ∧ g' = g) := by
  have H : (if p1 < 0 then
  0
else
  if (g.1 3 9) ≤ p1 then
    0
  else
    1) = out := H
  refine xC.of 4 SH1 [some (.ref 3), some (.int p1)] hS (by decide +kernel) rfl (fun _ _ => Nat.le_of_ble_eq_true rfl) (fun _ _ => rfl) ?_
  intro k A hR hrm hz
  refine xb A [(.iload_n 1, 1, 0, 0, .null)] (pc' := 1) (ls' := [some (.ref 3), some (.int p1)]) (st' := [.int p1]) (g' := g) (by decide +kernel) rfl ?_
  refine xif_lt A (15) 16 4 (by decide +kernel) (fun h1 => ?_) (fun h1 => ?_)
  · rw [if_pos h1] at H
    refine xb A [(.iconst 0, 1, 0, 0, .int 0)] (pc' := 17) (ls' := [some (.ref 3), some (.int p1)]) (st' := [.int 0]) (g' := g) (by decide +kernel) rfl ?_
    subst H
    exact xret_i A hR hz (by decide +kernel) rfl ⟨rfl, rfl⟩
  · rw [if_neg h1] at H
    refine xb A [(.iload_n 1, 1, 0, 0, .null), (.aload_n 0, 1, 0, 0, .null), (.getfield 44, 3, 3, 9, .int 0)] (pc' := 9) (ls' := [some (.ref 3), some (.int p1)]) (st' := [.int (g.1 3 9), .int p1]) (g' := g) (by decide +kernel) rfl ?_
    refine xic_ge A (7) 16 12 (by decide +kernel) (fun h2 => ?_) (fun h2 => ?_)
    · rw [if_pos h2] at H
      refine xb A [(.iconst 0, 1, 0, 0, .int 0)] (pc' := 17) (ls' := [some (.ref 3), some (.int p1)]) (st' := [.int 0]) (g' := g) (by decide +kernel) rfl ?_
      subst H
      exact xret_i A hR hz (by decide +kernel) rfl ⟨rfl, rfl⟩
    · rw [if_neg h2] at H
      refine xb A [(.iconst 1, 1, 0, 0, .int 1)] (pc' := 13) (ls' := [some (.ref 3), some (.int p1)]) (st' := [.int 1]) (g' := g) (by decide +kernel) rfl ?_
      refine xgoto A (4) 17 (by decide +kernel) ?_
      subst H
      exact xret_i A hR hz (by decide +kernel) rfl ⟨rfl, rfl⟩
def f_X10_between_38 (p1 : Int32) (p2 : Int32) (g : xG) : Int32 :=
  if (f_X4_isTown_3 p1 g) = 0 then
    999
  else
    if (f_X4_isTown_3 p2 g) = 0 then
      999
    else
      xat g 39 49 ((p1 * 7) + p2)
set_option maxRecDepth 20000 in
theorem c_X10_between_38 {S : List xSh} (hS : xpf SH1 S) {g : xG} {p1 : Int32} {p2 : Int32} (out : Int32) (H : f_X10_between_38 p1 p2 g = out) : xC mX10_between 1 21 0 0 S [.ref 38, .int p1, .int p2] g S (fun r g' => r = some (.int out) ∧ g' = g) := by
  have H : (if (f_X4_isTown_3 p1 g) = 0 then
  999
else
  if (f_X4_isTown_3 p2 g) = 0 then
    999
  else
    xat g 39 49 ((p1 * 7) + p2)) = out := H
  refine xC.of 10 SH1 [some (.ref 38), some (.int p1), some (.int p2)] hS (by decide +kernel) rfl (fun _ _ => Nat.le_of_ble_eq_true rfl) (fun _ _ => rfl) ?_
  intro k A hR hrm hz
  refine xb A [(.aload_n 0, 1, 0, 0, .null), (.getfield 15, 3, 38, 0, .ref 3), (.iload_n 1, 1, 0, 0, .null)] (pc' := 5) (ls' := [some (.ref 38), some (.int p1), some (.int p2)]) (st' := [.int p1, .ref 3]) (g' := g) (by decide +kernel) rfl ?_
  refine xcallV A (ix := 58) (nxt := 8) hrm hz [.int p1] [] 533 (c_X4_isTown_3 hS _ rfl) ok_X4_isTown (by decide +kernel) rfl (fun r g1 hq => ?_)
  rw [hq.1, hq.2]
  show xW k S 0 0 8 [some (.ref 38), some (.int p1), some (.int p2)] [.int (f_X4_isTown_3 p1 g)] g
  refine xif_eq A (30) 38 11 (by decide +kernel) (fun h1 => ?_) (fun h1 => ?_)
  · rw [if_pos h1] at H
    refine xb A [(.sipush 999, 3, 0, 0, .int 999)] (pc' := 41) (ls' := [some (.ref 38), some (.int p1), some (.int p2)]) (st' := [.int 999]) (g' := g) (by decide +kernel) rfl ?_
    subst H
    exact xret_i A hR hz (by decide +kernel) rfl ⟨rfl, rfl⟩
  · rw [if_neg h1] at H
    refine xb A [(.aload_n 0, 1, 0, 0, .null), (.getfield 15, 3, 38, 0, .ref 3), (.iload_n 2, 1, 0, 0, .null)] (pc' := 16) (ls' := [some (.ref 38), some (.int p1), some (.int p2)]) (st' := [.int p2, .ref 3]) (g' := g) (by decide +kernel) rfl ?_
    refine xcallV A (ix := 58) (nxt := 19) hrm hz [.int p2] [] 533 (c_X4_isTown_3 hS _ rfl) ok_X4_isTown (by decide +kernel) rfl (fun r g1 hq => ?_)
    rw [hq.1, hq.2]
    show xW k S 0 0 19 [some (.ref 38), some (.int p1), some (.int p2)] [.int (f_X4_isTown_3 p2 g)] g
    refine xif_eq A (19) 38 22 (by decide +kernel) (fun h2 => ?_) (fun h2 => ?_)
    · rw [if_pos h2] at H
      refine xb A [(.sipush 999, 3, 0, 0, .int 999)] (pc' := 41) (ls' := [some (.ref 38), some (.int p1), some (.int p2)]) (st' := [.int 999]) (g' := g) (by decide +kernel) rfl ?_
      subst H
      exact xret_i A hR hz (by decide +kernel) rfl ⟨rfl, rfl⟩
    · rw [if_neg h2] at H
      refine xb A [(.aload_n 0, 1, 0, 0, .null), (.getfield 9, 3, 38, 1, .ref 39), (.iload_n 1, 1, 0, 0, .null), (.bipush 7, 2, 0, 0, .int 7), (.imul, 1, 0, 0, .null), (.iload_n 2, 1, 0, 0, .null), (.iadd, 1, 0, 0, .null)] (pc' := 32) (ls' := [some (.ref 38), some (.int p1), some (.int p2)]) (st' := [.int ((p1 * 7) + p2), .ref 39]) (g' := g) (by decide +kernel) rfl ?_
      refine xcallSN A (ix := 61) (nxt := 35) (host := "NoonRinger") hrm hz [.ref 39, .int ((p1 * 7) + p2)] [] 11 (c_X11_at (hS _ _ sh_39) (by decide)) ok_X11_at (by decide +kernel) rfl (fun r g1 hq => ?_)
      rw [hq.1, hq.2]
      show xW k S 0 0 35 [some (.ref 38), some (.int p1), some (.int p2)] [.int (xat g 39 49 ((p1 * 7) + p2))] g
      refine xgoto A (6) 41 (by decide +kernel) ?_
      subst H
      exact xret_i A hR hz (by decide +kernel) rfl ⟨rfl, rfl⟩
def f_X10_shorten_38 (p1 : Int32) (p2 : Int32) (p3 : Int32) (g : xG) : xG :=
  if (f_X10_between_38 p1 p2 g) ≤ p3 then
    g
  else
    xl (xput g 39 49 ((p1 * 7) + p2) p3) fun w1 =>
    w1
set_option maxRecDepth 20000 in
theorem c_X10_shorten_38 {S : List xSh} (hS : xpf SH1 S) {g : xG} {p1 : Int32} {p2 : Int32} {p3 : Int32} (out : xG) (H : f_X10_shorten_38 p1 p2 p3 g = out) : xC mX10_shorten 2 43 0 0 S [.ref 38, .int p1, .int p2, .int p3] g S (fun r g' => r = none ∧ g' = out) := by
  have H : (if (f_X10_between_38 p1 p2 g) ≤ p3 then
  g
else
  xl (xput g 39 49 ((p1 * 7) + p2) p3) fun w1 =>
  w1) = out := H
  refine xC.of 10 SH1 [some (.ref 38), some (.int p1), some (.int p2), some (.int p3)] hS (by decide +kernel) rfl (fun _ _ => Nat.le_of_ble_eq_true rfl) (fun _ _ => rfl) ?_
  intro k A hR hrm hz
  refine xb A [(.iload_n 3, 1, 0, 0, .null), (.aload_n 0, 1, 0, 0, .null), (.iload_n 1, 1, 0, 0, .null), (.iload_n 2, 1, 0, 0, .null)] (pc' := 4) (ls' := [some (.ref 38), some (.int p1), some (.int p2), some (.int p3)]) (st' := [.int p2, .int p1, .ref 38, .int p3]) (g' := g) (by decide +kernel) rfl ?_
  refine xcallV A (ix := 50) (nxt := 7) hrm hz [.int p1, .int p2] [.int p3] 529 (c_X10_between_38 hS _ rfl) ok_X10_between (by decide +kernel) rfl (fun r g1 hq => ?_)
  rw [hq.1, hq.2]
  show xW k S 0 0 7 [some (.ref 38), some (.int p1), some (.int p2), some (.int p3)] [.int (f_X10_between_38 p1 p2 g), .int p3] g
  refine xic_ge A (17) 24 10 (by decide +kernel) (fun h1 => ?_) (fun h1 => ?_)
  · rw [if_pos h1] at H
    subst H
    exact xret_v A hR hz (by decide +kernel) ⟨rfl, rfl⟩
  · rw [if_neg h1] at H
    refine xb A [(.aload_n 0, 1, 0, 0, .null), (.getfield 9, 3, 38, 1, .ref 39), (.iload_n 1, 1, 0, 0, .null), (.bipush 7, 2, 0, 0, .int 7), (.imul, 1, 0, 0, .null), (.iload_n 2, 1, 0, 0, .null), (.iadd, 1, 0, 0, .null), (.iload_n 3, 1, 0, 0, .null)] (pc' := 21) (ls' := [some (.ref 38), some (.int p1), some (.int p2), some (.int p3)]) (st' := [.int p3, .int ((p1 * 7) + p2), .ref 39]) (g' := g) (by decide +kernel) rfl ?_
    obtain ⟨w1, e1, H⟩ := xl_elim H
    refine xcallSN A (ix := 54) (nxt := 24) (host := "NoonRinger") hrm hz [.ref 39, .int ((p1 * 7) + p2), .int p3] [] 12 (c_X11_put (hS _ _ sh_39) (by decide)) ok_X11_put (by decide +kernel) rfl (fun r g1 hq => ?_)
    rw [hq.1, hq.2]
    rw [e1]
    show xW k S 0 0 24 [some (.ref 38), some (.int p1), some (.int p2), some (.int p3)] [] w1
    subst H
    exact xret_v A hR hz (by decide +kernel) ⟨rfl, rfl⟩
def f_X4_towns_3  (g : xG) : Int32 :=
  g.1 3 9
set_option maxRecDepth 20000 in
theorem c_X4_towns_3 {S : List xSh} (hS : xpf SH1 S) {g : xG}  (out : Int32) (H : f_X4_towns_3  g = out) : xC mX4_towns 0 0 0 0 S [.ref 3] g S (fun r g' => r = some (.int out) ∧ g' = g) := by
  have H : (g.1 3 9) = out := H
  refine xC.of 4 SH1 [some (.ref 3)] hS (by decide +kernel) rfl (fun _ _ => Nat.le_of_ble_eq_true rfl) (fun _ _ => rfl) ?_
  intro k A hR hrm hz
  refine xb A [(.aload_n 0, 1, 0, 0, .null), (.getfield 44, 3, 3, 9, .int 0)] (pc' := 4) (ls' := [some (.ref 3)]) (st' := [.int (g.1 3 9)]) (g' := g) (by decide +kernel) rfl ?_
  subst H
  exact xret_i A hR hz (by decide +kernel) rfl ⟨rfl, rfl⟩
def f_X10_measure_38_158 (k131 : Int32 → xG → Option (xG)) (k144 : Int32 → Int32 → xG → Option (xG)) : Nat → Int32 → Int32 → Int32 → xG → Option (xG)
  | 0, _, _, _, _ => none
  | n + 1, l2, l3, l4, g =>
    if (f_X4_towns_3 g) ≤ l4 then
      k144 l2 (l3 + 1) g
    else
      xl (f_X10_shorten_38 l3 l4 ((f_X10_between_38 l3 l2 g) + (f_X10_between_38 l2 l4 g)) g) fun w1 =>
      f_X10_measure_38_158 k131 k144 n l2 l3 (l4 + 1) w1
def f_X10_measure_38_144 (k131 : Int32 → xG → Option (xG)) : Nat → Int32 → Int32 → xG → Option (xG)
  | 0, _, _, _ => none
  | n + 1, l2, l3, g =>
    if (f_X4_towns_3 g) ≤ l3 then
      k131 (l2 + 1) g
    else
      f_X10_measure_38_158 k131 (f_X10_measure_38_144 k131 n) xN l2 l3 0 g
def f_X10_measure_38_131  : Nat → Int32 → xG → Option (xG)
  | 0, _, _ => none
  | n + 1, l2, g =>
    if (f_X4_towns_3 g) ≤ l2 then
      some g
    else
      f_X10_measure_38_144 (f_X10_measure_38_131 n) xN l2 0 g
def f_X10_measure_38_48  : Nat → Int32 → xG → Option (xG)
  | 0, _, _ => none
  | n + 1, l2, g =>
    if (f_X4_roads_3 g) ≤ l2 then
      f_X10_measure_38_131 xN 0 g
    else
      if (f_X10_isOpen_38 l2 g) = 0 then
        f_X10_measure_38_48 n (l2 + 1) g
      else
        xl (f_X10_shorten_38 (f_X4_oneEndOf_3 l2 g) (f_X4_otherEndOf_3 l2 g) (f_X4_milesOf_3 l2 g) g) fun w2 =>
        xl (f_X10_shorten_38 (f_X4_otherEndOf_3 l2 w2) (f_X4_oneEndOf_3 l2 w2) (f_X4_milesOf_3 l2 w2) w2) fun w3 =>
        f_X10_measure_38_48 n (l2 + 1) w3
def f_X10_measure_38_7  : Nat → Int32 → xG → Option (xG)
  | 0, _, _ => none
  | n + 1, l2, g =>
    if 49 ≤ l2 then
      f_X10_measure_38_48 xN 0 g
    else
      xg (¬ 7 = 0) (
        xg (¬ 7 = 0) (
          if (l2 / 7) = (l2 - l2 / 7 * 7) then
            xg (¬ (l2 < 0 ∨ 49 ≤ l2.toNatClampNeg)) (
              f_X10_measure_38_7 n (l2 + 1) (xupd g.1 39 l2.toNatClampNeg 0, g.2))
          else
            xg (¬ (l2 < 0 ∨ 49 ≤ l2.toNatClampNeg)) (
              f_X10_measure_38_7 n (l2 + 1) (xupd g.1 39 l2.toNatClampNeg 999, g.2))))
def f_X10_measure_38 (p1 : Int32) (g : xG) : Option (xG) :=
  f_X10_measure_38_7 xN 0 (xupd g.1 38 2 p1, g.2)
set_option maxRecDepth 20000 in
theorem t_X10_measure_38_158 {k : xK} {S : List xSh} {out : xG} (hS : xpf SH1 S) (A : xAt k mX10_measure.2.1 10 SH1 S) (hR : xRet k 0 0 S (fun r g' => r = none ∧ g' = out) mX10_measure.2.2.2) (hrm : xrm k = { frames := 3, cells := 0, slots := 0, locals := 66 }) (hz : xhs k = xb0 k + S.length) {k131 : Int32 → xG → Option (xG)} {k144 : Int32 → Int32 → xG → Option (xG)} (hk131 : ∀ (l2 : Int32) (g : xG), k131 l2 g = some out → xW k S 0 0 131 [some (.ref 38), none, some (.int l2), none, none] [] g) (hk144 : ∀ (l2 : Int32) (l3 : Int32) (g : xG), k144 l2 l3 g = some out → xW k S 0 0 144 [some (.ref 38), none, some (.int l2), some (.int l3), none] [] g) : ∀ (n : Nat) (l2 : Int32) (l3 : Int32) (l4 : Int32) (g : xG), f_X10_measure_38_158 k131 k144 n l2 l3 l4 g = some out → xW k S 0 0 158 [some (.ref 38), none, some (.int l2), some (.int l3), some (.int l4)] [] g := by
  intro n
  induction n with
  | zero => intro l2 l3 l4 g H; exact absurd H (by simp [f_X10_measure_38_158])
  | succ n ih =>
    intro l2 l3 l4 g H
    have H : (if (f_X4_towns_3 g) ≤ l4 then
  k144 l2 (l3 + 1) g
else
  xl (f_X10_shorten_38 l3 l4 ((f_X10_between_38 l3 l2 g) + (f_X10_between_38 l2 l4 g)) g) fun w1 =>
  f_X10_measure_38_158 k131 k144 n l2 l3 (l4 + 1) w1) = some out := H
    refine xb A [(.iload 4, 2, 0, 0, .null), (.aload_n 0, 1, 0, 0, .null), (.getfield 15, 3, 38, 0, .ref 3)] (pc' := 164) (ls' := [some (.ref 38), none, some (.int l2), some (.int l3), some (.int l4)]) (st' := [.ref 3, .int l4]) (g' := g) (by decide +kernel) rfl ?_
    refine xcallV A (ix := 47) (nxt := 167) hrm hz [] [.int l4] 539 (c_X4_towns_3 hS _ rfl) ok_X4_towns (by decide +kernel) rfl (fun r g1 hq => ?_)
    rw [hq.1, hq.2]
    show xW k S 0 0 167 [some (.ref 38), none, some (.int l2), some (.int l3), some (.int l4)] [.int (f_X4_towns_3 g), .int l4] g
    refine xic_ge A (30) 197 170 (by decide +kernel) (fun h5 => ?_) (fun h5 => ?_)
    · rw [if_pos h5] at H
      refine xb A [(.iinc 3 1, 3, 0, 0, .null)] (pc' := 200) (ls' := [some (.ref 38), none, some (.int l2), some (.int (l3 + 1)), some (.int l4)]) (st' := []) (g' := g) (by decide +kernel) rfl ?_
      refine xgoto A (-56) 144 (by decide +kernel) ?_
      refine xweak (ls' := [some (.ref 38), none, some (.int l2), some (.int (l3 + 1)), none]) (by exact ⟨rfl, ⟨rfl, ⟨rfl, trivial⟩⟩⟩) ?_
      exact hk144 _ _ _ H
    · rw [if_neg h5] at H
      refine xb A [(.aload_n 0, 1, 0, 0, .null), (.iload_n 3, 1, 0, 0, .null), (.iload 4, 2, 0, 0, .null), (.aload_n 0, 1, 0, 0, .null), (.iload_n 3, 1, 0, 0, .null), (.iload_n 2, 1, 0, 0, .null)] (pc' := 177) (ls' := [some (.ref 38), none, some (.int l2), some (.int l3), some (.int l4)]) (st' := [.int l2, .int l3, .ref 38, .int l4, .int l3, .ref 38]) (g' := g) (by decide +kernel) rfl ?_
      refine xcallV A (ix := 50) (nxt := 180) hrm hz [.int l3, .int l2] [.int l4, .int l3, .ref 38] 529 (c_X10_between_38 hS _ rfl) ok_X10_between (by decide +kernel) rfl (fun r g1 hq => ?_)
      rw [hq.1, hq.2]
      show xW k S 0 0 180 [some (.ref 38), none, some (.int l2), some (.int l3), some (.int l4)] [.int (f_X10_between_38 l3 l2 g), .int l4, .int l3, .ref 38] g
      refine xb A [(.aload_n 0, 1, 0, 0, .null), (.iload_n 2, 1, 0, 0, .null), (.iload 4, 2, 0, 0, .null)] (pc' := 184) (ls' := [some (.ref 38), none, some (.int l2), some (.int l3), some (.int l4)]) (st' := [.int l4, .int l2, .ref 38, .int (f_X10_between_38 l3 l2 g), .int l4, .int l3, .ref 38]) (g' := g) (by decide +kernel) rfl ?_
      refine xcallV A (ix := 50) (nxt := 187) hrm hz [.int l2, .int l4] [.int (f_X10_between_38 l3 l2 g), .int l4, .int l3, .ref 38] 529 (c_X10_between_38 hS _ rfl) ok_X10_between (by decide +kernel) rfl (fun r g1 hq => ?_)
      rw [hq.1, hq.2]
      show xW k S 0 0 187 [some (.ref 38), none, some (.int l2), some (.int l3), some (.int l4)] [.int (f_X10_between_38 l2 l4 g), .int (f_X10_between_38 l3 l2 g), .int l4, .int l3, .ref 38] g
      refine xb A [(.iadd, 1, 0, 0, .null)] (pc' := 188) (ls' := [some (.ref 38), none, some (.int l2), some (.int l3), some (.int l4)]) (st' := [.int ((f_X10_between_38 l3 l2 g) + (f_X10_between_38 l2 l4 g)), .int l4, .int l3, .ref 38]) (g' := g) (by decide +kernel) rfl ?_
      obtain ⟨w1, e1, H⟩ := xl_elim H
      refine xcallV A (ix := 43) (nxt := 191) hrm hz [.int l3, .int l4, .int ((f_X10_between_38 l3 l2 g) + (f_X10_between_38 l2 l4 g))] [] 525 (c_X10_shorten_38 hS _ e1) ok_X10_shorten (by decide +kernel) rfl (fun r g1 hq => ?_)
      rw [hq.1, hq.2]
      show xW k S 0 0 191 [some (.ref 38), none, some (.int l2), some (.int l3), some (.int l4)] [] w1
      refine xb A [(.iinc 4 1, 3, 0, 0, .null)] (pc' := 194) (ls' := [some (.ref 38), none, some (.int l2), some (.int l3), some (.int (l4 + 1))]) (st' := []) (g' := w1) (by decide +kernel) rfl ?_
      refine xgoto A (-36) 158 (by decide +kernel) ?_
      exact ih _ _ _ _ H
set_option maxRecDepth 20000 in
theorem t_X10_measure_38_144 {k : xK} {S : List xSh} {out : xG} (hS : xpf SH1 S) (A : xAt k mX10_measure.2.1 10 SH1 S) (hR : xRet k 0 0 S (fun r g' => r = none ∧ g' = out) mX10_measure.2.2.2) (hrm : xrm k = { frames := 3, cells := 0, slots := 0, locals := 66 }) (hz : xhs k = xb0 k + S.length) {k131 : Int32 → xG → Option (xG)} (hk131 : ∀ (l2 : Int32) (g : xG), k131 l2 g = some out → xW k S 0 0 131 [some (.ref 38), none, some (.int l2), none, none] [] g) : ∀ (n : Nat) (l2 : Int32) (l3 : Int32) (g : xG), f_X10_measure_38_144 k131 n l2 l3 g = some out → xW k S 0 0 144 [some (.ref 38), none, some (.int l2), some (.int l3), none] [] g := by
  intro n
  induction n with
  | zero => intro l2 l3 g H; exact absurd H (by simp [f_X10_measure_38_144])
  | succ n ih =>
    intro l2 l3 g H
    have H : (if (f_X4_towns_3 g) ≤ l3 then
  k131 (l2 + 1) g
else
  f_X10_measure_38_158 k131 (f_X10_measure_38_144 k131 n) xN l2 l3 0 g) = some out := H
    refine xb A [(.iload_n 3, 1, 0, 0, .null), (.aload_n 0, 1, 0, 0, .null), (.getfield 15, 3, 38, 0, .ref 3)] (pc' := 149) (ls' := [some (.ref 38), none, some (.int l2), some (.int l3), none]) (st' := [.ref 3, .int l3]) (g' := g) (by decide +kernel) rfl ?_
    refine xcallV A (ix := 47) (nxt := 152) hrm hz [] [.int l3] 539 (c_X4_towns_3 hS _ rfl) ok_X4_towns (by decide +kernel) rfl (fun r g1 hq => ?_)
    rw [hq.1, hq.2]
    show xW k S 0 0 152 [some (.ref 38), none, some (.int l2), some (.int l3), none] [.int (f_X4_towns_3 g), .int l3] g
    refine xic_ge A (51) 203 155 (by decide +kernel) (fun h4 => ?_) (fun h4 => ?_)
    · rw [if_pos h4] at H
      refine xb A [(.iinc 2 1, 3, 0, 0, .null)] (pc' := 206) (ls' := [some (.ref 38), none, some (.int (l2 + 1)), some (.int l3), none]) (st' := []) (g' := g) (by decide +kernel) rfl ?_
      refine xgoto A (-75) 131 (by decide +kernel) ?_
      refine xweak (ls' := [some (.ref 38), none, some (.int (l2 + 1)), none, none]) (by exact ⟨rfl, ⟨rfl, trivial⟩⟩) ?_
      exact hk131 _ _ H
    · rw [if_neg h4] at H
      refine xb A [(.iconst 0, 1, 0, 0, .int 0), (.istore 4, 2, 0, 0, .null)] (pc' := 158) (ls' := [some (.ref 38), none, some (.int l2), some (.int l3), some (.int 0)]) (st' := []) (g' := g) (by decide +kernel) rfl ?_
      exact t_X10_measure_38_158 hS A hR hrm hz hk131 ih _ _ _ _ _ H
set_option maxRecDepth 20000 in
theorem t_X10_measure_38_131 {k : xK} {S : List xSh} {out : xG} (hS : xpf SH1 S) (A : xAt k mX10_measure.2.1 10 SH1 S) (hR : xRet k 0 0 S (fun r g' => r = none ∧ g' = out) mX10_measure.2.2.2) (hrm : xrm k = { frames := 3, cells := 0, slots := 0, locals := 66 }) (hz : xhs k = xb0 k + S.length)   : ∀ (n : Nat) (l2 : Int32) (g : xG), f_X10_measure_38_131 n l2 g = some out → xW k S 0 0 131 [some (.ref 38), none, some (.int l2), none, none] [] g := by
  intro n
  induction n with
  | zero => intro l2 g H; exact absurd H (by simp [f_X10_measure_38_131])
  | succ n ih =>
    intro l2 g H
    have H : (if (f_X4_towns_3 g) ≤ l2 then
  some g
else
  f_X10_measure_38_144 (f_X10_measure_38_131 n) xN l2 0 g) = some out := H
    refine xb A [(.iload_n 2, 1, 0, 0, .null), (.aload_n 0, 1, 0, 0, .null), (.getfield 15, 3, 38, 0, .ref 3)] (pc' := 136) (ls' := [some (.ref 38), none, some (.int l2), none, none]) (st' := [.ref 3, .int l2]) (g' := g) (by decide +kernel) rfl ?_
    refine xcallV A (ix := 47) (nxt := 139) hrm hz [] [.int l2] 539 (c_X4_towns_3 hS _ rfl) ok_X4_towns (by decide +kernel) rfl (fun r g1 hq => ?_)
    rw [hq.1, hq.2]
    show xW k S 0 0 139 [some (.ref 38), none, some (.int l2), none, none] [.int (f_X4_towns_3 g), .int l2] g
    refine xic_ge A (70) 209 142 (by decide +kernel) (fun h3 => ?_) (fun h3 => ?_)
    · rw [if_pos h3] at H
      obtain rfl := Option.some.inj H
      exact xret_v A hR hz (by decide +kernel) ⟨rfl, rfl⟩
    · rw [if_neg h3] at H
      refine xb A [(.iconst 0, 1, 0, 0, .int 0), (.istore_n 3, 1, 0, 0, .null)] (pc' := 144) (ls' := [some (.ref 38), none, some (.int l2), some (.int 0), none]) (st' := []) (g' := g) (by decide +kernel) rfl ?_
      exact t_X10_measure_38_144 hS A hR hrm hz ih _ _ _ _ H
set_option maxRecDepth 20000 in
theorem t_X10_measure_38_48 {k : xK} {S : List xSh} {out : xG} (hS : xpf SH1 S) (A : xAt k mX10_measure.2.1 10 SH1 S) (hR : xRet k 0 0 S (fun r g' => r = none ∧ g' = out) mX10_measure.2.2.2) (hrm : xrm k = { frames := 3, cells := 0, slots := 0, locals := 66 }) (hz : xhs k = xb0 k + S.length)   : ∀ (n : Nat) (l2 : Int32) (g : xG), f_X10_measure_38_48 n l2 g = some out → xW k S 0 0 48 [some (.ref 38), none, some (.int l2), none, none] [] g := by
  intro n
  induction n with
  | zero => intro l2 g H; exact absurd H (by simp [f_X10_measure_38_48])
  | succ n ih =>
    intro l2 g H
    have H : (if (f_X4_roads_3 g) ≤ l2 then
  f_X10_measure_38_131 xN 0 g
else
  if (f_X10_isOpen_38 l2 g) = 0 then
    f_X10_measure_38_48 n (l2 + 1) g
  else
    xl (f_X10_shorten_38 (f_X4_oneEndOf_3 l2 g) (f_X4_otherEndOf_3 l2 g) (f_X4_milesOf_3 l2 g) g) fun w2 =>
    xl (f_X10_shorten_38 (f_X4_otherEndOf_3 l2 w2) (f_X4_oneEndOf_3 l2 w2) (f_X4_milesOf_3 l2 w2) w2) fun w3 =>
    f_X10_measure_38_48 n (l2 + 1) w3) = some out := H
    refine xb A [(.iload_n 2, 1, 0, 0, .null), (.aload_n 0, 1, 0, 0, .null), (.getfield 15, 3, 38, 0, .ref 3)] (pc' := 53) (ls' := [some (.ref 38), none, some (.int l2), none, none]) (st' := [.ref 3, .int l2]) (g' := g) (by decide +kernel) rfl ?_
    refine xcallV A (ix := 23) (nxt := 56) hrm hz [] [.int l2] 498 (c_X4_roads_3 hS _ rfl) ok_X4_roads (by decide +kernel) rfl (fun r g1 hq => ?_)
    rw [hq.1, hq.2]
    show xW k S 0 0 56 [some (.ref 38), none, some (.int l2), none, none] [.int (f_X4_roads_3 g), .int l2] g
    refine xic_ge A (73) 129 59 (by decide +kernel) (fun h2 => ?_) (fun h2 => ?_)
    · rw [if_pos h2] at H
      refine xb A [(.iconst 0, 1, 0, 0, .int 0), (.istore_n 2, 1, 0, 0, .null)] (pc' := 131) (ls' := [some (.ref 38), none, some (.int 0), none, none]) (st' := []) (g' := g) (by decide +kernel) rfl ?_
      exact t_X10_measure_38_131 hS A hR hrm hz _ _ _ H
    · rw [if_neg h2] at H
      refine xb A [(.aload_n 0, 1, 0, 0, .null), (.iload_n 2, 1, 0, 0, .null)] (pc' := 61) (ls' := [some (.ref 38), none, some (.int l2), none, none]) (st' := [.int l2, .ref 38]) (g' := g) (by decide +kernel) rfl ?_
      refine xcallV A (ix := 29) (nxt := 64) hrm hz [.int l2] [] 502 (c_X10_isOpen_38 hS _ rfl) ok_X10_isOpen (by decide +kernel) rfl (fun r g1 hq => ?_)
      rw [hq.1, hq.2]
      show xW k S 0 0 64 [some (.ref 38), none, some (.int l2), none, none] [.int (f_X10_isOpen_38 l2 g)] g
      refine xif_eq A (59) 123 67 (by decide +kernel) (fun h6 => ?_) (fun h6 => ?_)
      · rw [if_pos h6] at H
        refine xb A [(.iinc 2 1, 3, 0, 0, .null)] (pc' := 126) (ls' := [some (.ref 38), none, some (.int (l2 + 1)), none, none]) (st' := []) (g' := g) (by decide +kernel) rfl ?_
        refine xgoto A (-78) 48 (by decide +kernel) ?_
        exact ih _ _ H
      · rw [if_neg h6] at H
        refine xb A [(.aload_n 0, 1, 0, 0, .null), (.aload_n 0, 1, 0, 0, .null), (.getfield 15, 3, 38, 0, .ref 3), (.iload_n 2, 1, 0, 0, .null)] (pc' := 73) (ls' := [some (.ref 38), none, some (.int l2), none, none]) (st' := [.int l2, .ref 3, .ref 38]) (g' := g) (by decide +kernel) rfl ?_
        refine xcallV A (ix := 33) (nxt := 76) hrm hz [.int l2] [.ref 38] 513 (c_X4_oneEndOf_3 hS _ rfl) ok_X4_oneEndOf (by decide +kernel) rfl (fun r g1 hq => ?_)
        rw [hq.1, hq.2]
        show xW k S 0 0 76 [some (.ref 38), none, some (.int l2), none, none] [.int (f_X4_oneEndOf_3 l2 g), .ref 38] g
        refine xb A [(.aload_n 0, 1, 0, 0, .null), (.getfield 15, 3, 38, 0, .ref 3), (.iload_n 2, 1, 0, 0, .null)] (pc' := 81) (ls' := [some (.ref 38), none, some (.int l2), none, none]) (st' := [.int l2, .ref 3, .int (f_X4_oneEndOf_3 l2 g), .ref 38]) (g' := g) (by decide +kernel) rfl ?_
        refine xcallV A (ix := 37) (nxt := 84) hrm hz [.int l2] [.int (f_X4_oneEndOf_3 l2 g), .ref 38] 517 (c_X4_otherEndOf_3 hS _ rfl) ok_X4_otherEndOf (by decide +kernel) rfl (fun r g1 hq => ?_)
        rw [hq.1, hq.2]
        show xW k S 0 0 84 [some (.ref 38), none, some (.int l2), none, none] [.int (f_X4_otherEndOf_3 l2 g), .int (f_X4_oneEndOf_3 l2 g), .ref 38] g
        refine xb A [(.aload_n 0, 1, 0, 0, .null), (.getfield 15, 3, 38, 0, .ref 3), (.iload_n 2, 1, 0, 0, .null)] (pc' := 89) (ls' := [some (.ref 38), none, some (.int l2), none, none]) (st' := [.int l2, .ref 3, .int (f_X4_otherEndOf_3 l2 g), .int (f_X4_oneEndOf_3 l2 g), .ref 38]) (g' := g) (by decide +kernel) rfl ?_
        refine xcallV A (ix := 40) (nxt := 92) hrm hz [.int l2] [.int (f_X4_otherEndOf_3 l2 g), .int (f_X4_oneEndOf_3 l2 g), .ref 38] 521 (c_X4_milesOf_3 hS _ rfl) ok_X4_milesOf (by decide +kernel) rfl (fun r g1 hq => ?_)
        rw [hq.1, hq.2]
        show xW k S 0 0 92 [some (.ref 38), none, some (.int l2), none, none] [.int (f_X4_milesOf_3 l2 g), .int (f_X4_otherEndOf_3 l2 g), .int (f_X4_oneEndOf_3 l2 g), .ref 38] g
        obtain ⟨w2, e2, H⟩ := xl_elim H
        refine xcallV A (ix := 43) (nxt := 95) hrm hz [.int (f_X4_oneEndOf_3 l2 g), .int (f_X4_otherEndOf_3 l2 g), .int (f_X4_milesOf_3 l2 g)] [] 525 (c_X10_shorten_38 hS _ e2) ok_X10_shorten (by decide +kernel) rfl (fun r g1 hq => ?_)
        rw [hq.1, hq.2]
        show xW k S 0 0 95 [some (.ref 38), none, some (.int l2), none, none] [] w2
        refine xb A [(.aload_n 0, 1, 0, 0, .null), (.aload_n 0, 1, 0, 0, .null), (.getfield 15, 3, 38, 0, .ref 3), (.iload_n 2, 1, 0, 0, .null)] (pc' := 101) (ls' := [some (.ref 38), none, some (.int l2), none, none]) (st' := [.int l2, .ref 3, .ref 38]) (g' := w2) (by decide +kernel) rfl ?_
        refine xcallV A (ix := 37) (nxt := 104) hrm hz [.int l2] [.ref 38] 517 (c_X4_otherEndOf_3 hS _ rfl) ok_X4_otherEndOf (by decide +kernel) rfl (fun r g1 hq => ?_)
        rw [hq.1, hq.2]
        show xW k S 0 0 104 [some (.ref 38), none, some (.int l2), none, none] [.int (f_X4_otherEndOf_3 l2 w2), .ref 38] w2
        refine xb A [(.aload_n 0, 1, 0, 0, .null), (.getfield 15, 3, 38, 0, .ref 3), (.iload_n 2, 1, 0, 0, .null)] (pc' := 109) (ls' := [some (.ref 38), none, some (.int l2), none, none]) (st' := [.int l2, .ref 3, .int (f_X4_otherEndOf_3 l2 w2), .ref 38]) (g' := w2) (by decide +kernel) rfl ?_
        refine xcallV A (ix := 33) (nxt := 112) hrm hz [.int l2] [.int (f_X4_otherEndOf_3 l2 w2), .ref 38] 513 (c_X4_oneEndOf_3 hS _ rfl) ok_X4_oneEndOf (by decide +kernel) rfl (fun r g1 hq => ?_)
        rw [hq.1, hq.2]
        show xW k S 0 0 112 [some (.ref 38), none, some (.int l2), none, none] [.int (f_X4_oneEndOf_3 l2 w2), .int (f_X4_otherEndOf_3 l2 w2), .ref 38] w2
        refine xb A [(.aload_n 0, 1, 0, 0, .null), (.getfield 15, 3, 38, 0, .ref 3), (.iload_n 2, 1, 0, 0, .null)] (pc' := 117) (ls' := [some (.ref 38), none, some (.int l2), none, none]) (st' := [.int l2, .ref 3, .int (f_X4_oneEndOf_3 l2 w2), .int (f_X4_otherEndOf_3 l2 w2), .ref 38]) (g' := w2) (by decide +kernel) rfl ?_
        refine xcallV A (ix := 40) (nxt := 120) hrm hz [.int l2] [.int (f_X4_oneEndOf_3 l2 w2), .int (f_X4_otherEndOf_3 l2 w2), .ref 38] 521 (c_X4_milesOf_3 hS _ rfl) ok_X4_milesOf (by decide +kernel) rfl (fun r g1 hq => ?_)
        rw [hq.1, hq.2]
        show xW k S 0 0 120 [some (.ref 38), none, some (.int l2), none, none] [.int (f_X4_milesOf_3 l2 w2), .int (f_X4_oneEndOf_3 l2 w2), .int (f_X4_otherEndOf_3 l2 w2), .ref 38] w2
        obtain ⟨w3, e3, H⟩ := xl_elim H
        refine xcallV A (ix := 43) (nxt := 123) hrm hz [.int (f_X4_otherEndOf_3 l2 w2), .int (f_X4_oneEndOf_3 l2 w2), .int (f_X4_milesOf_3 l2 w2)] [] 525 (c_X10_shorten_38 hS _ e3) ok_X10_shorten (by decide +kernel) rfl (fun r g1 hq => ?_)
        rw [hq.1, hq.2]
        show xW k S 0 0 123 [some (.ref 38), none, some (.int l2), none, none] [] w3
        refine xb A [(.iinc 2 1, 3, 0, 0, .null)] (pc' := 126) (ls' := [some (.ref 38), none, some (.int (l2 + 1)), none, none]) (st' := []) (g' := w3) (by decide +kernel) rfl ?_
        refine xgoto A (-78) 48 (by decide +kernel) ?_
        exact ih _ _ H
set_option maxRecDepth 20000 in
theorem t_X10_measure_38_7 {k : xK} {S : List xSh} {out : xG} (hS : xpf SH1 S) (A : xAt k mX10_measure.2.1 10 SH1 S) (hR : xRet k 0 0 S (fun r g' => r = none ∧ g' = out) mX10_measure.2.2.2) (hrm : xrm k = { frames := 3, cells := 0, slots := 0, locals := 66 }) (hz : xhs k = xb0 k + S.length)   : ∀ (n : Nat) (l2 : Int32) (g : xG), f_X10_measure_38_7 n l2 g = some out → xW k S 0 0 7 [some (.ref 38), none, some (.int l2), none, none] [] g := by
  intro n
  induction n with
  | zero => intro l2 g H; exact absurd H (by simp [f_X10_measure_38_7])
  | succ n ih =>
    intro l2 g H
    have H : (if 49 ≤ l2 then
  f_X10_measure_38_48 xN 0 g
else
  xg (¬ 7 = 0) (
    xg (¬ 7 = 0) (
      if (l2 / 7) = (l2 - l2 / 7 * 7) then
        xg (¬ (l2 < 0 ∨ 49 ≤ l2.toNatClampNeg)) (
          f_X10_measure_38_7 n (l2 + 1) (xupd g.1 39 l2.toNatClampNeg 0, g.2))
      else
        xg (¬ (l2 < 0 ∨ 49 ≤ l2.toNatClampNeg)) (
          f_X10_measure_38_7 n (l2 + 1) (xupd g.1 39 l2.toNatClampNeg 999, g.2))))) = some out := H
    refine xb A [(.iload_n 2, 1, 0, 0, .null), (.aload_n 0, 1, 0, 0, .null), (.getfield 9, 3, 38, 1, .ref 39), (.arraylength, 1, 39, 0, .int 49)] (pc' := 13) (ls' := [some (.ref 38), none, some (.int l2), none, none]) (st' := [.int 49, .int l2]) (g' := g) (by decide +kernel) rfl ?_
    refine xic_ge A (33) 46 16 (by decide +kernel) (fun h1 => ?_) (fun h1 => ?_)
    · rw [if_pos h1] at H
      refine xb A [(.iconst 0, 1, 0, 0, .int 0), (.istore_n 2, 1, 0, 0, .null)] (pc' := 48) (ls' := [some (.ref 38), none, some (.int 0), none, none]) (st' := []) (g' := g) (by decide +kernel) rfl ?_
      exact t_X10_measure_38_48 hS A hR hrm hz _ _ _ H
    · rw [if_neg h1] at H
      refine xb A [(.aload_n 0, 1, 0, 0, .null), (.getfield 9, 3, 38, 1, .ref 39), (.iload_n 2, 1, 0, 0, .null), (.iload_n 2, 1, 0, 0, .null), (.bipush 7, 2, 0, 0, .int 7)] (pc' := 24) (ls' := [some (.ref 38), none, some (.int l2), none, none]) (st' := [.int 7, .int l2, .int l2, .ref 39]) (g' := g) (by decide +kernel) rfl ?_
      obtain ⟨h7, H⟩ := xg_elim H
      refine xidiv A (nxt := 25) (by decide +kernel) h7 ?_
      refine xb A [(.iload_n 2, 1, 0, 0, .null), (.bipush 7, 2, 0, 0, .int 7)] (pc' := 28) (ls' := [some (.ref 38), none, some (.int l2), none, none]) (st' := [.int 7, .int l2, .int (l2 / 7), .int l2, .ref 39]) (g' := g) (by decide +kernel) rfl ?_
      obtain ⟨h8, H⟩ := xg_elim H
      refine xirem A (nxt := 29) (by decide +kernel) h8 ?_
      refine xic_ne A (7) 36 32 (by decide +kernel) (fun h9 => ?_) (fun h9 => ?_)
      · rw [if_neg h9] at H
        refine xb A [(.sipush 999, 3, 0, 0, .int 999)] (pc' := 39) (ls' := [some (.ref 38), none, some (.int l2), none, none]) (st' := [.int 999, .int l2, .ref 39]) (g' := g) (by decide +kernel) rfl ?_
        obtain ⟨h10, H⟩ := xg_elim H
        refine xiast A (nxt := 40) (by decide +kernel) (hS _ _ sh_39) h10 ?_
        show xW k S 0 0 40 [some (.ref 38), none, some (.int l2), none, none] [] (xupd g.1 39 l2.toNatClampNeg 999, g.2)
        refine xb A [(.iinc 2 1, 3, 0, 0, .null)] (pc' := 43) (ls' := [some (.ref 38), none, some (.int (l2 + 1)), none, none]) (st' := []) (g' := (xupd g.1 39 l2.toNatClampNeg 999, g.2)) (by decide +kernel) rfl ?_
        refine xgoto A (-36) 7 (by decide +kernel) ?_
        exact ih _ _ H
      · rw [if_pos h9] at H
        refine xb A [(.iconst 0, 1, 0, 0, .int 0)] (pc' := 33) (ls' := [some (.ref 38), none, some (.int l2), none, none]) (st' := [.int 0, .int l2, .ref 39]) (g' := g) (by decide +kernel) rfl ?_
        refine xgoto A (6) 39 (by decide +kernel) ?_
        obtain ⟨h11, H⟩ := xg_elim H
        refine xiast A (nxt := 40) (by decide +kernel) (hS _ _ sh_39) h11 ?_
        show xW k S 0 0 40 [some (.ref 38), none, some (.int l2), none, none] [] (xupd g.1 39 l2.toNatClampNeg 0, g.2)
        refine xb A [(.iinc 2 1, 3, 0, 0, .null)] (pc' := 43) (ls' := [some (.ref 38), none, some (.int (l2 + 1)), none, none]) (st' := []) (g' := (xupd g.1 39 l2.toNatClampNeg 0, g.2)) (by decide +kernel) rfl ?_
        refine xgoto A (-36) 7 (by decide +kernel) ?_
        exact ih _ _ H
set_option maxRecDepth 20000 in
theorem c_X10_measure_38 {S : List xSh} (hS : xpf SH1 S) {g : xG} {p1 : Int32} (out : xG) (H : f_X10_measure_38 p1 g = some out) : xC mX10_measure 3 66 0 0 S [.ref 38, .int p1] g S (fun r g' => r = none ∧ g' = out) := by
  have H : (f_X10_measure_38_7 xN 0 (xupd g.1 38 2 p1, g.2)) = some out := H
  refine xC.of 10 SH1 [some (.ref 38), some (.int p1), none, none, none] hS (by decide +kernel) rfl (fun _ _ => Nat.le_of_ble_eq_true rfl) (fun _ _ => rfl) ?_
  intro k A hR hrm hz
  refine xb A [(.aload_n 0, 1, 0, 0, .null), (.iload_n 1, 1, 0, 0, .null), (.putfield 19, 3, 38, 2, .int 0), (.iconst 0, 1, 0, 0, .int 0), (.istore_n 2, 1, 0, 0, .null)] (pc' := 7) (ls' := [some (.ref 38), some (.int p1), some (.int 0), none, none]) (st' := []) (g' := (xupd g.1 38 2 p1, g.2)) (by decide +kernel) rfl ?_
  refine xweak (ls' := [some (.ref 38), none, some (.int 0), none, none]) (by exact ⟨rfl, ⟨rfl, trivial⟩⟩) ?_
  exact t_X10_measure_38_7 hS A hR hrm hz _ _ _ H
