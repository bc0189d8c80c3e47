/-! methods, walked by program -/
def f_X0_clear_56  (g : xG) : xG :=
  (xupd g.1 56 5 0, g.2)
set_option maxRecDepth 20000 in
theorem c_X0_clear_56 {S : List xSh} (hS : xpf SH1 S) {g : xG}  (out : xG) (H : f_X0_clear_56  g = out) : xC mX0_clear 0 0 0 0 S [.ref 56] g S (fun r g' => r = none ∧ g' = out) := by
  have H : ((xupd g.1 56 5 0, g.2)) = out := H
  refine xC.of 0 SH1 [some (.ref 56)] hS (by decide +kernel) rfl (fun _ _ => Nat.le_of_ble_eq_true rfl) (fun _ _ => rfl) ?_
  intro k A hR hrm hz
  refine xb A [(.aload_n 0, 1, 0, 0, .null), (.iconst 0, 1, 0, 0, .int 0), (.putfield 30, 3, 56, 5, .int 0)] (pc' := 5) (ls' := [some (.ref 56)]) (st' := []) (g' := (xupd g.1 56 5 0, g.2)) (by decide +kernel) rfl ?_
  subst H
  exact xret_v A hR hz (by decide +kernel) ⟨rfl, rfl⟩
def f_X11_beginAnew_0  (g : xG) : Option (xG) :=
  (f_X6_begin_48_3 g).bind fun w1 =>
  (f_X10_measure_38 (f_X6_get_48 4 w1) w1).bind fun w2 =>
  xl (f_X0_clear_56 w2) fun w3 =>
  some (xupd (xupd w3.1 0 13 0) 0 15 0, w3.2)
set_option maxRecDepth 20000 in
theorem c_X11_beginAnew_0 {S : List xSh} (hS : xpf SH1 S) {g : xG}  (out : xG) (H : f_X11_beginAnew_0  g = some out) : xC mX11_beginAnew 4 90 0 0 S [.ref 0] g S (fun r g' => r = none ∧ g' = out) := by
  have H : ((f_X6_begin_48_3 g).bind fun w1 =>
(f_X10_measure_38 (f_X6_get_48 4 w1) w1).bind fun w2 =>
xl (f_X0_clear_56 w2) fun w3 =>
some (xupd (xupd w3.1 0 13 0) 0 15 0, w3.2)) = some out := H
  refine xC.of 11 SH1 [some (.ref 0)] hS (by decide +kernel) rfl (fun _ _ => Nat.le_of_ble_eq_true rfl) (fun _ _ => rfl) ?_
  intro k A hR hrm hz
  refine xb A [(.aload_n 0, 1, 0, 0, .null), (.getfield 66, 3, 0, 8, .ref 48), (.aload_n 0, 1, 0, 0, .null), (.getfield 19, 3, 0, 1, .ref 3)] (pc' := 8) (ls' := [some (.ref 0)]) (st' := [.ref 3, .ref 48]) (g' := g) (by decide +kernel) rfl ?_
  obtain ⟨w1, e1, H⟩ := xbind H
  refine xcallV A (ix := 132) (nxt := 11) hrm hz [.ref 3] [] 465 (c_X6_begin_48_3 hS _ e1) ok_X6_begin (by decide +kernel) rfl (fun r g1 hq => ?_)
  rw [hq.1, hq.2]
  show xW k S 0 0 11 [some (.ref 0)] [] w1
  refine xb A [(.aload_n 0, 1, 0, 0, .null), (.getfield 37, 3, 0, 3, .ref 38), (.aload_n 0, 1, 0, 0, .null), (.getfield 66, 3, 0, 8, .ref 48), (.iconst 4, 1, 0, 0, .int 4)] (pc' := 20) (ls' := [some (.ref 0)]) (st' := [.int 4, .ref 48, .ref 38]) (g' := w1) (by decide +kernel) rfl ?_
  refine xcallV A (ix := 135) (nxt := 23) hrm hz [.int 4] [.ref 38] 489 (c_X6_get_48 hS _ rfl) ok_X6_get (by decide +kernel) rfl (fun r g1 hq => ?_)
  rw [hq.1, hq.2]
  show xW k S 0 0 23 [some (.ref 0)] [.int (f_X6_get_48 4 w1), .ref 38] w1
  obtain ⟨w2, e2, H⟩ := xbind H
  refine xcallV A (ix := 139) (nxt := 26) hrm hz [.int (f_X6_get_48 4 w1)] [] 494 (c_X10_measure_38 hS _ e2) ok_X10_measure (by decide +kernel) rfl (fun r g1 hq => ?_)
  rw [hq.1, hq.2]
  show xW k S 0 0 26 [some (.ref 0)] [] w2
  refine xb A [(.aload_n 0, 1, 0, 0, .null), (.getfield 90, 3, 0, 12, .ref 56)] (pc' := 30) (ls' := [some (.ref 0)]) (st' := [.ref 56]) (g' := w2) (by decide +kernel) rfl ?_
  obtain ⟨w3, e3, H⟩ := xl_elim H
  refine xcallV A (ix := 142) (nxt := 33) hrm hz [] [] 543 (c_X0_clear_56 hS _ e3) ok_X0_clear (by decide +kernel) rfl (fun r g1 hq => ?_)
  rw [hq.1, hq.2]
  show xW k S 0 0 33 [some (.ref 0)] [] w3
  refine xb A [(.aload_n 0, 1, 0, 0, .null), (.iconst 0, 1, 0, 0, .int 0), (.putfield 143, 3, 0, 13, .int 0), (.aload_n 0, 1, 0, 0, .null), (.iconst 0, 1, 0, 0, .int 0), (.putfield 146, 3, 0, 15, .int 0)] (pc' := 43) (ls' := [some (.ref 0)]) (st' := []) (g' := (xupd (xupd w3.1 0 13 0) 0 15 0, w3.2)) (by decide +kernel) rfl ?_
  obtain rfl := Option.some.inj H
  exact xret_v A hR hz (by decide +kernel) ⟨rfl, rfl⟩
def f_X11_read_0  (g : xG) : Option (Int32 × xG) :=
  (f_X3_readText_17 g).bind fun w1 =>
  xl (f_X8_clear_1 (xupd w1.2.1 0 16 (f_X3_faultPlace_17 w1.2), w1.2.2)) fun w2 =>
  if w1.1 = 0 then
    xl (f_X4_copyFrom_3_23 w2) fun w3 =>
    (f_X11_beginAnew_0 w3).bind fun w4 =>
    some (w1.1, w4)
  else
    some (w1.1, w2)
set_option maxRecDepth 20000 in
theorem c_X11_read_0 {S : List xSh} (hS : xpf SH1 S) {g : xG}  (out : Int32 × xG) (H : f_X11_read_0  g = some out) : xC mX11_read 7 159 0 0 S [.ref 0] g S (fun r g' => r = some (.int out.1) ∧ g' = out.2) := by
  have H : ((f_X3_readText_17 g).bind fun w1 =>
xl (f_X8_clear_1 (xupd w1.2.1 0 16 (f_X3_faultPlace_17 w1.2), w1.2.2)) fun w2 =>
if w1.1 = 0 then
  xl (f_X4_copyFrom_3_23 w2) fun w3 =>
  (f_X11_beginAnew_0 w3).bind fun w4 =>
  some (w1.1, w4)
else
  some (w1.1, w2)) = some out := H
  refine xC.of 11 SH1 [some (.ref 0), none] hS (by decide +kernel) rfl (fun _ _ => Nat.le_of_ble_eq_true rfl) (fun _ _ => rfl) ?_
  intro k A hR hrm hz
  refine xb A [(.aload_n 0, 1, 0, 0, .null), (.getfield 28, 3, 0, 2, .ref 17)] (pc' := 4) (ls' := [some (.ref 0), none]) (st' := [.ref 17]) (g' := g) (by decide +kernel) rfl ?_
  obtain ⟨w1, e1, H⟩ := xbind H
  refine xcallV A (ix := 119) (nxt := 7) hrm hz [] [] 627 (c_X3_readText_17 hS _ e1) ok_X3_readText (by decide +kernel) rfl (fun r g1 hq => ?_)
  rw [hq.1, hq.2]
  show xW k S 0 0 7 [some (.ref 0), none] [.int w1.1] w1.2
  refine xb A [(.istore_n 1, 1, 0, 0, .null), (.aload_n 0, 1, 0, 0, .null), (.aload_n 0, 1, 0, 0, .null), (.getfield 28, 3, 0, 2, .ref 17)] (pc' := 13) (ls' := [some (.ref 0), some (.int w1.1)]) (st' := [.ref 17, .ref 0]) (g' := w1.2) (by decide +kernel) rfl ?_
  refine xcallV A (ix := 122) (nxt := 16) hrm hz [] [.ref 0] 860 (c_X3_faultPlace_17 hS _ rfl) ok_X3_faultPlace (by decide +kernel) rfl (fun r g1 hq => ?_)
  rw [hq.1, hq.2]
  show xW k S 0 0 16 [some (.ref 0), some (.int w1.1)] [.int (f_X3_faultPlace_17 w1.2), .ref 0] w1.2
  refine xb A [(.putfield 94, 3, 0, 16, .int 0), (.aload_n 0, 1, 0, 0, .null), (.getfield 10, 3, 0, 0, .ref 1)] (pc' := 23) (ls' := [some (.ref 0), some (.int w1.1)]) (st' := [.ref 1]) (g' := (xupd w1.2.1 0 16 (f_X3_faultPlace_17 w1.2), w1.2.2)) (by decide +kernel) rfl ?_
  obtain ⟨w2, e2, H⟩ := xl_elim H
  refine xcallV A (ix := 124) (nxt := 26) hrm hz [] [] 865 (c_X8_clear_1 hS _ e2) ok_X8_clear (by decide +kernel) rfl (fun r g1 hq => ?_)
  rw [hq.1, hq.2]
  show xW k S 0 0 26 [some (.ref 0), some (.int w1.1)] [] w2
  refine xb A [(.iload_n 1, 1, 0, 0, .null)] (pc' := 27) (ls' := [some (.ref 0), some (.int w1.1)]) (st' := [.int w1.1]) (g' := w2) (by decide +kernel) rfl ?_
  refine xif_ne A (21) 48 30 (by decide +kernel) (fun h1 => ?_) (fun h1 => ?_)
  · rw [if_neg h1] at H
    refine xb A [(.iload_n 1, 1, 0, 0, .null)] (pc' := 49) (ls' := [some (.ref 0), some (.int w1.1)]) (st' := [.int w1.1]) (g' := w2) (by decide +kernel) rfl ?_
    obtain rfl := Option.some.inj H
    exact xret_i A hR hz (by decide +kernel) rfl ⟨rfl, rfl⟩
  · rw [if_pos h1] at H
    refine xb A [(.aload_n 0, 1, 0, 0, .null), (.getfield 19, 3, 0, 1, .ref 3), (.aload_n 0, 1, 0, 0, .null), (.getfield 28, 3, 0, 2, .ref 17)] (pc' := 38) (ls' := [some (.ref 0), some (.int w1.1)]) (st' := [.ref 17, .ref 3]) (g' := w2) (by decide +kernel) rfl ?_
    refine xcallV A (ix := 125) (nxt := 41) hrm hz [] [.ref 3] 869 (c_X3_draft_17 hS) ok_X3_draft (by decide +kernel) rfl (fun r g1 hq => ?_)
    rw [hq.1, hq.2]
    show xW k S 0 0 41 [some (.ref 0), some (.int w1.1)] [.ref 23, .ref 3] w2
    obtain ⟨w3, e3, H⟩ := xl_elim H
    refine xcallV A (ix := 129) (nxt := 44) hrm hz [.ref 23] [] 873 (c_X4_copyFrom_3_23 hS _ e3) ok_X4_copyFrom (by decide +kernel) rfl (fun r g1 hq => ?_)
    rw [hq.1, hq.2]
    show xW k S 0 0 44 [some (.ref 0), some (.int w1.1)] [] w3
    refine xb A [(.aload_n 0, 1, 0, 0, .null)] (pc' := 45) (ls' := [some (.ref 0), some (.int w1.1)]) (st' := [.ref 0]) (g' := w3) (by decide +kernel) rfl ?_
    obtain ⟨w4, e4, H⟩ := xbind H
    refine xcallV A (ix := 101) (nxt := 48) hrm hz [] [] 461 (c_X11_beginAnew_0 hS _ e4) ok_X11_beginAnew (by decide +kernel) rfl (fun r g1 hq => ?_)
    rw [hq.1, hq.2]
    show xW k S 0 0 48 [some (.ref 0), some (.int w1.1)] [] w4
    refine xb A [(.iload_n 1, 1, 0, 0, .null)] (pc' := 49) (ls' := [some (.ref 0), some (.int w1.1)]) (st' := [.int w1.1]) (g' := w4) (by decide +kernel) rfl ?_
    obtain rfl := Option.some.inj H
    exact xret_i A hR hz (by decide +kernel) rfl ⟨rfl, rfl⟩
def f_X11_place_0  (g : xG) : Int32 :=
  g.1 0 16
set_option maxRecDepth 20000 in
theorem c_X11_place_0 {S : List xSh} (hS : xpf SH1 S) {g : xG}  (out : Int32) (H : f_X11_place_0  g = out) : xC mX11_place 0 0 0 0 S [.ref 0] g S (fun r g' => r = some (.int out) ∧ g' = g) := by
  have H : (g.1 0 16) = out := H
  refine xC.of 11 SH1 [some (.ref 0)] hS (by decide +kernel) rfl (fun _ _ => Nat.le_of_ble_eq_true rfl) (fun _ _ => rfl) ?_
  intro k A hR hrm hz
  refine xb A [(.aload_n 0, 1, 0, 0, .null), (.getfield 94, 3, 0, 16, .int 0)] (pc' := 4) (ls' := [some (.ref 0)]) (st' := [.int (g.1 0 16)]) (g' := g) (by decide +kernel) rfl ?_
  subst H
  exact xret_i A hR hz (by decide +kernel) rfl ⟨rfl, rfl⟩
def f_X4_capital_3  (g : xG) : Int32 :=
  g.1 3 12
set_option maxRecDepth 20000 in
theorem c_X4_capital_3 {S : List xSh} (hS : xpf SH1 S) {g : xG}  (out : Int32) (H : f_X4_capital_3  g = out) : xC mX4_capital 0 0 0 0 S [.ref 3] g S (fun r g' => r = some (.int out) ∧ g' = g) := by
  have H : (g.1 3 12) = out := H
  refine xC.of 4 SH1 [some (.ref 3)] hS (by decide +kernel) rfl (fun _ _ => Nat.le_of_ble_eq_true rfl) (fun _ _ => rfl) ?_
  intro k A hR hrm hz
  refine xb A [(.aload_n 0, 1, 0, 0, .null), (.getfield 54, 3, 3, 12, .int 0)] (pc' := 4) (ls' := [some (.ref 3)]) (st' := [.int (g.1 3 12)]) (g' := g) (by decide +kernel) rfl ?_
  subst H
  exact xret_i A hR hz (by decide +kernel) rfl ⟨rfl, rfl⟩
def f_X6_peopleIn_48_5  (g : xG) : Nat → Int32 → Int32 → Int32 → Int32 → Option (Int32)
  | 0, _, _, _, _ => none
  | n + 1, l1, l2, l3, l4 =>
    if l2 ≤ l4 then
      some l3
    else
      if (xat g 49 35 (5 + l4)) = l1 then
        f_X6_peopleIn_48_5 g n l1 l2 (l3 ||| (f_X11_bit l4 g)) (l4 + 1)
      else
        f_X6_peopleIn_48_5 g n l1 l2 l3 (l4 + 1)
def f_X6_peopleIn_48 (p1 : Int32) (p2 : Int32) (g : xG) : Option (Int32) :=
  f_X6_peopleIn_48_5 g xN p1 p2 0 0
set_option maxRecDepth 20000 in
theorem t_X6_peopleIn_48_5 {k : xK} {S : List xSh} {g : xG} {out : Int32} (hS : xpf SH1 S) (A : xAt k mX6_peopleIn.2.1 6 SH1 S) (hR : xRet k 0 0 S (fun r g' => r = some (.int out) ∧ g' = g) mX6_peopleIn.2.2.2) (hrm : xrm k = { frames := 1, cells := 0, slots := 0, locals := 21 }) (hz : xhs k = xb0 k + S.length)   : ∀ (n : Nat) (l1 : Int32) (l2 : Int32) (l3 : Int32) (l4 : Int32), f_X6_peopleIn_48_5 g n l1 l2 l3 l4 = some out → xW k S 0 0 5 [some (.ref 48), some (.int l1), some (.int l2), some (.int l3), some (.int l4)] [] g := by
  intro n
  induction n with
  | zero => intro l1 l2 l3 l4 H; exact absurd H (by simp [f_X6_peopleIn_48_5])
  | succ n ih =>
    intro l1 l2 l3 l4 H
    have H : (if l2 ≤ l4 then
  some l3
else
  if (xat g 49 35 (5 + l4)) = l1 then
    f_X6_peopleIn_48_5 g n l1 l2 (l3 ||| (f_X11_bit l4 g)) (l4 + 1)
  else
    f_X6_peopleIn_48_5 g n l1 l2 l3 (l4 + 1)) = some out := H
    refine xb A [(.iload 4, 2, 0, 0, .null), (.iload_n 2, 1, 0, 0, .null)] (pc' := 8) (ls' := [some (.ref 48), some (.int l1), some (.int l2), some (.int l3), some (.int l4)]) (st' := [.int l2, .int l4]) (g' := g) (by decide +kernel) rfl ?_
    refine xic_ge A (32) 40 11 (by decide +kernel) (fun h1 => ?_) (fun h1 => ?_)
    · rw [if_pos h1] at H
      refine xb A [(.iload_n 3, 1, 0, 0, .null)] (pc' := 41) (ls' := [some (.ref 48), some (.int l1), some (.int l2), some (.int l3), some (.int l4)]) (st' := [.int l3]) (g' := g) (by decide +kernel) rfl ?_
      obtain rfl := Option.some.inj H
      exact xret_i A hR hz (by decide +kernel) rfl ⟨rfl, rfl⟩
    · rw [if_neg h1] at H
      refine xb A [(.aload_n 0, 1, 0, 0, .null), (.getfield 11, 3, 48, 0, .ref 49), (.iconst 5, 1, 0, 0, .int 5), (.iload 4, 2, 0, 0, .null), (.iadd, 1, 0, 0, .null)] (pc' := 19) (ls' := [some (.ref 48), some (.int l1), some (.int l2), some (.int l3), some (.int l4)]) (st' := [.int (5 + l4), .ref 49]) (g' := g) (by decide +kernel) rfl ?_
      refine xcallSN A (ix := 15) (nxt := 22) (host := "NoonRinger") hrm hz [.ref 49, .int (5 + l4)] [] 9 (c_X11_at (hS _ _ sh_49) (by decide)) ok_X11_at (by decide +kernel) rfl (fun r g1 hq => ?_)
      rw [hq.1, hq.2]
      show xW k S 0 0 22 [some (.ref 48), some (.int l1), some (.int l2), some (.int l3), some (.int l4)] [.int (xat g 49 35 (5 + l4))] g
      refine xb A [(.iload_n 1, 1, 0, 0, .null)] (pc' := 23) (ls' := [some (.ref 48), some (.int l1), some (.int l2), some (.int l3), some (.int l4)]) (st' := [.int l1, .int (xat g 49 35 (5 + l4))]) (g' := g) (by decide +kernel) rfl ?_
      refine xic_ne A (11) 34 26 (by decide +kernel) (fun h2 => ?_) (fun h2 => ?_)
      · rw [if_neg h2] at H
        refine xb A [(.iinc 4 1, 3, 0, 0, .null)] (pc' := 37) (ls' := [some (.ref 48), some (.int l1), some (.int l2), some (.int l3), some (.int (l4 + 1))]) (st' := []) (g' := g) (by decide +kernel) rfl ?_
        refine xgoto A (-32) 5 (by decide +kernel) ?_
        exact ih _ _ _ _ H
      · rw [if_pos h2] at H
        refine xb A [(.iload_n 3, 1, 0, 0, .null), (.iload 4, 2, 0, 0, .null)] (pc' := 29) (ls' := [some (.ref 48), some (.int l1), some (.int l2), some (.int l3), some (.int l4)]) (st' := [.int l4, .int l3]) (g' := g) (by decide +kernel) rfl ?_
        refine xcallSN A (ix := 48) (nxt := 32) (host := "NoonRinger") hrm hz [.int l4] [.int l3] 24 (c_X11_bit hS _ rfl) ok_X11_bit (by decide +kernel) rfl (fun r g1 hq => ?_)
        rw [hq.1, hq.2]
        show xW k S 0 0 32 [some (.ref 48), some (.int l1), some (.int l2), some (.int l3), some (.int l4)] [.int (f_X11_bit l4 g), .int l3] g
        refine xb A [(.ior, 1, 0, 0, .null), (.istore_n 3, 1, 0, 0, .null), (.iinc 4 1, 3, 0, 0, .null)] (pc' := 37) (ls' := [some (.ref 48), some (.int l1), some (.int l2), some (.int (l3 ||| (f_X11_bit l4 g))), some (.int (l4 + 1))]) (st' := []) (g' := g) (by decide +kernel) rfl ?_
        refine xgoto A (-32) 5 (by decide +kernel) ?_
        exact ih _ _ _ _ H
set_option maxRecDepth 20000 in
theorem c_X6_peopleIn_48 {S : List xSh} (hS : xpf SH1 S) {g : xG} {p1 : Int32} {p2 : Int32} (out : Int32) (H : f_X6_peopleIn_48 p1 p2 g = some out) : xC mX6_peopleIn 1 21 0 0 S [.ref 48, .int p1, .int p2] g S (fun r g' => r = some (.int out) ∧ g' = g) := by
  have H : (f_X6_peopleIn_48_5 g xN p1 p2 0 0) = some out := H
  refine xC.of 6 SH1 [some (.ref 48), some (.int p1), some (.int p2), none, none] hS (by decide +kernel) rfl (fun _ _ => Nat.le_of_ble_eq_true rfl) (fun _ _ => rfl) ?_
  intro k A hR hrm hz
  refine xb A [(.iconst 0, 1, 0, 0, .int 0), (.istore_n 3, 1, 0, 0, .null), (.iconst 0, 1, 0, 0, .int 0), (.istore 4, 2, 0, 0, .null)] (pc' := 5) (ls' := [some (.ref 48), some (.int p1), some (.int p2), some (.int 0), some (.int 0)]) (st' := []) (g' := g) (by decide +kernel) rfl ?_
  exact t_X6_peopleIn_48_5 hS A hR hrm hz _ _ _ _ _ H
def f_X4_acrossFrom_3 (p1 : Int32) (p2 : Int32) (g : xG) : Int32 :=
  if (f_X4_isRoad_3 p2 g) = 0 then
    (-2)
  else
    if (f_X4_oneEndOf_3 p2 g) = p1 then
      f_X4_otherEndOf_3 p2 g
    else
      if (f_X4_otherEndOf_3 p2 g) = p1 then
        f_X4_oneEndOf_3 p2 g
      else
        (-2)
set_option maxRecDepth 20000 in
theorem c_X4_acrossFrom_3 {S : List xSh} (hS : xpf SH1 S) {g : xG} {p1 : Int32} {p2 : Int32} (out : Int32) (H : f_X4_acrossFrom_3 p1 p2 g = out) : xC mX4_acrossFrom 2 42 0 0 S [.ref 3, .int p1, .int p2] g S (fun r g' => r = some (.int out) ∧ g' = g) := by
  have H : (if (f_X4_isRoad_3 p2 g) = 0 then
  (-2)
else
  if (f_X4_oneEndOf_3 p2 g) = p1 then
    f_X4_otherEndOf_3 p2 g
  else
    if (f_X4_otherEndOf_3 p2 g) = p1 then
      f_X4_oneEndOf_3 p2 g
    else
      (-2)) = out := H
  refine xC.of 4 SH1 [some (.ref 3), some (.int p1), some (.int p2)] hS (by decide +kernel) rfl (fun _ _ => Nat.le_of_ble_eq_true rfl) (fun _ _ => rfl) ?_
  intro k A hR hrm hz
  refine xb A [(.aload_n 0, 1, 0, 0, .null), (.iload_n 2, 1, 0, 0, .null)] (pc' := 2) (ls' := [some (.ref 3), some (.int p1), some (.int p2)]) (st' := [.int p2, .ref 3]) (g' := g) (by decide +kernel) rfl ?_
  refine xcallV A (ix := 91) (nxt := 5) hrm hz [.int p2] [] 908 (c_X4_isRoad_3 hS _ rfl) ok_X4_isRoad (by decide +kernel) rfl (fun r g1 hq => ?_)
  rw [hq.1, hq.2]
  show xW k S 0 0 5 [some (.ref 3), some (.int p1), some (.int p2)] [.int (f_X4_isRoad_3 p2 g)] g
  refine xif_ne A (6) 11 8 (by decide +kernel) (fun h1 => ?_) (fun h1 => ?_)
  · rw [if_neg h1] at H
    refine xb A [(.aload_n 0, 1, 0, 0, .null), (.iload_n 2, 1, 0, 0, .null)] (pc' := 13) (ls' := [some (.ref 3), some (.int p1), some (.int p2)]) (st' := [.int p2, .ref 3]) (g' := g) (by decide +kernel) rfl ?_
    refine xcallV A (ix := 95) (nxt := 16) hrm hz [.int p2] [] 909 (c_X4_oneEndOf_3 hS _ rfl) ok_X4_oneEndOf (by decide +kernel) rfl (fun r g1 hq => ?_)
    rw [hq.1, hq.2]
    show xW k S 0 0 16 [some (.ref 3), some (.int p1), some (.int p2)] [.int (f_X4_oneEndOf_3 p2 g)] g
    refine xb A [(.iload_n 1, 1, 0, 0, .null)] (pc' := 17) (ls' := [some (.ref 3), some (.int p1), some (.int p2)]) (st' := [.int p1, .int (f_X4_oneEndOf_3 p2 g)]) (g' := g) (by decide +kernel) rfl ?_
    refine xic_ne A (9) 26 20 (by decide +kernel) (fun h2 => ?_) (fun h2 => ?_)
    · rw [if_neg h2] at H
      refine xb A [(.aload_n 0, 1, 0, 0, .null), (.iload_n 2, 1, 0, 0, .null)] (pc' := 28) (ls' := [some (.ref 3), some (.int p1), some (.int p2)]) (st' := [.int p2, .ref 3]) (g' := g) (by decide +kernel) rfl ?_
      refine xcallV A (ix := 99) (nxt := 31) hrm hz [.int p2] [] 910 (c_X4_otherEndOf_3 hS _ rfl) ok_X4_otherEndOf (by decide +kernel) rfl (fun r g1 hq => ?_)
      rw [hq.1, hq.2]
      show xW k S 0 0 31 [some (.ref 3), some (.int p1), some (.int p2)] [.int (f_X4_otherEndOf_3 p2 g)] g
      refine xb A [(.iload_n 1, 1, 0, 0, .null)] (pc' := 32) (ls' := [some (.ref 3), some (.int p1), some (.int p2)]) (st' := [.int p1, .int (f_X4_otherEndOf_3 p2 g)]) (g' := g) (by decide +kernel) rfl ?_
      refine xic_ne A (11) 43 35 (by decide +kernel) (fun h3 => ?_) (fun h3 => ?_)
      · rw [if_neg h3] at H
        refine xb A [(.bipush (-2), 2, 0, 0, .int (-2))] (pc' := 45) (ls' := [some (.ref 3), some (.int p1), some (.int p2)]) (st' := [.int (-2)]) (g' := g) (by decide +kernel) rfl ?_
        subst H
        exact xret_i A hR hz (by decide +kernel) rfl ⟨rfl, rfl⟩
      · rw [if_pos h3] at H
        refine xb A [(.aload_n 0, 1, 0, 0, .null), (.iload_n 2, 1, 0, 0, .null)] (pc' := 37) (ls' := [some (.ref 3), some (.int p1), some (.int p2)]) (st' := [.int p2, .ref 3]) (g' := g) (by decide +kernel) rfl ?_
        refine xcallV A (ix := 95) (nxt := 40) hrm hz [.int p2] [] 909 (c_X4_oneEndOf_3 hS _ rfl) ok_X4_oneEndOf (by decide +kernel) rfl (fun r g1 hq => ?_)
        rw [hq.1, hq.2]
        show xW k S 0 0 40 [some (.ref 3), some (.int p1), some (.int p2)] [.int (f_X4_oneEndOf_3 p2 g)] g
        refine xgoto A (5) 45 (by decide +kernel) ?_
        subst H
        exact xret_i A hR hz (by decide +kernel) rfl ⟨rfl, rfl⟩
    · rw [if_pos h2] at H
      refine xb A [(.aload_n 0, 1, 0, 0, .null), (.iload_n 2, 1, 0, 0, .null)] (pc' := 22) (ls' := [some (.ref 3), some (.int p1), some (.int p2)]) (st' := [.int p2, .ref 3]) (g' := g) (by decide +kernel) rfl ?_
      refine xcallV A (ix := 99) (nxt := 25) hrm hz [.int p2] [] 910 (c_X4_otherEndOf_3 hS _ rfl) ok_X4_otherEndOf (by decide +kernel) rfl (fun r g1 hq => ?_)
      rw [hq.1, hq.2]
      show xW k S 0 0 25 [some (.ref 3), some (.int p1), some (.int p2)] [.int (f_X4_otherEndOf_3 p2 g)] g
      subst H
      exact xret_i A hR hz (by decide +kernel) rfl ⟨rfl, rfl⟩
  · rw [if_pos h1] at H
    refine xb A [(.bipush (-2), 2, 0, 0, .int (-2))] (pc' := 10) (ls' := [some (.ref 3), some (.int p1), some (.int p2)]) (st' := [.int (-2)]) (g' := g) (by decide +kernel) rfl ?_
    subst H
    exact xret_i A hR hz (by decide +kernel) rfl ⟨rfl, rfl⟩
def f_X7_openRoadsOf_42_4  (g : xG) : Nat → Int32 → Int32 → Int32 → Option (Int32)
  | 0, _, _, _ => none
  | n + 1, l1, l2, l3 =>
    if (f_X4_roads_3 g) ≤ l3 then
      some l2
    else
      if (f_X10_isOpen_38 l3 g) = 0 then
        f_X7_openRoadsOf_42_4 g n l1 l2 (l3 + 1)
      else
        if (f_X4_acrossFrom_3 l1 l3 g) < 0 then
          f_X7_openRoadsOf_42_4 g n l1 l2 (l3 + 1)
        else
          f_X7_openRoadsOf_42_4 g n l1 (l2 ||| (f_X11_bit l3 g)) (l3 + 1)
def f_X7_openRoadsOf_42 (p1 : Int32) (g : xG) : Option (Int32) :=
  f_X7_openRoadsOf_42_4 g xN p1 0 0
set_option maxRecDepth 20000 in
theorem t_X7_openRoadsOf_42_4 {k : xK} {S : List xSh} {g : xG} {out : Int32} (hS : xpf SH1 S) (A : xAt k mX7_openRoadsOf.2.1 7 SH1 S) (hR : xRet k 0 0 S (fun r g' => r = some (.int out) ∧ g' = g) mX7_openRoadsOf.2.2.2) (hrm : xrm k = { frames := 3, cells := 0, slots := 0, locals := 64 }) (hz : xhs k = xb0 k + S.length)   : ∀ (n : Nat) (l1 : Int32) (l2 : Int32) (l3 : Int32), f_X7_openRoadsOf_42_4 g n l1 l2 l3 = some out → xW k S 0 0 4 [some (.ref 42), some (.int l1), some (.int l2), some (.int l3)] [] g := by
  intro n
  induction n with
  | zero => intro l1 l2 l3 H; exact absurd H (by simp [f_X7_openRoadsOf_42_4])
  | succ n ih =>
    intro l1 l2 l3 H
    have H : (if (f_X4_roads_3 g) ≤ l3 then
  some l2
else
  if (f_X10_isOpen_38 l3 g) = 0 then
    f_X7_openRoadsOf_42_4 g n l1 l2 (l3 + 1)
  else
    if (f_X4_acrossFrom_3 l1 l3 g) < 0 then
      f_X7_openRoadsOf_42_4 g n l1 l2 (l3 + 1)
    else
      f_X7_openRoadsOf_42_4 g n l1 (l2 ||| (f_X11_bit l3 g)) (l3 + 1)) = some out := H
    refine xb A [(.iload_n 3, 1, 0, 0, .null), (.aload_n 0, 1, 0, 0, .null), (.getfield 15, 3, 42, 0, .ref 3)] (pc' := 9) (ls' := [some (.ref 42), some (.int l1), some (.int l2), some (.int l3)]) (st' := [.ref 3, .int l3]) (g' := g) (by decide +kernel) rfl ?_
    refine xcallV A (ix := 23) (nxt := 12) hrm hz [] [.int l3] 902 (c_X4_roads_3 hS _ rfl) ok_X4_roads (by decide +kernel) rfl (fun r g1 hq => ?_)
    rw [hq.1, hq.2]
    show xW k S 0 0 12 [some (.ref 42), some (.int l1), some (.int l2), some (.int l3)] [.int (f_X4_roads_3 g), .int l3] g
    refine xic_ge A (39) 51 15 (by decide +kernel) (fun h1 => ?_) (fun h1 => ?_)
    · rw [if_pos h1] at H
      refine xb A [(.iload_n 2, 1, 0, 0, .null)] (pc' := 52) (ls' := [some (.ref 42), some (.int l1), some (.int l2), some (.int l3)]) (st' := [.int l2]) (g' := g) (by decide +kernel) rfl ?_
      obtain rfl := Option.some.inj H
      exact xret_i A hR hz (by decide +kernel) rfl ⟨rfl, rfl⟩
    · rw [if_neg h1] at H
      refine xb A [(.aload_n 0, 1, 0, 0, .null), (.getfield 19, 3, 42, 1, .ref 38), (.iload_n 3, 1, 0, 0, .null)] (pc' := 20) (ls' := [some (.ref 42), some (.int l1), some (.int l2), some (.int l3)]) (st' := [.int l3, .ref 38]) (g' := g) (by decide +kernel) rfl ?_
      refine xcallV A (ix := 29) (nxt := 23) hrm hz [.int l3] [] 903 (c_X10_isOpen_38 hS _ rfl) ok_X10_isOpen (by decide +kernel) rfl (fun r g1 hq => ?_)
      rw [hq.1, hq.2]
      show xW k S 0 0 23 [some (.ref 42), some (.int l1), some (.int l2), some (.int l3)] [.int (f_X10_isOpen_38 l3 g)] g
      refine xif_eq A (22) 45 26 (by decide +kernel) (fun h2 => ?_) (fun h2 => ?_)
      · rw [if_pos h2] at H
        refine xb A [(.iinc 3 1, 3, 0, 0, .null)] (pc' := 48) (ls' := [some (.ref 42), some (.int l1), some (.int l2), some (.int (l3 + 1))]) (st' := []) (g' := g) (by decide +kernel) rfl ?_
        refine xgoto A (-44) 4 (by decide +kernel) ?_
        exact ih _ _ _ H
      · rw [if_neg h2] at H
        refine xb A [(.aload_n 0, 1, 0, 0, .null), (.getfield 15, 3, 42, 0, .ref 3), (.iload_n 1, 1, 0, 0, .null), (.iload_n 3, 1, 0, 0, .null)] (pc' := 32) (ls' := [some (.ref 42), some (.int l1), some (.int l2), some (.int l3)]) (st' := [.int l3, .int l1, .ref 3]) (g' := g) (by decide +kernel) rfl ?_
        refine xcallV A (ix := 35) (nxt := 35) hrm hz [.int l1, .int l3] [] 904 (c_X4_acrossFrom_3 hS _ rfl) ok_X4_acrossFrom (by decide +kernel) rfl (fun r g1 hq => ?_)
        rw [hq.1, hq.2]
        show xW k S 0 0 35 [some (.ref 42), some (.int l1), some (.int l2), some (.int l3)] [.int (f_X4_acrossFrom_3 l1 l3 g)] g
        refine xif_lt A (10) 45 38 (by decide +kernel) (fun h3 => ?_) (fun h3 => ?_)
        · rw [if_pos h3] at H
          refine xb A [(.iinc 3 1, 3, 0, 0, .null)] (pc' := 48) (ls' := [some (.ref 42), some (.int l1), some (.int l2), some (.int (l3 + 1))]) (st' := []) (g' := g) (by decide +kernel) rfl ?_
          refine xgoto A (-44) 4 (by decide +kernel) ?_
          exact ih _ _ _ H
        · rw [if_neg h3] at H
          refine xb A [(.iload_n 2, 1, 0, 0, .null), (.iload_n 3, 1, 0, 0, .null)] (pc' := 40) (ls' := [some (.ref 42), some (.int l1), some (.int l2), some (.int l3)]) (st' := [.int l3, .int l2]) (g' := g) (by decide +kernel) rfl ?_
          refine xcallSN A (ix := 39) (nxt := 43) (host := "NoonRinger") hrm hz [.int l3] [.int l2] 23 (c_X11_bit hS _ rfl) ok_X11_bit (by decide +kernel) rfl (fun r g1 hq => ?_)
          rw [hq.1, hq.2]
          show xW k S 0 0 43 [some (.ref 42), some (.int l1), some (.int l2), some (.int l3)] [.int (f_X11_bit l3 g), .int l2] g
          refine xb A [(.ior, 1, 0, 0, .null), (.istore_n 2, 1, 0, 0, .null), (.iinc 3 1, 3, 0, 0, .null)] (pc' := 48) (ls' := [some (.ref 42), some (.int l1), some (.int (l2 ||| (f_X11_bit l3 g))), some (.int (l3 + 1))]) (st' := []) (g' := g) (by decide +kernel) rfl ?_
          refine xgoto A (-44) 4 (by decide +kernel) ?_
          exact ih _ _ _ H
set_option maxRecDepth 20000 in
theorem c_X7_openRoadsOf_42 {S : List xSh} (hS : xpf SH1 S) {g : xG} {p1 : Int32} (out : Int32) (H : f_X7_openRoadsOf_42 p1 g = some out) : xC mX7_openRoadsOf 3 64 0 0 S [.ref 42, .int p1] g S (fun r g' => r = some (.int out) ∧ g' = g) := by
  have H : (f_X7_openRoadsOf_42_4 g xN p1 0 0) = some out := H
  refine xC.of 7 SH1 [some (.ref 42), some (.int p1), none, none] hS (by decide +kernel) rfl (fun _ _ => Nat.le_of_ble_eq_true rfl) (fun _ _ => rfl) ?_
  intro k A hR hrm hz
  refine xb A [(.iconst 0, 1, 0, 0, .int 0), (.istore_n 2, 1, 0, 0, .null), (.iconst 0, 1, 0, 0, .int 0), (.istore_n 3, 1, 0, 0, .null)] (pc' := 4) (ls' := [some (.ref 42), some (.int p1), some (.int 0), some (.int 0)]) (st' := []) (g' := g) (by decide +kernel) rfl ?_
  exact t_X7_openRoadsOf_42_4 hS A hR hrm hz _ _ _ _ H
def f_X11_town_0 (p1 : Int32) (p2 : Int32) (g : xG) : Option (Int32) :=
  if (f_X4_isTown_3 p1 g) = 0 then
    some (-1)
  else
    if p2 = 0 then
      if p1 = (f_X4_capital_3 g) then
        some 1
      else
        some 0
    else
      if p2 = 1 then
        (f_X7_openRoadsOf_42 p1 g).bind fun w1 =>
        some w1
      else
        if p2 = 2 then
          (f_X6_peopleIn_48 p1 (f_X4_people_3 g) g).bind fun w2 =>
          some w2
        else
          if p2 = 3 then
            some (f_X10_between_38 p1 (f_X4_capital_3 g) g)
          else
            some (-1)
set_option maxRecDepth 20000 in
theorem c_X11_town_0 {S : List xSh} (hS : xpf SH1 S) {g : xG} {p1 : Int32} {p2 : Int32} (out : Int32) (H : f_X11_town_0 p1 p2 g = some out) : xC mX11_town 4 87 0 0 S [.ref 0, .int p1, .int p2] g S (fun r g' => r = some (.int out) ∧ g' = g) := by
  have H : (if (f_X4_isTown_3 p1 g) = 0 then
  some (-1)
else
  if p2 = 0 then
    if p1 = (f_X4_capital_3 g) then
      some 1
    else
      some 0
  else
    if p2 = 1 then
      (f_X7_openRoadsOf_42 p1 g).bind fun w1 =>
      some w1
    else
      if p2 = 2 then
        (f_X6_peopleIn_48 p1 (f_X4_people_3 g) g).bind fun w2 =>
        some w2
      else
        if p2 = 3 then
          some (f_X10_between_38 p1 (f_X4_capital_3 g) g)
        else
          some (-1)) = some out := H
  refine xC.of 11 SH1 [some (.ref 0), some (.int p1), some (.int p2)] hS (by decide +kernel) rfl (fun _ _ => Nat.le_of_ble_eq_true rfl) (fun _ _ => rfl) ?_
  intro k A hR hrm hz
  refine xb A [(.aload_n 0, 1, 0, 0, .null), (.getfield 19, 3, 0, 1, .ref 3), (.iload_n 1, 1, 0, 0, .null)] (pc' := 5) (ls' := [some (.ref 0), some (.int p1), some (.int p2)]) (st' := [.int p1, .ref 3]) (g' := g) (by decide +kernel) rfl ?_
  refine xcallV A (ix := 149) (nxt := 8) hrm hz [.int p1] [] 893 (c_X4_isTown_3 hS _ rfl) ok_X4_isTown (by decide +kernel) rfl (fun r g1 hq => ?_)
  rw [hq.1, hq.2]
  show xW k S 0 0 8 [some (.ref 0), some (.int p1), some (.int p2)] [.int (f_X4_isTown_3 p1 g)] g
  refine xif_ne A (5) 13 11 (by decide +kernel) (fun h1 => ?_) (fun h1 => ?_)
  · rw [if_neg h1] at H
    refine xb A [(.iload_n 2, 1, 0, 0, .null)] (pc' := 14) (ls' := [some (.ref 0), some (.int p1), some (.int p2)]) (st' := [.int p2]) (g' := g) (by decide +kernel) rfl ?_
    by_cases h2 : p2 = 0
    · rw [if_pos h2] at H
      refine xtabIn A (dflt := 88) (lo := 0) (hi := 3) (off := 30) (offs := #[(30), (47), (56), (72)]) (len := 30) (tgt := 44) (0) (by rw [h2]; rfl) (by decide +kernel) ?_
      refine xb A [(.iload_n 1, 1, 0, 0, .null), (.aload_n 0, 1, 0, 0, .null), (.getfield 19, 3, 0, 1, .ref 3)] (pc' := 49) (ls' := [some (.ref 0), some (.int p1), some (.int p2)]) (st' := [.ref 3, .int p1]) (g' := g) (by decide +kernel) rfl ?_
      refine xcallV A (ix := 152) (nxt := 52) hrm hz [] [.int p1] 894 (c_X4_capital_3 hS _ rfl) ok_X4_capital (by decide +kernel) rfl (fun r g1 hq => ?_)
      rw [hq.1, hq.2]
      show xW k S 0 0 52 [some (.ref 0), some (.int p1), some (.int p2)] [.int (f_X4_capital_3 g), .int p1] g
      refine xic_ne A (7) 59 55 (by decide +kernel) (fun h3 => ?_) (fun h3 => ?_)
      · rw [if_neg h3] at H
        refine xb A [(.iconst 0, 1, 0, 0, .int 0)] (pc' := 60) (ls' := [some (.ref 0), some (.int p1), some (.int p2)]) (st' := [.int 0]) (g' := g) (by decide +kernel) rfl ?_
        obtain rfl := Option.some.inj H
        exact xret_i A hR hz (by decide +kernel) rfl ⟨rfl, rfl⟩
      · rw [if_pos h3] at H
        refine xb A [(.iconst 1, 1, 0, 0, .int 1)] (pc' := 56) (ls' := [some (.ref 0), some (.int p1), some (.int p2)]) (st' := [.int 1]) (g' := g) (by decide +kernel) rfl ?_
        refine xgoto A (4) 60 (by decide +kernel) ?_
        obtain rfl := Option.some.inj H
        exact xret_i A hR hz (by decide +kernel) rfl ⟨rfl, rfl⟩
    · rw [if_neg h2] at H
      by_cases h4 : p2 = 1
      · rw [if_pos h4] at H
        refine xtabIn A (dflt := 88) (lo := 0) (hi := 3) (off := 47) (offs := #[(30), (47), (56), (72)]) (len := 30) (tgt := 61) (1) (by rw [h4]; rfl) (by decide +kernel) ?_
        refine xb A [(.aload_n 0, 1, 0, 0, .null), (.getfield 49, 3, 0, 5, .ref 42), (.iload_n 1, 1, 0, 0, .null)] (pc' := 66) (ls' := [some (.ref 0), some (.int p1), some (.int p2)]) (st' := [.int p1, .ref 42]) (g' := g) (by decide +kernel) rfl ?_
        obtain ⟨w1, e1, H⟩ := xbind H
        refine xcallV A (ix := 155) (nxt := 69) hrm hz [.int p1] [] 898 (c_X7_openRoadsOf_42 hS _ e1) ok_X7_openRoadsOf (by decide +kernel) rfl (fun r g1 hq => ?_)
        rw [hq.1, hq.2]
        show xW k S 0 0 69 [some (.ref 0), some (.int p1), some (.int p2)] [.int w1] g
        obtain rfl := Option.some.inj H
        exact xret_i A hR hz (by decide +kernel) rfl ⟨rfl, rfl⟩
      · rw [if_neg h4] at H
        by_cases h5 : p2 = 2
        · rw [if_pos h5] at H
          refine xtabIn A (dflt := 88) (lo := 0) (hi := 3) (off := 56) (offs := #[(30), (47), (56), (72)]) (len := 30) (tgt := 70) (2) (by rw [h5]; rfl) (by decide +kernel) ?_
          refine xb A [(.aload_n 0, 1, 0, 0, .null), (.getfield 66, 3, 0, 8, .ref 48), (.iload_n 1, 1, 0, 0, .null), (.aload_n 0, 1, 0, 0, .null), (.getfield 19, 3, 0, 1, .ref 3)] (pc' := 79) (ls' := [some (.ref 0), some (.int p1), some (.int p2)]) (st' := [.ref 3, .int p1, .ref 48]) (g' := g) (by decide +kernel) rfl ?_
          refine xcallV A (ix := 158) (nxt := 82) hrm hz [] [.int p1, .ref 48] 912 (c_X4_people_3 hS _ rfl) ok_X4_people (by decide +kernel) rfl (fun r g1 hq => ?_)
          rw [hq.1, hq.2]
          show xW k S 0 0 82 [some (.ref 0), some (.int p1), some (.int p2)] [.int (f_X4_people_3 g), .int p1, .ref 48] g
          obtain ⟨w2, e2, H⟩ := xbind H
          refine xcallV A (ix := 161) (nxt := 85) hrm hz [.int p1, .int (f_X4_people_3 g)] [] 913 (c_X6_peopleIn_48 hS _ e2) ok_X6_peopleIn (by decide +kernel) rfl (fun r g1 hq => ?_)
          rw [hq.1, hq.2]
          show xW k S 0 0 85 [some (.ref 0), some (.int p1), some (.int p2)] [.int w2] g
          obtain rfl := Option.some.inj H
          exact xret_i A hR hz (by decide +kernel) rfl ⟨rfl, rfl⟩
        · rw [if_neg h5] at H
          by_cases h6 : p2 = 3
          · rw [if_pos h6] at H
            refine xtabIn A (dflt := 88) (lo := 0) (hi := 3) (off := 72) (offs := #[(30), (47), (56), (72)]) (len := 30) (tgt := 86) (3) (by rw [h6]; rfl) (by decide +kernel) ?_
            refine xb A [(.aload_n 0, 1, 0, 0, .null), (.getfield 37, 3, 0, 3, .ref 38), (.iload_n 1, 1, 0, 0, .null), (.aload_n 0, 1, 0, 0, .null), (.getfield 19, 3, 0, 1, .ref 3)] (pc' := 95) (ls' := [some (.ref 0), some (.int p1), some (.int p2)]) (st' := [.ref 3, .int p1, .ref 38]) (g' := g) (by decide +kernel) rfl ?_
            refine xcallV A (ix := 152) (nxt := 98) hrm hz [] [.int p1, .ref 38] 894 (c_X4_capital_3 hS _ rfl) ok_X4_capital (by decide +kernel) rfl (fun r g1 hq => ?_)
            rw [hq.1, hq.2]
            show xW k S 0 0 98 [some (.ref 0), some (.int p1), some (.int p2)] [.int (f_X4_capital_3 g), .int p1, .ref 38] g
            refine xcallV A (ix := 165) (nxt := 101) hrm hz [.int p1, .int (f_X4_capital_3 g)] [] 918 (c_X10_between_38 hS _ rfl) ok_X10_between (by decide +kernel) rfl (fun r g1 hq => ?_)
            rw [hq.1, hq.2]
            show xW k S 0 0 101 [some (.ref 0), some (.int p1), some (.int p2)] [.int (f_X10_between_38 p1 (f_X4_capital_3 g) g)] g
            obtain rfl := Option.some.inj H
            exact xret_i A hR hz (by decide +kernel) rfl ⟨rfl, rfl⟩
          · rw [if_neg h6] at H
            refine xtabOut A (dflt := 88) (lo := 0) (hi := 3) (offs := #[(30), (47), (56), (72)]) (len := 30) (tgt := 102) (by decide +kernel) ?_ ?_
            · have e0 := lv_neT (a := 0) h2 rfl; have e1 := lv_neT (a := 1) h4 rfl; have e2 := lv_neT (a := 2) h5 rfl; have e3 := lv_neT (a := 3) h6 rfl; omega
            · skip
              refine xb A [(.iconst (-1), 1, 0, 0, .int (-1))] (pc' := 103) (ls' := [some (.ref 0), some (.int p1), some (.int p2)]) (st' := [.int (-1)]) (g' := g) (by decide +kernel) rfl ?_
              obtain rfl := Option.some.inj H
              exact xret_i A hR hz (by decide +kernel) rfl ⟨rfl, rfl⟩
  · rw [if_pos h1] at H
    refine xb A [(.iconst (-1), 1, 0, 0, .int (-1))] (pc' := 12) (ls' := [some (.ref 0), some (.int p1), some (.int p2)]) (st' := [.int (-1)]) (g' := g) (by decide +kernel) rfl ?_
    obtain rfl := Option.some.inj H
    exact xret_i A hR hz (by decide +kernel) rfl ⟨rfl, rfl⟩
def f_X11_road_0 (p1 : Int32) (p2 : Int32) (g : xG) : Int32 :=
  if (f_X4_isRoad_3 p1 g) = 0 then
    (-1)
  else
    if p2 = 0 then
      f_X4_oneEndOf_3 p1 g
    else
      if p2 = 1 then
        f_X4_otherEndOf_3 p1 g
      else
        if p2 = 2 then
          f_X4_milesOf_3 p1 g
        else
          if p2 = 3 then
            if (f_X10_isOpen_38 p1 g) = 0 then
              0
            else
              1
          else
            (-1)
set_option maxRecDepth 20000 in
theorem c_X11_road_0 {S : List xSh} (hS : xpf SH1 S) {g : xG} {p1 : Int32} {p2 : Int32} (out : Int32) (H : f_X11_road_0 p1 p2 g = out) : xC mX11_road 2 42 0 0 S [.ref 0, .int p1, .int p2] g S (fun r g' => r = some (.int out) ∧ g' = g) := by
  have H : (if (f_X4_isRoad_3 p1 g) = 0 then
  (-1)
else
  if p2 = 0 then
    f_X4_oneEndOf_3 p1 g
  else
    if p2 = 1 then
      f_X4_otherEndOf_3 p1 g
    else
      if p2 = 2 then
        f_X4_milesOf_3 p1 g
      else
        if p2 = 3 then
          if (f_X10_isOpen_38 p1 g) = 0 then
            0
          else
            1
        else
          (-1)) = out := H
  refine xC.of 11 SH1 [some (.ref 0), some (.int p1), some (.int p2)] hS (by decide +kernel) rfl (fun _ _ => Nat.le_of_ble_eq_true rfl) (fun _ _ => rfl) ?_
  intro k A hR hrm hz
  refine xb A [(.aload_n 0, 1, 0, 0, .null), (.getfield 19, 3, 0, 1, .ref 3), (.iload_n 1, 1, 0, 0, .null)] (pc' := 5) (ls' := [some (.ref 0), some (.int p1), some (.int p2)]) (st' := [.int p1, .ref 3]) (g' := g) (by decide +kernel) rfl ?_
  refine xcallV A (ix := 168) (nxt := 8) hrm hz [.int p1] [] 923 (c_X4_isRoad_3 hS _ rfl) ok_X4_isRoad (by decide +kernel) rfl (fun r g1 hq => ?_)
  rw [hq.1, hq.2]
  show xW k S 0 0 8 [some (.ref 0), some (.int p1), some (.int p2)] [.int (f_X4_isRoad_3 p1 g)] g
  refine xif_ne A (5) 13 11 (by decide +kernel) (fun h1 => ?_) (fun h1 => ?_)
  · rw [if_neg h1] at H
    refine xb A [(.iload_n 2, 1, 0, 0, .null)] (pc' := 14) (ls' := [some (.ref 0), some (.int p1), some (.int p2)]) (st' := [.int p2]) (g' := g) (by decide +kernel) rfl ?_
    by_cases h2 : p2 = 0
    · rw [if_pos h2] at H
      refine xtabIn A (dflt := 74) (lo := 0) (hi := 3) (off := 30) (offs := #[(30), (39), (48), (57)]) (len := 30) (tgt := 44) (0) (by rw [h2]; rfl) (by decide +kernel) ?_
      refine xb A [(.aload_n 0, 1, 0, 0, .null), (.getfield 19, 3, 0, 1, .ref 3), (.iload_n 1, 1, 0, 0, .null)] (pc' := 49) (ls' := [some (.ref 0), some (.int p1), some (.int p2)]) (st' := [.int p1, .ref 3]) (g' := g) (by decide +kernel) rfl ?_
      refine xcallV A (ix := 171) (nxt := 52) hrm hz [.int p1] [] 924 (c_X4_oneEndOf_3 hS _ rfl) ok_X4_oneEndOf (by decide +kernel) rfl (fun r g1 hq => ?_)
      rw [hq.1, hq.2]
      show xW k S 0 0 52 [some (.ref 0), some (.int p1), some (.int p2)] [.int (f_X4_oneEndOf_3 p1 g)] g
      subst H
      exact xret_i A hR hz (by decide +kernel) rfl ⟨rfl, rfl⟩
    · rw [if_neg h2] at H
      by_cases h3 : p2 = 1
      · rw [if_pos h3] at H
        refine xtabIn A (dflt := 74) (lo := 0) (hi := 3) (off := 39) (offs := #[(30), (39), (48), (57)]) (len := 30) (tgt := 53) (1) (by rw [h3]; rfl) (by decide +kernel) ?_
        refine xb A [(.aload_n 0, 1, 0, 0, .null), (.getfield 19, 3, 0, 1, .ref 3), (.iload_n 1, 1, 0, 0, .null)] (pc' := 58) (ls' := [some (.ref 0), some (.int p1), some (.int p2)]) (st' := [.int p1, .ref 3]) (g' := g) (by decide +kernel) rfl ?_
        refine xcallV A (ix := 174) (nxt := 61) hrm hz [.int p1] [] 925 (c_X4_otherEndOf_3 hS _ rfl) ok_X4_otherEndOf (by decide +kernel) rfl (fun r g1 hq => ?_)
        rw [hq.1, hq.2]
        show xW k S 0 0 61 [some (.ref 0), some (.int p1), some (.int p2)] [.int (f_X4_otherEndOf_3 p1 g)] g
        subst H
        exact xret_i A hR hz (by decide +kernel) rfl ⟨rfl, rfl⟩
      · rw [if_neg h3] at H
        by_cases h4 : p2 = 2
        · rw [if_pos h4] at H
          refine xtabIn A (dflt := 74) (lo := 0) (hi := 3) (off := 48) (offs := #[(30), (39), (48), (57)]) (len := 30) (tgt := 62) (2) (by rw [h4]; rfl) (by decide +kernel) ?_
          refine xb A [(.aload_n 0, 1, 0, 0, .null), (.getfield 19, 3, 0, 1, .ref 3), (.iload_n 1, 1, 0, 0, .null)] (pc' := 67) (ls' := [some (.ref 0), some (.int p1), some (.int p2)]) (st' := [.int p1, .ref 3]) (g' := g) (by decide +kernel) rfl ?_
          refine xcallV A (ix := 177) (nxt := 70) hrm hz [.int p1] [] 926 (c_X4_milesOf_3 hS _ rfl) ok_X4_milesOf (by decide +kernel) rfl (fun r g1 hq => ?_)
          rw [hq.1, hq.2]
          show xW k S 0 0 70 [some (.ref 0), some (.int p1), some (.int p2)] [.int (f_X4_milesOf_3 p1 g)] g
          subst H
          exact xret_i A hR hz (by decide +kernel) rfl ⟨rfl, rfl⟩
        · rw [if_neg h4] at H
          by_cases h5 : p2 = 3
          · rw [if_pos h5] at H
            refine xtabIn A (dflt := 74) (lo := 0) (hi := 3) (off := 57) (offs := #[(30), (39), (48), (57)]) (len := 30) (tgt := 71) (3) (by rw [h5]; rfl) (by decide +kernel) ?_
            refine xb A [(.aload_n 0, 1, 0, 0, .null), (.getfield 37, 3, 0, 3, .ref 38), (.iload_n 1, 1, 0, 0, .null)] (pc' := 76) (ls' := [some (.ref 0), some (.int p1), some (.int p2)]) (st' := [.int p1, .ref 38]) (g' := g) (by decide +kernel) rfl ?_
            refine xcallV A (ix := 180) (nxt := 79) hrm hz [.int p1] [] 927 (c_X10_isOpen_38 hS _ rfl) ok_X10_isOpen (by decide +kernel) rfl (fun r g1 hq => ?_)
            rw [hq.1, hq.2]
            show xW k S 0 0 79 [some (.ref 0), some (.int p1), some (.int p2)] [.int (f_X10_isOpen_38 p1 g)] g
            refine xif_eq A (7) 86 82 (by decide +kernel) (fun h6 => ?_) (fun h6 => ?_)
            · rw [if_pos h6] at H
              refine xb A [(.iconst 0, 1, 0, 0, .int 0)] (pc' := 87) (ls' := [some (.ref 0), some (.int p1), some (.int p2)]) (st' := [.int 0]) (g' := g) (by decide +kernel) rfl ?_
              subst H
              exact xret_i A hR hz (by decide +kernel) rfl ⟨rfl, rfl⟩
            · rw [if_neg h6] at H
              refine xb A [(.iconst 1, 1, 0, 0, .int 1)] (pc' := 83) (ls' := [some (.ref 0), some (.int p1), some (.int p2)]) (st' := [.int 1]) (g' := g) (by decide +kernel) rfl ?_
              refine xgoto A (4) 87 (by decide +kernel) ?_
              subst H
              exact xret_i A hR hz (by decide +kernel) rfl ⟨rfl, rfl⟩
          · rw [if_neg h5] at H
            refine xtabOut A (dflt := 74) (lo := 0) (hi := 3) (offs := #[(30), (39), (48), (57)]) (len := 30) (tgt := 88) (by decide +kernel) ?_ ?_
            · have e0 := lv_neT (a := 0) h2 rfl; have e1 := lv_neT (a := 1) h3 rfl; have e2 := lv_neT (a := 2) h4 rfl; have e3 := lv_neT (a := 3) h5 rfl; omega
            · skip
              refine xb A [(.iconst (-1), 1, 0, 0, .int (-1))] (pc' := 89) (ls' := [some (.ref 0), some (.int p1), some (.int p2)]) (st' := [.int (-1)]) (g' := g) (by decide +kernel) rfl ?_
              subst H
              exact xret_i A hR hz (by decide +kernel) rfl ⟨rfl, rfl⟩
  · rw [if_pos h1] at H
    refine xb A [(.iconst (-1), 1, 0, 0, .int (-1))] (pc' := 12) (ls' := [some (.ref 0), some (.int p1), some (.int p2)]) (st' := [.int (-1)]) (g' := g) (by decide +kernel) rfl ?_
    subst H
    exact xret_i A hR hz (by decide +kernel) rfl ⟨rfl, rfl⟩
def f_X4_isPerson_3 (p1 : Int32) (g : xG) : Int32 :=
  if p1 < 0 then
    0
  else
    if (g.1 3 11) ≤ p1 then
      0
    else
      1
set_option maxRecDepth 20000 in
theorem c_X4_isPerson_3 {S : List xSh} (hS : xpf SH1 S) {g : xG} {p1 : Int32} (out : Int32) (H : f_X4_isPerson_3 p1 g = out) : xC mX4_isPerson 0 0 0 0 S [.ref 3, .int p1] g S (fun r g' => r = some (.int out) ∧ g' = g) := by
  have H : (if p1 < 0 then
  0
else
  if (g.1 3 11) ≤ p1 then
    0
  else
    1) = out := H
  refine xC.of 4 SH1 [some (.ref 3), some (.int p1)] hS (by decide +kernel) rfl (fun _ _ => Nat.le_of_ble_eq_true rfl) (fun _ _ => rfl) ?_
  intro k A hR hrm hz
  refine xb A [(.iload_n 1, 1, 0, 0, .null)] (pc' := 1) (ls' := [some (.ref 3), some (.int p1)]) (st' := [.int p1]) (g' := g) (by decide +kernel) rfl ?_
  refine xif_lt A (15) 16 4 (by decide +kernel) (fun h1 => ?_) (fun h1 => ?_)
  · rw [if_pos h1] at H
    refine xb A [(.iconst 0, 1, 0, 0, .int 0)] (pc' := 17) (ls' := [some (.ref 3), some (.int p1)]) (st' := [.int 0]) (g' := g) (by decide +kernel) rfl ?_
    subst H
    exact xret_i A hR hz (by decide +kernel) rfl ⟨rfl, rfl⟩
  · rw [if_neg h1] at H
    refine xb A [(.iload_n 1, 1, 0, 0, .null), (.aload_n 0, 1, 0, 0, .null), (.getfield 51, 3, 3, 11, .int 0)] (pc' := 9) (ls' := [some (.ref 3), some (.int p1)]) (st' := [.int (g.1 3 11), .int p1]) (g' := g) (by decide +kernel) rfl ?_
    refine xic_ge A (7) 16 12 (by decide +kernel) (fun h2 => ?_) (fun h2 => ?_)
    · rw [if_pos h2] at H
      refine xb A [(.iconst 0, 1, 0, 0, .int 0)] (pc' := 17) (ls' := [some (.ref 3), some (.int p1)]) (st' := [.int 0]) (g' := g) (by decide +kernel) rfl ?_
      subst H
      exact xret_i A hR hz (by decide +kernel) rfl ⟨rfl, rfl⟩
    · rw [if_neg h2] at H
      refine xb A [(.iconst 1, 1, 0, 0, .int 1)] (pc' := 13) (ls' := [some (.ref 3), some (.int p1)]) (st' := [.int 1]) (g' := g) (by decide +kernel) rfl ?_
      refine xgoto A (4) 17 (by decide +kernel) ?_
      subst H
      exact xret_i A hR hz (by decide +kernel) rfl ⟨rfl, rfl⟩
def f_X4_homeOf_3 (p1 : Int32) (g : xG) : Int32 :=
  xat g 10 6 p1
set_option maxRecDepth 20000 in
theorem c_X4_homeOf_3 {S : List xSh} (hS : xpf SH1 S) {g : xG} {p1 : Int32} (out : Int32) (H : f_X4_homeOf_3 p1 g = out) : xC mX4_homeOf 1 21 0 0 S [.ref 3, .int p1] g S (fun r g' => r = some (.int out) ∧ g' = g) := by
  have H : (xat g 10 6 p1) = out := H
  refine xC.of 4 SH1 [some (.ref 3), some (.int p1)] hS (by decide +kernel) rfl (fun _ _ => Nat.le_of_ble_eq_true rfl) (fun _ _ => rfl) ?_
  intro k A hR hrm hz
  refine xb A [(.aload_n 0, 1, 0, 0, .null), (.getfield 31, 3, 3, 6, .ref 10), (.iload_n 1, 1, 0, 0, .null)] (pc' := 5) (ls' := [some (.ref 3), some (.int p1)]) (st' := [.int p1, .ref 10]) (g' := g) (by decide +kernel) rfl ?_
  refine xcallSN A (ix := 87) (nxt := 8) (host := "NoonRinger") hrm hz [.ref 10, .int p1] [] 8 (c_X11_at (hS _ _ sh_10) (by decide)) ok_X11_at (by decide +kernel) rfl (fun r g1 hq => ?_)
  rw [hq.1, hq.2]
  show xW k S 0 0 8 [some (.ref 3), some (.int p1)] [.int (xat g 10 6 p1)] g
  subst H
  exact xret_i A hR hz (by decide +kernel) rfl ⟨rfl, rfl⟩
theorem c_X4_laws_3 {S : List xSh} (hS : xpf SH1 S) {g : xG}  : xC mX4_laws 0 0 0 0 S [.ref 3] g S (fun r g' => r = some (.ref 12) ∧ g' = g) := by
  refine xC.of 4 SH1 [some (.ref 3)] hS (by decide +kernel) rfl (fun _ _ => Nat.le_of_ble_eq_true rfl) (fun _ _ => rfl) ?_
  intro k A hR hrm hz
  refine xb A [(.aload_n 0, 1, 0, 0, .null), (.getfield 40, 3, 3, 8, .ref 12)] (pc' := 4) (ls' := [some (.ref 3)]) (st' := [.ref 12]) (g' := g) (by decide +kernel) rfl ?_
  exact xret_a A hR hz (by decide +kernel) ⟨rfl, rfl⟩
def f_X6_of_48 (p1 : Int32) (p2 : Int32) (g : xG) : Int32 :=
  xat g 49 35 (p2 + p1)
set_option maxRecDepth 20000 in
theorem c_X6_of_48 {S : List xSh} (hS : xpf SH1 S) {g : xG} {p1 : Int32} {p2 : Int32} (out : Int32) (H : f_X6_of_48 p1 p2 g = out) : xC mX6_of 1 21 0 0 S [.ref 48, .int p1, .int p2] g S (fun r g' => r = some (.int out) ∧ g' = g) := by
  have H : (xat g 49 35 (p2 + p1)) = out := H
  refine xC.of 6 SH1 [some (.ref 48), some (.int p1), some (.int p2)] hS (by decide +kernel) rfl (fun _ _ => Nat.le_of_ble_eq_true rfl) (fun _ _ => rfl) ?_
  intro k A hR hrm hz
  refine xb A [(.aload_n 0, 1, 0, 0, .null), (.getfield 11, 3, 48, 0, .ref 49), (.iload_n 2, 1, 0, 0, .null), (.iload_n 1, 1, 0, 0, .null), (.iadd, 1, 0, 0, .null)] (pc' := 7) (ls' := [some (.ref 48), some (.int p1), some (.int p2)]) (st' := [.int (p2 + p1), .ref 49]) (g' := g) (by decide +kernel) rfl ?_
  refine xcallSN A (ix := 15) (nxt := 10) (host := "NoonRinger") hrm hz [.ref 49, .int (p2 + p1)] [] 9 (c_X11_at (hS _ _ sh_49) (by decide)) ok_X11_at (by decide +kernel) rfl (fun r g1 hq => ?_)
  rw [hq.1, hq.2]
  show xW k S 0 0 10 [some (.ref 48), some (.int p1), some (.int p2)] [.int (xat g 49 35 (p2 + p1))] g
  subst H
  exact xret_i A hR hz (by decide +kernel) rfl ⟨rfl, rfl⟩
def f_X4_honestyOf_3 (p1 : Int32) (g : xG) : Int32 :=
  xat g 9 6 p1
set_option maxRecDepth 20000 in
theorem c_X4_honestyOf_3 {S : List xSh} (hS : xpf SH1 S) {g : xG} {p1 : Int32} (out : Int32) (H : f_X4_honestyOf_3 p1 g = out) : xC mX4_honestyOf 1 21 0 0 S [.ref 3, .int p1] g S (fun r g' => r = some (.int out) ∧ g' = g) := by
  have H : (xat g 9 6 p1) = out := H
  refine xC.of 4 SH1 [some (.ref 3), some (.int p1)] hS (by decide +kernel) rfl (fun _ _ => Nat.le_of_ble_eq_true rfl) (fun _ _ => rfl) ?_
  intro k A hR hrm hz
  refine xb A [(.aload_n 0, 1, 0, 0, .null), (.getfield 28, 3, 3, 5, .ref 9), (.iload_n 1, 1, 0, 0, .null)] (pc' := 5) (ls' := [some (.ref 3), some (.int p1)]) (st' := [.int p1, .ref 9]) (g' := g) (by decide +kernel) rfl ?_
  refine xcallSN A (ix := 87) (nxt := 8) (host := "NoonRinger") hrm hz [.ref 9, .int p1] [] 8 (c_X11_at (hS _ _ sh_9) (by decide)) ok_X11_at (by decide +kernel) rfl (fun r g1 hq => ?_)
  rw [hq.1, hq.2]
  show xW k S 0 0 8 [some (.ref 3), some (.int p1)] [.int (xat g 9 6 p1)] g
  subst H
  exact xret_i A hR hz (by decide +kernel) rfl ⟨rfl, rfl⟩
def f_J6_bitCount_0f7a4 (p0 : Int32) (g : xG) : Int32 :=
  (((((((p0 - (((p0.toUInt32 >>> ((1 : Int32).toUInt32 &&& Int32.toUInt32 31)).toInt32) &&& 1431655765)) &&& 858993459) + ((((p0 - (((p0.toUInt32 >>> ((1 : Int32).toUInt32 &&& Int32.toUInt32 31)).toInt32) &&& 1431655765)).toUInt32 >>> ((2 : Int32).toUInt32 &&& Int32.toUInt32 31)).toInt32) &&& 858993459)) + (((((p0 - (((p0.toUInt32 >>> ((1 : Int32).toUInt32 &&& Int32.toUInt32 31)).toInt32) &&& 1431655765)) &&& 858993459) + ((((p0 - (((p0.toUInt32 >>> ((1 : Int32).toUInt32 &&& Int32.toUInt32 31)).toInt32) &&& 1431655765)).toUInt32 >>> ((2 : Int32).toUInt32 &&& Int32.toUInt32 31)).toInt32) &&& 858993459)).toUInt32 >>> ((4 : Int32).toUInt32 &&& Int32.toUInt32 31)).toInt32)) &&& 252645135) + (((((((p0 - (((p0.toUInt32 >>> ((1 : Int32).toUInt32 &&& Int32.toUInt32 31)).toInt32) &&& 1431655765)) &&& 858993459) + ((((p0 - (((p0.toUInt32 >>> ((1 : Int32).toUInt32 &&& Int32.toUInt32 31)).toInt32) &&& 1431655765)).toUInt32 >>> ((2 : Int32).toUInt32 &&& Int32.toUInt32 31)).toInt32) &&& 858993459)) + (((((p0 - (((p0.toUInt32 >>> ((1 : Int32).toUInt32 &&& Int32.toUInt32 31)).toInt32) &&& 1431655765)) &&& 858993459) + ((((p0 - (((p0.toUInt32 >>> ((1 : Int32).toUInt32 &&& Int32.toUInt32 31)).toInt32) &&& 1431655765)).toUInt32 >>> ((2 : Int32).toUInt32 &&& Int32.toUInt32 31)).toInt32) &&& 858993459)).toUInt32 >>> ((4 : Int32).toUInt32 &&& Int32.toUInt32 31)).toInt32)) &&& 252645135).toUInt32 >>> ((8 : Int32).toUInt32 &&& Int32.toUInt32 31)).toInt32)) + ((((((((p0 - (((p0.toUInt32 >>> ((1 : Int32).toUInt32 &&& Int32.toUInt32 31)).toInt32) &&& 1431655765)) &&& 858993459) + ((((p0 - (((p0.toUInt32 >>> ((1 : Int32).toUInt32 &&& Int32.toUInt32 31)).toInt32) &&& 1431655765)).toUInt32 >>> ((2 : Int32).toUInt32 &&& Int32.toUInt32 31)).toInt32) &&& 858993459)) + (((((p0 - (((p0.toUInt32 >>> ((1 : Int32).toUInt32 &&& Int32.toUInt32 31)).toInt32) &&& 1431655765)) &&& 858993459) + ((((p0 - (((p0.toUInt32 >>> ((1 : Int32).toUInt32 &&& Int32.toUInt32 31)).toInt32) &&& 1431655765)).toUInt32 >>> ((2 : Int32).toUInt32 &&& Int32.toUInt32 31)).toInt32) &&& 858993459)).toUInt32 >>> ((4 : Int32).toUInt32 &&& Int32.toUInt32 31)).toInt32)) &&& 252645135) + (((((((p0 - (((p0.toUInt32 >>> ((1 : Int32).toUInt32 &&& Int32.toUInt32 31)).toInt32) &&& 1431655765)) &&& 858993459) + ((((p0 - (((p0.toUInt32 >>> ((1 : Int32).toUInt32 &&& Int32.toUInt32 31)).toInt32) &&& 1431655765)).toUInt32 >>> ((2 : Int32).toUInt32 &&& Int32.toUInt32 31)).toInt32) &&& 858993459)) + (((((p0 - (((p0.toUInt32 >>> ((1 : Int32).toUInt32 &&& Int32.toUInt32 31)).toInt32) &&& 1431655765)) &&& 858993459) + ((((p0 - (((p0.toUInt32 >>> ((1 : Int32).toUInt32 &&& Int32.toUInt32 31)).toInt32) &&& 1431655765)).toUInt32 >>> ((2 : Int32).toUInt32 &&& Int32.toUInt32 31)).toInt32) &&& 858993459)).toUInt32 >>> ((4 : Int32).toUInt32 &&& Int32.toUInt32 31)).toInt32)) &&& 252645135).toUInt32 >>> ((8 : Int32).toUInt32 &&& Int32.toUInt32 31)).toInt32)).toUInt32 >>> ((16 : Int32).toUInt32 &&& Int32.toUInt32 31)).toInt32)) &&& 63
set_option maxRecDepth 20000 in
theorem c_J6_bitCount_0f7a4 {S : List xSh} (hS : xpf SH1 S) {g : xG} {p0 : Int32} (out : Int32) (H : f_J6_bitCount_0f7a4 p0 g = out) : xC mJ6_bitCount_0f7a4 0 0 0 0 S [.int p0] g S (fun r g' => r = some (.int out) ∧ g' = g) := by
  have H : ((((((((p0 - (((p0.toUInt32 >>> ((1 : Int32).toUInt32 &&& Int32.toUInt32 31)).toInt32) &&& 1431655765)) &&& 858993459) + ((((p0 - (((p0.toUInt32 >>> ((1 : Int32).toUInt32 &&& Int32.toUInt32 31)).toInt32) &&& 1431655765)).toUInt32 >>> ((2 : Int32).toUInt32 &&& Int32.toUInt32 31)).toInt32) &&& 858993459)) + (((((p0 - (((p0.toUInt32 >>> ((1 : Int32).toUInt32 &&& Int32.toUInt32 31)).toInt32) &&& 1431655765)) &&& 858993459) + ((((p0 - (((p0.toUInt32 >>> ((1 : Int32).toUInt32 &&& Int32.toUInt32 31)).toInt32) &&& 1431655765)).toUInt32 >>> ((2 : Int32).toUInt32 &&& Int32.toUInt32 31)).toInt32) &&& 858993459)).toUInt32 >>> ((4 : Int32).toUInt32 &&& Int32.toUInt32 31)).toInt32)) &&& 252645135) + (((((((p0 - (((p0.toUInt32 >>> ((1 : Int32).toUInt32 &&& Int32.toUInt32 31)).toInt32) &&& 1431655765)) &&& 858993459) + ((((p0 - (((p0.toUInt32 >>> ((1 : Int32).toUInt32 &&& Int32.toUInt32 31)).toInt32) &&& 1431655765)).toUInt32 >>> ((2 : Int32).toUInt32 &&& Int32.toUInt32 31)).toInt32) &&& 858993459)) + (((((p0 - (((p0.toUInt32 >>> ((1 : Int32).toUInt32 &&& Int32.toUInt32 31)).toInt32) &&& 1431655765)) &&& 858993459) + ((((p0 - (((p0.toUInt32 >>> ((1 : Int32).toUInt32 &&& Int32.toUInt32 31)).toInt32) &&& 1431655765)).toUInt32 >>> ((2 : Int32).toUInt32 &&& Int32.toUInt32 31)).toInt32) &&& 858993459)).toUInt32 >>> ((4 : Int32).toUInt32 &&& Int32.toUInt32 31)).toInt32)) &&& 252645135).toUInt32 >>> ((8 : Int32).toUInt32 &&& Int32.toUInt32 31)).toInt32)) + ((((((((p0 - (((p0.toUInt32 >>> ((1 : Int32).toUInt32 &&& Int32.toUInt32 31)).toInt32) &&& 1431655765)) &&& 858993459) + ((((p0 - (((p0.toUInt32 >>> ((1 : Int32).toUInt32 &&& Int32.toUInt32 31)).toInt32) &&& 1431655765)).toUInt32 >>> ((2 : Int32).toUInt32 &&& Int32.toUInt32 31)).toInt32) &&& 858993459)) + (((((p0 - (((p0.toUInt32 >>> ((1 : Int32).toUInt32 &&& Int32.toUInt32 31)).toInt32) &&& 1431655765)) &&& 858993459) + ((((p0 - (((p0.toUInt32 >>> ((1 : Int32).toUInt32 &&& Int32.toUInt32 31)).toInt32) &&& 1431655765)).toUInt32 >>> ((2 : Int32).toUInt32 &&& Int32.toUInt32 31)).toInt32) &&& 858993459)).toUInt32 >>> ((4 : Int32).toUInt32 &&& Int32.toUInt32 31)).toInt32)) &&& 252645135) + (((((((p0 - (((p0.toUInt32 >>> ((1 : Int32).toUInt32 &&& Int32.toUInt32 31)).toInt32) &&& 1431655765)) &&& 858993459) + ((((p0 - (((p0.toUInt32 >>> ((1 : Int32).toUInt32 &&& Int32.toUInt32 31)).toInt32) &&& 1431655765)).toUInt32 >>> ((2 : Int32).toUInt32 &&& Int32.toUInt32 31)).toInt32) &&& 858993459)) + (((((p0 - (((p0.toUInt32 >>> ((1 : Int32).toUInt32 &&& Int32.toUInt32 31)).toInt32) &&& 1431655765)) &&& 858993459) + ((((p0 - (((p0.toUInt32 >>> ((1 : Int32).toUInt32 &&& Int32.toUInt32 31)).toInt32) &&& 1431655765)).toUInt32 >>> ((2 : Int32).toUInt32 &&& Int32.toUInt32 31)).toInt32) &&& 858993459)).toUInt32 >>> ((4 : Int32).toUInt32 &&& Int32.toUInt32 31)).toInt32)) &&& 252645135).toUInt32 >>> ((8 : Int32).toUInt32 &&& Int32.toUInt32 31)).toInt32)).toUInt32 >>> ((16 : Int32).toUInt32 &&& Int32.toUInt32 31)).toInt32)) &&& 63) = out := H
  refine xC.of 15 SH1 [some (.int p0)] hS (by decide +kernel) rfl (fun _ _ => Nat.le_of_ble_eq_true rfl) (fun _ _ => rfl) ?_
  intro k A hR hrm hz
  refine xb A [(.iload_n 0, 1, 0, 0, .null), (.iload_n 0, 1, 0, 0, .null), (.iconst 1, 1, 0, 0, .int 1), (.iushr, 1, 0, 0, .null), (.ldc_w 265, 3, 0, 0, .int 1431655765), (.iand, 1, 0, 0, .null), (.isub, 1, 0, 0, .null), (.istore_n 0, 1, 0, 0, .null), (.iload_n 0, 1, 0, 0, .null), (.ldc_w 266, 3, 0, 0, .int 858993459), (.iand, 1, 0, 0, .null), (.iload_n 0, 1, 0, 0, .null), (.iconst 2, 1, 0, 0, .int 2), (.iushr, 1, 0, 0, .null), (.ldc_w 266, 3, 0, 0, .int 858993459), (.iand, 1, 0, 0, .null), (.iadd, 1, 0, 0, .null), (.istore_n 0, 1, 0, 0, .null), (.iload_n 0, 1, 0, 0, .null), (.iload_n 0, 1, 0, 0, .null), (.iconst 4, 1, 0, 0, .int 4), (.iushr, 1, 0, 0, .null), (.iadd, 1, 0, 0, .null), (.ldc_w 267, 3, 0, 0, .int 252645135), (.iand, 1, 0, 0, .null), (.istore_n 0, 1, 0, 0, .null), (.iload_n 0, 1, 0, 0, .null), (.iload_n 0, 1, 0, 0, .null), (.bipush 8, 2, 0, 0, .int 8), (.iushr, 1, 0, 0, .null), (.iadd, 1, 0, 0, .null), (.istore_n 0, 1, 0, 0, .null), (.iload_n 0, 1, 0, 0, .null), (.iload_n 0, 1, 0, 0, .null), (.bipush 16, 2, 0, 0, .int 16), (.iushr, 1, 0, 0, .null), (.iadd, 1, 0, 0, .null), (.istore_n 0, 1, 0, 0, .null), (.iload_n 0, 1, 0, 0, .null), (.bipush 63, 2, 0, 0, .int 63), (.iand, 1, 0, 0, .null)] (pc' := 52) (ls' := [some (.int (((((((p0 - (((p0.toUInt32 >>> ((1 : Int32).toUInt32 &&& Int32.toUInt32 31)).toInt32) &&& 1431655765)) &&& 858993459) + ((((p0 - (((p0.toUInt32 >>> ((1 : Int32).toUInt32 &&& Int32.toUInt32 31)).toInt32) &&& 1431655765)).toUInt32 >>> ((2 : Int32).toUInt32 &&& Int32.toUInt32 31)).toInt32) &&& 858993459)) + (((((p0 - (((p0.toUInt32 >>> ((1 : Int32).toUInt32 &&& Int32.toUInt32 31)).toInt32) &&& 1431655765)) &&& 858993459) + ((((p0 - (((p0.toUInt32 >>> ((1 : Int32).toUInt32 &&& Int32.toUInt32 31)).toInt32) &&& 1431655765)).toUInt32 >>> ((2 : Int32).toUInt32 &&& Int32.toUInt32 31)).toInt32) &&& 858993459)).toUInt32 >>> ((4 : Int32).toUInt32 &&& Int32.toUInt32 31)).toInt32)) &&& 252645135) + (((((((p0 - (((p0.toUInt32 >>> ((1 : Int32).toUInt32 &&& Int32.toUInt32 31)).toInt32) &&& 1431655765)) &&& 858993459) + ((((p0 - (((p0.toUInt32 >>> ((1 : Int32).toUInt32 &&& Int32.toUInt32 31)).toInt32) &&& 1431655765)).toUInt32 >>> ((2 : Int32).toUInt32 &&& Int32.toUInt32 31)).toInt32) &&& 858993459)) + (((((p0 - (((p0.toUInt32 >>> ((1 : Int32).toUInt32 &&& Int32.toUInt32 31)).toInt32) &&& 1431655765)) &&& 858993459) + ((((p0 - (((p0.toUInt32 >>> ((1 : Int32).toUInt32 &&& Int32.toUInt32 31)).toInt32) &&& 1431655765)).toUInt32 >>> ((2 : Int32).toUInt32 &&& Int32.toUInt32 31)).toInt32) &&& 858993459)).toUInt32 >>> ((4 : Int32).toUInt32 &&& Int32.toUInt32 31)).toInt32)) &&& 252645135).toUInt32 >>> ((8 : Int32).toUInt32 &&& Int32.toUInt32 31)).toInt32)) + ((((((((p0 - (((p0.toUInt32 >>> ((1 : Int32).toUInt32 &&& Int32.toUInt32 31)).toInt32) &&& 1431655765)) &&& 858993459) + ((((p0 - (((p0.toUInt32 >>> ((1 : Int32).toUInt32 &&& Int32.toUInt32 31)).toInt32) &&& 1431655765)).toUInt32 >>> ((2 : Int32).toUInt32 &&& Int32.toUInt32 31)).toInt32) &&& 858993459)) + (((((p0 - (((p0.toUInt32 >>> ((1 : Int32).toUInt32 &&& Int32.toUInt32 31)).toInt32) &&& 1431655765)) &&& 858993459) + ((((p0 - (((p0.toUInt32 >>> ((1 : Int32).toUInt32 &&& Int32.toUInt32 31)).toInt32) &&& 1431655765)).toUInt32 >>> ((2 : Int32).toUInt32 &&& Int32.toUInt32 31)).toInt32) &&& 858993459)).toUInt32 >>> ((4 : Int32).toUInt32 &&& Int32.toUInt32 31)).toInt32)) &&& 252645135) + (((((((p0 - (((p0.toUInt32 >>> ((1 : Int32).toUInt32 &&& Int32.toUInt32 31)).toInt32) &&& 1431655765)) &&& 858993459) + ((((p0 - (((p0.toUInt32 >>> ((1 : Int32).toUInt32 &&& Int32.toUInt32 31)).toInt32) &&& 1431655765)).toUInt32 >>> ((2 : Int32).toUInt32 &&& Int32.toUInt32 31)).toInt32) &&& 858993459)) + (((((p0 - (((p0.toUInt32 >>> ((1 : Int32).toUInt32 &&& Int32.toUInt32 31)).toInt32) &&& 1431655765)) &&& 858993459) + ((((p0 - (((p0.toUInt32 >>> ((1 : Int32).toUInt32 &&& Int32.toUInt32 31)).toInt32) &&& 1431655765)).toUInt32 >>> ((2 : Int32).toUInt32 &&& Int32.toUInt32 31)).toInt32) &&& 858993459)).toUInt32 >>> ((4 : Int32).toUInt32 &&& Int32.toUInt32 31)).toInt32)) &&& 252645135).toUInt32 >>> ((8 : Int32).toUInt32 &&& Int32.toUInt32 31)).toInt32)).toUInt32 >>> ((16 : Int32).toUInt32 &&& Int32.toUInt32 31)).toInt32)))]) (st' := [.int ((((((((p0 - (((p0.toUInt32 >>> ((1 : Int32).toUInt32 &&& Int32.toUInt32 31)).toInt32) &&& 1431655765)) &&& 858993459) + ((((p0 - (((p0.toUInt32 >>> ((1 : Int32).toUInt32 &&& Int32.toUInt32 31)).toInt32) &&& 1431655765)).toUInt32 >>> ((2 : Int32).toUInt32 &&& Int32.toUInt32 31)).toInt32) &&& 858993459)) + (((((p0 - (((p0.toUInt32 >>> ((1 : Int32).toUInt32 &&& Int32.toUInt32 31)).toInt32) &&& 1431655765)) &&& 858993459) + ((((p0 - (((p0.toUInt32 >>> ((1 : Int32).toUInt32 &&& Int32.toUInt32 31)).toInt32) &&& 1431655765)).toUInt32 >>> ((2 : Int32).toUInt32 &&& Int32.toUInt32 31)).toInt32) &&& 858993459)).toUInt32 >>> ((4 : Int32).toUInt32 &&& Int32.toUInt32 31)).toInt32)) &&& 252645135) + (((((((p0 - (((p0.toUInt32 >>> ((1 : Int32).toUInt32 &&& Int32.toUInt32 31)).toInt32) &&& 1431655765)) &&& 858993459) + ((((p0 - (((p0.toUInt32 >>> ((1 : Int32).toUInt32 &&& Int32.toUInt32 31)).toInt32) &&& 1431655765)).toUInt32 >>> ((2 : Int32).toUInt32 &&& Int32.toUInt32 31)).toInt32) &&& 858993459)) + (((((p0 - (((p0.toUInt32 >>> ((1 : Int32).toUInt32 &&& Int32.toUInt32 31)).toInt32) &&& 1431655765)) &&& 858993459) + ((((p0 - (((p0.toUInt32 >>> ((1 : Int32).toUInt32 &&& Int32.toUInt32 31)).toInt32) &&& 1431655765)).toUInt32 >>> ((2 : Int32).toUInt32 &&& Int32.toUInt32 31)).toInt32) &&& 858993459)).toUInt32 >>> ((4 : Int32).toUInt32 &&& Int32.toUInt32 31)).toInt32)) &&& 252645135).toUInt32 >>> ((8 : Int32).toUInt32 &&& Int32.toUInt32 31)).toInt32)) + ((((((((p0 - (((p0.toUInt32 >>> ((1 : Int32).toUInt32 &&& Int32.toUInt32 31)).toInt32) &&& 1431655765)) &&& 858993459) + ((((p0 - (((p0.toUInt32 >>> ((1 : Int32).toUInt32 &&& Int32.toUInt32 31)).toInt32) &&& 1431655765)).toUInt32 >>> ((2 : Int32).toUInt32 &&& Int32.toUInt32 31)).toInt32) &&& 858993459)) + (((((p0 - (((p0.toUInt32 >>> ((1 : Int32).toUInt32 &&& Int32.toUInt32 31)).toInt32) &&& 1431655765)) &&& 858993459) + ((((p0 - (((p0.toUInt32 >>> ((1 : Int32).toUInt32 &&& Int32.toUInt32 31)).toInt32) &&& 1431655765)).toUInt32 >>> ((2 : Int32).toUInt32 &&& Int32.toUInt32 31)).toInt32) &&& 858993459)).toUInt32 >>> ((4 : Int32).toUInt32 &&& Int32.toUInt32 31)).toInt32)) &&& 252645135) + (((((((p0 - (((p0.toUInt32 >>> ((1 : Int32).toUInt32 &&& Int32.toUInt32 31)).toInt32) &&& 1431655765)) &&& 858993459) + ((((p0 - (((p0.toUInt32 >>> ((1 : Int32).toUInt32 &&& Int32.toUInt32 31)).toInt32) &&& 1431655765)).toUInt32 >>> ((2 : Int32).toUInt32 &&& Int32.toUInt32 31)).toInt32) &&& 858993459)) + (((((p0 - (((p0.toUInt32 >>> ((1 : Int32).toUInt32 &&& Int32.toUInt32 31)).toInt32) &&& 1431655765)) &&& 858993459) + ((((p0 - (((p0.toUInt32 >>> ((1 : Int32).toUInt32 &&& Int32.toUInt32 31)).toInt32) &&& 1431655765)).toUInt32 >>> ((2 : Int32).toUInt32 &&& Int32.toUInt32 31)).toInt32) &&& 858993459)).toUInt32 >>> ((4 : Int32).toUInt32 &&& Int32.toUInt32 31)).toInt32)) &&& 252645135).toUInt32 >>> ((8 : Int32).toUInt32 &&& Int32.toUInt32 31)).toInt32)).toUInt32 >>> ((16 : Int32).toUInt32 &&& Int32.toUInt32 31)).toInt32)) &&& 63)]) (g' := g) (by decide +kernel) rfl ?_
  subst H
  exact xret_i A hR hz (by decide +kernel) rfl ⟨rfl, rfl⟩
def f_X2_mostOf (p0 : Int32) (g : xG) : Int32 :=
  if p0 = 2 then
    99
  else
    if p0 = 3 then
      100
    else
      999
set_option maxRecDepth 20000 in
theorem c_X2_mostOf {S : List xSh} (hS : xpf SH1 S) {g : xG} {p0 : Int32} (out : Int32) (H : f_X2_mostOf p0 g = out) : xC mX2_mostOf 0 0 0 0 S [.int p0] g S (fun r g' => r = some (.int out) ∧ g' = g) := by
  have H : (if p0 = 2 then
  99
else
  if p0 = 3 then
    100
  else
    999) = out := H
  refine xC.of 2 SH1 [some (.int p0)] hS (by decide +kernel) rfl (fun _ _ => Nat.le_of_ble_eq_true rfl) (fun _ _ => rfl) ?_
  intro k A hR hrm hz
  refine xb A [(.iload_n 0, 1, 0, 0, .null)] (pc' := 1) (ls' := [some (.int p0)]) (st' := [.int p0]) (g' := g) (by decide +kernel) rfl ?_
  by_cases h1 : p0 = 2
  · rw [if_pos h1] at H
    refine xlook A (dflt := 33) (ps := #[(2, 27), (3, 30)]) (len := 27) (off := 27) (tgt := 28) (by decide +kernel) (by rw [h1]; rfl) ?_
    refine xb A [(.bipush 99, 2, 0, 0, .int 99)] (pc' := 30) (ls' := [some (.int p0)]) (st' := [.int 99]) (g' := g) (by decide +kernel) rfl ?_
    subst H
    exact xret_i A hR hz (by decide +kernel) rfl ⟨rfl, rfl⟩
  · rw [if_neg h1] at H
    by_cases h2 : p0 = 3
    · rw [if_pos h2] at H
      refine xlook A (dflt := 33) (ps := #[(2, 27), (3, 30)]) (len := 27) (off := 30) (tgt := 31) (by decide +kernel) (by rw [h2]; rfl) ?_
      refine xb A [(.bipush 100, 2, 0, 0, .int 100)] (pc' := 33) (ls' := [some (.int p0)]) (st' := [.int 100]) (g' := g) (by decide +kernel) rfl ?_
      subst H
      exact xret_i A hR hz (by decide +kernel) rfl ⟨rfl, rfl⟩
    · rw [if_neg h2] at H
      refine xlook A (dflt := 33) (ps := #[(2, 27), (3, 30)]) (len := 27) (off := 33) (tgt := 34) (by decide +kernel) (by show Op.lookupswitch.offset [(2, 27), (3, 30)] 33 _ = _; rw [lv_osw h1 rfl]; rw [lv_osw h2 rfl]; rfl) ?_
      refine xb A [(.sipush 999, 3, 0, 0, .int 999)] (pc' := 37) (ls' := [some (.int p0)]) (st' := [.int 999]) (g' := g) (by decide +kernel) rfl ?_
      subst H
      exact xret_i A hR hz (by decide +kernel) rfl ⟨rfl, rfl⟩
def f_X2_joined (p0 : Int32) (p1 : Int32) (p2 : Int32) (g : xG) : Option (Int32) :=
  if p0 = 4 then
    some (p1 + p2)
  else
    if p0 = 5 then
      some (p1 - p2)
    else
      if p0 = 6 then
        some (p1 * p2)
      else
        if p0 = 7 then
          if p2 = 0 then
            some 0
          else
            xg (¬ p2 = 0) (
              some (p1 / p2))
        else
          some 0
set_option maxRecDepth 20000 in
theorem c_X2_joined {S : List xSh} (hS : xpf SH1 S) {g : xG} {p0 : Int32} {p1 : Int32} {p2 : Int32} (out : Int32) (H : f_X2_joined p0 p1 p2 g = some out) : xC mX2_joined 0 0 0 0 S [.int p0, .int p1, .int p2] g S (fun r g' => r = some (.int out) ∧ g' = g) := by
  have H : (if p0 = 4 then
  some (p1 + p2)
else
  if p0 = 5 then
    some (p1 - p2)
  else
    if p0 = 6 then
      some (p1 * p2)
    else
      if p0 = 7 then
        if p2 = 0 then
          some 0
        else
          xg (¬ p2 = 0) (
            some (p1 / p2))
      else
        some 0) = some out := H
  refine xC.of 2 SH1 [some (.int p0), some (.int p1), some (.int p2)] hS (by decide +kernel) rfl (fun _ _ => Nat.le_of_ble_eq_true rfl) (fun _ _ => rfl) ?_
  intro k A hR hrm hz
  refine xb A [(.iload_n 0, 1, 0, 0, .null)] (pc' := 1) (ls' := [some (.int p0), some (.int p1), some (.int p2)]) (st' := [.int p0]) (g' := g) (by decide +kernel) rfl ?_
  by_cases h1 : p0 = 4
  · rw [if_pos h1] at H
    refine xtabIn A (dflt := 55) (lo := 4) (hi := 7) (off := 31) (offs := #[(31), (35), (39), (43)]) (len := 31) (tgt := 32) (4) (by rw [h1]; rfl) (by decide +kernel) ?_
    refine xb A [(.iload_n 1, 1, 0, 0, .null), (.iload_n 2, 1, 0, 0, .null), (.iadd, 1, 0, 0, .null)] (pc' := 35) (ls' := [some (.int p0), some (.int p1), some (.int p2)]) (st' := [.int (p1 + p2)]) (g' := g) (by decide +kernel) rfl ?_
    obtain rfl := Option.some.inj H
    exact xret_i A hR hz (by decide +kernel) rfl ⟨rfl, rfl⟩
  · rw [if_neg h1] at H
    by_cases h2 : p0 = 5
    · rw [if_pos h2] at H
      refine xtabIn A (dflt := 55) (lo := 4) (hi := 7) (off := 35) (offs := #[(31), (35), (39), (43)]) (len := 31) (tgt := 36) (5) (by rw [h2]; rfl) (by decide +kernel) ?_
      refine xb A [(.iload_n 1, 1, 0, 0, .null), (.iload_n 2, 1, 0, 0, .null), (.isub, 1, 0, 0, .null)] (pc' := 39) (ls' := [some (.int p0), some (.int p1), some (.int p2)]) (st' := [.int (p1 - p2)]) (g' := g) (by decide +kernel) rfl ?_
      obtain rfl := Option.some.inj H
      exact xret_i A hR hz (by decide +kernel) rfl ⟨rfl, rfl⟩
    · rw [if_neg h2] at H
      by_cases h3 : p0 = 6
      · rw [if_pos h3] at H
        refine xtabIn A (dflt := 55) (lo := 4) (hi := 7) (off := 39) (offs := #[(31), (35), (39), (43)]) (len := 31) (tgt := 40) (6) (by rw [h3]; rfl) (by decide +kernel) ?_
        refine xb A [(.iload_n 1, 1, 0, 0, .null), (.iload_n 2, 1, 0, 0, .null), (.imul, 1, 0, 0, .null)] (pc' := 43) (ls' := [some (.int p0), some (.int p1), some (.int p2)]) (st' := [.int (p1 * p2)]) (g' := g) (by decide +kernel) rfl ?_
        obtain rfl := Option.some.inj H
        exact xret_i A hR hz (by decide +kernel) rfl ⟨rfl, rfl⟩
      · rw [if_neg h3] at H
        by_cases h4 : p0 = 7
        · rw [if_pos h4] at H
          refine xtabIn A (dflt := 55) (lo := 4) (hi := 7) (off := 43) (offs := #[(31), (35), (39), (43)]) (len := 31) (tgt := 44) (7) (by rw [h4]; rfl) (by decide +kernel) ?_
          refine xb A [(.iload_n 2, 1, 0, 0, .null)] (pc' := 45) (ls' := [some (.int p0), some (.int p1), some (.int p2)]) (st' := [.int p2]) (g' := g) (by decide +kernel) rfl ?_
          refine xif_eq A (9) 54 48 (by decide +kernel) (fun h5 => ?_) (fun h5 => ?_)
          · rw [if_pos h5] at H
            refine xb A [(.iconst 0, 1, 0, 0, .int 0)] (pc' := 55) (ls' := [some (.int p0), some (.int p1), some (.int p2)]) (st' := [.int 0]) (g' := g) (by decide +kernel) rfl ?_
            obtain rfl := Option.some.inj H
            exact xret_i A hR hz (by decide +kernel) rfl ⟨rfl, rfl⟩
          · rw [if_neg h5] at H
            refine xb A [(.iload_n 1, 1, 0, 0, .null), (.iload_n 2, 1, 0, 0, .null)] (pc' := 50) (ls' := [some (.int p0), some (.int p1), some (.int p2)]) (st' := [.int p2, .int p1]) (g' := g) (by decide +kernel) rfl ?_
            obtain ⟨h6, H⟩ := xg_elim H
            refine xidiv A (nxt := 51) (by decide +kernel) h6 ?_
            refine xgoto A (4) 55 (by decide +kernel) ?_
            obtain rfl := Option.some.inj H
            exact xret_i A hR hz (by decide +kernel) rfl ⟨rfl, rfl⟩
        · rw [if_neg h4] at H
          refine xtabOut A (dflt := 55) (lo := 4) (hi := 7) (offs := #[(31), (35), (39), (43)]) (len := 31) (tgt := 56) (by decide +kernel) ?_ ?_
          · have e0 := lv_neT (a := 4) h1 rfl; have e1 := lv_neT (a := 5) h2 rfl; have e2 := lv_neT (a := 6) h3 rfl; have e3 := lv_neT (a := 7) h4 rfl; omega
          · skip
            refine xb A [(.iconst 0, 1, 0, 0, .int 0)] (pc' := 57) (ls' := [some (.int p0), some (.int p1), some (.int p2)]) (st' := [.int 0]) (g' := g) (by decide +kernel) rfl ?_
            obtain rfl := Option.some.inj H
            exact xret_i A hR hz (by decide +kernel) rfl ⟨rfl, rfl⟩
def f_X2_answer_12_45_58 (k15 : Int32 → Int32 → Int32 → xG → Option (Int32 × xG)) (l3 : Int32) (l4 : Int32) (l5 : Int32) (l6 : Int32) (l7 : Int32) (g : xG) : Option (Int32 × xG) :=
  if l6 = 1 then
    xl (xput g 16 24 l4 l7) fun w2 =>
    k15 l3 (l4 + 1) (l5 + 1) w2
  else
    xl (xput g 16 24 l4 (xat g 45 9 l7)) fun w1 =>
    k15 l3 (l4 + 1) (l5 + 1) w1
def f_X2_answer_12_45_156 (k15 : Int32 → Int32 → Int32 → xG → Option (Int32 × xG)) (l3 : Int32) (l4 : Int32) (l5 : Int32) (l6 : Int32) (l8 : Int32) (l9 : Int32) (g : xG) : Option (Int32 × xG) :=
  (f_X2_joined l6 l9 l8 g).bind fun w3 =>
  xl (xput g 16 24 l4 w3) fun w4 =>
  k15 l3 (l4 + 1) (l5 + 1) w4
def f_X2_answer_12_45_15  : Nat → Int32 → Int32 → Int32 → xG → Option (Int32 × xG)
  | 0, _, _, _, _ => none
  | n + 1, l3, l4, l5, g =>
    if 408 ≤ l5 then
      some (0, g)
    else
      if (xat g 13 408 l3) = 1 then
        f_X2_answer_12_45_58 (f_X2_answer_12_45_15 n) (l3 + 1) l4 l5 (xat g 13 408 l3) (xat g 14 408 l3) g
      else
        if (xat g 13 408 l3) = 2 then
          f_X2_answer_12_45_58 (f_X2_answer_12_45_15 n) (l3 + 1) l4 l5 (xat g 13 408 l3) (xat g 14 408 l3) g
        else
          if (xat g 13 408 l3) = 0 then
            some (xat g 16 24 (l4 - 1), g)
          else
            if (xat g 13 408 l3) = 3 then
              if (xat g 16 24 (l4 - 2)) < (xat g 16 24 (l4 - 1)) then
                f_X2_answer_12_45_15 n (l3 + 1) (l4 + (-2)) (l5 + 1) g
              else
                f_X2_answer_12_45_15 n (xat g 14 408 l3) (l4 + (-2)) (l5 + 1) g
            else
              if (xat g 13 408 l3) = 7 then
                if (xat g 16 24 (l4 - 1)) = 0 then
                  some (0, g)
                else
                  f_X2_answer_12_45_156 (f_X2_answer_12_45_15 n) (l3 + 1) (l4 + (-2)) l5 (xat g 13 408 l3) (xat g 16 24 (l4 - 1)) (xat g 16 24 (l4 - 2)) g
              else
                f_X2_answer_12_45_156 (f_X2_answer_12_45_15 n) (l3 + 1) (l4 + (-2)) l5 (xat g 13 408 l3) (xat g 16 24 (l4 - 1)) (xat g 16 24 (l4 - 2)) g
def f_X2_answer_12_45 (p1 : Int32) (g : xG) : Option (Int32 × xG) :=
  f_X2_answer_12_45_15 xN (xat g 15 4 p1) 0 0 g
set_option maxRecDepth 20000 in
theorem t_X2_answer_12_45_58 {k : xK} {S : List xSh} {out : Int32 × xG} (hS : xpf SH1 S) (A : xAt k mX2_answer.2.1 2 SH1 S) (hR : xRet k 0 0 S (fun r g' => r = some (.int out.1) ∧ g' = out.2) mX2_answer.2.2.2) (hrm : xrm k = { frames := 1, cells := 0, slots := 0, locals := 22 }) (hz : xhs k = xb0 k + S.length) {k15 : Int32 → Int32 → Int32 → xG → Option (Int32 × xG)} (hk15 : ∀ (l3 : Int32) (l4 : Int32) (l5 : Int32) (g : xG), k15 l3 l4 l5 g = some out → xW k S 0 0 15 [some (.ref 12), none, some (.ref 45), some (.int l3), some (.int l4), some (.int l5), none, none, none, none] [] g) : ∀ (l3 : Int32) (l4 : Int32) (l5 : Int32) (l6 : Int32) (l7 : Int32) (g : xG), f_X2_answer_12_45_58 k15 l3 l4 l5 l6 l7 g = some out → xW k S 0 0 58 [some (.ref 12), none, some (.ref 45), some (.int l3), some (.int l4), some (.int l5), some (.int l6), some (.int l7), none, none] [] g := by
  intro l3 l4 l5 l6 l7 g H
  have H : (if l6 = 1 then
  xl (xput g 16 24 l4 l7) fun w2 =>
  k15 l3 (l4 + 1) (l5 + 1) w2
else
  xl (xput g 16 24 l4 (xat g 45 9 l7)) fun w1 =>
  k15 l3 (l4 + 1) (l5 + 1) w1) = some out := H
  refine xb A [(.aload_n 0, 1, 0, 0, .null), (.getfield 23, 3, 12, 3, .ref 16), (.iload 4, 2, 0, 0, .null), (.iload 6, 2, 0, 0, .null), (.iconst 1, 1, 0, 0, .int 1)] (pc' := 67) (ls' := [some (.ref 12), none, some (.ref 45), some (.int l3), some (.int l4), some (.int l5), some (.int l6), some (.int l7), none, none]) (st' := [.int 1, .int l6, .int l4, .ref 16]) (g' := g) (by decide +kernel) rfl ?_
  refine xic_ne A (8) 75 70 (by decide +kernel) (fun h3 => ?_) (fun h3 => ?_)
  · rw [if_neg h3] at H
    refine xb A [(.aload_n 2, 1, 0, 0, .null), (.iload 7, 2, 0, 0, .null)] (pc' := 78) (ls' := [some (.ref 12), none, some (.ref 45), some (.int l3), some (.int l4), some (.int l5), some (.int l6), some (.int l7), none, none]) (st' := [.int l7, .ref 45, .int l4, .ref 16]) (g' := g) (by decide +kernel) rfl ?_
    refine xcallSN A (ix := 46) (nxt := 81) (host := "NoonRinger") hrm hz [.ref 45, .int l7] [.int l4, .ref 16] 26 (c_X11_at (hS _ _ sh_45) (by decide)) ok_X11_at (by decide +kernel) rfl (fun r g1 hq => ?_)
    rw [hq.1, hq.2]
    show xW k S 0 0 81 [some (.ref 12), none, some (.ref 45), some (.int l3), some (.int l4), some (.int l5), some (.int l6), some (.int l7), none, none] [.int (xat g 45 9 l7), .int l4, .ref 16] g
    obtain ⟨w1, e1, H⟩ := xl_elim H
    refine xcallSN A (ix := 42) (nxt := 84) (host := "NoonRinger") hrm hz [.ref 16, .int l4, .int (xat g 45 9 l7)] [] 6 (c_X11_put (hS _ _ sh_16) (by decide)) ok_X11_put (by decide +kernel) rfl (fun r g1 hq => ?_)
    rw [hq.1, hq.2]
    rw [e1]
    show xW k S 0 0 84 [some (.ref 12), none, some (.ref 45), some (.int l3), some (.int l4), some (.int l5), some (.int l6), some (.int l7), none, none] [] w1
    refine xb A [(.iinc 4 1, 3, 0, 0, .null)] (pc' := 87) (ls' := [some (.ref 12), none, some (.ref 45), some (.int l3), some (.int (l4 + 1)), some (.int l5), some (.int l6), some (.int l7), none, none]) (st' := []) (g' := w1) (by decide +kernel) rfl ?_
    refine xgoto A (103) 190 (by decide +kernel) ?_
    refine xb A [(.iinc 5 1, 3, 0, 0, .null)] (pc' := 193) (ls' := [some (.ref 12), none, some (.ref 45), some (.int l3), some (.int (l4 + 1)), some (.int (l5 + 1)), some (.int l6), some (.int l7), none, none]) (st' := []) (g' := w1) (by decide +kernel) rfl ?_
    refine xgoto A (-178) 15 (by decide +kernel) ?_
    refine xweak (ls' := [some (.ref 12), none, some (.ref 45), some (.int l3), some (.int (l4 + 1)), some (.int (l5 + 1)), none, none, none, none]) (by exact ⟨rfl, ⟨rfl, ⟨rfl, ⟨rfl, ⟨rfl, trivial⟩⟩⟩⟩⟩) ?_
    exact hk15 _ _ _ _ H
  · rw [if_pos h3] at H
    refine xb A [(.iload 7, 2, 0, 0, .null)] (pc' := 72) (ls' := [some (.ref 12), none, some (.ref 45), some (.int l3), some (.int l4), some (.int l5), some (.int l6), some (.int l7), none, none]) (st' := [.int l7, .int l4, .ref 16]) (g' := g) (by decide +kernel) rfl ?_
    refine xgoto A (9) 81 (by decide +kernel) ?_
    obtain ⟨w2, e2, H⟩ := xl_elim H
    refine xcallSN A (ix := 42) (nxt := 84) (host := "NoonRinger") hrm hz [.ref 16, .int l4, .int l7] [] 6 (c_X11_put (hS _ _ sh_16) (by decide)) ok_X11_put (by decide +kernel) rfl (fun r g1 hq => ?_)
    rw [hq.1, hq.2]
    rw [e2]
    show xW k S 0 0 84 [some (.ref 12), none, some (.ref 45), some (.int l3), some (.int l4), some (.int l5), some (.int l6), some (.int l7), none, none] [] w2
    refine xb A [(.iinc 4 1, 3, 0, 0, .null)] (pc' := 87) (ls' := [some (.ref 12), none, some (.ref 45), some (.int l3), some (.int (l4 + 1)), some (.int l5), some (.int l6), some (.int l7), none, none]) (st' := []) (g' := w2) (by decide +kernel) rfl ?_
    refine xgoto A (103) 190 (by decide +kernel) ?_
    refine xb A [(.iinc 5 1, 3, 0, 0, .null)] (pc' := 193) (ls' := [some (.ref 12), none, some (.ref 45), some (.int l3), some (.int (l4 + 1)), some (.int (l5 + 1)), some (.int l6), some (.int l7), none, none]) (st' := []) (g' := w2) (by decide +kernel) rfl ?_
    refine xgoto A (-178) 15 (by decide +kernel) ?_
    refine xweak (ls' := [some (.ref 12), none, some (.ref 45), some (.int l3), some (.int (l4 + 1)), some (.int (l5 + 1)), none, none, none, none]) (by exact ⟨rfl, ⟨rfl, ⟨rfl, ⟨rfl, ⟨rfl, trivial⟩⟩⟩⟩⟩) ?_
    exact hk15 _ _ _ _ H
set_option maxRecDepth 20000 in
theorem t_X2_answer_12_45_156 {k : xK} {S : List xSh} {out : Int32 × xG} (hS : xpf SH1 S) (A : xAt k mX2_answer.2.1 2 SH1 S) (hR : xRet k 0 0 S (fun r g' => r = some (.int out.1) ∧ g' = out.2) mX2_answer.2.2.2) (hrm : xrm k = { frames := 1, cells := 0, slots := 0, locals := 22 }) (hz : xhs k = xb0 k + S.length) {k15 : Int32 → Int32 → Int32 → xG → Option (Int32 × xG)} (hk15 : ∀ (l3 : Int32) (l4 : Int32) (l5 : Int32) (g : xG), k15 l3 l4 l5 g = some out → xW k S 0 0 15 [some (.ref 12), none, some (.ref 45), some (.int l3), some (.int l4), some (.int l5), none, none, none, none] [] g) : ∀ (l3 : Int32) (l4 : Int32) (l5 : Int32) (l6 : Int32) (l8 : Int32) (l9 : Int32) (g : xG), f_X2_answer_12_45_156 k15 l3 l4 l5 l6 l8 l9 g = some out → xW k S 0 0 156 [some (.ref 12), none, some (.ref 45), some (.int l3), some (.int l4), some (.int l5), some (.int l6), none, some (.int l8), some (.int l9)] [] g := by
  intro l3 l4 l5 l6 l8 l9 g H
  have H : ((f_X2_joined l6 l9 l8 g).bind fun w3 =>
xl (xput g 16 24 l4 w3) fun w4 =>
k15 l3 (l4 + 1) (l5 + 1) w4) = some out := H
  refine xb A [(.aload_n 0, 1, 0, 0, .null), (.getfield 23, 3, 12, 3, .ref 16), (.iload 4, 2, 0, 0, .null), (.iload 6, 2, 0, 0, .null), (.iload 9, 2, 0, 0, .null), (.iload 8, 2, 0, 0, .null)] (pc' := 168) (ls' := [some (.ref 12), none, some (.ref 45), some (.int l3), some (.int l4), some (.int l5), some (.int l6), none, some (.int l8), some (.int l9)]) (st' := [.int l8, .int l9, .int l6, .int l4, .ref 16]) (g' := g) (by decide +kernel) rfl ?_
  obtain ⟨w3, e3, H⟩ := xbind H
  refine xcallS A (ix := 50) (nxt := 171) hrm hz [.int l6, .int l9, .int l8] [.int l4, .ref 16] 989 (c_X2_joined hS _ e3) ok_X2_joined (by decide +kernel) rfl (fun r g1 hq => ?_)
  rw [hq.1, hq.2]
  show xW k S 0 0 171 [some (.ref 12), none, some (.ref 45), some (.int l3), some (.int l4), some (.int l5), some (.int l6), none, some (.int l8), some (.int l9)] [.int w3, .int l4, .ref 16] g
  obtain ⟨w4, e4, H⟩ := xl_elim H
  refine xcallSN A (ix := 42) (nxt := 174) (host := "NoonRinger") hrm hz [.ref 16, .int l4, .int w3] [] 6 (c_X11_put (hS _ _ sh_16) (by decide)) ok_X11_put (by decide +kernel) rfl (fun r g1 hq => ?_)
  rw [hq.1, hq.2]
  rw [e4]
  show xW k S 0 0 174 [some (.ref 12), none, some (.ref 45), some (.int l3), some (.int l4), some (.int l5), some (.int l6), none, some (.int l8), some (.int l9)] [] w4
  refine xb A [(.iinc 4 1, 3, 0, 0, .null)] (pc' := 177) (ls' := [some (.ref 12), none, some (.ref 45), some (.int l3), some (.int (l4 + 1)), some (.int l5), some (.int l6), none, some (.int l8), some (.int l9)]) (st' := []) (g' := w4) (by decide +kernel) rfl ?_
  refine xgoto A (13) 190 (by decide +kernel) ?_
  refine xb A [(.iinc 5 1, 3, 0, 0, .null)] (pc' := 193) (ls' := [some (.ref 12), none, some (.ref 45), some (.int l3), some (.int (l4 + 1)), some (.int (l5 + 1)), some (.int l6), none, some (.int l8), some (.int l9)]) (st' := []) (g' := w4) (by decide +kernel) rfl ?_
  refine xgoto A (-178) 15 (by decide +kernel) ?_
  refine xweak (ls' := [some (.ref 12), none, some (.ref 45), some (.int l3), some (.int (l4 + 1)), some (.int (l5 + 1)), none, none, none, none]) (by exact ⟨rfl, ⟨rfl, ⟨rfl, ⟨rfl, ⟨rfl, trivial⟩⟩⟩⟩⟩) ?_
  exact hk15 _ _ _ _ H
set_option maxRecDepth 20000 in
theorem t_X2_answer_12_45_15 {k : xK} {S : List xSh} {out : Int32 × xG} (hS : xpf SH1 S) (A : xAt k mX2_answer.2.1 2 SH1 S) (hR : xRet k 0 0 S (fun r g' => r = some (.int out.1) ∧ g' = out.2) mX2_answer.2.2.2) (hrm : xrm k = { frames := 1, cells := 0, slots := 0, locals := 22 }) (hz : xhs k = xb0 k + S.length)   : ∀ (n : Nat) (l3 : Int32) (l4 : Int32) (l5 : Int32) (g : xG), f_X2_answer_12_45_15 n l3 l4 l5 g = some out → xW k S 0 0 15 [some (.ref 12), none, some (.ref 45), some (.int l3), some (.int l4), some (.int l5), none, none, none, none] [] g := by
  intro n
  induction n with
  | zero => intro l3 l4 l5 g H; exact absurd H (by simp [f_X2_answer_12_45_15])
  | succ n ih =>
    intro l3 l4 l5 g H
    have H : (if 408 ≤ l5 then
  some (0, g)
else
  if (xat g 13 408 l3) = 1 then
    f_X2_answer_12_45_58 (f_X2_answer_12_45_15 n) (l3 + 1) l4 l5 (xat g 13 408 l3) (xat g 14 408 l3) g
  else
    if (xat g 13 408 l3) = 2 then
      f_X2_answer_12_45_58 (f_X2_answer_12_45_15 n) (l3 + 1) l4 l5 (xat g 13 408 l3) (xat g 14 408 l3) g
    else
      if (xat g 13 408 l3) = 0 then
        some (xat g 16 24 (l4 - 1), g)
      else
        if (xat g 13 408 l3) = 3 then
          if (xat g 16 24 (l4 - 2)) < (xat g 16 24 (l4 - 1)) then
            f_X2_answer_12_45_15 n (l3 + 1) (l4 + (-2)) (l5 + 1) g
          else
            f_X2_answer_12_45_15 n (xat g 14 408 l3) (l4 + (-2)) (l5 + 1) g
        else
          if (xat g 13 408 l3) = 7 then
            if (xat g 16 24 (l4 - 1)) = 0 then
              some (0, g)
            else
              f_X2_answer_12_45_156 (f_X2_answer_12_45_15 n) (l3 + 1) (l4 + (-2)) l5 (xat g 13 408 l3) (xat g 16 24 (l4 - 1)) (xat g 16 24 (l4 - 2)) g
          else
            f_X2_answer_12_45_156 (f_X2_answer_12_45_15 n) (l3 + 1) (l4 + (-2)) l5 (xat g 13 408 l3) (xat g 16 24 (l4 - 1)) (xat g 16 24 (l4 - 2)) g) = some out := H
    refine xb A [(.iload 5, 2, 0, 0, .null), (.sipush 408, 3, 0, 0, .int 408)] (pc' := 20) (ls' := [some (.ref 12), none, some (.ref 45), some (.int l3), some (.int l4), some (.int l5), none, none, none, none]) (st' := [.int 408, .int l5]) (g' := g) (by decide +kernel) rfl ?_
    refine xic_ge A (176) 196 23 (by decide +kernel) (fun h1 => ?_) (fun h1 => ?_)
    · rw [if_pos h1] at H
      refine xb A [(.iconst 0, 1, 0, 0, .int 0)] (pc' := 197) (ls' := [some (.ref 12), none, some (.ref 45), some (.int l3), some (.int l4), some (.int l5), none, none, none, none]) (st' := [.int 0]) (g' := g) (by decide +kernel) rfl ?_
      obtain rfl := Option.some.inj H
      exact xret_i A hR hz (by decide +kernel) rfl ⟨rfl, rfl⟩
    · rw [if_neg h1] at H
      refine xb A [(.aload_n 0, 1, 0, 0, .null), (.getfield 13, 3, 12, 0, .ref 13), (.iload_n 3, 1, 0, 0, .null)] (pc' := 28) (ls' := [some (.ref 12), none, some (.ref 45), some (.int l3), some (.int l4), some (.int l5), none, none, none, none]) (st' := [.int l3, .ref 13]) (g' := g) (by decide +kernel) rfl ?_
      refine xcallSN A (ix := 46) (nxt := 31) (host := "NoonRinger") hrm hz [.ref 13, .int l3] [] 26 (c_X11_at (hS _ _ sh_13) (by decide)) ok_X11_at (by decide +kernel) rfl (fun r g1 hq => ?_)
      rw [hq.1, hq.2]
      show xW k S 0 0 31 [some (.ref 12), none, some (.ref 45), some (.int l3), some (.int l4), some (.int l5), none, none, none, none] [.int (xat g 13 408 l3)] g
      refine xb A [(.istore 6, 2, 0, 0, .null), (.aload_n 0, 1, 0, 0, .null), (.getfield 17, 3, 12, 1, .ref 14), (.iload_n 3, 1, 0, 0, .null)] (pc' := 38) (ls' := [some (.ref 12), none, some (.ref 45), some (.int l3), some (.int l4), some (.int l5), some (.int (xat g 13 408 l3)), none, none, none]) (st' := [.int l3, .ref 14]) (g' := g) (by decide +kernel) rfl ?_
      refine xcallSN A (ix := 46) (nxt := 41) (host := "NoonRinger") hrm hz [.ref 14, .int l3] [] 26 (c_X11_at (hS _ _ sh_14) (by decide)) ok_X11_at (by decide +kernel) rfl (fun r g1 hq => ?_)
      rw [hq.1, hq.2]
      show xW k S 0 0 41 [some (.ref 12), none, some (.ref 45), some (.int l3), some (.int l4), some (.int l5), some (.int (xat g 13 408 l3)), none, none, none] [.int (xat g 14 408 l3)] g
      refine xb A [(.istore 7, 2, 0, 0, .null), (.iinc 3 1, 3, 0, 0, .null), (.iload 6, 2, 0, 0, .null), (.iconst 1, 1, 0, 0, .int 1)] (pc' := 49) (ls' := [some (.ref 12), none, some (.ref 45), some (.int (l3 + 1)), some (.int l4), some (.int l5), some (.int (xat g 13 408 l3)), some (.int (xat g 14 408 l3)), none, none]) (st' := [.int 1, .int (xat g 13 408 l3)]) (g' := g) (by decide +kernel) rfl ?_
      refine xic_eq A (9) 58 52 (by decide +kernel) (fun h2 => ?_) (fun h2 => ?_)
      · rw [if_pos h2] at H
        exact t_X2_answer_12_45_58 hS A hR hrm hz ih _ _ _ _ _ _ H
      · rw [if_neg h2] at H
        refine xb A [(.iload 6, 2, 0, 0, .null), (.iconst 2, 1, 0, 0, .int 2)] (pc' := 55) (ls' := [some (.ref 12), none, some (.ref 45), some (.int (l3 + 1)), some (.int l4), some (.int l5), some (.int (xat g 13 408 l3)), some (.int (xat g 14 408 l3)), none, none]) (st' := [.int 2, .int (xat g 13 408 l3)]) (g' := g) (by decide +kernel) rfl ?_
        refine xic_ne A (35) 90 58 (by decide +kernel) (fun h4 => ?_) (fun h4 => ?_)
        · rw [if_neg h4] at H
          refine xb A [(.iload 6, 2, 0, 0, .null)] (pc' := 92) (ls' := [some (.ref 12), none, some (.ref 45), some (.int (l3 + 1)), some (.int l4), some (.int l5), some (.int (xat g 13 408 l3)), some (.int (xat g 14 408 l3)), none, none]) (st' := [.int (xat g 13 408 l3)]) (g' := g) (by decide +kernel) rfl ?_
          refine xif_ne A (15) 107 95 (by decide +kernel) (fun h5 => ?_) (fun h5 => ?_)
          · rw [if_neg h5] at H
            refine xb A [(.aload_n 0, 1, 0, 0, .null), (.getfield 23, 3, 12, 3, .ref 16), (.iload 4, 2, 0, 0, .null), (.iconst 1, 1, 0, 0, .int 1), (.isub, 1, 0, 0, .null)] (pc' := 115) (ls' := [some (.ref 12), none, some (.ref 45), some (.int (l3 + 1)), some (.int l4), some (.int l5), some (.int (xat g 13 408 l3)), some (.int (xat g 14 408 l3)), none, none]) (st' := [.int (l4 - 1), .ref 16]) (g' := g) (by decide +kernel) rfl ?_
            refine xcallSN A (ix := 46) (nxt := 118) (host := "NoonRinger") hrm hz [.ref 16, .int (l4 - 1)] [] 26 (c_X11_at (hS _ _ sh_16) (by decide)) ok_X11_at (by decide +kernel) rfl (fun r g1 hq => ?_)
            rw [hq.1, hq.2]
            show xW k S 0 0 118 [some (.ref 12), none, some (.ref 45), some (.int (l3 + 1)), some (.int l4), some (.int l5), some (.int (xat g 13 408 l3)), some (.int (xat g 14 408 l3)), none, none] [.int (xat g 16 24 (l4 - 1))] g
            refine xb A [(.istore 8, 2, 0, 0, .null), (.aload_n 0, 1, 0, 0, .null), (.getfield 23, 3, 12, 3, .ref 16), (.iload 4, 2, 0, 0, .null), (.iconst 2, 1, 0, 0, .int 2), (.isub, 1, 0, 0, .null)] (pc' := 128) (ls' := [some (.ref 12), none, some (.ref 45), some (.int (l3 + 1)), some (.int l4), some (.int l5), some (.int (xat g 13 408 l3)), some (.int (xat g 14 408 l3)), some (.int (xat g 16 24 (l4 - 1))), none]) (st' := [.int (l4 - 2), .ref 16]) (g' := g) (by decide +kernel) rfl ?_
            refine xcallSN A (ix := 46) (nxt := 131) (host := "NoonRinger") hrm hz [.ref 16, .int (l4 - 2)] [] 26 (c_X11_at (hS _ _ sh_16) (by decide)) ok_X11_at (by decide +kernel) rfl (fun r g1 hq => ?_)
            rw [hq.1, hq.2]
            show xW k S 0 0 131 [some (.ref 12), none, some (.ref 45), some (.int (l3 + 1)), some (.int l4), some (.int l5), some (.int (xat g 13 408 l3)), some (.int (xat g 14 408 l3)), some (.int (xat g 16 24 (l4 - 1))), none] [.int (xat g 16 24 (l4 - 2))] g
            refine xb A [(.istore 9, 2, 0, 0, .null), (.iinc 4 (-2), 3, 0, 0, .null), (.iload 6, 2, 0, 0, .null), (.iconst 3, 1, 0, 0, .int 3)] (pc' := 139) (ls' := [some (.ref 12), none, some (.ref 45), some (.int (l3 + 1)), some (.int (l4 + (-2))), some (.int l5), some (.int (xat g 13 408 l3)), some (.int (xat g 14 408 l3)), some (.int (xat g 16 24 (l4 - 1))), some (.int (xat g 16 24 (l4 - 2)))]) (st' := [.int 3, .int (xat g 13 408 l3)]) (g' := g) (by decide +kernel) rfl ?_
            refine xic_eq A (41) 180 142 (by decide +kernel) (fun h6 => ?_) (fun h6 => ?_)
            · rw [if_pos h6] at H
              refine xb A [(.iload 9, 2, 0, 0, .null), (.iload 8, 2, 0, 0, .null)] (pc' := 184) (ls' := [some (.ref 12), none, some (.ref 45), some (.int (l3 + 1)), some (.int (l4 + (-2))), some (.int l5), some (.int (xat g 13 408 l3)), some (.int (xat g 14 408 l3)), some (.int (xat g 16 24 (l4 - 1))), some (.int (xat g 16 24 (l4 - 2)))]) (st' := [.int (xat g 16 24 (l4 - 1)), .int (xat g 16 24 (l4 - 2))]) (g' := g) (by decide +kernel) rfl ?_
              refine xic_lt A (6) 190 187 (by decide +kernel) (fun h7 => ?_) (fun h7 => ?_)
              · rw [if_pos h7] at H
                refine xb A [(.iinc 5 1, 3, 0, 0, .null)] (pc' := 193) (ls' := [some (.ref 12), none, some (.ref 45), some (.int (l3 + 1)), some (.int (l4 + (-2))), some (.int (l5 + 1)), some (.int (xat g 13 408 l3)), some (.int (xat g 14 408 l3)), some (.int (xat g 16 24 (l4 - 1))), some (.int (xat g 16 24 (l4 - 2)))]) (st' := []) (g' := g) (by decide +kernel) rfl ?_
                refine xgoto A (-178) 15 (by decide +kernel) ?_
                refine xweak (ls' := [some (.ref 12), none, some (.ref 45), some (.int (l3 + 1)), some (.int (l4 + (-2))), some (.int (l5 + 1)), none, none, none, none]) (by exact ⟨rfl, ⟨rfl, ⟨rfl, ⟨rfl, ⟨rfl, trivial⟩⟩⟩⟩⟩) ?_
                exact ih _ _ _ _ H
              · rw [if_neg h7] at H
                refine xb A [(.iload 7, 2, 0, 0, .null), (.istore_n 3, 1, 0, 0, .null), (.iinc 5 1, 3, 0, 0, .null)] (pc' := 193) (ls' := [some (.ref 12), none, some (.ref 45), some (.int (xat g 14 408 l3)), some (.int (l4 + (-2))), some (.int (l5 + 1)), some (.int (xat g 13 408 l3)), some (.int (xat g 14 408 l3)), some (.int (xat g 16 24 (l4 - 1))), some (.int (xat g 16 24 (l4 - 2)))]) (st' := []) (g' := g) (by decide +kernel) rfl ?_
                refine xgoto A (-178) 15 (by decide +kernel) ?_
                refine xweak (ls' := [some (.ref 12), none, some (.ref 45), some (.int (xat g 14 408 l3)), some (.int (l4 + (-2))), some (.int (l5 + 1)), none, none, none, none]) (by exact ⟨rfl, ⟨rfl, ⟨rfl, ⟨rfl, ⟨rfl, trivial⟩⟩⟩⟩⟩) ?_
                exact ih _ _ _ _ H
            · rw [if_neg h6] at H
              refine xb A [(.iload 6, 2, 0, 0, .null), (.bipush 7, 2, 0, 0, .int 7)] (pc' := 146) (ls' := [some (.ref 12), none, some (.ref 45), some (.int (l3 + 1)), some (.int (l4 + (-2))), some (.int l5), some (.int (xat g 13 408 l3)), some (.int (xat g 14 408 l3)), some (.int (xat g 16 24 (l4 - 1))), some (.int (xat g 16 24 (l4 - 2)))]) (st' := [.int 7, .int (xat g 13 408 l3)]) (g' := g) (by decide +kernel) rfl ?_
              refine xic_ne A (10) 156 149 (by decide +kernel) (fun h8 => ?_) (fun h8 => ?_)
              · rw [if_neg h8] at H
                refine xweak (ls' := [some (.ref 12), none, some (.ref 45), some (.int (l3 + 1)), some (.int (l4 + (-2))), some (.int l5), some (.int (xat g 13 408 l3)), none, some (.int (xat g 16 24 (l4 - 1))), some (.int (xat g 16 24 (l4 - 2)))]) (by exact ⟨rfl, ⟨rfl, ⟨rfl, ⟨rfl, ⟨rfl, ⟨rfl, ⟨rfl, ⟨rfl, trivial⟩⟩⟩⟩⟩⟩⟩⟩) ?_
                exact t_X2_answer_12_45_156 hS A hR hrm hz ih _ _ _ _ _ _ _ H
              · rw [if_pos h8] at H
                refine xb A [(.iload 8, 2, 0, 0, .null)] (pc' := 151) (ls' := [some (.ref 12), none, some (.ref 45), some (.int (l3 + 1)), some (.int (l4 + (-2))), some (.int l5), some (.int (xat g 13 408 l3)), some (.int (xat g 14 408 l3)), some (.int (xat g 16 24 (l4 - 1))), some (.int (xat g 16 24 (l4 - 2)))]) (st' := [.int (xat g 16 24 (l4 - 1))]) (g' := g) (by decide +kernel) rfl ?_
                refine xif_ne A (5) 156 154 (by decide +kernel) (fun h9 => ?_) (fun h9 => ?_)
                · rw [if_neg h9] at H
                  refine xweak (ls' := [some (.ref 12), none, some (.ref 45), some (.int (l3 + 1)), some (.int (l4 + (-2))), some (.int l5), some (.int (xat g 13 408 l3)), none, some (.int (xat g 16 24 (l4 - 1))), some (.int (xat g 16 24 (l4 - 2)))]) (by exact ⟨rfl, ⟨rfl, ⟨rfl, ⟨rfl, ⟨rfl, ⟨rfl, ⟨rfl, ⟨rfl, trivial⟩⟩⟩⟩⟩⟩⟩⟩) ?_
                  exact t_X2_answer_12_45_156 hS A hR hrm hz ih _ _ _ _ _ _ _ H
                · rw [if_pos h9] at H
                  refine xb A [(.iconst 0, 1, 0, 0, .int 0)] (pc' := 155) (ls' := [some (.ref 12), none, some (.ref 45), some (.int (l3 + 1)), some (.int (l4 + (-2))), some (.int l5), some (.int (xat g 13 408 l3)), some (.int (xat g 14 408 l3)), some (.int (xat g 16 24 (l4 - 1))), some (.int (xat g 16 24 (l4 - 2)))]) (st' := [.int 0]) (g' := g) (by decide +kernel) rfl ?_
                  obtain rfl := Option.some.inj H
                  exact xret_i A hR hz (by decide +kernel) rfl ⟨rfl, rfl⟩
          · rw [if_pos h5] at H
            refine xb A [(.aload_n 0, 1, 0, 0, .null), (.getfield 23, 3, 12, 3, .ref 16), (.iload 4, 2, 0, 0, .null), (.iconst 1, 1, 0, 0, .int 1), (.isub, 1, 0, 0, .null)] (pc' := 103) (ls' := [some (.ref 12), none, some (.ref 45), some (.int (l3 + 1)), some (.int l4), some (.int l5), some (.int (xat g 13 408 l3)), some (.int (xat g 14 408 l3)), none, none]) (st' := [.int (l4 - 1), .ref 16]) (g' := g) (by decide +kernel) rfl ?_
            refine xcallSN A (ix := 46) (nxt := 106) (host := "NoonRinger") hrm hz [.ref 16, .int (l4 - 1)] [] 26 (c_X11_at (hS _ _ sh_16) (by decide)) ok_X11_at (by decide +kernel) rfl (fun r g1 hq => ?_)
            rw [hq.1, hq.2]
            show xW k S 0 0 106 [some (.ref 12), none, some (.ref 45), some (.int (l3 + 1)), some (.int l4), some (.int l5), some (.int (xat g 13 408 l3)), some (.int (xat g 14 408 l3)), none, none] [.int (xat g 16 24 (l4 - 1))] g
            obtain rfl := Option.some.inj H
            exact xret_i A hR hz (by decide +kernel) rfl ⟨rfl, rfl⟩
        · rw [if_pos h4] at H
          exact t_X2_answer_12_45_58 hS A hR hrm hz ih _ _ _ _ _ _ H
set_option maxRecDepth 20000 in
theorem c_X2_answer_12_45 {S : List xSh} (hS : xpf SH1 S) {g : xG} {p1 : Int32} (out : Int32 × xG) (H : f_X2_answer_12_45 p1 g = some out) : xC mX2_answer 1 22 0 0 S [.ref 12, .int p1, .ref 45] g S (fun r g' => r = some (.int out.1) ∧ g' = out.2) := by
  have H : (f_X2_answer_12_45_15 xN (xat g 15 4 p1) 0 0 g) = some out := H
  refine xC.of 2 SH1 [some (.ref 12), some (.int p1), some (.ref 45), none, none, none, none, none, none, none] hS (by decide +kernel) rfl (fun _ _ => Nat.le_of_ble_eq_true rfl) (fun _ _ => rfl) ?_
  intro k A hR hrm hz
  refine xb A [(.aload_n 0, 1, 0, 0, .null), (.getfield 20, 3, 12, 2, .ref 15), (.iload_n 1, 1, 0, 0, .null)] (pc' := 5) (ls' := [some (.ref 12), some (.int p1), some (.ref 45), none, none, none, none, none, none, none]) (st' := [.int p1, .ref 15]) (g' := g) (by decide +kernel) rfl ?_
  refine xcallSN A (ix := 46) (nxt := 8) (host := "NoonRinger") hrm hz [.ref 15, .int p1] [] 26 (c_X11_at (hS _ _ sh_15) (by decide)) ok_X11_at (by decide +kernel) rfl (fun r g1 hq => ?_)
  rw [hq.1, hq.2]
  show xW k S 0 0 8 [some (.ref 12), some (.int p1), some (.ref 45), none, none, none, none, none, none, none] [.int (xat g 15 4 p1)] g
  refine xb A [(.istore_n 3, 1, 0, 0, .null), (.iconst 0, 1, 0, 0, .int 0), (.istore 4, 2, 0, 0, .null), (.iconst 0, 1, 0, 0, .int 0), (.istore 5, 2, 0, 0, .null)] (pc' := 15) (ls' := [some (.ref 12), some (.int p1), some (.ref 45), some (.int (xat g 15 4 p1)), some (.int 0), some (.int 0), none, none, none, none]) (st' := []) (g' := g) (by decide +kernel) rfl ?_
  refine xweak (ls' := [some (.ref 12), none, some (.ref 45), some (.int (xat g 15 4 p1)), some (.int 0), some (.int 0), none, none, none, none]) (by exact ⟨rfl, ⟨rfl, ⟨rfl, ⟨rfl, ⟨rfl, trivial⟩⟩⟩⟩⟩) ?_
  exact t_X2_answer_12_45_15 hS A hR hrm hz _ _ _ _ _ H
def f_J9_min_7cf53 (p0 : Int32) (p1 : Int32) (g : xG) : Int32 :=
  if p1 < p0 then
    p1
  else
    p0
set_option maxRecDepth 20000 in
theorem c_J9_min_7cf53 {S : List xSh} (hS : xpf SH1 S) {g : xG} {p0 : Int32} {p1 : Int32} (out : Int32) (H : f_J9_min_7cf53 p0 p1 g = out) : xC mJ9_min_7cf53 0 0 0 0 S [.int p0, .int p1] g S (fun r g' => r = some (.int out) ∧ g' = g) := by
  have H : (if p1 < p0 then
  p1
else
  p0) = out := H
  refine xC.of 16 SH1 [some (.int p0), some (.int p1)] hS (by decide +kernel) rfl (fun _ _ => Nat.le_of_ble_eq_true rfl) (fun _ _ => rfl) ?_
  intro k A hR hrm hz
  refine xb A [(.iload_n 0, 1, 0, 0, .null), (.iload_n 1, 1, 0, 0, .null)] (pc' := 2) (ls' := [some (.int p0), some (.int p1)]) (st' := [.int p1, .int p0]) (g' := g) (by decide +kernel) rfl ?_
  refine xic_gt A (7) 9 5 (by decide +kernel) (fun h1 => ?_) (fun h1 => ?_)
  · rw [if_pos h1] at H
    refine xb A [(.iload_n 1, 1, 0, 0, .null)] (pc' := 10) (ls' := [some (.int p0), some (.int p1)]) (st' := [.int p1]) (g' := g) (by decide +kernel) rfl ?_
    subst H
    exact xret_i A hR hz (by decide +kernel) rfl ⟨rfl, rfl⟩
  · rw [if_neg h1] at H
    refine xb A [(.iload_n 0, 1, 0, 0, .null)] (pc' := 6) (ls' := [some (.int p0), some (.int p1)]) (st' := [.int p0]) (g' := g) (by decide +kernel) rfl ?_
    refine xgoto A (4) 10 (by decide +kernel) ?_
    subst H
    exact xret_i A hR hz (by decide +kernel) rfl ⟨rfl, rfl⟩
def f_J9_max_7cf53 (p0 : Int32) (p1 : Int32) (g : xG) : Int32 :=
  if p0 < p1 then
    p1
  else
    p0
set_option maxRecDepth 20000 in
theorem c_J9_max_7cf53 {S : List xSh} (hS : xpf SH1 S) {g : xG} {p0 : Int32} {p1 : Int32} (out : Int32) (H : f_J9_max_7cf53 p0 p1 g = out) : xC mJ9_max_7cf53 0 0 0 0 S [.int p0, .int p1] g S (fun r g' => r = some (.int out) ∧ g' = g) := by
  have H : (if p0 < p1 then
  p1
else
  p0) = out := H
  refine xC.of 16 SH1 [some (.int p0), some (.int p1)] hS (by decide +kernel) rfl (fun _ _ => Nat.le_of_ble_eq_true rfl) (fun _ _ => rfl) ?_
  intro k A hR hrm hz
  refine xb A [(.iload_n 0, 1, 0, 0, .null), (.iload_n 1, 1, 0, 0, .null)] (pc' := 2) (ls' := [some (.int p0), some (.int p1)]) (st' := [.int p1, .int p0]) (g' := g) (by decide +kernel) rfl ?_
  refine xic_lt A (7) 9 5 (by decide +kernel) (fun h1 => ?_) (fun h1 => ?_)
  · rw [if_pos h1] at H
    refine xb A [(.iload_n 1, 1, 0, 0, .null)] (pc' := 10) (ls' := [some (.int p0), some (.int p1)]) (st' := [.int p1]) (g' := g) (by decide +kernel) rfl ?_
    subst H
    exact xret_i A hR hz (by decide +kernel) rfl ⟨rfl, rfl⟩
  · rw [if_neg h1] at H
    refine xb A [(.iload_n 0, 1, 0, 0, .null)] (pc' := 6) (ls' := [some (.int p0), some (.int p1)]) (st' := [.int p0]) (g' := g) (by decide +kernel) rfl ?_
    refine xgoto A (4) 10 (by decide +kernel) ?_
    subst H
    exact xret_i A hR hz (by decide +kernel) rfl ⟨rfl, rfl⟩
def f_X1_heldTo (p0 : Int32) (p1 : Int32) (g : xG) : Int32 :=
  f_J9_max_7cf53 0 (f_J9_min_7cf53 p0 p1 g) g
set_option maxRecDepth 20000 in
theorem c_X1_heldTo {S : List xSh} (hS : xpf SH1 S) {g : xG} {p0 : Int32} {p1 : Int32} (out : Int32) (H : f_X1_heldTo p0 p1 g = out) : xC mX1_heldTo 1 21 0 0 S [.int p0, .int p1] g S (fun r g' => r = some (.int out) ∧ g' = g) := by
  have H : (f_J9_max_7cf53 0 (f_J9_min_7cf53 p0 p1 g) g) = out := H
  refine xC.of 1 SH1 [some (.int p0), some (.int p1)] hS (by decide +kernel) rfl (fun _ _ => Nat.le_of_ble_eq_true rfl) (fun _ _ => rfl) ?_
  intro k A hR hrm hz
  refine xb A [(.iconst 0, 1, 0, 0, .int 0), (.iload_n 0, 1, 0, 0, .null), (.iload_n 1, 1, 0, 0, .null)] (pc' := 3) (ls' := [some (.int p0), some (.int p1)]) (st' := [.int p1, .int p0, .int 0]) (g' := g) (by decide +kernel) rfl ?_
  refine xcallS A (ix := 85) (nxt := 6) hrm hz [.int p0, .int p1] [.int 0] 995 (c_J9_min_7cf53 hS _ rfl) ok_J9_min_7cf53 (by decide +kernel) rfl (fun r g1 hq => ?_)
  rw [hq.1, hq.2]
  show xW k S 0 0 6 [some (.int p0), some (.int p1)] [.int (f_J9_min_7cf53 p0 p1 g), .int 0] g
  refine xcallS A (ix := 90) (nxt := 9) hrm hz [.int 0, .int (f_J9_min_7cf53 p0 p1 g)] [] 996 (c_J9_max_7cf53 hS _ rfl) ok_J9_max_7cf53 (by decide +kernel) rfl (fun r g1 hq => ?_)
  rw [hq.1, hq.2]
  show xW k S 0 0 9 [some (.int p0), some (.int p1)] [.int (f_J9_max_7cf53 0 (f_J9_min_7cf53 p0 p1 g) g)] g
  subst H
  exact xret_i A hR hz (by decide +kernel) rfl ⟨rfl, rfl⟩
def f_X1_lawFrom_44_48 (p2 : Int32) (p3 : Int32) (p4 : Int32) (g : xG) : Option (Int32 × xG) :=
  xl (xput g 45 9 0 (f_X10_between_38 p3 (f_X4_capital_3 g) g)) fun w1 =>
  xl (xput w1 45 9 1 (f_X6_of_48 p2 17 w1)) fun w2 =>
  xl (xput w2 45 9 2 (f_X4_honestyOf_3 p2 w2)) fun w3 =>
  xl (xput w3 45 9 3 (f_X6_of_48 p2 23 w3)) fun w4 =>
  xl (xput w4 45 9 4 (f_X6_get_48 0 w4)) fun w5 =>
  xl (xput w5 45 9 5 p2) fun w6 =>
  xl (xput w6 45 9 6 0) fun w7 =>
  (f_X6_peopleIn_48 (f_X4_capital_3 w7) (f_X4_people_3 w7) w7).bind fun w8 =>
  xl (xput w7 45 9 7 (f_J6_bitCount_0f7a4 w8 w7)) fun w9 =>
  xl (xput w9 45 9 8 (f_X6_of_48 p2 29 w9)) fun w10 =>
  (f_X2_answer_12_45 0 w10).bind fun w11 =>
  if p4 = 0 then
    some (f_X1_heldTo (f_X2_mostOf 0 w10) w11.1 w11.2, w11.2)
  else
    xl (xput w11.2 45 9 6 (f_X1_heldTo (f_X2_mostOf 0 w10) w11.1 w11.2)) fun w12 =>
    (f_X2_answer_12_45 p4 w12).bind fun w13 =>
    some (f_X1_heldTo (f_X2_mostOf p4 w12) w13.1 w13.2, w13.2)
set_option maxRecDepth 20000 in
theorem c_X1_lawFrom_44_48 {S : List xSh} (hS : xpf SH1 S) {g : xG} {p2 : Int32} {p3 : Int32} {p4 : Int32} (out : Int32 × xG) (H : f_X1_lawFrom_44_48 p2 p3 p4 g = some out) : xC mX1_lawFrom 2 51 0 0 S [.ref 44, .ref 48, .int p2, .int p3, .int p4] g S (fun r g' => r = some (.int out.1) ∧ g' = out.2) := by
  have H : (xl (xput g 45 9 0 (f_X10_between_38 p3 (f_X4_capital_3 g) g)) fun w1 =>
xl (xput w1 45 9 1 (f_X6_of_48 p2 17 w1)) fun w2 =>
xl (xput w2 45 9 2 (f_X4_honestyOf_3 p2 w2)) fun w3 =>
xl (xput w3 45 9 3 (f_X6_of_48 p2 23 w3)) fun w4 =>
xl (xput w4 45 9 4 (f_X6_get_48 0 w4)) fun w5 =>
xl (xput w5 45 9 5 p2) fun w6 =>
xl (xput w6 45 9 6 0) fun w7 =>
(f_X6_peopleIn_48 (f_X4_capital_3 w7) (f_X4_people_3 w7) w7).bind fun w8 =>
xl (xput w7 45 9 7 (f_J6_bitCount_0f7a4 w8 w7)) fun w9 =>
xl (xput w9 45 9 8 (f_X6_of_48 p2 29 w9)) fun w10 =>
(f_X2_answer_12_45 0 w10).bind fun w11 =>
if p4 = 0 then
  some (f_X1_heldTo (f_X2_mostOf 0 w10) w11.1 w11.2, w11.2)
else
  xl (xput w11.2 45 9 6 (f_X1_heldTo (f_X2_mostOf 0 w10) w11.1 w11.2)) fun w12 =>
  (f_X2_answer_12_45 p4 w12).bind fun w13 =>
  some (f_X1_heldTo (f_X2_mostOf p4 w12) w13.1 w13.2, w13.2)) = some out := H
  refine xC.of 1 SH1 [some (.ref 44), some (.ref 48), some (.int p2), some (.int p3), some (.int p4), none] hS (by decide +kernel) rfl (fun _ _ => Nat.le_of_ble_eq_true rfl) (fun _ _ => rfl) ?_
  intro k A hR hrm hz
  refine xb A [(.aload_n 0, 1, 0, 0, .null), (.getfield 11, 3, 44, 2, .ref 45), (.iconst 0, 1, 0, 0, .int 0), (.aload_n 0, 1, 0, 0, .null), (.getfield 21, 3, 44, 1, .ref 38), (.iload_n 3, 1, 0, 0, .null), (.aload_n 0, 1, 0, 0, .null), (.getfield 17, 3, 44, 0, .ref 3)] (pc' := 14) (ls' := [some (.ref 44), some (.ref 48), some (.int p2), some (.int p3), some (.int p4), none]) (st' := [.ref 3, .int p3, .ref 38, .int 0, .ref 45]) (g' := g) (by decide +kernel) rfl ?_
  refine xcallV A (ix := 31) (nxt := 17) hrm hz [] [.int p3, .ref 38, .int 0, .ref 45] 958 (c_X4_capital_3 hS _ rfl) ok_X4_capital (by decide +kernel) rfl (fun r g1 hq => ?_)
  rw [hq.1, hq.2]
  show xW k S 0 0 17 [some (.ref 44), some (.ref 48), some (.int p2), some (.int p3), some (.int p4), none] [.int (f_X4_capital_3 g), .int p3, .ref 38, .int 0, .ref 45] g
  refine xcallV A (ix := 35) (nxt := 20) hrm hz [.int p3, .int (f_X4_capital_3 g)] [.int 0, .ref 45] 959 (c_X10_between_38 hS _ rfl) ok_X10_between (by decide +kernel) rfl (fun r g1 hq => ?_)
  rw [hq.1, hq.2]
  show xW k S 0 0 20 [some (.ref 44), some (.ref 48), some (.int p2), some (.int p3), some (.int p4), none] [.int (f_X10_between_38 p3 (f_X4_capital_3 g) g), .int 0, .ref 45] g
  obtain ⟨w1, e1, H⟩ := xl_elim H
  refine xcallSN A (ix := 45) (nxt := 23) (host := "NoonRinger") hrm hz [.ref 45, .int 0, .int (f_X10_between_38 p3 (f_X4_capital_3 g) g)] [] 25 (c_X11_put (hS _ _ sh_45) (by decide)) ok_X11_put (by decide +kernel) rfl (fun r g1 hq => ?_)
  rw [hq.1, hq.2]
  rw [e1]
  show xW k S 0 0 23 [some (.ref 44), some (.ref 48), some (.int p2), some (.int p3), some (.int p4), none] [] w1
  refine xb A [(.aload_n 0, 1, 0, 0, .null), (.getfield 11, 3, 44, 2, .ref 45), (.iconst 1, 1, 0, 0, .int 1), (.aload_n 1, 1, 0, 0, .null), (.iload_n 2, 1, 0, 0, .null), (.bipush 17, 2, 0, 0, .int 17)] (pc' := 32) (ls' := [some (.ref 44), some (.ref 48), some (.int p2), some (.int p3), some (.int p4), none]) (st' := [.int 17, .int p2, .ref 48, .int 1, .ref 45]) (g' := w1) (by decide +kernel) rfl ?_
  refine xcallV A (ix := 51) (nxt := 35) hrm hz [.int p2, .int 17] [.int 1, .ref 45] 969 (c_X6_of_48 hS _ rfl) ok_X6_of (by decide +kernel) rfl (fun r g1 hq => ?_)
  rw [hq.1, hq.2]
  show xW k S 0 0 35 [some (.ref 44), some (.ref 48), some (.int p2), some (.int p3), some (.int p4), none] [.int (f_X6_of_48 p2 17 w1), .int 1, .ref 45] w1
  obtain ⟨w2, e2, H⟩ := xl_elim H
  refine xcallSN A (ix := 45) (nxt := 38) (host := "NoonRinger") hrm hz [.ref 45, .int 1, .int (f_X6_of_48 p2 17 w1)] [] 25 (c_X11_put (hS _ _ sh_45) (by decide)) ok_X11_put (by decide +kernel) rfl (fun r g1 hq => ?_)
  rw [hq.1, hq.2]
  rw [e2]
  show xW k S 0 0 38 [some (.ref 44), some (.ref 48), some (.int p2), some (.int p3), some (.int p4), none] [] w2
  refine xb A [(.aload_n 0, 1, 0, 0, .null), (.getfield 11, 3, 44, 2, .ref 45), (.iconst 2, 1, 0, 0, .int 2), (.aload_n 0, 1, 0, 0, .null), (.getfield 17, 3, 44, 0, .ref 3), (.iload_n 2, 1, 0, 0, .null)] (pc' := 48) (ls' := [some (.ref 44), some (.ref 48), some (.int p2), some (.int p3), some (.int p4), none]) (st' := [.int p2, .ref 3, .int 2, .ref 45]) (g' := w2) (by decide +kernel) rfl ?_
  refine xcallV A (ix := 54) (nxt := 51) hrm hz [.int p2] [.int 2, .ref 45] 970 (c_X4_honestyOf_3 hS _ rfl) ok_X4_honestyOf (by decide +kernel) rfl (fun r g1 hq => ?_)
  rw [hq.1, hq.2]
  show xW k S 0 0 51 [some (.ref 44), some (.ref 48), some (.int p2), some (.int p3), some (.int p4), none] [.int (f_X4_honestyOf_3 p2 w2), .int 2, .ref 45] w2
  obtain ⟨w3, e3, H⟩ := xl_elim H
  refine xcallSN A (ix := 45) (nxt := 54) (host := "NoonRinger") hrm hz [.ref 45, .int 2, .int (f_X4_honestyOf_3 p2 w2)] [] 25 (c_X11_put (hS _ _ sh_45) (by decide)) ok_X11_put (by decide +kernel) rfl (fun r g1 hq => ?_)
  rw [hq.1, hq.2]
  rw [e3]
  show xW k S 0 0 54 [some (.ref 44), some (.ref 48), some (.int p2), some (.int p3), some (.int p4), none] [] w3
  refine xb A [(.aload_n 0, 1, 0, 0, .null), (.getfield 11, 3, 44, 2, .ref 45), (.iconst 3, 1, 0, 0, .int 3), (.aload_n 1, 1, 0, 0, .null), (.iload_n 2, 1, 0, 0, .null), (.bipush 23, 2, 0, 0, .int 23)] (pc' := 63) (ls' := [some (.ref 44), some (.ref 48), some (.int p2), some (.int p3), some (.int p4), none]) (st' := [.int 23, .int p2, .ref 48, .int 3, .ref 45]) (g' := w3) (by decide +kernel) rfl ?_
  refine xcallV A (ix := 51) (nxt := 66) hrm hz [.int p2, .int 23] [.int 3, .ref 45] 969 (c_X6_of_48 hS _ rfl) ok_X6_of (by decide +kernel) rfl (fun r g1 hq => ?_)
  rw [hq.1, hq.2]
  show xW k S 0 0 66 [some (.ref 44), some (.ref 48), some (.int p2), some (.int p3), some (.int p4), none] [.int (f_X6_of_48 p2 23 w3), .int 3, .ref 45] w3
  obtain ⟨w4, e4, H⟩ := xl_elim H
  refine xcallSN A (ix := 45) (nxt := 69) (host := "NoonRinger") hrm hz [.ref 45, .int 3, .int (f_X6_of_48 p2 23 w3)] [] 25 (c_X11_put (hS _ _ sh_45) (by decide)) ok_X11_put (by decide +kernel) rfl (fun r g1 hq => ?_)
  rw [hq.1, hq.2]
  rw [e4]
  show xW k S 0 0 69 [some (.ref 44), some (.ref 48), some (.int p2), some (.int p3), some (.int p4), none] [] w4
  refine xb A [(.aload_n 0, 1, 0, 0, .null), (.getfield 11, 3, 44, 2, .ref 45), (.iconst 4, 1, 0, 0, .int 4), (.aload_n 1, 1, 0, 0, .null), (.iconst 0, 1, 0, 0, .int 0)] (pc' := 76) (ls' := [some (.ref 44), some (.ref 48), some (.int p2), some (.int p3), some (.int p4), none]) (st' := [.int 0, .ref 48, .int 4, .ref 45]) (g' := w4) (by decide +kernel) rfl ?_
  refine xcallV A (ix := 57) (nxt := 79) hrm hz [.int 0] [.int 4, .ref 45] 971 (c_X6_get_48 hS _ rfl) ok_X6_get (by decide +kernel) rfl (fun r g1 hq => ?_)
  rw [hq.1, hq.2]
  show xW k S 0 0 79 [some (.ref 44), some (.ref 48), some (.int p2), some (.int p3), some (.int p4), none] [.int (f_X6_get_48 0 w4), .int 4, .ref 45] w4
  obtain ⟨w5, e5, H⟩ := xl_elim H
  refine xcallSN A (ix := 45) (nxt := 82) (host := "NoonRinger") hrm hz [.ref 45, .int 4, .int (f_X6_get_48 0 w4)] [] 25 (c_X11_put (hS _ _ sh_45) (by decide)) ok_X11_put (by decide +kernel) rfl (fun r g1 hq => ?_)
  rw [hq.1, hq.2]
  rw [e5]
  show xW k S 0 0 82 [some (.ref 44), some (.ref 48), some (.int p2), some (.int p3), some (.int p4), none] [] w5
  refine xb A [(.aload_n 0, 1, 0, 0, .null), (.getfield 11, 3, 44, 2, .ref 45), (.iconst 5, 1, 0, 0, .int 5), (.iload_n 2, 1, 0, 0, .null)] (pc' := 88) (ls' := [some (.ref 44), some (.ref 48), some (.int p2), some (.int p3), some (.int p4), none]) (st' := [.int p2, .int 5, .ref 45]) (g' := w5) (by decide +kernel) rfl ?_
  obtain ⟨w6, e6, H⟩ := xl_elim H
  refine xcallSN A (ix := 45) (nxt := 91) (host := "NoonRinger") hrm hz [.ref 45, .int 5, .int p2] [] 25 (c_X11_put (hS _ _ sh_45) (by decide)) ok_X11_put (by decide +kernel) rfl (fun r g1 hq => ?_)
  rw [hq.1, hq.2]
  rw [e6]
  show xW k S 0 0 91 [some (.ref 44), some (.ref 48), some (.int p2), some (.int p3), some (.int p4), none] [] w6
  refine xb A [(.aload_n 0, 1, 0, 0, .null), (.getfield 11, 3, 44, 2, .ref 45), (.bipush 6, 2, 0, 0, .int 6), (.iconst 0, 1, 0, 0, .int 0)] (pc' := 98) (ls' := [some (.ref 44), some (.ref 48), some (.int p2), some (.int p3), some (.int p4), none]) (st' := [.int 0, .int 6, .ref 45]) (g' := w6) (by decide +kernel) rfl ?_
  obtain ⟨w7, e7, H⟩ := xl_elim H
  refine xcallSN A (ix := 45) (nxt := 101) (host := "NoonRinger") hrm hz [.ref 45, .int 6, .int 0] [] 25 (c_X11_put (hS _ _ sh_45) (by decide)) ok_X11_put (by decide +kernel) rfl (fun r g1 hq => ?_)
  rw [hq.1, hq.2]
  rw [e7]
  show xW k S 0 0 101 [some (.ref 44), some (.ref 48), some (.int p2), some (.int p3), some (.int p4), none] [] w7
  refine xb A [(.aload_n 0, 1, 0, 0, .null), (.getfield 11, 3, 44, 2, .ref 45), (.bipush 7, 2, 0, 0, .int 7), (.aload_n 1, 1, 0, 0, .null), (.aload_n 0, 1, 0, 0, .null), (.getfield 17, 3, 44, 0, .ref 3)] (pc' := 112) (ls' := [some (.ref 44), some (.ref 48), some (.int p2), some (.int p3), some (.int p4), none]) (st' := [.ref 3, .ref 48, .int 7, .ref 45]) (g' := w7) (by decide +kernel) rfl ?_
  refine xcallV A (ix := 31) (nxt := 115) hrm hz [] [.ref 48, .int 7, .ref 45] 958 (c_X4_capital_3 hS _ rfl) ok_X4_capital (by decide +kernel) rfl (fun r g1 hq => ?_)
  rw [hq.1, hq.2]
  show xW k S 0 0 115 [some (.ref 44), some (.ref 48), some (.int p2), some (.int p3), some (.int p4), none] [.int (f_X4_capital_3 w7), .ref 48, .int 7, .ref 45] w7
  refine xb A [(.aload_n 0, 1, 0, 0, .null), (.getfield 17, 3, 44, 0, .ref 3)] (pc' := 119) (ls' := [some (.ref 44), some (.ref 48), some (.int p2), some (.int p3), some (.int p4), none]) (st' := [.ref 3, .int (f_X4_capital_3 w7), .ref 48, .int 7, .ref 45]) (g' := w7) (by decide +kernel) rfl ?_
  refine xcallV A (ix := 60) (nxt := 122) hrm hz [] [.int (f_X4_capital_3 w7), .ref 48, .int 7, .ref 45] 972 (c_X4_people_3 hS _ rfl) ok_X4_people (by decide +kernel) rfl (fun r g1 hq => ?_)
  rw [hq.1, hq.2]
  show xW k S 0 0 122 [some (.ref 44), some (.ref 48), some (.int p2), some (.int p3), some (.int p4), none] [.int (f_X4_people_3 w7), .int (f_X4_capital_3 w7), .ref 48, .int 7, .ref 45] w7
  obtain ⟨w8, e8, H⟩ := xbind H
  refine xcallV A (ix := 63) (nxt := 125) hrm hz [.int (f_X4_capital_3 w7), .int (f_X4_people_3 w7)] [.int 7, .ref 45] 973 (c_X6_peopleIn_48 hS _ e8) ok_X6_peopleIn (by decide +kernel) rfl (fun r g1 hq => ?_)
  rw [hq.1, hq.2]
  show xW k S 0 0 125 [some (.ref 44), some (.ref 48), some (.int p2), some (.int p3), some (.int p4), none] [.int w8, .int 7, .ref 45] w7
  refine xcallS A (ix := 66) (nxt := 128) hrm hz [.int w8] [.int 7, .ref 45] 974 (c_J6_bitCount_0f7a4 hS _ rfl) ok_J6_bitCount_0f7a4 (by decide +kernel) rfl (fun r g1 hq => ?_)
  rw [hq.1, hq.2]
  show xW k S 0 0 128 [some (.ref 44), some (.ref 48), some (.int p2), some (.int p3), some (.int p4), none] [.int (f_J6_bitCount_0f7a4 w8 w7), .int 7, .ref 45] w7
  obtain ⟨w9, e9, H⟩ := xl_elim H
  refine xcallSN A (ix := 45) (nxt := 131) (host := "NoonRinger") hrm hz [.ref 45, .int 7, .int (f_J6_bitCount_0f7a4 w8 w7)] [] 25 (c_X11_put (hS _ _ sh_45) (by decide)) ok_X11_put (by decide +kernel) rfl (fun r g1 hq => ?_)
  rw [hq.1, hq.2]
  rw [e9]
  show xW k S 0 0 131 [some (.ref 44), some (.ref 48), some (.int p2), some (.int p3), some (.int p4), none] [] w9
  refine xb A [(.aload_n 0, 1, 0, 0, .null), (.getfield 11, 3, 44, 2, .ref 45), (.bipush 8, 2, 0, 0, .int 8), (.aload_n 1, 1, 0, 0, .null), (.iload_n 2, 1, 0, 0, .null), (.bipush 29, 2, 0, 0, .int 29)] (pc' := 141) (ls' := [some (.ref 44), some (.ref 48), some (.int p2), some (.int p3), some (.int p4), none]) (st' := [.int 29, .int p2, .ref 48, .int 8, .ref 45]) (g' := w9) (by decide +kernel) rfl ?_
  refine xcallV A (ix := 51) (nxt := 144) hrm hz [.int p2, .int 29] [.int 8, .ref 45] 969 (c_X6_of_48 hS _ rfl) ok_X6_of (by decide +kernel) rfl (fun r g1 hq => ?_)
  rw [hq.1, hq.2]
  show xW k S 0 0 144 [some (.ref 44), some (.ref 48), some (.int p2), some (.int p3), some (.int p4), none] [.int (f_X6_of_48 p2 29 w9), .int 8, .ref 45] w9
  obtain ⟨w10, e10, H⟩ := xl_elim H
  refine xcallSN A (ix := 45) (nxt := 147) (host := "NoonRinger") hrm hz [.ref 45, .int 8, .int (f_X6_of_48 p2 29 w9)] [] 25 (c_X11_put (hS _ _ sh_45) (by decide)) ok_X11_put (by decide +kernel) rfl (fun r g1 hq => ?_)
  rw [hq.1, hq.2]
  rw [e10]
  show xW k S 0 0 147 [some (.ref 44), some (.ref 48), some (.int p2), some (.int p3), some (.int p4), none] [] w10
  refine xb A [(.iconst 0, 1, 0, 0, .int 0)] (pc' := 148) (ls' := [some (.ref 44), some (.ref 48), some (.int p2), some (.int p3), some (.int p4), none]) (st' := [.int 0]) (g' := w10) (by decide +kernel) rfl ?_
  refine xcallS A (ix := 71) (nxt := 151) hrm hz [.int 0] [] 980 (c_X2_mostOf hS _ rfl) ok_X2_mostOf (by decide +kernel) rfl (fun r g1 hq => ?_)
  rw [hq.1, hq.2]
  show xW k S 0 0 151 [some (.ref 44), some (.ref 48), some (.int p2), some (.int p3), some (.int p4), none] [.int (f_X2_mostOf 0 w10)] w10
  refine xb A [(.aload_n 0, 1, 0, 0, .null), (.getfield 17, 3, 44, 0, .ref 3)] (pc' := 155) (ls' := [some (.ref 44), some (.ref 48), some (.int p2), some (.int p3), some (.int p4), none]) (st' := [.ref 3, .int (f_X2_mostOf 0 w10)]) (g' := w10) (by decide +kernel) rfl ?_
  refine xcallV A (ix := 74) (nxt := 158) hrm hz [] [.int (f_X2_mostOf 0 w10)] 983 (c_X4_laws_3 hS) ok_X4_laws (by decide +kernel) rfl (fun r g1 hq => ?_)
  rw [hq.1, hq.2]
  show xW k S 0 0 158 [some (.ref 44), some (.ref 48), some (.int p2), some (.int p3), some (.int p4), none] [.ref 12, .int (f_X2_mostOf 0 w10)] w10
  refine xb A [(.iconst 0, 1, 0, 0, .int 0), (.aload_n 0, 1, 0, 0, .null), (.getfield 11, 3, 44, 2, .ref 45)] (pc' := 163) (ls' := [some (.ref 44), some (.ref 48), some (.int p2), some (.int p3), some (.int p4), none]) (st' := [.ref 45, .int 0, .ref 12, .int (f_X2_mostOf 0 w10)]) (g' := w10) (by decide +kernel) rfl ?_
  obtain ⟨w11, e11, H⟩ := xbind H
  refine xcallV A (ix := 78) (nxt := 166) hrm hz [.int 0, .ref 45] [.int (f_X2_mostOf 0 w10)] 984 (c_X2_answer_12_45 hS _ e11) ok_X2_answer (by decide +kernel) rfl (fun r g1 hq => ?_)
  rw [hq.1, hq.2]
  show xW k S 0 0 166 [some (.ref 44), some (.ref 48), some (.int p2), some (.int p3), some (.int p4), none] [.int w11.1, .int (f_X2_mostOf 0 w10)] w11.2
  refine xcallS A (ix := 82) (nxt := 169) hrm hz [.int (f_X2_mostOf 0 w10), .int w11.1] [] 992 (c_X1_heldTo hS _ rfl) ok_X1_heldTo (by decide +kernel) rfl (fun r g1 hq => ?_)
  rw [hq.1, hq.2]
  show xW k S 0 0 169 [some (.ref 44), some (.ref 48), some (.int p2), some (.int p3), some (.int p4), none] [.int (f_X1_heldTo (f_X2_mostOf 0 w10) w11.1 w11.2)] w11.2
  refine xb A [(.istore 5, 2, 0, 0, .null), (.iload 4, 2, 0, 0, .null)] (pc' := 173) (ls' := [some (.ref 44), some (.ref 48), some (.int p2), some (.int p3), some (.int p4), some (.int (f_X1_heldTo (f_X2_mostOf 0 w10) w11.1 w11.2))]) (st' := [.int p4]) (g' := w11.2) (by decide +kernel) rfl ?_
  refine xif_ne A (6) 179 176 (by decide +kernel) (fun h1 => ?_) (fun h1 => ?_)
  · rw [if_neg h1] at H
    refine xb A [(.aload_n 0, 1, 0, 0, .null), (.getfield 11, 3, 44, 2, .ref 45), (.bipush 6, 2, 0, 0, .int 6), (.iload 5, 2, 0, 0, .null)] (pc' := 187) (ls' := [some (.ref 44), some (.ref 48), some (.int p2), some (.int p3), some (.int p4), some (.int (f_X1_heldTo (f_X2_mostOf 0 w10) w11.1 w11.2))]) (st' := [.int (f_X1_heldTo (f_X2_mostOf 0 w10) w11.1 w11.2), .int 6, .ref 45]) (g' := w11.2) (by decide +kernel) rfl ?_
    obtain ⟨w12, e12, H⟩ := xl_elim H
    refine xcallSN A (ix := 45) (nxt := 190) (host := "NoonRinger") hrm hz [.ref 45, .int 6, .int (f_X1_heldTo (f_X2_mostOf 0 w10) w11.1 w11.2)] [] 25 (c_X11_put (hS _ _ sh_45) (by decide)) ok_X11_put (by decide +kernel) rfl (fun r g1 hq => ?_)
    rw [hq.1, hq.2]
    rw [e12]
    show xW k S 0 0 190 [some (.ref 44), some (.ref 48), some (.int p2), some (.int p3), some (.int p4), some (.int (f_X1_heldTo (f_X2_mostOf 0 w10) w11.1 w11.2))] [] w12
    refine xb A [(.iload 4, 2, 0, 0, .null)] (pc' := 192) (ls' := [some (.ref 44), some (.ref 48), some (.int p2), some (.int p3), some (.int p4), some (.int (f_X1_heldTo (f_X2_mostOf 0 w10) w11.1 w11.2))]) (st' := [.int p4]) (g' := w12) (by decide +kernel) rfl ?_
    refine xcallS A (ix := 71) (nxt := 195) hrm hz [.int p4] [] 980 (c_X2_mostOf hS _ rfl) ok_X2_mostOf (by decide +kernel) rfl (fun r g1 hq => ?_)
    rw [hq.1, hq.2]
    show xW k S 0 0 195 [some (.ref 44), some (.ref 48), some (.int p2), some (.int p3), some (.int p4), some (.int (f_X1_heldTo (f_X2_mostOf 0 w10) w11.1 w11.2))] [.int (f_X2_mostOf p4 w12)] w12
    refine xb A [(.aload_n 0, 1, 0, 0, .null), (.getfield 17, 3, 44, 0, .ref 3)] (pc' := 199) (ls' := [some (.ref 44), some (.ref 48), some (.int p2), some (.int p3), some (.int p4), some (.int (f_X1_heldTo (f_X2_mostOf 0 w10) w11.1 w11.2))]) (st' := [.ref 3, .int (f_X2_mostOf p4 w12)]) (g' := w12) (by decide +kernel) rfl ?_
    refine xcallV A (ix := 74) (nxt := 202) hrm hz [] [.int (f_X2_mostOf p4 w12)] 983 (c_X4_laws_3 hS) ok_X4_laws (by decide +kernel) rfl (fun r g1 hq => ?_)
    rw [hq.1, hq.2]
    show xW k S 0 0 202 [some (.ref 44), some (.ref 48), some (.int p2), some (.int p3), some (.int p4), some (.int (f_X1_heldTo (f_X2_mostOf 0 w10) w11.1 w11.2))] [.ref 12, .int (f_X2_mostOf p4 w12)] w12
    refine xb A [(.iload 4, 2, 0, 0, .null), (.aload_n 0, 1, 0, 0, .null), (.getfield 11, 3, 44, 2, .ref 45)] (pc' := 208) (ls' := [some (.ref 44), some (.ref 48), some (.int p2), some (.int p3), some (.int p4), some (.int (f_X1_heldTo (f_X2_mostOf 0 w10) w11.1 w11.2))]) (st' := [.ref 45, .int p4, .ref 12, .int (f_X2_mostOf p4 w12)]) (g' := w12) (by decide +kernel) rfl ?_
    obtain ⟨w13, e13, H⟩ := xbind H
    refine xcallV A (ix := 78) (nxt := 211) hrm hz [.int p4, .ref 45] [.int (f_X2_mostOf p4 w12)] 984 (c_X2_answer_12_45 hS _ e13) ok_X2_answer (by decide +kernel) rfl (fun r g1 hq => ?_)
    rw [hq.1, hq.2]
    show xW k S 0 0 211 [some (.ref 44), some (.ref 48), some (.int p2), some (.int p3), some (.int p4), some (.int (f_X1_heldTo (f_X2_mostOf 0 w10) w11.1 w11.2))] [.int w13.1, .int (f_X2_mostOf p4 w12)] w13.2
    refine xcallS A (ix := 82) (nxt := 214) hrm hz [.int (f_X2_mostOf p4 w12), .int w13.1] [] 992 (c_X1_heldTo hS _ rfl) ok_X1_heldTo (by decide +kernel) rfl (fun r g1 hq => ?_)
    rw [hq.1, hq.2]
    show xW k S 0 0 214 [some (.ref 44), some (.ref 48), some (.int p2), some (.int p3), some (.int p4), some (.int (f_X1_heldTo (f_X2_mostOf 0 w10) w11.1 w11.2))] [.int (f_X1_heldTo (f_X2_mostOf p4 w12) w13.1 w13.2)] w13.2
    obtain rfl := Option.some.inj H
    exact xret_i A hR hz (by decide +kernel) rfl ⟨rfl, rfl⟩
  · rw [if_pos h1] at H
    refine xb A [(.iload 5, 2, 0, 0, .null)] (pc' := 178) (ls' := [some (.ref 44), some (.ref 48), some (.int p2), some (.int p3), some (.int p4), some (.int (f_X1_heldTo (f_X2_mostOf 0 w10) w11.1 w11.2))]) (st' := [.int (f_X1_heldTo (f_X2_mostOf 0 w10) w11.1 w11.2)]) (g' := w11.2) (by decide +kernel) rfl ?_
    obtain rfl := Option.some.inj H
    exact xret_i A hR hz (by decide +kernel) rfl ⟨rfl, rfl⟩
