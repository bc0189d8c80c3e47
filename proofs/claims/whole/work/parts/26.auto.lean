/-! methods, walked by program -/
def fp_X6_copyFrom_50_48 : List (Nat × Option Nat) := [(51, none)]
def f_X6_copyFrom_50_48  (g : xG) : xG :=
  xl (xcopy g 49 51 35) fun w1 =>
  w1
set_option maxRecDepth 20000 in
theorem c_X6_copyFrom_50_48 {S : List xSh} (hS : xpf SH1 S) {g : xG}  (out : xG) (H : f_X6_copyFrom_50_48  g = out) : xC mX6_copyFrom 1 22 0 0 S [.ref 50, .ref 48] g S (fun r g' => r = none ∧ g' = out) := by
  have H : (xl (xcopy g 49 51 35) fun w1 =>
w1) = out := H
  refine xC.of 6 SH1 [some (.ref 50), some (.ref 48)] hS (by decide +kernel) rfl (fun _ _ => Nat.le_of_ble_eq_true rfl) (fun _ _ => rfl) ?_
  intro k A hR hrm hz
  refine xb A [(.aload_n 1, 1, 0, 0, .null), (.getfield 11, 3, 48, 0, .ref 49), (.aload_n 0, 1, 0, 0, .null), (.getfield 11, 3, 50, 0, .ref 51)] (pc' := 8) (ls' := [some (.ref 50), some (.ref 48)]) (st' := [.ref 51, .ref 49]) (g' := g) (by decide +kernel) rfl ?_
  obtain ⟨w1, e1, H⟩ := xl_elim H
  refine xcallSN A (ix := 41) (nxt := 11) (host := "NoonRinger") hrm hz [.ref 49, .ref 51] [] 32 (c_X11_copyAll (hS _ _ sh_49) (hS _ _ sh_51) (by decide) (by decide)) ok_X11_copyAll (by decide +kernel) rfl (fun r g1 hq => ?_)
  rw [hq.1, hq.2]
  rw [e1]
  show xW k S 0 0 11 [some (.ref 50), some (.ref 48)] [] w1
  subst H
  exact xret_v A hR hz (by decide +kernel) ⟨rfl, rfl⟩
theorem fr_X6_copyFrom_50_48  {g : xG} (out : xG) (H : f_X6_copyFrom_50_48  g = out) : xfrm fp_X6_copyFrom_50_48 g (out) := by
  have H : (xl (xcopy g 49 51 35) fun w1 =>
w1) = out := H
  obtain ⟨w1, e1, H⟩ := xl_elim H
  have hf1 : xfrm fp_X6_copyFrom_50_48 g (w1) := xfrm_xcopy xfrm.rf rfl e1
  subst H
  exact hf1
def f_X6_of_50 (p1 : Int32) (p2 : Int32) (g : xG) : Int32 :=
  xat g 51 35 (p2 + p1)
set_option maxRecDepth 20000 in
theorem c_X6_of_50 {S : List xSh} (hS : xpf SH1 S) {g : xG} {p1 : Int32} {p2 : Int32} (out : Int32) (H : f_X6_of_50 p1 p2 g = out) : xC mX6_of 1 21 0 0 S [.ref 50, .int p1, .int p2] g S (fun r g' => r = some (.int out) ∧ g' = g) := by
  have H : (xat g 51 35 (p2 + p1)) = out := H
  refine xC.of 6 SH1 [some (.ref 50), some (.int p1), some (.int p2)] hS (by decide +kernel) rfl (fun _ _ => Nat.le_of_ble_eq_true rfl) (fun _ _ => rfl) ?_
  intro k A hR hrm hz
  refine xb A [(.aload_n 0, 1, 0, 0, .null), (.getfield 11, 3, 50, 0, .ref 51), (.iload_n 2, 1, 0, 0, .null), (.iload_n 1, 1, 0, 0, .null), (.iadd, 1, 0, 0, .null)] (pc' := 7) (ls' := [some (.ref 50), some (.int p1), some (.int p2)]) (st' := [.int (p2 + p1), .ref 51]) (g' := g) (by decide +kernel) rfl ?_
  refine xcallSN A (ix := 15) (nxt := 10) (host := "NoonRinger") hrm hz [.ref 51, .int (p2 + p1)] [] 9 (c_X11_at (hS _ _ sh_51) (by decide)) ok_X11_at (by decide +kernel) rfl (fun r g1 hq => ?_)
  rw [hq.1, hq.2]
  show xW k S 0 0 10 [some (.ref 50), some (.int p1), some (.int p2)] [.int (xat g 51 35 (p2 + p1))] g
  subst H
  exact xret_i A hR hz (by decide +kernel) rfl ⟨rfl, rfl⟩
def f_X6_get_50 (p1 : Int32) (g : xG) : Int32 :=
  xat g 51 35 p1
set_option maxRecDepth 20000 in
theorem c_X6_get_50 {S : List xSh} (hS : xpf SH1 S) {g : xG} {p1 : Int32} (out : Int32) (H : f_X6_get_50 p1 g = out) : xC mX6_get 1 21 0 0 S [.ref 50, .int p1] g S (fun r g' => r = some (.int out) ∧ g' = g) := by
  have H : (xat g 51 35 p1) = out := H
  refine xC.of 6 SH1 [some (.ref 50), some (.int p1)] hS (by decide +kernel) rfl (fun _ _ => Nat.le_of_ble_eq_true rfl) (fun _ _ => rfl) ?_
  intro k A hR hrm hz
  refine xb A [(.aload_n 0, 1, 0, 0, .null), (.getfield 11, 3, 50, 0, .ref 51), (.iload_n 1, 1, 0, 0, .null)] (pc' := 5) (ls' := [some (.ref 50), some (.int p1)]) (st' := [.int p1, .ref 51]) (g' := g) (by decide +kernel) rfl ?_
  refine xcallSN A (ix := 15) (nxt := 8) (host := "NoonRinger") hrm hz [.ref 51, .int p1] [] 9 (c_X11_at (hS _ _ sh_51) (by decide)) ok_X11_at (by decide +kernel) rfl (fun r g1 hq => ?_)
  rw [hq.1, hq.2]
  show xW k S 0 0 8 [some (.ref 50), some (.int p1)] [.int (xat g 51 35 p1)] g
  subst H
  exact xret_i A hR hz (by decide +kernel) rfl ⟨rfl, rfl⟩
def f_X6_isBarred_50 (p1 : Int32) (g : xG) : Int32 :=
  if ((f_X6_get_50 3 g) &&& (f_X11_bit p1)) = 0 then
    0
  else
    1
set_option maxRecDepth 20000 in
theorem c_X6_isBarred_50 {S : List xSh} (hS : xpf SH1 S) {g : xG} {p1 : Int32} (out : Int32) (H : f_X6_isBarred_50 p1 g = out) : xC mX6_isBarred 2 42 0 0 S [.ref 50, .int p1] g S (fun r g' => r = some (.int out) ∧ g' = g) := by
  have H : (if ((f_X6_get_50 3 g) &&& (f_X11_bit p1)) = 0 then
  0
else
  1) = out := H
  refine xC.of 6 SH1 [some (.ref 50), some (.int p1)] hS (by decide +kernel) rfl (fun _ _ => Nat.le_of_ble_eq_true rfl) (fun _ _ => rfl) ?_
  intro k A hR hrm hz
  refine xb A [(.aload_n 0, 1, 0, 0, .null), (.iconst 3, 1, 0, 0, .int 3)] (pc' := 2) (ls' := [some (.ref 50), some (.int p1)]) (st' := [.int 3, .ref 50]) (g' := g) (by decide +kernel) rfl ?_
  refine xcallV A (ix := 45) (nxt := 5) hrm hz [.int 3] [] 952 (c_X6_get_50 hS _ rfl) ok_X6_get (by decide +kernel) rfl (fun r g1 hq => ?_)
  rw [hq.1, hq.2]
  show xW k S 0 0 5 [some (.ref 50), some (.int p1)] [.int (f_X6_get_50 3 g)] g
  refine xb A [(.iload_n 1, 1, 0, 0, .null)] (pc' := 6) (ls' := [some (.ref 50), some (.int p1)]) (st' := [.int p1, .int (f_X6_get_50 3 g)]) (g' := g) (by decide +kernel) rfl ?_
  refine xcallSN A (ix := 48) (nxt := 9) (host := "NoonRinger") hrm hz [.int p1] [.int (f_X6_get_50 3 g)] 24 (c_X11_bit hS _ rfl) ok_X11_bit (by decide +kernel) rfl (fun r g1 hq => ?_)
  rw [hq.1, hq.2]
  show xW k S 0 0 9 [some (.ref 50), some (.int p1)] [.int (f_X11_bit p1), .int (f_X6_get_50 3 g)] g
  refine xb A [(.iand, 1, 0, 0, .null)] (pc' := 10) (ls' := [some (.ref 50), some (.int p1)]) (st' := [.int ((f_X6_get_50 3 g) &&& (f_X11_bit p1))]) (g' := g) (by decide +kernel) rfl ?_
  refine xif_eq A (7) 17 13 (by decide +kernel) (fun h1 => ?_) (fun h1 => ?_)
  · rw [if_pos h1] at H
    refine xb A [(.iconst 0, 1, 0, 0, .int 0)] (pc' := 18) (ls' := [some (.ref 50), some (.int p1)]) (st' := [.int 0]) (g' := g) (by decide +kernel) rfl ?_
    subst H
    exact xret_i A hR hz (by decide +kernel) rfl ⟨rfl, rfl⟩
  · rw [if_neg h1] at H
    refine xb A [(.iconst 1, 1, 0, 0, .int 1)] (pc' := 14) (ls' := [some (.ref 50), some (.int p1)]) (st' := [.int 1]) (g' := g) (by decide +kernel) rfl ?_
    refine xgoto A (4) 18 (by decide +kernel) ?_
    subst H
    exact xret_i A hR hz (by decide +kernel) rfl ⟨rfl, rfl⟩
def f_X1_mayRing_44_50 (p2 : Int32) (g : xG) : Int32 :=
  if (f_X6_of_50 p2 5 g) = (f_X4_capital_3 g) then
    if (f_X6_isBarred_50 p2 g) = 0 then
      1
    else
      0
  else
    0
set_option maxRecDepth 20000 in
theorem c_X1_mayRing_44_50 {S : List xSh} (hS : xpf SH1 S) {g : xG} {p2 : Int32} (out : Int32) (H : f_X1_mayRing_44_50 p2 g = out) : xC mX1_mayRing 3 63 0 0 S [.ref 44, .ref 50, .int p2] g S (fun r g' => r = some (.int out) ∧ g' = g) := by
  have H : (if (f_X6_of_50 p2 5 g) = (f_X4_capital_3 g) then
  if (f_X6_isBarred_50 p2 g) = 0 then
    1
  else
    0
else
  0) = out := H
  refine xC.of 1 SH1 [some (.ref 44), some (.ref 50), some (.int p2)] hS (by decide +kernel) rfl (fun _ _ => Nat.le_of_ble_eq_true rfl) (fun _ _ => rfl) ?_
  intro k A hR hrm hz
  refine xb A [(.aload_n 1, 1, 0, 0, .null), (.iload_n 2, 1, 0, 0, .null), (.iconst 5, 1, 0, 0, .int 5)] (pc' := 3) (ls' := [some (.ref 44), some (.ref 50), some (.int p2)]) (st' := [.int 5, .int p2, .ref 50]) (g' := g) (by decide +kernel) rfl ?_
  refine xcallV A (ix := 51) (nxt := 6) hrm hz [.int p2, .int 5] [] 969 (c_X6_of_50 hS _ rfl) ok_X6_of (by decide +kernel) rfl (fun r g1 hq => ?_)
  rw [hq.1, hq.2]
  show xW k S 0 0 6 [some (.ref 44), some (.ref 50), some (.int p2)] [.int (f_X6_of_50 p2 5 g)] g
  refine xb A [(.aload_n 0, 1, 0, 0, .null), (.getfield 17, 3, 44, 0, .ref 3)] (pc' := 10) (ls' := [some (.ref 44), some (.ref 50), some (.int p2)]) (st' := [.ref 3, .int (f_X6_of_50 p2 5 g)]) (g' := g) (by decide +kernel) rfl ?_
  refine xcallV A (ix := 31) (nxt := 13) hrm hz [] [.int (f_X6_of_50 p2 5 g)] 958 (c_X4_capital_3 hS _ rfl) ok_X4_capital (by decide +kernel) rfl (fun r g1 hq => ?_)
  rw [hq.1, hq.2]
  show xW k S 0 0 13 [some (.ref 44), some (.ref 50), some (.int p2)] [.int (f_X4_capital_3 g), .int (f_X6_of_50 p2 5 g)] g
  refine xic_ne A (15) 28 16 (by decide +kernel) (fun h1 => ?_) (fun h1 => ?_)
  · rw [if_neg h1] at H
    refine xb A [(.iconst 0, 1, 0, 0, .int 0)] (pc' := 29) (ls' := [some (.ref 44), some (.ref 50), some (.int p2)]) (st' := [.int 0]) (g' := g) (by decide +kernel) rfl ?_
    subst H
    exact xret_i A hR hz (by decide +kernel) rfl ⟨rfl, rfl⟩
  · rw [if_pos h1] at H
    refine xb A [(.aload_n 1, 1, 0, 0, .null), (.iload_n 2, 1, 0, 0, .null)] (pc' := 18) (ls' := [some (.ref 44), some (.ref 50), some (.int p2)]) (st' := [.int p2, .ref 50]) (g' := g) (by decide +kernel) rfl ?_
    refine xcallV A (ix := 104) (nxt := 21) hrm hz [.int p2] [] 1046 (c_X6_isBarred_50 hS _ rfl) ok_X6_isBarred (by decide +kernel) rfl (fun r g1 hq => ?_)
    rw [hq.1, hq.2]
    show xW k S 0 0 21 [some (.ref 44), some (.ref 50), some (.int p2)] [.int (f_X6_isBarred_50 p2 g)] g
    refine xif_ne A (7) 28 24 (by decide +kernel) (fun h2 => ?_) (fun h2 => ?_)
    · rw [if_neg h2] at H
      refine xb A [(.iconst 0, 1, 0, 0, .int 0)] (pc' := 29) (ls' := [some (.ref 44), some (.ref 50), some (.int p2)]) (st' := [.int 0]) (g' := g) (by decide +kernel) rfl ?_
      subst H
      exact xret_i A hR hz (by decide +kernel) rfl ⟨rfl, rfl⟩
    · rw [if_pos h2] at H
      refine xb A [(.iconst 1, 1, 0, 0, .int 1)] (pc' := 25) (ls' := [some (.ref 44), some (.ref 50), some (.int p2)]) (st' := [.int 1]) (g' := g) (by decide +kernel) rfl ?_
      refine xgoto A (4) 29 (by decide +kernel) ?_
      subst H
      exact xret_i A hR hz (by decide +kernel) rfl ⟨rfl, rfl⟩
def f_X6_peopleIn_50_5  (g : xG) : Nat → Int32 → Int32 → Int32 → Int32 → Option (Int32)
  | 0, _, _, _, _ => none
  | n + 1, l1, l2, l3, l4 =>
    if l2 ≤ l4 then
      some l3
    else
      if (xat g 51 35 (5 + l4)) = l1 then
        f_X6_peopleIn_50_5 g n l1 l2 (l3 ||| (f_X11_bit l4)) (l4 + 1)
      else
        f_X6_peopleIn_50_5 g n l1 l2 l3 (l4 + 1)
def f_X6_peopleIn_50 (p1 : Int32) (p2 : Int32) (g : xG) : Option (Int32) :=
  f_X6_peopleIn_50_5 g xN p1 p2 0 0
set_option maxRecDepth 20000 in
theorem t_X6_peopleIn_50_5 {k : xK} {S : List xSh} {g : xG} {out : Int32} (hS : xpf SH1 S) (A : xAt k mX6_peopleIn.2.1 6 SH1 S) (hR : xRet k 0 0 S (fun r g' => r = some (.int out) ∧ g' = g) mX6_peopleIn.2.2.2) (hrm : xrm k = { frames := 1, cells := 0, slots := 0, locals := 21 }) (hz : xhs k = xb0 k + S.length)   : ∀ (n : Nat) (l1 : Int32) (l2 : Int32) (l3 : Int32) (l4 : Int32), f_X6_peopleIn_50_5 g n l1 l2 l3 l4 = some out → xW k S 0 0 5 [some (.ref 50), some (.int l1), some (.int l2), some (.int l3), some (.int l4)] [] g := by
  intro n
  induction n with
  | zero => intro l1 l2 l3 l4 H; exact absurd H (by simp [f_X6_peopleIn_50_5])
  | succ n ih =>
    intro l1 l2 l3 l4 H
    have H : (if l2 ≤ l4 then
  some l3
else
  if (xat g 51 35 (5 + l4)) = l1 then
    f_X6_peopleIn_50_5 g n l1 l2 (l3 ||| (f_X11_bit l4)) (l4 + 1)
  else
    f_X6_peopleIn_50_5 g n l1 l2 l3 (l4 + 1)) = some out := H
    refine xb A [(.iload 4, 2, 0, 0, .null), (.iload_n 2, 1, 0, 0, .null)] (pc' := 8) (ls' := [some (.ref 50), some (.int l1), some (.int l2), some (.int l3), some (.int l4)]) (st' := [.int l2, .int l4]) (g' := g) (by decide +kernel) rfl ?_
    refine xic_ge A (32) 40 11 (by decide +kernel) (fun h1 => ?_) (fun h1 => ?_)
    · rw [if_pos h1] at H
      refine xb A [(.iload_n 3, 1, 0, 0, .null)] (pc' := 41) (ls' := [some (.ref 50), some (.int l1), some (.int l2), some (.int l3), some (.int l4)]) (st' := [.int l3]) (g' := g) (by decide +kernel) rfl ?_
      obtain rfl := Option.some.inj H
      exact xret_i A hR hz (by decide +kernel) rfl ⟨rfl, rfl⟩
    · rw [if_neg h1] at H
      refine xb A [(.aload_n 0, 1, 0, 0, .null), (.getfield 11, 3, 50, 0, .ref 51), (.iconst 5, 1, 0, 0, .int 5), (.iload 4, 2, 0, 0, .null), (.iadd, 1, 0, 0, .null)] (pc' := 19) (ls' := [some (.ref 50), some (.int l1), some (.int l2), some (.int l3), some (.int l4)]) (st' := [.int (5 + l4), .ref 51]) (g' := g) (by decide +kernel) rfl ?_
      refine xcallSN A (ix := 15) (nxt := 22) (host := "NoonRinger") hrm hz [.ref 51, .int (5 + l4)] [] 9 (c_X11_at (hS _ _ sh_51) (by decide)) ok_X11_at (by decide +kernel) rfl (fun r g1 hq => ?_)
      rw [hq.1, hq.2]
      show xW k S 0 0 22 [some (.ref 50), some (.int l1), some (.int l2), some (.int l3), some (.int l4)] [.int (xat g 51 35 (5 + l4))] g
      refine xb A [(.iload_n 1, 1, 0, 0, .null)] (pc' := 23) (ls' := [some (.ref 50), some (.int l1), some (.int l2), some (.int l3), some (.int l4)]) (st' := [.int l1, .int (xat g 51 35 (5 + l4))]) (g' := g) (by decide +kernel) rfl ?_
      refine xic_ne A (11) 34 26 (by decide +kernel) (fun h2 => ?_) (fun h2 => ?_)
      · rw [if_neg h2] at H
        refine xb A [(.iinc 4 1, 3, 0, 0, .null)] (pc' := 37) (ls' := [some (.ref 50), some (.int l1), some (.int l2), some (.int l3), some (.int (l4 + 1))]) (st' := []) (g' := g) (by decide +kernel) rfl ?_
        refine xgoto A (-32) 5 (by decide +kernel) ?_
        exact ih _ _ _ _ H
      · rw [if_pos h2] at H
        refine xb A [(.iload_n 3, 1, 0, 0, .null), (.iload 4, 2, 0, 0, .null)] (pc' := 29) (ls' := [some (.ref 50), some (.int l1), some (.int l2), some (.int l3), some (.int l4)]) (st' := [.int l4, .int l3]) (g' := g) (by decide +kernel) rfl ?_
        refine xcallSN A (ix := 48) (nxt := 32) (host := "NoonRinger") hrm hz [.int l4] [.int l3] 24 (c_X11_bit hS _ rfl) ok_X11_bit (by decide +kernel) rfl (fun r g1 hq => ?_)
        rw [hq.1, hq.2]
        show xW k S 0 0 32 [some (.ref 50), some (.int l1), some (.int l2), some (.int l3), some (.int l4)] [.int (f_X11_bit l4), .int l3] g
        refine xb A [(.ior, 1, 0, 0, .null), (.istore_n 3, 1, 0, 0, .null), (.iinc 4 1, 3, 0, 0, .null)] (pc' := 37) (ls' := [some (.ref 50), some (.int l1), some (.int l2), some (.int (l3 ||| (f_X11_bit l4))), some (.int (l4 + 1))]) (st' := []) (g' := g) (by decide +kernel) rfl ?_
        refine xgoto A (-32) 5 (by decide +kernel) ?_
        exact ih _ _ _ _ H
set_option maxRecDepth 20000 in
theorem c_X6_peopleIn_50 {S : List xSh} (hS : xpf SH1 S) {g : xG} {p1 : Int32} {p2 : Int32} (out : Int32) (H : f_X6_peopleIn_50 p1 p2 g = some out) : xC mX6_peopleIn 1 21 0 0 S [.ref 50, .int p1, .int p2] g S (fun r g' => r = some (.int out) ∧ g' = g) := by
  have H : (f_X6_peopleIn_50_5 g xN p1 p2 0 0) = some out := H
  refine xC.of 6 SH1 [some (.ref 50), some (.int p1), some (.int p2), none, none] hS (by decide +kernel) rfl (fun _ _ => Nat.le_of_ble_eq_true rfl) (fun _ _ => rfl) ?_
  intro k A hR hrm hz
  refine xb A [(.iconst 0, 1, 0, 0, .int 0), (.istore_n 3, 1, 0, 0, .null), (.iconst 0, 1, 0, 0, .int 0), (.istore 4, 2, 0, 0, .null)] (pc' := 5) (ls' := [some (.ref 50), some (.int p1), some (.int p2), some (.int 0), some (.int 0)]) (st' := []) (g' := g) (by decide +kernel) rfl ?_
  exact t_X6_peopleIn_50_5 hS A hR hrm hz _ _ _ _ _ H
def fp_X1_lawFrom_44_50 : List (Nat × Option Nat) := [(16, none), (45, none)]
def f_X1_lawFrom_44_50 (p2 : Int32) (p3 : Int32) (p4 : Int32) (g : xG) : Option (Int32 × xG) :=
  xl (xput g 45 9 0 (f_X10_between_38 p3 (f_X4_capital_3 g) g)) fun w1 =>
  xl (xput w1 45 9 1 (f_X6_of_50 p2 17 w1)) fun w2 =>
  xl (xput w2 45 9 2 (f_X4_honestyOf_3 p2 w2)) fun w3 =>
  xl (xput w3 45 9 3 (f_X6_of_50 p2 23 w3)) fun w4 =>
  xl (xput w4 45 9 4 (f_X6_get_50 0 w4)) fun w5 =>
  xl (xput w5 45 9 5 p2) fun w6 =>
  xl (xput w6 45 9 6 0) fun w7 =>
  (f_X6_peopleIn_50 (f_X4_capital_3 w7) (f_X4_people_3 w7) w7).bind fun w8 =>
  xl (xput w7 45 9 7 (f_J6_bitCount_0f7a4 w8)) fun w9 =>
  xl (xput w9 45 9 8 (f_X6_of_50 p2 29 w9)) fun w10 =>
  (f_X2_answer_12_45 0 w10).bind fun w11 =>
  if p4 = 0 then
    some (f_X1_heldTo (f_X2_mostOf 0) w11.1, w11.2)
  else
    xl (xput w11.2 45 9 6 (f_X1_heldTo (f_X2_mostOf 0) w11.1)) fun w12 =>
    (f_X2_answer_12_45 p4 w12).bind fun w13 =>
    some (f_X1_heldTo (f_X2_mostOf p4) w13.1, w13.2)
set_option maxRecDepth 20000 in
theorem c_X1_lawFrom_44_50 {S : List xSh} (hS : xpf SH1 S) {g : xG} {p2 : Int32} {p3 : Int32} {p4 : Int32} (out : Int32 × xG) (H : f_X1_lawFrom_44_50 p2 p3 p4 g = some out) : xC mX1_lawFrom 2 51 0 0 S [.ref 44, .ref 50, .int p2, .int p3, .int p4] g S (fun r g' => r = some (.int out.1) ∧ g' = out.2) := by
  have H : (xl (xput g 45 9 0 (f_X10_between_38 p3 (f_X4_capital_3 g) g)) fun w1 =>
xl (xput w1 45 9 1 (f_X6_of_50 p2 17 w1)) fun w2 =>
xl (xput w2 45 9 2 (f_X4_honestyOf_3 p2 w2)) fun w3 =>
xl (xput w3 45 9 3 (f_X6_of_50 p2 23 w3)) fun w4 =>
xl (xput w4 45 9 4 (f_X6_get_50 0 w4)) fun w5 =>
xl (xput w5 45 9 5 p2) fun w6 =>
xl (xput w6 45 9 6 0) fun w7 =>
(f_X6_peopleIn_50 (f_X4_capital_3 w7) (f_X4_people_3 w7) w7).bind fun w8 =>
xl (xput w7 45 9 7 (f_J6_bitCount_0f7a4 w8)) fun w9 =>
xl (xput w9 45 9 8 (f_X6_of_50 p2 29 w9)) fun w10 =>
(f_X2_answer_12_45 0 w10).bind fun w11 =>
if p4 = 0 then
  some (f_X1_heldTo (f_X2_mostOf 0) w11.1, w11.2)
else
  xl (xput w11.2 45 9 6 (f_X1_heldTo (f_X2_mostOf 0) w11.1)) fun w12 =>
  (f_X2_answer_12_45 p4 w12).bind fun w13 =>
  some (f_X1_heldTo (f_X2_mostOf p4) w13.1, w13.2)) = some out := H
  refine xC.of 1 SH1 [some (.ref 44), some (.ref 50), some (.int p2), some (.int p3), some (.int p4), none] hS (by decide +kernel) rfl (fun _ _ => Nat.le_of_ble_eq_true rfl) (fun _ _ => rfl) ?_
  intro k A hR hrm hz
  refine xb A [(.aload_n 0, 1, 0, 0, .null), (.getfield 11, 3, 44, 2, .ref 45), (.iconst 0, 1, 0, 0, .int 0), (.aload_n 0, 1, 0, 0, .null), (.getfield 21, 3, 44, 1, .ref 38), (.iload_n 3, 1, 0, 0, .null), (.aload_n 0, 1, 0, 0, .null), (.getfield 17, 3, 44, 0, .ref 3)] (pc' := 14) (ls' := [some (.ref 44), some (.ref 50), some (.int p2), some (.int p3), some (.int p4), none]) (st' := [.ref 3, .int p3, .ref 38, .int 0, .ref 45]) (g' := g) (by decide +kernel) rfl ?_
  refine xcallV A (ix := 31) (nxt := 17) hrm hz [] [.int p3, .ref 38, .int 0, .ref 45] 958 (c_X4_capital_3 hS _ rfl) ok_X4_capital (by decide +kernel) rfl (fun r g1 hq => ?_)
  rw [hq.1, hq.2]
  show xW k S 0 0 17 [some (.ref 44), some (.ref 50), some (.int p2), some (.int p3), some (.int p4), none] [.int (f_X4_capital_3 g), .int p3, .ref 38, .int 0, .ref 45] g
  refine xcallV A (ix := 35) (nxt := 20) hrm hz [.int p3, .int (f_X4_capital_3 g)] [.int 0, .ref 45] 959 (c_X10_between_38 hS _ rfl) ok_X10_between (by decide +kernel) rfl (fun r g1 hq => ?_)
  rw [hq.1, hq.2]
  show xW k S 0 0 20 [some (.ref 44), some (.ref 50), some (.int p2), some (.int p3), some (.int p4), none] [.int (f_X10_between_38 p3 (f_X4_capital_3 g) g), .int 0, .ref 45] g
  obtain ⟨w1, e1, H⟩ := xl_elim H
  refine xcallSN A (ix := 45) (nxt := 23) (host := "NoonRinger") hrm hz [.ref 45, .int 0, .int (f_X10_between_38 p3 (f_X4_capital_3 g) g)] [] 25 (c_X11_put (hS _ _ sh_45) (by decide)) ok_X11_put (by decide +kernel) rfl (fun r g1 hq => ?_)
  rw [hq.1, hq.2]
  rw [e1]
  show xW k S 0 0 23 [some (.ref 44), some (.ref 50), some (.int p2), some (.int p3), some (.int p4), none] [] w1
  refine xb A [(.aload_n 0, 1, 0, 0, .null), (.getfield 11, 3, 44, 2, .ref 45), (.iconst 1, 1, 0, 0, .int 1), (.aload_n 1, 1, 0, 0, .null), (.iload_n 2, 1, 0, 0, .null), (.bipush 17, 2, 0, 0, .int 17)] (pc' := 32) (ls' := [some (.ref 44), some (.ref 50), some (.int p2), some (.int p3), some (.int p4), none]) (st' := [.int 17, .int p2, .ref 50, .int 1, .ref 45]) (g' := w1) (by decide +kernel) rfl ?_
  refine xcallV A (ix := 51) (nxt := 35) hrm hz [.int p2, .int 17] [.int 1, .ref 45] 969 (c_X6_of_50 hS _ rfl) ok_X6_of (by decide +kernel) rfl (fun r g1 hq => ?_)
  rw [hq.1, hq.2]
  show xW k S 0 0 35 [some (.ref 44), some (.ref 50), some (.int p2), some (.int p3), some (.int p4), none] [.int (f_X6_of_50 p2 17 w1), .int 1, .ref 45] w1
  obtain ⟨w2, e2, H⟩ := xl_elim H
  refine xcallSN A (ix := 45) (nxt := 38) (host := "NoonRinger") hrm hz [.ref 45, .int 1, .int (f_X6_of_50 p2 17 w1)] [] 25 (c_X11_put (hS _ _ sh_45) (by decide)) ok_X11_put (by decide +kernel) rfl (fun r g1 hq => ?_)
  rw [hq.1, hq.2]
  rw [e2]
  show xW k S 0 0 38 [some (.ref 44), some (.ref 50), some (.int p2), some (.int p3), some (.int p4), none] [] w2
  refine xb A [(.aload_n 0, 1, 0, 0, .null), (.getfield 11, 3, 44, 2, .ref 45), (.iconst 2, 1, 0, 0, .int 2), (.aload_n 0, 1, 0, 0, .null), (.getfield 17, 3, 44, 0, .ref 3), (.iload_n 2, 1, 0, 0, .null)] (pc' := 48) (ls' := [some (.ref 44), some (.ref 50), some (.int p2), some (.int p3), some (.int p4), none]) (st' := [.int p2, .ref 3, .int 2, .ref 45]) (g' := w2) (by decide +kernel) rfl ?_
  refine xcallV A (ix := 54) (nxt := 51) hrm hz [.int p2] [.int 2, .ref 45] 970 (c_X4_honestyOf_3 hS _ rfl) ok_X4_honestyOf (by decide +kernel) rfl (fun r g1 hq => ?_)
  rw [hq.1, hq.2]
  show xW k S 0 0 51 [some (.ref 44), some (.ref 50), some (.int p2), some (.int p3), some (.int p4), none] [.int (f_X4_honestyOf_3 p2 w2), .int 2, .ref 45] w2
  obtain ⟨w3, e3, H⟩ := xl_elim H
  refine xcallSN A (ix := 45) (nxt := 54) (host := "NoonRinger") hrm hz [.ref 45, .int 2, .int (f_X4_honestyOf_3 p2 w2)] [] 25 (c_X11_put (hS _ _ sh_45) (by decide)) ok_X11_put (by decide +kernel) rfl (fun r g1 hq => ?_)
  rw [hq.1, hq.2]
  rw [e3]
  show xW k S 0 0 54 [some (.ref 44), some (.ref 50), some (.int p2), some (.int p3), some (.int p4), none] [] w3
  refine xb A [(.aload_n 0, 1, 0, 0, .null), (.getfield 11, 3, 44, 2, .ref 45), (.iconst 3, 1, 0, 0, .int 3), (.aload_n 1, 1, 0, 0, .null), (.iload_n 2, 1, 0, 0, .null), (.bipush 23, 2, 0, 0, .int 23)] (pc' := 63) (ls' := [some (.ref 44), some (.ref 50), some (.int p2), some (.int p3), some (.int p4), none]) (st' := [.int 23, .int p2, .ref 50, .int 3, .ref 45]) (g' := w3) (by decide +kernel) rfl ?_
  refine xcallV A (ix := 51) (nxt := 66) hrm hz [.int p2, .int 23] [.int 3, .ref 45] 969 (c_X6_of_50 hS _ rfl) ok_X6_of (by decide +kernel) rfl (fun r g1 hq => ?_)
  rw [hq.1, hq.2]
  show xW k S 0 0 66 [some (.ref 44), some (.ref 50), some (.int p2), some (.int p3), some (.int p4), none] [.int (f_X6_of_50 p2 23 w3), .int 3, .ref 45] w3
  obtain ⟨w4, e4, H⟩ := xl_elim H
  refine xcallSN A (ix := 45) (nxt := 69) (host := "NoonRinger") hrm hz [.ref 45, .int 3, .int (f_X6_of_50 p2 23 w3)] [] 25 (c_X11_put (hS _ _ sh_45) (by decide)) ok_X11_put (by decide +kernel) rfl (fun r g1 hq => ?_)
  rw [hq.1, hq.2]
  rw [e4]
  show xW k S 0 0 69 [some (.ref 44), some (.ref 50), some (.int p2), some (.int p3), some (.int p4), none] [] w4
  refine xb A [(.aload_n 0, 1, 0, 0, .null), (.getfield 11, 3, 44, 2, .ref 45), (.iconst 4, 1, 0, 0, .int 4), (.aload_n 1, 1, 0, 0, .null), (.iconst 0, 1, 0, 0, .int 0)] (pc' := 76) (ls' := [some (.ref 44), some (.ref 50), some (.int p2), some (.int p3), some (.int p4), none]) (st' := [.int 0, .ref 50, .int 4, .ref 45]) (g' := w4) (by decide +kernel) rfl ?_
  refine xcallV A (ix := 57) (nxt := 79) hrm hz [.int 0] [.int 4, .ref 45] 971 (c_X6_get_50 hS _ rfl) ok_X6_get (by decide +kernel) rfl (fun r g1 hq => ?_)
  rw [hq.1, hq.2]
  show xW k S 0 0 79 [some (.ref 44), some (.ref 50), some (.int p2), some (.int p3), some (.int p4), none] [.int (f_X6_get_50 0 w4), .int 4, .ref 45] w4
  obtain ⟨w5, e5, H⟩ := xl_elim H
  refine xcallSN A (ix := 45) (nxt := 82) (host := "NoonRinger") hrm hz [.ref 45, .int 4, .int (f_X6_get_50 0 w4)] [] 25 (c_X11_put (hS _ _ sh_45) (by decide)) ok_X11_put (by decide +kernel) rfl (fun r g1 hq => ?_)
  rw [hq.1, hq.2]
  rw [e5]
  show xW k S 0 0 82 [some (.ref 44), some (.ref 50), some (.int p2), some (.int p3), some (.int p4), none] [] w5
  refine xb A [(.aload_n 0, 1, 0, 0, .null), (.getfield 11, 3, 44, 2, .ref 45), (.iconst 5, 1, 0, 0, .int 5), (.iload_n 2, 1, 0, 0, .null)] (pc' := 88) (ls' := [some (.ref 44), some (.ref 50), some (.int p2), some (.int p3), some (.int p4), none]) (st' := [.int p2, .int 5, .ref 45]) (g' := w5) (by decide +kernel) rfl ?_
  obtain ⟨w6, e6, H⟩ := xl_elim H
  refine xcallSN A (ix := 45) (nxt := 91) (host := "NoonRinger") hrm hz [.ref 45, .int 5, .int p2] [] 25 (c_X11_put (hS _ _ sh_45) (by decide)) ok_X11_put (by decide +kernel) rfl (fun r g1 hq => ?_)
  rw [hq.1, hq.2]
  rw [e6]
  show xW k S 0 0 91 [some (.ref 44), some (.ref 50), some (.int p2), some (.int p3), some (.int p4), none] [] w6
  refine xb A [(.aload_n 0, 1, 0, 0, .null), (.getfield 11, 3, 44, 2, .ref 45), (.bipush 6, 2, 0, 0, .int 6), (.iconst 0, 1, 0, 0, .int 0)] (pc' := 98) (ls' := [some (.ref 44), some (.ref 50), some (.int p2), some (.int p3), some (.int p4), none]) (st' := [.int 0, .int 6, .ref 45]) (g' := w6) (by decide +kernel) rfl ?_
  obtain ⟨w7, e7, H⟩ := xl_elim H
  refine xcallSN A (ix := 45) (nxt := 101) (host := "NoonRinger") hrm hz [.ref 45, .int 6, .int 0] [] 25 (c_X11_put (hS _ _ sh_45) (by decide)) ok_X11_put (by decide +kernel) rfl (fun r g1 hq => ?_)
  rw [hq.1, hq.2]
  rw [e7]
  show xW k S 0 0 101 [some (.ref 44), some (.ref 50), some (.int p2), some (.int p3), some (.int p4), none] [] w7
  refine xb A [(.aload_n 0, 1, 0, 0, .null), (.getfield 11, 3, 44, 2, .ref 45), (.bipush 7, 2, 0, 0, .int 7), (.aload_n 1, 1, 0, 0, .null), (.aload_n 0, 1, 0, 0, .null), (.getfield 17, 3, 44, 0, .ref 3)] (pc' := 112) (ls' := [some (.ref 44), some (.ref 50), some (.int p2), some (.int p3), some (.int p4), none]) (st' := [.ref 3, .ref 50, .int 7, .ref 45]) (g' := w7) (by decide +kernel) rfl ?_
  refine xcallV A (ix := 31) (nxt := 115) hrm hz [] [.ref 50, .int 7, .ref 45] 958 (c_X4_capital_3 hS _ rfl) ok_X4_capital (by decide +kernel) rfl (fun r g1 hq => ?_)
  rw [hq.1, hq.2]
  show xW k S 0 0 115 [some (.ref 44), some (.ref 50), some (.int p2), some (.int p3), some (.int p4), none] [.int (f_X4_capital_3 w7), .ref 50, .int 7, .ref 45] w7
  refine xb A [(.aload_n 0, 1, 0, 0, .null), (.getfield 17, 3, 44, 0, .ref 3)] (pc' := 119) (ls' := [some (.ref 44), some (.ref 50), some (.int p2), some (.int p3), some (.int p4), none]) (st' := [.ref 3, .int (f_X4_capital_3 w7), .ref 50, .int 7, .ref 45]) (g' := w7) (by decide +kernel) rfl ?_
  refine xcallV A (ix := 60) (nxt := 122) hrm hz [] [.int (f_X4_capital_3 w7), .ref 50, .int 7, .ref 45] 972 (c_X4_people_3 hS _ rfl) ok_X4_people (by decide +kernel) rfl (fun r g1 hq => ?_)
  rw [hq.1, hq.2]
  show xW k S 0 0 122 [some (.ref 44), some (.ref 50), some (.int p2), some (.int p3), some (.int p4), none] [.int (f_X4_people_3 w7), .int (f_X4_capital_3 w7), .ref 50, .int 7, .ref 45] w7
  obtain ⟨w8, e8, H⟩ := xbind H
  refine xcallV A (ix := 63) (nxt := 125) hrm hz [.int (f_X4_capital_3 w7), .int (f_X4_people_3 w7)] [.int 7, .ref 45] 973 (c_X6_peopleIn_50 hS _ e8) ok_X6_peopleIn (by decide +kernel) rfl (fun r g1 hq => ?_)
  rw [hq.1, hq.2]
  show xW k S 0 0 125 [some (.ref 44), some (.ref 50), some (.int p2), some (.int p3), some (.int p4), none] [.int w8, .int 7, .ref 45] w7
  refine xcallS A (ix := 66) (nxt := 128) hrm hz [.int w8] [.int 7, .ref 45] 974 (c_J6_bitCount_0f7a4 hS _ rfl) ok_J6_bitCount_0f7a4 (by decide +kernel) rfl (fun r g1 hq => ?_)
  rw [hq.1, hq.2]
  show xW k S 0 0 128 [some (.ref 44), some (.ref 50), some (.int p2), some (.int p3), some (.int p4), none] [.int (f_J6_bitCount_0f7a4 w8), .int 7, .ref 45] w7
  obtain ⟨w9, e9, H⟩ := xl_elim H
  refine xcallSN A (ix := 45) (nxt := 131) (host := "NoonRinger") hrm hz [.ref 45, .int 7, .int (f_J6_bitCount_0f7a4 w8)] [] 25 (c_X11_put (hS _ _ sh_45) (by decide)) ok_X11_put (by decide +kernel) rfl (fun r g1 hq => ?_)
  rw [hq.1, hq.2]
  rw [e9]
  show xW k S 0 0 131 [some (.ref 44), some (.ref 50), some (.int p2), some (.int p3), some (.int p4), none] [] w9
  refine xb A [(.aload_n 0, 1, 0, 0, .null), (.getfield 11, 3, 44, 2, .ref 45), (.bipush 8, 2, 0, 0, .int 8), (.aload_n 1, 1, 0, 0, .null), (.iload_n 2, 1, 0, 0, .null), (.bipush 29, 2, 0, 0, .int 29)] (pc' := 141) (ls' := [some (.ref 44), some (.ref 50), some (.int p2), some (.int p3), some (.int p4), none]) (st' := [.int 29, .int p2, .ref 50, .int 8, .ref 45]) (g' := w9) (by decide +kernel) rfl ?_
  refine xcallV A (ix := 51) (nxt := 144) hrm hz [.int p2, .int 29] [.int 8, .ref 45] 969 (c_X6_of_50 hS _ rfl) ok_X6_of (by decide +kernel) rfl (fun r g1 hq => ?_)
  rw [hq.1, hq.2]
  show xW k S 0 0 144 [some (.ref 44), some (.ref 50), some (.int p2), some (.int p3), some (.int p4), none] [.int (f_X6_of_50 p2 29 w9), .int 8, .ref 45] w9
  obtain ⟨w10, e10, H⟩ := xl_elim H
  refine xcallSN A (ix := 45) (nxt := 147) (host := "NoonRinger") hrm hz [.ref 45, .int 8, .int (f_X6_of_50 p2 29 w9)] [] 25 (c_X11_put (hS _ _ sh_45) (by decide)) ok_X11_put (by decide +kernel) rfl (fun r g1 hq => ?_)
  rw [hq.1, hq.2]
  rw [e10]
  show xW k S 0 0 147 [some (.ref 44), some (.ref 50), some (.int p2), some (.int p3), some (.int p4), none] [] w10
  refine xb A [(.iconst 0, 1, 0, 0, .int 0)] (pc' := 148) (ls' := [some (.ref 44), some (.ref 50), some (.int p2), some (.int p3), some (.int p4), none]) (st' := [.int 0]) (g' := w10) (by decide +kernel) rfl ?_
  refine xcallS A (ix := 71) (nxt := 151) hrm hz [.int 0] [] 980 (c_X2_mostOf hS _ rfl) ok_X2_mostOf (by decide +kernel) rfl (fun r g1 hq => ?_)
  rw [hq.1, hq.2]
  show xW k S 0 0 151 [some (.ref 44), some (.ref 50), some (.int p2), some (.int p3), some (.int p4), none] [.int (f_X2_mostOf 0)] w10
  refine xb A [(.aload_n 0, 1, 0, 0, .null), (.getfield 17, 3, 44, 0, .ref 3)] (pc' := 155) (ls' := [some (.ref 44), some (.ref 50), some (.int p2), some (.int p3), some (.int p4), none]) (st' := [.ref 3, .int (f_X2_mostOf 0)]) (g' := w10) (by decide +kernel) rfl ?_
  refine xcallV A (ix := 74) (nxt := 158) hrm hz [] [.int (f_X2_mostOf 0)] 983 (c_X4_laws_3 hS) ok_X4_laws (by decide +kernel) rfl (fun r g1 hq => ?_)
  rw [hq.1, hq.2]
  show xW k S 0 0 158 [some (.ref 44), some (.ref 50), some (.int p2), some (.int p3), some (.int p4), none] [.ref 12, .int (f_X2_mostOf 0)] w10
  refine xb A [(.iconst 0, 1, 0, 0, .int 0), (.aload_n 0, 1, 0, 0, .null), (.getfield 11, 3, 44, 2, .ref 45)] (pc' := 163) (ls' := [some (.ref 44), some (.ref 50), some (.int p2), some (.int p3), some (.int p4), none]) (st' := [.ref 45, .int 0, .ref 12, .int (f_X2_mostOf 0)]) (g' := w10) (by decide +kernel) rfl ?_
  obtain ⟨w11, e11, H⟩ := xbind H
  refine xcallV A (ix := 78) (nxt := 166) hrm hz [.int 0, .ref 45] [.int (f_X2_mostOf 0)] 984 (c_X2_answer_12_45 hS _ e11) ok_X2_answer (by decide +kernel) rfl (fun r g1 hq => ?_)
  rw [hq.1, hq.2]
  show xW k S 0 0 166 [some (.ref 44), some (.ref 50), some (.int p2), some (.int p3), some (.int p4), none] [.int w11.1, .int (f_X2_mostOf 0)] w11.2
  refine xcallS A (ix := 82) (nxt := 169) hrm hz [.int (f_X2_mostOf 0), .int w11.1] [] 992 (c_X1_heldTo hS _ rfl) ok_X1_heldTo (by decide +kernel) rfl (fun r g1 hq => ?_)
  rw [hq.1, hq.2]
  show xW k S 0 0 169 [some (.ref 44), some (.ref 50), some (.int p2), some (.int p3), some (.int p4), none] [.int (f_X1_heldTo (f_X2_mostOf 0) w11.1)] w11.2
  refine xb A [(.istore 5, 2, 0, 0, .null), (.iload 4, 2, 0, 0, .null)] (pc' := 173) (ls' := [some (.ref 44), some (.ref 50), some (.int p2), some (.int p3), some (.int p4), some (.int (f_X1_heldTo (f_X2_mostOf 0) w11.1))]) (st' := [.int p4]) (g' := w11.2) (by decide +kernel) rfl ?_
  refine xif_ne A (6) 179 176 (by decide +kernel) (fun h1 => ?_) (fun h1 => ?_)
  · rw [if_neg h1] at H
    refine xb A [(.aload_n 0, 1, 0, 0, .null), (.getfield 11, 3, 44, 2, .ref 45), (.bipush 6, 2, 0, 0, .int 6), (.iload 5, 2, 0, 0, .null)] (pc' := 187) (ls' := [some (.ref 44), some (.ref 50), some (.int p2), some (.int p3), some (.int p4), some (.int (f_X1_heldTo (f_X2_mostOf 0) w11.1))]) (st' := [.int (f_X1_heldTo (f_X2_mostOf 0) w11.1), .int 6, .ref 45]) (g' := w11.2) (by decide +kernel) rfl ?_
    obtain ⟨w12, e12, H⟩ := xl_elim H
    refine xcallSN A (ix := 45) (nxt := 190) (host := "NoonRinger") hrm hz [.ref 45, .int 6, .int (f_X1_heldTo (f_X2_mostOf 0) w11.1)] [] 25 (c_X11_put (hS _ _ sh_45) (by decide)) ok_X11_put (by decide +kernel) rfl (fun r g1 hq => ?_)
    rw [hq.1, hq.2]
    rw [e12]
    show xW k S 0 0 190 [some (.ref 44), some (.ref 50), some (.int p2), some (.int p3), some (.int p4), some (.int (f_X1_heldTo (f_X2_mostOf 0) w11.1))] [] w12
    refine xb A [(.iload 4, 2, 0, 0, .null)] (pc' := 192) (ls' := [some (.ref 44), some (.ref 50), some (.int p2), some (.int p3), some (.int p4), some (.int (f_X1_heldTo (f_X2_mostOf 0) w11.1))]) (st' := [.int p4]) (g' := w12) (by decide +kernel) rfl ?_
    refine xcallS A (ix := 71) (nxt := 195) hrm hz [.int p4] [] 980 (c_X2_mostOf hS _ rfl) ok_X2_mostOf (by decide +kernel) rfl (fun r g1 hq => ?_)
    rw [hq.1, hq.2]
    show xW k S 0 0 195 [some (.ref 44), some (.ref 50), some (.int p2), some (.int p3), some (.int p4), some (.int (f_X1_heldTo (f_X2_mostOf 0) w11.1))] [.int (f_X2_mostOf p4)] w12
    refine xb A [(.aload_n 0, 1, 0, 0, .null), (.getfield 17, 3, 44, 0, .ref 3)] (pc' := 199) (ls' := [some (.ref 44), some (.ref 50), some (.int p2), some (.int p3), some (.int p4), some (.int (f_X1_heldTo (f_X2_mostOf 0) w11.1))]) (st' := [.ref 3, .int (f_X2_mostOf p4)]) (g' := w12) (by decide +kernel) rfl ?_
    refine xcallV A (ix := 74) (nxt := 202) hrm hz [] [.int (f_X2_mostOf p4)] 983 (c_X4_laws_3 hS) ok_X4_laws (by decide +kernel) rfl (fun r g1 hq => ?_)
    rw [hq.1, hq.2]
    show xW k S 0 0 202 [some (.ref 44), some (.ref 50), some (.int p2), some (.int p3), some (.int p4), some (.int (f_X1_heldTo (f_X2_mostOf 0) w11.1))] [.ref 12, .int (f_X2_mostOf p4)] w12
    refine xb A [(.iload 4, 2, 0, 0, .null), (.aload_n 0, 1, 0, 0, .null), (.getfield 11, 3, 44, 2, .ref 45)] (pc' := 208) (ls' := [some (.ref 44), some (.ref 50), some (.int p2), some (.int p3), some (.int p4), some (.int (f_X1_heldTo (f_X2_mostOf 0) w11.1))]) (st' := [.ref 45, .int p4, .ref 12, .int (f_X2_mostOf p4)]) (g' := w12) (by decide +kernel) rfl ?_
    obtain ⟨w13, e13, H⟩ := xbind H
    refine xcallV A (ix := 78) (nxt := 211) hrm hz [.int p4, .ref 45] [.int (f_X2_mostOf p4)] 984 (c_X2_answer_12_45 hS _ e13) ok_X2_answer (by decide +kernel) rfl (fun r g1 hq => ?_)
    rw [hq.1, hq.2]
    show xW k S 0 0 211 [some (.ref 44), some (.ref 50), some (.int p2), some (.int p3), some (.int p4), some (.int (f_X1_heldTo (f_X2_mostOf 0) w11.1))] [.int w13.1, .int (f_X2_mostOf p4)] w13.2
    refine xcallS A (ix := 82) (nxt := 214) hrm hz [.int (f_X2_mostOf p4), .int w13.1] [] 992 (c_X1_heldTo hS _ rfl) ok_X1_heldTo (by decide +kernel) rfl (fun r g1 hq => ?_)
    rw [hq.1, hq.2]
    show xW k S 0 0 214 [some (.ref 44), some (.ref 50), some (.int p2), some (.int p3), some (.int p4), some (.int (f_X1_heldTo (f_X2_mostOf 0) w11.1))] [.int (f_X1_heldTo (f_X2_mostOf p4) w13.1)] w13.2
    obtain rfl := Option.some.inj H
    exact xret_i A hR hz (by decide +kernel) rfl ⟨rfl, rfl⟩
  · rw [if_pos h1] at H
    refine xb A [(.iload 5, 2, 0, 0, .null)] (pc' := 178) (ls' := [some (.ref 44), some (.ref 50), some (.int p2), some (.int p3), some (.int p4), some (.int (f_X1_heldTo (f_X2_mostOf 0) w11.1))]) (st' := [.int (f_X1_heldTo (f_X2_mostOf 0) w11.1)]) (g' := w11.2) (by decide +kernel) rfl ?_
    obtain rfl := Option.some.inj H
    exact xret_i A hR hz (by decide +kernel) rfl ⟨rfl, rfl⟩
theorem fr_X1_lawFrom_44_50 {p2 : Int32} {p3 : Int32} {p4 : Int32} {g : xG} (out : Int32 × xG) (H : f_X1_lawFrom_44_50 p2 p3 p4 g = some out) : xfrm fp_X1_lawFrom_44_50 g (out.2) := by
  have H : (xl (xput g 45 9 0 (f_X10_between_38 p3 (f_X4_capital_3 g) g)) fun w1 =>
xl (xput w1 45 9 1 (f_X6_of_50 p2 17 w1)) fun w2 =>
xl (xput w2 45 9 2 (f_X4_honestyOf_3 p2 w2)) fun w3 =>
xl (xput w3 45 9 3 (f_X6_of_50 p2 23 w3)) fun w4 =>
xl (xput w4 45 9 4 (f_X6_get_50 0 w4)) fun w5 =>
xl (xput w5 45 9 5 p2) fun w6 =>
xl (xput w6 45 9 6 0) fun w7 =>
(f_X6_peopleIn_50 (f_X4_capital_3 w7) (f_X4_people_3 w7) w7).bind fun w8 =>
xl (xput w7 45 9 7 (f_J6_bitCount_0f7a4 w8)) fun w9 =>
xl (xput w9 45 9 8 (f_X6_of_50 p2 29 w9)) fun w10 =>
(f_X2_answer_12_45 0 w10).bind fun w11 =>
if p4 = 0 then
  some (f_X1_heldTo (f_X2_mostOf 0) w11.1, w11.2)
else
  xl (xput w11.2 45 9 6 (f_X1_heldTo (f_X2_mostOf 0) w11.1)) fun w12 =>
  (f_X2_answer_12_45 p4 w12).bind fun w13 =>
  some (f_X1_heldTo (f_X2_mostOf p4) w13.1, w13.2)) = some out := H
  obtain ⟨w1, e1, H⟩ := xl_elim H
  have hf1 : xfrm fp_X1_lawFrom_44_50 g (w1) := xfrm_xput xfrm.rf rfl e1
  obtain ⟨w2, e2, H⟩ := xl_elim H
  have hf2 : xfrm fp_X1_lawFrom_44_50 g (w2) := xfrm_xput hf1 rfl e2
  obtain ⟨w3, e3, H⟩ := xl_elim H
  have hf3 : xfrm fp_X1_lawFrom_44_50 g (w3) := xfrm_xput hf2 rfl e3
  obtain ⟨w4, e4, H⟩ := xl_elim H
  have hf4 : xfrm fp_X1_lawFrom_44_50 g (w4) := xfrm_xput hf3 rfl e4
  obtain ⟨w5, e5, H⟩ := xl_elim H
  have hf5 : xfrm fp_X1_lawFrom_44_50 g (w5) := xfrm_xput hf4 rfl e5
  obtain ⟨w6, e6, H⟩ := xl_elim H
  have hf6 : xfrm fp_X1_lawFrom_44_50 g (w6) := xfrm_xput hf5 rfl e6
  obtain ⟨w7, e7, H⟩ := xl_elim H
  have hf7 : xfrm fp_X1_lawFrom_44_50 g (w7) := xfrm_xput hf6 rfl e7
  obtain ⟨w8, e8, H⟩ := xbind H
  obtain ⟨w9, e9, H⟩ := xl_elim H
  have hf8 : xfrm fp_X1_lawFrom_44_50 g (w9) := xfrm_xput hf7 rfl e9
  obtain ⟨w10, e10, H⟩ := xl_elim H
  have hf9 : xfrm fp_X1_lawFrom_44_50 g (w10) := xfrm_xput hf8 rfl e10
  obtain ⟨w11, e11, H⟩ := xbind H
  have hf10 : xfrm fp_X1_lawFrom_44_50 g (w11.2) := xfrm.tr hf9 (fr_X2_answer_12_45 _ e11) rfl
  by_cases h1 : p4 = 0
  · rw [if_pos h1] at H
    obtain rfl := Option.some.inj H
    exact hf10
  · rw [if_neg h1] at H
    obtain ⟨w12, e12, H⟩ := xl_elim H
    have hf11 : xfrm fp_X1_lawFrom_44_50 g (w12) := xfrm_xput hf10 rfl e12
    obtain ⟨w13, e13, H⟩ := xbind H
    have hf12 : xfrm fp_X1_lawFrom_44_50 g (w13.2) := xfrm.tr hf11 (fr_X2_answer_12_45 _ e13) rfl
    obtain rfl := Option.some.inj H
    exact hf12
def fp_X1_lawNow_44_50 : List (Nat × Option Nat) := [(16, none), (45, none)]
def f_X1_lawNow_44_50 (p2 : Int32) (p3 : Int32) (g : xG) : Option (Int32 × xG) :=
  (f_X1_lawFrom_44_50 p2 (f_X4_homeOf_3 p2 g) p3 g).bind fun w1 =>
  some (w1.1, w1.2)
set_option maxRecDepth 20000 in
theorem c_X1_lawNow_44_50 {S : List xSh} (hS : xpf SH1 S) {g : xG} {p2 : Int32} {p3 : Int32} (out : Int32 × xG) (H : f_X1_lawNow_44_50 p2 p3 g = some out) : xC mX1_lawNow 3 76 0 0 S [.ref 44, .ref 50, .int p2, .int p3] g S (fun r g' => r = some (.int out.1) ∧ g' = out.2) := by
  have H : ((f_X1_lawFrom_44_50 p2 (f_X4_homeOf_3 p2 g) p3 g).bind fun w1 =>
some (w1.1, w1.2)) = some out := H
  refine xC.of 1 SH1 [some (.ref 44), some (.ref 50), some (.int p2), some (.int p3)] hS (by decide +kernel) rfl (fun _ _ => Nat.le_of_ble_eq_true rfl) (fun _ _ => rfl) ?_
  intro k A hR hrm hz
  refine xb A [(.aload_n 0, 1, 0, 0, .null), (.aload_n 1, 1, 0, 0, .null), (.iload_n 2, 1, 0, 0, .null), (.aload_n 0, 1, 0, 0, .null), (.getfield 17, 3, 44, 0, .ref 3), (.iload_n 2, 1, 0, 0, .null)] (pc' := 8) (ls' := [some (.ref 44), some (.ref 50), some (.int p2), some (.int p3)]) (st' := [.int p2, .ref 3, .int p2, .ref 50, .ref 44]) (g' := g) (by decide +kernel) rfl ?_
  refine xcallV A (ix := 25) (nxt := 11) hrm hz [.int p2] [.int p2, .ref 50, .ref 44] 957 (c_X4_homeOf_3 hS _ rfl) ok_X4_homeOf (by decide +kernel) rfl (fun r g1 hq => ?_)
  rw [hq.1, hq.2]
  show xW k S 0 0 11 [some (.ref 44), some (.ref 50), some (.int p2), some (.int p3)] [.int (f_X4_homeOf_3 p2 g), .int p2, .ref 50, .ref 44] g
  refine xb A [(.iload_n 3, 1, 0, 0, .null)] (pc' := 12) (ls' := [some (.ref 44), some (.ref 50), some (.int p2), some (.int p3)]) (st' := [.int p3, .int (f_X4_homeOf_3 p2 g), .int p2, .ref 50, .ref 44]) (g' := g) (by decide +kernel) rfl ?_
  obtain ⟨w1, e1, H⟩ := xbind H
  refine xcallV A (ix := 41) (nxt := 15) hrm hz [.ref 50, .int p2, .int (f_X4_homeOf_3 p2 g), .int p3] [] 964 (c_X1_lawFrom_44_50 hS _ e1) ok_X1_lawFrom (by decide +kernel) rfl (fun r g1 hq => ?_)
  rw [hq.1, hq.2]
  show xW k S 0 0 15 [some (.ref 44), some (.ref 50), some (.int p2), some (.int p3)] [.int w1.1] w1.2
  obtain rfl := Option.some.inj H
  exact xret_i A hR hz (by decide +kernel) rfl ⟨rfl, rfl⟩
theorem fr_X1_lawNow_44_50 {p2 : Int32} {p3 : Int32} {g : xG} (out : Int32 × xG) (H : f_X1_lawNow_44_50 p2 p3 g = some out) : xfrm fp_X1_lawNow_44_50 g (out.2) := by
  have H : ((f_X1_lawFrom_44_50 p2 (f_X4_homeOf_3 p2 g) p3 g).bind fun w1 =>
some (w1.1, w1.2)) = some out := H
  obtain ⟨w1, e1, H⟩ := xbind H
  have hf1 : xfrm fp_X1_lawNow_44_50 g (w1.2) := xfrm.tr xfrm.rf (fr_X1_lawFrom_44_50 _ e1) rfl
  obtain rfl := Option.some.inj H
  exact hf1
def fp_X1_ringerOf_44_50 : List (Nat × Option Nat) := [(16, none), (45, none)]
def f_X1_ringerOf_44_50_8  : Nat → Int32 → Int32 → Int32 → xG → Option (Int32 × xG)
  | 0, _, _, _, _ => none
  | n + 1, l2, l3, l4, g =>
    if (f_X4_people_3 g) ≤ l4 then
      some (l2, g)
    else
      if (f_X1_mayRing_44_50 l4 g) = 0 then
        f_X1_ringerOf_44_50_8 n l2 l3 (l4 + 1) g
      else
        (f_X1_lawNow_44_50 l4 0 g).bind fun w1 =>
        if l2 < 0 then
          f_X1_ringerOf_44_50_8 n l4 w1.1 (l4 + 1) w1.2
        else
          if w1.1 ≤ l3 then
            f_X1_ringerOf_44_50_8 n l2 l3 (l4 + 1) w1.2
          else
            f_X1_ringerOf_44_50_8 n l4 w1.1 (l4 + 1) w1.2
def f_X1_ringerOf_44_50  (g : xG) : Option (Int32 × xG) :=
  f_X1_ringerOf_44_50_8 xN (-2) 0 0 g
set_option maxRecDepth 20000 in
theorem t_X1_ringerOf_44_50_8 {k : xK} {S : List xSh} {out : Int32 × xG} (hS : xpf SH1 S) (A : xAt k mX1_ringerOf.2.1 1 SH1 S) (hR : xRet k 0 0 S (fun r g' => r = some (.int out.1) ∧ g' = out.2) mX1_ringerOf.2.2.2) (hrm : xrm k = { frames := 4, cells := 0, slots := 0, locals := 99 }) (hz : xhs k = xb0 k + S.length)   : ∀ (n : Nat) (l2 : Int32) (l3 : Int32) (l4 : Int32) (g : xG), f_X1_ringerOf_44_50_8 n l2 l3 l4 g = some out → xW k S 0 0 8 [some (.ref 44), some (.ref 50), some (.int l2), some (.int l3), some (.int l4), none] [] g := by
  intro n
  induction n with
  | zero => intro l2 l3 l4 g H; exact absurd H (by simp [f_X1_ringerOf_44_50_8])
  | succ n ih =>
    intro l2 l3 l4 g H
    have H : (if (f_X4_people_3 g) ≤ l4 then
  some (l2, g)
else
  if (f_X1_mayRing_44_50 l4 g) = 0 then
    f_X1_ringerOf_44_50_8 n l2 l3 (l4 + 1) g
  else
    (f_X1_lawNow_44_50 l4 0 g).bind fun w1 =>
    if l2 < 0 then
      f_X1_ringerOf_44_50_8 n l4 w1.1 (l4 + 1) w1.2
    else
      if w1.1 ≤ l3 then
        f_X1_ringerOf_44_50_8 n l2 l3 (l4 + 1) w1.2
      else
        f_X1_ringerOf_44_50_8 n l4 w1.1 (l4 + 1) w1.2) = some out := H
    refine xb A [(.iload 4, 2, 0, 0, .null), (.aload_n 0, 1, 0, 0, .null), (.getfield 17, 3, 44, 0, .ref 3)] (pc' := 14) (ls' := [some (.ref 44), some (.ref 50), some (.int l2), some (.int l3), some (.int l4), none]) (st' := [.ref 3, .int l4]) (g' := g) (by decide +kernel) rfl ?_
    refine xcallV A (ix := 60) (nxt := 17) hrm hz [] [.int l4] 972 (c_X4_people_3 hS _ rfl) ok_X4_people (by decide +kernel) rfl (fun r g1 hq => ?_)
    rw [hq.1, hq.2]
    show xW k S 0 0 17 [some (.ref 44), some (.ref 50), some (.int l2), some (.int l3), some (.int l4), none] [.int (f_X4_people_3 g), .int l4] g
    refine xic_ge A (45) 62 20 (by decide +kernel) (fun h1 => ?_) (fun h1 => ?_)
    · rw [if_pos h1] at H
      refine xb A [(.iload_n 2, 1, 0, 0, .null)] (pc' := 63) (ls' := [some (.ref 44), some (.ref 50), some (.int l2), some (.int l3), some (.int l4), none]) (st' := [.int l2]) (g' := g) (by decide +kernel) rfl ?_
      obtain rfl := Option.some.inj H
      exact xret_i A hR hz (by decide +kernel) rfl ⟨rfl, rfl⟩
    · rw [if_neg h1] at H
      refine xb A [(.aload_n 0, 1, 0, 0, .null), (.aload_n 1, 1, 0, 0, .null), (.iload 4, 2, 0, 0, .null)] (pc' := 24) (ls' := [some (.ref 44), some (.ref 50), some (.int l2), some (.int l3), some (.int l4), none]) (st' := [.int l4, .ref 50, .ref 44]) (g' := g) (by decide +kernel) rfl ?_
      refine xcallV A (ix := 96) (nxt := 27) hrm hz [.ref 50, .int l4] [] 1042 (c_X1_mayRing_44_50 hS _ rfl) ok_X1_mayRing (by decide +kernel) rfl (fun r g1 hq => ?_)
      rw [hq.1, hq.2]
      show xW k S 0 0 27 [some (.ref 44), some (.ref 50), some (.int l2), some (.int l3), some (.int l4), none] [.int (f_X1_mayRing_44_50 l4 g)] g
      refine xif_eq A (29) 56 30 (by decide +kernel) (fun h2 => ?_) (fun h2 => ?_)
      · rw [if_pos h2] at H
        refine xb A [(.iinc 4 1, 3, 0, 0, .null)] (pc' := 59) (ls' := [some (.ref 44), some (.ref 50), some (.int l2), some (.int l3), some (.int (l4 + 1)), none]) (st' := []) (g' := g) (by decide +kernel) rfl ?_
        refine xgoto A (-51) 8 (by decide +kernel) ?_
        exact ih _ _ _ _ H
      · rw [if_neg h2] at H
        refine xb A [(.aload_n 0, 1, 0, 0, .null), (.aload_n 1, 1, 0, 0, .null), (.iload 4, 2, 0, 0, .null), (.iconst 0, 1, 0, 0, .int 0)] (pc' := 35) (ls' := [some (.ref 44), some (.ref 50), some (.int l2), some (.int l3), some (.int l4), none]) (st' := [.int 0, .int l4, .ref 50, .ref 44]) (g' := g) (by decide +kernel) rfl ?_
        obtain ⟨w1, e1, H⟩ := xbind H
        refine xcallV A (ix := 100) (nxt := 38) hrm hz [.ref 50, .int l4, .int 0] [] 1047 (c_X1_lawNow_44_50 hS _ e1) ok_X1_lawNow (by decide +kernel) rfl (fun r g1 hq => ?_)
        rw [hq.1, hq.2]
        show xW k S 0 0 38 [some (.ref 44), some (.ref 50), some (.int l2), some (.int l3), some (.int l4), none] [.int w1.1] w1.2
        refine xb A [(.istore 5, 2, 0, 0, .null), (.iload_n 2, 1, 0, 0, .null)] (pc' := 41) (ls' := [some (.ref 44), some (.ref 50), some (.int l2), some (.int l3), some (.int l4), some (.int w1.1)]) (st' := [.int l2]) (g' := w1.2) (by decide +kernel) rfl ?_
        refine xif_lt A (9) 50 44 (by decide +kernel) (fun h3 => ?_) (fun h3 => ?_)
        · rw [if_pos h3] at H
          refine xb A [(.iload 4, 2, 0, 0, .null), (.istore_n 2, 1, 0, 0, .null), (.iload 5, 2, 0, 0, .null), (.istore_n 3, 1, 0, 0, .null), (.iinc 4 1, 3, 0, 0, .null)] (pc' := 59) (ls' := [some (.ref 44), some (.ref 50), some (.int l4), some (.int w1.1), some (.int (l4 + 1)), some (.int w1.1)]) (st' := []) (g' := w1.2) (by decide +kernel) rfl ?_
          refine xgoto A (-51) 8 (by decide +kernel) ?_
          refine xweak (ls' := [some (.ref 44), some (.ref 50), some (.int l4), some (.int w1.1), some (.int (l4 + 1)), none]) (by exact ⟨rfl, ⟨rfl, ⟨rfl, ⟨rfl, ⟨rfl, trivial⟩⟩⟩⟩⟩) ?_
          exact ih _ _ _ _ H
        · rw [if_neg h3] at H
          refine xb A [(.iload 5, 2, 0, 0, .null), (.iload_n 3, 1, 0, 0, .null)] (pc' := 47) (ls' := [some (.ref 44), some (.ref 50), some (.int l2), some (.int l3), some (.int l4), some (.int w1.1)]) (st' := [.int l3, .int w1.1]) (g' := w1.2) (by decide +kernel) rfl ?_
          refine xic_le A (9) 56 50 (by decide +kernel) (fun h4 => ?_) (fun h4 => ?_)
          · rw [if_pos h4] at H
            refine xb A [(.iinc 4 1, 3, 0, 0, .null)] (pc' := 59) (ls' := [some (.ref 44), some (.ref 50), some (.int l2), some (.int l3), some (.int (l4 + 1)), some (.int w1.1)]) (st' := []) (g' := w1.2) (by decide +kernel) rfl ?_
            refine xgoto A (-51) 8 (by decide +kernel) ?_
            refine xweak (ls' := [some (.ref 44), some (.ref 50), some (.int l2), some (.int l3), some (.int (l4 + 1)), none]) (by exact ⟨rfl, ⟨rfl, ⟨rfl, ⟨rfl, ⟨rfl, trivial⟩⟩⟩⟩⟩) ?_
            exact ih _ _ _ _ H
          · rw [if_neg h4] at H
            refine xb A [(.iload 4, 2, 0, 0, .null), (.istore_n 2, 1, 0, 0, .null), (.iload 5, 2, 0, 0, .null), (.istore_n 3, 1, 0, 0, .null), (.iinc 4 1, 3, 0, 0, .null)] (pc' := 59) (ls' := [some (.ref 44), some (.ref 50), some (.int l4), some (.int w1.1), some (.int (l4 + 1)), some (.int w1.1)]) (st' := []) (g' := w1.2) (by decide +kernel) rfl ?_
            refine xgoto A (-51) 8 (by decide +kernel) ?_
            refine xweak (ls' := [some (.ref 44), some (.ref 50), some (.int l4), some (.int w1.1), some (.int (l4 + 1)), none]) (by exact ⟨rfl, ⟨rfl, ⟨rfl, ⟨rfl, ⟨rfl, trivial⟩⟩⟩⟩⟩) ?_
            exact ih _ _ _ _ H
theorem fr_X1_ringerOf_44_50_8   : ∀ (n : Nat) (l2 : Int32) (l3 : Int32) (l4 : Int32) (g : xG) (out : Int32 × xG), f_X1_ringerOf_44_50_8 n l2 l3 l4 g = some out → xfrm fp_X1_ringerOf_44_50 g (out.2) := by
  intro n
  induction n with
  | zero => intro l2 l3 l4 g out H; exact absurd H (by simp [f_X1_ringerOf_44_50_8])
  | succ n ih =>
    intro l2 l3 l4 g out H
    have H : (if (f_X4_people_3 g) ≤ l4 then
  some (l2, g)
else
  if (f_X1_mayRing_44_50 l4 g) = 0 then
    f_X1_ringerOf_44_50_8 n l2 l3 (l4 + 1) g
  else
    (f_X1_lawNow_44_50 l4 0 g).bind fun w1 =>
    if l2 < 0 then
      f_X1_ringerOf_44_50_8 n l4 w1.1 (l4 + 1) w1.2
    else
      if w1.1 ≤ l3 then
        f_X1_ringerOf_44_50_8 n l2 l3 (l4 + 1) w1.2
      else
        f_X1_ringerOf_44_50_8 n l4 w1.1 (l4 + 1) w1.2) = some out := H
    by_cases h1 : (f_X4_people_3 g) ≤ l4
    · rw [if_pos h1] at H
      obtain rfl := Option.some.inj H
      exact xfrm.rf
    · rw [if_neg h1] at H
      by_cases h2 : (f_X1_mayRing_44_50 l4 g) = 0
      · rw [if_pos h2] at H
        exact xfrm.tr xfrm.rf (ih _ _ _ _ _ H) rfl
      · rw [if_neg h2] at H
        obtain ⟨w1, e1, H⟩ := xbind H
        have hf1 : xfrm fp_X1_ringerOf_44_50 g (w1.2) := xfrm.tr xfrm.rf (fr_X1_lawNow_44_50 _ e1) rfl
        by_cases h3 : l2 < 0
        · rw [if_pos h3] at H
          exact xfrm.tr hf1 (ih _ _ _ _ _ H) rfl
        · rw [if_neg h3] at H
          by_cases h4 : w1.1 ≤ l3
          · rw [if_pos h4] at H
            exact xfrm.tr hf1 (ih _ _ _ _ _ H) rfl
          · rw [if_neg h4] at H
            exact xfrm.tr hf1 (ih _ _ _ _ _ H) rfl
set_option maxRecDepth 20000 in
theorem c_X1_ringerOf_44_50 {S : List xSh} (hS : xpf SH1 S) {g : xG}  (out : Int32 × xG) (H : f_X1_ringerOf_44_50  g = some out) : xC mX1_ringerOf 4 99 0 0 S [.ref 44, .ref 50] g S (fun r g' => r = some (.int out.1) ∧ g' = out.2) := by
  have H : (f_X1_ringerOf_44_50_8 xN (-2) 0 0 g) = some out := H
  refine xC.of 1 SH1 [some (.ref 44), some (.ref 50), none, none, none, none] hS (by decide +kernel) rfl (fun _ _ => Nat.le_of_ble_eq_true rfl) (fun _ _ => rfl) ?_
  intro k A hR hrm hz
  refine xb A [(.bipush (-2), 2, 0, 0, .int (-2)), (.istore_n 2, 1, 0, 0, .null), (.iconst 0, 1, 0, 0, .int 0), (.istore_n 3, 1, 0, 0, .null), (.iconst 0, 1, 0, 0, .int 0), (.istore 4, 2, 0, 0, .null)] (pc' := 8) (ls' := [some (.ref 44), some (.ref 50), some (.int (-2)), some (.int 0), some (.int 0), none]) (st' := []) (g' := g) (by decide +kernel) rfl ?_
  exact t_X1_ringerOf_44_50_8 hS A hR hrm hz _ _ _ _ _ H
theorem fr_X1_ringerOf_44_50  {g : xG} (out : Int32 × xG) (H : f_X1_ringerOf_44_50  g = some out) : xfrm fp_X1_ringerOf_44_50 g (out.2) := by
  have H : (f_X1_ringerOf_44_50_8 xN (-2) 0 0 g) = some out := H
  exact xfrm.tr xfrm.rf (fr_X1_ringerOf_44_50_8 _ _ _ _ _ _ H) rfl
def fp_X1_lies_44_50 : List (Nat × Option Nat) := [(16, none), (45, none)]
def f_X1_lies_44_50 (p2 : Int32) (g : xG) : Option (Int32 × xG) :=
  (f_X1_lawFrom_44_50 p2 (f_X4_homeOf_3 p2 g) 0 g).bind fun w1 =>
  if w1.1 = (f_X1_trueFarOf_44 p2 w1.2) then
    some (0, w1.2)
  else
    some (1, w1.2)
set_option maxRecDepth 20000 in
theorem c_X1_lies_44_50 {S : List xSh} (hS : xpf SH1 S) {g : xG} {p2 : Int32} (out : Int32 × xG) (H : f_X1_lies_44_50 p2 g = some out) : xC mX1_lies 3 76 0 0 S [.ref 44, .ref 50, .int p2] g S (fun r g' => r = some (.int out.1) ∧ g' = out.2) := by
  have H : ((f_X1_lawFrom_44_50 p2 (f_X4_homeOf_3 p2 g) 0 g).bind fun w1 =>
if w1.1 = (f_X1_trueFarOf_44 p2 w1.2) then
  some (0, w1.2)
else
  some (1, w1.2)) = some out := H
  refine xC.of 1 SH1 [some (.ref 44), some (.ref 50), some (.int p2)] hS (by decide +kernel) rfl (fun _ _ => Nat.le_of_ble_eq_true rfl) (fun _ _ => rfl) ?_
  intro k A hR hrm hz
  refine xb A [(.aload_n 0, 1, 0, 0, .null), (.aload_n 1, 1, 0, 0, .null), (.iload_n 2, 1, 0, 0, .null), (.aload_n 0, 1, 0, 0, .null), (.getfield 17, 3, 44, 0, .ref 3), (.iload_n 2, 1, 0, 0, .null)] (pc' := 8) (ls' := [some (.ref 44), some (.ref 50), some (.int p2)]) (st' := [.int p2, .ref 3, .int p2, .ref 50, .ref 44]) (g' := g) (by decide +kernel) rfl ?_
  refine xcallV A (ix := 25) (nxt := 11) hrm hz [.int p2] [.int p2, .ref 50, .ref 44] 957 (c_X4_homeOf_3 hS _ rfl) ok_X4_homeOf (by decide +kernel) rfl (fun r g1 hq => ?_)
  rw [hq.1, hq.2]
  show xW k S 0 0 11 [some (.ref 44), some (.ref 50), some (.int p2)] [.int (f_X4_homeOf_3 p2 g), .int p2, .ref 50, .ref 44] g
  refine xb A [(.iconst 0, 1, 0, 0, .int 0)] (pc' := 12) (ls' := [some (.ref 44), some (.ref 50), some (.int p2)]) (st' := [.int 0, .int (f_X4_homeOf_3 p2 g), .int p2, .ref 50, .ref 44]) (g' := g) (by decide +kernel) rfl ?_
  obtain ⟨w1, e1, H⟩ := xbind H
  refine xcallV A (ix := 41) (nxt := 15) hrm hz [.ref 50, .int p2, .int (f_X4_homeOf_3 p2 g), .int 0] [] 964 (c_X1_lawFrom_44_50 hS _ e1) ok_X1_lawFrom (by decide +kernel) rfl (fun r g1 hq => ?_)
  rw [hq.1, hq.2]
  show xW k S 0 0 15 [some (.ref 44), some (.ref 50), some (.int p2)] [.int w1.1] w1.2
  refine xb A [(.aload_n 0, 1, 0, 0, .null), (.iload_n 2, 1, 0, 0, .null)] (pc' := 17) (ls' := [some (.ref 44), some (.ref 50), some (.int p2)]) (st' := [.int p2, .ref 44, .int w1.1]) (g' := w1.2) (by decide +kernel) rfl ?_
  refine xcallV A (ix := 93) (nxt := 20) hrm hz [.int p2] [.int w1.1] 1056 (c_X1_trueFarOf_44 hS _ rfl) ok_X1_trueFarOf (by decide +kernel) rfl (fun r g1 hq => ?_)
  rw [hq.1, hq.2]
  show xW k S 0 0 20 [some (.ref 44), some (.ref 50), some (.int p2)] [.int (f_X1_trueFarOf_44 p2 w1.2), .int w1.1] w1.2
  refine xic_eq A (7) 27 23 (by decide +kernel) (fun h1 => ?_) (fun h1 => ?_)
  · rw [if_pos h1] at H
    refine xb A [(.iconst 0, 1, 0, 0, .int 0)] (pc' := 28) (ls' := [some (.ref 44), some (.ref 50), some (.int p2)]) (st' := [.int 0]) (g' := w1.2) (by decide +kernel) rfl ?_
    obtain rfl := Option.some.inj H
    exact xret_i A hR hz (by decide +kernel) rfl ⟨rfl, rfl⟩
  · rw [if_neg h1] at H
    refine xb A [(.iconst 1, 1, 0, 0, .int 1)] (pc' := 24) (ls' := [some (.ref 44), some (.ref 50), some (.int p2)]) (st' := [.int 1]) (g' := w1.2) (by decide +kernel) rfl ?_
    refine xgoto A (4) 28 (by decide +kernel) ?_
    obtain rfl := Option.some.inj H
    exact xret_i A hR hz (by decide +kernel) rfl ⟨rfl, rfl⟩
theorem fr_X1_lies_44_50 {p2 : Int32} {g : xG} (out : Int32 × xG) (H : f_X1_lies_44_50 p2 g = some out) : xfrm fp_X1_lies_44_50 g (out.2) := by
  have H : ((f_X1_lawFrom_44_50 p2 (f_X4_homeOf_3 p2 g) 0 g).bind fun w1 =>
if w1.1 = (f_X1_trueFarOf_44 p2 w1.2) then
  some (0, w1.2)
else
  some (1, w1.2)) = some out := H
  obtain ⟨w1, e1, H⟩ := xbind H
  have hf1 : xfrm fp_X1_lies_44_50 g (w1.2) := xfrm.tr xfrm.rf (fr_X1_lawFrom_44_50 _ e1) rfl
  by_cases h1 : w1.1 = (f_X1_trueFarOf_44 p2 w1.2)
  · rw [if_pos h1] at H
    obtain rfl := Option.some.inj H
    exact hf1
  · rw [if_neg h1] at H
    obtain rfl := Option.some.inj H
    exact hf1
def fp_X1_isFoundOut_44_50 : List (Nat × Option Nat) := [(16, none), (45, none)]
def f_X1_isFoundOut_44_50 (p2 : Int32) (p3 : Int32) (g : xG) : Option (Int32 × xG) :=
  (f_X1_lies_44_50 p2 g).bind fun w1 =>
  if w1.1 = 0 then
    some (0, w1.2)
  else
    (f_X1_lot p3 ((8 * (f_X6_get_50 0 w1.2)) + p2)).bind fun w2 =>
    (f_X1_lawNow_44_50 p2 3 w1.2).bind fun w3 =>
    if w3.1 ≤ w2 then
      some (0, w3.2)
    else
      some (1, w3.2)
set_option maxRecDepth 20000 in
theorem c_X1_isFoundOut_44_50 {S : List xSh} (hS : xpf SH1 S) {g : xG} {p2 : Int32} {p3 : Int32} (out : Int32 × xG) (H : f_X1_isFoundOut_44_50 p2 p3 g = some out) : xC mX1_isFoundOut 4 99 0 0 S [.ref 44, .ref 50, .int p2, .int p3] g S (fun r g' => r = some (.int out.1) ∧ g' = out.2) := by
  have H : ((f_X1_lies_44_50 p2 g).bind fun w1 =>
if w1.1 = 0 then
  some (0, w1.2)
else
  (f_X1_lot p3 ((8 * (f_X6_get_50 0 w1.2)) + p2)).bind fun w2 =>
  (f_X1_lawNow_44_50 p2 3 w1.2).bind fun w3 =>
  if w3.1 ≤ w2 then
    some (0, w3.2)
  else
    some (1, w3.2)) = some out := H
  refine xC.of 1 SH1 [some (.ref 44), some (.ref 50), some (.int p2), some (.int p3)] hS (by decide +kernel) rfl (fun _ _ => Nat.le_of_ble_eq_true rfl) (fun _ _ => rfl) ?_
  intro k A hR hrm hz
  refine xb A [(.aload_n 0, 1, 0, 0, .null), (.aload_n 1, 1, 0, 0, .null), (.iload_n 2, 1, 0, 0, .null)] (pc' := 3) (ls' := [some (.ref 44), some (.ref 50), some (.int p2), some (.int p3)]) (st' := [.int p2, .ref 50, .ref 44]) (g' := g) (by decide +kernel) rfl ?_
  obtain ⟨w1, e1, H⟩ := xbind H
  refine xcallV A (ix := 130) (nxt := 6) hrm hz [.ref 50, .int p2] [] 1052 (c_X1_lies_44_50 hS _ e1) ok_X1_lies (by decide +kernel) rfl (fun r g1 hq => ?_)
  rw [hq.1, hq.2]
  show xW k S 0 0 6 [some (.ref 44), some (.ref 50), some (.int p2), some (.int p3)] [.int w1.1] w1.2
  refine xif_eq A (31) 37 9 (by decide +kernel) (fun h1 => ?_) (fun h1 => ?_)
  · rw [if_pos h1] at H
    refine xb A [(.iconst 0, 1, 0, 0, .int 0)] (pc' := 38) (ls' := [some (.ref 44), some (.ref 50), some (.int p2), some (.int p3)]) (st' := [.int 0]) (g' := w1.2) (by decide +kernel) rfl ?_
    obtain rfl := Option.some.inj H
    exact xret_i A hR hz (by decide +kernel) rfl ⟨rfl, rfl⟩
  · rw [if_neg h1] at H
    refine xb A [(.iload_n 3, 1, 0, 0, .null), (.bipush 8, 2, 0, 0, .int 8), (.aload_n 1, 1, 0, 0, .null), (.iconst 0, 1, 0, 0, .int 0)] (pc' := 14) (ls' := [some (.ref 44), some (.ref 50), some (.int p2), some (.int p3)]) (st' := [.int 0, .ref 50, .int 8, .int p3]) (g' := w1.2) (by decide +kernel) rfl ?_
    refine xcallV A (ix := 57) (nxt := 17) hrm hz [.int 0] [.int 8, .int p3] 971 (c_X6_get_50 hS _ rfl) ok_X6_get (by decide +kernel) rfl (fun r g1 hq => ?_)
    rw [hq.1, hq.2]
    show xW k S 0 0 17 [some (.ref 44), some (.ref 50), some (.int p2), some (.int p3)] [.int (f_X6_get_50 0 w1.2), .int 8, .int p3] w1.2
    refine xb A [(.imul, 1, 0, 0, .null), (.iload_n 2, 1, 0, 0, .null), (.iadd, 1, 0, 0, .null)] (pc' := 20) (ls' := [some (.ref 44), some (.ref 50), some (.int p2), some (.int p3)]) (st' := [.int ((8 * (f_X6_get_50 0 w1.2)) + p2), .int p3]) (g' := w1.2) (by decide +kernel) rfl ?_
    obtain ⟨w2, e2, H⟩ := xbind H
    refine xcallS A (ix := 133) (nxt := 23) hrm hz [.int p3, .int ((8 * (f_X6_get_50 0 w1.2)) + p2)] [] 1057 (c_X1_lot hS _ e2) ok_X1_lot (by decide +kernel) rfl (fun r g1 hq => ?_)
    rw [hq.1, hq.2]
    show xW k S 0 0 23 [some (.ref 44), some (.ref 50), some (.int p2), some (.int p3)] [.int w2] w1.2
    refine xb A [(.aload_n 0, 1, 0, 0, .null), (.aload_n 1, 1, 0, 0, .null), (.iload_n 2, 1, 0, 0, .null), (.iconst 3, 1, 0, 0, .int 3)] (pc' := 27) (ls' := [some (.ref 44), some (.ref 50), some (.int p2), some (.int p3)]) (st' := [.int 3, .int p2, .ref 50, .ref 44, .int w2]) (g' := w1.2) (by decide +kernel) rfl ?_
    obtain ⟨w3, e3, H⟩ := xbind H
    refine xcallV A (ix := 100) (nxt := 30) hrm hz [.ref 50, .int p2, .int 3] [.int w2] 1047 (c_X1_lawNow_44_50 hS _ e3) ok_X1_lawNow (by decide +kernel) rfl (fun r g1 hq => ?_)
    rw [hq.1, hq.2]
    show xW k S 0 0 30 [some (.ref 44), some (.ref 50), some (.int p2), some (.int p3)] [.int w3.1, .int w2] w3.2
    refine xic_ge A (7) 37 33 (by decide +kernel) (fun h2 => ?_) (fun h2 => ?_)
    · rw [if_pos h2] at H
      refine xb A [(.iconst 0, 1, 0, 0, .int 0)] (pc' := 38) (ls' := [some (.ref 44), some (.ref 50), some (.int p2), some (.int p3)]) (st' := [.int 0]) (g' := w3.2) (by decide +kernel) rfl ?_
      obtain rfl := Option.some.inj H
      exact xret_i A hR hz (by decide +kernel) rfl ⟨rfl, rfl⟩
    · rw [if_neg h2] at H
      refine xb A [(.iconst 1, 1, 0, 0, .int 1)] (pc' := 34) (ls' := [some (.ref 44), some (.ref 50), some (.int p2), some (.int p3)]) (st' := [.int 1]) (g' := w3.2) (by decide +kernel) rfl ?_
      refine xgoto A (4) 38 (by decide +kernel) ?_
      obtain rfl := Option.some.inj H
      exact xret_i A hR hz (by decide +kernel) rfl ⟨rfl, rfl⟩
theorem fr_X1_isFoundOut_44_50 {p2 : Int32} {p3 : Int32} {g : xG} (out : Int32 × xG) (H : f_X1_isFoundOut_44_50 p2 p3 g = some out) : xfrm fp_X1_isFoundOut_44_50 g (out.2) := by
  have H : ((f_X1_lies_44_50 p2 g).bind fun w1 =>
if w1.1 = 0 then
  some (0, w1.2)
else
  (f_X1_lot p3 ((8 * (f_X6_get_50 0 w1.2)) + p2)).bind fun w2 =>
  (f_X1_lawNow_44_50 p2 3 w1.2).bind fun w3 =>
  if w3.1 ≤ w2 then
    some (0, w3.2)
  else
    some (1, w3.2)) = some out := H
  obtain ⟨w1, e1, H⟩ := xbind H
  have hf1 : xfrm fp_X1_isFoundOut_44_50 g (w1.2) := xfrm.tr xfrm.rf (fr_X1_lies_44_50 _ e1) rfl
  by_cases h1 : w1.1 = 0
  · rw [if_pos h1] at H
    obtain rfl := Option.some.inj H
    exact hf1
  · rw [if_neg h1] at H
    obtain ⟨w2, e2, H⟩ := xbind H
    obtain ⟨w3, e3, H⟩ := xbind H
    have hf2 : xfrm fp_X1_isFoundOut_44_50 g (w3.2) := xfrm.tr hf1 (fr_X1_lawNow_44_50 _ e3) rfl
    by_cases h2 : w3.1 ≤ w2
    · rw [if_pos h2] at H
      obtain rfl := Option.some.inj H
      exact hf2
    · rw [if_neg h2] at H
      obtain rfl := Option.some.inj H
      exact hf2
def fp_X6_set_50 : List (Nat × Option Nat) := [(51, none)]
def f_X6_set_50 (p1 : Int32) (p2 : Int32) (g : xG) : xG :=
  xl (xput g 51 35 p1 p2) fun w1 =>
  w1
set_option maxRecDepth 20000 in
theorem c_X6_set_50 {S : List xSh} (hS : xpf SH1 S) {g : xG} {p1 : Int32} {p2 : Int32} (out : xG) (H : f_X6_set_50 p1 p2 g = out) : xC mX6_set 1 22 0 0 S [.ref 50, .int p1, .int p2] g S (fun r g' => r = none ∧ g' = out) := by
  have H : (xl (xput g 51 35 p1 p2) fun w1 =>
w1) = out := H
  refine xC.of 6 SH1 [some (.ref 50), some (.int p1), some (.int p2)] hS (by decide +kernel) rfl (fun _ _ => Nat.le_of_ble_eq_true rfl) (fun _ _ => rfl) ?_
  intro k A hR hrm hz
  refine xb A [(.aload_n 0, 1, 0, 0, .null), (.getfield 11, 3, 50, 0, .ref 51), (.iload_n 1, 1, 0, 0, .null), (.iload_n 2, 1, 0, 0, .null)] (pc' := 6) (ls' := [some (.ref 50), some (.int p1), some (.int p2)]) (st' := [.int p2, .int p1, .ref 51]) (g' := g) (by decide +kernel) rfl ?_
  obtain ⟨w1, e1, H⟩ := xl_elim H
  refine xcallSN A (ix := 19) (nxt := 9) (host := "NoonRinger") hrm hz [.ref 51, .int p1, .int p2] [] 7 (c_X11_put (hS _ _ sh_51) (by decide)) ok_X11_put (by decide +kernel) rfl (fun r g1 hq => ?_)
  rw [hq.1, hq.2]
  rw [e1]
  show xW k S 0 0 9 [some (.ref 50), some (.int p1), some (.int p2)] [] w1
  subst H
  exact xret_v A hR hz (by decide +kernel) ⟨rfl, rfl⟩
theorem fr_X6_set_50 {p1 : Int32} {p2 : Int32} {g : xG} (out : xG) (H : f_X6_set_50 p1 p2 g = out) : xfrm fp_X6_set_50 g (out) := by
  have H : (xl (xput g 51 35 p1 p2) fun w1 =>
w1) = out := H
  obtain ⟨w1, e1, H⟩ := xl_elim H
  have hf1 : xfrm fp_X6_set_50 g (w1) := xfrm_xput xfrm.rf rfl e1
  subst H
  exact hf1
def fp_X6_setOf_50 : List (Nat × Option Nat) := [(51, none)]
def f_X6_setOf_50 (p1 : Int32) (p2 : Int32) (p3 : Int32) (g : xG) : xG :=
  xl (xput g 51 35 (p2 + p1) p3) fun w1 =>
  w1
set_option maxRecDepth 20000 in
theorem c_X6_setOf_50 {S : List xSh} (hS : xpf SH1 S) {g : xG} {p1 : Int32} {p2 : Int32} {p3 : Int32} (out : xG) (H : f_X6_setOf_50 p1 p2 p3 g = out) : xC mX6_setOf 1 22 0 0 S [.ref 50, .int p1, .int p2, .int p3] g S (fun r g' => r = none ∧ g' = out) := by
  have H : (xl (xput g 51 35 (p2 + p1) p3) fun w1 =>
w1) = out := H
  refine xC.of 6 SH1 [some (.ref 50), some (.int p1), some (.int p2), some (.int p3)] hS (by decide +kernel) rfl (fun _ _ => Nat.le_of_ble_eq_true rfl) (fun _ _ => rfl) ?_
  intro k A hR hrm hz
  refine xb A [(.aload_n 0, 1, 0, 0, .null), (.getfield 11, 3, 50, 0, .ref 51), (.iload_n 2, 1, 0, 0, .null), (.iload_n 1, 1, 0, 0, .null), (.iadd, 1, 0, 0, .null), (.iload_n 3, 1, 0, 0, .null)] (pc' := 8) (ls' := [some (.ref 50), some (.int p1), some (.int p2), some (.int p3)]) (st' := [.int p3, .int (p2 + p1), .ref 51]) (g' := g) (by decide +kernel) rfl ?_
  obtain ⟨w1, e1, H⟩ := xl_elim H
  refine xcallSN A (ix := 19) (nxt := 11) (host := "NoonRinger") hrm hz [.ref 51, .int (p2 + p1), .int p3] [] 7 (c_X11_put (hS _ _ sh_51) (by decide)) ok_X11_put (by decide +kernel) rfl (fun r g1 hq => ?_)
  rw [hq.1, hq.2]
  rw [e1]
  show xW k S 0 0 11 [some (.ref 50), some (.int p1), some (.int p2), some (.int p3)] [] w1
  subst H
  exact xret_v A hR hz (by decide +kernel) ⟨rfl, rfl⟩
theorem fr_X6_setOf_50 {p1 : Int32} {p2 : Int32} {p3 : Int32} {g : xG} (out : xG) (H : f_X6_setOf_50 p1 p2 p3 g = out) : xfrm fp_X6_setOf_50 g (out) := by
  have H : (xl (xput g 51 35 (p2 + p1) p3) fun w1 =>
w1) = out := H
  obtain ⟨w1, e1, H⟩ := xl_elim H
  have hf1 : xfrm fp_X6_setOf_50 g (w1) := xfrm_xput xfrm.rf rfl e1
  subst H
  exact hf1
def fp_X1_strike_44_50 : List (Nat × Option Nat) := [(16, none), (45, none), (51, none)]
def f_X1_strike_44_50 (p2 : Int32) (g : xG) : Option (xG) :=
  (f_X1_lawNow_44_50 p2 1 g).bind fun w1 =>
  (f_X1_lawNow_44_50 p2 2 w1.2).bind fun w2 =>
  xl (f_X6_set_50 2 w1.1 w2.2) fun w3 =>
  xl (f_X6_setOf_50 p2 23 ((f_X6_of_50 p2 23 w3) + 1) w3) fun w4 =>
  xl (f_X6_setOf_50 p2 29 (xmin 99999 ((f_X6_of_50 p2 29 w2.2) + w2.1)) w4) fun w5 =>
  some w5
set_option maxRecDepth 20000 in
theorem c_X1_strike_44_50 {S : List xSh} (hS : xpf SH1 S) {g : xG} {p2 : Int32} (out : xG) (H : f_X1_strike_44_50 p2 g = some out) : xC mX1_strike 4 99 0 0 S [.ref 44, .ref 50, .int p2] g S (fun r g' => r = none ∧ g' = out) := by
  have H : ((f_X1_lawNow_44_50 p2 1 g).bind fun w1 =>
(f_X1_lawNow_44_50 p2 2 w1.2).bind fun w2 =>
xl (f_X6_set_50 2 w1.1 w2.2) fun w3 =>
xl (f_X6_setOf_50 p2 23 ((f_X6_of_50 p2 23 w3) + 1) w3) fun w4 =>
xl (f_X6_setOf_50 p2 29 (xmin 99999 ((f_X6_of_50 p2 29 w2.2) + w2.1)) w4) fun w5 =>
some w5) = some out := H
  refine xC.of 1 SH1 [some (.ref 44), some (.ref 50), some (.int p2), none, none, none] hS (by decide +kernel) rfl (fun _ _ => Nat.le_of_ble_eq_true rfl) (fun _ _ => rfl) ?_
  intro k A hR hrm hz
  refine xb A [(.aload_n 0, 1, 0, 0, .null), (.aload_n 1, 1, 0, 0, .null), (.iload_n 2, 1, 0, 0, .null), (.iconst 1, 1, 0, 0, .int 1)] (pc' := 4) (ls' := [some (.ref 44), some (.ref 50), some (.int p2), none, none, none]) (st' := [.int 1, .int p2, .ref 50, .ref 44]) (g' := g) (by decide +kernel) rfl ?_
  obtain ⟨w1, e1, H⟩ := xbind H
  refine xcallV A (ix := 100) (nxt := 7) hrm hz [.ref 50, .int p2, .int 1] [] 1047 (c_X1_lawNow_44_50 hS _ e1) ok_X1_lawNow (by decide +kernel) rfl (fun r g1 hq => ?_)
  rw [hq.1, hq.2]
  show xW k S 0 0 7 [some (.ref 44), some (.ref 50), some (.int p2), none, none, none] [.int w1.1] w1.2
  refine xb A [(.istore_n 3, 1, 0, 0, .null), (.aload_n 0, 1, 0, 0, .null), (.aload_n 1, 1, 0, 0, .null), (.iload_n 2, 1, 0, 0, .null), (.iconst 2, 1, 0, 0, .int 2)] (pc' := 12) (ls' := [some (.ref 44), some (.ref 50), some (.int p2), some (.int w1.1), none, none]) (st' := [.int 2, .int p2, .ref 50, .ref 44]) (g' := w1.2) (by decide +kernel) rfl ?_
  obtain ⟨w2, e2, H⟩ := xbind H
  refine xcallV A (ix := 100) (nxt := 15) hrm hz [.ref 50, .int p2, .int 2] [] 1047 (c_X1_lawNow_44_50 hS _ e2) ok_X1_lawNow (by decide +kernel) rfl (fun r g1 hq => ?_)
  rw [hq.1, hq.2]
  show xW k S 0 0 15 [some (.ref 44), some (.ref 50), some (.int p2), some (.int w1.1), none, none] [.int w2.1] w2.2
  refine xb A [(.istore 4, 2, 0, 0, .null), (.aload_n 1, 1, 0, 0, .null), (.iload_n 2, 1, 0, 0, .null), (.bipush 29, 2, 0, 0, .int 29)] (pc' := 21) (ls' := [some (.ref 44), some (.ref 50), some (.int p2), some (.int w1.1), some (.int w2.1), none]) (st' := [.int 29, .int p2, .ref 50]) (g' := w2.2) (by decide +kernel) rfl ?_
  refine xcallV A (ix := 51) (nxt := 24) hrm hz [.int p2, .int 29] [] 969 (c_X6_of_50 hS _ rfl) ok_X6_of (by decide +kernel) rfl (fun r g1 hq => ?_)
  rw [hq.1, hq.2]
  show xW k S 0 0 24 [some (.ref 44), some (.ref 50), some (.int p2), some (.int w1.1), some (.int w2.1), none] [.int (f_X6_of_50 p2 29 w2.2)] w2.2
  refine xb A [(.istore 5, 2, 0, 0, .null), (.aload_n 1, 1, 0, 0, .null), (.iconst 2, 1, 0, 0, .int 2), (.iload_n 3, 1, 0, 0, .null)] (pc' := 29) (ls' := [some (.ref 44), some (.ref 50), some (.int p2), some (.int w1.1), some (.int w2.1), some (.int (f_X6_of_50 p2 29 w2.2))]) (st' := [.int w1.1, .int 2, .ref 50]) (g' := w2.2) (by decide +kernel) rfl ?_
  obtain ⟨w3, e3, H⟩ := xl_elim H
  refine xcallV A (ix := 119) (nxt := 32) hrm hz [.int 2, .int w1.1] [] 1065 (c_X6_set_50 hS _ e3) ok_X6_set (by decide +kernel) rfl (fun r g1 hq => ?_)
  rw [hq.1, hq.2]
  show xW k S 0 0 32 [some (.ref 44), some (.ref 50), some (.int p2), some (.int w1.1), some (.int w2.1), some (.int (f_X6_of_50 p2 29 w2.2))] [] w3
  refine xb A [(.aload_n 1, 1, 0, 0, .null), (.iload_n 2, 1, 0, 0, .null), (.bipush 23, 2, 0, 0, .int 23), (.aload_n 1, 1, 0, 0, .null), (.iload_n 2, 1, 0, 0, .null), (.bipush 23, 2, 0, 0, .int 23)] (pc' := 40) (ls' := [some (.ref 44), some (.ref 50), some (.int p2), some (.int w1.1), some (.int w2.1), some (.int (f_X6_of_50 p2 29 w2.2))]) (st' := [.int 23, .int p2, .ref 50, .int 23, .int p2, .ref 50]) (g' := w3) (by decide +kernel) rfl ?_
  refine xcallV A (ix := 51) (nxt := 43) hrm hz [.int p2, .int 23] [.int 23, .int p2, .ref 50] 969 (c_X6_of_50 hS _ rfl) ok_X6_of (by decide +kernel) rfl (fun r g1 hq => ?_)
  rw [hq.1, hq.2]
  show xW k S 0 0 43 [some (.ref 44), some (.ref 50), some (.int p2), some (.int w1.1), some (.int w2.1), some (.int (f_X6_of_50 p2 29 w2.2))] [.int (f_X6_of_50 p2 23 w3), .int 23, .int p2, .ref 50] w3
  refine xb A [(.iconst 1, 1, 0, 0, .int 1), (.iadd, 1, 0, 0, .null)] (pc' := 45) (ls' := [some (.ref 44), some (.ref 50), some (.int p2), some (.int w1.1), some (.int w2.1), some (.int (f_X6_of_50 p2 29 w2.2))]) (st' := [.int ((f_X6_of_50 p2 23 w3) + 1), .int 23, .int p2, .ref 50]) (g' := w3) (by decide +kernel) rfl ?_
  obtain ⟨w4, e4, H⟩ := xl_elim H
  refine xcallV A (ix := 140) (nxt := 48) hrm hz [.int p2, .int 23, .int ((f_X6_of_50 p2 23 w3) + 1)] [] 1070 (c_X6_setOf_50 hS _ e4) ok_X6_setOf (by decide +kernel) rfl (fun r g1 hq => ?_)
  rw [hq.1, hq.2]
  show xW k S 0 0 48 [some (.ref 44), some (.ref 50), some (.int p2), some (.int w1.1), some (.int w2.1), some (.int (f_X6_of_50 p2 29 w2.2))] [] w4
  refine xb A [(.aload_n 1, 1, 0, 0, .null), (.iload_n 2, 1, 0, 0, .null), (.bipush 29, 2, 0, 0, .int 29), (.ldc 144, 2, 0, 0, .int 99999), (.iload 5, 2, 0, 0, .null), (.iload 4, 2, 0, 0, .null), (.iadd, 1, 0, 0, .null)] (pc' := 59) (ls' := [some (.ref 44), some (.ref 50), some (.int p2), some (.int w1.1), some (.int w2.1), some (.int (f_X6_of_50 p2 29 w2.2))]) (st' := [.int ((f_X6_of_50 p2 29 w2.2) + w2.1), .int 99999, .int 29, .int p2, .ref 50]) (g' := w4) (by decide +kernel) rfl ?_
  refine xmmin A (ix := 85) (nxt := 62) hrm [.int 29, .int p2, .ref 50] 995 (by decide +kernel) rfl ?_
  obtain ⟨w5, e5, H⟩ := xl_elim H
  refine xcallV A (ix := 140) (nxt := 65) hrm hz [.int p2, .int 29, .int (xmin 99999 ((f_X6_of_50 p2 29 w2.2) + w2.1))] [] 1070 (c_X6_setOf_50 hS _ e5) ok_X6_setOf (by decide +kernel) rfl (fun r g1 hq => ?_)
  rw [hq.1, hq.2]
  show xW k S 0 0 65 [some (.ref 44), some (.ref 50), some (.int p2), some (.int w1.1), some (.int w2.1), some (.int (f_X6_of_50 p2 29 w2.2))] [] w5
  obtain rfl := Option.some.inj H
  exact xret_v A hR hz (by decide +kernel) ⟨rfl, rfl⟩
theorem fr_X1_strike_44_50 {p2 : Int32} {g : xG} (out : xG) (H : f_X1_strike_44_50 p2 g = some out) : xfrm fp_X1_strike_44_50 g (out) := by
  have H : ((f_X1_lawNow_44_50 p2 1 g).bind fun w1 =>
(f_X1_lawNow_44_50 p2 2 w1.2).bind fun w2 =>
xl (f_X6_set_50 2 w1.1 w2.2) fun w3 =>
xl (f_X6_setOf_50 p2 23 ((f_X6_of_50 p2 23 w3) + 1) w3) fun w4 =>
xl (f_X6_setOf_50 p2 29 (xmin 99999 ((f_X6_of_50 p2 29 w2.2) + w2.1)) w4) fun w5 =>
some w5) = some out := H
  obtain ⟨w1, e1, H⟩ := xbind H
  have hf1 : xfrm fp_X1_strike_44_50 g (w1.2) := xfrm.tr xfrm.rf (fr_X1_lawNow_44_50 _ e1) rfl
  obtain ⟨w2, e2, H⟩ := xbind H
  have hf2 : xfrm fp_X1_strike_44_50 g (w2.2) := xfrm.tr hf1 (fr_X1_lawNow_44_50 _ e2) rfl
  obtain ⟨w3, e3, H⟩ := xl_elim H
  have hf3 : xfrm fp_X1_strike_44_50 g (w3) := xfrm.tr hf2 (fr_X6_set_50 _ e3) rfl
  obtain ⟨w4, e4, H⟩ := xl_elim H
  have hf4 : xfrm fp_X1_strike_44_50 g (w4) := xfrm.tr hf3 (fr_X6_setOf_50 _ e4) rfl
  obtain ⟨w5, e5, H⟩ := xl_elim H
  have hf5 : xfrm fp_X1_strike_44_50 g (w5) := xfrm.tr hf4 (fr_X6_setOf_50 _ e5) rfl
  obtain rfl := Option.some.inj H
  exact hf5
def fp_X1_walk_44_50 : List (Nat × Option Nat) := [(51, none)]
def f_X1_walk_44_50_100  (l2 : Int32) (l5 : Int32) (l7 : Int32) (s0 : Int32) (s1 : Int32) (s2 : Int32) (g : xG) : Option (xG) :=
  xl (f_X6_setOf_50 s2 s1 s0 g) fun w3 =>
  if l7 = 0 then
    xl (f_X6_setOf_50 l2 17 ((f_X6_of_50 l2 17 w3) + (f_X4_milesOf_3 l5 w3)) w3) fun w4 =>
    some w4
  else
    xl (f_X6_setOf_50 l2 17 0 w3) fun w5 =>
    some w5
def f_X1_walk_44_50_74  (l2 : Int32) (l3 : Int32) (l5 : Int32) (l6 : Int32) (s0 : Int32) (g : xG) : Option (xG) :=
  xl (f_X6_setOf_50 l2 5 l6 g) fun w2 =>
  if l6 = l3 then
    f_X1_walk_44_50_100 l2 l5 s0 (-2) 11 l2 w2
  else
    f_X1_walk_44_50_100 l2 l5 s0 l3 11 l2 w2
def f_X1_walk_44_50_35  (l2 : Int32) (l3 : Int32) (l4 : Int32) (s0 : Int32) (g : xG) : Option (xG) :=
  if 0 ≤ s0 then
    if (f_X4_acrossFrom_3 l4 s0 g) = (f_X4_homeOf_3 l2 g) then
      f_X1_walk_44_50_74 l2 l3 s0 (f_X4_acrossFrom_3 l4 s0 g) 1 g
    else
      f_X1_walk_44_50_74 l2 l3 s0 (f_X4_acrossFrom_3 l4 s0 g) 0 g
  else
    some g
def f_X1_walk_44_50 (p2 : Int32) (g : xG) : Option (xG) :=
  if 0 ≤ (f_X6_of_50 p2 11 g) then
    (f_X10_roadToward_38 (f_X6_of_50 p2 5 g) (f_X6_of_50 p2 11 g) g).bind fun w1 =>
    f_X1_walk_44_50_35 p2 (f_X6_of_50 p2 11 g) (f_X6_of_50 p2 5 g) w1 g
  else
    f_X1_walk_44_50_35 p2 (f_X6_of_50 p2 11 g) (f_X6_of_50 p2 5 g) (-2) g
set_option maxRecDepth 20000 in
theorem t_X1_walk_44_50_100 {k : xK} {S : List xSh} {out : xG} (hS : xpf SH1 S) (A : xAt k mX1_walk.2.1 1 SH1 S) (hR : xRet k 0 0 S (fun r g' => r = none ∧ g' = out) mX1_walk.2.2.2) (hrm : xrm k = { frames := 4, cells := 0, slots := 0, locals := 91 }) (hz : xhs k = xb0 k + S.length)   : ∀ (l2 : Int32) (l5 : Int32) (l7 : Int32) (s0 : Int32) (s1 : Int32) (s2 : Int32) (g : xG), f_X1_walk_44_50_100 l2 l5 l7 s0 s1 s2 g = some out → xW k S 0 0 100 [some (.ref 44), some (.ref 50), some (.int l2), none, none, some (.int l5), none, some (.int l7)] [.int s0, .int s1, .int s2, .ref 50] g := by
  intro l2 l5 l7 s0 s1 s2 g H
  have H : (xl (f_X6_setOf_50 s2 s1 s0 g) fun w3 =>
if l7 = 0 then
  xl (f_X6_setOf_50 l2 17 ((f_X6_of_50 l2 17 w3) + (f_X4_milesOf_3 l5 w3)) w3) fun w4 =>
  some w4
else
  xl (f_X6_setOf_50 l2 17 0 w3) fun w5 =>
  some w5) = some out := H
  obtain ⟨w3, e3, H⟩ := xl_elim H
  refine xcallV A (ix := 140) (nxt := 103) hrm hz [.int s2, .int s1, .int s0] [] 1070 (c_X6_setOf_50 hS _ e3) ok_X6_setOf (by decide +kernel) rfl (fun r g1 hq => ?_)
  rw [hq.1, hq.2]
  show xW k S 0 0 103 [some (.ref 44), some (.ref 50), some (.int l2), none, none, some (.int l5), none, some (.int l7)] [] w3
  refine xb A [(.aload_n 1, 1, 0, 0, .null), (.iload_n 2, 1, 0, 0, .null), (.bipush 17, 2, 0, 0, .int 17), (.iload 7, 2, 0, 0, .null)] (pc' := 109) (ls' := [some (.ref 44), some (.ref 50), some (.int l2), none, none, some (.int l5), none, some (.int l7)]) (st' := [.int l7, .int 17, .int l2, .ref 50]) (g' := w3) (by decide +kernel) rfl ?_
  refine xif_eq A (7) 116 112 (by decide +kernel) (fun h5 => ?_) (fun h5 => ?_)
  · rw [if_pos h5] at H
    refine xb A [(.aload_n 1, 1, 0, 0, .null), (.iload_n 2, 1, 0, 0, .null), (.bipush 17, 2, 0, 0, .int 17)] (pc' := 120) (ls' := [some (.ref 44), some (.ref 50), some (.int l2), none, none, some (.int l5), none, some (.int l7)]) (st' := [.int 17, .int l2, .ref 50, .int 17, .int l2, .ref 50]) (g' := w3) (by decide +kernel) rfl ?_
    refine xcallV A (ix := 51) (nxt := 123) hrm hz [.int l2, .int 17] [.int 17, .int l2, .ref 50] 969 (c_X6_of_50 hS _ rfl) ok_X6_of (by decide +kernel) rfl (fun r g1 hq => ?_)
    rw [hq.1, hq.2]
    show xW k S 0 0 123 [some (.ref 44), some (.ref 50), some (.int l2), none, none, some (.int l5), none, some (.int l7)] [.int (f_X6_of_50 l2 17 w3), .int 17, .int l2, .ref 50] w3
    refine xb A [(.aload_n 0, 1, 0, 0, .null), (.getfield 17, 3, 44, 0, .ref 3), (.iload 5, 2, 0, 0, .null)] (pc' := 129) (ls' := [some (.ref 44), some (.ref 50), some (.int l2), none, none, some (.int l5), none, some (.int l7)]) (st' := [.int l5, .ref 3, .int (f_X6_of_50 l2 17 w3), .int 17, .int l2, .ref 50]) (g' := w3) (by decide +kernel) rfl ?_
    refine xcallV A (ix := 151) (nxt := 132) hrm hz [.int l5] [.int (f_X6_of_50 l2 17 w3), .int 17, .int l2, .ref 50] 1082 (c_X4_milesOf_3 hS _ rfl) ok_X4_milesOf (by decide +kernel) rfl (fun r g1 hq => ?_)
    rw [hq.1, hq.2]
    show xW k S 0 0 132 [some (.ref 44), some (.ref 50), some (.int l2), none, none, some (.int l5), none, some (.int l7)] [.int (f_X4_milesOf_3 l5 w3), .int (f_X6_of_50 l2 17 w3), .int 17, .int l2, .ref 50] w3
    refine xb A [(.iadd, 1, 0, 0, .null)] (pc' := 133) (ls' := [some (.ref 44), some (.ref 50), some (.int l2), none, none, some (.int l5), none, some (.int l7)]) (st' := [.int ((f_X6_of_50 l2 17 w3) + (f_X4_milesOf_3 l5 w3)), .int 17, .int l2, .ref 50]) (g' := w3) (by decide +kernel) rfl ?_
    obtain ⟨w4, e4, H⟩ := xl_elim H
    refine xcallV A (ix := 140) (nxt := 136) hrm hz [.int l2, .int 17, .int ((f_X6_of_50 l2 17 w3) + (f_X4_milesOf_3 l5 w3))] [] 1070 (c_X6_setOf_50 hS _ e4) ok_X6_setOf (by decide +kernel) rfl (fun r g1 hq => ?_)
    rw [hq.1, hq.2]
    show xW k S 0 0 136 [some (.ref 44), some (.ref 50), some (.int l2), none, none, some (.int l5), none, some (.int l7)] [] w4
    obtain rfl := Option.some.inj H
    exact xret_v A hR hz (by decide +kernel) ⟨rfl, rfl⟩
  · rw [if_neg h5] at H
    refine xb A [(.iconst 0, 1, 0, 0, .int 0)] (pc' := 113) (ls' := [some (.ref 44), some (.ref 50), some (.int l2), none, none, some (.int l5), none, some (.int l7)]) (st' := [.int 0, .int 17, .int l2, .ref 50]) (g' := w3) (by decide +kernel) rfl ?_
    refine xgoto A (20) 133 (by decide +kernel) ?_
    obtain ⟨w5, e5, H⟩ := xl_elim H
    refine xcallV A (ix := 140) (nxt := 136) hrm hz [.int l2, .int 17, .int 0] [] 1070 (c_X6_setOf_50 hS _ e5) ok_X6_setOf (by decide +kernel) rfl (fun r g1 hq => ?_)
    rw [hq.1, hq.2]
    show xW k S 0 0 136 [some (.ref 44), some (.ref 50), some (.int l2), none, none, some (.int l5), none, some (.int l7)] [] w5
    obtain rfl := Option.some.inj H
    exact xret_v A hR hz (by decide +kernel) ⟨rfl, rfl⟩
theorem fr_X1_walk_44_50_100   : ∀ (l2 : Int32) (l5 : Int32) (l7 : Int32) (s0 : Int32) (s1 : Int32) (s2 : Int32) (g : xG) (out : xG), f_X1_walk_44_50_100 l2 l5 l7 s0 s1 s2 g = some out → xfrm fp_X1_walk_44_50 g (out) := by
  intro l2 l5 l7 s0 s1 s2 g out H
  have H : (xl (f_X6_setOf_50 s2 s1 s0 g) fun w3 =>
if l7 = 0 then
  xl (f_X6_setOf_50 l2 17 ((f_X6_of_50 l2 17 w3) + (f_X4_milesOf_3 l5 w3)) w3) fun w4 =>
  some w4
else
  xl (f_X6_setOf_50 l2 17 0 w3) fun w5 =>
  some w5) = some out := H
  obtain ⟨w3, e3, H⟩ := xl_elim H
  have hf2 : xfrm fp_X1_walk_44_50 g (w3) := xfrm.tr xfrm.rf (fr_X6_setOf_50 _ e3) rfl
  by_cases h5 : l7 = 0
  · rw [if_pos h5] at H
    obtain ⟨w4, e4, H⟩ := xl_elim H
    have hf3 : xfrm fp_X1_walk_44_50 g (w4) := xfrm.tr hf2 (fr_X6_setOf_50 _ e4) rfl
    obtain rfl := Option.some.inj H
    exact hf3
  · rw [if_neg h5] at H
    obtain ⟨w5, e5, H⟩ := xl_elim H
    have hf4 : xfrm fp_X1_walk_44_50 g (w5) := xfrm.tr hf2 (fr_X6_setOf_50 _ e5) rfl
    obtain rfl := Option.some.inj H
    exact hf4
set_option maxRecDepth 20000 in
theorem t_X1_walk_44_50_74 {k : xK} {S : List xSh} {out : xG} (hS : xpf SH1 S) (A : xAt k mX1_walk.2.1 1 SH1 S) (hR : xRet k 0 0 S (fun r g' => r = none ∧ g' = out) mX1_walk.2.2.2) (hrm : xrm k = { frames := 4, cells := 0, slots := 0, locals := 91 }) (hz : xhs k = xb0 k + S.length)   : ∀ (l2 : Int32) (l3 : Int32) (l5 : Int32) (l6 : Int32) (s0 : Int32) (g : xG), f_X1_walk_44_50_74 l2 l3 l5 l6 s0 g = some out → xW k S 0 0 74 [some (.ref 44), some (.ref 50), some (.int l2), some (.int l3), none, some (.int l5), some (.int l6), none] [.int s0] g := by
  intro l2 l3 l5 l6 s0 g H
  have H : (xl (f_X6_setOf_50 l2 5 l6 g) fun w2 =>
if l6 = l3 then
  f_X1_walk_44_50_100 l2 l5 s0 (-2) 11 l2 w2
else
  f_X1_walk_44_50_100 l2 l5 s0 l3 11 l2 w2) = some out := H
  refine xb A [(.istore 7, 2, 0, 0, .null), (.aload_n 1, 1, 0, 0, .null), (.iload_n 2, 1, 0, 0, .null), (.iconst 5, 1, 0, 0, .int 5), (.iload 6, 2, 0, 0, .null)] (pc' := 81) (ls' := [some (.ref 44), some (.ref 50), some (.int l2), some (.int l3), none, some (.int l5), some (.int l6), some (.int s0)]) (st' := [.int l6, .int 5, .int l2, .ref 50]) (g' := g) (by decide +kernel) rfl ?_
  obtain ⟨w2, e2, H⟩ := xl_elim H
  refine xcallV A (ix := 140) (nxt := 84) hrm hz [.int l2, .int 5, .int l6] [] 1070 (c_X6_setOf_50 hS _ e2) ok_X6_setOf (by decide +kernel) rfl (fun r g1 hq => ?_)
  rw [hq.1, hq.2]
  show xW k S 0 0 84 [some (.ref 44), some (.ref 50), some (.int l2), some (.int l3), none, some (.int l5), some (.int l6), some (.int s0)] [] w2
  refine xb A [(.aload_n 1, 1, 0, 0, .null), (.iload_n 2, 1, 0, 0, .null), (.bipush 11, 2, 0, 0, .int 11), (.iload 6, 2, 0, 0, .null), (.iload_n 3, 1, 0, 0, .null)] (pc' := 91) (ls' := [some (.ref 44), some (.ref 50), some (.int l2), some (.int l3), none, some (.int l5), some (.int l6), some (.int s0)]) (st' := [.int l3, .int l6, .int 11, .int l2, .ref 50]) (g' := w2) (by decide +kernel) rfl ?_
  refine xic_ne A (8) 99 94 (by decide +kernel) (fun h4 => ?_) (fun h4 => ?_)
  · rw [if_neg h4] at H
    refine xb A [(.iload_n 3, 1, 0, 0, .null)] (pc' := 100) (ls' := [some (.ref 44), some (.ref 50), some (.int l2), some (.int l3), none, some (.int l5), some (.int l6), some (.int s0)]) (st' := [.int l3, .int 11, .int l2, .ref 50]) (g' := w2) (by decide +kernel) rfl ?_
    refine xweak (ls' := [some (.ref 44), some (.ref 50), some (.int l2), none, none, some (.int l5), none, some (.int s0)]) (by exact ⟨rfl, ⟨rfl, ⟨rfl, ⟨rfl, ⟨rfl, trivial⟩⟩⟩⟩⟩) ?_
    exact t_X1_walk_44_50_100 hS A hR hrm hz _ _ _ _ _ _ _ H
  · rw [if_pos h4] at H
    refine xb A [(.bipush (-2), 2, 0, 0, .int (-2))] (pc' := 96) (ls' := [some (.ref 44), some (.ref 50), some (.int l2), some (.int l3), none, some (.int l5), some (.int l6), some (.int s0)]) (st' := [.int (-2), .int 11, .int l2, .ref 50]) (g' := w2) (by decide +kernel) rfl ?_
    refine xgoto A (4) 100 (by decide +kernel) ?_
    refine xweak (ls' := [some (.ref 44), some (.ref 50), some (.int l2), none, none, some (.int l5), none, some (.int s0)]) (by exact ⟨rfl, ⟨rfl, ⟨rfl, ⟨rfl, ⟨rfl, trivial⟩⟩⟩⟩⟩) ?_
    exact t_X1_walk_44_50_100 hS A hR hrm hz _ _ _ _ _ _ _ H
theorem fr_X1_walk_44_50_74   : ∀ (l2 : Int32) (l3 : Int32) (l5 : Int32) (l6 : Int32) (s0 : Int32) (g : xG) (out : xG), f_X1_walk_44_50_74 l2 l3 l5 l6 s0 g = some out → xfrm fp_X1_walk_44_50 g (out) := by
  intro l2 l3 l5 l6 s0 g out H
  have H : (xl (f_X6_setOf_50 l2 5 l6 g) fun w2 =>
if l6 = l3 then
  f_X1_walk_44_50_100 l2 l5 s0 (-2) 11 l2 w2
else
  f_X1_walk_44_50_100 l2 l5 s0 l3 11 l2 w2) = some out := H
  obtain ⟨w2, e2, H⟩ := xl_elim H
  have hf1 : xfrm fp_X1_walk_44_50 g (w2) := xfrm.tr xfrm.rf (fr_X6_setOf_50 _ e2) rfl
  by_cases h4 : l6 = l3
  · rw [if_pos h4] at H
    exact xfrm.tr hf1 (fr_X1_walk_44_50_100 _ _ _ _ _ _ _ _ H) rfl
  · rw [if_neg h4] at H
    exact xfrm.tr hf1 (fr_X1_walk_44_50_100 _ _ _ _ _ _ _ _ H) rfl
set_option maxRecDepth 20000 in
theorem t_X1_walk_44_50_35 {k : xK} {S : List xSh} {out : xG} (hS : xpf SH1 S) (A : xAt k mX1_walk.2.1 1 SH1 S) (hR : xRet k 0 0 S (fun r g' => r = none ∧ g' = out) mX1_walk.2.2.2) (hrm : xrm k = { frames := 4, cells := 0, slots := 0, locals := 91 }) (hz : xhs k = xb0 k + S.length)   : ∀ (l2 : Int32) (l3 : Int32) (l4 : Int32) (s0 : Int32) (g : xG), f_X1_walk_44_50_35 l2 l3 l4 s0 g = some out → xW k S 0 0 35 [some (.ref 44), some (.ref 50), some (.int l2), some (.int l3), some (.int l4), none, none, none] [.int s0] g := by
  intro l2 l3 l4 s0 g H
  have H : (if 0 ≤ s0 then
  if (f_X4_acrossFrom_3 l4 s0 g) = (f_X4_homeOf_3 l2 g) then
    f_X1_walk_44_50_74 l2 l3 s0 (f_X4_acrossFrom_3 l4 s0 g) 1 g
  else
    f_X1_walk_44_50_74 l2 l3 s0 (f_X4_acrossFrom_3 l4 s0 g) 0 g
else
  some g) = some out := H
  refine xb A [(.istore 5, 2, 0, 0, .null), (.iload 5, 2, 0, 0, .null)] (pc' := 39) (ls' := [some (.ref 44), some (.ref 50), some (.int l2), some (.int l3), some (.int l4), some (.int s0), none, none]) (st' := [.int s0]) (g' := g) (by decide +kernel) rfl ?_
  refine xif_ge A (4) 43 42 (by decide +kernel) (fun h2 => ?_) (fun h2 => ?_)
  · rw [if_pos h2] at H
    refine xb A [(.aload_n 0, 1, 0, 0, .null), (.getfield 17, 3, 44, 0, .ref 3), (.iload 4, 2, 0, 0, .null), (.iload 5, 2, 0, 0, .null)] (pc' := 51) (ls' := [some (.ref 44), some (.ref 50), some (.int l2), some (.int l3), some (.int l4), some (.int s0), none, none]) (st' := [.int s0, .int l4, .ref 3]) (g' := g) (by decide +kernel) rfl ?_
    refine xcallV A (ix := 148) (nxt := 54) hrm hz [.int l4, .int s0] [] 1081 (c_X4_acrossFrom_3 hS _ rfl) ok_X4_acrossFrom (by decide +kernel) rfl (fun r g1 hq => ?_)
    rw [hq.1, hq.2]
    show xW k S 0 0 54 [some (.ref 44), some (.ref 50), some (.int l2), some (.int l3), some (.int l4), some (.int s0), none, none] [.int (f_X4_acrossFrom_3 l4 s0 g)] g
    refine xb A [(.istore 6, 2, 0, 0, .null), (.iload 6, 2, 0, 0, .null), (.aload_n 0, 1, 0, 0, .null), (.getfield 17, 3, 44, 0, .ref 3), (.iload_n 2, 1, 0, 0, .null)] (pc' := 63) (ls' := [some (.ref 44), some (.ref 50), some (.int l2), some (.int l3), some (.int l4), some (.int s0), some (.int (f_X4_acrossFrom_3 l4 s0 g)), none]) (st' := [.int l2, .ref 3, .int (f_X4_acrossFrom_3 l4 s0 g)]) (g' := g) (by decide +kernel) rfl ?_
    refine xcallV A (ix := 25) (nxt := 66) hrm hz [.int l2] [.int (f_X4_acrossFrom_3 l4 s0 g)] 957 (c_X4_homeOf_3 hS _ rfl) ok_X4_homeOf (by decide +kernel) rfl (fun r g1 hq => ?_)
    rw [hq.1, hq.2]
    show xW k S 0 0 66 [some (.ref 44), some (.ref 50), some (.int l2), some (.int l3), some (.int l4), some (.int s0), some (.int (f_X4_acrossFrom_3 l4 s0 g)), none] [.int (f_X4_homeOf_3 l2 g), .int (f_X4_acrossFrom_3 l4 s0 g)] g
    refine xic_ne A (7) 73 69 (by decide +kernel) (fun h3 => ?_) (fun h3 => ?_)
    · rw [if_neg h3] at H
      refine xb A [(.iconst 0, 1, 0, 0, .int 0)] (pc' := 74) (ls' := [some (.ref 44), some (.ref 50), some (.int l2), some (.int l3), some (.int l4), some (.int s0), some (.int (f_X4_acrossFrom_3 l4 s0 g)), none]) (st' := [.int 0]) (g' := g) (by decide +kernel) rfl ?_
      refine xweak (ls' := [some (.ref 44), some (.ref 50), some (.int l2), some (.int l3), none, some (.int s0), some (.int (f_X4_acrossFrom_3 l4 s0 g)), none]) (by exact ⟨rfl, ⟨rfl, ⟨rfl, ⟨rfl, ⟨rfl, ⟨rfl, trivial⟩⟩⟩⟩⟩⟩) ?_
      exact t_X1_walk_44_50_74 hS A hR hrm hz _ _ _ _ _ _ H
    · rw [if_pos h3] at H
      refine xb A [(.iconst 1, 1, 0, 0, .int 1)] (pc' := 70) (ls' := [some (.ref 44), some (.ref 50), some (.int l2), some (.int l3), some (.int l4), some (.int s0), some (.int (f_X4_acrossFrom_3 l4 s0 g)), none]) (st' := [.int 1]) (g' := g) (by decide +kernel) rfl ?_
      refine xgoto A (4) 74 (by decide +kernel) ?_
      refine xweak (ls' := [some (.ref 44), some (.ref 50), some (.int l2), some (.int l3), none, some (.int s0), some (.int (f_X4_acrossFrom_3 l4 s0 g)), none]) (by exact ⟨rfl, ⟨rfl, ⟨rfl, ⟨rfl, ⟨rfl, ⟨rfl, trivial⟩⟩⟩⟩⟩⟩) ?_
      exact t_X1_walk_44_50_74 hS A hR hrm hz _ _ _ _ _ _ H
  · rw [if_neg h2] at H
    obtain rfl := Option.some.inj H
    exact xret_v A hR hz (by decide +kernel) ⟨rfl, rfl⟩
theorem fr_X1_walk_44_50_35   : ∀ (l2 : Int32) (l3 : Int32) (l4 : Int32) (s0 : Int32) (g : xG) (out : xG), f_X1_walk_44_50_35 l2 l3 l4 s0 g = some out → xfrm fp_X1_walk_44_50 g (out) := by
  intro l2 l3 l4 s0 g out H
  have H : (if 0 ≤ s0 then
  if (f_X4_acrossFrom_3 l4 s0 g) = (f_X4_homeOf_3 l2 g) then
    f_X1_walk_44_50_74 l2 l3 s0 (f_X4_acrossFrom_3 l4 s0 g) 1 g
  else
    f_X1_walk_44_50_74 l2 l3 s0 (f_X4_acrossFrom_3 l4 s0 g) 0 g
else
  some g) = some out := H
  by_cases h2 : 0 ≤ s0
  · rw [if_pos h2] at H
    by_cases h3 : (f_X4_acrossFrom_3 l4 s0 g) = (f_X4_homeOf_3 l2 g)
    · rw [if_pos h3] at H
      exact xfrm.tr xfrm.rf (fr_X1_walk_44_50_74 _ _ _ _ _ _ _ H) rfl
    · rw [if_neg h3] at H
      exact xfrm.tr xfrm.rf (fr_X1_walk_44_50_74 _ _ _ _ _ _ _ H) rfl
  · rw [if_neg h2] at H
    obtain rfl := Option.some.inj H
    exact xfrm.rf
set_option maxRecDepth 20000 in
theorem c_X1_walk_44_50 {S : List xSh} (hS : xpf SH1 S) {g : xG} {p2 : Int32} (out : xG) (H : f_X1_walk_44_50 p2 g = some out) : xC mX1_walk 4 91 0 0 S [.ref 44, .ref 50, .int p2] g S (fun r g' => r = none ∧ g' = out) := by
  have H : (if 0 ≤ (f_X6_of_50 p2 11 g) then
  (f_X10_roadToward_38 (f_X6_of_50 p2 5 g) (f_X6_of_50 p2 11 g) g).bind fun w1 =>
  f_X1_walk_44_50_35 p2 (f_X6_of_50 p2 11 g) (f_X6_of_50 p2 5 g) w1 g
else
  f_X1_walk_44_50_35 p2 (f_X6_of_50 p2 11 g) (f_X6_of_50 p2 5 g) (-2) g) = some out := H
  refine xC.of 1 SH1 [some (.ref 44), some (.ref 50), some (.int p2), none, none, none, none, none] hS (by decide +kernel) rfl (fun _ _ => Nat.le_of_ble_eq_true rfl) (fun _ _ => rfl) ?_
  intro k A hR hrm hz
  refine xb A [(.aload_n 1, 1, 0, 0, .null), (.iload_n 2, 1, 0, 0, .null), (.bipush 11, 2, 0, 0, .int 11)] (pc' := 4) (ls' := [some (.ref 44), some (.ref 50), some (.int p2), none, none, none, none, none]) (st' := [.int 11, .int p2, .ref 50]) (g' := g) (by decide +kernel) rfl ?_
  refine xcallV A (ix := 51) (nxt := 7) hrm hz [.int p2, .int 11] [] 969 (c_X6_of_50 hS _ rfl) ok_X6_of (by decide +kernel) rfl (fun r g1 hq => ?_)
  rw [hq.1, hq.2]
  show xW k S 0 0 7 [some (.ref 44), some (.ref 50), some (.int p2), none, none, none, none, none] [.int (f_X6_of_50 p2 11 g)] g
  refine xb A [(.istore_n 3, 1, 0, 0, .null), (.aload_n 1, 1, 0, 0, .null), (.iload_n 2, 1, 0, 0, .null), (.iconst 5, 1, 0, 0, .int 5)] (pc' := 11) (ls' := [some (.ref 44), some (.ref 50), some (.int p2), some (.int (f_X6_of_50 p2 11 g)), none, none, none, none]) (st' := [.int 5, .int p2, .ref 50]) (g' := g) (by decide +kernel) rfl ?_
  refine xcallV A (ix := 51) (nxt := 14) hrm hz [.int p2, .int 5] [] 969 (c_X6_of_50 hS _ rfl) ok_X6_of (by decide +kernel) rfl (fun r g1 hq => ?_)
  rw [hq.1, hq.2]
  show xW k S 0 0 14 [some (.ref 44), some (.ref 50), some (.int p2), some (.int (f_X6_of_50 p2 11 g)), none, none, none, none] [.int (f_X6_of_50 p2 5 g)] g
  refine xb A [(.istore 4, 2, 0, 0, .null), (.iload_n 3, 1, 0, 0, .null)] (pc' := 17) (ls' := [some (.ref 44), some (.ref 50), some (.int p2), some (.int (f_X6_of_50 p2 11 g)), some (.int (f_X6_of_50 p2 5 g)), none, none, none]) (st' := [.int (f_X6_of_50 p2 11 g)]) (g' := g) (by decide +kernel) rfl ?_
  refine xif_ge A (8) 25 20 (by decide +kernel) (fun h1 => ?_) (fun h1 => ?_)
  · rw [if_pos h1] at H
    refine xb A [(.aload_n 0, 1, 0, 0, .null), (.getfield 21, 3, 44, 1, .ref 38), (.iload 4, 2, 0, 0, .null), (.iload_n 3, 1, 0, 0, .null)] (pc' := 32) (ls' := [some (.ref 44), some (.ref 50), some (.int p2), some (.int (f_X6_of_50 p2 11 g)), some (.int (f_X6_of_50 p2 5 g)), none, none, none]) (st' := [.int (f_X6_of_50 p2 11 g), .int (f_X6_of_50 p2 5 g), .ref 38]) (g' := g) (by decide +kernel) rfl ?_
    obtain ⟨w1, e1, H⟩ := xbind H
    refine xcallV A (ix := 145) (nxt := 35) hrm hz [.int (f_X6_of_50 p2 5 g), .int (f_X6_of_50 p2 11 g)] [] 1076 (c_X10_roadToward_38 hS _ e1) ok_X10_roadToward (by decide +kernel) rfl (fun r g1 hq => ?_)
    rw [hq.1, hq.2]
    show xW k S 0 0 35 [some (.ref 44), some (.ref 50), some (.int p2), some (.int (f_X6_of_50 p2 11 g)), some (.int (f_X6_of_50 p2 5 g)), none, none, none] [.int w1] g
    exact t_X1_walk_44_50_35 hS A hR hrm hz _ _ _ _ _ H
  · rw [if_neg h1] at H
    refine xb A [(.bipush (-2), 2, 0, 0, .int (-2))] (pc' := 22) (ls' := [some (.ref 44), some (.ref 50), some (.int p2), some (.int (f_X6_of_50 p2 11 g)), some (.int (f_X6_of_50 p2 5 g)), none, none, none]) (st' := [.int (-2)]) (g' := g) (by decide +kernel) rfl ?_
    refine xgoto A (13) 35 (by decide +kernel) ?_
    exact t_X1_walk_44_50_35 hS A hR hrm hz _ _ _ _ _ H
theorem fr_X1_walk_44_50 {p2 : Int32} {g : xG} (out : xG) (H : f_X1_walk_44_50 p2 g = some out) : xfrm fp_X1_walk_44_50 g (out) := by
  have H : (if 0 ≤ (f_X6_of_50 p2 11 g) then
  (f_X10_roadToward_38 (f_X6_of_50 p2 5 g) (f_X6_of_50 p2 11 g) g).bind fun w1 =>
  f_X1_walk_44_50_35 p2 (f_X6_of_50 p2 11 g) (f_X6_of_50 p2 5 g) w1 g
else
  f_X1_walk_44_50_35 p2 (f_X6_of_50 p2 11 g) (f_X6_of_50 p2 5 g) (-2) g) = some out := H
  by_cases h1 : 0 ≤ (f_X6_of_50 p2 11 g)
  · rw [if_pos h1] at H
    obtain ⟨w1, e1, H⟩ := xbind H
    exact xfrm.tr xfrm.rf (fr_X1_walk_44_50_35 _ _ _ _ _ _ H) rfl
  · rw [if_neg h1] at H
    exact xfrm.tr xfrm.rf (fr_X1_walk_44_50_35 _ _ _ _ _ _ H) rfl
def fp_X1_goThroughNoon_44_50 : List (Nat × Option Nat) := [(16, none), (45, none), (51, none)]
def f_X1_goThroughNoon_44_50_78  : Nat → Int32 → xG → Option (xG)
  | 0, _, _ => none
  | n + 1, l5, g =>
    if (f_X4_people_3 g) ≤ l5 then
      xl (f_X6_set_50 0 ((f_X6_get_50 0 g) + 1) g) fun w4 =>
      some w4
    else
      (f_X1_walk_44_50 l5 g).bind fun w5 =>
      f_X1_goThroughNoon_44_50_78 n (l5 + 1) w5
def f_X1_goThroughNoon_44_50_47  (l4 : Int32) (g : xG) : Option (xG) :=
  if l4 < 0 then
    xl (f_X6_set_50 2 0 g) fun w2 =>
    xl (f_X6_set_50 1 l4 w2) fun w3 =>
    f_X1_goThroughNoon_44_50_78 xN 0 w3
  else
    (f_X1_strike_44_50 l4 g).bind fun w6 =>
    xl (f_X6_set_50 1 l4 w6) fun w7 =>
    f_X1_goThroughNoon_44_50_78 xN 0 w7
def f_X1_goThroughNoon_44_50 (p2 : Int32) (p3 : Int32) (g : xG) : Option (xG) :=
  (f_X1_ringerOf_44_50 g).bind fun w1 =>
  if w1.1 < 0 then
    f_X1_goThroughNoon_44_50_47 w1.1 w1.2
  else
    if p3 = 0 then
      f_X1_goThroughNoon_44_50_47 w1.1 w1.2
    else
      (f_X1_isFoundOut_44_50 w1.1 p2 w1.2).bind fun w8 =>
      if w8.1 = 0 then
        f_X1_goThroughNoon_44_50_47 w1.1 w8.2
      else
        xl (f_X6_set_50 3 ((f_X6_get_50 3 w8.2) ||| (f_X11_bit w1.1)) w8.2) fun w9 =>
        f_X1_goThroughNoon_44_50_47 (-2) w9
set_option maxRecDepth 20000 in
theorem t_X1_goThroughNoon_44_50_78 {k : xK} {S : List xSh} {out : xG} (hS : xpf SH1 S) (A : xAt k mX1_goThroughNoon.2.1 1 SH1 S) (hR : xRet k 0 0 S (fun r g' => r = none ∧ g' = out) mX1_goThroughNoon.2.2.2) (hrm : xrm k = { frames := 5, cells := 0, slots := 0, locals := 124 }) (hz : xhs k = xb0 k + S.length)   : ∀ (n : Nat) (l5 : Int32) (g : xG), f_X1_goThroughNoon_44_50_78 n l5 g = some out → xW k S 0 0 78 [some (.ref 44), some (.ref 50), none, none, none, some (.int l5)] [] g := by
  intro n
  induction n with
  | zero => intro l5 g H; exact absurd H (by simp [f_X1_goThroughNoon_44_50_78])
  | succ n ih =>
    intro l5 g H
    have H : (if (f_X4_people_3 g) ≤ l5 then
  xl (f_X6_set_50 0 ((f_X6_get_50 0 g) + 1) g) fun w4 =>
  some w4
else
  (f_X1_walk_44_50 l5 g).bind fun w5 =>
  f_X1_goThroughNoon_44_50_78 n (l5 + 1) w5) = some out := H
    refine xb A [(.iload 5, 2, 0, 0, .null), (.aload_n 0, 1, 0, 0, .null), (.getfield 17, 3, 44, 0, .ref 3)] (pc' := 84) (ls' := [some (.ref 44), some (.ref 50), none, none, none, some (.int l5)]) (st' := [.ref 3, .int l5]) (g' := g) (by decide +kernel) rfl ?_
    refine xcallV A (ix := 60) (nxt := 87) hrm hz [] [.int l5] 972 (c_X4_people_3 hS _ rfl) ok_X4_people (by decide +kernel) rfl (fun r g1 hq => ?_)
    rw [hq.1, hq.2]
    show xW k S 0 0 87 [some (.ref 44), some (.ref 50), none, none, none, some (.int l5)] [.int (f_X4_people_3 g), .int l5] g
    refine xic_ge A (16) 103 90 (by decide +kernel) (fun h3 => ?_) (fun h3 => ?_)
    · rw [if_pos h3] at H
      refine xb A [(.aload_n 1, 1, 0, 0, .null), (.iconst 0, 1, 0, 0, .int 0), (.aload_n 1, 1, 0, 0, .null), (.iconst 0, 1, 0, 0, .int 0)] (pc' := 107) (ls' := [some (.ref 44), some (.ref 50), none, none, none, some (.int l5)]) (st' := [.int 0, .ref 50, .int 0, .ref 50]) (g' := g) (by decide +kernel) rfl ?_
      refine xcallV A (ix := 57) (nxt := 110) hrm hz [.int 0] [.int 0, .ref 50] 971 (c_X6_get_50 hS _ rfl) ok_X6_get (by decide +kernel) rfl (fun r g1 hq => ?_)
      rw [hq.1, hq.2]
      show xW k S 0 0 110 [some (.ref 44), some (.ref 50), none, none, none, some (.int l5)] [.int (f_X6_get_50 0 g), .int 0, .ref 50] g
      refine xb A [(.iconst 1, 1, 0, 0, .int 1), (.iadd, 1, 0, 0, .null)] (pc' := 112) (ls' := [some (.ref 44), some (.ref 50), none, none, none, some (.int l5)]) (st' := [.int ((f_X6_get_50 0 g) + 1), .int 0, .ref 50]) (g' := g) (by decide +kernel) rfl ?_
      obtain ⟨w4, e4, H⟩ := xl_elim H
      refine xcallV A (ix := 119) (nxt := 115) hrm hz [.int 0, .int ((f_X6_get_50 0 g) + 1)] [] 1065 (c_X6_set_50 hS _ e4) ok_X6_set (by decide +kernel) rfl (fun r g1 hq => ?_)
      rw [hq.1, hq.2]
      show xW k S 0 0 115 [some (.ref 44), some (.ref 50), none, none, none, some (.int l5)] [] w4
      obtain rfl := Option.some.inj H
      exact xret_v A hR hz (by decide +kernel) ⟨rfl, rfl⟩
    · rw [if_neg h3] at H
      refine xb A [(.aload_n 0, 1, 0, 0, .null), (.aload_n 1, 1, 0, 0, .null), (.iload 5, 2, 0, 0, .null)] (pc' := 94) (ls' := [some (.ref 44), some (.ref 50), none, none, none, some (.int l5)]) (st' := [.int l5, .ref 50, .ref 44]) (g' := g) (by decide +kernel) rfl ?_
      obtain ⟨w5, e5, H⟩ := xbind H
      refine xcallV A (ix := 127) (nxt := 97) hrm hz [.ref 50, .int l5] [] 1072 (c_X1_walk_44_50 hS _ e5) ok_X1_walk (by decide +kernel) rfl (fun r g1 hq => ?_)
      rw [hq.1, hq.2]
      show xW k S 0 0 97 [some (.ref 44), some (.ref 50), none, none, none, some (.int l5)] [] w5
      refine xb A [(.iinc 5 1, 3, 0, 0, .null)] (pc' := 100) (ls' := [some (.ref 44), some (.ref 50), none, none, none, some (.int (l5 + 1))]) (st' := []) (g' := w5) (by decide +kernel) rfl ?_
      refine xgoto A (-22) 78 (by decide +kernel) ?_
      exact ih _ _ H
theorem fr_X1_goThroughNoon_44_50_78   : ∀ (n : Nat) (l5 : Int32) (g : xG) (out : xG), f_X1_goThroughNoon_44_50_78 n l5 g = some out → xfrm fp_X1_goThroughNoon_44_50 g (out) := by
  intro n
  induction n with
  | zero => intro l5 g out H; exact absurd H (by simp [f_X1_goThroughNoon_44_50_78])
  | succ n ih =>
    intro l5 g out H
    have H : (if (f_X4_people_3 g) ≤ l5 then
  xl (f_X6_set_50 0 ((f_X6_get_50 0 g) + 1) g) fun w4 =>
  some w4
else
  (f_X1_walk_44_50 l5 g).bind fun w5 =>
  f_X1_goThroughNoon_44_50_78 n (l5 + 1) w5) = some out := H
    by_cases h3 : (f_X4_people_3 g) ≤ l5
    · rw [if_pos h3] at H
      obtain ⟨w4, e4, H⟩ := xl_elim H
      have hf4 : xfrm fp_X1_goThroughNoon_44_50 g (w4) := xfrm.tr xfrm.rf (fr_X6_set_50 _ e4) rfl
      obtain rfl := Option.some.inj H
      exact hf4
    · rw [if_neg h3] at H
      obtain ⟨w5, e5, H⟩ := xbind H
      have hf5 : xfrm fp_X1_goThroughNoon_44_50 g (w5) := xfrm.tr xfrm.rf (fr_X1_walk_44_50 _ e5) rfl
      exact xfrm.tr hf5 (ih _ _ _ H) rfl
set_option maxRecDepth 20000 in
theorem t_X1_goThroughNoon_44_50_47 {k : xK} {S : List xSh} {out : xG} (hS : xpf SH1 S) (A : xAt k mX1_goThroughNoon.2.1 1 SH1 S) (hR : xRet k 0 0 S (fun r g' => r = none ∧ g' = out) mX1_goThroughNoon.2.2.2) (hrm : xrm k = { frames := 5, cells := 0, slots := 0, locals := 124 }) (hz : xhs k = xb0 k + S.length)   : ∀ (l4 : Int32) (g : xG), f_X1_goThroughNoon_44_50_47 l4 g = some out → xW k S 0 0 47 [some (.ref 44), some (.ref 50), none, none, some (.int l4), none] [] g := by
  intro l4 g H
  have H : (if l4 < 0 then
  xl (f_X6_set_50 2 0 g) fun w2 =>
  xl (f_X6_set_50 1 l4 w2) fun w3 =>
  f_X1_goThroughNoon_44_50_78 xN 0 w3
else
  (f_X1_strike_44_50 l4 g).bind fun w6 =>
  xl (f_X6_set_50 1 l4 w6) fun w7 =>
  f_X1_goThroughNoon_44_50_78 xN 0 w7) = some out := H
  refine xb A [(.iload 4, 2, 0, 0, .null)] (pc' := 49) (ls' := [some (.ref 44), some (.ref 50), none, none, some (.int l4), none]) (st' := [.int l4]) (g' := g) (by decide +kernel) rfl ?_
  refine xif_lt A (13) 62 52 (by decide +kernel) (fun h2 => ?_) (fun h2 => ?_)
  · rw [if_pos h2] at H
    refine xb A [(.aload_n 1, 1, 0, 0, .null), (.iconst 2, 1, 0, 0, .int 2), (.iconst 0, 1, 0, 0, .int 0)] (pc' := 65) (ls' := [some (.ref 44), some (.ref 50), none, none, some (.int l4), none]) (st' := [.int 0, .int 2, .ref 50]) (g' := g) (by decide +kernel) rfl ?_
    obtain ⟨w2, e2, H⟩ := xl_elim H
    refine xcallV A (ix := 119) (nxt := 68) hrm hz [.int 2, .int 0] [] 1065 (c_X6_set_50 hS _ e2) ok_X6_set (by decide +kernel) rfl (fun r g1 hq => ?_)
    rw [hq.1, hq.2]
    show xW k S 0 0 68 [some (.ref 44), some (.ref 50), none, none, some (.int l4), none] [] w2
    refine xb A [(.aload_n 1, 1, 0, 0, .null), (.iconst 1, 1, 0, 0, .int 1), (.iload 4, 2, 0, 0, .null)] (pc' := 72) (ls' := [some (.ref 44), some (.ref 50), none, none, some (.int l4), none]) (st' := [.int l4, .int 1, .ref 50]) (g' := w2) (by decide +kernel) rfl ?_
    obtain ⟨w3, e3, H⟩ := xl_elim H
    refine xcallV A (ix := 119) (nxt := 75) hrm hz [.int 1, .int l4] [] 1065 (c_X6_set_50 hS _ e3) ok_X6_set (by decide +kernel) rfl (fun r g1 hq => ?_)
    rw [hq.1, hq.2]
    show xW k S 0 0 75 [some (.ref 44), some (.ref 50), none, none, some (.int l4), none] [] w3
    refine xb A [(.iconst 0, 1, 0, 0, .int 0), (.istore 5, 2, 0, 0, .null)] (pc' := 78) (ls' := [some (.ref 44), some (.ref 50), none, none, some (.int l4), some (.int 0)]) (st' := []) (g' := w3) (by decide +kernel) rfl ?_
    refine xweak (ls' := [some (.ref 44), some (.ref 50), none, none, none, some (.int 0)]) (by exact ⟨rfl, ⟨rfl, ⟨rfl, trivial⟩⟩⟩) ?_
    exact t_X1_goThroughNoon_44_50_78 hS A hR hrm hz _ _ _ H
  · rw [if_neg h2] at H
    refine xb A [(.aload_n 0, 1, 0, 0, .null), (.aload_n 1, 1, 0, 0, .null), (.iload 4, 2, 0, 0, .null)] (pc' := 56) (ls' := [some (.ref 44), some (.ref 50), none, none, some (.int l4), none]) (st' := [.int l4, .ref 50, .ref 44]) (g' := g) (by decide +kernel) rfl ?_
    obtain ⟨w6, e6, H⟩ := xbind H
    refine xcallV A (ix := 123) (nxt := 59) hrm hz [.ref 50, .int l4] [] 1066 (c_X1_strike_44_50 hS _ e6) ok_X1_strike (by decide +kernel) rfl (fun r g1 hq => ?_)
    rw [hq.1, hq.2]
    show xW k S 0 0 59 [some (.ref 44), some (.ref 50), none, none, some (.int l4), none] [] w6
    refine xgoto A (9) 68 (by decide +kernel) ?_
    refine xb A [(.aload_n 1, 1, 0, 0, .null), (.iconst 1, 1, 0, 0, .int 1), (.iload 4, 2, 0, 0, .null)] (pc' := 72) (ls' := [some (.ref 44), some (.ref 50), none, none, some (.int l4), none]) (st' := [.int l4, .int 1, .ref 50]) (g' := w6) (by decide +kernel) rfl ?_
    obtain ⟨w7, e7, H⟩ := xl_elim H
    refine xcallV A (ix := 119) (nxt := 75) hrm hz [.int 1, .int l4] [] 1065 (c_X6_set_50 hS _ e7) ok_X6_set (by decide +kernel) rfl (fun r g1 hq => ?_)
    rw [hq.1, hq.2]
    show xW k S 0 0 75 [some (.ref 44), some (.ref 50), none, none, some (.int l4), none] [] w7
    refine xb A [(.iconst 0, 1, 0, 0, .int 0), (.istore 5, 2, 0, 0, .null)] (pc' := 78) (ls' := [some (.ref 44), some (.ref 50), none, none, some (.int l4), some (.int 0)]) (st' := []) (g' := w7) (by decide +kernel) rfl ?_
    refine xweak (ls' := [some (.ref 44), some (.ref 50), none, none, none, some (.int 0)]) (by exact ⟨rfl, ⟨rfl, ⟨rfl, trivial⟩⟩⟩) ?_
    exact t_X1_goThroughNoon_44_50_78 hS A hR hrm hz _ _ _ H
theorem fr_X1_goThroughNoon_44_50_47   : ∀ (l4 : Int32) (g : xG) (out : xG), f_X1_goThroughNoon_44_50_47 l4 g = some out → xfrm fp_X1_goThroughNoon_44_50 g (out) := by
  intro l4 g out H
  have H : (if l4 < 0 then
  xl (f_X6_set_50 2 0 g) fun w2 =>
  xl (f_X6_set_50 1 l4 w2) fun w3 =>
  f_X1_goThroughNoon_44_50_78 xN 0 w3
else
  (f_X1_strike_44_50 l4 g).bind fun w6 =>
  xl (f_X6_set_50 1 l4 w6) fun w7 =>
  f_X1_goThroughNoon_44_50_78 xN 0 w7) = some out := H
  by_cases h2 : l4 < 0
  · rw [if_pos h2] at H
    obtain ⟨w2, e2, H⟩ := xl_elim H
    have hf2 : xfrm fp_X1_goThroughNoon_44_50 g (w2) := xfrm.tr xfrm.rf (fr_X6_set_50 _ e2) rfl
    obtain ⟨w3, e3, H⟩ := xl_elim H
    have hf3 : xfrm fp_X1_goThroughNoon_44_50 g (w3) := xfrm.tr hf2 (fr_X6_set_50 _ e3) rfl
    exact xfrm.tr hf3 (fr_X1_goThroughNoon_44_50_78 _ _ _ _ H) rfl
  · rw [if_neg h2] at H
    obtain ⟨w6, e6, H⟩ := xbind H
    have hf6 : xfrm fp_X1_goThroughNoon_44_50 g (w6) := xfrm.tr xfrm.rf (fr_X1_strike_44_50 _ e6) rfl
    obtain ⟨w7, e7, H⟩ := xl_elim H
    have hf7 : xfrm fp_X1_goThroughNoon_44_50 g (w7) := xfrm.tr hf6 (fr_X6_set_50 _ e7) rfl
    exact xfrm.tr hf7 (fr_X1_goThroughNoon_44_50_78 _ _ _ _ H) rfl
set_option maxRecDepth 20000 in
theorem c_X1_goThroughNoon_44_50 {S : List xSh} (hS : xpf SH1 S) {g : xG} {p2 : Int32} {p3 : Int32} (out : xG) (H : f_X1_goThroughNoon_44_50 p2 p3 g = some out) : xC mX1_goThroughNoon 5 124 0 0 S [.ref 44, .ref 50, .int p2, .int p3] g S (fun r g' => r = none ∧ g' = out) := by
  have H : ((f_X1_ringerOf_44_50 g).bind fun w1 =>
if w1.1 < 0 then
  f_X1_goThroughNoon_44_50_47 w1.1 w1.2
else
  if p3 = 0 then
    f_X1_goThroughNoon_44_50_47 w1.1 w1.2
  else
    (f_X1_isFoundOut_44_50 w1.1 p2 w1.2).bind fun w8 =>
    if w8.1 = 0 then
      f_X1_goThroughNoon_44_50_47 w1.1 w8.2
    else
      xl (f_X6_set_50 3 ((f_X6_get_50 3 w8.2) ||| (f_X11_bit w1.1)) w8.2) fun w9 =>
      f_X1_goThroughNoon_44_50_47 (-2) w9) = some out := H
  refine xC.of 1 SH1 [some (.ref 44), some (.ref 50), some (.int p2), some (.int p3), none, none] hS (by decide +kernel) rfl (fun _ _ => Nat.le_of_ble_eq_true rfl) (fun _ _ => rfl) ?_
  intro k A hR hrm hz
  refine xb A [(.aload_n 0, 1, 0, 0, .null), (.aload_n 1, 1, 0, 0, .null)] (pc' := 2) (ls' := [some (.ref 44), some (.ref 50), some (.int p2), some (.int p3), none, none]) (st' := [.ref 50, .ref 44]) (g' := g) (by decide +kernel) rfl ?_
  obtain ⟨w1, e1, H⟩ := xbind H
  refine xcallV A (ix := 108) (nxt := 5) hrm hz [.ref 50] [] 1038 (c_X1_ringerOf_44_50 hS _ e1) ok_X1_ringerOf (by decide +kernel) rfl (fun r g1 hq => ?_)
  rw [hq.1, hq.2]
  show xW k S 0 0 5 [some (.ref 44), some (.ref 50), some (.int p2), some (.int p3), none, none] [.int w1.1] w1.2
  refine xb A [(.istore 4, 2, 0, 0, .null), (.iload 4, 2, 0, 0, .null)] (pc' := 9) (ls' := [some (.ref 44), some (.ref 50), some (.int p2), some (.int p3), some (.int w1.1), none]) (st' := [.int w1.1]) (g' := w1.2) (by decide +kernel) rfl ?_
  refine xif_lt A (38) 47 12 (by decide +kernel) (fun h1 => ?_) (fun h1 => ?_)
  · rw [if_pos h1] at H
    refine xweak (ls' := [some (.ref 44), some (.ref 50), none, none, some (.int w1.1), none]) (by exact ⟨rfl, ⟨rfl, ⟨rfl, trivial⟩⟩⟩) ?_
    exact t_X1_goThroughNoon_44_50_47 hS A hR hrm hz _ _ H
  · rw [if_neg h1] at H
    refine xb A [(.iload_n 3, 1, 0, 0, .null)] (pc' := 13) (ls' := [some (.ref 44), some (.ref 50), some (.int p2), some (.int p3), some (.int w1.1), none]) (st' := [.int p3]) (g' := w1.2) (by decide +kernel) rfl ?_
    refine xif_eq A (34) 47 16 (by decide +kernel) (fun h4 => ?_) (fun h4 => ?_)
    · rw [if_pos h4] at H
      refine xweak (ls' := [some (.ref 44), some (.ref 50), none, none, some (.int w1.1), none]) (by exact ⟨rfl, ⟨rfl, ⟨rfl, trivial⟩⟩⟩) ?_
      exact t_X1_goThroughNoon_44_50_47 hS A hR hrm hz _ _ H
    · rw [if_neg h4] at H
      refine xb A [(.aload_n 0, 1, 0, 0, .null), (.aload_n 1, 1, 0, 0, .null), (.iload 4, 2, 0, 0, .null), (.iload_n 2, 1, 0, 0, .null)] (pc' := 21) (ls' := [some (.ref 44), some (.ref 50), some (.int p2), some (.int p3), some (.int w1.1), none]) (st' := [.int p2, .int w1.1, .ref 50, .ref 44]) (g' := w1.2) (by decide +kernel) rfl ?_
      obtain ⟨w8, e8, H⟩ := xbind H
      refine xcallV A (ix := 112) (nxt := 24) hrm hz [.ref 50, .int w1.1, .int p2] [] 1048 (c_X1_isFoundOut_44_50 hS _ e8) ok_X1_isFoundOut (by decide +kernel) rfl (fun r g1 hq => ?_)
      rw [hq.1, hq.2]
      show xW k S 0 0 24 [some (.ref 44), some (.ref 50), some (.int p2), some (.int p3), some (.int w1.1), none] [.int w8.1] w8.2
      refine xif_eq A (23) 47 27 (by decide +kernel) (fun h5 => ?_) (fun h5 => ?_)
      · rw [if_pos h5] at H
        refine xweak (ls' := [some (.ref 44), some (.ref 50), none, none, some (.int w1.1), none]) (by exact ⟨rfl, ⟨rfl, ⟨rfl, trivial⟩⟩⟩) ?_
        exact t_X1_goThroughNoon_44_50_47 hS A hR hrm hz _ _ H
      · rw [if_neg h5] at H
        refine xb A [(.aload_n 1, 1, 0, 0, .null), (.iconst 3, 1, 0, 0, .int 3), (.aload_n 1, 1, 0, 0, .null), (.iconst 3, 1, 0, 0, .int 3)] (pc' := 31) (ls' := [some (.ref 44), some (.ref 50), some (.int p2), some (.int p3), some (.int w1.1), none]) (st' := [.int 3, .ref 50, .int 3, .ref 50]) (g' := w8.2) (by decide +kernel) rfl ?_
        refine xcallV A (ix := 57) (nxt := 34) hrm hz [.int 3] [.int 3, .ref 50] 971 (c_X6_get_50 hS _ rfl) ok_X6_get (by decide +kernel) rfl (fun r g1 hq => ?_)
        rw [hq.1, hq.2]
        show xW k S 0 0 34 [some (.ref 44), some (.ref 50), some (.int p2), some (.int p3), some (.int w1.1), none] [.int (f_X6_get_50 3 w8.2), .int 3, .ref 50] w8.2
        refine xb A [(.iload 4, 2, 0, 0, .null)] (pc' := 36) (ls' := [some (.ref 44), some (.ref 50), some (.int p2), some (.int p3), some (.int w1.1), none]) (st' := [.int w1.1, .int (f_X6_get_50 3 w8.2), .int 3, .ref 50]) (g' := w8.2) (by decide +kernel) rfl ?_
        refine xcallSN A (ix := 116) (nxt := 39) (host := "NoonRinger") hrm hz [.int w1.1] [.int (f_X6_get_50 3 w8.2), .int 3, .ref 50] 28 (c_X11_bit hS _ rfl) ok_X11_bit (by decide +kernel) rfl (fun r g1 hq => ?_)
        rw [hq.1, hq.2]
        show xW k S 0 0 39 [some (.ref 44), some (.ref 50), some (.int p2), some (.int p3), some (.int w1.1), none] [.int (f_X11_bit w1.1), .int (f_X6_get_50 3 w8.2), .int 3, .ref 50] w8.2
        refine xb A [(.ior, 1, 0, 0, .null)] (pc' := 40) (ls' := [some (.ref 44), some (.ref 50), some (.int p2), some (.int p3), some (.int w1.1), none]) (st' := [.int ((f_X6_get_50 3 w8.2) ||| (f_X11_bit w1.1)), .int 3, .ref 50]) (g' := w8.2) (by decide +kernel) rfl ?_
        obtain ⟨w9, e9, H⟩ := xl_elim H
        refine xcallV A (ix := 119) (nxt := 43) hrm hz [.int 3, .int ((f_X6_get_50 3 w8.2) ||| (f_X11_bit w1.1))] [] 1065 (c_X6_set_50 hS _ e9) ok_X6_set (by decide +kernel) rfl (fun r g1 hq => ?_)
        rw [hq.1, hq.2]
        show xW k S 0 0 43 [some (.ref 44), some (.ref 50), some (.int p2), some (.int p3), some (.int w1.1), none] [] w9
        refine xb A [(.bipush (-2), 2, 0, 0, .int (-2)), (.istore 4, 2, 0, 0, .null)] (pc' := 47) (ls' := [some (.ref 44), some (.ref 50), some (.int p2), some (.int p3), some (.int (-2)), none]) (st' := []) (g' := w9) (by decide +kernel) rfl ?_
        refine xweak (ls' := [some (.ref 44), some (.ref 50), none, none, some (.int (-2)), none]) (by exact ⟨rfl, ⟨rfl, ⟨rfl, trivial⟩⟩⟩) ?_
        exact t_X1_goThroughNoon_44_50_47 hS A hR hrm hz _ _ H
theorem fr_X1_goThroughNoon_44_50 {p2 : Int32} {p3 : Int32} {g : xG} (out : xG) (H : f_X1_goThroughNoon_44_50 p2 p3 g = some out) : xfrm fp_X1_goThroughNoon_44_50 g (out) := by
  have H : ((f_X1_ringerOf_44_50 g).bind fun w1 =>
if w1.1 < 0 then
  f_X1_goThroughNoon_44_50_47 w1.1 w1.2
else
  if p3 = 0 then
    f_X1_goThroughNoon_44_50_47 w1.1 w1.2
  else
    (f_X1_isFoundOut_44_50 w1.1 p2 w1.2).bind fun w8 =>
    if w8.1 = 0 then
      f_X1_goThroughNoon_44_50_47 w1.1 w8.2
    else
      xl (f_X6_set_50 3 ((f_X6_get_50 3 w8.2) ||| (f_X11_bit w1.1)) w8.2) fun w9 =>
      f_X1_goThroughNoon_44_50_47 (-2) w9) = some out := H
  obtain ⟨w1, e1, H⟩ := xbind H
  have hf1 : xfrm fp_X1_goThroughNoon_44_50 g (w1.2) := xfrm.tr xfrm.rf (fr_X1_ringerOf_44_50 _ e1) rfl
  by_cases h1 : w1.1 < 0
  · rw [if_pos h1] at H
    exact xfrm.tr hf1 (fr_X1_goThroughNoon_44_50_47 _ _ _ H) rfl
  · rw [if_neg h1] at H
    by_cases h4 : p3 = 0
    · rw [if_pos h4] at H
      exact xfrm.tr hf1 (fr_X1_goThroughNoon_44_50_47 _ _ _ H) rfl
    · rw [if_neg h4] at H
      obtain ⟨w8, e8, H⟩ := xbind H
      have hf8 : xfrm fp_X1_goThroughNoon_44_50 g (w8.2) := xfrm.tr hf1 (fr_X1_isFoundOut_44_50 _ e8) rfl
      by_cases h5 : w8.1 = 0
      · rw [if_pos h5] at H
        exact xfrm.tr hf8 (fr_X1_goThroughNoon_44_50_47 _ _ _ H) rfl
      · rw [if_neg h5] at H
        obtain ⟨w9, e9, H⟩ := xl_elim H
        have hf9 : xfrm fp_X1_goThroughNoon_44_50 g (w9) := xfrm.tr hf8 (fr_X6_set_50 _ e9) rfl
        exact xfrm.tr hf9 (fr_X1_goThroughNoon_44_50_47 _ _ _ H) rfl
def fp_X11_firstNoonOf_0 : List (Nat × Option Nat) := [(16, none), (45, none), (51, none)]
def f_X11_firstNoonOf_0_2  : Nat → Int32 → Int32 → xG → Option (Int32 × xG)
  | 0, _, _, _ => none
  | n + 1, l1, l2, g =>
    if 60 < l2 then
      some ((-2), g)
    else
      (f_X1_goThroughNoon_44_50 (f_X4_seed_3 g) 0 g).bind fun w1 =>
      if (f_X6_get_50 1 w1) = l1 then
        some (l2, w1)
      else
        f_X11_firstNoonOf_0_2 n l1 (l2 + 1) w1
def f_X11_firstNoonOf_0 (p1 : Int32) (g : xG) : Option (Int32 × xG) :=
  f_X11_firstNoonOf_0_2 xN p1 0 g
set_option maxRecDepth 20000 in
theorem t_X11_firstNoonOf_0_2 {k : xK} {S : List xSh} {out : Int32 × xG} (hS : xpf SH1 S) (A : xAt k mX11_firstNoonOf.2.1 11 SH1 S) (hR : xRet k 0 0 S (fun r g' => r = some (.int out.1) ∧ g' = out.2) mX11_firstNoonOf.2.2.2) (hrm : xrm k = { frames := 6, cells := 0, slots := 0, locals := 149 }) (hz : xhs k = xb0 k + S.length)   : ∀ (n : Nat) (l1 : Int32) (l2 : Int32) (g : xG), f_X11_firstNoonOf_0_2 n l1 l2 g = some out → xW k S 0 0 2 [some (.ref 0), some (.int l1), some (.int l2)] [] g := by
  intro n
  induction n with
  | zero => intro l1 l2 g H; exact absurd H (by simp [f_X11_firstNoonOf_0_2])
  | succ n ih =>
    intro l1 l2 g H
    have H : (if 60 < l2 then
  some ((-2), g)
else
  (f_X1_goThroughNoon_44_50 (f_X4_seed_3 g) 0 g).bind fun w1 =>
  if (f_X6_get_50 1 w1) = l1 then
    some (l2, w1)
  else
    f_X11_firstNoonOf_0_2 n l1 (l2 + 1) w1) = some out := H
    refine xb A [(.iload_n 2, 1, 0, 0, .null), (.bipush 60, 2, 0, 0, .int 60)] (pc' := 5) (ls' := [some (.ref 0), some (.int l1), some (.int l2)]) (st' := [.int 60, .int l2]) (g' := g) (by decide +kernel) rfl ?_
    refine xic_gt A (42) 47 8 (by decide +kernel) (fun h1 => ?_) (fun h1 => ?_)
    · rw [if_pos h1] at H
      refine xb A [(.bipush (-2), 2, 0, 0, .int (-2))] (pc' := 49) (ls' := [some (.ref 0), some (.int l1), some (.int l2)]) (st' := [.int (-2)]) (g' := g) (by decide +kernel) rfl ?_
      obtain rfl := Option.some.inj H
      exact xret_i A hR hz (by decide +kernel) rfl ⟨rfl, rfl⟩
    · rw [if_neg h1] at H
      refine xb A [(.aload_n 0, 1, 0, 0, .null), (.getfield 56, 3, 0, 6, .ref 44), (.aload_n 0, 1, 0, 0, .null), (.getfield 70, 3, 0, 9, .ref 50), (.aload_n 0, 1, 0, 0, .null), (.getfield 19, 3, 0, 1, .ref 3)] (pc' := 20) (ls' := [some (.ref 0), some (.int l1), some (.int l2)]) (st' := [.ref 3, .ref 50, .ref 44]) (g' := g) (by decide +kernel) rfl ?_
      refine xcallV A (ix := 224) (nxt := 23) hrm hz [] [.ref 50, .ref 44] 1030 (c_X4_seed_3 hS _ rfl) ok_X4_seed (by decide +kernel) rfl (fun r g1 hq => ?_)
      rw [hq.1, hq.2]
      show xW k S 0 0 23 [some (.ref 0), some (.int l1), some (.int l2)] [.int (f_X4_seed_3 g), .ref 50, .ref 44] g
      refine xb A [(.iconst 0, 1, 0, 0, .int 0)] (pc' := 24) (ls' := [some (.ref 0), some (.int l1), some (.int l2)]) (st' := [.int 0, .int (f_X4_seed_3 g), .ref 50, .ref 44]) (g' := g) (by decide +kernel) rfl ?_
      obtain ⟨w1, e1, H⟩ := xbind H
      refine xcallV A (ix := 227) (nxt := 27) hrm hz [.ref 50, .int (f_X4_seed_3 g), .int 0] [] 1034 (c_X1_goThroughNoon_44_50 hS _ e1) ok_X1_goThroughNoon (by decide +kernel) rfl (fun r g1 hq => ?_)
      rw [hq.1, hq.2]
      show xW k S 0 0 27 [some (.ref 0), some (.int l1), some (.int l2)] [] w1
      refine xb A [(.aload_n 0, 1, 0, 0, .null), (.getfield 70, 3, 0, 9, .ref 50), (.iconst 1, 1, 0, 0, .int 1)] (pc' := 32) (ls' := [some (.ref 0), some (.int l1), some (.int l2)]) (st' := [.int 1, .ref 50]) (g' := w1) (by decide +kernel) rfl ?_
      refine xcallV A (ix := 135) (nxt := 35) hrm hz [.int 1] [] 489 (c_X6_get_50 hS _ rfl) ok_X6_get (by decide +kernel) rfl (fun r g1 hq => ?_)
      rw [hq.1, hq.2]
      show xW k S 0 0 35 [some (.ref 0), some (.int l1), some (.int l2)] [.int (f_X6_get_50 1 w1)] w1
      refine xb A [(.iload_n 1, 1, 0, 0, .null)] (pc' := 36) (ls' := [some (.ref 0), some (.int l1), some (.int l2)]) (st' := [.int l1, .int (f_X6_get_50 1 w1)]) (g' := w1) (by decide +kernel) rfl ?_
      refine xic_ne A (5) 41 39 (by decide +kernel) (fun h2 => ?_) (fun h2 => ?_)
      · rw [if_neg h2] at H
        refine xb A [(.iinc 2 1, 3, 0, 0, .null)] (pc' := 44) (ls' := [some (.ref 0), some (.int l1), some (.int (l2 + 1))]) (st' := []) (g' := w1) (by decide +kernel) rfl ?_
        refine xgoto A (-42) 2 (by decide +kernel) ?_
        exact ih _ _ _ H
      · rw [if_pos h2] at H
        refine xb A [(.iload_n 2, 1, 0, 0, .null)] (pc' := 40) (ls' := [some (.ref 0), some (.int l1), some (.int l2)]) (st' := [.int l2]) (g' := w1) (by decide +kernel) rfl ?_
        obtain rfl := Option.some.inj H
        exact xret_i A hR hz (by decide +kernel) rfl ⟨rfl, rfl⟩
theorem fr_X11_firstNoonOf_0_2   : ∀ (n : Nat) (l1 : Int32) (l2 : Int32) (g : xG) (out : Int32 × xG), f_X11_firstNoonOf_0_2 n l1 l2 g = some out → xfrm fp_X11_firstNoonOf_0 g (out.2) := by
  intro n
  induction n with
  | zero => intro l1 l2 g out H; exact absurd H (by simp [f_X11_firstNoonOf_0_2])
  | succ n ih =>
    intro l1 l2 g out H
    have H : (if 60 < l2 then
  some ((-2), g)
else
  (f_X1_goThroughNoon_44_50 (f_X4_seed_3 g) 0 g).bind fun w1 =>
  if (f_X6_get_50 1 w1) = l1 then
    some (l2, w1)
  else
    f_X11_firstNoonOf_0_2 n l1 (l2 + 1) w1) = some out := H
    by_cases h1 : 60 < l2
    · rw [if_pos h1] at H
      obtain rfl := Option.some.inj H
      exact xfrm.rf
    · rw [if_neg h1] at H
      obtain ⟨w1, e1, H⟩ := xbind H
      have hf1 : xfrm fp_X11_firstNoonOf_0 g (w1) := xfrm.tr xfrm.rf (fr_X1_goThroughNoon_44_50 _ e1) rfl
      by_cases h2 : (f_X6_get_50 1 w1) = l1
      · rw [if_pos h2] at H
        obtain rfl := Option.some.inj H
        exact hf1
      · rw [if_neg h2] at H
        exact xfrm.tr hf1 (ih _ _ _ _ H) rfl
set_option maxRecDepth 20000 in
theorem c_X11_firstNoonOf_0 {S : List xSh} (hS : xpf SH1 S) {g : xG} {p1 : Int32} (out : Int32 × xG) (H : f_X11_firstNoonOf_0 p1 g = some out) : xC mX11_firstNoonOf 6 149 0 0 S [.ref 0, .int p1] g S (fun r g' => r = some (.int out.1) ∧ g' = out.2) := by
  have H : (f_X11_firstNoonOf_0_2 xN p1 0 g) = some out := H
  refine xC.of 11 SH1 [some (.ref 0), some (.int p1), none] hS (by decide +kernel) rfl (fun _ _ => Nat.le_of_ble_eq_true rfl) (fun _ _ => rfl) ?_
  intro k A hR hrm hz
  refine xb A [(.iconst 0, 1, 0, 0, .int 0), (.istore_n 2, 1, 0, 0, .null)] (pc' := 2) (ls' := [some (.ref 0), some (.int p1), some (.int 0)]) (st' := []) (g' := g) (by decide +kernel) rfl ?_
  exact t_X11_firstNoonOf_0_2 hS A hR hrm hz _ _ _ _ H
theorem fr_X11_firstNoonOf_0 {p1 : Int32} {g : xG} (out : Int32 × xG) (H : f_X11_firstNoonOf_0 p1 g = some out) : xfrm fp_X11_firstNoonOf_0 g (out.2) := by
  have H : (f_X11_firstNoonOf_0_2 xN p1 0 g) = some out := H
  exact xfrm.tr xfrm.rf (fr_X11_firstNoonOf_0_2 _ _ _ _ _ H) rfl
def fp_X11_when_0 : List (Nat × Option Nat) := [(16, none), (45, none), (51, none)]
def f_X11_when_0 (p1 : Int32) (g : xG) : Option (Int32 × xG) :=
  if (f_X4_isPerson_3 p1 g) = 0 then
    some ((-1), g)
  else
    xl (f_X6_copyFrom_50_48 g) fun w1 =>
    (f_X11_firstNoonOf_0 p1 w1).bind fun w2 =>
    some (w2.1, w2.2)
set_option maxRecDepth 20000 in
theorem c_X11_when_0 {S : List xSh} (hS : xpf SH1 S) {g : xG} {p1 : Int32} (out : Int32 × xG) (H : f_X11_when_0 p1 g = some out) : xC mX11_when 7 171 0 0 S [.ref 0, .int p1] g S (fun r g' => r = some (.int out.1) ∧ g' = out.2) := by
  have H : (if (f_X4_isPerson_3 p1 g) = 0 then
  some ((-1), g)
else
  xl (f_X6_copyFrom_50_48 g) fun w1 =>
  (f_X11_firstNoonOf_0 p1 w1).bind fun w2 =>
  some (w2.1, w2.2)) = some out := H
  refine xC.of 11 SH1 [some (.ref 0), some (.int p1)] hS (by decide +kernel) rfl (fun _ _ => Nat.le_of_ble_eq_true rfl) (fun _ _ => rfl) ?_
  intro k A hR hrm hz
  refine xb A [(.aload_n 0, 1, 0, 0, .null), (.getfield 19, 3, 0, 1, .ref 3), (.iload_n 1, 1, 0, 0, .null)] (pc' := 5) (ls' := [some (.ref 0), some (.int p1)]) (st' := [.int p1, .ref 3]) (g' := g) (by decide +kernel) rfl ?_
  refine xcallV A (ix := 183) (nxt := 8) hrm hz [.int p1] [] 932 (c_X4_isPerson_3 hS _ rfl) ok_X4_isPerson (by decide +kernel) rfl (fun r g1 hq => ?_)
  rw [hq.1, hq.2]
  show xW k S 0 0 8 [some (.ref 0), some (.int p1)] [.int (f_X4_isPerson_3 p1 g)] g
  refine xif_ne A (5) 13 11 (by decide +kernel) (fun h1 => ?_) (fun h1 => ?_)
  · rw [if_neg h1] at H
    refine xb A [(.aload_n 0, 1, 0, 0, .null), (.getfield 70, 3, 0, 9, .ref 50), (.aload_n 0, 1, 0, 0, .null), (.getfield 66, 3, 0, 8, .ref 48)] (pc' := 21) (ls' := [some (.ref 0), some (.int p1)]) (st' := [.ref 48, .ref 50]) (g' := g) (by decide +kernel) rfl ?_
    obtain ⟨w1, e1, H⟩ := xl_elim H
    refine xcallV A (ix := 266) (nxt := 24) hrm hz [.ref 48] [] 1149 (c_X6_copyFrom_50_48 hS _ e1) ok_X6_copyFrom (by decide +kernel) rfl (fun r g1 hq => ?_)
    rw [hq.1, hq.2]
    show xW k S 0 0 24 [some (.ref 0), some (.int p1)] [] w1
    refine xb A [(.aload_n 0, 1, 0, 0, .null), (.iload_n 1, 1, 0, 0, .null)] (pc' := 26) (ls' := [some (.ref 0), some (.int p1)]) (st' := [.int p1, .ref 0]) (g' := w1) (by decide +kernel) rfl ?_
    obtain ⟨w2, e2, H⟩ := xbind H
    refine xcallV A (ix := 269) (nxt := 29) hrm hz [.int p1] [] 1154 (c_X11_firstNoonOf_0 hS _ e2) ok_X11_firstNoonOf (by decide +kernel) rfl (fun r g1 hq => ?_)
    rw [hq.1, hq.2]
    show xW k S 0 0 29 [some (.ref 0), some (.int p1)] [.int w2.1] w2.2
    obtain rfl := Option.some.inj H
    exact xret_i A hR hz (by decide +kernel) rfl ⟨rfl, rfl⟩
  · rw [if_pos h1] at H
    refine xb A [(.iconst (-1), 1, 0, 0, .int (-1))] (pc' := 12) (ls' := [some (.ref 0), some (.int p1)]) (st' := [.int (-1)]) (g' := g) (by decide +kernel) rfl ?_
    obtain rfl := Option.some.inj H
    exact xret_i A hR hz (by decide +kernel) rfl ⟨rfl, rfl⟩
theorem fr_X11_when_0 {p1 : Int32} {g : xG} (out : Int32 × xG) (H : f_X11_when_0 p1 g = some out) : xfrm fp_X11_when_0 g (out.2) := by
  have H : (if (f_X4_isPerson_3 p1 g) = 0 then
  some ((-1), g)
else
  xl (f_X6_copyFrom_50_48 g) fun w1 =>
  (f_X11_firstNoonOf_0 p1 w1).bind fun w2 =>
  some (w2.1, w2.2)) = some out := H
  by_cases h1 : (f_X4_isPerson_3 p1 g) = 0
  · rw [if_pos h1] at H
    obtain rfl := Option.some.inj H
    exact xfrm.rf
  · rw [if_neg h1] at H
    obtain ⟨w1, e1, H⟩ := xl_elim H
    have hf1 : xfrm fp_X11_when_0 g (w1) := xfrm.tr xfrm.rf (fr_X6_copyFrom_50_48 _ e1) rfl
    obtain ⟨w2, e2, H⟩ := xbind H
    have hf2 : xfrm fp_X11_when_0 g (w2.2) := xfrm.tr hf1 (fr_X11_firstNoonOf_0 _ e2) rfl
    obtain rfl := Option.some.inj H
    exact hf2
def fp_X11_soonest_0 : List (Nat × Option Nat) := [(16, none), (45, none), (51, none)]
def f_X11_soonest_0_48  (l1 : Int32) (s0 : Int32) (g : xG) : Option (Int32 × xG) :=
  if s0 = 0 then
    xl (f_X6_setOf_50 l1 11 (f_X4_capital_3 g) g) fun w2 =>
    (f_X11_firstNoonOf_0 l1 w2).bind fun w3 =>
    some (w3.1, w3.2)
  else
    xl (f_X6_setOf_50 l1 11 (-2) g) fun w4 =>
    (f_X11_firstNoonOf_0 l1 w4).bind fun w5 =>
    some (w5.1, w5.2)
def f_X11_soonest_0 (p1 : Int32) (g : xG) : Option (Int32 × xG) :=
  if (f_X4_isPerson_3 p1 g) = 0 then
    some ((-1), g)
  else
    xl (f_X6_copyFrom_50_48 g) fun w1 =>
    if (f_X6_of_48 p1 5 w1) = (f_X4_capital_3 w1) then
      f_X11_soonest_0_48 p1 1 w1
    else
      f_X11_soonest_0_48 p1 0 w1
set_option maxRecDepth 20000 in
theorem t_X11_soonest_0_48 {k : xK} {S : List xSh} {out : Int32 × xG} (hS : xpf SH1 S) (A : xAt k mX11_soonest.2.1 11 SH1 S) (hR : xRet k 0 0 S (fun r g' => r = some (.int out.1) ∧ g' = out.2) mX11_soonest.2.2.2) (hrm : xrm k = { frames := 7, cells := 0, slots := 0, locals := 171 }) (hz : xhs k = xb0 k + S.length)   : ∀ (l1 : Int32) (s0 : Int32) (g : xG), f_X11_soonest_0_48 l1 s0 g = some out → xW k S 0 0 48 [some (.ref 0), some (.int l1), none] [.int s0] g := by
  intro l1 s0 g H
  have H : (if s0 = 0 then
  xl (f_X6_setOf_50 l1 11 (f_X4_capital_3 g) g) fun w2 =>
  (f_X11_firstNoonOf_0 l1 w2).bind fun w3 =>
  some (w3.1, w3.2)
else
  xl (f_X6_setOf_50 l1 11 (-2) g) fun w4 =>
  (f_X11_firstNoonOf_0 l1 w4).bind fun w5 =>
  some (w5.1, w5.2)) = some out := H
  refine xb A [(.istore_n 2, 1, 0, 0, .null), (.aload_n 0, 1, 0, 0, .null), (.getfield 70, 3, 0, 9, .ref 50), (.iload_n 1, 1, 0, 0, .null), (.bipush 11, 2, 0, 0, .int 11), (.iload_n 2, 1, 0, 0, .null)] (pc' := 57) (ls' := [some (.ref 0), some (.int l1), some (.int s0)]) (st' := [.int s0, .int 11, .int l1, .ref 50]) (g' := g) (by decide +kernel) rfl ?_
  refine xif_eq A (8) 65 60 (by decide +kernel) (fun h3 => ?_) (fun h3 => ?_)
  · rw [if_pos h3] at H
    refine xb A [(.aload_n 0, 1, 0, 0, .null), (.getfield 19, 3, 0, 1, .ref 3)] (pc' := 69) (ls' := [some (.ref 0), some (.int l1), some (.int s0)]) (st' := [.ref 3, .int 11, .int l1, .ref 50]) (g' := g) (by decide +kernel) rfl ?_
    refine xcallV A (ix := 152) (nxt := 72) hrm hz [] [.int 11, .int l1, .ref 50] 894 (c_X4_capital_3 hS _ rfl) ok_X4_capital (by decide +kernel) rfl (fun r g1 hq => ?_)
    rw [hq.1, hq.2]
    show xW k S 0 0 72 [some (.ref 0), some (.int l1), some (.int s0)] [.int (f_X4_capital_3 g), .int 11, .int l1, .ref 50] g
    obtain ⟨w2, e2, H⟩ := xl_elim H
    refine xcallV A (ix := 210) (nxt := 75) hrm hz [.int l1, .int 11, .int (f_X4_capital_3 g)] [] 1012 (c_X6_setOf_50 hS _ e2) ok_X6_setOf (by decide +kernel) rfl (fun r g1 hq => ?_)
    rw [hq.1, hq.2]
    show xW k S 0 0 75 [some (.ref 0), some (.int l1), some (.int s0)] [] w2
    refine xb A [(.aload_n 0, 1, 0, 0, .null), (.iload_n 1, 1, 0, 0, .null)] (pc' := 77) (ls' := [some (.ref 0), some (.int l1), some (.int s0)]) (st' := [.int l1, .ref 0]) (g' := w2) (by decide +kernel) rfl ?_
    obtain ⟨w3, e3, H⟩ := xbind H
    refine xcallV A (ix := 269) (nxt := 80) hrm hz [.int l1] [] 1154 (c_X11_firstNoonOf_0 hS _ e3) ok_X11_firstNoonOf (by decide +kernel) rfl (fun r g1 hq => ?_)
    rw [hq.1, hq.2]
    show xW k S 0 0 80 [some (.ref 0), some (.int l1), some (.int s0)] [.int w3.1] w3.2
    obtain rfl := Option.some.inj H
    exact xret_i A hR hz (by decide +kernel) rfl ⟨rfl, rfl⟩
  · rw [if_neg h3] at H
    refine xb A [(.bipush (-2), 2, 0, 0, .int (-2))] (pc' := 62) (ls' := [some (.ref 0), some (.int l1), some (.int s0)]) (st' := [.int (-2), .int 11, .int l1, .ref 50]) (g' := g) (by decide +kernel) rfl ?_
    refine xgoto A (10) 72 (by decide +kernel) ?_
    obtain ⟨w4, e4, H⟩ := xl_elim H
    refine xcallV A (ix := 210) (nxt := 75) hrm hz [.int l1, .int 11, .int (-2)] [] 1012 (c_X6_setOf_50 hS _ e4) ok_X6_setOf (by decide +kernel) rfl (fun r g1 hq => ?_)
    rw [hq.1, hq.2]
    show xW k S 0 0 75 [some (.ref 0), some (.int l1), some (.int s0)] [] w4
    refine xb A [(.aload_n 0, 1, 0, 0, .null), (.iload_n 1, 1, 0, 0, .null)] (pc' := 77) (ls' := [some (.ref 0), some (.int l1), some (.int s0)]) (st' := [.int l1, .ref 0]) (g' := w4) (by decide +kernel) rfl ?_
    obtain ⟨w5, e5, H⟩ := xbind H
    refine xcallV A (ix := 269) (nxt := 80) hrm hz [.int l1] [] 1154 (c_X11_firstNoonOf_0 hS _ e5) ok_X11_firstNoonOf (by decide +kernel) rfl (fun r g1 hq => ?_)
    rw [hq.1, hq.2]
    show xW k S 0 0 80 [some (.ref 0), some (.int l1), some (.int s0)] [.int w5.1] w5.2
    obtain rfl := Option.some.inj H
    exact xret_i A hR hz (by decide +kernel) rfl ⟨rfl, rfl⟩
theorem fr_X11_soonest_0_48   : ∀ (l1 : Int32) (s0 : Int32) (g : xG) (out : Int32 × xG), f_X11_soonest_0_48 l1 s0 g = some out → xfrm fp_X11_soonest_0 g (out.2) := by
  intro l1 s0 g out H
  have H : (if s0 = 0 then
  xl (f_X6_setOf_50 l1 11 (f_X4_capital_3 g) g) fun w2 =>
  (f_X11_firstNoonOf_0 l1 w2).bind fun w3 =>
  some (w3.1, w3.2)
else
  xl (f_X6_setOf_50 l1 11 (-2) g) fun w4 =>
  (f_X11_firstNoonOf_0 l1 w4).bind fun w5 =>
  some (w5.1, w5.2)) = some out := H
  by_cases h3 : s0 = 0
  · rw [if_pos h3] at H
    obtain ⟨w2, e2, H⟩ := xl_elim H
    have hf2 : xfrm fp_X11_soonest_0 g (w2) := xfrm.tr xfrm.rf (fr_X6_setOf_50 _ e2) rfl
    obtain ⟨w3, e3, H⟩ := xbind H
    have hf3 : xfrm fp_X11_soonest_0 g (w3.2) := xfrm.tr hf2 (fr_X11_firstNoonOf_0 _ e3) rfl
    obtain rfl := Option.some.inj H
    exact hf3
  · rw [if_neg h3] at H
    obtain ⟨w4, e4, H⟩ := xl_elim H
    have hf4 : xfrm fp_X11_soonest_0 g (w4) := xfrm.tr xfrm.rf (fr_X6_setOf_50 _ e4) rfl
    obtain ⟨w5, e5, H⟩ := xbind H
    have hf5 : xfrm fp_X11_soonest_0 g (w5.2) := xfrm.tr hf4 (fr_X11_firstNoonOf_0 _ e5) rfl
    obtain rfl := Option.some.inj H
    exact hf5
set_option maxRecDepth 20000 in
theorem c_X11_soonest_0 {S : List xSh} (hS : xpf SH1 S) {g : xG} {p1 : Int32} (out : Int32 × xG) (H : f_X11_soonest_0 p1 g = some out) : xC mX11_soonest 7 171 0 0 S [.ref 0, .int p1] g S (fun r g' => r = some (.int out.1) ∧ g' = out.2) := by
  have H : (if (f_X4_isPerson_3 p1 g) = 0 then
  some ((-1), g)
else
  xl (f_X6_copyFrom_50_48 g) fun w1 =>
  if (f_X6_of_48 p1 5 w1) = (f_X4_capital_3 w1) then
    f_X11_soonest_0_48 p1 1 w1
  else
    f_X11_soonest_0_48 p1 0 w1) = some out := H
  refine xC.of 11 SH1 [some (.ref 0), some (.int p1), none] hS (by decide +kernel) rfl (fun _ _ => Nat.le_of_ble_eq_true rfl) (fun _ _ => rfl) ?_
  intro k A hR hrm hz
  refine xb A [(.aload_n 0, 1, 0, 0, .null), (.getfield 19, 3, 0, 1, .ref 3), (.iload_n 1, 1, 0, 0, .null)] (pc' := 5) (ls' := [some (.ref 0), some (.int p1), none]) (st' := [.int p1, .ref 3]) (g' := g) (by decide +kernel) rfl ?_
  refine xcallV A (ix := 183) (nxt := 8) hrm hz [.int p1] [] 932 (c_X4_isPerson_3 hS _ rfl) ok_X4_isPerson (by decide +kernel) rfl (fun r g1 hq => ?_)
  rw [hq.1, hq.2]
  show xW k S 0 0 8 [some (.ref 0), some (.int p1), none] [.int (f_X4_isPerson_3 p1 g)] g
  refine xif_ne A (5) 13 11 (by decide +kernel) (fun h1 => ?_) (fun h1 => ?_)
  · rw [if_neg h1] at H
    refine xb A [(.aload_n 0, 1, 0, 0, .null), (.getfield 70, 3, 0, 9, .ref 50), (.aload_n 0, 1, 0, 0, .null), (.getfield 66, 3, 0, 8, .ref 48)] (pc' := 21) (ls' := [some (.ref 0), some (.int p1), none]) (st' := [.ref 48, .ref 50]) (g' := g) (by decide +kernel) rfl ?_
    obtain ⟨w1, e1, H⟩ := xl_elim H
    refine xcallV A (ix := 266) (nxt := 24) hrm hz [.ref 48] [] 1149 (c_X6_copyFrom_50_48 hS _ e1) ok_X6_copyFrom (by decide +kernel) rfl (fun r g1 hq => ?_)
    rw [hq.1, hq.2]
    show xW k S 0 0 24 [some (.ref 0), some (.int p1), none] [] w1
    refine xb A [(.aload_n 0, 1, 0, 0, .null), (.getfield 66, 3, 0, 8, .ref 48), (.iload_n 1, 1, 0, 0, .null), (.iconst 5, 1, 0, 0, .int 5)] (pc' := 30) (ls' := [some (.ref 0), some (.int p1), none]) (st' := [.int 5, .int p1, .ref 48]) (g' := w1) (by decide +kernel) rfl ?_
    refine xcallV A (ix := 192) (nxt := 33) hrm hz [.int p1, .int 5] [] 944 (c_X6_of_48 hS _ rfl) ok_X6_of (by decide +kernel) rfl (fun r g1 hq => ?_)
    rw [hq.1, hq.2]
    show xW k S 0 0 33 [some (.ref 0), some (.int p1), none] [.int (f_X6_of_48 p1 5 w1)] w1
    refine xb A [(.aload_n 0, 1, 0, 0, .null), (.getfield 19, 3, 0, 1, .ref 3)] (pc' := 37) (ls' := [some (.ref 0), some (.int p1), none]) (st' := [.ref 3, .int (f_X6_of_48 p1 5 w1)]) (g' := w1) (by decide +kernel) rfl ?_
    refine xcallV A (ix := 152) (nxt := 40) hrm hz [] [.int (f_X6_of_48 p1 5 w1)] 894 (c_X4_capital_3 hS _ rfl) ok_X4_capital (by decide +kernel) rfl (fun r g1 hq => ?_)
    rw [hq.1, hq.2]
    show xW k S 0 0 40 [some (.ref 0), some (.int p1), none] [.int (f_X4_capital_3 w1), .int (f_X6_of_48 p1 5 w1)] w1
    refine xic_ne A (7) 47 43 (by decide +kernel) (fun h2 => ?_) (fun h2 => ?_)
    · rw [if_neg h2] at H
      refine xb A [(.iconst 0, 1, 0, 0, .int 0)] (pc' := 48) (ls' := [some (.ref 0), some (.int p1), none]) (st' := [.int 0]) (g' := w1) (by decide +kernel) rfl ?_
      exact t_X11_soonest_0_48 hS A hR hrm hz _ _ _ H
    · rw [if_pos h2] at H
      refine xb A [(.iconst 1, 1, 0, 0, .int 1)] (pc' := 44) (ls' := [some (.ref 0), some (.int p1), none]) (st' := [.int 1]) (g' := w1) (by decide +kernel) rfl ?_
      refine xgoto A (4) 48 (by decide +kernel) ?_
      exact t_X11_soonest_0_48 hS A hR hrm hz _ _ _ H
  · rw [if_pos h1] at H
    refine xb A [(.iconst (-1), 1, 0, 0, .int (-1))] (pc' := 12) (ls' := [some (.ref 0), some (.int p1), none]) (st' := [.int (-1)]) (g' := g) (by decide +kernel) rfl ?_
    obtain rfl := Option.some.inj H
    exact xret_i A hR hz (by decide +kernel) rfl ⟨rfl, rfl⟩
theorem fr_X11_soonest_0 {p1 : Int32} {g : xG} (out : Int32 × xG) (H : f_X11_soonest_0 p1 g = some out) : xfrm fp_X11_soonest_0 g (out.2) := by
  have H : (if (f_X4_isPerson_3 p1 g) = 0 then
  some ((-1), g)
else
  xl (f_X6_copyFrom_50_48 g) fun w1 =>
  if (f_X6_of_48 p1 5 w1) = (f_X4_capital_3 w1) then
    f_X11_soonest_0_48 p1 1 w1
  else
    f_X11_soonest_0_48 p1 0 w1) = some out := H
  by_cases h1 : (f_X4_isPerson_3 p1 g) = 0
  · rw [if_pos h1] at H
    obtain rfl := Option.some.inj H
    exact xfrm.rf
  · rw [if_neg h1] at H
    obtain ⟨w1, e1, H⟩ := xl_elim H
    have hf1 : xfrm fp_X11_soonest_0 g (w1) := xfrm.tr xfrm.rf (fr_X6_copyFrom_50_48 _ e1) rfl
    by_cases h2 : (f_X6_of_48 p1 5 w1) = (f_X4_capital_3 w1)
    · rw [if_pos h2] at H
      exact xfrm.tr hf1 (fr_X11_soonest_0_48 _ _ _ _ H) rfl
    · rw [if_neg h2] at H
      exact xfrm.tr hf1 (fr_X11_soonest_0_48 _ _ _ _ H) rfl
def fp_X11_goOnTrusting_0 : List (Nat × Option Nat) := [(16, none), (45, none), (51, none)]
def f_X11_goOnTrusting_0_13  : Nat → Int32 → Int32 → xG → Option (xG)
  | 0, _, _, _ => none
  | n + 1, l1, l2, g =>
    if l1 ≤ l2 then
      some g
    else
      (f_X1_goThroughNoon_44_50 (f_X4_seed_3 g) 0 g).bind fun w2 =>
      f_X11_goOnTrusting_0_13 n l1 (l2 + 1) w2
def f_X11_goOnTrusting_0 (p1 : Int32) (g : xG) : Option (xG) :=
  xl (f_X6_copyFrom_50_48 g) fun w1 =>
  f_X11_goOnTrusting_0_13 xN p1 0 w1
set_option maxRecDepth 20000 in
theorem t_X11_goOnTrusting_0_13 {k : xK} {S : List xSh} {out : xG} (hS : xpf SH1 S) (A : xAt k mX11_goOnTrusting.2.1 11 SH1 S) (hR : xRet k 0 0 S (fun r g' => r = none ∧ g' = out) mX11_goOnTrusting.2.2.2) (hrm : xrm k = { frames := 6, cells := 0, slots := 0, locals := 149 }) (hz : xhs k = xb0 k + S.length)   : ∀ (n : Nat) (l1 : Int32) (l2 : Int32) (g : xG), f_X11_goOnTrusting_0_13 n l1 l2 g = some out → xW k S 0 0 13 [some (.ref 0), some (.int l1), some (.int l2)] [] g := by
  intro n
  induction n with
  | zero => intro l1 l2 g H; exact absurd H (by simp [f_X11_goOnTrusting_0_13])
  | succ n ih =>
    intro l1 l2 g H
    have H : (if l1 ≤ l2 then
  some g
else
  (f_X1_goThroughNoon_44_50 (f_X4_seed_3 g) 0 g).bind fun w2 =>
  f_X11_goOnTrusting_0_13 n l1 (l2 + 1) w2) = some out := H
    refine xb A [(.iload_n 2, 1, 0, 0, .null), (.iload_n 1, 1, 0, 0, .null)] (pc' := 15) (ls' := [some (.ref 0), some (.int l1), some (.int l2)]) (st' := [.int l1, .int l2]) (g' := g) (by decide +kernel) rfl ?_
    refine xic_ge A (28) 43 18 (by decide +kernel) (fun h1 => ?_) (fun h1 => ?_)
    · rw [if_pos h1] at H
      obtain rfl := Option.some.inj H
      exact xret_v A hR hz (by decide +kernel) ⟨rfl, rfl⟩
    · rw [if_neg h1] at H
      refine xb A [(.aload_n 0, 1, 0, 0, .null), (.getfield 56, 3, 0, 6, .ref 44), (.aload_n 0, 1, 0, 0, .null), (.getfield 70, 3, 0, 9, .ref 50), (.aload_n 0, 1, 0, 0, .null), (.getfield 19, 3, 0, 1, .ref 3)] (pc' := 30) (ls' := [some (.ref 0), some (.int l1), some (.int l2)]) (st' := [.ref 3, .ref 50, .ref 44]) (g' := g) (by decide +kernel) rfl ?_
      refine xcallV A (ix := 224) (nxt := 33) hrm hz [] [.ref 50, .ref 44] 1030 (c_X4_seed_3 hS _ rfl) ok_X4_seed (by decide +kernel) rfl (fun r g1 hq => ?_)
      rw [hq.1, hq.2]
      show xW k S 0 0 33 [some (.ref 0), some (.int l1), some (.int l2)] [.int (f_X4_seed_3 g), .ref 50, .ref 44] g
      refine xb A [(.iconst 0, 1, 0, 0, .int 0)] (pc' := 34) (ls' := [some (.ref 0), some (.int l1), some (.int l2)]) (st' := [.int 0, .int (f_X4_seed_3 g), .ref 50, .ref 44]) (g' := g) (by decide +kernel) rfl ?_
      obtain ⟨w2, e2, H⟩ := xbind H
      refine xcallV A (ix := 227) (nxt := 37) hrm hz [.ref 50, .int (f_X4_seed_3 g), .int 0] [] 1034 (c_X1_goThroughNoon_44_50 hS _ e2) ok_X1_goThroughNoon (by decide +kernel) rfl (fun r g1 hq => ?_)
      rw [hq.1, hq.2]
      show xW k S 0 0 37 [some (.ref 0), some (.int l1), some (.int l2)] [] w2
      refine xb A [(.iinc 2 1, 3, 0, 0, .null)] (pc' := 40) (ls' := [some (.ref 0), some (.int l1), some (.int (l2 + 1))]) (st' := []) (g' := w2) (by decide +kernel) rfl ?_
      refine xgoto A (-27) 13 (by decide +kernel) ?_
      exact ih _ _ _ H
theorem fr_X11_goOnTrusting_0_13   : ∀ (n : Nat) (l1 : Int32) (l2 : Int32) (g : xG) (out : xG), f_X11_goOnTrusting_0_13 n l1 l2 g = some out → xfrm fp_X11_goOnTrusting_0 g (out) := by
  intro n
  induction n with
  | zero => intro l1 l2 g out H; exact absurd H (by simp [f_X11_goOnTrusting_0_13])
  | succ n ih =>
    intro l1 l2 g out H
    have H : (if l1 ≤ l2 then
  some g
else
  (f_X1_goThroughNoon_44_50 (f_X4_seed_3 g) 0 g).bind fun w2 =>
  f_X11_goOnTrusting_0_13 n l1 (l2 + 1) w2) = some out := H
    by_cases h1 : l1 ≤ l2
    · rw [if_pos h1] at H
      obtain rfl := Option.some.inj H
      exact xfrm.rf
    · rw [if_neg h1] at H
      obtain ⟨w2, e2, H⟩ := xbind H
      have hf2 : xfrm fp_X11_goOnTrusting_0 g (w2) := xfrm.tr xfrm.rf (fr_X1_goThroughNoon_44_50 _ e2) rfl
      exact xfrm.tr hf2 (ih _ _ _ _ H) rfl
set_option maxRecDepth 20000 in
theorem c_X11_goOnTrusting_0 {S : List xSh} (hS : xpf SH1 S) {g : xG} {p1 : Int32} (out : xG) (H : f_X11_goOnTrusting_0 p1 g = some out) : xC mX11_goOnTrusting 6 149 0 0 S [.ref 0, .int p1] g S (fun r g' => r = none ∧ g' = out) := by
  have H : (xl (f_X6_copyFrom_50_48 g) fun w1 =>
f_X11_goOnTrusting_0_13 xN p1 0 w1) = some out := H
  refine xC.of 11 SH1 [some (.ref 0), some (.int p1), none] hS (by decide +kernel) rfl (fun _ _ => Nat.le_of_ble_eq_true rfl) (fun _ _ => rfl) ?_
  intro k A hR hrm hz
  refine xb A [(.aload_n 0, 1, 0, 0, .null), (.getfield 70, 3, 0, 9, .ref 50), (.aload_n 0, 1, 0, 0, .null), (.getfield 66, 3, 0, 8, .ref 48)] (pc' := 8) (ls' := [some (.ref 0), some (.int p1), none]) (st' := [.ref 48, .ref 50]) (g' := g) (by decide +kernel) rfl ?_
  obtain ⟨w1, e1, H⟩ := xl_elim H
  refine xcallV A (ix := 266) (nxt := 11) hrm hz [.ref 48] [] 1149 (c_X6_copyFrom_50_48 hS _ e1) ok_X6_copyFrom (by decide +kernel) rfl (fun r g1 hq => ?_)
  rw [hq.1, hq.2]
  show xW k S 0 0 11 [some (.ref 0), some (.int p1), none] [] w1
  refine xb A [(.iconst 0, 1, 0, 0, .int 0), (.istore_n 2, 1, 0, 0, .null)] (pc' := 13) (ls' := [some (.ref 0), some (.int p1), some (.int 0)]) (st' := []) (g' := w1) (by decide +kernel) rfl ?_
  exact t_X11_goOnTrusting_0_13 hS A hR hrm hz _ _ _ _ H
theorem fr_X11_goOnTrusting_0 {p1 : Int32} {g : xG} (out : xG) (H : f_X11_goOnTrusting_0 p1 g = some out) : xfrm fp_X11_goOnTrusting_0 g (out) := by
  have H : (xl (f_X6_copyFrom_50_48 g) fun w1 =>
f_X11_goOnTrusting_0_13 xN p1 0 w1) = some out := H
  obtain ⟨w1, e1, H⟩ := xl_elim H
  have hf1 : xfrm fp_X11_goOnTrusting_0 g (w1) := xfrm.tr xfrm.rf (fr_X6_copyFrom_50_48 _ e1) rfl
  exact xfrm.tr hf1 (fr_X11_goOnTrusting_0_13 _ _ _ _ _ H) rfl
def fp_X11_often_0 : List (Nat × Option Nat) := [(16, none), (45, none), (51, none)]
def f_X11_often_0 (p1 : Int32) (p2 : Int32) (g : xG) : Option (Int32 × xG) :=
  if (f_X4_isPerson_3 p1 g) = 0 then
    some ((-1), g)
  else
    if (f_X11_isSpan p2) = 0 then
      some ((-1), g)
    else
      (f_X11_goOnTrusting_0 p2 g).bind fun w1 =>
      some ((f_X6_of_50 p1 23 w1) - (f_X6_of_48 p1 23 w1), w1)
set_option maxRecDepth 20000 in
theorem c_X11_often_0 {S : List xSh} (hS : xpf SH1 S) {g : xG} {p1 : Int32} {p2 : Int32} (out : Int32 × xG) (H : f_X11_often_0 p1 p2 g = some out) : xC mX11_often 7 171 0 0 S [.ref 0, .int p1, .int p2] g S (fun r g' => r = some (.int out.1) ∧ g' = out.2) := by
  have H : (if (f_X4_isPerson_3 p1 g) = 0 then
  some ((-1), g)
else
  if (f_X11_isSpan p2) = 0 then
    some ((-1), g)
  else
    (f_X11_goOnTrusting_0 p2 g).bind fun w1 =>
    some ((f_X6_of_50 p1 23 w1) - (f_X6_of_48 p1 23 w1), w1)) = some out := H
  refine xC.of 11 SH1 [some (.ref 0), some (.int p1), some (.int p2)] hS (by decide +kernel) rfl (fun _ _ => Nat.le_of_ble_eq_true rfl) (fun _ _ => rfl) ?_
  intro k A hR hrm hz
  refine xb A [(.aload_n 0, 1, 0, 0, .null), (.getfield 19, 3, 0, 1, .ref 3), (.iload_n 1, 1, 0, 0, .null)] (pc' := 5) (ls' := [some (.ref 0), some (.int p1), some (.int p2)]) (st' := [.int p1, .ref 3]) (g' := g) (by decide +kernel) rfl ?_
  refine xcallV A (ix := 183) (nxt := 8) hrm hz [.int p1] [] 932 (c_X4_isPerson_3 hS _ rfl) ok_X4_isPerson (by decide +kernel) rfl (fun r g1 hq => ?_)
  rw [hq.1, hq.2]
  show xW k S 0 0 8 [some (.ref 0), some (.int p1), some (.int p2)] [.int (f_X4_isPerson_3 p1 g)] g
  refine xif_eq A (10) 18 11 (by decide +kernel) (fun h1 => ?_) (fun h1 => ?_)
  · rw [if_pos h1] at H
    refine xb A [(.iconst (-1), 1, 0, 0, .int (-1))] (pc' := 19) (ls' := [some (.ref 0), some (.int p1), some (.int p2)]) (st' := [.int (-1)]) (g' := g) (by decide +kernel) rfl ?_
    obtain rfl := Option.some.inj H
    exact xret_i A hR hz (by decide +kernel) rfl ⟨rfl, rfl⟩
  · rw [if_neg h1] at H
    refine xb A [(.iload_n 2, 1, 0, 0, .null)] (pc' := 12) (ls' := [some (.ref 0), some (.int p1), some (.int p2)]) (st' := [.int p2]) (g' := g) (by decide +kernel) rfl ?_
    refine xcallS A (ix := 221) (nxt := 15) hrm hz [.int p2] [] 1027 (c_X11_isSpan hS _ rfl) ok_X11_isSpan (by decide +kernel) rfl (fun r g1 hq => ?_)
    rw [hq.1, hq.2]
    show xW k S 0 0 15 [some (.ref 0), some (.int p1), some (.int p2)] [.int (f_X11_isSpan p2)] g
    refine xif_ne A (5) 20 18 (by decide +kernel) (fun h2 => ?_) (fun h2 => ?_)
    · rw [if_neg h2] at H
      refine xb A [(.aload_n 0, 1, 0, 0, .null), (.iload_n 2, 1, 0, 0, .null)] (pc' := 22) (ls' := [some (.ref 0), some (.int p1), some (.int p2)]) (st' := [.int p2, .ref 0]) (g' := g) (by decide +kernel) rfl ?_
      obtain ⟨w1, e1, H⟩ := xbind H
      refine xcallV A (ix := 272) (nxt := 25) hrm hz [.int p2] [] 1166 (c_X11_goOnTrusting_0 hS _ e1) ok_X11_goOnTrusting (by decide +kernel) rfl (fun r g1 hq => ?_)
      rw [hq.1, hq.2]
      show xW k S 0 0 25 [some (.ref 0), some (.int p1), some (.int p2)] [] w1
      refine xb A [(.aload_n 0, 1, 0, 0, .null), (.getfield 70, 3, 0, 9, .ref 50), (.iload_n 1, 1, 0, 0, .null), (.bipush 23, 2, 0, 0, .int 23)] (pc' := 32) (ls' := [some (.ref 0), some (.int p1), some (.int p2)]) (st' := [.int 23, .int p1, .ref 50]) (g' := w1) (by decide +kernel) rfl ?_
      refine xcallV A (ix := 192) (nxt := 35) hrm hz [.int p1, .int 23] [] 944 (c_X6_of_50 hS _ rfl) ok_X6_of (by decide +kernel) rfl (fun r g1 hq => ?_)
      rw [hq.1, hq.2]
      show xW k S 0 0 35 [some (.ref 0), some (.int p1), some (.int p2)] [.int (f_X6_of_50 p1 23 w1)] w1
      refine xb A [(.aload_n 0, 1, 0, 0, .null), (.getfield 66, 3, 0, 8, .ref 48), (.iload_n 1, 1, 0, 0, .null), (.bipush 23, 2, 0, 0, .int 23)] (pc' := 42) (ls' := [some (.ref 0), some (.int p1), some (.int p2)]) (st' := [.int 23, .int p1, .ref 48, .int (f_X6_of_50 p1 23 w1)]) (g' := w1) (by decide +kernel) rfl ?_
      refine xcallV A (ix := 192) (nxt := 45) hrm hz [.int p1, .int 23] [.int (f_X6_of_50 p1 23 w1)] 944 (c_X6_of_48 hS _ rfl) ok_X6_of (by decide +kernel) rfl (fun r g1 hq => ?_)
      rw [hq.1, hq.2]
      show xW k S 0 0 45 [some (.ref 0), some (.int p1), some (.int p2)] [.int (f_X6_of_48 p1 23 w1), .int (f_X6_of_50 p1 23 w1)] w1
      refine xb A [(.isub, 1, 0, 0, .null)] (pc' := 46) (ls' := [some (.ref 0), some (.int p1), some (.int p2)]) (st' := [.int ((f_X6_of_50 p1 23 w1) - (f_X6_of_48 p1 23 w1))]) (g' := w1) (by decide +kernel) rfl ?_
      obtain rfl := Option.some.inj H
      exact xret_i A hR hz (by decide +kernel) rfl ⟨rfl, rfl⟩
    · rw [if_pos h2] at H
      refine xb A [(.iconst (-1), 1, 0, 0, .int (-1))] (pc' := 19) (ls' := [some (.ref 0), some (.int p1), some (.int p2)]) (st' := [.int (-1)]) (g' := g) (by decide +kernel) rfl ?_
      obtain rfl := Option.some.inj H
      exact xret_i A hR hz (by decide +kernel) rfl ⟨rfl, rfl⟩
theorem fr_X11_often_0 {p1 : Int32} {p2 : Int32} {g : xG} (out : Int32 × xG) (H : f_X11_often_0 p1 p2 g = some out) : xfrm fp_X11_often_0 g (out.2) := by
  have H : (if (f_X4_isPerson_3 p1 g) = 0 then
  some ((-1), g)
else
  if (f_X11_isSpan p2) = 0 then
    some ((-1), g)
  else
    (f_X11_goOnTrusting_0 p2 g).bind fun w1 =>
    some ((f_X6_of_50 p1 23 w1) - (f_X6_of_48 p1 23 w1), w1)) = some out := H
  by_cases h1 : (f_X4_isPerson_3 p1 g) = 0
  · rw [if_pos h1] at H
    obtain rfl := Option.some.inj H
    exact xfrm.rf
  · rw [if_neg h1] at H
    by_cases h2 : (f_X11_isSpan p2) = 0
    · rw [if_pos h2] at H
      obtain rfl := Option.some.inj H
      exact xfrm.rf
    · rw [if_neg h2] at H
      obtain ⟨w1, e1, H⟩ := xbind H
      have hf1 : xfrm fp_X11_often_0 g (w1) := xfrm.tr xfrm.rf (fr_X11_goOnTrusting_0 _ e1) rfl
      obtain rfl := Option.some.inj H
      exact hf1
