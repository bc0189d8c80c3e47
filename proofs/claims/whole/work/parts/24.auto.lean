/-! methods, walked by program -/
def fp_X1_lies_44_48 : List (Nat × Option Nat) := [(16, none), (45, none)]
def f_X1_lies_44_48 (p2 : Int32) (g : xG) : Option (Int32 × xG) :=
  (f_X1_lawFrom_44_48 p2 (f_X4_homeOf_3 p2 g) 0 g).bind fun w1 =>
  if w1.1 = (f_X1_trueFarOf_44 p2 w1.2) then
    some (0, w1.2)
  else
    some (1, w1.2)
set_option maxRecDepth 20000 in
theorem c_X1_lies_44_48 {S : List xSh} (hS : xpf SH1 S) {g : xG} {p2 : Int32} (out : Int32 × xG) (H : f_X1_lies_44_48 p2 g = some out) : xC mX1_lies 3 76 0 0 S [.ref 44, .ref 48, .int p2] g S (fun r g' => r = some (.int out.1) ∧ g' = out.2) := by
  have H : ((f_X1_lawFrom_44_48 p2 (f_X4_homeOf_3 p2 g) 0 g).bind fun w1 =>
if w1.1 = (f_X1_trueFarOf_44 p2 w1.2) then
  some (0, w1.2)
else
  some (1, w1.2)) = some out := H
  refine xC.of 1 SH1 [some (.ref 44), some (.ref 48), some (.int p2)] hS (by decide +kernel) rfl (fun _ _ => Nat.le_of_ble_eq_true rfl) (fun _ _ => rfl) ?_
  intro k A hR hrm hz
  refine xb A [(.aload_n 0, 1, 0, 0, .null), (.aload_n 1, 1, 0, 0, .null), (.iload_n 2, 1, 0, 0, .null), (.aload_n 0, 1, 0, 0, .null), (.getfield 17, 3, 44, 0, .ref 3), (.iload_n 2, 1, 0, 0, .null)] (pc' := 8) (ls' := [some (.ref 44), some (.ref 48), some (.int p2)]) (st' := [.int p2, .ref 3, .int p2, .ref 48, .ref 44]) (g' := g) (by decide +kernel) rfl ?_
  refine xcallV A (ix := 25) (nxt := 11) hrm hz [.int p2] [.int p2, .ref 48, .ref 44] 957 (c_X4_homeOf_3 hS _ rfl) ok_X4_homeOf (by decide +kernel) rfl (fun r g1 hq => ?_)
  rw [hq.1, hq.2]
  show xW k S 0 0 11 [some (.ref 44), some (.ref 48), some (.int p2)] [.int (f_X4_homeOf_3 p2 g), .int p2, .ref 48, .ref 44] g
  refine xb A [(.iconst 0, 1, 0, 0, .int 0)] (pc' := 12) (ls' := [some (.ref 44), some (.ref 48), some (.int p2)]) (st' := [.int 0, .int (f_X4_homeOf_3 p2 g), .int p2, .ref 48, .ref 44]) (g' := g) (by decide +kernel) rfl ?_
  obtain ⟨w1, e1, H⟩ := xbind H
  refine xcallV A (ix := 41) (nxt := 15) hrm hz [.ref 48, .int p2, .int (f_X4_homeOf_3 p2 g), .int 0] [] 964 (c_X1_lawFrom_44_48 hS _ e1) ok_X1_lawFrom (by decide +kernel) rfl (fun r g1 hq => ?_)
  rw [hq.1, hq.2]
  show xW k S 0 0 15 [some (.ref 44), some (.ref 48), some (.int p2)] [.int w1.1] w1.2
  refine xb A [(.aload_n 0, 1, 0, 0, .null), (.iload_n 2, 1, 0, 0, .null)] (pc' := 17) (ls' := [some (.ref 44), some (.ref 48), some (.int p2)]) (st' := [.int p2, .ref 44, .int w1.1]) (g' := w1.2) (by decide +kernel) rfl ?_
  refine xcallV A (ix := 93) (nxt := 20) hrm hz [.int p2] [.int w1.1] 1056 (c_X1_trueFarOf_44 hS _ rfl) ok_X1_trueFarOf (by decide +kernel) rfl (fun r g1 hq => ?_)
  rw [hq.1, hq.2]
  show xW k S 0 0 20 [some (.ref 44), some (.ref 48), some (.int p2)] [.int (f_X1_trueFarOf_44 p2 w1.2), .int w1.1] w1.2
  refine xic_eq A (7) 27 23 (by decide +kernel) (fun h1 => ?_) (fun h1 => ?_)
  · rw [if_pos h1] at H
    refine xb A [(.iconst 0, 1, 0, 0, .int 0)] (pc' := 28) (ls' := [some (.ref 44), some (.ref 48), some (.int p2)]) (st' := [.int 0]) (g' := w1.2) (by decide +kernel) rfl ?_
    obtain rfl := Option.some.inj H
    exact xret_i A hR hz (by decide +kernel) rfl ⟨rfl, rfl⟩
  · rw [if_neg h1] at H
    refine xb A [(.iconst 1, 1, 0, 0, .int 1)] (pc' := 24) (ls' := [some (.ref 44), some (.ref 48), some (.int p2)]) (st' := [.int 1]) (g' := w1.2) (by decide +kernel) rfl ?_
    refine xgoto A (4) 28 (by decide +kernel) ?_
    obtain rfl := Option.some.inj H
    exact xret_i A hR hz (by decide +kernel) rfl ⟨rfl, rfl⟩
theorem fr_X1_lies_44_48 {p2 : Int32} {g : xG} (out : Int32 × xG) (H : f_X1_lies_44_48 p2 g = some out) : xfrm fp_X1_lies_44_48 g (out.2) := by
  have H : ((f_X1_lawFrom_44_48 p2 (f_X4_homeOf_3 p2 g) 0 g).bind fun w1 =>
if w1.1 = (f_X1_trueFarOf_44 p2 w1.2) then
  some (0, w1.2)
else
  some (1, w1.2)) = some out := H
  obtain ⟨w1, e1, H⟩ := xbind H
  have hf1 : xfrm fp_X1_lies_44_48 g (w1.2) := xfrm.tr xfrm.rf (fr_X1_lawFrom_44_48 _ e1) rfl
  by_cases h1 : w1.1 = (f_X1_trueFarOf_44 p2 w1.2)
  · rw [if_pos h1] at H
    obtain rfl := Option.some.inj H
    exact hf1
  · rw [if_neg h1] at H
    obtain rfl := Option.some.inj H
    exact hf1
def f_X1_mix (p0 : Int32) (p1 : Int32) : Int32 :=
  (((p0 ^^^ p1) * 1103515245) + 12345) ^^^ (((((p0 ^^^ p1) * 1103515245) + 12345).toUInt32 >>> ((15 : Int32).toUInt32 &&& Int32.toUInt32 31)).toInt32)
set_option maxRecDepth 20000 in
theorem c_X1_mix {S : List xSh} (hS : xpf SH1 S) {g : xG} {p0 : Int32} {p1 : Int32} (out : Int32) (H : f_X1_mix p0 p1 = out) : xC mX1_mix 0 0 0 0 S [.int p0, .int p1] g S (fun r g' => r = some (.int out) ∧ g' = g) := by
  have H : ((((p0 ^^^ p1) * 1103515245) + 12345) ^^^ (((((p0 ^^^ p1) * 1103515245) + 12345).toUInt32 >>> ((15 : Int32).toUInt32 &&& Int32.toUInt32 31)).toInt32)) = out := H
  refine xC.of 1 SH1 [some (.int p0), some (.int p1), none] hS (by decide +kernel) rfl (fun _ _ => Nat.le_of_ble_eq_true rfl) (fun _ _ => rfl) ?_
  intro k A hR hrm hz
  refine xb A [(.iload_n 0, 1, 0, 0, .null), (.iload_n 1, 1, 0, 0, .null), (.ixor, 1, 0, 0, .null), (.ldc 139, 2, 0, 0, .int 1103515245), (.imul, 1, 0, 0, .null), (.sipush 12345, 3, 0, 0, .int 12345), (.iadd, 1, 0, 0, .null), (.istore_n 2, 1, 0, 0, .null), (.iload_n 2, 1, 0, 0, .null), (.iload_n 2, 1, 0, 0, .null), (.bipush 15, 2, 0, 0, .int 15), (.iushr, 1, 0, 0, .null), (.ixor, 1, 0, 0, .null)] (pc' := 17) (ls' := [some (.int p0), some (.int p1), some (.int (((p0 ^^^ p1) * 1103515245) + 12345))]) (st' := [.int ((((p0 ^^^ p1) * 1103515245) + 12345) ^^^ (((((p0 ^^^ p1) * 1103515245) + 12345).toUInt32 >>> ((15 : Int32).toUInt32 &&& Int32.toUInt32 31)).toInt32))]) (g' := g) (by decide +kernel) rfl ?_
  subst H
  exact xret_i A hR hz (by decide +kernel) rfl ⟨rfl, rfl⟩
def f_X1_lot (p0 : Int32) (p1 : Int32) : Option (Int32) :=
  xg (¬ (100 : Int32) = 0) (
    some ((((f_X1_mix (f_X1_mix p0 191) p1).toUInt32 >>> ((1 : Int32).toUInt32 &&& Int32.toUInt32 31)).toInt32) - (((f_X1_mix (f_X1_mix p0 191) p1).toUInt32 >>> ((1 : Int32).toUInt32 &&& Int32.toUInt32 31)).toInt32) / 100 * 100))
set_option maxRecDepth 20000 in
theorem c_X1_lot {S : List xSh} (hS : xpf SH1 S) {g : xG} {p0 : Int32} {p1 : Int32} (out : Int32) (H : f_X1_lot p0 p1 = some out) : xC mX1_lot 1 22 0 0 S [.int p0, .int p1] g S (fun r g' => r = some (.int out) ∧ g' = g) := by
  have H : (xg (¬ (100 : Int32) = 0) (
  some ((((f_X1_mix (f_X1_mix p0 191) p1).toUInt32 >>> ((1 : Int32).toUInt32 &&& Int32.toUInt32 31)).toInt32) - (((f_X1_mix (f_X1_mix p0 191) p1).toUInt32 >>> ((1 : Int32).toUInt32 &&& Int32.toUInt32 31)).toInt32) / 100 * 100))) = some out := H
  refine xC.of 1 SH1 [some (.int p0), some (.int p1), none] hS (by decide +kernel) rfl (fun _ _ => Nat.le_of_ble_eq_true rfl) (fun _ _ => rfl) ?_
  intro k A hR hrm hz
  refine xb A [(.iload_n 0, 1, 0, 0, .null), (.sipush 191, 3, 0, 0, .int 191)] (pc' := 4) (ls' := [some (.int p0), some (.int p1), none]) (st' := [.int 191, .int p0]) (g' := g) (by decide +kernel) rfl ?_
  refine xcallS A (ix := 136) (nxt := 7) hrm hz [.int p0, .int 191] [] 1060 (c_X1_mix hS _ rfl) ok_X1_mix (by decide +kernel) rfl (fun r g1 hq => ?_)
  rw [hq.1, hq.2]
  show xW k S 0 0 7 [some (.int p0), some (.int p1), none] [.int (f_X1_mix p0 191)] g
  refine xb A [(.iload_n 1, 1, 0, 0, .null)] (pc' := 8) (ls' := [some (.int p0), some (.int p1), none]) (st' := [.int p1, .int (f_X1_mix p0 191)]) (g' := g) (by decide +kernel) rfl ?_
  refine xcallS A (ix := 136) (nxt := 11) hrm hz [.int (f_X1_mix p0 191), .int p1] [] 1060 (c_X1_mix hS _ rfl) ok_X1_mix (by decide +kernel) rfl (fun r g1 hq => ?_)
  rw [hq.1, hq.2]
  show xW k S 0 0 11 [some (.int p0), some (.int p1), none] [.int (f_X1_mix (f_X1_mix p0 191) p1)] g
  refine xb A [(.istore_n 2, 1, 0, 0, .null), (.iload_n 2, 1, 0, 0, .null), (.iconst 1, 1, 0, 0, .int 1), (.iushr, 1, 0, 0, .null), (.bipush 100, 2, 0, 0, .int 100)] (pc' := 17) (ls' := [some (.int p0), some (.int p1), some (.int (f_X1_mix (f_X1_mix p0 191) p1))]) (st' := [.int 100, .int (((f_X1_mix (f_X1_mix p0 191) p1).toUInt32 >>> ((1 : Int32).toUInt32 &&& Int32.toUInt32 31)).toInt32)]) (g' := g) (by decide +kernel) rfl ?_
  obtain ⟨h1, H⟩ := xg_elim H
  refine xirem A (nxt := 18) (by decide +kernel) h1 ?_
  obtain rfl := Option.some.inj H
  exact xret_i A hR hz (by decide +kernel) rfl ⟨rfl, rfl⟩
def fp_X1_isFoundOut_44_48 : List (Nat × Option Nat) := [(16, none), (45, none)]
def f_X1_isFoundOut_44_48 (p2 : Int32) (p3 : Int32) (g : xG) : Option (Int32 × xG) :=
  (f_X1_lies_44_48 p2 g).bind fun w1 =>
  if w1.1 = 0 then
    some (0, w1.2)
  else
    (f_X1_lot p3 ((8 * (f_X6_get_48 0 w1.2)) + p2)).bind fun w2 =>
    (f_X1_lawNow_44_48 p2 3 w1.2).bind fun w3 =>
    if w3.1 ≤ w2 then
      some (0, w3.2)
    else
      some (1, w3.2)
set_option maxRecDepth 20000 in
theorem c_X1_isFoundOut_44_48 {S : List xSh} (hS : xpf SH1 S) {g : xG} {p2 : Int32} {p3 : Int32} (out : Int32 × xG) (H : f_X1_isFoundOut_44_48 p2 p3 g = some out) : xC mX1_isFoundOut 4 99 0 0 S [.ref 44, .ref 48, .int p2, .int p3] g S (fun r g' => r = some (.int out.1) ∧ g' = out.2) := by
  have H : ((f_X1_lies_44_48 p2 g).bind fun w1 =>
if w1.1 = 0 then
  some (0, w1.2)
else
  (f_X1_lot p3 ((8 * (f_X6_get_48 0 w1.2)) + p2)).bind fun w2 =>
  (f_X1_lawNow_44_48 p2 3 w1.2).bind fun w3 =>
  if w3.1 ≤ w2 then
    some (0, w3.2)
  else
    some (1, w3.2)) = some out := H
  refine xC.of 1 SH1 [some (.ref 44), some (.ref 48), some (.int p2), some (.int p3)] hS (by decide +kernel) rfl (fun _ _ => Nat.le_of_ble_eq_true rfl) (fun _ _ => rfl) ?_
  intro k A hR hrm hz
  refine xb A [(.aload_n 0, 1, 0, 0, .null), (.aload_n 1, 1, 0, 0, .null), (.iload_n 2, 1, 0, 0, .null)] (pc' := 3) (ls' := [some (.ref 44), some (.ref 48), some (.int p2), some (.int p3)]) (st' := [.int p2, .ref 48, .ref 44]) (g' := g) (by decide +kernel) rfl ?_
  obtain ⟨w1, e1, H⟩ := xbind H
  refine xcallV A (ix := 130) (nxt := 6) hrm hz [.ref 48, .int p2] [] 1052 (c_X1_lies_44_48 hS _ e1) ok_X1_lies (by decide +kernel) rfl (fun r g1 hq => ?_)
  rw [hq.1, hq.2]
  show xW k S 0 0 6 [some (.ref 44), some (.ref 48), some (.int p2), some (.int p3)] [.int w1.1] w1.2
  refine xif_eq A (31) 37 9 (by decide +kernel) (fun h1 => ?_) (fun h1 => ?_)
  · rw [if_pos h1] at H
    refine xb A [(.iconst 0, 1, 0, 0, .int 0)] (pc' := 38) (ls' := [some (.ref 44), some (.ref 48), some (.int p2), some (.int p3)]) (st' := [.int 0]) (g' := w1.2) (by decide +kernel) rfl ?_
    obtain rfl := Option.some.inj H
    exact xret_i A hR hz (by decide +kernel) rfl ⟨rfl, rfl⟩
  · rw [if_neg h1] at H
    refine xb A [(.iload_n 3, 1, 0, 0, .null), (.bipush 8, 2, 0, 0, .int 8), (.aload_n 1, 1, 0, 0, .null), (.iconst 0, 1, 0, 0, .int 0)] (pc' := 14) (ls' := [some (.ref 44), some (.ref 48), some (.int p2), some (.int p3)]) (st' := [.int 0, .ref 48, .int 8, .int p3]) (g' := w1.2) (by decide +kernel) rfl ?_
    refine xcallV A (ix := 57) (nxt := 17) hrm hz [.int 0] [.int 8, .int p3] 971 (c_X6_get_48 hS _ rfl) ok_X6_get (by decide +kernel) rfl (fun r g1 hq => ?_)
    rw [hq.1, hq.2]
    show xW k S 0 0 17 [some (.ref 44), some (.ref 48), some (.int p2), some (.int p3)] [.int (f_X6_get_48 0 w1.2), .int 8, .int p3] w1.2
    refine xb A [(.imul, 1, 0, 0, .null), (.iload_n 2, 1, 0, 0, .null), (.iadd, 1, 0, 0, .null)] (pc' := 20) (ls' := [some (.ref 44), some (.ref 48), some (.int p2), some (.int p3)]) (st' := [.int ((8 * (f_X6_get_48 0 w1.2)) + p2), .int p3]) (g' := w1.2) (by decide +kernel) rfl ?_
    obtain ⟨w2, e2, H⟩ := xbind H
    refine xcallS A (ix := 133) (nxt := 23) hrm hz [.int p3, .int ((8 * (f_X6_get_48 0 w1.2)) + p2)] [] 1057 (c_X1_lot hS _ e2) ok_X1_lot (by decide +kernel) rfl (fun r g1 hq => ?_)
    rw [hq.1, hq.2]
    show xW k S 0 0 23 [some (.ref 44), some (.ref 48), some (.int p2), some (.int p3)] [.int w2] w1.2
    refine xb A [(.aload_n 0, 1, 0, 0, .null), (.aload_n 1, 1, 0, 0, .null), (.iload_n 2, 1, 0, 0, .null), (.iconst 3, 1, 0, 0, .int 3)] (pc' := 27) (ls' := [some (.ref 44), some (.ref 48), some (.int p2), some (.int p3)]) (st' := [.int 3, .int p2, .ref 48, .ref 44, .int w2]) (g' := w1.2) (by decide +kernel) rfl ?_
    obtain ⟨w3, e3, H⟩ := xbind H
    refine xcallV A (ix := 100) (nxt := 30) hrm hz [.ref 48, .int p2, .int 3] [.int w2] 1047 (c_X1_lawNow_44_48 hS _ e3) ok_X1_lawNow (by decide +kernel) rfl (fun r g1 hq => ?_)
    rw [hq.1, hq.2]
    show xW k S 0 0 30 [some (.ref 44), some (.ref 48), some (.int p2), some (.int p3)] [.int w3.1, .int w2] w3.2
    refine xic_ge A (7) 37 33 (by decide +kernel) (fun h2 => ?_) (fun h2 => ?_)
    · rw [if_pos h2] at H
      refine xb A [(.iconst 0, 1, 0, 0, .int 0)] (pc' := 38) (ls' := [some (.ref 44), some (.ref 48), some (.int p2), some (.int p3)]) (st' := [.int 0]) (g' := w3.2) (by decide +kernel) rfl ?_
      obtain rfl := Option.some.inj H
      exact xret_i A hR hz (by decide +kernel) rfl ⟨rfl, rfl⟩
    · rw [if_neg h2] at H
      refine xb A [(.iconst 1, 1, 0, 0, .int 1)] (pc' := 34) (ls' := [some (.ref 44), some (.ref 48), some (.int p2), some (.int p3)]) (st' := [.int 1]) (g' := w3.2) (by decide +kernel) rfl ?_
      refine xgoto A (4) 38 (by decide +kernel) ?_
      obtain rfl := Option.some.inj H
      exact xret_i A hR hz (by decide +kernel) rfl ⟨rfl, rfl⟩
theorem fr_X1_isFoundOut_44_48 {p2 : Int32} {p3 : Int32} {g : xG} (out : Int32 × xG) (H : f_X1_isFoundOut_44_48 p2 p3 g = some out) : xfrm fp_X1_isFoundOut_44_48 g (out.2) := by
  have H : ((f_X1_lies_44_48 p2 g).bind fun w1 =>
if w1.1 = 0 then
  some (0, w1.2)
else
  (f_X1_lot p3 ((8 * (f_X6_get_48 0 w1.2)) + p2)).bind fun w2 =>
  (f_X1_lawNow_44_48 p2 3 w1.2).bind fun w3 =>
  if w3.1 ≤ w2 then
    some (0, w3.2)
  else
    some (1, w3.2)) = some out := H
  obtain ⟨w1, e1, H⟩ := xbind H
  have hf1 : xfrm fp_X1_isFoundOut_44_48 g (w1.2) := xfrm.tr xfrm.rf (fr_X1_lies_44_48 _ e1) rfl
  by_cases h1 : w1.1 = 0
  · rw [if_pos h1] at H
    obtain rfl := Option.some.inj H
    exact hf1
  · rw [if_neg h1] at H
    obtain ⟨w2, e2, H⟩ := xbind H
    obtain ⟨w3, e3, H⟩ := xbind H
    have hf2 : xfrm fp_X1_isFoundOut_44_48 g (w3.2) := xfrm.tr hf1 (fr_X1_lawNow_44_48 _ e3) rfl
    by_cases h2 : w3.1 ≤ w2
    · rw [if_pos h2] at H
      obtain rfl := Option.some.inj H
      exact hf2
    · rw [if_neg h2] at H
      obtain rfl := Option.some.inj H
      exact hf2
def fp_X1_strike_44_48 : List (Nat × Option Nat) := [(16, none), (45, none), (49, none)]
def f_X1_strike_44_48 (p2 : Int32) (g : xG) : Option (xG) :=
  (f_X1_lawNow_44_48 p2 1 g).bind fun w1 =>
  (f_X1_lawNow_44_48 p2 2 w1.2).bind fun w2 =>
  xl (f_X6_set_48 2 w1.1 w2.2) fun w3 =>
  xl (f_X6_setOf_48 p2 23 ((f_X6_of_48 p2 23 w3) + 1) w3) fun w4 =>
  xl (f_X6_setOf_48 p2 29 (xmin 99999 ((f_X6_of_48 p2 29 w2.2) + w2.1)) w4) fun w5 =>
  some w5
set_option maxRecDepth 20000 in
theorem c_X1_strike_44_48 {S : List xSh} (hS : xpf SH1 S) {g : xG} {p2 : Int32} (out : xG) (H : f_X1_strike_44_48 p2 g = some out) : xC mX1_strike 4 99 0 0 S [.ref 44, .ref 48, .int p2] g S (fun r g' => r = none ∧ g' = out) := by
  have H : ((f_X1_lawNow_44_48 p2 1 g).bind fun w1 =>
(f_X1_lawNow_44_48 p2 2 w1.2).bind fun w2 =>
xl (f_X6_set_48 2 w1.1 w2.2) fun w3 =>
xl (f_X6_setOf_48 p2 23 ((f_X6_of_48 p2 23 w3) + 1) w3) fun w4 =>
xl (f_X6_setOf_48 p2 29 (xmin 99999 ((f_X6_of_48 p2 29 w2.2) + w2.1)) w4) fun w5 =>
some w5) = some out := H
  refine xC.of 1 SH1 [some (.ref 44), some (.ref 48), some (.int p2), none, none, none] hS (by decide +kernel) rfl (fun _ _ => Nat.le_of_ble_eq_true rfl) (fun _ _ => rfl) ?_
  intro k A hR hrm hz
  refine xb A [(.aload_n 0, 1, 0, 0, .null), (.aload_n 1, 1, 0, 0, .null), (.iload_n 2, 1, 0, 0, .null), (.iconst 1, 1, 0, 0, .int 1)] (pc' := 4) (ls' := [some (.ref 44), some (.ref 48), some (.int p2), none, none, none]) (st' := [.int 1, .int p2, .ref 48, .ref 44]) (g' := g) (by decide +kernel) rfl ?_
  obtain ⟨w1, e1, H⟩ := xbind H
  refine xcallV A (ix := 100) (nxt := 7) hrm hz [.ref 48, .int p2, .int 1] [] 1047 (c_X1_lawNow_44_48 hS _ e1) ok_X1_lawNow (by decide +kernel) rfl (fun r g1 hq => ?_)
  rw [hq.1, hq.2]
  show xW k S 0 0 7 [some (.ref 44), some (.ref 48), some (.int p2), none, none, none] [.int w1.1] w1.2
  refine xb A [(.istore_n 3, 1, 0, 0, .null), (.aload_n 0, 1, 0, 0, .null), (.aload_n 1, 1, 0, 0, .null), (.iload_n 2, 1, 0, 0, .null), (.iconst 2, 1, 0, 0, .int 2)] (pc' := 12) (ls' := [some (.ref 44), some (.ref 48), some (.int p2), some (.int w1.1), none, none]) (st' := [.int 2, .int p2, .ref 48, .ref 44]) (g' := w1.2) (by decide +kernel) rfl ?_
  obtain ⟨w2, e2, H⟩ := xbind H
  refine xcallV A (ix := 100) (nxt := 15) hrm hz [.ref 48, .int p2, .int 2] [] 1047 (c_X1_lawNow_44_48 hS _ e2) ok_X1_lawNow (by decide +kernel) rfl (fun r g1 hq => ?_)
  rw [hq.1, hq.2]
  show xW k S 0 0 15 [some (.ref 44), some (.ref 48), some (.int p2), some (.int w1.1), none, none] [.int w2.1] w2.2
  refine xb A [(.istore 4, 2, 0, 0, .null), (.aload_n 1, 1, 0, 0, .null), (.iload_n 2, 1, 0, 0, .null), (.bipush 29, 2, 0, 0, .int 29)] (pc' := 21) (ls' := [some (.ref 44), some (.ref 48), some (.int p2), some (.int w1.1), some (.int w2.1), none]) (st' := [.int 29, .int p2, .ref 48]) (g' := w2.2) (by decide +kernel) rfl ?_
  refine xcallV A (ix := 51) (nxt := 24) hrm hz [.int p2, .int 29] [] 969 (c_X6_of_48 hS _ rfl) ok_X6_of (by decide +kernel) rfl (fun r g1 hq => ?_)
  rw [hq.1, hq.2]
  show xW k S 0 0 24 [some (.ref 44), some (.ref 48), some (.int p2), some (.int w1.1), some (.int w2.1), none] [.int (f_X6_of_48 p2 29 w2.2)] w2.2
  refine xb A [(.istore 5, 2, 0, 0, .null), (.aload_n 1, 1, 0, 0, .null), (.iconst 2, 1, 0, 0, .int 2), (.iload_n 3, 1, 0, 0, .null)] (pc' := 29) (ls' := [some (.ref 44), some (.ref 48), some (.int p2), some (.int w1.1), some (.int w2.1), some (.int (f_X6_of_48 p2 29 w2.2))]) (st' := [.int w1.1, .int 2, .ref 48]) (g' := w2.2) (by decide +kernel) rfl ?_
  obtain ⟨w3, e3, H⟩ := xl_elim H
  refine xcallV A (ix := 119) (nxt := 32) hrm hz [.int 2, .int w1.1] [] 1065 (c_X6_set_48 hS _ e3) ok_X6_set (by decide +kernel) rfl (fun r g1 hq => ?_)
  rw [hq.1, hq.2]
  show xW k S 0 0 32 [some (.ref 44), some (.ref 48), some (.int p2), some (.int w1.1), some (.int w2.1), some (.int (f_X6_of_48 p2 29 w2.2))] [] w3
  refine xb A [(.aload_n 1, 1, 0, 0, .null), (.iload_n 2, 1, 0, 0, .null), (.bipush 23, 2, 0, 0, .int 23), (.aload_n 1, 1, 0, 0, .null), (.iload_n 2, 1, 0, 0, .null), (.bipush 23, 2, 0, 0, .int 23)] (pc' := 40) (ls' := [some (.ref 44), some (.ref 48), some (.int p2), some (.int w1.1), some (.int w2.1), some (.int (f_X6_of_48 p2 29 w2.2))]) (st' := [.int 23, .int p2, .ref 48, .int 23, .int p2, .ref 48]) (g' := w3) (by decide +kernel) rfl ?_
  refine xcallV A (ix := 51) (nxt := 43) hrm hz [.int p2, .int 23] [.int 23, .int p2, .ref 48] 969 (c_X6_of_48 hS _ rfl) ok_X6_of (by decide +kernel) rfl (fun r g1 hq => ?_)
  rw [hq.1, hq.2]
  show xW k S 0 0 43 [some (.ref 44), some (.ref 48), some (.int p2), some (.int w1.1), some (.int w2.1), some (.int (f_X6_of_48 p2 29 w2.2))] [.int (f_X6_of_48 p2 23 w3), .int 23, .int p2, .ref 48] w3
  refine xb A [(.iconst 1, 1, 0, 0, .int 1), (.iadd, 1, 0, 0, .null)] (pc' := 45) (ls' := [some (.ref 44), some (.ref 48), some (.int p2), some (.int w1.1), some (.int w2.1), some (.int (f_X6_of_48 p2 29 w2.2))]) (st' := [.int ((f_X6_of_48 p2 23 w3) + 1), .int 23, .int p2, .ref 48]) (g' := w3) (by decide +kernel) rfl ?_
  obtain ⟨w4, e4, H⟩ := xl_elim H
  refine xcallV A (ix := 140) (nxt := 48) hrm hz [.int p2, .int 23, .int ((f_X6_of_48 p2 23 w3) + 1)] [] 1070 (c_X6_setOf_48 hS _ e4) ok_X6_setOf (by decide +kernel) rfl (fun r g1 hq => ?_)
  rw [hq.1, hq.2]
  show xW k S 0 0 48 [some (.ref 44), some (.ref 48), some (.int p2), some (.int w1.1), some (.int w2.1), some (.int (f_X6_of_48 p2 29 w2.2))] [] w4
  refine xb A [(.aload_n 1, 1, 0, 0, .null), (.iload_n 2, 1, 0, 0, .null), (.bipush 29, 2, 0, 0, .int 29), (.ldc 144, 2, 0, 0, .int 99999), (.iload 5, 2, 0, 0, .null), (.iload 4, 2, 0, 0, .null), (.iadd, 1, 0, 0, .null)] (pc' := 59) (ls' := [some (.ref 44), some (.ref 48), some (.int p2), some (.int w1.1), some (.int w2.1), some (.int (f_X6_of_48 p2 29 w2.2))]) (st' := [.int ((f_X6_of_48 p2 29 w2.2) + w2.1), .int 99999, .int 29, .int p2, .ref 48]) (g' := w4) (by decide +kernel) rfl ?_
  refine xmmin A (ix := 85) (nxt := 62) hrm [.int 29, .int p2, .ref 48] 995 (by decide +kernel) rfl ?_
  obtain ⟨w5, e5, H⟩ := xl_elim H
  refine xcallV A (ix := 140) (nxt := 65) hrm hz [.int p2, .int 29, .int (xmin 99999 ((f_X6_of_48 p2 29 w2.2) + w2.1))] [] 1070 (c_X6_setOf_48 hS _ e5) ok_X6_setOf (by decide +kernel) rfl (fun r g1 hq => ?_)
  rw [hq.1, hq.2]
  show xW k S 0 0 65 [some (.ref 44), some (.ref 48), some (.int p2), some (.int w1.1), some (.int w2.1), some (.int (f_X6_of_48 p2 29 w2.2))] [] w5
  obtain rfl := Option.some.inj H
  exact xret_v A hR hz (by decide +kernel) ⟨rfl, rfl⟩
theorem fr_X1_strike_44_48 {p2 : Int32} {g : xG} (out : xG) (H : f_X1_strike_44_48 p2 g = some out) : xfrm fp_X1_strike_44_48 g (out) := by
  have H : ((f_X1_lawNow_44_48 p2 1 g).bind fun w1 =>
(f_X1_lawNow_44_48 p2 2 w1.2).bind fun w2 =>
xl (f_X6_set_48 2 w1.1 w2.2) fun w3 =>
xl (f_X6_setOf_48 p2 23 ((f_X6_of_48 p2 23 w3) + 1) w3) fun w4 =>
xl (f_X6_setOf_48 p2 29 (xmin 99999 ((f_X6_of_48 p2 29 w2.2) + w2.1)) w4) fun w5 =>
some w5) = some out := H
  obtain ⟨w1, e1, H⟩ := xbind H
  have hf1 : xfrm fp_X1_strike_44_48 g (w1.2) := xfrm.tr xfrm.rf (fr_X1_lawNow_44_48 _ e1) rfl
  obtain ⟨w2, e2, H⟩ := xbind H
  have hf2 : xfrm fp_X1_strike_44_48 g (w2.2) := xfrm.tr hf1 (fr_X1_lawNow_44_48 _ e2) rfl
  obtain ⟨w3, e3, H⟩ := xl_elim H
  have hf3 : xfrm fp_X1_strike_44_48 g (w3) := xfrm.tr hf2 (fr_X6_set_48 _ e3) rfl
  obtain ⟨w4, e4, H⟩ := xl_elim H
  have hf4 : xfrm fp_X1_strike_44_48 g (w4) := xfrm.tr hf3 (fr_X6_setOf_48 _ e4) rfl
  obtain ⟨w5, e5, H⟩ := xl_elim H
  have hf5 : xfrm fp_X1_strike_44_48 g (w5) := xfrm.tr hf4 (fr_X6_setOf_48 _ e5) rfl
  obtain rfl := Option.some.inj H
  exact hf5
def f_X10_roadToward_38_9  (g : xG) : Nat → Int32 → Int32 → Int32 → Int32 → Int32 → Option (Int32)
  | 0, _, _, _, _, _ => none
  | n + 1, l1, l2, l3, l4, l5 =>
    if (f_X4_roads_3 g) ≤ l5 then
      some l3
    else
      if (f_X10_isOpen_38 l5 g) = 0 then
        f_X10_roadToward_38_9 g n l1 l2 l3 l4 (l5 + 1)
      else
        if 999 ≤ (f_X10_between_38 (f_X4_acrossFrom_3 l1 l5 g) l2 g) then
          f_X10_roadToward_38_9 g n l1 l2 l3 l4 (l5 + 1)
        else
          if l3 = (-2) then
            f_X10_roadToward_38_9 g n l1 l2 l5 ((f_X4_milesOf_3 l5 g) + (f_X10_between_38 (f_X4_acrossFrom_3 l1 l5 g) l2 g)) (l5 + 1)
          else
            if l4 ≤ ((f_X4_milesOf_3 l5 g) + (f_X10_between_38 (f_X4_acrossFrom_3 l1 l5 g) l2 g)) then
              f_X10_roadToward_38_9 g n l1 l2 l3 l4 (l5 + 1)
            else
              f_X10_roadToward_38_9 g n l1 l2 l5 ((f_X4_milesOf_3 l5 g) + (f_X10_between_38 (f_X4_acrossFrom_3 l1 l5 g) l2 g)) (l5 + 1)
def f_X10_roadToward_38 (p1 : Int32) (p2 : Int32) (g : xG) : Option (Int32) :=
  f_X10_roadToward_38_9 g xN p1 p2 (-2) 0 0
set_option maxRecDepth 20000 in
theorem t_X10_roadToward_38_9 {k : xK} {S : List xSh} {g : xG} {out : Int32} (hS : xpf SH1 S) (A : xAt k mX10_roadToward.2.1 10 SH1 S) (hR : xRet k 0 0 S (fun r g' => r = some (.int out) ∧ g' = g) mX10_roadToward.2.2.2) (hrm : xrm k = { frames := 3, cells := 0, slots := 0, locals := 64 }) (hz : xhs k = xb0 k + S.length)   : ∀ (n : Nat) (l1 : Int32) (l2 : Int32) (l3 : Int32) (l4 : Int32) (l5 : Int32), f_X10_roadToward_38_9 g n l1 l2 l3 l4 l5 = some out → xW k S 0 0 9 [some (.ref 38), some (.int l1), some (.int l2), some (.int l3), some (.int l4), some (.int l5), none, none] [] g := by
  intro n
  induction n with
  | zero => intro l1 l2 l3 l4 l5 H; exact absurd H (by simp [f_X10_roadToward_38_9])
  | succ n ih =>
    intro l1 l2 l3 l4 l5 H
    have H : (if (f_X4_roads_3 g) ≤ l5 then
  some l3
else
  if (f_X10_isOpen_38 l5 g) = 0 then
    f_X10_roadToward_38_9 g n l1 l2 l3 l4 (l5 + 1)
  else
    if 999 ≤ (f_X10_between_38 (f_X4_acrossFrom_3 l1 l5 g) l2 g) then
      f_X10_roadToward_38_9 g n l1 l2 l3 l4 (l5 + 1)
    else
      if l3 = (-2) then
        f_X10_roadToward_38_9 g n l1 l2 l5 ((f_X4_milesOf_3 l5 g) + (f_X10_between_38 (f_X4_acrossFrom_3 l1 l5 g) l2 g)) (l5 + 1)
      else
        if l4 ≤ ((f_X4_milesOf_3 l5 g) + (f_X10_between_38 (f_X4_acrossFrom_3 l1 l5 g) l2 g)) then
          f_X10_roadToward_38_9 g n l1 l2 l3 l4 (l5 + 1)
        else
          f_X10_roadToward_38_9 g n l1 l2 l5 ((f_X4_milesOf_3 l5 g) + (f_X10_between_38 (f_X4_acrossFrom_3 l1 l5 g) l2 g)) (l5 + 1)) = some out := H
    refine xb A [(.iload 5, 2, 0, 0, .null), (.aload_n 0, 1, 0, 0, .null), (.getfield 15, 3, 38, 0, .ref 3)] (pc' := 15) (ls' := [some (.ref 38), some (.int l1), some (.int l2), some (.int l3), some (.int l4), some (.int l5), none, none]) (st' := [.ref 3, .int l5]) (g' := g) (by decide +kernel) rfl ?_
    refine xcallV A (ix := 23) (nxt := 18) hrm hz [] [.int l5] 498 (c_X4_roads_3 hS _ rfl) ok_X4_roads (by decide +kernel) rfl (fun r g1 hq => ?_)
    rw [hq.1, hq.2]
    show xW k S 0 0 18 [some (.ref 38), some (.int l1), some (.int l2), some (.int l3), some (.int l4), some (.int l5), none, none] [.int (f_X4_roads_3 g), .int l5] g
    refine xic_ge A (77) 95 21 (by decide +kernel) (fun h1 => ?_) (fun h1 => ?_)
    · rw [if_pos h1] at H
      refine xb A [(.iload_n 3, 1, 0, 0, .null)] (pc' := 96) (ls' := [some (.ref 38), some (.int l1), some (.int l2), some (.int l3), some (.int l4), some (.int l5), none, none]) (st' := [.int l3]) (g' := g) (by decide +kernel) rfl ?_
      obtain rfl := Option.some.inj H
      exact xret_i A hR hz (by decide +kernel) rfl ⟨rfl, rfl⟩
    · rw [if_neg h1] at H
      refine xb A [(.aload_n 0, 1, 0, 0, .null), (.aload_n 0, 1, 0, 0, .null), (.getfield 15, 3, 38, 0, .ref 3), (.iload_n 1, 1, 0, 0, .null), (.iload 5, 2, 0, 0, .null)] (pc' := 29) (ls' := [some (.ref 38), some (.int l1), some (.int l2), some (.int l3), some (.int l4), some (.int l5), none, none]) (st' := [.int l5, .int l1, .ref 3, .ref 38]) (g' := g) (by decide +kernel) rfl ?_
      refine xcallV A (ix := 71) (nxt := 32) hrm hz [.int l1, .int l5] [.ref 38] 1080 (c_X4_acrossFrom_3 hS _ rfl) ok_X4_acrossFrom (by decide +kernel) rfl (fun r g1 hq => ?_)
      rw [hq.1, hq.2]
      show xW k S 0 0 32 [some (.ref 38), some (.int l1), some (.int l2), some (.int l3), some (.int l4), some (.int l5), none, none] [.int (f_X4_acrossFrom_3 l1 l5 g), .ref 38] g
      refine xb A [(.iload_n 2, 1, 0, 0, .null)] (pc' := 33) (ls' := [some (.ref 38), some (.int l1), some (.int l2), some (.int l3), some (.int l4), some (.int l5), none, none]) (st' := [.int l2, .int (f_X4_acrossFrom_3 l1 l5 g), .ref 38]) (g' := g) (by decide +kernel) rfl ?_
      refine xcallV A (ix := 50) (nxt := 36) hrm hz [.int (f_X4_acrossFrom_3 l1 l5 g), .int l2] [] 529 (c_X10_between_38 hS _ rfl) ok_X10_between (by decide +kernel) rfl (fun r g1 hq => ?_)
      rw [hq.1, hq.2]
      show xW k S 0 0 36 [some (.ref 38), some (.int l1), some (.int l2), some (.int l3), some (.int l4), some (.int l5), none, none] [.int (f_X10_between_38 (f_X4_acrossFrom_3 l1 l5 g) l2 g)] g
      refine xb A [(.istore 6, 2, 0, 0, .null), (.aload_n 0, 1, 0, 0, .null), (.getfield 15, 3, 38, 0, .ref 3), (.iload 5, 2, 0, 0, .null)] (pc' := 44) (ls' := [some (.ref 38), some (.int l1), some (.int l2), some (.int l3), some (.int l4), some (.int l5), some (.int (f_X10_between_38 (f_X4_acrossFrom_3 l1 l5 g) l2 g)), none]) (st' := [.int l5, .ref 3]) (g' := g) (by decide +kernel) rfl ?_
      refine xcallV A (ix := 40) (nxt := 47) hrm hz [.int l5] [] 521 (c_X4_milesOf_3 hS _ rfl) ok_X4_milesOf (by decide +kernel) rfl (fun r g1 hq => ?_)
      rw [hq.1, hq.2]
      show xW k S 0 0 47 [some (.ref 38), some (.int l1), some (.int l2), some (.int l3), some (.int l4), some (.int l5), some (.int (f_X10_between_38 (f_X4_acrossFrom_3 l1 l5 g) l2 g)), none] [.int (f_X4_milesOf_3 l5 g)] g
      refine xb A [(.iload 6, 2, 0, 0, .null), (.iadd, 1, 0, 0, .null), (.istore 7, 2, 0, 0, .null), (.aload_n 0, 1, 0, 0, .null), (.iload 5, 2, 0, 0, .null)] (pc' := 55) (ls' := [some (.ref 38), some (.int l1), some (.int l2), some (.int l3), some (.int l4), some (.int l5), some (.int (f_X10_between_38 (f_X4_acrossFrom_3 l1 l5 g) l2 g)), some (.int ((f_X4_milesOf_3 l5 g) + (f_X10_between_38 (f_X4_acrossFrom_3 l1 l5 g) l2 g)))]) (st' := [.int l5, .ref 38]) (g' := g) (by decide +kernel) rfl ?_
      refine xcallV A (ix := 29) (nxt := 58) hrm hz [.int l5] [] 502 (c_X10_isOpen_38 hS _ rfl) ok_X10_isOpen (by decide +kernel) rfl (fun r g1 hq => ?_)
      rw [hq.1, hq.2]
      show xW k S 0 0 58 [some (.ref 38), some (.int l1), some (.int l2), some (.int l3), some (.int l4), some (.int l5), some (.int (f_X10_between_38 (f_X4_acrossFrom_3 l1 l5 g) l2 g)), some (.int ((f_X4_milesOf_3 l5 g) + (f_X10_between_38 (f_X4_acrossFrom_3 l1 l5 g) l2 g)))] [.int (f_X10_isOpen_38 l5 g)] g
      refine xif_eq A (31) 89 61 (by decide +kernel) (fun h2 => ?_) (fun h2 => ?_)
      · rw [if_pos h2] at H
        refine xb A [(.iinc 5 1, 3, 0, 0, .null)] (pc' := 92) (ls' := [some (.ref 38), some (.int l1), some (.int l2), some (.int l3), some (.int l4), some (.int (l5 + 1)), some (.int (f_X10_between_38 (f_X4_acrossFrom_3 l1 l5 g) l2 g)), some (.int ((f_X4_milesOf_3 l5 g) + (f_X10_between_38 (f_X4_acrossFrom_3 l1 l5 g) l2 g)))]) (st' := []) (g' := g) (by decide +kernel) rfl ?_
        refine xgoto A (-83) 9 (by decide +kernel) ?_
        refine xweak (ls' := [some (.ref 38), some (.int l1), some (.int l2), some (.int l3), some (.int l4), some (.int (l5 + 1)), none, none]) (by exact ⟨rfl, ⟨rfl, ⟨rfl, ⟨rfl, ⟨rfl, ⟨rfl, trivial⟩⟩⟩⟩⟩⟩) ?_
        exact ih _ _ _ _ _ H
      · rw [if_neg h2] at H
        refine xb A [(.iload 6, 2, 0, 0, .null), (.sipush 999, 3, 0, 0, .int 999)] (pc' := 66) (ls' := [some (.ref 38), some (.int l1), some (.int l2), some (.int l3), some (.int l4), some (.int l5), some (.int (f_X10_between_38 (f_X4_acrossFrom_3 l1 l5 g) l2 g)), some (.int ((f_X4_milesOf_3 l5 g) + (f_X10_between_38 (f_X4_acrossFrom_3 l1 l5 g) l2 g)))]) (st' := [.int 999, .int (f_X10_between_38 (f_X4_acrossFrom_3 l1 l5 g) l2 g)]) (g' := g) (by decide +kernel) rfl ?_
        refine xic_ge A (23) 89 69 (by decide +kernel) (fun h3 => ?_) (fun h3 => ?_)
        · rw [if_pos h3] at H
          refine xb A [(.iinc 5 1, 3, 0, 0, .null)] (pc' := 92) (ls' := [some (.ref 38), some (.int l1), some (.int l2), some (.int l3), some (.int l4), some (.int (l5 + 1)), some (.int (f_X10_between_38 (f_X4_acrossFrom_3 l1 l5 g) l2 g)), some (.int ((f_X4_milesOf_3 l5 g) + (f_X10_between_38 (f_X4_acrossFrom_3 l1 l5 g) l2 g)))]) (st' := []) (g' := g) (by decide +kernel) rfl ?_
          refine xgoto A (-83) 9 (by decide +kernel) ?_
          refine xweak (ls' := [some (.ref 38), some (.int l1), some (.int l2), some (.int l3), some (.int l4), some (.int (l5 + 1)), none, none]) (by exact ⟨rfl, ⟨rfl, ⟨rfl, ⟨rfl, ⟨rfl, ⟨rfl, trivial⟩⟩⟩⟩⟩⟩) ?_
          exact ih _ _ _ _ _ H
        · rw [if_neg h3] at H
          refine xb A [(.iload_n 3, 1, 0, 0, .null), (.bipush (-2), 2, 0, 0, .int (-2))] (pc' := 72) (ls' := [some (.ref 38), some (.int l1), some (.int l2), some (.int l3), some (.int l4), some (.int l5), some (.int (f_X10_between_38 (f_X4_acrossFrom_3 l1 l5 g) l2 g)), some (.int ((f_X4_milesOf_3 l5 g) + (f_X10_between_38 (f_X4_acrossFrom_3 l1 l5 g) l2 g)))]) (st' := [.int (-2), .int l3]) (g' := g) (by decide +kernel) rfl ?_
          refine xic_eq A (10) 82 75 (by decide +kernel) (fun h4 => ?_) (fun h4 => ?_)
          · rw [if_pos h4] at H
            refine xb A [(.iload 5, 2, 0, 0, .null), (.istore_n 3, 1, 0, 0, .null), (.iload 7, 2, 0, 0, .null), (.istore 4, 2, 0, 0, .null), (.iinc 5 1, 3, 0, 0, .null)] (pc' := 92) (ls' := [some (.ref 38), some (.int l1), some (.int l2), some (.int l5), some (.int ((f_X4_milesOf_3 l5 g) + (f_X10_between_38 (f_X4_acrossFrom_3 l1 l5 g) l2 g))), some (.int (l5 + 1)), some (.int (f_X10_between_38 (f_X4_acrossFrom_3 l1 l5 g) l2 g)), some (.int ((f_X4_milesOf_3 l5 g) + (f_X10_between_38 (f_X4_acrossFrom_3 l1 l5 g) l2 g)))]) (st' := []) (g' := g) (by decide +kernel) rfl ?_
            refine xgoto A (-83) 9 (by decide +kernel) ?_
            refine xweak (ls' := [some (.ref 38), some (.int l1), some (.int l2), some (.int l5), some (.int ((f_X4_milesOf_3 l5 g) + (f_X10_between_38 (f_X4_acrossFrom_3 l1 l5 g) l2 g))), some (.int (l5 + 1)), none, none]) (by exact ⟨rfl, ⟨rfl, ⟨rfl, ⟨rfl, ⟨rfl, ⟨rfl, trivial⟩⟩⟩⟩⟩⟩) ?_
            exact ih _ _ _ _ _ H
          · rw [if_neg h4] at H
            refine xb A [(.iload 7, 2, 0, 0, .null), (.iload 4, 2, 0, 0, .null)] (pc' := 79) (ls' := [some (.ref 38), some (.int l1), some (.int l2), some (.int l3), some (.int l4), some (.int l5), some (.int (f_X10_between_38 (f_X4_acrossFrom_3 l1 l5 g) l2 g)), some (.int ((f_X4_milesOf_3 l5 g) + (f_X10_between_38 (f_X4_acrossFrom_3 l1 l5 g) l2 g)))]) (st' := [.int l4, .int ((f_X4_milesOf_3 l5 g) + (f_X10_between_38 (f_X4_acrossFrom_3 l1 l5 g) l2 g))]) (g' := g) (by decide +kernel) rfl ?_
            refine xic_ge A (10) 89 82 (by decide +kernel) (fun h5 => ?_) (fun h5 => ?_)
            · rw [if_pos h5] at H
              refine xb A [(.iinc 5 1, 3, 0, 0, .null)] (pc' := 92) (ls' := [some (.ref 38), some (.int l1), some (.int l2), some (.int l3), some (.int l4), some (.int (l5 + 1)), some (.int (f_X10_between_38 (f_X4_acrossFrom_3 l1 l5 g) l2 g)), some (.int ((f_X4_milesOf_3 l5 g) + (f_X10_between_38 (f_X4_acrossFrom_3 l1 l5 g) l2 g)))]) (st' := []) (g' := g) (by decide +kernel) rfl ?_
              refine xgoto A (-83) 9 (by decide +kernel) ?_
              refine xweak (ls' := [some (.ref 38), some (.int l1), some (.int l2), some (.int l3), some (.int l4), some (.int (l5 + 1)), none, none]) (by exact ⟨rfl, ⟨rfl, ⟨rfl, ⟨rfl, ⟨rfl, ⟨rfl, trivial⟩⟩⟩⟩⟩⟩) ?_
              exact ih _ _ _ _ _ H
            · rw [if_neg h5] at H
              refine xb A [(.iload 5, 2, 0, 0, .null), (.istore_n 3, 1, 0, 0, .null), (.iload 7, 2, 0, 0, .null), (.istore 4, 2, 0, 0, .null), (.iinc 5 1, 3, 0, 0, .null)] (pc' := 92) (ls' := [some (.ref 38), some (.int l1), some (.int l2), some (.int l5), some (.int ((f_X4_milesOf_3 l5 g) + (f_X10_between_38 (f_X4_acrossFrom_3 l1 l5 g) l2 g))), some (.int (l5 + 1)), some (.int (f_X10_between_38 (f_X4_acrossFrom_3 l1 l5 g) l2 g)), some (.int ((f_X4_milesOf_3 l5 g) + (f_X10_between_38 (f_X4_acrossFrom_3 l1 l5 g) l2 g)))]) (st' := []) (g' := g) (by decide +kernel) rfl ?_
              refine xgoto A (-83) 9 (by decide +kernel) ?_
              refine xweak (ls' := [some (.ref 38), some (.int l1), some (.int l2), some (.int l5), some (.int ((f_X4_milesOf_3 l5 g) + (f_X10_between_38 (f_X4_acrossFrom_3 l1 l5 g) l2 g))), some (.int (l5 + 1)), none, none]) (by exact ⟨rfl, ⟨rfl, ⟨rfl, ⟨rfl, ⟨rfl, ⟨rfl, trivial⟩⟩⟩⟩⟩⟩) ?_
              exact ih _ _ _ _ _ H
set_option maxRecDepth 20000 in
theorem c_X10_roadToward_38 {S : List xSh} (hS : xpf SH1 S) {g : xG} {p1 : Int32} {p2 : Int32} (out : Int32) (H : f_X10_roadToward_38 p1 p2 g = some out) : xC mX10_roadToward 3 64 0 0 S [.ref 38, .int p1, .int p2] g S (fun r g' => r = some (.int out) ∧ g' = g) := by
  have H : (f_X10_roadToward_38_9 g xN p1 p2 (-2) 0 0) = some out := H
  refine xC.of 10 SH1 [some (.ref 38), some (.int p1), some (.int p2), none, none, none, none, none] hS (by decide +kernel) rfl (fun _ _ => Nat.le_of_ble_eq_true rfl) (fun _ _ => rfl) ?_
  intro k A hR hrm hz
  refine xb A [(.bipush (-2), 2, 0, 0, .int (-2)), (.istore_n 3, 1, 0, 0, .null), (.iconst 0, 1, 0, 0, .int 0), (.istore 4, 2, 0, 0, .null), (.iconst 0, 1, 0, 0, .int 0), (.istore 5, 2, 0, 0, .null)] (pc' := 9) (ls' := [some (.ref 38), some (.int p1), some (.int p2), some (.int (-2)), some (.int 0), some (.int 0), none, none]) (st' := []) (g' := g) (by decide +kernel) rfl ?_
  exact t_X10_roadToward_38_9 hS A hR hrm hz _ _ _ _ _ _ H
def fp_X1_walk_44_48 : List (Nat × Option Nat) := [(49, none)]
def f_X1_walk_44_48_100  (l2 : Int32) (l5 : Int32) (l7 : Int32) (s0 : Int32) (s1 : Int32) (s2 : Int32) (g : xG) : Option (xG) :=
  xl (f_X6_setOf_48 s2 s1 s0 g) fun w3 =>
  if l7 = 0 then
    xl (f_X6_setOf_48 l2 17 ((f_X6_of_48 l2 17 w3) + (f_X4_milesOf_3 l5 w3)) w3) fun w4 =>
    some w4
  else
    xl (f_X6_setOf_48 l2 17 0 w3) fun w5 =>
    some w5
def f_X1_walk_44_48_74  (l2 : Int32) (l3 : Int32) (l5 : Int32) (l6 : Int32) (s0 : Int32) (g : xG) : Option (xG) :=
  xl (f_X6_setOf_48 l2 5 l6 g) fun w2 =>
  if l6 = l3 then
    f_X1_walk_44_48_100 l2 l5 s0 (-2) 11 l2 w2
  else
    f_X1_walk_44_48_100 l2 l5 s0 l3 11 l2 w2
def f_X1_walk_44_48_35  (l2 : Int32) (l3 : Int32) (l4 : Int32) (s0 : Int32) (g : xG) : Option (xG) :=
  if 0 ≤ s0 then
    if (f_X4_acrossFrom_3 l4 s0 g) = (f_X4_homeOf_3 l2 g) then
      f_X1_walk_44_48_74 l2 l3 s0 (f_X4_acrossFrom_3 l4 s0 g) 1 g
    else
      f_X1_walk_44_48_74 l2 l3 s0 (f_X4_acrossFrom_3 l4 s0 g) 0 g
  else
    some g
def f_X1_walk_44_48 (p2 : Int32) (g : xG) : Option (xG) :=
  if 0 ≤ (f_X6_of_48 p2 11 g) then
    (f_X10_roadToward_38 (f_X6_of_48 p2 5 g) (f_X6_of_48 p2 11 g) g).bind fun w1 =>
    f_X1_walk_44_48_35 p2 (f_X6_of_48 p2 11 g) (f_X6_of_48 p2 5 g) w1 g
  else
    f_X1_walk_44_48_35 p2 (f_X6_of_48 p2 11 g) (f_X6_of_48 p2 5 g) (-2) g
set_option maxRecDepth 20000 in
theorem t_X1_walk_44_48_100 {k : xK} {S : List xSh} {out : xG} (hS : xpf SH1 S) (A : xAt k mX1_walk.2.1 1 SH1 S) (hR : xRet k 0 0 S (fun r g' => r = none ∧ g' = out) mX1_walk.2.2.2) (hrm : xrm k = { frames := 4, cells := 0, slots := 0, locals := 91 }) (hz : xhs k = xb0 k + S.length)   : ∀ (l2 : Int32) (l5 : Int32) (l7 : Int32) (s0 : Int32) (s1 : Int32) (s2 : Int32) (g : xG), f_X1_walk_44_48_100 l2 l5 l7 s0 s1 s2 g = some out → xW k S 0 0 100 [some (.ref 44), some (.ref 48), some (.int l2), none, none, some (.int l5), none, some (.int l7)] [.int s0, .int s1, .int s2, .ref 48] g := by
  intro l2 l5 l7 s0 s1 s2 g H
  have H : (xl (f_X6_setOf_48 s2 s1 s0 g) fun w3 =>
if l7 = 0 then
  xl (f_X6_setOf_48 l2 17 ((f_X6_of_48 l2 17 w3) + (f_X4_milesOf_3 l5 w3)) w3) fun w4 =>
  some w4
else
  xl (f_X6_setOf_48 l2 17 0 w3) fun w5 =>
  some w5) = some out := H
  obtain ⟨w3, e3, H⟩ := xl_elim H
  refine xcallV A (ix := 140) (nxt := 103) hrm hz [.int s2, .int s1, .int s0] [] 1070 (c_X6_setOf_48 hS _ e3) ok_X6_setOf (by decide +kernel) rfl (fun r g1 hq => ?_)
  rw [hq.1, hq.2]
  show xW k S 0 0 103 [some (.ref 44), some (.ref 48), some (.int l2), none, none, some (.int l5), none, some (.int l7)] [] w3
  refine xb A [(.aload_n 1, 1, 0, 0, .null), (.iload_n 2, 1, 0, 0, .null), (.bipush 17, 2, 0, 0, .int 17), (.iload 7, 2, 0, 0, .null)] (pc' := 109) (ls' := [some (.ref 44), some (.ref 48), some (.int l2), none, none, some (.int l5), none, some (.int l7)]) (st' := [.int l7, .int 17, .int l2, .ref 48]) (g' := w3) (by decide +kernel) rfl ?_
  refine xif_eq A (7) 116 112 (by decide +kernel) (fun h5 => ?_) (fun h5 => ?_)
  · rw [if_pos h5] at H
    refine xb A [(.aload_n 1, 1, 0, 0, .null), (.iload_n 2, 1, 0, 0, .null), (.bipush 17, 2, 0, 0, .int 17)] (pc' := 120) (ls' := [some (.ref 44), some (.ref 48), some (.int l2), none, none, some (.int l5), none, some (.int l7)]) (st' := [.int 17, .int l2, .ref 48, .int 17, .int l2, .ref 48]) (g' := w3) (by decide +kernel) rfl ?_
    refine xcallV A (ix := 51) (nxt := 123) hrm hz [.int l2, .int 17] [.int 17, .int l2, .ref 48] 969 (c_X6_of_48 hS _ rfl) ok_X6_of (by decide +kernel) rfl (fun r g1 hq => ?_)
    rw [hq.1, hq.2]
    show xW k S 0 0 123 [some (.ref 44), some (.ref 48), some (.int l2), none, none, some (.int l5), none, some (.int l7)] [.int (f_X6_of_48 l2 17 w3), .int 17, .int l2, .ref 48] w3
    refine xb A [(.aload_n 0, 1, 0, 0, .null), (.getfield 17, 3, 44, 0, .ref 3), (.iload 5, 2, 0, 0, .null)] (pc' := 129) (ls' := [some (.ref 44), some (.ref 48), some (.int l2), none, none, some (.int l5), none, some (.int l7)]) (st' := [.int l5, .ref 3, .int (f_X6_of_48 l2 17 w3), .int 17, .int l2, .ref 48]) (g' := w3) (by decide +kernel) rfl ?_
    refine xcallV A (ix := 151) (nxt := 132) hrm hz [.int l5] [.int (f_X6_of_48 l2 17 w3), .int 17, .int l2, .ref 48] 1082 (c_X4_milesOf_3 hS _ rfl) ok_X4_milesOf (by decide +kernel) rfl (fun r g1 hq => ?_)
    rw [hq.1, hq.2]
    show xW k S 0 0 132 [some (.ref 44), some (.ref 48), some (.int l2), none, none, some (.int l5), none, some (.int l7)] [.int (f_X4_milesOf_3 l5 w3), .int (f_X6_of_48 l2 17 w3), .int 17, .int l2, .ref 48] w3
    refine xb A [(.iadd, 1, 0, 0, .null)] (pc' := 133) (ls' := [some (.ref 44), some (.ref 48), some (.int l2), none, none, some (.int l5), none, some (.int l7)]) (st' := [.int ((f_X6_of_48 l2 17 w3) + (f_X4_milesOf_3 l5 w3)), .int 17, .int l2, .ref 48]) (g' := w3) (by decide +kernel) rfl ?_
    obtain ⟨w4, e4, H⟩ := xl_elim H
    refine xcallV A (ix := 140) (nxt := 136) hrm hz [.int l2, .int 17, .int ((f_X6_of_48 l2 17 w3) + (f_X4_milesOf_3 l5 w3))] [] 1070 (c_X6_setOf_48 hS _ e4) ok_X6_setOf (by decide +kernel) rfl (fun r g1 hq => ?_)
    rw [hq.1, hq.2]
    show xW k S 0 0 136 [some (.ref 44), some (.ref 48), some (.int l2), none, none, some (.int l5), none, some (.int l7)] [] w4
    obtain rfl := Option.some.inj H
    exact xret_v A hR hz (by decide +kernel) ⟨rfl, rfl⟩
  · rw [if_neg h5] at H
    refine xb A [(.iconst 0, 1, 0, 0, .int 0)] (pc' := 113) (ls' := [some (.ref 44), some (.ref 48), some (.int l2), none, none, some (.int l5), none, some (.int l7)]) (st' := [.int 0, .int 17, .int l2, .ref 48]) (g' := w3) (by decide +kernel) rfl ?_
    refine xgoto A (20) 133 (by decide +kernel) ?_
    obtain ⟨w5, e5, H⟩ := xl_elim H
    refine xcallV A (ix := 140) (nxt := 136) hrm hz [.int l2, .int 17, .int 0] [] 1070 (c_X6_setOf_48 hS _ e5) ok_X6_setOf (by decide +kernel) rfl (fun r g1 hq => ?_)
    rw [hq.1, hq.2]
    show xW k S 0 0 136 [some (.ref 44), some (.ref 48), some (.int l2), none, none, some (.int l5), none, some (.int l7)] [] w5
    obtain rfl := Option.some.inj H
    exact xret_v A hR hz (by decide +kernel) ⟨rfl, rfl⟩
theorem fr_X1_walk_44_48_100   : ∀ (l2 : Int32) (l5 : Int32) (l7 : Int32) (s0 : Int32) (s1 : Int32) (s2 : Int32) (g : xG) (out : xG), f_X1_walk_44_48_100 l2 l5 l7 s0 s1 s2 g = some out → xfrm fp_X1_walk_44_48 g (out) := by
  intro l2 l5 l7 s0 s1 s2 g out H
  have H : (xl (f_X6_setOf_48 s2 s1 s0 g) fun w3 =>
if l7 = 0 then
  xl (f_X6_setOf_48 l2 17 ((f_X6_of_48 l2 17 w3) + (f_X4_milesOf_3 l5 w3)) w3) fun w4 =>
  some w4
else
  xl (f_X6_setOf_48 l2 17 0 w3) fun w5 =>
  some w5) = some out := H
  obtain ⟨w3, e3, H⟩ := xl_elim H
  have hf2 : xfrm fp_X1_walk_44_48 g (w3) := xfrm.tr xfrm.rf (fr_X6_setOf_48 _ e3) rfl
  by_cases h5 : l7 = 0
  · rw [if_pos h5] at H
    obtain ⟨w4, e4, H⟩ := xl_elim H
    have hf3 : xfrm fp_X1_walk_44_48 g (w4) := xfrm.tr hf2 (fr_X6_setOf_48 _ e4) rfl
    obtain rfl := Option.some.inj H
    exact hf3
  · rw [if_neg h5] at H
    obtain ⟨w5, e5, H⟩ := xl_elim H
    have hf4 : xfrm fp_X1_walk_44_48 g (w5) := xfrm.tr hf2 (fr_X6_setOf_48 _ e5) rfl
    obtain rfl := Option.some.inj H
    exact hf4
set_option maxRecDepth 20000 in
theorem t_X1_walk_44_48_74 {k : xK} {S : List xSh} {out : xG} (hS : xpf SH1 S) (A : xAt k mX1_walk.2.1 1 SH1 S) (hR : xRet k 0 0 S (fun r g' => r = none ∧ g' = out) mX1_walk.2.2.2) (hrm : xrm k = { frames := 4, cells := 0, slots := 0, locals := 91 }) (hz : xhs k = xb0 k + S.length)   : ∀ (l2 : Int32) (l3 : Int32) (l5 : Int32) (l6 : Int32) (s0 : Int32) (g : xG), f_X1_walk_44_48_74 l2 l3 l5 l6 s0 g = some out → xW k S 0 0 74 [some (.ref 44), some (.ref 48), some (.int l2), some (.int l3), none, some (.int l5), some (.int l6), none] [.int s0] g := by
  intro l2 l3 l5 l6 s0 g H
  have H : (xl (f_X6_setOf_48 l2 5 l6 g) fun w2 =>
if l6 = l3 then
  f_X1_walk_44_48_100 l2 l5 s0 (-2) 11 l2 w2
else
  f_X1_walk_44_48_100 l2 l5 s0 l3 11 l2 w2) = some out := H
  refine xb A [(.istore 7, 2, 0, 0, .null), (.aload_n 1, 1, 0, 0, .null), (.iload_n 2, 1, 0, 0, .null), (.iconst 5, 1, 0, 0, .int 5), (.iload 6, 2, 0, 0, .null)] (pc' := 81) (ls' := [some (.ref 44), some (.ref 48), some (.int l2), some (.int l3), none, some (.int l5), some (.int l6), some (.int s0)]) (st' := [.int l6, .int 5, .int l2, .ref 48]) (g' := g) (by decide +kernel) rfl ?_
  obtain ⟨w2, e2, H⟩ := xl_elim H
  refine xcallV A (ix := 140) (nxt := 84) hrm hz [.int l2, .int 5, .int l6] [] 1070 (c_X6_setOf_48 hS _ e2) ok_X6_setOf (by decide +kernel) rfl (fun r g1 hq => ?_)
  rw [hq.1, hq.2]
  show xW k S 0 0 84 [some (.ref 44), some (.ref 48), some (.int l2), some (.int l3), none, some (.int l5), some (.int l6), some (.int s0)] [] w2
  refine xb A [(.aload_n 1, 1, 0, 0, .null), (.iload_n 2, 1, 0, 0, .null), (.bipush 11, 2, 0, 0, .int 11), (.iload 6, 2, 0, 0, .null), (.iload_n 3, 1, 0, 0, .null)] (pc' := 91) (ls' := [some (.ref 44), some (.ref 48), some (.int l2), some (.int l3), none, some (.int l5), some (.int l6), some (.int s0)]) (st' := [.int l3, .int l6, .int 11, .int l2, .ref 48]) (g' := w2) (by decide +kernel) rfl ?_
  refine xic_ne A (8) 99 94 (by decide +kernel) (fun h4 => ?_) (fun h4 => ?_)
  · rw [if_neg h4] at H
    refine xb A [(.iload_n 3, 1, 0, 0, .null)] (pc' := 100) (ls' := [some (.ref 44), some (.ref 48), some (.int l2), some (.int l3), none, some (.int l5), some (.int l6), some (.int s0)]) (st' := [.int l3, .int 11, .int l2, .ref 48]) (g' := w2) (by decide +kernel) rfl ?_
    refine xweak (ls' := [some (.ref 44), some (.ref 48), some (.int l2), none, none, some (.int l5), none, some (.int s0)]) (by exact ⟨rfl, ⟨rfl, ⟨rfl, ⟨rfl, ⟨rfl, trivial⟩⟩⟩⟩⟩) ?_
    exact t_X1_walk_44_48_100 hS A hR hrm hz _ _ _ _ _ _ _ H
  · rw [if_pos h4] at H
    refine xb A [(.bipush (-2), 2, 0, 0, .int (-2))] (pc' := 96) (ls' := [some (.ref 44), some (.ref 48), some (.int l2), some (.int l3), none, some (.int l5), some (.int l6), some (.int s0)]) (st' := [.int (-2), .int 11, .int l2, .ref 48]) (g' := w2) (by decide +kernel) rfl ?_
    refine xgoto A (4) 100 (by decide +kernel) ?_
    refine xweak (ls' := [some (.ref 44), some (.ref 48), some (.int l2), none, none, some (.int l5), none, some (.int s0)]) (by exact ⟨rfl, ⟨rfl, ⟨rfl, ⟨rfl, ⟨rfl, trivial⟩⟩⟩⟩⟩) ?_
    exact t_X1_walk_44_48_100 hS A hR hrm hz _ _ _ _ _ _ _ H
theorem fr_X1_walk_44_48_74   : ∀ (l2 : Int32) (l3 : Int32) (l5 : Int32) (l6 : Int32) (s0 : Int32) (g : xG) (out : xG), f_X1_walk_44_48_74 l2 l3 l5 l6 s0 g = some out → xfrm fp_X1_walk_44_48 g (out) := by
  intro l2 l3 l5 l6 s0 g out H
  have H : (xl (f_X6_setOf_48 l2 5 l6 g) fun w2 =>
if l6 = l3 then
  f_X1_walk_44_48_100 l2 l5 s0 (-2) 11 l2 w2
else
  f_X1_walk_44_48_100 l2 l5 s0 l3 11 l2 w2) = some out := H
  obtain ⟨w2, e2, H⟩ := xl_elim H
  have hf1 : xfrm fp_X1_walk_44_48 g (w2) := xfrm.tr xfrm.rf (fr_X6_setOf_48 _ e2) rfl
  by_cases h4 : l6 = l3
  · rw [if_pos h4] at H
    exact xfrm.tr hf1 (fr_X1_walk_44_48_100 _ _ _ _ _ _ _ _ H) rfl
  · rw [if_neg h4] at H
    exact xfrm.tr hf1 (fr_X1_walk_44_48_100 _ _ _ _ _ _ _ _ H) rfl
set_option maxRecDepth 20000 in
theorem t_X1_walk_44_48_35 {k : xK} {S : List xSh} {out : xG} (hS : xpf SH1 S) (A : xAt k mX1_walk.2.1 1 SH1 S) (hR : xRet k 0 0 S (fun r g' => r = none ∧ g' = out) mX1_walk.2.2.2) (hrm : xrm k = { frames := 4, cells := 0, slots := 0, locals := 91 }) (hz : xhs k = xb0 k + S.length)   : ∀ (l2 : Int32) (l3 : Int32) (l4 : Int32) (s0 : Int32) (g : xG), f_X1_walk_44_48_35 l2 l3 l4 s0 g = some out → xW k S 0 0 35 [some (.ref 44), some (.ref 48), some (.int l2), some (.int l3), some (.int l4), none, none, none] [.int s0] g := by
  intro l2 l3 l4 s0 g H
  have H : (if 0 ≤ s0 then
  if (f_X4_acrossFrom_3 l4 s0 g) = (f_X4_homeOf_3 l2 g) then
    f_X1_walk_44_48_74 l2 l3 s0 (f_X4_acrossFrom_3 l4 s0 g) 1 g
  else
    f_X1_walk_44_48_74 l2 l3 s0 (f_X4_acrossFrom_3 l4 s0 g) 0 g
else
  some g) = some out := H
  refine xb A [(.istore 5, 2, 0, 0, .null), (.iload 5, 2, 0, 0, .null)] (pc' := 39) (ls' := [some (.ref 44), some (.ref 48), some (.int l2), some (.int l3), some (.int l4), some (.int s0), none, none]) (st' := [.int s0]) (g' := g) (by decide +kernel) rfl ?_
  refine xif_ge A (4) 43 42 (by decide +kernel) (fun h2 => ?_) (fun h2 => ?_)
  · rw [if_pos h2] at H
    refine xb A [(.aload_n 0, 1, 0, 0, .null), (.getfield 17, 3, 44, 0, .ref 3), (.iload 4, 2, 0, 0, .null), (.iload 5, 2, 0, 0, .null)] (pc' := 51) (ls' := [some (.ref 44), some (.ref 48), some (.int l2), some (.int l3), some (.int l4), some (.int s0), none, none]) (st' := [.int s0, .int l4, .ref 3]) (g' := g) (by decide +kernel) rfl ?_
    refine xcallV A (ix := 148) (nxt := 54) hrm hz [.int l4, .int s0] [] 1081 (c_X4_acrossFrom_3 hS _ rfl) ok_X4_acrossFrom (by decide +kernel) rfl (fun r g1 hq => ?_)
    rw [hq.1, hq.2]
    show xW k S 0 0 54 [some (.ref 44), some (.ref 48), some (.int l2), some (.int l3), some (.int l4), some (.int s0), none, none] [.int (f_X4_acrossFrom_3 l4 s0 g)] g
    refine xb A [(.istore 6, 2, 0, 0, .null), (.iload 6, 2, 0, 0, .null), (.aload_n 0, 1, 0, 0, .null), (.getfield 17, 3, 44, 0, .ref 3), (.iload_n 2, 1, 0, 0, .null)] (pc' := 63) (ls' := [some (.ref 44), some (.ref 48), some (.int l2), some (.int l3), some (.int l4), some (.int s0), some (.int (f_X4_acrossFrom_3 l4 s0 g)), none]) (st' := [.int l2, .ref 3, .int (f_X4_acrossFrom_3 l4 s0 g)]) (g' := g) (by decide +kernel) rfl ?_
    refine xcallV A (ix := 25) (nxt := 66) hrm hz [.int l2] [.int (f_X4_acrossFrom_3 l4 s0 g)] 957 (c_X4_homeOf_3 hS _ rfl) ok_X4_homeOf (by decide +kernel) rfl (fun r g1 hq => ?_)
    rw [hq.1, hq.2]
    show xW k S 0 0 66 [some (.ref 44), some (.ref 48), some (.int l2), some (.int l3), some (.int l4), some (.int s0), some (.int (f_X4_acrossFrom_3 l4 s0 g)), none] [.int (f_X4_homeOf_3 l2 g), .int (f_X4_acrossFrom_3 l4 s0 g)] g
    refine xic_ne A (7) 73 69 (by decide +kernel) (fun h3 => ?_) (fun h3 => ?_)
    · rw [if_neg h3] at H
      refine xb A [(.iconst 0, 1, 0, 0, .int 0)] (pc' := 74) (ls' := [some (.ref 44), some (.ref 48), some (.int l2), some (.int l3), some (.int l4), some (.int s0), some (.int (f_X4_acrossFrom_3 l4 s0 g)), none]) (st' := [.int 0]) (g' := g) (by decide +kernel) rfl ?_
      refine xweak (ls' := [some (.ref 44), some (.ref 48), some (.int l2), some (.int l3), none, some (.int s0), some (.int (f_X4_acrossFrom_3 l4 s0 g)), none]) (by exact ⟨rfl, ⟨rfl, ⟨rfl, ⟨rfl, ⟨rfl, ⟨rfl, trivial⟩⟩⟩⟩⟩⟩) ?_
      exact t_X1_walk_44_48_74 hS A hR hrm hz _ _ _ _ _ _ H
    · rw [if_pos h3] at H
      refine xb A [(.iconst 1, 1, 0, 0, .int 1)] (pc' := 70) (ls' := [some (.ref 44), some (.ref 48), some (.int l2), some (.int l3), some (.int l4), some (.int s0), some (.int (f_X4_acrossFrom_3 l4 s0 g)), none]) (st' := [.int 1]) (g' := g) (by decide +kernel) rfl ?_
      refine xgoto A (4) 74 (by decide +kernel) ?_
      refine xweak (ls' := [some (.ref 44), some (.ref 48), some (.int l2), some (.int l3), none, some (.int s0), some (.int (f_X4_acrossFrom_3 l4 s0 g)), none]) (by exact ⟨rfl, ⟨rfl, ⟨rfl, ⟨rfl, ⟨rfl, ⟨rfl, trivial⟩⟩⟩⟩⟩⟩) ?_
      exact t_X1_walk_44_48_74 hS A hR hrm hz _ _ _ _ _ _ H
  · rw [if_neg h2] at H
    obtain rfl := Option.some.inj H
    exact xret_v A hR hz (by decide +kernel) ⟨rfl, rfl⟩
theorem fr_X1_walk_44_48_35   : ∀ (l2 : Int32) (l3 : Int32) (l4 : Int32) (s0 : Int32) (g : xG) (out : xG), f_X1_walk_44_48_35 l2 l3 l4 s0 g = some out → xfrm fp_X1_walk_44_48 g (out) := by
  intro l2 l3 l4 s0 g out H
  have H : (if 0 ≤ s0 then
  if (f_X4_acrossFrom_3 l4 s0 g) = (f_X4_homeOf_3 l2 g) then
    f_X1_walk_44_48_74 l2 l3 s0 (f_X4_acrossFrom_3 l4 s0 g) 1 g
  else
    f_X1_walk_44_48_74 l2 l3 s0 (f_X4_acrossFrom_3 l4 s0 g) 0 g
else
  some g) = some out := H
  by_cases h2 : 0 ≤ s0
  · rw [if_pos h2] at H
    by_cases h3 : (f_X4_acrossFrom_3 l4 s0 g) = (f_X4_homeOf_3 l2 g)
    · rw [if_pos h3] at H
      exact xfrm.tr xfrm.rf (fr_X1_walk_44_48_74 _ _ _ _ _ _ _ H) rfl
    · rw [if_neg h3] at H
      exact xfrm.tr xfrm.rf (fr_X1_walk_44_48_74 _ _ _ _ _ _ _ H) rfl
  · rw [if_neg h2] at H
    obtain rfl := Option.some.inj H
    exact xfrm.rf
set_option maxRecDepth 20000 in
theorem c_X1_walk_44_48 {S : List xSh} (hS : xpf SH1 S) {g : xG} {p2 : Int32} (out : xG) (H : f_X1_walk_44_48 p2 g = some out) : xC mX1_walk 4 91 0 0 S [.ref 44, .ref 48, .int p2] g S (fun r g' => r = none ∧ g' = out) := by
  have H : (if 0 ≤ (f_X6_of_48 p2 11 g) then
  (f_X10_roadToward_38 (f_X6_of_48 p2 5 g) (f_X6_of_48 p2 11 g) g).bind fun w1 =>
  f_X1_walk_44_48_35 p2 (f_X6_of_48 p2 11 g) (f_X6_of_48 p2 5 g) w1 g
else
  f_X1_walk_44_48_35 p2 (f_X6_of_48 p2 11 g) (f_X6_of_48 p2 5 g) (-2) g) = some out := H
  refine xC.of 1 SH1 [some (.ref 44), some (.ref 48), some (.int p2), none, none, none, none, none] hS (by decide +kernel) rfl (fun _ _ => Nat.le_of_ble_eq_true rfl) (fun _ _ => rfl) ?_
  intro k A hR hrm hz
  refine xb A [(.aload_n 1, 1, 0, 0, .null), (.iload_n 2, 1, 0, 0, .null), (.bipush 11, 2, 0, 0, .int 11)] (pc' := 4) (ls' := [some (.ref 44), some (.ref 48), some (.int p2), none, none, none, none, none]) (st' := [.int 11, .int p2, .ref 48]) (g' := g) (by decide +kernel) rfl ?_
  refine xcallV A (ix := 51) (nxt := 7) hrm hz [.int p2, .int 11] [] 969 (c_X6_of_48 hS _ rfl) ok_X6_of (by decide +kernel) rfl (fun r g1 hq => ?_)
  rw [hq.1, hq.2]
  show xW k S 0 0 7 [some (.ref 44), some (.ref 48), some (.int p2), none, none, none, none, none] [.int (f_X6_of_48 p2 11 g)] g
  refine xb A [(.istore_n 3, 1, 0, 0, .null), (.aload_n 1, 1, 0, 0, .null), (.iload_n 2, 1, 0, 0, .null), (.iconst 5, 1, 0, 0, .int 5)] (pc' := 11) (ls' := [some (.ref 44), some (.ref 48), some (.int p2), some (.int (f_X6_of_48 p2 11 g)), none, none, none, none]) (st' := [.int 5, .int p2, .ref 48]) (g' := g) (by decide +kernel) rfl ?_
  refine xcallV A (ix := 51) (nxt := 14) hrm hz [.int p2, .int 5] [] 969 (c_X6_of_48 hS _ rfl) ok_X6_of (by decide +kernel) rfl (fun r g1 hq => ?_)
  rw [hq.1, hq.2]
  show xW k S 0 0 14 [some (.ref 44), some (.ref 48), some (.int p2), some (.int (f_X6_of_48 p2 11 g)), none, none, none, none] [.int (f_X6_of_48 p2 5 g)] g
  refine xb A [(.istore 4, 2, 0, 0, .null), (.iload_n 3, 1, 0, 0, .null)] (pc' := 17) (ls' := [some (.ref 44), some (.ref 48), some (.int p2), some (.int (f_X6_of_48 p2 11 g)), some (.int (f_X6_of_48 p2 5 g)), none, none, none]) (st' := [.int (f_X6_of_48 p2 11 g)]) (g' := g) (by decide +kernel) rfl ?_
  refine xif_ge A (8) 25 20 (by decide +kernel) (fun h1 => ?_) (fun h1 => ?_)
  · rw [if_pos h1] at H
    refine xb A [(.aload_n 0, 1, 0, 0, .null), (.getfield 21, 3, 44, 1, .ref 38), (.iload 4, 2, 0, 0, .null), (.iload_n 3, 1, 0, 0, .null)] (pc' := 32) (ls' := [some (.ref 44), some (.ref 48), some (.int p2), some (.int (f_X6_of_48 p2 11 g)), some (.int (f_X6_of_48 p2 5 g)), none, none, none]) (st' := [.int (f_X6_of_48 p2 11 g), .int (f_X6_of_48 p2 5 g), .ref 38]) (g' := g) (by decide +kernel) rfl ?_
    obtain ⟨w1, e1, H⟩ := xbind H
    refine xcallV A (ix := 145) (nxt := 35) hrm hz [.int (f_X6_of_48 p2 5 g), .int (f_X6_of_48 p2 11 g)] [] 1076 (c_X10_roadToward_38 hS _ e1) ok_X10_roadToward (by decide +kernel) rfl (fun r g1 hq => ?_)
    rw [hq.1, hq.2]
    show xW k S 0 0 35 [some (.ref 44), some (.ref 48), some (.int p2), some (.int (f_X6_of_48 p2 11 g)), some (.int (f_X6_of_48 p2 5 g)), none, none, none] [.int w1] g
    exact t_X1_walk_44_48_35 hS A hR hrm hz _ _ _ _ _ H
  · rw [if_neg h1] at H
    refine xb A [(.bipush (-2), 2, 0, 0, .int (-2))] (pc' := 22) (ls' := [some (.ref 44), some (.ref 48), some (.int p2), some (.int (f_X6_of_48 p2 11 g)), some (.int (f_X6_of_48 p2 5 g)), none, none, none]) (st' := [.int (-2)]) (g' := g) (by decide +kernel) rfl ?_
    refine xgoto A (13) 35 (by decide +kernel) ?_
    exact t_X1_walk_44_48_35 hS A hR hrm hz _ _ _ _ _ H
theorem fr_X1_walk_44_48 {p2 : Int32} {g : xG} (out : xG) (H : f_X1_walk_44_48 p2 g = some out) : xfrm fp_X1_walk_44_48 g (out) := by
  have H : (if 0 ≤ (f_X6_of_48 p2 11 g) then
  (f_X10_roadToward_38 (f_X6_of_48 p2 5 g) (f_X6_of_48 p2 11 g) g).bind fun w1 =>
  f_X1_walk_44_48_35 p2 (f_X6_of_48 p2 11 g) (f_X6_of_48 p2 5 g) w1 g
else
  f_X1_walk_44_48_35 p2 (f_X6_of_48 p2 11 g) (f_X6_of_48 p2 5 g) (-2) g) = some out := H
  by_cases h1 : 0 ≤ (f_X6_of_48 p2 11 g)
  · rw [if_pos h1] at H
    obtain ⟨w1, e1, H⟩ := xbind H
    exact xfrm.tr xfrm.rf (fr_X1_walk_44_48_35 _ _ _ _ _ _ H) rfl
  · rw [if_neg h1] at H
    exact xfrm.tr xfrm.rf (fr_X1_walk_44_48_35 _ _ _ _ _ _ H) rfl
def fp_X1_goThroughNoon_44_48 : List (Nat × Option Nat) := [(16, none), (45, none), (49, none)]
def f_X1_goThroughNoon_44_48_78  : Nat → Int32 → xG → Option (xG)
  | 0, _, _ => none
  | n + 1, l5, g =>
    if (f_X4_people_3 g) ≤ l5 then
      xl (f_X6_set_48 0 ((f_X6_get_48 0 g) + 1) g) fun w4 =>
      some w4
    else
      (f_X1_walk_44_48 l5 g).bind fun w5 =>
      f_X1_goThroughNoon_44_48_78 n (l5 + 1) w5
def f_X1_goThroughNoon_44_48_47  (l4 : Int32) (g : xG) : Option (xG) :=
  if l4 < 0 then
    xl (f_X6_set_48 2 0 g) fun w2 =>
    xl (f_X6_set_48 1 l4 w2) fun w3 =>
    f_X1_goThroughNoon_44_48_78 xN 0 w3
  else
    (f_X1_strike_44_48 l4 g).bind fun w6 =>
    xl (f_X6_set_48 1 l4 w6) fun w7 =>
    f_X1_goThroughNoon_44_48_78 xN 0 w7
def f_X1_goThroughNoon_44_48 (p2 : Int32) (p3 : Int32) (g : xG) : Option (xG) :=
  (f_X1_ringerOf_44_48 g).bind fun w1 =>
  if w1.1 < 0 then
    f_X1_goThroughNoon_44_48_47 w1.1 w1.2
  else
    if p3 = 0 then
      f_X1_goThroughNoon_44_48_47 w1.1 w1.2
    else
      (f_X1_isFoundOut_44_48 w1.1 p2 w1.2).bind fun w8 =>
      if w8.1 = 0 then
        f_X1_goThroughNoon_44_48_47 w1.1 w8.2
      else
        xl (f_X6_set_48 3 ((f_X6_get_48 3 w8.2) ||| (f_X11_bit w1.1)) w8.2) fun w9 =>
        f_X1_goThroughNoon_44_48_47 (-2) w9
set_option maxRecDepth 20000 in
theorem t_X1_goThroughNoon_44_48_78 {k : xK} {S : List xSh} {out : xG} (hS : xpf SH1 S) (A : xAt k mX1_goThroughNoon.2.1 1 SH1 S) (hR : xRet k 0 0 S (fun r g' => r = none ∧ g' = out) mX1_goThroughNoon.2.2.2) (hrm : xrm k = { frames := 5, cells := 0, slots := 0, locals := 124 }) (hz : xhs k = xb0 k + S.length)   : ∀ (n : Nat) (l5 : Int32) (g : xG), f_X1_goThroughNoon_44_48_78 n l5 g = some out → xW k S 0 0 78 [some (.ref 44), some (.ref 48), none, none, none, some (.int l5)] [] g := by
  intro n
  induction n with
  | zero => intro l5 g H; exact absurd H (by simp [f_X1_goThroughNoon_44_48_78])
  | succ n ih =>
    intro l5 g H
    have H : (if (f_X4_people_3 g) ≤ l5 then
  xl (f_X6_set_48 0 ((f_X6_get_48 0 g) + 1) g) fun w4 =>
  some w4
else
  (f_X1_walk_44_48 l5 g).bind fun w5 =>
  f_X1_goThroughNoon_44_48_78 n (l5 + 1) w5) = some out := H
    refine xb A [(.iload 5, 2, 0, 0, .null), (.aload_n 0, 1, 0, 0, .null), (.getfield 17, 3, 44, 0, .ref 3)] (pc' := 84) (ls' := [some (.ref 44), some (.ref 48), none, none, none, some (.int l5)]) (st' := [.ref 3, .int l5]) (g' := g) (by decide +kernel) rfl ?_
    refine xcallV A (ix := 60) (nxt := 87) hrm hz [] [.int l5] 972 (c_X4_people_3 hS _ rfl) ok_X4_people (by decide +kernel) rfl (fun r g1 hq => ?_)
    rw [hq.1, hq.2]
    show xW k S 0 0 87 [some (.ref 44), some (.ref 48), none, none, none, some (.int l5)] [.int (f_X4_people_3 g), .int l5] g
    refine xic_ge A (16) 103 90 (by decide +kernel) (fun h3 => ?_) (fun h3 => ?_)
    · rw [if_pos h3] at H
      refine xb A [(.aload_n 1, 1, 0, 0, .null), (.iconst 0, 1, 0, 0, .int 0), (.aload_n 1, 1, 0, 0, .null), (.iconst 0, 1, 0, 0, .int 0)] (pc' := 107) (ls' := [some (.ref 44), some (.ref 48), none, none, none, some (.int l5)]) (st' := [.int 0, .ref 48, .int 0, .ref 48]) (g' := g) (by decide +kernel) rfl ?_
      refine xcallV A (ix := 57) (nxt := 110) hrm hz [.int 0] [.int 0, .ref 48] 971 (c_X6_get_48 hS _ rfl) ok_X6_get (by decide +kernel) rfl (fun r g1 hq => ?_)
      rw [hq.1, hq.2]
      show xW k S 0 0 110 [some (.ref 44), some (.ref 48), none, none, none, some (.int l5)] [.int (f_X6_get_48 0 g), .int 0, .ref 48] g
      refine xb A [(.iconst 1, 1, 0, 0, .int 1), (.iadd, 1, 0, 0, .null)] (pc' := 112) (ls' := [some (.ref 44), some (.ref 48), none, none, none, some (.int l5)]) (st' := [.int ((f_X6_get_48 0 g) + 1), .int 0, .ref 48]) (g' := g) (by decide +kernel) rfl ?_
      obtain ⟨w4, e4, H⟩ := xl_elim H
      refine xcallV A (ix := 119) (nxt := 115) hrm hz [.int 0, .int ((f_X6_get_48 0 g) + 1)] [] 1065 (c_X6_set_48 hS _ e4) ok_X6_set (by decide +kernel) rfl (fun r g1 hq => ?_)
      rw [hq.1, hq.2]
      show xW k S 0 0 115 [some (.ref 44), some (.ref 48), none, none, none, some (.int l5)] [] w4
      obtain rfl := Option.some.inj H
      exact xret_v A hR hz (by decide +kernel) ⟨rfl, rfl⟩
    · rw [if_neg h3] at H
      refine xb A [(.aload_n 0, 1, 0, 0, .null), (.aload_n 1, 1, 0, 0, .null), (.iload 5, 2, 0, 0, .null)] (pc' := 94) (ls' := [some (.ref 44), some (.ref 48), none, none, none, some (.int l5)]) (st' := [.int l5, .ref 48, .ref 44]) (g' := g) (by decide +kernel) rfl ?_
      obtain ⟨w5, e5, H⟩ := xbind H
      refine xcallV A (ix := 127) (nxt := 97) hrm hz [.ref 48, .int l5] [] 1072 (c_X1_walk_44_48 hS _ e5) ok_X1_walk (by decide +kernel) rfl (fun r g1 hq => ?_)
      rw [hq.1, hq.2]
      show xW k S 0 0 97 [some (.ref 44), some (.ref 48), none, none, none, some (.int l5)] [] w5
      refine xb A [(.iinc 5 1, 3, 0, 0, .null)] (pc' := 100) (ls' := [some (.ref 44), some (.ref 48), none, none, none, some (.int (l5 + 1))]) (st' := []) (g' := w5) (by decide +kernel) rfl ?_
      refine xgoto A (-22) 78 (by decide +kernel) ?_
      exact ih _ _ H
theorem fr_X1_goThroughNoon_44_48_78   : ∀ (n : Nat) (l5 : Int32) (g : xG) (out : xG), f_X1_goThroughNoon_44_48_78 n l5 g = some out → xfrm fp_X1_goThroughNoon_44_48 g (out) := by
  intro n
  induction n with
  | zero => intro l5 g out H; exact absurd H (by simp [f_X1_goThroughNoon_44_48_78])
  | succ n ih =>
    intro l5 g out H
    have H : (if (f_X4_people_3 g) ≤ l5 then
  xl (f_X6_set_48 0 ((f_X6_get_48 0 g) + 1) g) fun w4 =>
  some w4
else
  (f_X1_walk_44_48 l5 g).bind fun w5 =>
  f_X1_goThroughNoon_44_48_78 n (l5 + 1) w5) = some out := H
    by_cases h3 : (f_X4_people_3 g) ≤ l5
    · rw [if_pos h3] at H
      obtain ⟨w4, e4, H⟩ := xl_elim H
      have hf4 : xfrm fp_X1_goThroughNoon_44_48 g (w4) := xfrm.tr xfrm.rf (fr_X6_set_48 _ e4) rfl
      obtain rfl := Option.some.inj H
      exact hf4
    · rw [if_neg h3] at H
      obtain ⟨w5, e5, H⟩ := xbind H
      have hf5 : xfrm fp_X1_goThroughNoon_44_48 g (w5) := xfrm.tr xfrm.rf (fr_X1_walk_44_48 _ e5) rfl
      exact xfrm.tr hf5 (ih _ _ _ H) rfl
set_option maxRecDepth 20000 in
theorem t_X1_goThroughNoon_44_48_47 {k : xK} {S : List xSh} {out : xG} (hS : xpf SH1 S) (A : xAt k mX1_goThroughNoon.2.1 1 SH1 S) (hR : xRet k 0 0 S (fun r g' => r = none ∧ g' = out) mX1_goThroughNoon.2.2.2) (hrm : xrm k = { frames := 5, cells := 0, slots := 0, locals := 124 }) (hz : xhs k = xb0 k + S.length)   : ∀ (l4 : Int32) (g : xG), f_X1_goThroughNoon_44_48_47 l4 g = some out → xW k S 0 0 47 [some (.ref 44), some (.ref 48), none, none, some (.int l4), none] [] g := by
  intro l4 g H
  have H : (if l4 < 0 then
  xl (f_X6_set_48 2 0 g) fun w2 =>
  xl (f_X6_set_48 1 l4 w2) fun w3 =>
  f_X1_goThroughNoon_44_48_78 xN 0 w3
else
  (f_X1_strike_44_48 l4 g).bind fun w6 =>
  xl (f_X6_set_48 1 l4 w6) fun w7 =>
  f_X1_goThroughNoon_44_48_78 xN 0 w7) = some out := H
  refine xb A [(.iload 4, 2, 0, 0, .null)] (pc' := 49) (ls' := [some (.ref 44), some (.ref 48), none, none, some (.int l4), none]) (st' := [.int l4]) (g' := g) (by decide +kernel) rfl ?_
  refine xif_lt A (13) 62 52 (by decide +kernel) (fun h2 => ?_) (fun h2 => ?_)
  · rw [if_pos h2] at H
    refine xb A [(.aload_n 1, 1, 0, 0, .null), (.iconst 2, 1, 0, 0, .int 2), (.iconst 0, 1, 0, 0, .int 0)] (pc' := 65) (ls' := [some (.ref 44), some (.ref 48), none, none, some (.int l4), none]) (st' := [.int 0, .int 2, .ref 48]) (g' := g) (by decide +kernel) rfl ?_
    obtain ⟨w2, e2, H⟩ := xl_elim H
    refine xcallV A (ix := 119) (nxt := 68) hrm hz [.int 2, .int 0] [] 1065 (c_X6_set_48 hS _ e2) ok_X6_set (by decide +kernel) rfl (fun r g1 hq => ?_)
    rw [hq.1, hq.2]
    show xW k S 0 0 68 [some (.ref 44), some (.ref 48), none, none, some (.int l4), none] [] w2
    refine xb A [(.aload_n 1, 1, 0, 0, .null), (.iconst 1, 1, 0, 0, .int 1), (.iload 4, 2, 0, 0, .null)] (pc' := 72) (ls' := [some (.ref 44), some (.ref 48), none, none, some (.int l4), none]) (st' := [.int l4, .int 1, .ref 48]) (g' := w2) (by decide +kernel) rfl ?_
    obtain ⟨w3, e3, H⟩ := xl_elim H
    refine xcallV A (ix := 119) (nxt := 75) hrm hz [.int 1, .int l4] [] 1065 (c_X6_set_48 hS _ e3) ok_X6_set (by decide +kernel) rfl (fun r g1 hq => ?_)
    rw [hq.1, hq.2]
    show xW k S 0 0 75 [some (.ref 44), some (.ref 48), none, none, some (.int l4), none] [] w3
    refine xb A [(.iconst 0, 1, 0, 0, .int 0), (.istore 5, 2, 0, 0, .null)] (pc' := 78) (ls' := [some (.ref 44), some (.ref 48), none, none, some (.int l4), some (.int 0)]) (st' := []) (g' := w3) (by decide +kernel) rfl ?_
    refine xweak (ls' := [some (.ref 44), some (.ref 48), none, none, none, some (.int 0)]) (by exact ⟨rfl, ⟨rfl, ⟨rfl, trivial⟩⟩⟩) ?_
    exact t_X1_goThroughNoon_44_48_78 hS A hR hrm hz _ _ _ H
  · rw [if_neg h2] at H
    refine xb A [(.aload_n 0, 1, 0, 0, .null), (.aload_n 1, 1, 0, 0, .null), (.iload 4, 2, 0, 0, .null)] (pc' := 56) (ls' := [some (.ref 44), some (.ref 48), none, none, some (.int l4), none]) (st' := [.int l4, .ref 48, .ref 44]) (g' := g) (by decide +kernel) rfl ?_
    obtain ⟨w6, e6, H⟩ := xbind H
    refine xcallV A (ix := 123) (nxt := 59) hrm hz [.ref 48, .int l4] [] 1066 (c_X1_strike_44_48 hS _ e6) ok_X1_strike (by decide +kernel) rfl (fun r g1 hq => ?_)
    rw [hq.1, hq.2]
    show xW k S 0 0 59 [some (.ref 44), some (.ref 48), none, none, some (.int l4), none] [] w6
    refine xgoto A (9) 68 (by decide +kernel) ?_
    refine xb A [(.aload_n 1, 1, 0, 0, .null), (.iconst 1, 1, 0, 0, .int 1), (.iload 4, 2, 0, 0, .null)] (pc' := 72) (ls' := [some (.ref 44), some (.ref 48), none, none, some (.int l4), none]) (st' := [.int l4, .int 1, .ref 48]) (g' := w6) (by decide +kernel) rfl ?_
    obtain ⟨w7, e7, H⟩ := xl_elim H
    refine xcallV A (ix := 119) (nxt := 75) hrm hz [.int 1, .int l4] [] 1065 (c_X6_set_48 hS _ e7) ok_X6_set (by decide +kernel) rfl (fun r g1 hq => ?_)
    rw [hq.1, hq.2]
    show xW k S 0 0 75 [some (.ref 44), some (.ref 48), none, none, some (.int l4), none] [] w7
    refine xb A [(.iconst 0, 1, 0, 0, .int 0), (.istore 5, 2, 0, 0, .null)] (pc' := 78) (ls' := [some (.ref 44), some (.ref 48), none, none, some (.int l4), some (.int 0)]) (st' := []) (g' := w7) (by decide +kernel) rfl ?_
    refine xweak (ls' := [some (.ref 44), some (.ref 48), none, none, none, some (.int 0)]) (by exact ⟨rfl, ⟨rfl, ⟨rfl, trivial⟩⟩⟩) ?_
    exact t_X1_goThroughNoon_44_48_78 hS A hR hrm hz _ _ _ H
theorem fr_X1_goThroughNoon_44_48_47   : ∀ (l4 : Int32) (g : xG) (out : xG), f_X1_goThroughNoon_44_48_47 l4 g = some out → xfrm fp_X1_goThroughNoon_44_48 g (out) := by
  intro l4 g out H
  have H : (if l4 < 0 then
  xl (f_X6_set_48 2 0 g) fun w2 =>
  xl (f_X6_set_48 1 l4 w2) fun w3 =>
  f_X1_goThroughNoon_44_48_78 xN 0 w3
else
  (f_X1_strike_44_48 l4 g).bind fun w6 =>
  xl (f_X6_set_48 1 l4 w6) fun w7 =>
  f_X1_goThroughNoon_44_48_78 xN 0 w7) = some out := H
  by_cases h2 : l4 < 0
  · rw [if_pos h2] at H
    obtain ⟨w2, e2, H⟩ := xl_elim H
    have hf2 : xfrm fp_X1_goThroughNoon_44_48 g (w2) := xfrm.tr xfrm.rf (fr_X6_set_48 _ e2) rfl
    obtain ⟨w3, e3, H⟩ := xl_elim H
    have hf3 : xfrm fp_X1_goThroughNoon_44_48 g (w3) := xfrm.tr hf2 (fr_X6_set_48 _ e3) rfl
    exact xfrm.tr hf3 (fr_X1_goThroughNoon_44_48_78 _ _ _ _ H) rfl
  · rw [if_neg h2] at H
    obtain ⟨w6, e6, H⟩ := xbind H
    have hf6 : xfrm fp_X1_goThroughNoon_44_48 g (w6) := xfrm.tr xfrm.rf (fr_X1_strike_44_48 _ e6) rfl
    obtain ⟨w7, e7, H⟩ := xl_elim H
    have hf7 : xfrm fp_X1_goThroughNoon_44_48 g (w7) := xfrm.tr hf6 (fr_X6_set_48 _ e7) rfl
    exact xfrm.tr hf7 (fr_X1_goThroughNoon_44_48_78 _ _ _ _ H) rfl
set_option maxRecDepth 20000 in
theorem c_X1_goThroughNoon_44_48 {S : List xSh} (hS : xpf SH1 S) {g : xG} {p2 : Int32} {p3 : Int32} (out : xG) (H : f_X1_goThroughNoon_44_48 p2 p3 g = some out) : xC mX1_goThroughNoon 5 124 0 0 S [.ref 44, .ref 48, .int p2, .int p3] g S (fun r g' => r = none ∧ g' = out) := by
  have H : ((f_X1_ringerOf_44_48 g).bind fun w1 =>
if w1.1 < 0 then
  f_X1_goThroughNoon_44_48_47 w1.1 w1.2
else
  if p3 = 0 then
    f_X1_goThroughNoon_44_48_47 w1.1 w1.2
  else
    (f_X1_isFoundOut_44_48 w1.1 p2 w1.2).bind fun w8 =>
    if w8.1 = 0 then
      f_X1_goThroughNoon_44_48_47 w1.1 w8.2
    else
      xl (f_X6_set_48 3 ((f_X6_get_48 3 w8.2) ||| (f_X11_bit w1.1)) w8.2) fun w9 =>
      f_X1_goThroughNoon_44_48_47 (-2) w9) = some out := H
  refine xC.of 1 SH1 [some (.ref 44), some (.ref 48), some (.int p2), some (.int p3), none, none] hS (by decide +kernel) rfl (fun _ _ => Nat.le_of_ble_eq_true rfl) (fun _ _ => rfl) ?_
  intro k A hR hrm hz
  refine xb A [(.aload_n 0, 1, 0, 0, .null), (.aload_n 1, 1, 0, 0, .null)] (pc' := 2) (ls' := [some (.ref 44), some (.ref 48), some (.int p2), some (.int p3), none, none]) (st' := [.ref 48, .ref 44]) (g' := g) (by decide +kernel) rfl ?_
  obtain ⟨w1, e1, H⟩ := xbind H
  refine xcallV A (ix := 108) (nxt := 5) hrm hz [.ref 48] [] 1038 (c_X1_ringerOf_44_48 hS _ e1) ok_X1_ringerOf (by decide +kernel) rfl (fun r g1 hq => ?_)
  rw [hq.1, hq.2]
  show xW k S 0 0 5 [some (.ref 44), some (.ref 48), some (.int p2), some (.int p3), none, none] [.int w1.1] w1.2
  refine xb A [(.istore 4, 2, 0, 0, .null), (.iload 4, 2, 0, 0, .null)] (pc' := 9) (ls' := [some (.ref 44), some (.ref 48), some (.int p2), some (.int p3), some (.int w1.1), none]) (st' := [.int w1.1]) (g' := w1.2) (by decide +kernel) rfl ?_
  refine xif_lt A (38) 47 12 (by decide +kernel) (fun h1 => ?_) (fun h1 => ?_)
  · rw [if_pos h1] at H
    refine xweak (ls' := [some (.ref 44), some (.ref 48), none, none, some (.int w1.1), none]) (by exact ⟨rfl, ⟨rfl, ⟨rfl, trivial⟩⟩⟩) ?_
    exact t_X1_goThroughNoon_44_48_47 hS A hR hrm hz _ _ H
  · rw [if_neg h1] at H
    refine xb A [(.iload_n 3, 1, 0, 0, .null)] (pc' := 13) (ls' := [some (.ref 44), some (.ref 48), some (.int p2), some (.int p3), some (.int w1.1), none]) (st' := [.int p3]) (g' := w1.2) (by decide +kernel) rfl ?_
    refine xif_eq A (34) 47 16 (by decide +kernel) (fun h4 => ?_) (fun h4 => ?_)
    · rw [if_pos h4] at H
      refine xweak (ls' := [some (.ref 44), some (.ref 48), none, none, some (.int w1.1), none]) (by exact ⟨rfl, ⟨rfl, ⟨rfl, trivial⟩⟩⟩) ?_
      exact t_X1_goThroughNoon_44_48_47 hS A hR hrm hz _ _ H
    · rw [if_neg h4] at H
      refine xb A [(.aload_n 0, 1, 0, 0, .null), (.aload_n 1, 1, 0, 0, .null), (.iload 4, 2, 0, 0, .null), (.iload_n 2, 1, 0, 0, .null)] (pc' := 21) (ls' := [some (.ref 44), some (.ref 48), some (.int p2), some (.int p3), some (.int w1.1), none]) (st' := [.int p2, .int w1.1, .ref 48, .ref 44]) (g' := w1.2) (by decide +kernel) rfl ?_
      obtain ⟨w8, e8, H⟩ := xbind H
      refine xcallV A (ix := 112) (nxt := 24) hrm hz [.ref 48, .int w1.1, .int p2] [] 1048 (c_X1_isFoundOut_44_48 hS _ e8) ok_X1_isFoundOut (by decide +kernel) rfl (fun r g1 hq => ?_)
      rw [hq.1, hq.2]
      show xW k S 0 0 24 [some (.ref 44), some (.ref 48), some (.int p2), some (.int p3), some (.int w1.1), none] [.int w8.1] w8.2
      refine xif_eq A (23) 47 27 (by decide +kernel) (fun h5 => ?_) (fun h5 => ?_)
      · rw [if_pos h5] at H
        refine xweak (ls' := [some (.ref 44), some (.ref 48), none, none, some (.int w1.1), none]) (by exact ⟨rfl, ⟨rfl, ⟨rfl, trivial⟩⟩⟩) ?_
        exact t_X1_goThroughNoon_44_48_47 hS A hR hrm hz _ _ H
      · rw [if_neg h5] at H
        refine xb A [(.aload_n 1, 1, 0, 0, .null), (.iconst 3, 1, 0, 0, .int 3), (.aload_n 1, 1, 0, 0, .null), (.iconst 3, 1, 0, 0, .int 3)] (pc' := 31) (ls' := [some (.ref 44), some (.ref 48), some (.int p2), some (.int p3), some (.int w1.1), none]) (st' := [.int 3, .ref 48, .int 3, .ref 48]) (g' := w8.2) (by decide +kernel) rfl ?_
        refine xcallV A (ix := 57) (nxt := 34) hrm hz [.int 3] [.int 3, .ref 48] 971 (c_X6_get_48 hS _ rfl) ok_X6_get (by decide +kernel) rfl (fun r g1 hq => ?_)
        rw [hq.1, hq.2]
        show xW k S 0 0 34 [some (.ref 44), some (.ref 48), some (.int p2), some (.int p3), some (.int w1.1), none] [.int (f_X6_get_48 3 w8.2), .int 3, .ref 48] w8.2
        refine xb A [(.iload 4, 2, 0, 0, .null)] (pc' := 36) (ls' := [some (.ref 44), some (.ref 48), some (.int p2), some (.int p3), some (.int w1.1), none]) (st' := [.int w1.1, .int (f_X6_get_48 3 w8.2), .int 3, .ref 48]) (g' := w8.2) (by decide +kernel) rfl ?_
        refine xcallSN A (ix := 116) (nxt := 39) (host := "NoonRinger") hrm hz [.int w1.1] [.int (f_X6_get_48 3 w8.2), .int 3, .ref 48] 28 (c_X11_bit hS _ rfl) ok_X11_bit (by decide +kernel) rfl (fun r g1 hq => ?_)
        rw [hq.1, hq.2]
        show xW k S 0 0 39 [some (.ref 44), some (.ref 48), some (.int p2), some (.int p3), some (.int w1.1), none] [.int (f_X11_bit w1.1), .int (f_X6_get_48 3 w8.2), .int 3, .ref 48] w8.2
        refine xb A [(.ior, 1, 0, 0, .null)] (pc' := 40) (ls' := [some (.ref 44), some (.ref 48), some (.int p2), some (.int p3), some (.int w1.1), none]) (st' := [.int ((f_X6_get_48 3 w8.2) ||| (f_X11_bit w1.1)), .int 3, .ref 48]) (g' := w8.2) (by decide +kernel) rfl ?_
        obtain ⟨w9, e9, H⟩ := xl_elim H
        refine xcallV A (ix := 119) (nxt := 43) hrm hz [.int 3, .int ((f_X6_get_48 3 w8.2) ||| (f_X11_bit w1.1))] [] 1065 (c_X6_set_48 hS _ e9) ok_X6_set (by decide +kernel) rfl (fun r g1 hq => ?_)
        rw [hq.1, hq.2]
        show xW k S 0 0 43 [some (.ref 44), some (.ref 48), some (.int p2), some (.int p3), some (.int w1.1), none] [] w9
        refine xb A [(.bipush (-2), 2, 0, 0, .int (-2)), (.istore 4, 2, 0, 0, .null)] (pc' := 47) (ls' := [some (.ref 44), some (.ref 48), some (.int p2), some (.int p3), some (.int (-2)), none]) (st' := []) (g' := w9) (by decide +kernel) rfl ?_
        refine xweak (ls' := [some (.ref 44), some (.ref 48), none, none, some (.int (-2)), none]) (by exact ⟨rfl, ⟨rfl, ⟨rfl, trivial⟩⟩⟩) ?_
        exact t_X1_goThroughNoon_44_48_47 hS A hR hrm hz _ _ H
theorem fr_X1_goThroughNoon_44_48 {p2 : Int32} {p3 : Int32} {g : xG} (out : xG) (H : f_X1_goThroughNoon_44_48 p2 p3 g = some out) : xfrm fp_X1_goThroughNoon_44_48 g (out) := by
  have H : ((f_X1_ringerOf_44_48 g).bind fun w1 =>
if w1.1 < 0 then
  f_X1_goThroughNoon_44_48_47 w1.1 w1.2
else
  if p3 = 0 then
    f_X1_goThroughNoon_44_48_47 w1.1 w1.2
  else
    (f_X1_isFoundOut_44_48 w1.1 p2 w1.2).bind fun w8 =>
    if w8.1 = 0 then
      f_X1_goThroughNoon_44_48_47 w1.1 w8.2
    else
      xl (f_X6_set_48 3 ((f_X6_get_48 3 w8.2) ||| (f_X11_bit w1.1)) w8.2) fun w9 =>
      f_X1_goThroughNoon_44_48_47 (-2) w9) = some out := H
  obtain ⟨w1, e1, H⟩ := xbind H
  have hf1 : xfrm fp_X1_goThroughNoon_44_48 g (w1.2) := xfrm.tr xfrm.rf (fr_X1_ringerOf_44_48 _ e1) rfl
  by_cases h1 : w1.1 < 0
  · rw [if_pos h1] at H
    exact xfrm.tr hf1 (fr_X1_goThroughNoon_44_48_47 _ _ _ H) rfl
  · rw [if_neg h1] at H
    by_cases h4 : p3 = 0
    · rw [if_pos h4] at H
      exact xfrm.tr hf1 (fr_X1_goThroughNoon_44_48_47 _ _ _ H) rfl
    · rw [if_neg h4] at H
      obtain ⟨w8, e8, H⟩ := xbind H
      have hf8 : xfrm fp_X1_goThroughNoon_44_48 g (w8.2) := xfrm.tr hf1 (fr_X1_isFoundOut_44_48 _ e8) rfl
      by_cases h5 : w8.1 = 0
      · rw [if_pos h5] at H
        exact xfrm.tr hf8 (fr_X1_goThroughNoon_44_48_47 _ _ _ H) rfl
      · rw [if_neg h5] at H
        obtain ⟨w9, e9, H⟩ := xl_elim H
        have hf9 : xfrm fp_X1_goThroughNoon_44_48 g (w9) := xfrm.tr hf8 (fr_X6_set_48 _ e9) rfl
        exact xfrm.tr hf9 (fr_X1_goThroughNoon_44_48_47 _ _ _ H) rfl
def fp_X11_days_0 : List (Nat × Option Nat) := [(0, some 13), (0, some 14), (16, none), (45, none), (49, none), (53, none)]
def f_X11_days_0_19  : Nat → Int32 → Int32 → xG → Option (Int32 × xG)
  | 0, _, _, _ => none
  | n + 1, l1, l2, g =>
    if l1 ≤ l2 then
      some (f_X6_get_48 0 g, g)
    else
      (f_X1_goThroughNoon_44_48 (f_X4_seed_3 g) 1 g).bind fun w1 =>
      f_X11_days_0_19 n l1 (l2 + 1) w1
def f_X11_days_0 (p1 : Int32) (g : xG) : Option (Int32 × xG) :=
  if (f_X11_isSpan p1) = 0 then
    some ((-1), g)
  else
    if p1 ≤ 0 then
      f_X11_days_0_19 xN p1 0 g
    else
      (f_X11_remember_0 g).bind fun w2 =>
      f_X11_days_0_19 xN p1 0 w2
set_option maxRecDepth 20000 in
theorem t_X11_days_0_19 {k : xK} {S : List xSh} {out : Int32 × xG} (hS : xpf SH1 S) (A : xAt k mX11_days.2.1 11 SH1 S) (hR : xRet k 0 0 S (fun r g' => r = some (.int out.1) ∧ g' = out.2) mX11_days.2.2.2) (hrm : xrm k = { frames := 6, cells := 0, slots := 0, locals := 149 }) (hz : xhs k = xb0 k + S.length)   : ∀ (n : Nat) (l1 : Int32) (l2 : Int32) (g : xG), f_X11_days_0_19 n l1 l2 g = some out → xW k S 0 0 19 [some (.ref 0), some (.int l1), some (.int l2)] [] g := by
  intro n
  induction n with
  | zero => intro l1 l2 g H; exact absurd H (by simp [f_X11_days_0_19])
  | succ n ih =>
    intro l1 l2 g H
    have H : (if l1 ≤ l2 then
  some (f_X6_get_48 0 g, g)
else
  (f_X1_goThroughNoon_44_48 (f_X4_seed_3 g) 1 g).bind fun w1 =>
  f_X11_days_0_19 n l1 (l2 + 1) w1) = some out := H
    refine xb A [(.iload_n 2, 1, 0, 0, .null), (.iload_n 1, 1, 0, 0, .null)] (pc' := 21) (ls' := [some (.ref 0), some (.int l1), some (.int l2)]) (st' := [.int l1, .int l2]) (g' := g) (by decide +kernel) rfl ?_
    refine xic_ge A (28) 49 24 (by decide +kernel) (fun h3 => ?_) (fun h3 => ?_)
    · rw [if_pos h3] at H
      refine xb A [(.aload_n 0, 1, 0, 0, .null), (.getfield 66, 3, 0, 8, .ref 48), (.iconst 0, 1, 0, 0, .int 0)] (pc' := 54) (ls' := [some (.ref 0), some (.int l1), some (.int l2)]) (st' := [.int 0, .ref 48]) (g' := g) (by decide +kernel) rfl ?_
      refine xcallV A (ix := 135) (nxt := 57) hrm hz [.int 0] [] 489 (c_X6_get_48 hS _ rfl) ok_X6_get (by decide +kernel) rfl (fun r g1 hq => ?_)
      rw [hq.1, hq.2]
      show xW k S 0 0 57 [some (.ref 0), some (.int l1), some (.int l2)] [.int (f_X6_get_48 0 g)] g
      obtain rfl := Option.some.inj H
      exact xret_i A hR hz (by decide +kernel) rfl ⟨rfl, rfl⟩
    · rw [if_neg h3] at H
      refine xb A [(.aload_n 0, 1, 0, 0, .null), (.getfield 56, 3, 0, 6, .ref 44), (.aload_n 0, 1, 0, 0, .null), (.getfield 66, 3, 0, 8, .ref 48), (.aload_n 0, 1, 0, 0, .null), (.getfield 19, 3, 0, 1, .ref 3)] (pc' := 36) (ls' := [some (.ref 0), some (.int l1), some (.int l2)]) (st' := [.ref 3, .ref 48, .ref 44]) (g' := g) (by decide +kernel) rfl ?_
      refine xcallV A (ix := 224) (nxt := 39) hrm hz [] [.ref 48, .ref 44] 1030 (c_X4_seed_3 hS _ rfl) ok_X4_seed (by decide +kernel) rfl (fun r g1 hq => ?_)
      rw [hq.1, hq.2]
      show xW k S 0 0 39 [some (.ref 0), some (.int l1), some (.int l2)] [.int (f_X4_seed_3 g), .ref 48, .ref 44] g
      refine xb A [(.iconst 1, 1, 0, 0, .int 1)] (pc' := 40) (ls' := [some (.ref 0), some (.int l1), some (.int l2)]) (st' := [.int 1, .int (f_X4_seed_3 g), .ref 48, .ref 44]) (g' := g) (by decide +kernel) rfl ?_
      obtain ⟨w1, e1, H⟩ := xbind H
      refine xcallV A (ix := 227) (nxt := 43) hrm hz [.ref 48, .int (f_X4_seed_3 g), .int 1] [] 1034 (c_X1_goThroughNoon_44_48 hS _ e1) ok_X1_goThroughNoon (by decide +kernel) rfl (fun r g1 hq => ?_)
      rw [hq.1, hq.2]
      show xW k S 0 0 43 [some (.ref 0), some (.int l1), some (.int l2)] [] w1
      refine xb A [(.iinc 2 1, 3, 0, 0, .null)] (pc' := 46) (ls' := [some (.ref 0), some (.int l1), some (.int (l2 + 1))]) (st' := []) (g' := w1) (by decide +kernel) rfl ?_
      refine xgoto A (-27) 19 (by decide +kernel) ?_
      exact ih _ _ _ H
theorem fr_X11_days_0_19   : ∀ (n : Nat) (l1 : Int32) (l2 : Int32) (g : xG) (out : Int32 × xG), f_X11_days_0_19 n l1 l2 g = some out → xfrm fp_X11_days_0 g (out.2) := by
  intro n
  induction n with
  | zero => intro l1 l2 g out H; exact absurd H (by simp [f_X11_days_0_19])
  | succ n ih =>
    intro l1 l2 g out H
    have H : (if l1 ≤ l2 then
  some (f_X6_get_48 0 g, g)
else
  (f_X1_goThroughNoon_44_48 (f_X4_seed_3 g) 1 g).bind fun w1 =>
  f_X11_days_0_19 n l1 (l2 + 1) w1) = some out := H
    by_cases h3 : l1 ≤ l2
    · rw [if_pos h3] at H
      obtain rfl := Option.some.inj H
      exact xfrm.rf
    · rw [if_neg h3] at H
      obtain ⟨w1, e1, H⟩ := xbind H
      have hf1 : xfrm fp_X11_days_0 g (w1) := xfrm.tr xfrm.rf (fr_X1_goThroughNoon_44_48 _ e1) rfl
      exact xfrm.tr hf1 (ih _ _ _ _ H) rfl
set_option maxRecDepth 20000 in
theorem c_X11_days_0 {S : List xSh} (hS : xpf SH1 S) {g : xG} {p1 : Int32} (out : Int32 × xG) (H : f_X11_days_0 p1 g = some out) : xC mX11_days 6 149 0 0 S [.ref 0, .int p1] g S (fun r g' => r = some (.int out.1) ∧ g' = out.2) := by
  have H : (if (f_X11_isSpan p1) = 0 then
  some ((-1), g)
else
  if p1 ≤ 0 then
    f_X11_days_0_19 xN p1 0 g
  else
    (f_X11_remember_0 g).bind fun w2 =>
    f_X11_days_0_19 xN p1 0 w2) = some out := H
  refine xC.of 11 SH1 [some (.ref 0), some (.int p1), none] hS (by decide +kernel) rfl (fun _ _ => Nat.le_of_ble_eq_true rfl) (fun _ _ => rfl) ?_
  intro k A hR hrm hz
  refine xb A [(.iload_n 1, 1, 0, 0, .null)] (pc' := 1) (ls' := [some (.ref 0), some (.int p1), none]) (st' := [.int p1]) (g' := g) (by decide +kernel) rfl ?_
  refine xcallS A (ix := 221) (nxt := 4) hrm hz [.int p1] [] 1027 (c_X11_isSpan hS _ rfl) ok_X11_isSpan (by decide +kernel) rfl (fun r g1 hq => ?_)
  rw [hq.1, hq.2]
  show xW k S 0 0 4 [some (.ref 0), some (.int p1), none] [.int (f_X11_isSpan p1)] g
  refine xif_ne A (5) 9 7 (by decide +kernel) (fun h1 => ?_) (fun h1 => ?_)
  · rw [if_neg h1] at H
    refine xb A [(.iload_n 1, 1, 0, 0, .null)] (pc' := 10) (ls' := [some (.ref 0), some (.int p1), none]) (st' := [.int p1]) (g' := g) (by decide +kernel) rfl ?_
    refine xif_le A (7) 17 13 (by decide +kernel) (fun h2 => ?_) (fun h2 => ?_)
    · rw [if_pos h2] at H
      refine xb A [(.iconst 0, 1, 0, 0, .int 0), (.istore_n 2, 1, 0, 0, .null)] (pc' := 19) (ls' := [some (.ref 0), some (.int p1), some (.int 0)]) (st' := []) (g' := g) (by decide +kernel) rfl ?_
      exact t_X11_days_0_19 hS A hR hrm hz _ _ _ _ H
    · rw [if_neg h2] at H
      refine xb A [(.aload_n 0, 1, 0, 0, .null)] (pc' := 14) (ls' := [some (.ref 0), some (.int p1), none]) (st' := [.ref 0]) (g' := g) (by decide +kernel) rfl ?_
      obtain ⟨w2, e2, H⟩ := xbind H
      refine xcallV A (ix := 207) (nxt := 17) hrm hz [] [] 1001 (c_X11_remember_0 hS _ e2) ok_X11_remember (by decide +kernel) rfl (fun r g1 hq => ?_)
      rw [hq.1, hq.2]
      show xW k S 0 0 17 [some (.ref 0), some (.int p1), none] [] w2
      refine xb A [(.iconst 0, 1, 0, 0, .int 0), (.istore_n 2, 1, 0, 0, .null)] (pc' := 19) (ls' := [some (.ref 0), some (.int p1), some (.int 0)]) (st' := []) (g' := w2) (by decide +kernel) rfl ?_
      exact t_X11_days_0_19 hS A hR hrm hz _ _ _ _ H
  · rw [if_pos h1] at H
    refine xb A [(.iconst (-1), 1, 0, 0, .int (-1))] (pc' := 8) (ls' := [some (.ref 0), some (.int p1), none]) (st' := [.int (-1)]) (g' := g) (by decide +kernel) rfl ?_
    obtain rfl := Option.some.inj H
    exact xret_i A hR hz (by decide +kernel) rfl ⟨rfl, rfl⟩
theorem fr_X11_days_0 {p1 : Int32} {g : xG} (out : Int32 × xG) (H : f_X11_days_0 p1 g = some out) : xfrm fp_X11_days_0 g (out.2) := by
  have H : (if (f_X11_isSpan p1) = 0 then
  some ((-1), g)
else
  if p1 ≤ 0 then
    f_X11_days_0_19 xN p1 0 g
  else
    (f_X11_remember_0 g).bind fun w2 =>
    f_X11_days_0_19 xN p1 0 w2) = some out := H
  by_cases h1 : (f_X11_isSpan p1) = 0
  · rw [if_pos h1] at H
    obtain rfl := Option.some.inj H
    exact xfrm.rf
  · rw [if_neg h1] at H
    by_cases h2 : p1 ≤ 0
    · rw [if_pos h2] at H
      exact xfrm.tr xfrm.rf (fr_X11_days_0_19 _ _ _ _ _ H) rfl
    · rw [if_neg h2] at H
      obtain ⟨w2, e2, H⟩ := xbind H
      have hf2 : xfrm fp_X11_days_0 g (w2) := xfrm.tr xfrm.rf (fr_X11_remember_0 _ e2) rfl
      exact xfrm.tr hf2 (fr_X11_days_0_19 _ _ _ _ _ H) rfl
def fp_X5_take_52_48 : List (Nat × Option Nat) := [(49, none)]
def f_X5_take_52_48_2  : Nat → Int32 → Int32 → xG → Option (xG)
  | 0, _, _, _ => none
  | n + 1, l1, l3, g =>
    if 35 ≤ l3 then
      some g
    else
      xl (f_X6_set_48 l3 (xat g 53 1400 ((l1 * 35) + l3)) g) fun w1 =>
      f_X5_take_52_48_2 n l1 (l3 + 1) w1
def f_X5_take_52_48 (p1 : Int32) (g : xG) : Option (xG) :=
  f_X5_take_52_48_2 xN p1 0 g
set_option maxRecDepth 20000 in
theorem t_X5_take_52_48_2 {k : xK} {S : List xSh} {out : xG} (hS : xpf SH1 S) (A : xAt k mX5_take.2.1 5 SH1 S) (hR : xRet k 0 0 S (fun r g' => r = none ∧ g' = out) mX5_take.2.2.2) (hrm : xrm k = { frames := 2, cells := 0, slots := 0, locals := 44 }) (hz : xhs k = xb0 k + S.length)   : ∀ (n : Nat) (l1 : Int32) (l3 : Int32) (g : xG), f_X5_take_52_48_2 n l1 l3 g = some out → xW k S 0 0 2 [some (.ref 52), some (.int l1), some (.ref 48), some (.int l3)] [] g := by
  intro n
  induction n with
  | zero => intro l1 l3 g H; exact absurd H (by simp [f_X5_take_52_48_2])
  | succ n ih =>
    intro l1 l3 g H
    have H : (if 35 ≤ l3 then
  some g
else
  xl (f_X6_set_48 l3 (xat g 53 1400 ((l1 * 35) + l3)) g) fun w1 =>
  f_X5_take_52_48_2 n l1 (l3 + 1) w1) = some out := H
    refine xb A [(.iload_n 3, 1, 0, 0, .null), (.bipush 35, 2, 0, 0, .int 35)] (pc' := 5) (ls' := [some (.ref 52), some (.int l1), some (.ref 48), some (.int l3)]) (st' := [.int 35, .int l3]) (g' := g) (by decide +kernel) rfl ?_
    refine xic_ge A (27) 32 8 (by decide +kernel) (fun h1 => ?_) (fun h1 => ?_)
    · rw [if_pos h1] at H
      obtain rfl := Option.some.inj H
      exact xret_v A hR hz (by decide +kernel) ⟨rfl, rfl⟩
    · rw [if_neg h1] at H
      refine xb A [(.aload_n 2, 1, 0, 0, .null), (.iload_n 3, 1, 0, 0, .null), (.aload_n 0, 1, 0, 0, .null), (.getfield 15, 3, 52, 0, .ref 53), (.iload_n 1, 1, 0, 0, .null), (.bipush 35, 2, 0, 0, .int 35), (.imul, 1, 0, 0, .null), (.iload_n 3, 1, 0, 0, .null), (.iadd, 1, 0, 0, .null)] (pc' := 20) (ls' := [some (.ref 52), some (.int l1), some (.ref 48), some (.int l3)]) (st' := [.int ((l1 * 35) + l3), .ref 53, .int l3, .ref 48]) (g' := g) (by decide +kernel) rfl ?_
      refine xcallSN A (ix := 31) (nxt := 23) (host := "NoonRinger") hrm hz [.ref 53, .int ((l1 * 35) + l3)] [.int l3, .ref 48] 29 (c_X11_at (hS _ _ sh_53) (by decide)) ok_X11_at (by decide +kernel) rfl (fun r g1 hq => ?_)
      rw [hq.1, hq.2]
      show xW k S 0 0 23 [some (.ref 52), some (.int l1), some (.ref 48), some (.int l3)] [.int (xat g 53 1400 ((l1 * 35) + l3)), .int l3, .ref 48] g
      obtain ⟨w1, e1, H⟩ := xl_elim H
      refine xcallV A (ix := 35) (nxt := 26) hrm hz [.int l3, .int (xat g 53 1400 ((l1 * 35) + l3))] [] 1092 (c_X6_set_48 hS _ e1) ok_X6_set (by decide +kernel) rfl (fun r g1 hq => ?_)
      rw [hq.1, hq.2]
      show xW k S 0 0 26 [some (.ref 52), some (.int l1), some (.ref 48), some (.int l3)] [] w1
      refine xb A [(.iinc 3 1, 3, 0, 0, .null)] (pc' := 29) (ls' := [some (.ref 52), some (.int l1), some (.ref 48), some (.int (l3 + 1))]) (st' := []) (g' := w1) (by decide +kernel) rfl ?_
      refine xgoto A (-27) 2 (by decide +kernel) ?_
      exact ih _ _ _ H
theorem fr_X5_take_52_48_2   : ∀ (n : Nat) (l1 : Int32) (l3 : Int32) (g : xG) (out : xG), f_X5_take_52_48_2 n l1 l3 g = some out → xfrm fp_X5_take_52_48 g (out) := by
  intro n
  induction n with
  | zero => intro l1 l3 g out H; exact absurd H (by simp [f_X5_take_52_48_2])
  | succ n ih =>
    intro l1 l3 g out H
    have H : (if 35 ≤ l3 then
  some g
else
  xl (f_X6_set_48 l3 (xat g 53 1400 ((l1 * 35) + l3)) g) fun w1 =>
  f_X5_take_52_48_2 n l1 (l3 + 1) w1) = some out := H
    by_cases h1 : 35 ≤ l3
    · rw [if_pos h1] at H
      obtain rfl := Option.some.inj H
      exact xfrm.rf
    · rw [if_neg h1] at H
      obtain ⟨w1, e1, H⟩ := xl_elim H
      have hf1 : xfrm fp_X5_take_52_48 g (w1) := xfrm.tr xfrm.rf (fr_X6_set_48 _ e1) rfl
      exact xfrm.tr hf1 (ih _ _ _ _ H) rfl
set_option maxRecDepth 20000 in
theorem c_X5_take_52_48 {S : List xSh} (hS : xpf SH1 S) {g : xG} {p1 : Int32} (out : xG) (H : f_X5_take_52_48 p1 g = some out) : xC mX5_take 2 44 0 0 S [.ref 52, .int p1, .ref 48] g S (fun r g' => r = none ∧ g' = out) := by
  have H : (f_X5_take_52_48_2 xN p1 0 g) = some out := H
  refine xC.of 5 SH1 [some (.ref 52), some (.int p1), some (.ref 48), none] hS (by decide +kernel) rfl (fun _ _ => Nat.le_of_ble_eq_true rfl) (fun _ _ => rfl) ?_
  intro k A hR hrm hz
  refine xb A [(.iconst 0, 1, 0, 0, .int 0), (.istore_n 3, 1, 0, 0, .null)] (pc' := 2) (ls' := [some (.ref 52), some (.int p1), some (.ref 48), some (.int 0)]) (st' := []) (g' := g) (by decide +kernel) rfl ?_
  exact t_X5_take_52_48_2 hS A hR hrm hz _ _ _ _ H
theorem fr_X5_take_52_48 {p1 : Int32} {g : xG} (out : xG) (H : f_X5_take_52_48 p1 g = some out) : xfrm fp_X5_take_52_48 g (out) := by
  have H : (f_X5_take_52_48_2 xN p1 0 g) = some out := H
  exact xfrm.tr xfrm.rf (fr_X5_take_52_48_2 _ _ _ _ _ H) rfl
def fp_X11_undo_0 : List (Nat × Option Nat) := [(0, some 13), (0, some 14), (38, some 2), (39, none), (49, none)]
def f_X11_undo_0  (g : xG) : Option (Int32 × xG) :=
  if 0 < (g.1 0 13) then
    (f_X5_take_52_48 (g.1 0 14) g).bind fun w1 =>
    xg (¬ (40 : Int32) = 0) (
      (f_X10_measure_38 (f_X6_get_48 4 (xupd (xupd w1.1 0 14 ((((w1.1 0 14) + 40) - 1) - (((w1.1 0 14) + 40) - 1) / 40 * 40)) 0 13 ((w1.1 0 13) - 1), w1.2)) (xupd (xupd w1.1 0 14 ((((w1.1 0 14) + 40) - 1) - (((w1.1 0 14) + 40) - 1) / 40 * 40)) 0 13 ((w1.1 0 13) - 1), w1.2)).bind fun w2 =>
      some (1, w2))
  else
    some (0, g)
set_option maxRecDepth 20000 in
theorem c_X11_undo_0 {S : List xSh} (hS : xpf SH1 S) {g : xG}  (out : Int32 × xG) (H : f_X11_undo_0  g = some out) : xC mX11_undo 4 90 0 0 S [.ref 0] g S (fun r g' => r = some (.int out.1) ∧ g' = out.2) := by
  have H : (if 0 < (g.1 0 13) then
  (f_X5_take_52_48 (g.1 0 14) g).bind fun w1 =>
  xg (¬ (40 : Int32) = 0) (
    (f_X10_measure_38 (f_X6_get_48 4 (xupd (xupd w1.1 0 14 ((((w1.1 0 14) + 40) - 1) - (((w1.1 0 14) + 40) - 1) / 40 * 40)) 0 13 ((w1.1 0 13) - 1), w1.2)) (xupd (xupd w1.1 0 14 ((((w1.1 0 14) + 40) - 1) - (((w1.1 0 14) + 40) - 1) / 40 * 40)) 0 13 ((w1.1 0 13) - 1), w1.2)).bind fun w2 =>
    some (1, w2))
else
  some (0, g)) = some out := H
  refine xC.of 11 SH1 [some (.ref 0)] hS (by decide +kernel) rfl (fun _ _ => Nat.le_of_ble_eq_true rfl) (fun _ _ => rfl) ?_
  intro k A hR hrm hz
  refine xb A [(.aload_n 0, 1, 0, 0, .null), (.getfield 143, 3, 0, 13, .int 0)] (pc' := 4) (ls' := [some (.ref 0)]) (st' := [.int (g.1 0 13)]) (g' := g) (by decide +kernel) rfl ?_
  refine xif_gt A (5) 9 7 (by decide +kernel) (fun h1 => ?_) (fun h1 => ?_)
  · rw [if_pos h1] at H
    refine xb A [(.aload_n 0, 1, 0, 0, .null), (.getfield 78, 3, 0, 10, .ref 52), (.aload_n 0, 1, 0, 0, .null), (.getfield 231, 3, 0, 14, .int 0), (.aload_n 0, 1, 0, 0, .null), (.getfield 66, 3, 0, 8, .ref 48)] (pc' := 21) (ls' := [some (.ref 0)]) (st' := [.ref 48, .int (g.1 0 14), .ref 52]) (g' := g) (by decide +kernel) rfl ?_
    obtain ⟨w1, e1, H⟩ := xbind H
    refine xcallV A (ix := 234) (nxt := 24) hrm hz [.int (g.1 0 14), .ref 48] [] 1087 (c_X5_take_52_48 hS _ e1) ok_X5_take (by decide +kernel) rfl (fun r g1 hq => ?_)
    rw [hq.1, hq.2]
    show xW k S 0 0 24 [some (.ref 0)] [] w1
    refine xb A [(.aload_n 0, 1, 0, 0, .null), (.aload_n 0, 1, 0, 0, .null), (.getfield 231, 3, 0, 14, .int 0), (.bipush 40, 2, 0, 0, .int 40), (.iadd, 1, 0, 0, .null), (.iconst 1, 1, 0, 0, .int 1), (.isub, 1, 0, 0, .null), (.bipush 40, 2, 0, 0, .int 40)] (pc' := 36) (ls' := [some (.ref 0)]) (st' := [.int 40, .int (((w1.1 0 14) + 40) - 1), .ref 0]) (g' := w1) (by decide +kernel) rfl ?_
    obtain ⟨h2, H⟩ := xg_elim H
    refine xirem A (nxt := 37) (by decide +kernel) h2 ?_
    refine xb A [(.putfield 231, 3, 0, 14, .int 0), (.aload_n 0, 1, 0, 0, .null), (.dup, 1, 0, 0, .null), (.getfield 143, 3, 0, 13, .int 0), (.iconst 1, 1, 0, 0, .int 1), (.isub, 1, 0, 0, .null), (.putfield 143, 3, 0, 13, .int 0), (.aload_n 0, 1, 0, 0, .null), (.getfield 37, 3, 0, 3, .ref 38), (.aload_n 0, 1, 0, 0, .null), (.getfield 66, 3, 0, 8, .ref 48), (.iconst 4, 1, 0, 0, .int 4)] (pc' := 59) (ls' := [some (.ref 0)]) (st' := [.int 4, .ref 48, .ref 38]) (g' := (xupd (xupd w1.1 0 14 ((((w1.1 0 14) + 40) - 1) - (((w1.1 0 14) + 40) - 1) / 40 * 40)) 0 13 ((w1.1 0 13) - 1), w1.2)) (by decide +kernel) rfl ?_
    refine xcallV A (ix := 135) (nxt := 62) hrm hz [.int 4] [.ref 38] 489 (c_X6_get_48 hS _ rfl) ok_X6_get (by decide +kernel) rfl (fun r g1 hq => ?_)
    rw [hq.1, hq.2]
    show xW k S 0 0 62 [some (.ref 0)] [.int (f_X6_get_48 4 (xupd (xupd w1.1 0 14 ((((w1.1 0 14) + 40) - 1) - (((w1.1 0 14) + 40) - 1) / 40 * 40)) 0 13 ((w1.1 0 13) - 1), w1.2)), .ref 38] (xupd (xupd w1.1 0 14 ((((w1.1 0 14) + 40) - 1) - (((w1.1 0 14) + 40) - 1) / 40 * 40)) 0 13 ((w1.1 0 13) - 1), w1.2)
    obtain ⟨w2, e2, H⟩ := xbind H
    refine xcallV A (ix := 139) (nxt := 65) hrm hz [.int (f_X6_get_48 4 (xupd (xupd w1.1 0 14 ((((w1.1 0 14) + 40) - 1) - (((w1.1 0 14) + 40) - 1) / 40 * 40)) 0 13 ((w1.1 0 13) - 1), w1.2))] [] 494 (c_X10_measure_38 hS _ e2) ok_X10_measure (by decide +kernel) rfl (fun r g1 hq => ?_)
    rw [hq.1, hq.2]
    show xW k S 0 0 65 [some (.ref 0)] [] w2
    refine xb A [(.iconst 1, 1, 0, 0, .int 1)] (pc' := 66) (ls' := [some (.ref 0)]) (st' := [.int 1]) (g' := w2) (by decide +kernel) rfl ?_
    obtain rfl := Option.some.inj H
    exact xret_i A hR hz (by decide +kernel) rfl ⟨rfl, rfl⟩
  · rw [if_neg h1] at H
    refine xb A [(.iconst 0, 1, 0, 0, .int 0)] (pc' := 8) (ls' := [some (.ref 0)]) (st' := [.int 0]) (g' := g) (by decide +kernel) rfl ?_
    obtain rfl := Option.some.inj H
    exact xret_i A hR hz (by decide +kernel) rfl ⟨rfl, rfl⟩
theorem fr_X11_undo_0  {g : xG} (out : Int32 × xG) (H : f_X11_undo_0  g = some out) : xfrm fp_X11_undo_0 g (out.2) := by
  have H : (if 0 < (g.1 0 13) then
  (f_X5_take_52_48 (g.1 0 14) g).bind fun w1 =>
  xg (¬ (40 : Int32) = 0) (
    (f_X10_measure_38 (f_X6_get_48 4 (xupd (xupd w1.1 0 14 ((((w1.1 0 14) + 40) - 1) - (((w1.1 0 14) + 40) - 1) / 40 * 40)) 0 13 ((w1.1 0 13) - 1), w1.2)) (xupd (xupd w1.1 0 14 ((((w1.1 0 14) + 40) - 1) - (((w1.1 0 14) + 40) - 1) / 40 * 40)) 0 13 ((w1.1 0 13) - 1), w1.2)).bind fun w2 =>
    some (1, w2))
else
  some (0, g)) = some out := H
  by_cases h1 : 0 < (g.1 0 13)
  · rw [if_pos h1] at H
    obtain ⟨w1, e1, H⟩ := xbind H
    have hf1 : xfrm fp_X11_undo_0 g (w1) := xfrm.tr xfrm.rf (fr_X5_take_52_48 _ e1) rfl
    obtain ⟨h2, H⟩ := xg_elim H
    have hf2 : xfrm fp_X11_undo_0 g ((xupd w1.1 0 14 ((((w1.1 0 14) + 40) - 1) - (((w1.1 0 14) + 40) - 1) / 40 * 40), w1.2)) := xfrm.up hf1 rfl
    have hf3 : xfrm fp_X11_undo_0 g ((xupd (xupd w1.1 0 14 ((((w1.1 0 14) + 40) - 1) - (((w1.1 0 14) + 40) - 1) / 40 * 40)) 0 13 ((w1.1 0 13) - 1), w1.2)) := xfrm.up hf2 rfl
    obtain ⟨w2, e2, H⟩ := xbind H
    have hf4 : xfrm fp_X11_undo_0 g (w2) := xfrm.tr hf3 (fr_X10_measure_38 _ e2) rfl
    obtain rfl := Option.some.inj H
    exact hf4
  · rw [if_neg h1] at H
    obtain rfl := Option.some.inj H
    exact xfrm.rf
def fp_X11_ringer_0 : List (Nat × Option Nat) := [(16, none), (45, none)]
def f_X11_ringer_0  (g : xG) : Option (Int32 × xG) :=
  (f_X1_ringerOf_44_48 g).bind fun w1 =>
  some (w1.1, w1.2)
set_option maxRecDepth 20000 in
theorem c_X11_ringer_0 {S : List xSh} (hS : xpf SH1 S) {g : xG}  (out : Int32 × xG) (H : f_X11_ringer_0  g = some out) : xC mX11_ringer 5 124 0 0 S [.ref 0] g S (fun r g' => r = some (.int out.1) ∧ g' = out.2) := by
  have H : ((f_X1_ringerOf_44_48 g).bind fun w1 =>
some (w1.1, w1.2)) = some out := H
  refine xC.of 11 SH1 [some (.ref 0)] hS (by decide +kernel) rfl (fun _ _ => Nat.le_of_ble_eq_true rfl) (fun _ _ => rfl) ?_
  intro k A hR hrm hz
  refine xb A [(.aload_n 0, 1, 0, 0, .null), (.getfield 56, 3, 0, 6, .ref 44), (.aload_n 0, 1, 0, 0, .null), (.getfield 66, 3, 0, 8, .ref 48)] (pc' := 8) (ls' := [some (.ref 0)]) (st' := [.ref 48, .ref 44]) (g' := g) (by decide +kernel) rfl ?_
  obtain ⟨w1, e1, H⟩ := xbind H
  refine xcallV A (ix := 246) (nxt := 11) hrm hz [.ref 48] [] 1097 (c_X1_ringerOf_44_48 hS _ e1) ok_X1_ringerOf (by decide +kernel) rfl (fun r g1 hq => ?_)
  rw [hq.1, hq.2]
  show xW k S 0 0 11 [some (.ref 0)] [.int w1.1] w1.2
  obtain rfl := Option.some.inj H
  exact xret_i A hR hz (by decide +kernel) rfl ⟨rfl, rfl⟩
theorem fr_X11_ringer_0  {g : xG} (out : Int32 × xG) (H : f_X11_ringer_0  g = some out) : xfrm fp_X11_ringer_0 g (out.2) := by
  have H : ((f_X1_ringerOf_44_48 g).bind fun w1 =>
some (w1.1, w1.2)) = some out := H
  obtain ⟨w1, e1, H⟩ := xbind H
  have hf1 : xfrm fp_X11_ringer_0 g (w1.2) := xfrm.tr xfrm.rf (fr_X1_ringerOf_44_48 _ e1) rfl
  obtain rfl := Option.some.inj H
  exact hf1
def f_X11_far_0 (p1 : Int32) (p2 : Int32) (g : xG) : Int32 :=
  if (f_X4_isTown_3 p1 g) = 0 then
    (-1)
  else
    if (f_X4_isTown_3 p2 g) = 0 then
      (-1)
    else
      f_X10_between_38 p1 p2 g
set_option maxRecDepth 20000 in
theorem c_X11_far_0 {S : List xSh} (hS : xpf SH1 S) {g : xG} {p1 : Int32} {p2 : Int32} (out : Int32) (H : f_X11_far_0 p1 p2 g = out) : xC mX11_far 2 43 0 0 S [.ref 0, .int p1, .int p2] g S (fun r g' => r = some (.int out) ∧ g' = g) := by
  have H : (if (f_X4_isTown_3 p1 g) = 0 then
  (-1)
else
  if (f_X4_isTown_3 p2 g) = 0 then
    (-1)
  else
    f_X10_between_38 p1 p2 g) = out := H
  refine xC.of 11 SH1 [some (.ref 0), some (.int p1), some (.int p2)] hS (by decide +kernel) rfl (fun _ _ => Nat.le_of_ble_eq_true rfl) (fun _ _ => rfl) ?_
  intro k A hR hrm hz
  refine xb A [(.aload_n 0, 1, 0, 0, .null), (.getfield 19, 3, 0, 1, .ref 3), (.iload_n 1, 1, 0, 0, .null)] (pc' := 5) (ls' := [some (.ref 0), some (.int p1), some (.int p2)]) (st' := [.int p1, .ref 3]) (g' := g) (by decide +kernel) rfl ?_
  refine xcallV A (ix := 149) (nxt := 8) hrm hz [.int p1] [] 893 (c_X4_isTown_3 hS _ rfl) ok_X4_isTown (by decide +kernel) rfl (fun r g1 hq => ?_)
  rw [hq.1, hq.2]
  show xW k S 0 0 8 [some (.ref 0), some (.int p1), some (.int p2)] [.int (f_X4_isTown_3 p1 g)] g
  refine xif_eq A (26) 34 11 (by decide +kernel) (fun h1 => ?_) (fun h1 => ?_)
  · rw [if_pos h1] at H
    refine xb A [(.iconst (-1), 1, 0, 0, .int (-1))] (pc' := 35) (ls' := [some (.ref 0), some (.int p1), some (.int p2)]) (st' := [.int (-1)]) (g' := g) (by decide +kernel) rfl ?_
    subst H
    exact xret_i A hR hz (by decide +kernel) rfl ⟨rfl, rfl⟩
  · rw [if_neg h1] at H
    refine xb A [(.aload_n 0, 1, 0, 0, .null), (.getfield 19, 3, 0, 1, .ref 3), (.iload_n 2, 1, 0, 0, .null)] (pc' := 16) (ls' := [some (.ref 0), some (.int p1), some (.int p2)]) (st' := [.int p2, .ref 3]) (g' := g) (by decide +kernel) rfl ?_
    refine xcallV A (ix := 149) (nxt := 19) hrm hz [.int p2] [] 893 (c_X4_isTown_3 hS _ rfl) ok_X4_isTown (by decide +kernel) rfl (fun r g1 hq => ?_)
    rw [hq.1, hq.2]
    show xW k S 0 0 19 [some (.ref 0), some (.int p1), some (.int p2)] [.int (f_X4_isTown_3 p2 g)] g
    refine xif_eq A (15) 34 22 (by decide +kernel) (fun h2 => ?_) (fun h2 => ?_)
    · rw [if_pos h2] at H
      refine xb A [(.iconst (-1), 1, 0, 0, .int (-1))] (pc' := 35) (ls' := [some (.ref 0), some (.int p1), some (.int p2)]) (st' := [.int (-1)]) (g' := g) (by decide +kernel) rfl ?_
      subst H
      exact xret_i A hR hz (by decide +kernel) rfl ⟨rfl, rfl⟩
    · rw [if_neg h2] at H
      refine xb A [(.aload_n 0, 1, 0, 0, .null), (.getfield 37, 3, 0, 3, .ref 38), (.iload_n 1, 1, 0, 0, .null), (.iload_n 2, 1, 0, 0, .null)] (pc' := 28) (ls' := [some (.ref 0), some (.int p1), some (.int p2)]) (st' := [.int p2, .int p1, .ref 38]) (g' := g) (by decide +kernel) rfl ?_
      refine xcallV A (ix := 165) (nxt := 31) hrm hz [.int p1, .int p2] [] 918 (c_X10_between_38 hS _ rfl) ok_X10_between (by decide +kernel) rfl (fun r g1 hq => ?_)
      rw [hq.1, hq.2]
      show xW k S 0 0 31 [some (.ref 0), some (.int p1), some (.int p2)] [.int (f_X10_between_38 p1 p2 g)] g
      refine xgoto A (4) 35 (by decide +kernel) ?_
      subst H
      exact xret_i A hR hz (by decide +kernel) rfl ⟨rfl, rfl⟩
def fp_X7_goOnFrom_42 : List (Nat × Option Nat) := [(43, none)]
def f_X7_goOnFrom_42_17  : Nat → Int32 → Int32 → Int32 → Int32 → xG → Option (xG)
  | 0, _, _, _, _, _ => none
  | n + 1, l1, l2, l3, l4, g =>
    if (f_X4_roads_3 g) ≤ l4 then
      some g
    else
      if (f_X10_isOpen_38 l4 g) = 0 then
        f_X7_goOnFrom_42_17 n l1 l2 l3 (l4 + 1) g
      else
        if (f_X4_acrossFrom_3 l2 l4 g) < 0 then
          f_X7_goOnFrom_42_17 n l1 l2 l3 (l4 + 1) g
        else
          if (l1 &&& (f_X11_bit (f_X4_acrossFrom_3 l2 l4 g))) = 0 then
            xl (xput g 43 896 (((l1 ||| (f_X11_bit (f_X4_acrossFrom_3 l2 l4 g))) * 7) + (f_X4_acrossFrom_3 l2 l4 g)) (xmax (xat g 43 896 (((l1 ||| (f_X11_bit (f_X4_acrossFrom_3 l2 l4 g))) * 7) + (f_X4_acrossFrom_3 l2 l4 g))) (l3 + (f_X4_milesOf_3 l4 g)))) fun w1 =>
            f_X7_goOnFrom_42_17 n l1 l2 l3 (l4 + 1) w1
          else
            f_X7_goOnFrom_42_17 n l1 l2 l3 (l4 + 1) g
def f_X7_goOnFrom_42 (p1 : Int32) (p2 : Int32) (g : xG) : Option (xG) :=
  f_X7_goOnFrom_42_17 xN p1 p2 (xat g 43 896 ((p1 * 7) + p2)) 0 g
set_option maxRecDepth 20000 in
theorem t_X7_goOnFrom_42_17 {k : xK} {S : List xSh} {out : xG} (hS : xpf SH1 S) (A : xAt k mX7_goOnFrom.2.1 7 SH1 S) (hR : xRet k 0 0 S (fun r g' => r = none ∧ g' = out) mX7_goOnFrom.2.2.2) (hrm : xrm k = { frames := 3, cells := 0, slots := 0, locals := 64 }) (hz : xhs k = xb0 k + S.length)   : ∀ (n : Nat) (l1 : Int32) (l2 : Int32) (l3 : Int32) (l4 : Int32) (g : xG), f_X7_goOnFrom_42_17 n l1 l2 l3 l4 g = some out → xW k S 0 0 17 [some (.ref 42), some (.int l1), some (.int l2), some (.int l3), some (.int l4), none, none] [] g := by
  intro n
  induction n with
  | zero => intro l1 l2 l3 l4 g H; exact absurd H (by simp [f_X7_goOnFrom_42_17])
  | succ n ih =>
    intro l1 l2 l3 l4 g H
    have H : (if (f_X4_roads_3 g) ≤ l4 then
  some g
else
  if (f_X10_isOpen_38 l4 g) = 0 then
    f_X7_goOnFrom_42_17 n l1 l2 l3 (l4 + 1) g
  else
    if (f_X4_acrossFrom_3 l2 l4 g) < 0 then
      f_X7_goOnFrom_42_17 n l1 l2 l3 (l4 + 1) g
    else
      if (l1 &&& (f_X11_bit (f_X4_acrossFrom_3 l2 l4 g))) = 0 then
        xl (xput g 43 896 (((l1 ||| (f_X11_bit (f_X4_acrossFrom_3 l2 l4 g))) * 7) + (f_X4_acrossFrom_3 l2 l4 g)) (xmax (xat g 43 896 (((l1 ||| (f_X11_bit (f_X4_acrossFrom_3 l2 l4 g))) * 7) + (f_X4_acrossFrom_3 l2 l4 g))) (l3 + (f_X4_milesOf_3 l4 g)))) fun w1 =>
        f_X7_goOnFrom_42_17 n l1 l2 l3 (l4 + 1) w1
      else
        f_X7_goOnFrom_42_17 n l1 l2 l3 (l4 + 1) g) = some out := H
    refine xb A [(.iload 4, 2, 0, 0, .null), (.aload_n 0, 1, 0, 0, .null), (.getfield 15, 3, 42, 0, .ref 3)] (pc' := 23) (ls' := [some (.ref 42), some (.int l1), some (.int l2), some (.int l3), some (.int l4), none, none]) (st' := [.ref 3, .int l4]) (g' := g) (by decide +kernel) rfl ?_
    refine xcallV A (ix := 23) (nxt := 26) hrm hz [] [.int l4] 902 (c_X4_roads_3 hS _ rfl) ok_X4_roads (by decide +kernel) rfl (fun r g1 hq => ?_)
    rw [hq.1, hq.2]
    show xW k S 0 0 26 [some (.ref 42), some (.int l1), some (.int l2), some (.int l3), some (.int l4), none, none] [.int (f_X4_roads_3 g), .int l4] g
    refine xic_ge A (95) 121 29 (by decide +kernel) (fun h1 => ?_) (fun h1 => ?_)
    · rw [if_pos h1] at H
      obtain rfl := Option.some.inj H
      exact xret_v A hR hz (by decide +kernel) ⟨rfl, rfl⟩
    · rw [if_neg h1] at H
      refine xb A [(.aload_n 0, 1, 0, 0, .null), (.getfield 15, 3, 42, 0, .ref 3), (.iload_n 2, 1, 0, 0, .null), (.iload 4, 2, 0, 0, .null)] (pc' := 36) (ls' := [some (.ref 42), some (.int l1), some (.int l2), some (.int l3), some (.int l4), none, none]) (st' := [.int l4, .int l2, .ref 3]) (g' := g) (by decide +kernel) rfl ?_
      refine xcallV A (ix := 35) (nxt := 39) hrm hz [.int l2, .int l4] [] 904 (c_X4_acrossFrom_3 hS _ rfl) ok_X4_acrossFrom (by decide +kernel) rfl (fun r g1 hq => ?_)
      rw [hq.1, hq.2]
      show xW k S 0 0 39 [some (.ref 42), some (.int l1), some (.int l2), some (.int l3), some (.int l4), none, none] [.int (f_X4_acrossFrom_3 l2 l4 g)] g
      refine xb A [(.istore 5, 2, 0, 0, .null), (.aload_n 0, 1, 0, 0, .null), (.getfield 19, 3, 42, 1, .ref 38), (.iload 4, 2, 0, 0, .null)] (pc' := 47) (ls' := [some (.ref 42), some (.int l1), some (.int l2), some (.int l3), some (.int l4), some (.int (f_X4_acrossFrom_3 l2 l4 g)), none]) (st' := [.int l4, .ref 38]) (g' := g) (by decide +kernel) rfl ?_
      refine xcallV A (ix := 29) (nxt := 50) hrm hz [.int l4] [] 903 (c_X10_isOpen_38 hS _ rfl) ok_X10_isOpen (by decide +kernel) rfl (fun r g1 hq => ?_)
      rw [hq.1, hq.2]
      show xW k S 0 0 50 [some (.ref 42), some (.int l1), some (.int l2), some (.int l3), some (.int l4), some (.int (f_X4_acrossFrom_3 l2 l4 g)), none] [.int (f_X10_isOpen_38 l4 g)] g
      refine xif_eq A (65) 115 53 (by decide +kernel) (fun h2 => ?_) (fun h2 => ?_)
      · rw [if_pos h2] at H
        refine xb A [(.iinc 4 1, 3, 0, 0, .null)] (pc' := 118) (ls' := [some (.ref 42), some (.int l1), some (.int l2), some (.int l3), some (.int (l4 + 1)), some (.int (f_X4_acrossFrom_3 l2 l4 g)), none]) (st' := []) (g' := g) (by decide +kernel) rfl ?_
        refine xgoto A (-101) 17 (by decide +kernel) ?_
        refine xweak (ls' := [some (.ref 42), some (.int l1), some (.int l2), some (.int l3), some (.int (l4 + 1)), none, none]) (by exact ⟨rfl, ⟨rfl, ⟨rfl, ⟨rfl, ⟨rfl, trivial⟩⟩⟩⟩⟩) ?_
        exact ih _ _ _ _ _ H
      · rw [if_neg h2] at H
        refine xb A [(.iload 5, 2, 0, 0, .null)] (pc' := 55) (ls' := [some (.ref 42), some (.int l1), some (.int l2), some (.int l3), some (.int l4), some (.int (f_X4_acrossFrom_3 l2 l4 g)), none]) (st' := [.int (f_X4_acrossFrom_3 l2 l4 g)]) (g' := g) (by decide +kernel) rfl ?_
        refine xif_lt A (60) 115 58 (by decide +kernel) (fun h3 => ?_) (fun h3 => ?_)
        · rw [if_pos h3] at H
          refine xb A [(.iinc 4 1, 3, 0, 0, .null)] (pc' := 118) (ls' := [some (.ref 42), some (.int l1), some (.int l2), some (.int l3), some (.int (l4 + 1)), some (.int (f_X4_acrossFrom_3 l2 l4 g)), none]) (st' := []) (g' := g) (by decide +kernel) rfl ?_
          refine xgoto A (-101) 17 (by decide +kernel) ?_
          refine xweak (ls' := [some (.ref 42), some (.int l1), some (.int l2), some (.int l3), some (.int (l4 + 1)), none, none]) (by exact ⟨rfl, ⟨rfl, ⟨rfl, ⟨rfl, ⟨rfl, trivial⟩⟩⟩⟩⟩) ?_
          exact ih _ _ _ _ _ H
        · rw [if_neg h3] at H
          refine xb A [(.iload_n 1, 1, 0, 0, .null), (.iload 5, 2, 0, 0, .null)] (pc' := 61) (ls' := [some (.ref 42), some (.int l1), some (.int l2), some (.int l3), some (.int l4), some (.int (f_X4_acrossFrom_3 l2 l4 g)), none]) (st' := [.int (f_X4_acrossFrom_3 l2 l4 g), .int l1]) (g' := g) (by decide +kernel) rfl ?_
          refine xcallSN A (ix := 39) (nxt := 64) (host := "NoonRinger") hrm hz [.int (f_X4_acrossFrom_3 l2 l4 g)] [.int l1] 23 (c_X11_bit hS _ rfl) ok_X11_bit (by decide +kernel) rfl (fun r g1 hq => ?_)
          rw [hq.1, hq.2]
          show xW k S 0 0 64 [some (.ref 42), some (.int l1), some (.int l2), some (.int l3), some (.int l4), some (.int (f_X4_acrossFrom_3 l2 l4 g)), none] [.int (f_X11_bit (f_X4_acrossFrom_3 l2 l4 g)), .int l1] g
          refine xb A [(.iand, 1, 0, 0, .null)] (pc' := 65) (ls' := [some (.ref 42), some (.int l1), some (.int l2), some (.int l3), some (.int l4), some (.int (f_X4_acrossFrom_3 l2 l4 g)), none]) (st' := [.int (l1 &&& (f_X11_bit (f_X4_acrossFrom_3 l2 l4 g)))]) (g' := g) (by decide +kernel) rfl ?_
          refine xif_ne A (50) 115 68 (by decide +kernel) (fun h4 => ?_) (fun h4 => ?_)
          · rw [if_neg h4] at H
            refine xb A [(.iinc 4 1, 3, 0, 0, .null)] (pc' := 118) (ls' := [some (.ref 42), some (.int l1), some (.int l2), some (.int l3), some (.int (l4 + 1)), some (.int (f_X4_acrossFrom_3 l2 l4 g)), none]) (st' := []) (g' := g) (by decide +kernel) rfl ?_
            refine xgoto A (-101) 17 (by decide +kernel) ?_
            refine xweak (ls' := [some (.ref 42), some (.int l1), some (.int l2), some (.int l3), some (.int (l4 + 1)), none, none]) (by exact ⟨rfl, ⟨rfl, ⟨rfl, ⟨rfl, ⟨rfl, trivial⟩⟩⟩⟩⟩) ?_
            exact ih _ _ _ _ _ H
          · rw [if_pos h4] at H
            refine xb A [(.iload_n 1, 1, 0, 0, .null), (.iload 5, 2, 0, 0, .null)] (pc' := 71) (ls' := [some (.ref 42), some (.int l1), some (.int l2), some (.int l3), some (.int l4), some (.int (f_X4_acrossFrom_3 l2 l4 g)), none]) (st' := [.int (f_X4_acrossFrom_3 l2 l4 g), .int l1]) (g' := g) (by decide +kernel) rfl ?_
            refine xcallSN A (ix := 39) (nxt := 74) (host := "NoonRinger") hrm hz [.int (f_X4_acrossFrom_3 l2 l4 g)] [.int l1] 23 (c_X11_bit hS _ rfl) ok_X11_bit (by decide +kernel) rfl (fun r g1 hq => ?_)
            rw [hq.1, hq.2]
            show xW k S 0 0 74 [some (.ref 42), some (.int l1), some (.int l2), some (.int l3), some (.int l4), some (.int (f_X4_acrossFrom_3 l2 l4 g)), none] [.int (f_X11_bit (f_X4_acrossFrom_3 l2 l4 g)), .int l1] g
            refine xb A [(.ior, 1, 0, 0, .null), (.bipush 7, 2, 0, 0, .int 7), (.imul, 1, 0, 0, .null), (.iload 5, 2, 0, 0, .null), (.iadd, 1, 0, 0, .null), (.istore 6, 2, 0, 0, .null), (.aload_n 0, 1, 0, 0, .null), (.getfield 11, 3, 42, 2, .ref 43), (.iload 6, 2, 0, 0, .null), (.aload_n 0, 1, 0, 0, .null), (.getfield 11, 3, 42, 2, .ref 43), (.iload 6, 2, 0, 0, .null)] (pc' := 95) (ls' := [some (.ref 42), some (.int l1), some (.int l2), some (.int l3), some (.int l4), some (.int (f_X4_acrossFrom_3 l2 l4 g)), some (.int (((l1 ||| (f_X11_bit (f_X4_acrossFrom_3 l2 l4 g))) * 7) + (f_X4_acrossFrom_3 l2 l4 g)))]) (st' := [.int (((l1 ||| (f_X11_bit (f_X4_acrossFrom_3 l2 l4 g))) * 7) + (f_X4_acrossFrom_3 l2 l4 g)), .ref 43, .int (((l1 ||| (f_X11_bit (f_X4_acrossFrom_3 l2 l4 g))) * 7) + (f_X4_acrossFrom_3 l2 l4 g)), .ref 43]) (g' := g) (by decide +kernel) rfl ?_
            refine xcallSN A (ix := 53) (nxt := 98) (host := "NoonRinger") hrm hz [.ref 43, .int (((l1 ||| (f_X11_bit (f_X4_acrossFrom_3 l2 l4 g))) * 7) + (f_X4_acrossFrom_3 l2 l4 g))] [.int (((l1 ||| (f_X11_bit (f_X4_acrossFrom_3 l2 l4 g))) * 7) + (f_X4_acrossFrom_3 l2 l4 g)), .ref 43] 31 (c_X11_at (hS _ _ sh_43) (by decide)) ok_X11_at (by decide +kernel) rfl (fun r g1 hq => ?_)
            rw [hq.1, hq.2]
            show xW k S 0 0 98 [some (.ref 42), some (.int l1), some (.int l2), some (.int l3), some (.int l4), some (.int (f_X4_acrossFrom_3 l2 l4 g)), some (.int (((l1 ||| (f_X11_bit (f_X4_acrossFrom_3 l2 l4 g))) * 7) + (f_X4_acrossFrom_3 l2 l4 g)))] [.int (xat g 43 896 (((l1 ||| (f_X11_bit (f_X4_acrossFrom_3 l2 l4 g))) * 7) + (f_X4_acrossFrom_3 l2 l4 g))), .int (((l1 ||| (f_X11_bit (f_X4_acrossFrom_3 l2 l4 g))) * 7) + (f_X4_acrossFrom_3 l2 l4 g)), .ref 43] g
            refine xb A [(.iload_n 3, 1, 0, 0, .null), (.aload_n 0, 1, 0, 0, .null), (.getfield 15, 3, 42, 0, .ref 3), (.iload 4, 2, 0, 0, .null)] (pc' := 105) (ls' := [some (.ref 42), some (.int l1), some (.int l2), some (.int l3), some (.int l4), some (.int (f_X4_acrossFrom_3 l2 l4 g)), some (.int (((l1 ||| (f_X11_bit (f_X4_acrossFrom_3 l2 l4 g))) * 7) + (f_X4_acrossFrom_3 l2 l4 g)))]) (st' := [.int l4, .ref 3, .int l3, .int (xat g 43 896 (((l1 ||| (f_X11_bit (f_X4_acrossFrom_3 l2 l4 g))) * 7) + (f_X4_acrossFrom_3 l2 l4 g))), .int (((l1 ||| (f_X11_bit (f_X4_acrossFrom_3 l2 l4 g))) * 7) + (f_X4_acrossFrom_3 l2 l4 g)), .ref 43]) (g' := g) (by decide +kernel) rfl ?_
            refine xcallV A (ix := 43) (nxt := 108) hrm hz [.int l4] [.int l3, .int (xat g 43 896 (((l1 ||| (f_X11_bit (f_X4_acrossFrom_3 l2 l4 g))) * 7) + (f_X4_acrossFrom_3 l2 l4 g))), .int (((l1 ||| (f_X11_bit (f_X4_acrossFrom_3 l2 l4 g))) * 7) + (f_X4_acrossFrom_3 l2 l4 g)), .ref 43] 1117 (c_X4_milesOf_3 hS _ rfl) ok_X4_milesOf (by decide +kernel) rfl (fun r g1 hq => ?_)
            rw [hq.1, hq.2]
            show xW k S 0 0 108 [some (.ref 42), some (.int l1), some (.int l2), some (.int l3), some (.int l4), some (.int (f_X4_acrossFrom_3 l2 l4 g)), some (.int (((l1 ||| (f_X11_bit (f_X4_acrossFrom_3 l2 l4 g))) * 7) + (f_X4_acrossFrom_3 l2 l4 g)))] [.int (f_X4_milesOf_3 l4 g), .int l3, .int (xat g 43 896 (((l1 ||| (f_X11_bit (f_X4_acrossFrom_3 l2 l4 g))) * 7) + (f_X4_acrossFrom_3 l2 l4 g))), .int (((l1 ||| (f_X11_bit (f_X4_acrossFrom_3 l2 l4 g))) * 7) + (f_X4_acrossFrom_3 l2 l4 g)), .ref 43] g
            refine xb A [(.iadd, 1, 0, 0, .null)] (pc' := 109) (ls' := [some (.ref 42), some (.int l1), some (.int l2), some (.int l3), some (.int l4), some (.int (f_X4_acrossFrom_3 l2 l4 g)), some (.int (((l1 ||| (f_X11_bit (f_X4_acrossFrom_3 l2 l4 g))) * 7) + (f_X4_acrossFrom_3 l2 l4 g)))]) (st' := [.int (l3 + (f_X4_milesOf_3 l4 g)), .int (xat g 43 896 (((l1 ||| (f_X11_bit (f_X4_acrossFrom_3 l2 l4 g))) * 7) + (f_X4_acrossFrom_3 l2 l4 g))), .int (((l1 ||| (f_X11_bit (f_X4_acrossFrom_3 l2 l4 g))) * 7) + (f_X4_acrossFrom_3 l2 l4 g)), .ref 43]) (g' := g) (by decide +kernel) rfl ?_
            refine xmmax A (ix := 61) (nxt := 112) hrm [.int (((l1 ||| (f_X11_bit (f_X4_acrossFrom_3 l2 l4 g))) * 7) + (f_X4_acrossFrom_3 l2 l4 g)), .ref 43] 1118 (by decide +kernel) rfl ?_
            obtain ⟨w1, e1, H⟩ := xl_elim H
            refine xcallSN A (ix := 46) (nxt := 115) (host := "NoonRinger") hrm hz [.ref 43, .int (((l1 ||| (f_X11_bit (f_X4_acrossFrom_3 l2 l4 g))) * 7) + (f_X4_acrossFrom_3 l2 l4 g)), .int (xmax (xat g 43 896 (((l1 ||| (f_X11_bit (f_X4_acrossFrom_3 l2 l4 g))) * 7) + (f_X4_acrossFrom_3 l2 l4 g))) (l3 + (f_X4_milesOf_3 l4 g)))] [] 30 (c_X11_put (hS _ _ sh_43) (by decide)) ok_X11_put (by decide +kernel) rfl (fun r g1 hq => ?_)
            rw [hq.1, hq.2]
            rw [e1]
            show xW k S 0 0 115 [some (.ref 42), some (.int l1), some (.int l2), some (.int l3), some (.int l4), some (.int (f_X4_acrossFrom_3 l2 l4 g)), some (.int (((l1 ||| (f_X11_bit (f_X4_acrossFrom_3 l2 l4 g))) * 7) + (f_X4_acrossFrom_3 l2 l4 g)))] [] w1
            refine xb A [(.iinc 4 1, 3, 0, 0, .null)] (pc' := 118) (ls' := [some (.ref 42), some (.int l1), some (.int l2), some (.int l3), some (.int (l4 + 1)), some (.int (f_X4_acrossFrom_3 l2 l4 g)), some (.int (((l1 ||| (f_X11_bit (f_X4_acrossFrom_3 l2 l4 g))) * 7) + (f_X4_acrossFrom_3 l2 l4 g)))]) (st' := []) (g' := w1) (by decide +kernel) rfl ?_
            refine xgoto A (-101) 17 (by decide +kernel) ?_
            refine xweak (ls' := [some (.ref 42), some (.int l1), some (.int l2), some (.int l3), some (.int (l4 + 1)), none, none]) (by exact ⟨rfl, ⟨rfl, ⟨rfl, ⟨rfl, ⟨rfl, trivial⟩⟩⟩⟩⟩) ?_
            exact ih _ _ _ _ _ H
theorem fr_X7_goOnFrom_42_17   : ∀ (n : Nat) (l1 : Int32) (l2 : Int32) (l3 : Int32) (l4 : Int32) (g : xG) (out : xG), f_X7_goOnFrom_42_17 n l1 l2 l3 l4 g = some out → xfrm fp_X7_goOnFrom_42 g (out) := by
  intro n
  induction n with
  | zero => intro l1 l2 l3 l4 g out H; exact absurd H (by simp [f_X7_goOnFrom_42_17])
  | succ n ih =>
    intro l1 l2 l3 l4 g out H
    have H : (if (f_X4_roads_3 g) ≤ l4 then
  some g
else
  if (f_X10_isOpen_38 l4 g) = 0 then
    f_X7_goOnFrom_42_17 n l1 l2 l3 (l4 + 1) g
  else
    if (f_X4_acrossFrom_3 l2 l4 g) < 0 then
      f_X7_goOnFrom_42_17 n l1 l2 l3 (l4 + 1) g
    else
      if (l1 &&& (f_X11_bit (f_X4_acrossFrom_3 l2 l4 g))) = 0 then
        xl (xput g 43 896 (((l1 ||| (f_X11_bit (f_X4_acrossFrom_3 l2 l4 g))) * 7) + (f_X4_acrossFrom_3 l2 l4 g)) (xmax (xat g 43 896 (((l1 ||| (f_X11_bit (f_X4_acrossFrom_3 l2 l4 g))) * 7) + (f_X4_acrossFrom_3 l2 l4 g))) (l3 + (f_X4_milesOf_3 l4 g)))) fun w1 =>
        f_X7_goOnFrom_42_17 n l1 l2 l3 (l4 + 1) w1
      else
        f_X7_goOnFrom_42_17 n l1 l2 l3 (l4 + 1) g) = some out := H
    by_cases h1 : (f_X4_roads_3 g) ≤ l4
    · rw [if_pos h1] at H
      obtain rfl := Option.some.inj H
      exact xfrm.rf
    · rw [if_neg h1] at H
      by_cases h2 : (f_X10_isOpen_38 l4 g) = 0
      · rw [if_pos h2] at H
        exact xfrm.tr xfrm.rf (ih _ _ _ _ _ _ H) rfl
      · rw [if_neg h2] at H
        by_cases h3 : (f_X4_acrossFrom_3 l2 l4 g) < 0
        · rw [if_pos h3] at H
          exact xfrm.tr xfrm.rf (ih _ _ _ _ _ _ H) rfl
        · rw [if_neg h3] at H
          by_cases h4 : (l1 &&& (f_X11_bit (f_X4_acrossFrom_3 l2 l4 g))) = 0
          · rw [if_pos h4] at H
            obtain ⟨w1, e1, H⟩ := xl_elim H
            have hf1 : xfrm fp_X7_goOnFrom_42 g (w1) := xfrm_xput xfrm.rf rfl e1
            exact xfrm.tr hf1 (ih _ _ _ _ _ _ H) rfl
          · rw [if_neg h4] at H
            exact xfrm.tr xfrm.rf (ih _ _ _ _ _ _ H) rfl
set_option maxRecDepth 20000 in
theorem c_X7_goOnFrom_42 {S : List xSh} (hS : xpf SH1 S) {g : xG} {p1 : Int32} {p2 : Int32} (out : xG) (H : f_X7_goOnFrom_42 p1 p2 g = some out) : xC mX7_goOnFrom 3 64 0 0 S [.ref 42, .int p1, .int p2] g S (fun r g' => r = none ∧ g' = out) := by
  have H : (f_X7_goOnFrom_42_17 xN p1 p2 (xat g 43 896 ((p1 * 7) + p2)) 0 g) = some out := H
  refine xC.of 7 SH1 [some (.ref 42), some (.int p1), some (.int p2), none, none, none, none] hS (by decide +kernel) rfl (fun _ _ => Nat.le_of_ble_eq_true rfl) (fun _ _ => rfl) ?_
  intro k A hR hrm hz
  refine xb A [(.aload_n 0, 1, 0, 0, .null), (.getfield 11, 3, 42, 2, .ref 43), (.iload_n 1, 1, 0, 0, .null), (.bipush 7, 2, 0, 0, .int 7), (.imul, 1, 0, 0, .null), (.iload_n 2, 1, 0, 0, .null), (.iadd, 1, 0, 0, .null)] (pc' := 10) (ls' := [some (.ref 42), some (.int p1), some (.int p2), none, none, none, none]) (st' := [.int ((p1 * 7) + p2), .ref 43]) (g' := g) (by decide +kernel) rfl ?_
  refine xcallSN A (ix := 53) (nxt := 13) (host := "NoonRinger") hrm hz [.ref 43, .int ((p1 * 7) + p2)] [] 31 (c_X11_at (hS _ _ sh_43) (by decide)) ok_X11_at (by decide +kernel) rfl (fun r g1 hq => ?_)
  rw [hq.1, hq.2]
  show xW k S 0 0 13 [some (.ref 42), some (.int p1), some (.int p2), none, none, none, none] [.int (xat g 43 896 ((p1 * 7) + p2))] g
  refine xb A [(.istore_n 3, 1, 0, 0, .null), (.iconst 0, 1, 0, 0, .int 0), (.istore 4, 2, 0, 0, .null)] (pc' := 17) (ls' := [some (.ref 42), some (.int p1), some (.int p2), some (.int (xat g 43 896 ((p1 * 7) + p2))), some (.int 0), none, none]) (st' := []) (g' := g) (by decide +kernel) rfl ?_
  exact t_X7_goOnFrom_42_17 hS A hR hrm hz _ _ _ _ _ _ H
theorem fr_X7_goOnFrom_42 {p1 : Int32} {p2 : Int32} {g : xG} (out : xG) (H : f_X7_goOnFrom_42 p1 p2 g = some out) : xfrm fp_X7_goOnFrom_42 g (out) := by
  have H : (f_X7_goOnFrom_42_17 xN p1 p2 (xat g 43 896 ((p1 * 7) + p2)) 0 g) = some out := H
  exact xfrm.tr xfrm.rf (fr_X7_goOnFrom_42_17 _ _ _ _ _ _ _ H) rfl
def fp_X7_longestWay_42 : List (Nat × Option Nat) := [(43, none)]
def f_X7_longestWay_42_66 (k48 : Int32 → Int32 → Int32 → xG → Option (Int32 × xG)) : Nat → Int32 → Int32 → Int32 → Int32 → xG → Option (Int32 × xG)
  | 0, _, _, _, _, _ => none
  | n + 1, l2, l3, l4, l5, g =>
    if (f_X4_towns_3 g) ≤ l5 then
      k48 l2 (xmax l3 (xat g 43 896 ((l4 * 7) + l2))) (l4 + 1) g
    else
      if (xat g 43 896 ((l4 * 7) + l5)) < 0 then
        f_X7_longestWay_42_66 k48 n l2 l3 l4 (l5 + 1) g
      else
        (f_X7_goOnFrom_42 l4 l5 g).bind fun w2 =>
        f_X7_longestWay_42_66 k48 n l2 l3 l4 (l5 + 1) w2
def f_X7_longestWay_42_48  : Nat → Int32 → Int32 → Int32 → xG → Option (Int32 × xG)
  | 0, _, _, _, _ => none
  | n + 1, l2, l3, l4, g =>
    if (f_X11_bit (f_X4_towns_3 g)) ≤ l4 then
      some (l3, g)
    else
      f_X7_longestWay_42_66 (f_X7_longestWay_42_48 n) xN l2 l3 l4 0 g
def f_X7_longestWay_42_2  : Nat → Int32 → Int32 → Int32 → xG → Option (Int32 × xG)
  | 0, _, _, _, _ => none
  | n + 1, l1, l2, l3, g =>
    if 896 ≤ l3 then
      xl (xput g 43 896 (((f_X11_bit l1) * 7) + l1) 0) fun w1 =>
      f_X7_longestWay_42_48 xN l2 (-2) 1 w1
    else
      xg (¬ (l3 < 0 ∨ 896 ≤ l3.toNatClampNeg)) (
        f_X7_longestWay_42_2 n l1 l2 (l3 + 1) (xupd g.1 43 l3.toNatClampNeg (-2), g.2))
def f_X7_longestWay_42 (p1 : Int32) (p2 : Int32) (g : xG) : Option (Int32 × xG) :=
  f_X7_longestWay_42_2 xN p1 p2 0 g
set_option maxRecDepth 20000 in
theorem t_X7_longestWay_42_66 {k : xK} {S : List xSh} {out : Int32 × xG} (hS : xpf SH1 S) (A : xAt k mX7_longestWay.2.1 7 SH1 S) (hR : xRet k 0 0 S (fun r g' => r = some (.int out.1) ∧ g' = out.2) mX7_longestWay.2.2.2) (hrm : xrm k = { frames := 4, cells := 0, slots := 0, locals := 90 }) (hz : xhs k = xb0 k + S.length) {k48 : Int32 → Int32 → Int32 → xG → Option (Int32 × xG)} (hk48 : ∀ (l2 : Int32) (l3 : Int32) (l4 : Int32) (g : xG), k48 l2 l3 l4 g = some out → xW k S 0 0 48 [some (.ref 42), none, some (.int l2), some (.int l3), some (.int l4), none] [] g) : ∀ (n : Nat) (l2 : Int32) (l3 : Int32) (l4 : Int32) (l5 : Int32) (g : xG), f_X7_longestWay_42_66 k48 n l2 l3 l4 l5 g = some out → xW k S 0 0 66 [some (.ref 42), none, some (.int l2), some (.int l3), some (.int l4), some (.int l5)] [] g := by
  intro n
  induction n with
  | zero => intro l2 l3 l4 l5 g H; exact absurd H (by simp [f_X7_longestWay_42_66])
  | succ n ih =>
    intro l2 l3 l4 l5 g H
    have H : (if (f_X4_towns_3 g) ≤ l5 then
  k48 l2 (xmax l3 (xat g 43 896 ((l4 * 7) + l2))) (l4 + 1) g
else
  if (xat g 43 896 ((l4 * 7) + l5)) < 0 then
    f_X7_longestWay_42_66 k48 n l2 l3 l4 (l5 + 1) g
  else
    (f_X7_goOnFrom_42 l4 l5 g).bind fun w2 =>
    f_X7_longestWay_42_66 k48 n l2 l3 l4 (l5 + 1) w2) = some out := H
    refine xb A [(.iload 5, 2, 0, 0, .null), (.aload_n 0, 1, 0, 0, .null), (.getfield 15, 3, 42, 0, .ref 3)] (pc' := 72) (ls' := [some (.ref 42), none, some (.int l2), some (.int l3), some (.int l4), some (.int l5)]) (st' := [.ref 3, .int l5]) (g' := g) (by decide +kernel) rfl ?_
    refine xcallV A (ix := 50) (nxt := 75) hrm hz [] [.int l5] 1111 (c_X4_towns_3 hS _ rfl) ok_X4_towns (by decide +kernel) rfl (fun r g1 hq => ?_)
    rw [hq.1, hq.2]
    show xW k S 0 0 75 [some (.ref 42), none, some (.int l2), some (.int l3), some (.int l4), some (.int l5)] [.int (f_X4_towns_3 g), .int l5] g
    refine xic_ge A (35) 110 78 (by decide +kernel) (fun h3 => ?_) (fun h3 => ?_)
    · rw [if_pos h3] at H
      refine xb A [(.iload_n 3, 1, 0, 0, .null), (.aload_n 0, 1, 0, 0, .null), (.getfield 11, 3, 42, 2, .ref 43), (.iload 4, 2, 0, 0, .null), (.bipush 7, 2, 0, 0, .int 7), (.imul, 1, 0, 0, .null), (.iload_n 2, 1, 0, 0, .null), (.iadd, 1, 0, 0, .null)] (pc' := 122) (ls' := [some (.ref 42), none, some (.int l2), some (.int l3), some (.int l4), some (.int l5)]) (st' := [.int ((l4 * 7) + l2), .ref 43, .int l3]) (g' := g) (by decide +kernel) rfl ?_
      refine xcallSN A (ix := 53) (nxt := 125) (host := "NoonRinger") hrm hz [.ref 43, .int ((l4 * 7) + l2)] [.int l3] 31 (c_X11_at (hS _ _ sh_43) (by decide)) ok_X11_at (by decide +kernel) rfl (fun r g1 hq => ?_)
      rw [hq.1, hq.2]
      show xW k S 0 0 125 [some (.ref 42), none, some (.int l2), some (.int l3), some (.int l4), some (.int l5)] [.int (xat g 43 896 ((l4 * 7) + l2)), .int l3] g
      refine xmmax A (ix := 61) (nxt := 128) hrm [] 1118 (by decide +kernel) rfl ?_
      refine xb A [(.istore_n 3, 1, 0, 0, .null), (.iinc 4 1, 3, 0, 0, .null)] (pc' := 132) (ls' := [some (.ref 42), none, some (.int l2), some (.int (xmax l3 (xat g 43 896 ((l4 * 7) + l2)))), some (.int (l4 + 1)), some (.int l5)]) (st' := []) (g' := g) (by decide +kernel) rfl ?_
      refine xgoto A (-84) 48 (by decide +kernel) ?_
      refine xweak (ls' := [some (.ref 42), none, some (.int l2), some (.int (xmax l3 (xat g 43 896 ((l4 * 7) + l2)))), some (.int (l4 + 1)), none]) (by exact ⟨rfl, ⟨rfl, ⟨rfl, ⟨rfl, trivial⟩⟩⟩⟩) ?_
      exact hk48 _ _ _ _ H
    · rw [if_neg h3] at H
      refine xb A [(.aload_n 0, 1, 0, 0, .null), (.getfield 11, 3, 42, 2, .ref 43), (.iload 4, 2, 0, 0, .null), (.bipush 7, 2, 0, 0, .int 7), (.imul, 1, 0, 0, .null), (.iload 5, 2, 0, 0, .null), (.iadd, 1, 0, 0, .null)] (pc' := 90) (ls' := [some (.ref 42), none, some (.int l2), some (.int l3), some (.int l4), some (.int l5)]) (st' := [.int ((l4 * 7) + l5), .ref 43]) (g' := g) (by decide +kernel) rfl ?_
      refine xcallSN A (ix := 53) (nxt := 93) (host := "NoonRinger") hrm hz [.ref 43, .int ((l4 * 7) + l5)] [] 31 (c_X11_at (hS _ _ sh_43) (by decide)) ok_X11_at (by decide +kernel) rfl (fun r g1 hq => ?_)
      rw [hq.1, hq.2]
      show xW k S 0 0 93 [some (.ref 42), none, some (.int l2), some (.int l3), some (.int l4), some (.int l5)] [.int (xat g 43 896 ((l4 * 7) + l5))] g
      refine xif_lt A (11) 104 96 (by decide +kernel) (fun h4 => ?_) (fun h4 => ?_)
      · rw [if_pos h4] at H
        refine xb A [(.iinc 5 1, 3, 0, 0, .null)] (pc' := 107) (ls' := [some (.ref 42), none, some (.int l2), some (.int l3), some (.int l4), some (.int (l5 + 1))]) (st' := []) (g' := g) (by decide +kernel) rfl ?_
        refine xgoto A (-41) 66 (by decide +kernel) ?_
        exact ih _ _ _ _ _ H
      · rw [if_neg h4] at H
        refine xb A [(.aload_n 0, 1, 0, 0, .null), (.iload 4, 2, 0, 0, .null), (.iload 5, 2, 0, 0, .null)] (pc' := 101) (ls' := [some (.ref 42), none, some (.int l2), some (.int l3), some (.int l4), some (.int l5)]) (st' := [.int l5, .int l4, .ref 42]) (g' := g) (by decide +kernel) rfl ?_
        obtain ⟨w2, e2, H⟩ := xbind H
        refine xcallV A (ix := 57) (nxt := 104) hrm hz [.int l4, .int l5] [] 1113 (c_X7_goOnFrom_42 hS _ e2) ok_X7_goOnFrom (by decide +kernel) rfl (fun r g1 hq => ?_)
        rw [hq.1, hq.2]
        show xW k S 0 0 104 [some (.ref 42), none, some (.int l2), some (.int l3), some (.int l4), some (.int l5)] [] w2
        refine xb A [(.iinc 5 1, 3, 0, 0, .null)] (pc' := 107) (ls' := [some (.ref 42), none, some (.int l2), some (.int l3), some (.int l4), some (.int (l5 + 1))]) (st' := []) (g' := w2) (by decide +kernel) rfl ?_
        refine xgoto A (-41) 66 (by decide +kernel) ?_
        exact ih _ _ _ _ _ H
theorem fr_X7_longestWay_42_66 {k48 : Int32 → Int32 → Int32 → xG → Option (Int32 × xG)} (hk48 : ∀ (l2 : Int32) (l3 : Int32) (l4 : Int32) (g : xG) (out : Int32 × xG), k48 l2 l3 l4 g = some out → xfrm fp_X7_longestWay_42 g (out.2)) : ∀ (n : Nat) (l2 : Int32) (l3 : Int32) (l4 : Int32) (l5 : Int32) (g : xG) (out : Int32 × xG), f_X7_longestWay_42_66 k48 n l2 l3 l4 l5 g = some out → xfrm fp_X7_longestWay_42 g (out.2) := by
  intro n
  induction n with
  | zero => intro l2 l3 l4 l5 g out H; exact absurd H (by simp [f_X7_longestWay_42_66])
  | succ n ih =>
    intro l2 l3 l4 l5 g out H
    have H : (if (f_X4_towns_3 g) ≤ l5 then
  k48 l2 (xmax l3 (xat g 43 896 ((l4 * 7) + l2))) (l4 + 1) g
else
  if (xat g 43 896 ((l4 * 7) + l5)) < 0 then
    f_X7_longestWay_42_66 k48 n l2 l3 l4 (l5 + 1) g
  else
    (f_X7_goOnFrom_42 l4 l5 g).bind fun w2 =>
    f_X7_longestWay_42_66 k48 n l2 l3 l4 (l5 + 1) w2) = some out := H
    by_cases h3 : (f_X4_towns_3 g) ≤ l5
    · rw [if_pos h3] at H
      exact xfrm.tr xfrm.rf (hk48 _ _ _ _ _ H) rfl
    · rw [if_neg h3] at H
      by_cases h4 : (xat g 43 896 ((l4 * 7) + l5)) < 0
      · rw [if_pos h4] at H
        exact xfrm.tr xfrm.rf (ih _ _ _ _ _ _ H) rfl
      · rw [if_neg h4] at H
        obtain ⟨w2, e2, H⟩ := xbind H
        have hf2 : xfrm fp_X7_longestWay_42 g (w2) := xfrm.tr xfrm.rf (fr_X7_goOnFrom_42 _ e2) rfl
        exact xfrm.tr hf2 (ih _ _ _ _ _ _ H) rfl
set_option maxRecDepth 20000 in
theorem t_X7_longestWay_42_48 {k : xK} {S : List xSh} {out : Int32 × xG} (hS : xpf SH1 S) (A : xAt k mX7_longestWay.2.1 7 SH1 S) (hR : xRet k 0 0 S (fun r g' => r = some (.int out.1) ∧ g' = out.2) mX7_longestWay.2.2.2) (hrm : xrm k = { frames := 4, cells := 0, slots := 0, locals := 90 }) (hz : xhs k = xb0 k + S.length)   : ∀ (n : Nat) (l2 : Int32) (l3 : Int32) (l4 : Int32) (g : xG), f_X7_longestWay_42_48 n l2 l3 l4 g = some out → xW k S 0 0 48 [some (.ref 42), none, some (.int l2), some (.int l3), some (.int l4), none] [] g := by
  intro n
  induction n with
  | zero => intro l2 l3 l4 g H; exact absurd H (by simp [f_X7_longestWay_42_48])
  | succ n ih =>
    intro l2 l3 l4 g H
    have H : (if (f_X11_bit (f_X4_towns_3 g)) ≤ l4 then
  some (l3, g)
else
  f_X7_longestWay_42_66 (f_X7_longestWay_42_48 n) xN l2 l3 l4 0 g) = some out := H
    refine xb A [(.iload 4, 2, 0, 0, .null), (.aload_n 0, 1, 0, 0, .null), (.getfield 15, 3, 42, 0, .ref 3)] (pc' := 54) (ls' := [some (.ref 42), none, some (.int l2), some (.int l3), some (.int l4), none]) (st' := [.ref 3, .int l4]) (g' := g) (by decide +kernel) rfl ?_
    refine xcallV A (ix := 50) (nxt := 57) hrm hz [] [.int l4] 1111 (c_X4_towns_3 hS _ rfl) ok_X4_towns (by decide +kernel) rfl (fun r g1 hq => ?_)
    rw [hq.1, hq.2]
    show xW k S 0 0 57 [some (.ref 42), none, some (.int l2), some (.int l3), some (.int l4), none] [.int (f_X4_towns_3 g), .int l4] g
    refine xcallSN A (ix := 39) (nxt := 60) (host := "NoonRinger") hrm hz [.int (f_X4_towns_3 g)] [.int l4] 23 (c_X11_bit hS _ rfl) ok_X11_bit (by decide +kernel) rfl (fun r g1 hq => ?_)
    rw [hq.1, hq.2]
    show xW k S 0 0 60 [some (.ref 42), none, some (.int l2), some (.int l3), some (.int l4), none] [.int (f_X11_bit (f_X4_towns_3 g)), .int l4] g
    refine xic_ge A (75) 135 63 (by decide +kernel) (fun h2 => ?_) (fun h2 => ?_)
    · rw [if_pos h2] at H
      refine xb A [(.iload_n 3, 1, 0, 0, .null)] (pc' := 136) (ls' := [some (.ref 42), none, some (.int l2), some (.int l3), some (.int l4), none]) (st' := [.int l3]) (g' := g) (by decide +kernel) rfl ?_
      obtain rfl := Option.some.inj H
      exact xret_i A hR hz (by decide +kernel) rfl ⟨rfl, rfl⟩
    · rw [if_neg h2] at H
      refine xb A [(.iconst 0, 1, 0, 0, .int 0), (.istore 5, 2, 0, 0, .null)] (pc' := 66) (ls' := [some (.ref 42), none, some (.int l2), some (.int l3), some (.int l4), some (.int 0)]) (st' := []) (g' := g) (by decide +kernel) rfl ?_
      exact t_X7_longestWay_42_66 hS A hR hrm hz ih _ _ _ _ _ _ H
theorem fr_X7_longestWay_42_48   : ∀ (n : Nat) (l2 : Int32) (l3 : Int32) (l4 : Int32) (g : xG) (out : Int32 × xG), f_X7_longestWay_42_48 n l2 l3 l4 g = some out → xfrm fp_X7_longestWay_42 g (out.2) := by
  intro n
  induction n with
  | zero => intro l2 l3 l4 g out H; exact absurd H (by simp [f_X7_longestWay_42_48])
  | succ n ih =>
    intro l2 l3 l4 g out H
    have H : (if (f_X11_bit (f_X4_towns_3 g)) ≤ l4 then
  some (l3, g)
else
  f_X7_longestWay_42_66 (f_X7_longestWay_42_48 n) xN l2 l3 l4 0 g) = some out := H
    by_cases h2 : (f_X11_bit (f_X4_towns_3 g)) ≤ l4
    · rw [if_pos h2] at H
      obtain rfl := Option.some.inj H
      exact xfrm.rf
    · rw [if_neg h2] at H
      exact xfrm.tr xfrm.rf (fr_X7_longestWay_42_66 ih _ _ _ _ _ _ _ H) rfl
set_option maxRecDepth 20000 in
theorem t_X7_longestWay_42_2 {k : xK} {S : List xSh} {out : Int32 × xG} (hS : xpf SH1 S) (A : xAt k mX7_longestWay.2.1 7 SH1 S) (hR : xRet k 0 0 S (fun r g' => r = some (.int out.1) ∧ g' = out.2) mX7_longestWay.2.2.2) (hrm : xrm k = { frames := 4, cells := 0, slots := 0, locals := 90 }) (hz : xhs k = xb0 k + S.length)   : ∀ (n : Nat) (l1 : Int32) (l2 : Int32) (l3 : Int32) (g : xG), f_X7_longestWay_42_2 n l1 l2 l3 g = some out → xW k S 0 0 2 [some (.ref 42), some (.int l1), some (.int l2), some (.int l3), none, none] [] g := by
  intro n
  induction n with
  | zero => intro l1 l2 l3 g H; exact absurd H (by simp [f_X7_longestWay_42_2])
  | succ n ih =>
    intro l1 l2 l3 g H
    have H : (if 896 ≤ l3 then
  xl (xput g 43 896 (((f_X11_bit l1) * 7) + l1) 0) fun w1 =>
  f_X7_longestWay_42_48 xN l2 (-2) 1 w1
else
  xg (¬ (l3 < 0 ∨ 896 ≤ l3.toNatClampNeg)) (
    f_X7_longestWay_42_2 n l1 l2 (l3 + 1) (xupd g.1 43 l3.toNatClampNeg (-2), g.2))) = some out := H
    refine xb A [(.iload_n 3, 1, 0, 0, .null), (.aload_n 0, 1, 0, 0, .null), (.getfield 11, 3, 42, 2, .ref 43), (.arraylength, 1, 43, 0, .int 896)] (pc' := 8) (ls' := [some (.ref 42), some (.int l1), some (.int l2), some (.int l3), none, none]) (st' := [.int 896, .int l3]) (g' := g) (by decide +kernel) rfl ?_
    refine xic_ge A (17) 25 11 (by decide +kernel) (fun h1 => ?_) (fun h1 => ?_)
    · rw [if_pos h1] at H
      refine xb A [(.aload_n 0, 1, 0, 0, .null), (.getfield 11, 3, 42, 2, .ref 43), (.iload_n 1, 1, 0, 0, .null)] (pc' := 30) (ls' := [some (.ref 42), some (.int l1), some (.int l2), some (.int l3), none, none]) (st' := [.int l1, .ref 43]) (g' := g) (by decide +kernel) rfl ?_
      refine xcallSN A (ix := 39) (nxt := 33) (host := "NoonRinger") hrm hz [.int l1] [.ref 43] 23 (c_X11_bit hS _ rfl) ok_X11_bit (by decide +kernel) rfl (fun r g1 hq => ?_)
      rw [hq.1, hq.2]
      show xW k S 0 0 33 [some (.ref 42), some (.int l1), some (.int l2), some (.int l3), none, none] [.int (f_X11_bit l1), .ref 43] g
      refine xb A [(.bipush 7, 2, 0, 0, .int 7), (.imul, 1, 0, 0, .null), (.iload_n 1, 1, 0, 0, .null), (.iadd, 1, 0, 0, .null), (.iconst 0, 1, 0, 0, .int 0)] (pc' := 39) (ls' := [some (.ref 42), some (.int l1), some (.int l2), some (.int l3), none, none]) (st' := [.int 0, .int (((f_X11_bit l1) * 7) + l1), .ref 43]) (g' := g) (by decide +kernel) rfl ?_
      obtain ⟨w1, e1, H⟩ := xl_elim H
      refine xcallSN A (ix := 46) (nxt := 42) (host := "NoonRinger") hrm hz [.ref 43, .int (((f_X11_bit l1) * 7) + l1), .int 0] [] 30 (c_X11_put (hS _ _ sh_43) (by decide)) ok_X11_put (by decide +kernel) rfl (fun r g1 hq => ?_)
      rw [hq.1, hq.2]
      rw [e1]
      show xW k S 0 0 42 [some (.ref 42), some (.int l1), some (.int l2), some (.int l3), none, none] [] w1
      refine xb A [(.bipush (-2), 2, 0, 0, .int (-2)), (.istore_n 3, 1, 0, 0, .null), (.iconst 1, 1, 0, 0, .int 1), (.istore 4, 2, 0, 0, .null)] (pc' := 48) (ls' := [some (.ref 42), some (.int l1), some (.int l2), some (.int (-2)), some (.int 1), none]) (st' := []) (g' := w1) (by decide +kernel) rfl ?_
      refine xweak (ls' := [some (.ref 42), none, some (.int l2), some (.int (-2)), some (.int 1), none]) (by exact ⟨rfl, ⟨rfl, ⟨rfl, ⟨rfl, trivial⟩⟩⟩⟩) ?_
      exact t_X7_longestWay_42_48 hS A hR hrm hz _ _ _ _ _ H
    · rw [if_neg h1] at H
      refine xb A [(.aload_n 0, 1, 0, 0, .null), (.getfield 11, 3, 42, 2, .ref 43), (.iload_n 3, 1, 0, 0, .null), (.bipush (-2), 2, 0, 0, .int (-2))] (pc' := 18) (ls' := [some (.ref 42), some (.int l1), some (.int l2), some (.int l3), none, none]) (st' := [.int (-2), .int l3, .ref 43]) (g' := g) (by decide +kernel) rfl ?_
      obtain ⟨h5, H⟩ := xg_elim H
      refine xiast A (nxt := 19) (by decide +kernel) (hS _ _ sh_43) h5 ?_
      show xW k S 0 0 19 [some (.ref 42), some (.int l1), some (.int l2), some (.int l3), none, none] [] (xupd g.1 43 l3.toNatClampNeg (-2), g.2)
      refine xb A [(.iinc 3 1, 3, 0, 0, .null)] (pc' := 22) (ls' := [some (.ref 42), some (.int l1), some (.int l2), some (.int (l3 + 1)), none, none]) (st' := []) (g' := (xupd g.1 43 l3.toNatClampNeg (-2), g.2)) (by decide +kernel) rfl ?_
      refine xgoto A (-20) 2 (by decide +kernel) ?_
      exact ih _ _ _ _ H
theorem fr_X7_longestWay_42_2   : ∀ (n : Nat) (l1 : Int32) (l2 : Int32) (l3 : Int32) (g : xG) (out : Int32 × xG), f_X7_longestWay_42_2 n l1 l2 l3 g = some out → xfrm fp_X7_longestWay_42 g (out.2) := by
  intro n
  induction n with
  | zero => intro l1 l2 l3 g out H; exact absurd H (by simp [f_X7_longestWay_42_2])
  | succ n ih =>
    intro l1 l2 l3 g out H
    have H : (if 896 ≤ l3 then
  xl (xput g 43 896 (((f_X11_bit l1) * 7) + l1) 0) fun w1 =>
  f_X7_longestWay_42_48 xN l2 (-2) 1 w1
else
  xg (¬ (l3 < 0 ∨ 896 ≤ l3.toNatClampNeg)) (
    f_X7_longestWay_42_2 n l1 l2 (l3 + 1) (xupd g.1 43 l3.toNatClampNeg (-2), g.2))) = some out := H
    by_cases h1 : 896 ≤ l3
    · rw [if_pos h1] at H
      obtain ⟨w1, e1, H⟩ := xl_elim H
      have hf1 : xfrm fp_X7_longestWay_42 g (w1) := xfrm_xput xfrm.rf rfl e1
      exact xfrm.tr hf1 (fr_X7_longestWay_42_48 _ _ _ _ _ _ H) rfl
    · rw [if_neg h1] at H
      obtain ⟨h5, H⟩ := xg_elim H
      have hf3 : xfrm fp_X7_longestWay_42 g ((xupd g.1 43 l3.toNatClampNeg (-2), g.2)) := xfrm.ua xfrm.rf rfl
      exact xfrm.tr hf3 (ih _ _ _ _ _ H) rfl
set_option maxRecDepth 20000 in
theorem c_X7_longestWay_42 {S : List xSh} (hS : xpf SH1 S) {g : xG} {p1 : Int32} {p2 : Int32} (out : Int32 × xG) (H : f_X7_longestWay_42 p1 p2 g = some out) : xC mX7_longestWay 4 90 0 0 S [.ref 42, .int p1, .int p2] g S (fun r g' => r = some (.int out.1) ∧ g' = out.2) := by
  have H : (f_X7_longestWay_42_2 xN p1 p2 0 g) = some out := H
  refine xC.of 7 SH1 [some (.ref 42), some (.int p1), some (.int p2), none, none, none] hS (by decide +kernel) rfl (fun _ _ => Nat.le_of_ble_eq_true rfl) (fun _ _ => rfl) ?_
  intro k A hR hrm hz
  refine xb A [(.iconst 0, 1, 0, 0, .int 0), (.istore_n 3, 1, 0, 0, .null)] (pc' := 2) (ls' := [some (.ref 42), some (.int p1), some (.int p2), some (.int 0), none, none]) (st' := []) (g' := g) (by decide +kernel) rfl ?_
  exact t_X7_longestWay_42_2 hS A hR hrm hz _ _ _ _ _ H
theorem fr_X7_longestWay_42 {p1 : Int32} {p2 : Int32} {g : xG} (out : Int32 × xG) (H : f_X7_longestWay_42 p1 p2 g = some out) : xfrm fp_X7_longestWay_42 g (out.2) := by
  have H : (f_X7_longestWay_42_2 xN p1 p2 0 g) = some out := H
  exact xfrm.tr xfrm.rf (fr_X7_longestWay_42_2 _ _ _ _ _ _ H) rfl
def fp_X11_longest_0 : List (Nat × Option Nat) := [(43, none)]
def f_X11_longest_0 (p1 : Int32) (p2 : Int32) (g : xG) : Option (Int32 × xG) :=
  if (f_X4_isTown_3 p1 g) = 0 then
    some ((-1), g)
  else
    if (f_X4_isTown_3 p2 g) = 0 then
      some ((-1), g)
    else
      (f_X7_longestWay_42 p1 p2 g).bind fun w1 =>
      some (w1.1, w1.2)
set_option maxRecDepth 20000 in
theorem c_X11_longest_0 {S : List xSh} (hS : xpf SH1 S) {g : xG} {p1 : Int32} {p2 : Int32} (out : Int32 × xG) (H : f_X11_longest_0 p1 p2 g = some out) : xC mX11_longest 5 115 0 0 S [.ref 0, .int p1, .int p2] g S (fun r g' => r = some (.int out.1) ∧ g' = out.2) := by
  have H : (if (f_X4_isTown_3 p1 g) = 0 then
  some ((-1), g)
else
  if (f_X4_isTown_3 p2 g) = 0 then
    some ((-1), g)
  else
    (f_X7_longestWay_42 p1 p2 g).bind fun w1 =>
    some (w1.1, w1.2)) = some out := H
  refine xC.of 11 SH1 [some (.ref 0), some (.int p1), some (.int p2)] hS (by decide +kernel) rfl (fun _ _ => Nat.le_of_ble_eq_true rfl) (fun _ _ => rfl) ?_
  intro k A hR hrm hz
  refine xb A [(.aload_n 0, 1, 0, 0, .null), (.getfield 19, 3, 0, 1, .ref 3), (.iload_n 1, 1, 0, 0, .null)] (pc' := 5) (ls' := [some (.ref 0), some (.int p1), some (.int p2)]) (st' := [.int p1, .ref 3]) (g' := g) (by decide +kernel) rfl ?_
  refine xcallV A (ix := 149) (nxt := 8) hrm hz [.int p1] [] 893 (c_X4_isTown_3 hS _ rfl) ok_X4_isTown (by decide +kernel) rfl (fun r g1 hq => ?_)
  rw [hq.1, hq.2]
  show xW k S 0 0 8 [some (.ref 0), some (.int p1), some (.int p2)] [.int (f_X4_isTown_3 p1 g)] g
  refine xif_eq A (26) 34 11 (by decide +kernel) (fun h1 => ?_) (fun h1 => ?_)
  · rw [if_pos h1] at H
    refine xb A [(.iconst (-1), 1, 0, 0, .int (-1))] (pc' := 35) (ls' := [some (.ref 0), some (.int p1), some (.int p2)]) (st' := [.int (-1)]) (g' := g) (by decide +kernel) rfl ?_
    obtain rfl := Option.some.inj H
    exact xret_i A hR hz (by decide +kernel) rfl ⟨rfl, rfl⟩
  · rw [if_neg h1] at H
    refine xb A [(.aload_n 0, 1, 0, 0, .null), (.getfield 19, 3, 0, 1, .ref 3), (.iload_n 2, 1, 0, 0, .null)] (pc' := 16) (ls' := [some (.ref 0), some (.int p1), some (.int p2)]) (st' := [.int p2, .ref 3]) (g' := g) (by decide +kernel) rfl ?_
    refine xcallV A (ix := 149) (nxt := 19) hrm hz [.int p2] [] 893 (c_X4_isTown_3 hS _ rfl) ok_X4_isTown (by decide +kernel) rfl (fun r g1 hq => ?_)
    rw [hq.1, hq.2]
    show xW k S 0 0 19 [some (.ref 0), some (.int p1), some (.int p2)] [.int (f_X4_isTown_3 p2 g)] g
    refine xif_eq A (15) 34 22 (by decide +kernel) (fun h2 => ?_) (fun h2 => ?_)
    · rw [if_pos h2] at H
      refine xb A [(.iconst (-1), 1, 0, 0, .int (-1))] (pc' := 35) (ls' := [some (.ref 0), some (.int p1), some (.int p2)]) (st' := [.int (-1)]) (g' := g) (by decide +kernel) rfl ?_
      obtain rfl := Option.some.inj H
      exact xret_i A hR hz (by decide +kernel) rfl ⟨rfl, rfl⟩
    · rw [if_neg h2] at H
      refine xb A [(.aload_n 0, 1, 0, 0, .null), (.getfield 49, 3, 0, 5, .ref 42), (.iload_n 1, 1, 0, 0, .null), (.iload_n 2, 1, 0, 0, .null)] (pc' := 28) (ls' := [some (.ref 0), some (.int p1), some (.int p2)]) (st' := [.int p2, .int p1, .ref 42]) (g' := g) (by decide +kernel) rfl ?_
      obtain ⟨w1, e1, H⟩ := xbind H
      refine xcallV A (ix := 250) (nxt := 31) hrm hz [.int p1, .int p2] [] 1106 (c_X7_longestWay_42 hS _ e1) ok_X7_longestWay (by decide +kernel) rfl (fun r g1 hq => ?_)
      rw [hq.1, hq.2]
      show xW k S 0 0 31 [some (.ref 0), some (.int p1), some (.int p2)] [.int w1.1] w1.2
      refine xgoto A (4) 35 (by decide +kernel) ?_
      obtain rfl := Option.some.inj H
      exact xret_i A hR hz (by decide +kernel) rfl ⟨rfl, rfl⟩
theorem fr_X11_longest_0 {p1 : Int32} {p2 : Int32} {g : xG} (out : Int32 × xG) (H : f_X11_longest_0 p1 p2 g = some out) : xfrm fp_X11_longest_0 g (out.2) := by
  have H : (if (f_X4_isTown_3 p1 g) = 0 then
  some ((-1), g)
else
  if (f_X4_isTown_3 p2 g) = 0 then
    some ((-1), g)
  else
    (f_X7_longestWay_42 p1 p2 g).bind fun w1 =>
    some (w1.1, w1.2)) = some out := H
  by_cases h1 : (f_X4_isTown_3 p1 g) = 0
  · rw [if_pos h1] at H
    obtain rfl := Option.some.inj H
    exact xfrm.rf
  · rw [if_neg h1] at H
    by_cases h2 : (f_X4_isTown_3 p2 g) = 0
    · rw [if_pos h2] at H
      obtain rfl := Option.some.inj H
      exact xfrm.rf
    · rw [if_neg h2] at H
      obtain ⟨w1, e1, H⟩ := xbind H
      have hf1 : xfrm fp_X11_longest_0 g (w1.2) := xfrm.tr xfrm.rf (fr_X7_longestWay_42 _ e1) rfl
      obtain rfl := Option.some.inj H
      exact hf1
