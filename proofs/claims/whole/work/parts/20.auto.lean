/-! methods, walked by program -/
def f_X8_hasRoomForFive_1  (g : xG) : Int32 :=
  if 1980 < (g.1 1 1) then
    0
  else
    1
set_option maxRecDepth 20000 in
theorem c_X8_hasRoomForFive_1 {S : List xSh} (hS : xpf SH1 S) {g : xG}  (out : Int32) (H : f_X8_hasRoomForFive_1  g = out) : xC mX8_hasRoomForFive 0 0 0 0 S [.ref 1] g S (fun r g' => r = some (.int out) ∧ g' = g) := by
  have H : (if 1980 < (g.1 1 1) then
  0
else
  1) = out := H
  refine xC.of 8 SH1 [some (.ref 1)] hS (by decide +kernel) rfl (fun _ _ => Nat.le_of_ble_eq_true rfl) (fun _ _ => rfl) ?_
  intro k A hR hrm hz
  refine xb A [(.aload_n 0, 1, 0, 0, .null), (.getfield 13, 3, 1, 1, .int 0), (.sipush 1980, 3, 0, 0, .int 1980)] (pc' := 7) (ls' := [some (.ref 1)]) (st' := [.int 1980, .int (g.1 1 1)]) (g' := g) (by decide +kernel) rfl ?_
  refine xic_gt A (7) 14 10 (by decide +kernel) (fun h1 => ?_) (fun h1 => ?_)
  · rw [if_pos h1] at H
    refine xb A [(.iconst 0, 1, 0, 0, .int 0)] (pc' := 15) (ls' := [some (.ref 1)]) (st' := [.int 0]) (g' := g) (by decide +kernel) rfl ?_
    subst H
    exact xret_i A hR hz (by decide +kernel) rfl ⟨rfl, rfl⟩
  · rw [if_neg h1] at H
    refine xb A [(.iconst 1, 1, 0, 0, .int 1)] (pc' := 11) (ls' := [some (.ref 1)]) (st' := [.int 1]) (g' := g) (by decide +kernel) rfl ?_
    refine xgoto A (4) 15 (by decide +kernel) ?_
    subst H
    exact xret_i A hR hz (by decide +kernel) rfl ⟨rfl, rfl⟩
def fp_X8_append_1 : List (Nat × Option Nat) := [(1, some 1), (2, none)]
def f_X8_append_1_3  : Nat → Int32 → Int32 → xG → Option (xG)
  | 0, _, _, _ => none
  | n + 1, l1, l2, g =>
    if l2 < 0 then
      some g
    else
      if (g.1 1 1) < 0 then
        f_X8_append_1_3 n l1 (l2 + (-8)) g
      else
        if 2000 ≤ (g.1 1 1) then
          f_X8_append_1_3 n l1 (l2 + (-8)) g
        else
          xg (¬ ((g.1 1 1) < 0 ∨ 2000 ≤ (g.1 1 1).toNatClampNeg)) (
            f_X8_append_1_3 n l1 (l2 + (-8)) (xupd (xupd g.1 2 (g.1 1 1).toNatClampNeg ((((l1.toUInt32 >>> (l2.toUInt32 &&& Int32.toUInt32 31)).toInt32).toInt8.toInt32).toInt8.toInt32)) 1 1 ((g.1 1 1) + 1), g.2))
def f_X8_append_1 (p1 : Int32) (g : xG) : Option (xG) :=
  f_X8_append_1_3 xN p1 24 g
set_option maxRecDepth 20000 in
theorem t_X8_append_1_3 {k : xK} {S : List xSh} {out : xG} (hS : xpf SH1 S) (A : xAt k mX8_append.2.1 8 SH1 S) (hR : xRet k 0 0 S (fun r g' => r = none ∧ g' = out) mX8_append.2.2.2) (hrm : xrm k = { frames := 0, cells := 0, slots := 0, locals := 0 }) (hz : xhs k = xb0 k + S.length)   : ∀ (n : Nat) (l1 : Int32) (l2 : Int32) (g : xG), f_X8_append_1_3 n l1 l2 g = some out → xW k S 0 0 3 [some (.ref 1), some (.int l1), some (.int l2)] [] g := by
  intro n
  induction n with
  | zero => intro l1 l2 g H; exact absurd H (by simp [f_X8_append_1_3])
  | succ n ih =>
    intro l1 l2 g H
    have H : (if l2 < 0 then
  some g
else
  if (g.1 1 1) < 0 then
    f_X8_append_1_3 n l1 (l2 + (-8)) g
  else
    if 2000 ≤ (g.1 1 1) then
      f_X8_append_1_3 n l1 (l2 + (-8)) g
    else
      xg (¬ ((g.1 1 1) < 0 ∨ 2000 ≤ (g.1 1 1).toNatClampNeg)) (
        f_X8_append_1_3 n l1 (l2 + (-8)) (xupd (xupd g.1 2 (g.1 1 1).toNatClampNeg ((((l1.toUInt32 >>> (l2.toUInt32 &&& Int32.toUInt32 31)).toInt32).toInt8.toInt32).toInt8.toInt32)) 1 1 ((g.1 1 1) + 1), g.2))) = some out := H
    refine xb A [(.iload_n 2, 1, 0, 0, .null)] (pc' := 4) (ls' := [some (.ref 1), some (.int l1), some (.int l2)]) (st' := [.int l2]) (g' := g) (by decide +kernel) rfl ?_
    refine xif_lt A (51) 55 7 (by decide +kernel) (fun h1 => ?_) (fun h1 => ?_)
    · rw [if_pos h1] at H
      obtain rfl := Option.some.inj H
      exact xret_v A hR hz (by decide +kernel) ⟨rfl, rfl⟩
    · rw [if_neg h1] at H
      refine xb A [(.aload_n 0, 1, 0, 0, .null), (.getfield 13, 3, 1, 1, .int 0)] (pc' := 11) (ls' := [some (.ref 1), some (.int l1), some (.int l2)]) (st' := [.int (g.1 1 1)]) (g' := g) (by decide +kernel) rfl ?_
      refine xif_lt A (38) 49 14 (by decide +kernel) (fun h2 => ?_) (fun h2 => ?_)
      · rw [if_pos h2] at H
        refine xb A [(.iinc 2 (-8), 3, 0, 0, .null)] (pc' := 52) (ls' := [some (.ref 1), some (.int l1), some (.int (l2 + (-8)))]) (st' := []) (g' := g) (by decide +kernel) rfl ?_
        refine xgoto A (-49) 3 (by decide +kernel) ?_
        exact ih _ _ _ H
      · rw [if_neg h2] at H
        refine xb A [(.aload_n 0, 1, 0, 0, .null), (.getfield 13, 3, 1, 1, .int 0), (.aload_n 0, 1, 0, 0, .null), (.getfield 9, 3, 1, 0, .ref 2), (.arraylength, 1, 2, 0, .int 2000)] (pc' := 23) (ls' := [some (.ref 1), some (.int l1), some (.int l2)]) (st' := [.int 2000, .int (g.1 1 1)]) (g' := g) (by decide +kernel) rfl ?_
        refine xic_ge A (26) 49 26 (by decide +kernel) (fun h3 => ?_) (fun h3 => ?_)
        · rw [if_pos h3] at H
          refine xb A [(.iinc 2 (-8), 3, 0, 0, .null)] (pc' := 52) (ls' := [some (.ref 1), some (.int l1), some (.int (l2 + (-8)))]) (st' := []) (g' := g) (by decide +kernel) rfl ?_
          refine xgoto A (-49) 3 (by decide +kernel) ?_
          exact ih _ _ _ H
        · rw [if_neg h3] at H
          refine xb A [(.aload_n 0, 1, 0, 0, .null), (.getfield 9, 3, 1, 0, .ref 2), (.aload_n 0, 1, 0, 0, .null), (.getfield 13, 3, 1, 1, .int 0), (.iload_n 1, 1, 0, 0, .null), (.iload_n 2, 1, 0, 0, .null), (.iushr, 1, 0, 0, .null), (.i2b, 1, 0, 0, .null)] (pc' := 38) (ls' := [some (.ref 1), some (.int l1), some (.int l2)]) (st' := [.int (((l1.toUInt32 >>> (l2.toUInt32 &&& Int32.toUInt32 31)).toInt32).toInt8.toInt32), .int (g.1 1 1), .ref 2]) (g' := g) (by decide +kernel) rfl ?_
          obtain ⟨h4, H⟩ := xg_elim H
          refine xbast A (nxt := 39) (by decide +kernel) (hS _ _ sh_2) h4 ?_
          show xW k S 0 0 39 [some (.ref 1), some (.int l1), some (.int l2)] [] (xupd g.1 2 (g.1 1 1).toNatClampNeg ((((l1.toUInt32 >>> (l2.toUInt32 &&& Int32.toUInt32 31)).toInt32).toInt8.toInt32).toInt8.toInt32), g.2)
          refine xb A [(.aload_n 0, 1, 0, 0, .null), (.dup, 1, 0, 0, .null), (.getfield 13, 3, 1, 1, .int 0), (.iconst 1, 1, 0, 0, .int 1), (.iadd, 1, 0, 0, .null), (.putfield 13, 3, 1, 1, .int 0), (.iinc 2 (-8), 3, 0, 0, .null)] (pc' := 52) (ls' := [some (.ref 1), some (.int l1), some (.int (l2 + (-8)))]) (st' := []) (g' := (xupd (xupd g.1 2 (g.1 1 1).toNatClampNeg ((((l1.toUInt32 >>> (l2.toUInt32 &&& Int32.toUInt32 31)).toInt32).toInt8.toInt32).toInt8.toInt32)) 1 1 ((g.1 1 1) + 1), g.2)) (by decide +kernel) rfl ?_
          refine xgoto A (-49) 3 (by decide +kernel) ?_
          exact ih _ _ _ H
theorem fr_X8_append_1_3   : ∀ (n : Nat) (l1 : Int32) (l2 : Int32) (g : xG) (out : xG), f_X8_append_1_3 n l1 l2 g = some out → xfrm fp_X8_append_1 g (out) := by
  intro n
  induction n with
  | zero => intro l1 l2 g out H; exact absurd H (by simp [f_X8_append_1_3])
  | succ n ih =>
    intro l1 l2 g out H
    have H : (if l2 < 0 then
  some g
else
  if (g.1 1 1) < 0 then
    f_X8_append_1_3 n l1 (l2 + (-8)) g
  else
    if 2000 ≤ (g.1 1 1) then
      f_X8_append_1_3 n l1 (l2 + (-8)) g
    else
      xg (¬ ((g.1 1 1) < 0 ∨ 2000 ≤ (g.1 1 1).toNatClampNeg)) (
        f_X8_append_1_3 n l1 (l2 + (-8)) (xupd (xupd g.1 2 (g.1 1 1).toNatClampNeg ((((l1.toUInt32 >>> (l2.toUInt32 &&& Int32.toUInt32 31)).toInt32).toInt8.toInt32).toInt8.toInt32)) 1 1 ((g.1 1 1) + 1), g.2))) = some out := H
    by_cases h1 : l2 < 0
    · rw [if_pos h1] at H
      obtain rfl := Option.some.inj H
      exact xfrm.rf
    · rw [if_neg h1] at H
      by_cases h2 : (g.1 1 1) < 0
      · rw [if_pos h2] at H
        exact xfrm.tr xfrm.rf (ih _ _ _ _ H) rfl
      · rw [if_neg h2] at H
        by_cases h3 : 2000 ≤ (g.1 1 1)
        · rw [if_pos h3] at H
          exact xfrm.tr xfrm.rf (ih _ _ _ _ H) rfl
        · rw [if_neg h3] at H
          obtain ⟨h4, H⟩ := xg_elim H
          have hf1 : xfrm fp_X8_append_1 g ((xupd g.1 2 (g.1 1 1).toNatClampNeg ((((l1.toUInt32 >>> (l2.toUInt32 &&& Int32.toUInt32 31)).toInt32).toInt8.toInt32).toInt8.toInt32), g.2)) := xfrm.ua xfrm.rf rfl
          have hf2 : xfrm fp_X8_append_1 g ((xupd (xupd g.1 2 (g.1 1 1).toNatClampNeg ((((l1.toUInt32 >>> (l2.toUInt32 &&& Int32.toUInt32 31)).toInt32).toInt8.toInt32).toInt8.toInt32)) 1 1 ((g.1 1 1) + 1), g.2)) := xfrm.up hf1 rfl
          exact xfrm.tr hf2 (ih _ _ _ _ H) rfl
set_option maxRecDepth 20000 in
theorem c_X8_append_1 {S : List xSh} (hS : xpf SH1 S) {g : xG} {p1 : Int32} (out : xG) (H : f_X8_append_1 p1 g = some out) : xC mX8_append 0 0 0 0 S [.ref 1, .int p1] g S (fun r g' => r = none ∧ g' = out) := by
  have H : (f_X8_append_1_3 xN p1 24 g) = some out := H
  refine xC.of 8 SH1 [some (.ref 1), some (.int p1), none] hS (by decide +kernel) rfl (fun _ _ => Nat.le_of_ble_eq_true rfl) (fun _ _ => rfl) ?_
  intro k A hR hrm hz
  refine xb A [(.bipush 24, 2, 0, 0, .int 24), (.istore_n 2, 1, 0, 0, .null)] (pc' := 3) (ls' := [some (.ref 1), some (.int p1), some (.int 24)]) (st' := []) (g' := g) (by decide +kernel) rfl ?_
  exact t_X8_append_1_3 hS A hR hrm hz _ _ _ _ H
theorem fr_X8_append_1 {p1 : Int32} {g : xG} (out : xG) (H : f_X8_append_1 p1 g = some out) : xfrm fp_X8_append_1 g (out) := by
  have H : (f_X8_append_1_3 xN p1 24 g) = some out := H
  exact xfrm.tr xfrm.rf (fr_X8_append_1_3 _ _ _ _ _ H) rfl
def f_X8_size_1  (g : xG) : Int32 :=
  g.1 1 1
set_option maxRecDepth 20000 in
theorem c_X8_size_1 {S : List xSh} (hS : xpf SH1 S) {g : xG}  (out : Int32) (H : f_X8_size_1  g = out) : xC mX8_size 0 0 0 0 S [.ref 1] g S (fun r g' => r = some (.int out) ∧ g' = g) := by
  have H : (g.1 1 1) = out := H
  refine xC.of 8 SH1 [some (.ref 1)] hS (by decide +kernel) rfl (fun _ _ => Nat.le_of_ble_eq_true rfl) (fun _ _ => rfl) ?_
  intro k A hR hrm hz
  refine xb A [(.aload_n 0, 1, 0, 0, .null), (.getfield 13, 3, 1, 1, .int 0)] (pc' := 4) (ls' := [some (.ref 1)]) (st' := [.int (g.1 1 1)]) (g' := g) (by decide +kernel) rfl ?_
  subst H
  exact xret_i A hR hz (by decide +kernel) rfl ⟨rfl, rfl⟩
def fp_X11_feed_0 : List (Nat × Option Nat) := [(1, some 1), (2, none)]
def f_X11_feed_0 (p1 : Int32) (p2 : Int32) (p3 : Int32) (p4 : Int32) (p5 : Int32) (g : xG) : Option (Int32 × xG) :=
  if (f_X8_hasRoomForFive_1 g) = 0 then
    some ((-1), g)
  else
    (f_X8_append_1 p1 g).bind fun w1 =>
    (f_X8_append_1 p2 w1).bind fun w2 =>
    (f_X8_append_1 p3 w2).bind fun w3 =>
    (f_X8_append_1 p4 w3).bind fun w4 =>
    (f_X8_append_1 p5 w4).bind fun w5 =>
    some (f_X8_size_1 w5, w5)
set_option maxRecDepth 20000 in
theorem c_X11_feed_0 {S : List xSh} (hS : xpf SH1 S) {g : xG} {p1 : Int32} {p2 : Int32} {p3 : Int32} {p4 : Int32} {p5 : Int32} (out : Int32 × xG) (H : f_X11_feed_0 p1 p2 p3 p4 p5 g = some out) : xC mX11_feed 1 22 0 0 S [.ref 0, .int p1, .int p2, .int p3, .int p4, .int p5] g S (fun r g' => r = some (.int out.1) ∧ g' = out.2) := by
  have H : (if (f_X8_hasRoomForFive_1 g) = 0 then
  some ((-1), g)
else
  (f_X8_append_1 p1 g).bind fun w1 =>
  (f_X8_append_1 p2 w1).bind fun w2 =>
  (f_X8_append_1 p3 w2).bind fun w3 =>
  (f_X8_append_1 p4 w3).bind fun w4 =>
  (f_X8_append_1 p5 w4).bind fun w5 =>
  some (f_X8_size_1 w5, w5)) = some out := H
  refine xC.of 11 SH1 [some (.ref 0), some (.int p1), some (.int p2), some (.int p3), some (.int p4), some (.int p5)] hS (by decide +kernel) rfl (fun _ _ => Nat.le_of_ble_eq_true rfl) (fun _ _ => rfl) ?_
  intro k A hR hrm hz
  refine xb A [(.aload_n 0, 1, 0, 0, .null), (.getfield 10, 3, 0, 0, .ref 1)] (pc' := 4) (ls' := [some (.ref 0), some (.int p1), some (.int p2), some (.int p3), some (.int p4), some (.int p5)]) (st' := [.ref 1]) (g' := g) (by decide +kernel) rfl ?_
  refine xcallV A (ix := 104) (nxt := 7) hrm hz [] [] 603 (c_X8_hasRoomForFive_1 hS _ rfl) ok_X8_hasRoomForFive (by decide +kernel) rfl (fun r g1 hq => ?_)
  rw [hq.1, hq.2]
  show xW k S 0 0 7 [some (.ref 0), some (.int p1), some (.int p2), some (.int p3), some (.int p4), some (.int p5)] [.int (f_X8_hasRoomForFive_1 g)] g
  refine xif_ne A (5) 12 10 (by decide +kernel) (fun h1 => ?_) (fun h1 => ?_)
  · rw [if_neg h1] at H
    refine xb A [(.aload_n 0, 1, 0, 0, .null), (.getfield 10, 3, 0, 0, .ref 1), (.iload_n 1, 1, 0, 0, .null)] (pc' := 17) (ls' := [some (.ref 0), some (.int p1), some (.int p2), some (.int p3), some (.int p4), some (.int p5)]) (st' := [.int p1, .ref 1]) (g' := g) (by decide +kernel) rfl ?_
    obtain ⟨w1, e1, H⟩ := xbind H
    refine xcallV A (ix := 108) (nxt := 20) hrm hz [.int p1] [] 607 (c_X8_append_1 hS _ e1) ok_X8_append (by decide +kernel) rfl (fun r g1 hq => ?_)
    rw [hq.1, hq.2]
    show xW k S 0 0 20 [some (.ref 0), some (.int p1), some (.int p2), some (.int p3), some (.int p4), some (.int p5)] [] w1
    refine xb A [(.aload_n 0, 1, 0, 0, .null), (.getfield 10, 3, 0, 0, .ref 1), (.iload_n 2, 1, 0, 0, .null)] (pc' := 25) (ls' := [some (.ref 0), some (.int p1), some (.int p2), some (.int p3), some (.int p4), some (.int p5)]) (st' := [.int p2, .ref 1]) (g' := w1) (by decide +kernel) rfl ?_
    obtain ⟨w2, e2, H⟩ := xbind H
    refine xcallV A (ix := 108) (nxt := 28) hrm hz [.int p2] [] 607 (c_X8_append_1 hS _ e2) ok_X8_append (by decide +kernel) rfl (fun r g1 hq => ?_)
    rw [hq.1, hq.2]
    show xW k S 0 0 28 [some (.ref 0), some (.int p1), some (.int p2), some (.int p3), some (.int p4), some (.int p5)] [] w2
    refine xb A [(.aload_n 0, 1, 0, 0, .null), (.getfield 10, 3, 0, 0, .ref 1), (.iload_n 3, 1, 0, 0, .null)] (pc' := 33) (ls' := [some (.ref 0), some (.int p1), some (.int p2), some (.int p3), some (.int p4), some (.int p5)]) (st' := [.int p3, .ref 1]) (g' := w2) (by decide +kernel) rfl ?_
    obtain ⟨w3, e3, H⟩ := xbind H
    refine xcallV A (ix := 108) (nxt := 36) hrm hz [.int p3] [] 607 (c_X8_append_1 hS _ e3) ok_X8_append (by decide +kernel) rfl (fun r g1 hq => ?_)
    rw [hq.1, hq.2]
    show xW k S 0 0 36 [some (.ref 0), some (.int p1), some (.int p2), some (.int p3), some (.int p4), some (.int p5)] [] w3
    refine xb A [(.aload_n 0, 1, 0, 0, .null), (.getfield 10, 3, 0, 0, .ref 1), (.iload 4, 2, 0, 0, .null)] (pc' := 42) (ls' := [some (.ref 0), some (.int p1), some (.int p2), some (.int p3), some (.int p4), some (.int p5)]) (st' := [.int p4, .ref 1]) (g' := w3) (by decide +kernel) rfl ?_
    obtain ⟨w4, e4, H⟩ := xbind H
    refine xcallV A (ix := 108) (nxt := 45) hrm hz [.int p4] [] 607 (c_X8_append_1 hS _ e4) ok_X8_append (by decide +kernel) rfl (fun r g1 hq => ?_)
    rw [hq.1, hq.2]
    show xW k S 0 0 45 [some (.ref 0), some (.int p1), some (.int p2), some (.int p3), some (.int p4), some (.int p5)] [] w4
    refine xb A [(.aload_n 0, 1, 0, 0, .null), (.getfield 10, 3, 0, 0, .ref 1), (.iload 5, 2, 0, 0, .null)] (pc' := 51) (ls' := [some (.ref 0), some (.int p1), some (.int p2), some (.int p3), some (.int p4), some (.int p5)]) (st' := [.int p5, .ref 1]) (g' := w4) (by decide +kernel) rfl ?_
    obtain ⟨w5, e5, H⟩ := xbind H
    refine xcallV A (ix := 108) (nxt := 54) hrm hz [.int p5] [] 607 (c_X8_append_1 hS _ e5) ok_X8_append (by decide +kernel) rfl (fun r g1 hq => ?_)
    rw [hq.1, hq.2]
    show xW k S 0 0 54 [some (.ref 0), some (.int p1), some (.int p2), some (.int p3), some (.int p4), some (.int p5)] [] w5
    refine xb A [(.aload_n 0, 1, 0, 0, .null), (.getfield 10, 3, 0, 0, .ref 1)] (pc' := 58) (ls' := [some (.ref 0), some (.int p1), some (.int p2), some (.int p3), some (.int p4), some (.int p5)]) (st' := [.ref 1]) (g' := w5) (by decide +kernel) rfl ?_
    refine xcallV A (ix := 111) (nxt := 61) hrm hz [] [] 611 (c_X8_size_1 hS _ rfl) ok_X8_size (by decide +kernel) rfl (fun r g1 hq => ?_)
    rw [hq.1, hq.2]
    show xW k S 0 0 61 [some (.ref 0), some (.int p1), some (.int p2), some (.int p3), some (.int p4), some (.int p5)] [.int (f_X8_size_1 w5)] w5
    obtain rfl := Option.some.inj H
    exact xret_i A hR hz (by decide +kernel) rfl ⟨rfl, rfl⟩
  · rw [if_pos h1] at H
    refine xb A [(.iconst (-1), 1, 0, 0, .int (-1))] (pc' := 11) (ls' := [some (.ref 0), some (.int p1), some (.int p2), some (.int p3), some (.int p4), some (.int p5)]) (st' := [.int (-1)]) (g' := g) (by decide +kernel) rfl ?_
    obtain rfl := Option.some.inj H
    exact xret_i A hR hz (by decide +kernel) rfl ⟨rfl, rfl⟩
theorem fr_X11_feed_0 {p1 : Int32} {p2 : Int32} {p3 : Int32} {p4 : Int32} {p5 : Int32} {g : xG} (out : Int32 × xG) (H : f_X11_feed_0 p1 p2 p3 p4 p5 g = some out) : xfrm fp_X11_feed_0 g (out.2) := by
  have H : (if (f_X8_hasRoomForFive_1 g) = 0 then
  some ((-1), g)
else
  (f_X8_append_1 p1 g).bind fun w1 =>
  (f_X8_append_1 p2 w1).bind fun w2 =>
  (f_X8_append_1 p3 w2).bind fun w3 =>
  (f_X8_append_1 p4 w3).bind fun w4 =>
  (f_X8_append_1 p5 w4).bind fun w5 =>
  some (f_X8_size_1 w5, w5)) = some out := H
  by_cases h1 : (f_X8_hasRoomForFive_1 g) = 0
  · rw [if_pos h1] at H
    obtain rfl := Option.some.inj H
    exact xfrm.rf
  · rw [if_neg h1] at H
    obtain ⟨w1, e1, H⟩ := xbind H
    have hf1 : xfrm fp_X11_feed_0 g (w1) := xfrm.tr xfrm.rf (fr_X8_append_1 _ e1) rfl
    obtain ⟨w2, e2, H⟩ := xbind H
    have hf2 : xfrm fp_X11_feed_0 g (w2) := xfrm.tr hf1 (fr_X8_append_1 _ e2) rfl
    obtain ⟨w3, e3, H⟩ := xbind H
    have hf3 : xfrm fp_X11_feed_0 g (w3) := xfrm.tr hf2 (fr_X8_append_1 _ e3) rfl
    obtain ⟨w4, e4, H⟩ := xbind H
    have hf4 : xfrm fp_X11_feed_0 g (w4) := xfrm.tr hf3 (fr_X8_append_1 _ e4) rfl
    obtain ⟨w5, e5, H⟩ := xbind H
    have hf5 : xfrm fp_X11_feed_0 g (w5) := xfrm.tr hf4 (fr_X8_append_1 _ e5) rfl
    obtain rfl := Option.some.inj H
    exact hf5
def fp_X8_cut_1 : List (Nat × Option Nat) := [(1, some 1)]
def f_X8_cut_1 (p1 : Int32) (g : xG) : Int32 × xG :=
  if p1 < 0 then
    (0, g)
  else
    if p1 ≤ (g.1 1 1) then
      (1, (xupd g.1 1 1 ((g.1 1 1) - p1), g.2))
    else
      (0, g)
set_option maxRecDepth 20000 in
theorem c_X8_cut_1 {S : List xSh} (hS : xpf SH1 S) {g : xG} {p1 : Int32} (out : Int32 × xG) (H : f_X8_cut_1 p1 g = out) : xC mX8_cut 0 0 0 0 S [.ref 1, .int p1] g S (fun r g' => r = some (.int out.1) ∧ g' = out.2) := by
  have H : (if p1 < 0 then
  (0, g)
else
  if p1 ≤ (g.1 1 1) then
    (1, (xupd g.1 1 1 ((g.1 1 1) - p1), g.2))
  else
    (0, g)) = out := H
  refine xC.of 8 SH1 [some (.ref 1), some (.int p1)] hS (by decide +kernel) rfl (fun _ _ => Nat.le_of_ble_eq_true rfl) (fun _ _ => rfl) ?_
  intro k A hR hrm hz
  refine xb A [(.iload_n 1, 1, 0, 0, .null)] (pc' := 1) (ls' := [some (.ref 1), some (.int p1)]) (st' := [.int p1]) (g' := g) (by decide +kernel) rfl ?_
  refine xif_lt A (11) 12 4 (by decide +kernel) (fun h1 => ?_) (fun h1 => ?_)
  · rw [if_pos h1] at H
    refine xb A [(.iconst 0, 1, 0, 0, .int 0)] (pc' := 13) (ls' := [some (.ref 1), some (.int p1)]) (st' := [.int 0]) (g' := g) (by decide +kernel) rfl ?_
    subst H
    exact xret_i A hR hz (by decide +kernel) rfl ⟨rfl, rfl⟩
  · rw [if_neg h1] at H
    refine xb A [(.iload_n 1, 1, 0, 0, .null), (.aload_n 0, 1, 0, 0, .null), (.getfield 13, 3, 1, 1, .int 0)] (pc' := 9) (ls' := [some (.ref 1), some (.int p1)]) (st' := [.int (g.1 1 1), .int p1]) (g' := g) (by decide +kernel) rfl ?_
    refine xic_le A (5) 14 12 (by decide +kernel) (fun h2 => ?_) (fun h2 => ?_)
    · rw [if_pos h2] at H
      refine xb A [(.aload_n 0, 1, 0, 0, .null), (.dup, 1, 0, 0, .null), (.getfield 13, 3, 1, 1, .int 0), (.iload_n 1, 1, 0, 0, .null), (.isub, 1, 0, 0, .null), (.putfield 13, 3, 1, 1, .int 0), (.iconst 1, 1, 0, 0, .int 1)] (pc' := 25) (ls' := [some (.ref 1), some (.int p1)]) (st' := [.int 1]) (g' := (xupd g.1 1 1 ((g.1 1 1) - p1), g.2)) (by decide +kernel) rfl ?_
      subst H
      exact xret_i A hR hz (by decide +kernel) rfl ⟨rfl, rfl⟩
    · rw [if_neg h2] at H
      refine xb A [(.iconst 0, 1, 0, 0, .int 0)] (pc' := 13) (ls' := [some (.ref 1), some (.int p1)]) (st' := [.int 0]) (g' := g) (by decide +kernel) rfl ?_
      subst H
      exact xret_i A hR hz (by decide +kernel) rfl ⟨rfl, rfl⟩
theorem fr_X8_cut_1 {p1 : Int32} {g : xG} (out : Int32 × xG) (H : f_X8_cut_1 p1 g = out) : xfrm fp_X8_cut_1 g (out.2) := by
  have H : (if p1 < 0 then
  (0, g)
else
  if p1 ≤ (g.1 1 1) then
    (1, (xupd g.1 1 1 ((g.1 1 1) - p1), g.2))
  else
    (0, g)) = out := H
  by_cases h1 : p1 < 0
  · rw [if_pos h1] at H
    subst H
    exact xfrm.rf
  · rw [if_neg h1] at H
    by_cases h2 : p1 ≤ (g.1 1 1)
    · rw [if_pos h2] at H
      have hf1 : xfrm fp_X8_cut_1 g ((xupd g.1 1 1 ((g.1 1 1) - p1), g.2)) := xfrm.up xfrm.rf rfl
      subst H
      exact hf1
    · rw [if_neg h2] at H
      subst H
      exact xfrm.rf
def fp_X11_back_0 : List (Nat × Option Nat) := [(1, some 1)]
def f_X11_back_0 (p1 : Int32) (g : xG) : Int32 × xG :=
  xl (f_X8_cut_1 p1 g) fun w1 =>
  if w1.1 = 0 then
    ((-1), w1.2)
  else
    (f_X8_size_1 w1.2, w1.2)
set_option maxRecDepth 20000 in
theorem c_X11_back_0 {S : List xSh} (hS : xpf SH1 S) {g : xG} {p1 : Int32} (out : Int32 × xG) (H : f_X11_back_0 p1 g = out) : xC mX11_back 1 21 0 0 S [.ref 0, .int p1] g S (fun r g' => r = some (.int out.1) ∧ g' = out.2) := by
  have H : (xl (f_X8_cut_1 p1 g) fun w1 =>
if w1.1 = 0 then
  ((-1), w1.2)
else
  (f_X8_size_1 w1.2, w1.2)) = out := H
  refine xC.of 11 SH1 [some (.ref 0), some (.int p1)] hS (by decide +kernel) rfl (fun _ _ => Nat.le_of_ble_eq_true rfl) (fun _ _ => rfl) ?_
  intro k A hR hrm hz
  refine xb A [(.aload_n 0, 1, 0, 0, .null), (.getfield 10, 3, 0, 0, .ref 1), (.iload_n 1, 1, 0, 0, .null)] (pc' := 5) (ls' := [some (.ref 0), some (.int p1)]) (st' := [.int p1, .ref 1]) (g' := g) (by decide +kernel) rfl ?_
  obtain ⟨w1, e1, H⟩ := xl_elim H
  refine xcallV A (ix := 115) (nxt := 8) hrm hz [.int p1] [] 619 (c_X8_cut_1 hS _ e1) ok_X8_cut (by decide +kernel) rfl (fun r g1 hq => ?_)
  rw [hq.1, hq.2]
  show xW k S 0 0 8 [some (.ref 0), some (.int p1)] [.int w1.1] w1.2
  refine xif_eq A (13) 21 11 (by decide +kernel) (fun h1 => ?_) (fun h1 => ?_)
  · rw [if_pos h1] at H
    refine xb A [(.iconst (-1), 1, 0, 0, .int (-1))] (pc' := 22) (ls' := [some (.ref 0), some (.int p1)]) (st' := [.int (-1)]) (g' := w1.2) (by decide +kernel) rfl ?_
    subst H
    exact xret_i A hR hz (by decide +kernel) rfl ⟨rfl, rfl⟩
  · rw [if_neg h1] at H
    refine xb A [(.aload_n 0, 1, 0, 0, .null), (.getfield 10, 3, 0, 0, .ref 1)] (pc' := 15) (ls' := [some (.ref 0), some (.int p1)]) (st' := [.ref 1]) (g' := w1.2) (by decide +kernel) rfl ?_
    refine xcallV A (ix := 111) (nxt := 18) hrm hz [] [] 611 (c_X8_size_1 hS _ rfl) ok_X8_size (by decide +kernel) rfl (fun r g1 hq => ?_)
    rw [hq.1, hq.2]
    show xW k S 0 0 18 [some (.ref 0), some (.int p1)] [.int (f_X8_size_1 w1.2)] w1.2
    refine xgoto A (4) 22 (by decide +kernel) ?_
    subst H
    exact xret_i A hR hz (by decide +kernel) rfl ⟨rfl, rfl⟩
theorem fr_X11_back_0 {p1 : Int32} {g : xG} (out : Int32 × xG) (H : f_X11_back_0 p1 g = out) : xfrm fp_X11_back_0 g (out.2) := by
  have H : (xl (f_X8_cut_1 p1 g) fun w1 =>
if w1.1 = 0 then
  ((-1), w1.2)
else
  (f_X8_size_1 w1.2, w1.2)) = out := H
  obtain ⟨w1, e1, H⟩ := xl_elim H
  have hf1 : xfrm fp_X11_back_0 g (w1.2) := xfrm.tr xfrm.rf (fr_X8_cut_1 _ e1) rfl
  by_cases h1 : w1.1 = 0
  · rw [if_pos h1] at H
    subst H
    exact hf1
  · rw [if_neg h1] at H
    subst H
    exact hf1
theorem c_X3_draft_17 {S : List xSh} (hS : xpf SH1 S) {g : xG}  : xC mX3_draft 0 0 0 0 S [.ref 17] g S (fun r g' => r = some (.ref 23) ∧ g' = g) := by
  refine xC.of 3 SH1 [some (.ref 17)] hS (by decide +kernel) rfl (fun _ _ => Nat.le_of_ble_eq_true rfl) (fun _ _ => rfl) ?_
  intro k A hR hrm hz
  refine xb A [(.aload_n 0, 1, 0, 0, .null), (.getfield 21, 3, 17, 2, .ref 23)] (pc' := 4) (ls' := [some (.ref 17)]) (st' := [.ref 23]) (g' := g) (by decide +kernel) rfl ?_
  exact xret_a A hR hz (by decide +kernel) ⟨rfl, rfl⟩
def f_X8_byteAt_1 (p1 : Int32) (g : xG) : Option (Int32) :=
  if p1 < 0 then
    some 0
  else
    if 2000 ≤ p1 then
      some 0
    else
      xg (¬ (p1 < 0 ∨ 2000 ≤ p1.toNatClampNeg)) (
        some ((g.1 2 p1.toNatClampNeg) &&& 255))
set_option maxRecDepth 20000 in
theorem c_X8_byteAt_1 {S : List xSh} (hS : xpf SH1 S) {g : xG} {p1 : Int32} (out : Int32) (H : f_X8_byteAt_1 p1 g = some out) : xC mX8_byteAt 0 0 0 0 S [.ref 1, .int p1] g S (fun r g' => r = some (.int out) ∧ g' = g) := by
  have H : (if p1 < 0 then
  some 0
else
  if 2000 ≤ p1 then
    some 0
  else
    xg (¬ (p1 < 0 ∨ 2000 ≤ p1.toNatClampNeg)) (
      some ((g.1 2 p1.toNatClampNeg) &&& 255))) = some out := H
  refine xC.of 8 SH1 [some (.ref 1), some (.int p1)] hS (by decide +kernel) rfl (fun _ _ => Nat.le_of_ble_eq_true rfl) (fun _ _ => rfl) ?_
  intro k A hR hrm hz
  refine xb A [(.iload_n 1, 1, 0, 0, .null)] (pc' := 1) (ls' := [some (.ref 1), some (.int p1)]) (st' := [.int p1]) (g' := g) (by decide +kernel) rfl ?_
  refine xif_lt A (25) 26 4 (by decide +kernel) (fun h1 => ?_) (fun h1 => ?_)
  · rw [if_pos h1] at H
    refine xb A [(.iconst 0, 1, 0, 0, .int 0)] (pc' := 27) (ls' := [some (.ref 1), some (.int p1)]) (st' := [.int 0]) (g' := g) (by decide +kernel) rfl ?_
    obtain rfl := Option.some.inj H
    exact xret_i A hR hz (by decide +kernel) rfl ⟨rfl, rfl⟩
  · rw [if_neg h1] at H
    refine xb A [(.iload_n 1, 1, 0, 0, .null), (.aload_n 0, 1, 0, 0, .null), (.getfield 9, 3, 1, 0, .ref 2), (.arraylength, 1, 2, 0, .int 2000)] (pc' := 10) (ls' := [some (.ref 1), some (.int p1)]) (st' := [.int 2000, .int p1]) (g' := g) (by decide +kernel) rfl ?_
    refine xic_ge A (16) 26 13 (by decide +kernel) (fun h2 => ?_) (fun h2 => ?_)
    · rw [if_pos h2] at H
      refine xb A [(.iconst 0, 1, 0, 0, .int 0)] (pc' := 27) (ls' := [some (.ref 1), some (.int p1)]) (st' := [.int 0]) (g' := g) (by decide +kernel) rfl ?_
      obtain rfl := Option.some.inj H
      exact xret_i A hR hz (by decide +kernel) rfl ⟨rfl, rfl⟩
    · rw [if_neg h2] at H
      refine xb A [(.aload_n 0, 1, 0, 0, .null), (.getfield 9, 3, 1, 0, .ref 2), (.iload_n 1, 1, 0, 0, .null)] (pc' := 18) (ls' := [some (.ref 1), some (.int p1)]) (st' := [.int p1, .ref 2]) (g' := g) (by decide +kernel) rfl ?_
      obtain ⟨h3, H⟩ := xg_elim H
      refine xbald A (nxt := 19) (by decide +kernel) (hS _ _ sh_2) h3 ?_
      show xW k S 0 0 19 [some (.ref 1), some (.int p1)] [.int (g.1 2 p1.toNatClampNeg)] g
      refine xb A [(.sipush 255, 3, 0, 0, .int 255), (.iand, 1, 0, 0, .null)] (pc' := 23) (ls' := [some (.ref 1), some (.int p1)]) (st' := [.int ((g.1 2 p1.toNatClampNeg) &&& 255)]) (g' := g) (by decide +kernel) rfl ?_
      refine xgoto A (4) 27 (by decide +kernel) ?_
      obtain rfl := Option.some.inj H
      exact xret_i A hR hz (by decide +kernel) rfl ⟨rfl, rfl⟩
def fp_X9_begin_18 : List (Nat × Option Nat) := [(18, some 4), (19, none), (20, none), (21, none)]
def f_X9_begin_18 (p1 : Int32) (p2 : Int32) (g : xG) : xG :=
  xl (xput g 19 402 (g.1 18 4) p1) fun w1 =>
  xl (xput w1 20 402 (w1.1 18 4) p2) fun w2 =>
  xl (xlput w2 21 402 (w2.1 18 4) 0) fun w3 =>
  (xupd w3.1 18 4 ((w3.1 18 4) + 1), w3.2)
set_option maxRecDepth 20000 in
theorem c_X9_begin_18 {S : List xSh} (hS : xpf SH1 S) {g : xG} {p1 : Int32} {p2 : Int32} (out : xG) (H : f_X9_begin_18 p1 p2 g = out) : xC mX9_begin 1 23 0 0 S [.ref 18, .int p1, .int p2] g S (fun r g' => r = none ∧ g' = out) := by
  have H : (xl (xput g 19 402 (g.1 18 4) p1) fun w1 =>
xl (xput w1 20 402 (w1.1 18 4) p2) fun w2 =>
xl (xlput w2 21 402 (w2.1 18 4) 0) fun w3 =>
(xupd w3.1 18 4 ((w3.1 18 4) + 1), w3.2)) = out := H
  refine xC.of 9 SH1 [some (.ref 18), some (.int p1), some (.int p2)] hS (by decide +kernel) rfl (fun _ _ => Nat.le_of_ble_eq_true rfl) (fun _ _ => rfl) ?_
  intro k A hR hrm hz
  refine xb A [(.aload_n 0, 1, 0, 0, .null), (.getfield 9, 3, 18, 0, .ref 19), (.aload_n 0, 1, 0, 0, .null), (.getfield 47, 3, 18, 4, .int 0), (.iload_n 1, 1, 0, 0, .null)] (pc' := 9) (ls' := [some (.ref 18), some (.int p1), some (.int p2)]) (st' := [.int p1, .int (g.1 18 4), .ref 19]) (g' := g) (by decide +kernel) rfl ?_
  obtain ⟨w1, e1, H⟩ := xl_elim H
  refine xcallSN A (ix := 93) (nxt := 12) (host := "NoonRinger") hrm hz [.ref 19, .int (g.1 18 4), .int p1] [] 13 (c_X11_put (hS _ _ sh_19) (by decide)) ok_X11_put (by decide +kernel) rfl (fun r g1 hq => ?_)
  rw [hq.1, hq.2]
  rw [e1]
  show xW k S 0 0 12 [some (.ref 18), some (.int p1), some (.int p2)] [] w1
  refine xb A [(.aload_n 0, 1, 0, 0, .null), (.getfield 13, 3, 18, 1, .ref 20), (.aload_n 0, 1, 0, 0, .null), (.getfield 47, 3, 18, 4, .int 0), (.iload_n 2, 1, 0, 0, .null)] (pc' := 21) (ls' := [some (.ref 18), some (.int p1), some (.int p2)]) (st' := [.int p2, .int (w1.1 18 4), .ref 20]) (g' := w1) (by decide +kernel) rfl ?_
  obtain ⟨w2, e2, H⟩ := xl_elim H
  refine xcallSN A (ix := 93) (nxt := 24) (host := "NoonRinger") hrm hz [.ref 20, .int (w1.1 18 4), .int p2] [] 13 (c_X11_put (hS _ _ sh_20) (by decide)) ok_X11_put (by decide +kernel) rfl (fun r g1 hq => ?_)
  rw [hq.1, hq.2]
  rw [e2]
  show xW k S 0 0 24 [some (.ref 18), some (.int p1), some (.int p2)] [] w2
  refine xb A [(.aload_n 0, 1, 0, 0, .null), (.getfield 16, 3, 18, 2, .ref 21), (.aload_n 0, 1, 0, 0, .null), (.getfield 47, 3, 18, 4, .int 0), (.lconst 0, 1, 0, 0, .long 0)] (pc' := 33) (ls' := [some (.ref 18), some (.int p1), some (.int p2)]) (st' := [.long 0, .int (w2.1 18 4), .ref 21]) (g' := w2) (by decide +kernel) rfl ?_
  obtain ⟨w3, e3, H⟩ := xl_elim H
  refine xcallSN A (ix := 35) (nxt := 36) (host := "NoonRinger") hrm hz [.ref 21, .int (w2.1 18 4), .long 0] [] 3 (c_X11_putLong (hS _ _ sh_21) (by decide)) ok_X11_putLong (by decide +kernel) rfl (fun r g1 hq => ?_)
  rw [hq.1, hq.2]
  rw [e3]
  show xW k S 0 0 36 [some (.ref 18), some (.int p1), some (.int p2)] [] w3
  refine xb A [(.aload_n 0, 1, 0, 0, .null), (.dup, 1, 0, 0, .null), (.getfield 47, 3, 18, 4, .int 0), (.iconst 1, 1, 0, 0, .int 1), (.iadd, 1, 0, 0, .null), (.putfield 47, 3, 18, 4, .int 0)] (pc' := 46) (ls' := [some (.ref 18), some (.int p1), some (.int p2)]) (st' := []) (g' := (xupd w3.1 18 4 ((w3.1 18 4) + 1), w3.2)) (by decide +kernel) rfl ?_
  subst H
  exact xret_v A hR hz (by decide +kernel) ⟨rfl, rfl⟩
theorem fr_X9_begin_18 {p1 : Int32} {p2 : Int32} {g : xG} (out : xG) (H : f_X9_begin_18 p1 p2 g = out) : xfrm fp_X9_begin_18 g (out) := by
  have H : (xl (xput g 19 402 (g.1 18 4) p1) fun w1 =>
xl (xput w1 20 402 (w1.1 18 4) p2) fun w2 =>
xl (xlput w2 21 402 (w2.1 18 4) 0) fun w3 =>
(xupd w3.1 18 4 ((w3.1 18 4) + 1), w3.2)) = out := H
  obtain ⟨w1, e1, H⟩ := xl_elim H
  have hf1 : xfrm fp_X9_begin_18 g (w1) := xfrm_xput xfrm.rf rfl e1
  obtain ⟨w2, e2, H⟩ := xl_elim H
  have hf2 : xfrm fp_X9_begin_18 g (w2) := xfrm_xput hf1 rfl e2
  obtain ⟨w3, e3, H⟩ := xl_elim H
  have hf3 : xfrm fp_X9_begin_18 g (w3) := xfrm_xlput hf2 rfl e3
  have hf4 : xfrm fp_X9_begin_18 g ((xupd w3.1 18 4 ((w3.1 18 4) + 1), w3.2)) := xfrm.up hf3 rfl
  subst H
  exact hf4
def f_X9_startOf_18 (p1 : Int32) (g : xG) : Int32 :=
  if (g.1 18 4) ≤ p1 then
    g.1 18 5
  else
    xat g 20 402 p1
set_option maxRecDepth 20000 in
theorem c_X9_startOf_18 {S : List xSh} (hS : xpf SH1 S) {g : xG} {p1 : Int32} (out : Int32) (H : f_X9_startOf_18 p1 g = out) : xC mX9_startOf 1 21 0 0 S [.ref 18, .int p1] g S (fun r g' => r = some (.int out) ∧ g' = g) := by
  have H : (if (g.1 18 4) ≤ p1 then
  g.1 18 5
else
  xat g 20 402 p1) = out := H
  refine xC.of 9 SH1 [some (.ref 18), some (.int p1)] hS (by decide +kernel) rfl (fun _ _ => Nat.le_of_ble_eq_true rfl) (fun _ _ => rfl) ?_
  intro k A hR hrm hz
  refine xb A [(.iload_n 1, 1, 0, 0, .null), (.aload_n 0, 1, 0, 0, .null), (.getfield 47, 3, 18, 4, .int 0)] (pc' := 5) (ls' := [some (.ref 18), some (.int p1)]) (st' := [.int (g.1 18 4), .int p1]) (g' := g) (by decide +kernel) rfl ?_
  refine xic_ge A (14) 19 8 (by decide +kernel) (fun h1 => ?_) (fun h1 => ?_)
  · rw [if_pos h1] at H
    refine xb A [(.aload_n 0, 1, 0, 0, .null), (.getfield 55, 3, 18, 5, .int 0)] (pc' := 23) (ls' := [some (.ref 18), some (.int p1)]) (st' := [.int (g.1 18 5)]) (g' := g) (by decide +kernel) rfl ?_
    subst H
    exact xret_i A hR hz (by decide +kernel) rfl ⟨rfl, rfl⟩
  · rw [if_neg h1] at H
    refine xb A [(.aload_n 0, 1, 0, 0, .null), (.getfield 13, 3, 18, 1, .ref 20), (.iload_n 1, 1, 0, 0, .null)] (pc' := 13) (ls' := [some (.ref 18), some (.int p1)]) (st' := [.int p1, .ref 20]) (g' := g) (by decide +kernel) rfl ?_
    refine xcallSN A (ix := 51) (nxt := 16) (host := "NoonRinger") hrm hz [.ref 20, .int p1] [] 14 (c_X11_at (hS _ _ sh_20) (by decide)) ok_X11_at (by decide +kernel) rfl (fun r g1 hq => ?_)
    rw [hq.1, hq.2]
    show xW k S 0 0 16 [some (.ref 18), some (.int p1)] [.int (xat g 20 402 p1)] g
    refine xgoto A (7) 23 (by decide +kernel) ?_
    subst H
    exact xret_i A hR hz (by decide +kernel) rfl ⟨rfl, rfl⟩
def f_X9_valueOf_18 (p1 : Int32) (g : xG) : Int64 :=
  if (g.1 18 4) ≤ p1 then
    0
  else
    xlat g 21 402 p1
set_option maxRecDepth 20000 in
theorem c_X9_valueOf_18 {S : List xSh} (hS : xpf SH1 S) {g : xG} {p1 : Int32} (out : Int64) (H : f_X9_valueOf_18 p1 g = out) : xC mX9_valueOf 1 21 0 0 S [.ref 18, .int p1] g S (fun r g' => r = some (.long out) ∧ g' = g) := by
  have H : (if (g.1 18 4) ≤ p1 then
  0
else
  xlat g 21 402 p1) = out := H
  refine xC.of 9 SH1 [some (.ref 18), some (.int p1)] hS (by decide +kernel) rfl (fun _ _ => Nat.le_of_ble_eq_true rfl) (fun _ _ => rfl) ?_
  intro k A hR hrm hz
  refine xb A [(.iload_n 1, 1, 0, 0, .null), (.aload_n 0, 1, 0, 0, .null), (.getfield 47, 3, 18, 4, .int 0)] (pc' := 5) (ls' := [some (.ref 18), some (.int p1)]) (st' := [.int (g.1 18 4), .int p1]) (g' := g) (by decide +kernel) rfl ?_
  refine xic_ge A (14) 19 8 (by decide +kernel) (fun h1 => ?_) (fun h1 => ?_)
  · rw [if_pos h1] at H
    refine xb A [(.lconst 0, 1, 0, 0, .long 0)] (pc' := 20) (ls' := [some (.ref 18), some (.int p1)]) (st' := [.long 0]) (g' := g) (by decide +kernel) rfl ?_
    subst H
    exact xret_l A hR hz (by decide +kernel) ⟨rfl, rfl⟩
  · rw [if_neg h1] at H
    refine xb A [(.aload_n 0, 1, 0, 0, .null), (.getfield 16, 3, 18, 2, .ref 21), (.iload_n 1, 1, 0, 0, .null)] (pc' := 13) (ls' := [some (.ref 18), some (.int p1)]) (st' := [.int p1, .ref 21]) (g' := g) (by decide +kernel) rfl ?_
    refine xcallSN A (ix := 58) (nxt := 16) (host := "NoonRinger") hrm hz [.ref 21, .int p1] [] 15 (c_X11_longAt (hS _ _ sh_21) (by decide)) ok_X11_longAt (by decide +kernel) rfl (fun r g1 hq => ?_)
    rw [hq.1, hq.2]
    show xW k S 0 0 16 [some (.ref 18), some (.int p1)] [.long (xlat g 21 402 p1)] g
    refine xgoto A (4) 20 (by decide +kernel) ?_
    subst H
    exact xret_l A hR hz (by decide +kernel) ⟨rfl, rfl⟩
def fp_X9_grow_18 : List (Nat × Option Nat) := [(19, none), (21, none)]
def f_X9_grow_18_33  (l1 : Int32) (l2 : Int32) (l4 : Int32) (s0 : Int32) (s1 : Int32) (g : xG) : xG :=
  if s1 ≤ s0 then
    if l1 = 2 then
      xl (xlput g 21 402 l4 (f_X9_withLetter (f_X9_valueOf_18 l4 g) l2)) fun w2 =>
      w2
    else
      xl (xlput g 21 402 l4 (((f_X9_valueOf_18 l4 g) * 10) + ((l2 - 48).toInt64))) fun w1 =>
      w1
  else
    xl (xput g 19 402 l4 1) fun w3 =>
    w3
def f_X9_grow_18 (p1 : Int32) (p2 : Int32) (p3 : Int32) (g : xG) : xG :=
  if p1 = 2 then
    f_X9_grow_18_33 p1 p2 ((g.1 18 4) - 1) 8 ((p3 - (f_X9_startOf_18 ((g.1 18 4) - 1) g)) + 1) g
  else
    f_X9_grow_18_33 p1 p2 ((g.1 18 4) - 1) 4 ((p3 - (f_X9_startOf_18 ((g.1 18 4) - 1) g)) + 1) g
set_option maxRecDepth 20000 in
theorem t_X9_grow_18_33 {k : xK} {S : List xSh} {out : xG} (hS : xpf SH1 S) (A : xAt k mX9_grow.2.1 9 SH1 S) (hR : xRet k 0 0 S (fun r g' => r = none ∧ g' = out) mX9_grow.2.2.2) (hrm : xrm k = { frames := 2, cells := 0, slots := 0, locals := 42 }) (hz : xhs k = xb0 k + S.length)   : ∀ (l1 : Int32) (l2 : Int32) (l4 : Int32) (s0 : Int32) (s1 : Int32) (g : xG), f_X9_grow_18_33 l1 l2 l4 s0 s1 g = out → xW k S 0 0 33 [some (.ref 18), some (.int l1), some (.int l2), none, some (.int l4), none, none, none] [.int s0, .int s1] g := by
  intro l1 l2 l4 s0 s1 g H
  have H : (if s1 ≤ s0 then
  if l1 = 2 then
    xl (xlput g 21 402 l4 (f_X9_withLetter (f_X9_valueOf_18 l4 g) l2)) fun w2 =>
    w2
  else
    xl (xlput g 21 402 l4 (((f_X9_valueOf_18 l4 g) * 10) + ((l2 - 48).toInt64))) fun w1 =>
    w1
else
  xl (xput g 19 402 l4 1) fun w3 =>
  w3) = out := H
  refine xic_le A (14) 47 36 (by decide +kernel) (fun h2 => ?_) (fun h2 => ?_)
  · rw [if_pos h2] at H
    refine xb A [(.iload_n 1, 1, 0, 0, .null), (.iconst 2, 1, 0, 0, .int 2)] (pc' := 49) (ls' := [some (.ref 18), some (.int l1), some (.int l2), none, some (.int l4), none, none, none]) (st' := [.int 2, .int l1]) (g' := g) (by decide +kernel) rfl ?_
    refine xic_ne A (16) 65 52 (by decide +kernel) (fun h3 => ?_) (fun h3 => ?_)
    · rw [if_neg h3] at H
      refine xb A [(.aload_n 0, 1, 0, 0, .null), (.iload 4, 2, 0, 0, .null)] (pc' := 68) (ls' := [some (.ref 18), some (.int l1), some (.int l2), none, some (.int l4), none, none, none]) (st' := [.int l4, .ref 18]) (g' := g) (by decide +kernel) rfl ?_
      refine xcallV A (ix := 85) (nxt := 71) hrm hz [.int l4] [] 715 (c_X9_valueOf_18 hS _ rfl) ok_X9_valueOf (by decide +kernel) rfl (fun r g1 hq => ?_)
      rw [hq.1, hq.2]
      show xW k S 0 0 71 [some (.ref 18), some (.int l1), some (.int l2), none, some (.int l4), none, none, none] [.long (f_X9_valueOf_18 l4 g)] g
      refine xb A [(.ldc2_w 105, 3, 0, 0, .long 10), (.lmul, 1, 0, 0, .null), (.iload_n 2, 1, 0, 0, .null), (.bipush 48, 2, 0, 0, .int 48), (.isub, 1, 0, 0, .null), (.i2l, 1, 0, 0, .null), (.ladd, 1, 0, 0, .null), (.lstore 6, 2, 0, 0, .null), (.aload_n 0, 1, 0, 0, .null), (.getfield 16, 3, 18, 2, .ref 21), (.iload 4, 2, 0, 0, .null), (.lload 6, 2, 0, 0, .null)] (pc' := 91) (ls' := [some (.ref 18), some (.int l1), some (.int l2), none, some (.int l4), none, some (.long (((f_X9_valueOf_18 l4 g) * 10) + ((l2 - 48).toInt64))), none]) (st' := [.long (((f_X9_valueOf_18 l4 g) * 10) + ((l2 - 48).toInt64)), .int l4, .ref 21]) (g' := g) (by decide +kernel) rfl ?_
      obtain ⟨w1, e1, H⟩ := xl_elim H
      refine xcallSN A (ix := 35) (nxt := 94) (host := "NoonRinger") hrm hz [.ref 21, .int l4, .long (((f_X9_valueOf_18 l4 g) * 10) + ((l2 - 48).toInt64))] [] 3 (c_X11_putLong (hS _ _ sh_21) (by decide)) ok_X11_putLong (by decide +kernel) rfl (fun r g1 hq => ?_)
      rw [hq.1, hq.2]
      rw [e1]
      show xW k S 0 0 94 [some (.ref 18), some (.int l1), some (.int l2), none, some (.int l4), none, some (.long (((f_X9_valueOf_18 l4 g) * 10) + ((l2 - 48).toInt64))), none] [] w1
      subst H
      exact xret_v A hR hz (by decide +kernel) ⟨rfl, rfl⟩
    · rw [if_pos h3] at H
      refine xb A [(.aload_n 0, 1, 0, 0, .null), (.iload 4, 2, 0, 0, .null)] (pc' := 55) (ls' := [some (.ref 18), some (.int l1), some (.int l2), none, some (.int l4), none, none, none]) (st' := [.int l4, .ref 18]) (g' := g) (by decide +kernel) rfl ?_
      refine xcallV A (ix := 85) (nxt := 58) hrm hz [.int l4] [] 715 (c_X9_valueOf_18 hS _ rfl) ok_X9_valueOf (by decide +kernel) rfl (fun r g1 hq => ?_)
      rw [hq.1, hq.2]
      show xW k S 0 0 58 [some (.ref 18), some (.int l1), some (.int l2), none, some (.int l4), none, none, none] [.long (f_X9_valueOf_18 l4 g)] g
      refine xb A [(.iload_n 2, 1, 0, 0, .null)] (pc' := 59) (ls' := [some (.ref 18), some (.int l1), some (.int l2), none, some (.int l4), none, none, none]) (st' := [.int l2, .long (f_X9_valueOf_18 l4 g)]) (g' := g) (by decide +kernel) rfl ?_
      refine xcallS A (ix := 41) (nxt := 62) hrm hz [.long (f_X9_valueOf_18 l4 g), .int l2] [] 292 (c_X9_withLetter xS0 _ rfl) ok_X9_withLetter (by decide +kernel) rfl (fun r g1 hq => ?_)
      rw [hq.1, hq.2]
      show xW k S 0 0 62 [some (.ref 18), some (.int l1), some (.int l2), none, some (.int l4), none, none, none] [.long (f_X9_withLetter (f_X9_valueOf_18 l4 g) l2)] g
      refine xgoto A (19) 81 (by decide +kernel) ?_
      refine xb A [(.lstore 6, 2, 0, 0, .null), (.aload_n 0, 1, 0, 0, .null), (.getfield 16, 3, 18, 2, .ref 21), (.iload 4, 2, 0, 0, .null), (.lload 6, 2, 0, 0, .null)] (pc' := 91) (ls' := [some (.ref 18), some (.int l1), some (.int l2), none, some (.int l4), none, some (.long (f_X9_withLetter (f_X9_valueOf_18 l4 g) l2)), none]) (st' := [.long (f_X9_withLetter (f_X9_valueOf_18 l4 g) l2), .int l4, .ref 21]) (g' := g) (by decide +kernel) rfl ?_
      obtain ⟨w2, e2, H⟩ := xl_elim H
      refine xcallSN A (ix := 35) (nxt := 94) (host := "NoonRinger") hrm hz [.ref 21, .int l4, .long (f_X9_withLetter (f_X9_valueOf_18 l4 g) l2)] [] 3 (c_X11_putLong (hS _ _ sh_21) (by decide)) ok_X11_putLong (by decide +kernel) rfl (fun r g1 hq => ?_)
      rw [hq.1, hq.2]
      rw [e2]
      show xW k S 0 0 94 [some (.ref 18), some (.int l1), some (.int l2), none, some (.int l4), none, some (.long (f_X9_withLetter (f_X9_valueOf_18 l4 g) l2)), none] [] w2
      subst H
      exact xret_v A hR hz (by decide +kernel) ⟨rfl, rfl⟩
  · rw [if_neg h2] at H
    refine xb A [(.aload_n 0, 1, 0, 0, .null), (.getfield 9, 3, 18, 0, .ref 19), (.iload 4, 2, 0, 0, .null), (.iconst 1, 1, 0, 0, .int 1)] (pc' := 43) (ls' := [some (.ref 18), some (.int l1), some (.int l2), none, some (.int l4), none, none, none]) (st' := [.int 1, .int l4, .ref 19]) (g' := g) (by decide +kernel) rfl ?_
    obtain ⟨w3, e3, H⟩ := xl_elim H
    refine xcallSN A (ix := 93) (nxt := 46) (host := "NoonRinger") hrm hz [.ref 19, .int l4, .int 1] [] 13 (c_X11_put (hS _ _ sh_19) (by decide)) ok_X11_put (by decide +kernel) rfl (fun r g1 hq => ?_)
    rw [hq.1, hq.2]
    rw [e3]
    show xW k S 0 0 46 [some (.ref 18), some (.int l1), some (.int l2), none, some (.int l4), none, none, none] [] w3
    subst H
    exact xret_v A hR hz (by decide +kernel) ⟨rfl, rfl⟩
theorem fr_X9_grow_18_33   : ∀ (l1 : Int32) (l2 : Int32) (l4 : Int32) (s0 : Int32) (s1 : Int32) (g : xG) (out : xG), f_X9_grow_18_33 l1 l2 l4 s0 s1 g = out → xfrm fp_X9_grow_18 g (out) := by
  intro l1 l2 l4 s0 s1 g out H
  have H : (if s1 ≤ s0 then
  if l1 = 2 then
    xl (xlput g 21 402 l4 (f_X9_withLetter (f_X9_valueOf_18 l4 g) l2)) fun w2 =>
    w2
  else
    xl (xlput g 21 402 l4 (((f_X9_valueOf_18 l4 g) * 10) + ((l2 - 48).toInt64))) fun w1 =>
    w1
else
  xl (xput g 19 402 l4 1) fun w3 =>
  w3) = out := H
  by_cases h2 : s1 ≤ s0
  · rw [if_pos h2] at H
    by_cases h3 : l1 = 2
    · rw [if_pos h3] at H
      obtain ⟨w2, e2, H⟩ := xl_elim H
      have hf2 : xfrm fp_X9_grow_18 g (w2) := xfrm_xlput xfrm.rf rfl e2
      subst H
      exact hf2
    · rw [if_neg h3] at H
      obtain ⟨w1, e1, H⟩ := xl_elim H
      have hf1 : xfrm fp_X9_grow_18 g (w1) := xfrm_xlput xfrm.rf rfl e1
      subst H
      exact hf1
  · rw [if_neg h2] at H
    obtain ⟨w3, e3, H⟩ := xl_elim H
    have hf3 : xfrm fp_X9_grow_18 g (w3) := xfrm_xput xfrm.rf rfl e3
    subst H
    exact hf3
set_option maxRecDepth 20000 in
theorem c_X9_grow_18 {S : List xSh} (hS : xpf SH1 S) {g : xG} {p1 : Int32} {p2 : Int32} {p3 : Int32} (out : xG) (H : f_X9_grow_18 p1 p2 p3 g = out) : xC mX9_grow 2 42 0 0 S [.ref 18, .int p1, .int p2, .int p3] g S (fun r g' => r = none ∧ g' = out) := by
  have H : (if p1 = 2 then
  f_X9_grow_18_33 p1 p2 ((g.1 18 4) - 1) 8 ((p3 - (f_X9_startOf_18 ((g.1 18 4) - 1) g)) + 1) g
else
  f_X9_grow_18_33 p1 p2 ((g.1 18 4) - 1) 4 ((p3 - (f_X9_startOf_18 ((g.1 18 4) - 1) g)) + 1) g) = out := H
  refine xC.of 9 SH1 [some (.ref 18), some (.int p1), some (.int p2), some (.int p3), none, none, none, none] hS (by decide +kernel) rfl (fun _ _ => Nat.le_of_ble_eq_true rfl) (fun _ _ => rfl) ?_
  intro k A hR hrm hz
  refine xb A [(.aload_n 0, 1, 0, 0, .null), (.getfield 47, 3, 18, 4, .int 0), (.iconst 1, 1, 0, 0, .int 1), (.isub, 1, 0, 0, .null), (.istore 4, 2, 0, 0, .null), (.iload_n 3, 1, 0, 0, .null), (.aload_n 0, 1, 0, 0, .null), (.iload 4, 2, 0, 0, .null)] (pc' := 12) (ls' := [some (.ref 18), some (.int p1), some (.int p2), some (.int p3), some (.int ((g.1 18 4) - 1)), none, none, none]) (st' := [.int ((g.1 18 4) - 1), .ref 18, .int p3]) (g' := g) (by decide +kernel) rfl ?_
  refine xcallV A (ix := 102) (nxt := 15) hrm hz [.int ((g.1 18 4) - 1)] [.int p3] 710 (c_X9_startOf_18 hS _ rfl) ok_X9_startOf (by decide +kernel) rfl (fun r g1 hq => ?_)
  rw [hq.1, hq.2]
  show xW k S 0 0 15 [some (.ref 18), some (.int p1), some (.int p2), some (.int p3), some (.int ((g.1 18 4) - 1)), none, none, none] [.int (f_X9_startOf_18 ((g.1 18 4) - 1) g), .int p3] g
  refine xb A [(.isub, 1, 0, 0, .null), (.iconst 1, 1, 0, 0, .int 1), (.iadd, 1, 0, 0, .null), (.istore 5, 2, 0, 0, .null), (.iload 5, 2, 0, 0, .null), (.iload_n 1, 1, 0, 0, .null), (.iconst 2, 1, 0, 0, .int 2)] (pc' := 24) (ls' := [some (.ref 18), some (.int p1), some (.int p2), some (.int p3), some (.int ((g.1 18 4) - 1)), some (.int ((p3 - (f_X9_startOf_18 ((g.1 18 4) - 1) g)) + 1)), none, none]) (st' := [.int 2, .int p1, .int ((p3 - (f_X9_startOf_18 ((g.1 18 4) - 1) g)) + 1)]) (g' := g) (by decide +kernel) rfl ?_
  refine xic_ne A (8) 32 27 (by decide +kernel) (fun h1 => ?_) (fun h1 => ?_)
  · rw [if_neg h1] at H
    refine xb A [(.iconst 4, 1, 0, 0, .int 4)] (pc' := 33) (ls' := [some (.ref 18), some (.int p1), some (.int p2), some (.int p3), some (.int ((g.1 18 4) - 1)), some (.int ((p3 - (f_X9_startOf_18 ((g.1 18 4) - 1) g)) + 1)), none, none]) (st' := [.int 4, .int ((p3 - (f_X9_startOf_18 ((g.1 18 4) - 1) g)) + 1)]) (g' := g) (by decide +kernel) rfl ?_
    refine xweak (ls' := [some (.ref 18), some (.int p1), some (.int p2), none, some (.int ((g.1 18 4) - 1)), none, none, none]) (by exact ⟨rfl, ⟨rfl, ⟨rfl, ⟨rfl, trivial⟩⟩⟩⟩) ?_
    exact t_X9_grow_18_33 hS A hR hrm hz _ _ _ _ _ _ H
  · rw [if_pos h1] at H
    refine xb A [(.bipush 8, 2, 0, 0, .int 8)] (pc' := 29) (ls' := [some (.ref 18), some (.int p1), some (.int p2), some (.int p3), some (.int ((g.1 18 4) - 1)), some (.int ((p3 - (f_X9_startOf_18 ((g.1 18 4) - 1) g)) + 1)), none, none]) (st' := [.int 8, .int ((p3 - (f_X9_startOf_18 ((g.1 18 4) - 1) g)) + 1)]) (g' := g) (by decide +kernel) rfl ?_
    refine xgoto A (4) 33 (by decide +kernel) ?_
    refine xweak (ls' := [some (.ref 18), some (.int p1), some (.int p2), none, some (.int ((g.1 18 4) - 1)), none, none, none]) (by exact ⟨rfl, ⟨rfl, ⟨rfl, ⟨rfl, trivial⟩⟩⟩⟩) ?_
    exact t_X9_grow_18_33 hS A hR hrm hz _ _ _ _ _ _ H
theorem fr_X9_grow_18 {p1 : Int32} {p2 : Int32} {p3 : Int32} {g : xG} (out : xG) (H : f_X9_grow_18 p1 p2 p3 g = out) : xfrm fp_X9_grow_18 g (out) := by
  have H : (if p1 = 2 then
  f_X9_grow_18_33 p1 p2 ((g.1 18 4) - 1) 8 ((p3 - (f_X9_startOf_18 ((g.1 18 4) - 1) g)) + 1) g
else
  f_X9_grow_18_33 p1 p2 ((g.1 18 4) - 1) 4 ((p3 - (f_X9_startOf_18 ((g.1 18 4) - 1) g)) + 1) g) = out := H
  by_cases h1 : p1 = 2
  · rw [if_pos h1] at H
    exact xfrm.tr xfrm.rf (fr_X9_grow_18_33 _ _ _ _ _ _ _ H) rfl
  · rw [if_neg h1] at H
    exact xfrm.tr xfrm.rf (fr_X9_grow_18_33 _ _ _ _ _ _ _ H) rfl
def f_X9_kindAt_18 (p1 : Int32) (g : xG) : Option (Int32) :=
  if p1 < 0 then
    some 0
  else
    if (g.1 18 4) ≤ p1 then
      some 0
    else
      if 402 ≤ p1 then
        some 0
      else
        xg (¬ (p1 < 0 ∨ 402 ≤ p1.toNatClampNeg)) (
          some (g.1 19 p1.toNatClampNeg))
set_option maxRecDepth 20000 in
theorem c_X9_kindAt_18 {S : List xSh} (hS : xpf SH1 S) {g : xG} {p1 : Int32} (out : Int32) (H : f_X9_kindAt_18 p1 g = some out) : xC mX9_kindAt 0 0 0 0 S [.ref 18, .int p1] g S (fun r g' => r = some (.int out) ∧ g' = g) := by
  have H : (if p1 < 0 then
  some 0
else
  if (g.1 18 4) ≤ p1 then
    some 0
  else
    if 402 ≤ p1 then
      some 0
    else
      xg (¬ (p1 < 0 ∨ 402 ≤ p1.toNatClampNeg)) (
        some (g.1 19 p1.toNatClampNeg))) = some out := H
  refine xC.of 9 SH1 [some (.ref 18), some (.int p1)] hS (by decide +kernel) rfl (fun _ _ => Nat.le_of_ble_eq_true rfl) (fun _ _ => rfl) ?_
  intro k A hR hrm hz
  refine xb A [(.iload_n 1, 1, 0, 0, .null)] (pc' := 1) (ls' := [some (.ref 18), some (.int p1)]) (st' := [.int p1]) (g' := g) (by decide +kernel) rfl ?_
  refine xif_lt A (29) 30 4 (by decide +kernel) (fun h1 => ?_) (fun h1 => ?_)
  · rw [if_pos h1] at H
    refine xb A [(.iconst 0, 1, 0, 0, .int 0)] (pc' := 31) (ls' := [some (.ref 18), some (.int p1)]) (st' := [.int 0]) (g' := g) (by decide +kernel) rfl ?_
    obtain rfl := Option.some.inj H
    exact xret_i A hR hz (by decide +kernel) rfl ⟨rfl, rfl⟩
  · rw [if_neg h1] at H
    refine xb A [(.iload_n 1, 1, 0, 0, .null), (.aload_n 0, 1, 0, 0, .null), (.getfield 47, 3, 18, 4, .int 0)] (pc' := 9) (ls' := [some (.ref 18), some (.int p1)]) (st' := [.int (g.1 18 4), .int p1]) (g' := g) (by decide +kernel) rfl ?_
    refine xic_ge A (21) 30 12 (by decide +kernel) (fun h2 => ?_) (fun h2 => ?_)
    · rw [if_pos h2] at H
      refine xb A [(.iconst 0, 1, 0, 0, .int 0)] (pc' := 31) (ls' := [some (.ref 18), some (.int p1)]) (st' := [.int 0]) (g' := g) (by decide +kernel) rfl ?_
      obtain rfl := Option.some.inj H
      exact xret_i A hR hz (by decide +kernel) rfl ⟨rfl, rfl⟩
    · rw [if_neg h2] at H
      refine xb A [(.iload_n 1, 1, 0, 0, .null), (.aload_n 0, 1, 0, 0, .null), (.getfield 9, 3, 18, 0, .ref 19), (.arraylength, 1, 19, 0, .int 402)] (pc' := 18) (ls' := [some (.ref 18), some (.int p1)]) (st' := [.int 402, .int p1]) (g' := g) (by decide +kernel) rfl ?_
      refine xic_ge A (12) 30 21 (by decide +kernel) (fun h3 => ?_) (fun h3 => ?_)
      · rw [if_pos h3] at H
        refine xb A [(.iconst 0, 1, 0, 0, .int 0)] (pc' := 31) (ls' := [some (.ref 18), some (.int p1)]) (st' := [.int 0]) (g' := g) (by decide +kernel) rfl ?_
        obtain rfl := Option.some.inj H
        exact xret_i A hR hz (by decide +kernel) rfl ⟨rfl, rfl⟩
      · rw [if_neg h3] at H
        refine xb A [(.aload_n 0, 1, 0, 0, .null), (.getfield 9, 3, 18, 0, .ref 19), (.iload_n 1, 1, 0, 0, .null)] (pc' := 26) (ls' := [some (.ref 18), some (.int p1)]) (st' := [.int p1, .ref 19]) (g' := g) (by decide +kernel) rfl ?_
        obtain ⟨h4, H⟩ := xg_elim H
        refine xiald A (nxt := 27) (by decide +kernel) (hS _ _ sh_19) h4 ?_
        show xW k S 0 0 27 [some (.ref 18), some (.int p1)] [.int (g.1 19 p1.toNatClampNeg)] g
        refine xgoto A (4) 31 (by decide +kernel) ?_
        obtain rfl := Option.some.inj H
        exact xret_i A hR hz (by decide +kernel) rfl ⟨rfl, rfl⟩
def f_X9_kindOfWord_18_2  (g : xG) : Nat → Int64 → Int32 → Option (Int32)
  | 0, _, _ => none
  | n + 1, l1, l3 =>
    if 21 ≤ l3 then
      some 2
    else
      xg (¬ (l3 < 0 ∨ 21 ≤ l3.toNatClampNeg)) (
        if (lg_cmp (g.2 22 l3.toNatClampNeg) l1) = 0 then
          some (13 + l3)
        else
          f_X9_kindOfWord_18_2 g n l1 (l3 + 1))
def f_X9_kindOfWord_18 (p1 : Int64) (g : xG) : Option (Int32) :=
  f_X9_kindOfWord_18_2 g xN p1 0
set_option maxRecDepth 20000 in
theorem t_X9_kindOfWord_18_2 {k : xK} {S : List xSh} {g : xG} {out : Int32} (hS : xpf SH1 S) (A : xAt k mX9_kindOfWord.2.1 9 SH1 S) (hR : xRet k 0 0 S (fun r g' => r = some (.int out) ∧ g' = g) mX9_kindOfWord.2.2.2) (hrm : xrm k = { frames := 0, cells := 0, slots := 0, locals := 0 }) (hz : xhs k = xb0 k + S.length)   : ∀ (n : Nat) (l1 : Int64) (l3 : Int32), f_X9_kindOfWord_18_2 g n l1 l3 = some out → xW k S 0 0 2 [some (.ref 18), some (.long l1), none, some (.int l3)] [] g := by
  intro n
  induction n with
  | zero => intro l1 l3 H; exact absurd H (by simp [f_X9_kindOfWord_18_2])
  | succ n ih =>
    intro l1 l3 H
    have H : (if 21 ≤ l3 then
  some 2
else
  xg (¬ (l3 < 0 ∨ 21 ≤ l3.toNatClampNeg)) (
    if (lg_cmp (g.2 22 l3.toNatClampNeg) l1) = 0 then
      some (13 + l3)
    else
      f_X9_kindOfWord_18_2 g n l1 (l3 + 1))) = some out := H
    refine xb A [(.iload_n 3, 1, 0, 0, .null), (.aload_n 0, 1, 0, 0, .null), (.getfield 20, 3, 18, 3, .ref 22), (.arraylength, 1, 22, 0, .int 21)] (pc' := 8) (ls' := [some (.ref 18), some (.long l1), none, some (.int l3)]) (st' := [.int 21, .int l3]) (g' := g) (by decide +kernel) rfl ?_
    refine xic_ge A (25) 33 11 (by decide +kernel) (fun h1 => ?_) (fun h1 => ?_)
    · rw [if_pos h1] at H
      refine xb A [(.iconst 2, 1, 0, 0, .int 2)] (pc' := 34) (ls' := [some (.ref 18), some (.long l1), none, some (.int l3)]) (st' := [.int 2]) (g' := g) (by decide +kernel) rfl ?_
      obtain rfl := Option.some.inj H
      exact xret_i A hR hz (by decide +kernel) rfl ⟨rfl, rfl⟩
    · rw [if_neg h1] at H
      refine xb A [(.aload_n 0, 1, 0, 0, .null), (.getfield 20, 3, 18, 3, .ref 22), (.iload_n 3, 1, 0, 0, .null)] (pc' := 16) (ls' := [some (.ref 18), some (.long l1), none, some (.int l3)]) (st' := [.int l3, .ref 22]) (g' := g) (by decide +kernel) rfl ?_
      obtain ⟨h2, H⟩ := xg_elim H
      refine xlald A (nxt := 17) (by decide +kernel) (hS _ _ sh_22) h2 ?_
      show xW k S 0 0 17 [some (.ref 18), some (.long l1), none, some (.int l3)] [.long (g.2 22 l3.toNatClampNeg)] g
      refine xb A [(.lload_n 1, 1, 0, 0, .null), (.lcmp, 1, 0, 0, .null)] (pc' := 19) (ls' := [some (.ref 18), some (.long l1), none, some (.int l3)]) (st' := [.int (lg_cmp (g.2 22 l3.toNatClampNeg) l1)]) (g' := g) (by decide +kernel) rfl ?_
      refine xif_ne A (8) 27 22 (by decide +kernel) (fun h3 => ?_) (fun h3 => ?_)
      · rw [if_neg h3] at H
        refine xb A [(.iinc 3 1, 3, 0, 0, .null)] (pc' := 30) (ls' := [some (.ref 18), some (.long l1), none, some (.int (l3 + 1))]) (st' := []) (g' := g) (by decide +kernel) rfl ?_
        refine xgoto A (-28) 2 (by decide +kernel) ?_
        exact ih _ _ H
      · rw [if_pos h3] at H
        refine xb A [(.bipush 13, 2, 0, 0, .int 13), (.iload_n 3, 1, 0, 0, .null), (.iadd, 1, 0, 0, .null)] (pc' := 26) (ls' := [some (.ref 18), some (.long l1), none, some (.int l3)]) (st' := [.int (13 + l3)]) (g' := g) (by decide +kernel) rfl ?_
        obtain rfl := Option.some.inj H
        exact xret_i A hR hz (by decide +kernel) rfl ⟨rfl, rfl⟩
set_option maxRecDepth 20000 in
theorem c_X9_kindOfWord_18 {S : List xSh} (hS : xpf SH1 S) {g : xG} {p1 : Int64} (out : Int32) (H : f_X9_kindOfWord_18 p1 g = some out) : xC mX9_kindOfWord 0 0 0 0 S [.ref 18, .long p1] g S (fun r g' => r = some (.int out) ∧ g' = g) := by
  have H : (f_X9_kindOfWord_18_2 g xN p1 0) = some out := H
  refine xC.of 9 SH1 [some (.ref 18), some (.long p1), none, none] hS (by decide +kernel) rfl (fun _ _ => Nat.le_of_ble_eq_true rfl) (fun _ _ => rfl) ?_
  intro k A hR hrm hz
  refine xb A [(.iconst 0, 1, 0, 0, .int 0), (.istore_n 3, 1, 0, 0, .null)] (pc' := 2) (ls' := [some (.ref 18), some (.long p1), none, some (.int 0)]) (st' := []) (g' := g) (by decide +kernel) rfl ?_
  exact t_X9_kindOfWord_18_2 hS A hR hrm hz _ _ _ H
def fp_X9_scan_18_1 : List (Nat × Option Nat) := [(18, some 4), (18, some 5), (19, none), (20, none), (21, none)]
def f_X9_scan_18_1_116  : Nat → Int32 → xG → Option (xG)
  | 0, _, _ => none
  | n + 1, l3, g =>
    if (g.1 18 4) ≤ l3 then
      some g
    else
      (f_X9_kindAt_18 l3 g).bind fun w1 =>
      if w1 = 2 then
        (f_X9_kindOfWord_18 (f_X9_valueOf_18 l3 g) g).bind fun w2 =>
        xl (xput g 19 402 l3 w2) fun w3 =>
        f_X9_scan_18_1_116 n (l3 + 1) w3
      else
        f_X9_scan_18_1_116 n (l3 + 1) g
def f_X9_scan_18_1_91 (k17 : Int32 → Int32 → xG → Option (xG)) (l3 : Int32) (l4 : Int32) (l5 : Int32) (l6 : Int32) (g : xG) : Option (xG) :=
  if l6 = 0 then
    k17 l5 (l3 + 1) g
  else
    xl (f_X9_grow_18 l5 l4 l3 g) fun w6 =>
    k17 l5 (l3 + 1) w6
def f_X9_scan_18_1_84 (k17 : Int32 → Int32 → xG → Option (xG)) (l3 : Int32) (l4 : Int32) (l5 : Int32) (l6 : Int32) (g : xG) : Option (xG) :=
  xl (f_X9_begin_18 l5 l3 g) fun w7 =>
  f_X9_scan_18_1_91 k17 l3 l4 l5 l6 w7
def f_X9_scan_18_1_66 (k17 : Int32 → Int32 → xG → Option (xG)) (l2 : Int32) (l3 : Int32) (l4 : Int32) (l5 : Int32) (s0 : Int32) (g : xG) : Option (xG) :=
  if l5 = 0 then
    f_X9_scan_18_1_91 k17 l3 l4 l5 s0 g
  else
    if s0 = 0 then
      f_X9_scan_18_1_84 k17 l3 l4 l5 s0 g
    else
      if l5 = l2 then
        f_X9_scan_18_1_91 k17 l3 l4 l5 s0 g
      else
        f_X9_scan_18_1_84 k17 l3 l4 l5 s0 g
def f_X9_scan_18_1_61 (k17 : Int32 → Int32 → xG → Option (xG)) (l2 : Int32) (l3 : Int32) (l4 : Int32) (l5 : Int32) (g : xG) : Option (xG) :=
  f_X9_scan_18_1_66 k17 l2 l3 l4 l5 1 g
def f_X9_scan_18_1_17  : Nat → Int32 → Int32 → xG → Option (xG)
  | 0, _, _, _ => none
  | n + 1, l2, l3, g =>
    if (g.1 18 5) ≤ l3 then
      f_X9_scan_18_1_116 xN 0 g
    else
      if 402 ≤ (g.1 18 4) then
        f_X9_scan_18_1_116 xN 0 g
      else
        (f_X8_byteAt_1 l3 g).bind fun w4 =>
        (f_X9_kindBegunBy w4).bind fun w5 =>
        if w5 = 2 then
          f_X9_scan_18_1_61 (f_X9_scan_18_1_17 n) l2 l3 w4 w5 g
        else
          if w5 = 3 then
            f_X9_scan_18_1_61 (f_X9_scan_18_1_17 n) l2 l3 w4 w5 g
          else
            f_X9_scan_18_1_66 (f_X9_scan_18_1_17 n) l2 l3 w4 w5 0 g
def f_X9_scan_18_1  (g : xG) : Option (xG) :=
  f_X9_scan_18_1_17 xN 0 0 (xupd (xupd g.1 18 4 0) 18 5 (f_X8_size_1 (xupd g.1 18 4 0, g.2)), g.2)
set_option maxRecDepth 20000 in
theorem t_X9_scan_18_1_116 {k : xK} {S : List xSh} {out : xG} (hS : xpf SH1 S) (A : xAt k mX9_scan.2.1 9 SH1 S) (hR : xRet k 0 0 S (fun r g' => r = none ∧ g' = out) mX9_scan.2.2.2) (hrm : xrm k = { frames := 5, cells := 0, slots := 0, locals := 112 }) (hz : xhs k = xb0 k + S.length)   : ∀ (n : Nat) (l3 : Int32) (g : xG), f_X9_scan_18_1_116 n l3 g = some out → xW k S 0 0 116 [some (.ref 18), none, none, some (.int l3), none, none, none] [] g := by
  intro n
  induction n with
  | zero => intro l3 g H; exact absurd H (by simp [f_X9_scan_18_1_116])
  | succ n ih =>
    intro l3 g H
    have H : (if (g.1 18 4) ≤ l3 then
  some g
else
  (f_X9_kindAt_18 l3 g).bind fun w1 =>
  if w1 = 2 then
    (f_X9_kindOfWord_18 (f_X9_valueOf_18 l3 g) g).bind fun w2 =>
    xl (xput g 19 402 l3 w2) fun w3 =>
    f_X9_scan_18_1_116 n (l3 + 1) w3
  else
    f_X9_scan_18_1_116 n (l3 + 1) g) = some out := H
    refine xb A [(.iload_n 3, 1, 0, 0, .null), (.aload_n 0, 1, 0, 0, .null), (.getfield 47, 3, 18, 4, .int 0)] (pc' := 121) (ls' := [some (.ref 18), none, none, some (.int l3), none, none, none]) (st' := [.int (g.1 18 4), .int l3]) (g' := g) (by decide +kernel) rfl ?_
    refine xic_ge A (35) 156 124 (by decide +kernel) (fun h2 => ?_) (fun h2 => ?_)
    · rw [if_pos h2] at H
      obtain rfl := Option.some.inj H
      exact xret_v A hR hz (by decide +kernel) ⟨rfl, rfl⟩
    · rw [if_neg h2] at H
      refine xb A [(.aload_n 0, 1, 0, 0, .null), (.iload_n 3, 1, 0, 0, .null)] (pc' := 126) (ls' := [some (.ref 18), none, none, some (.int l3), none, none, none]) (st' := [.int l3, .ref 18]) (g' := g) (by decide +kernel) rfl ?_
      obtain ⟨w1, e1, H⟩ := xbind H
      refine xcallV A (ix := 82) (nxt := 129) hrm hz [.int l3] [] 723 (c_X9_kindAt_18 hS _ e1) ok_X9_kindAt (by decide +kernel) rfl (fun r g1 hq => ?_)
      rw [hq.1, hq.2]
      show xW k S 0 0 129 [some (.ref 18), none, none, some (.int l3), none, none, none] [.int w1] g
      refine xb A [(.iconst 2, 1, 0, 0, .int 2)] (pc' := 130) (ls' := [some (.ref 18), none, none, some (.int l3), none, none, none]) (st' := [.int 2, .int w1]) (g' := g) (by decide +kernel) rfl ?_
      refine xic_ne A (20) 150 133 (by decide +kernel) (fun h3 => ?_) (fun h3 => ?_)
      · rw [if_neg h3] at H
        refine xb A [(.iinc 3 1, 3, 0, 0, .null)] (pc' := 153) (ls' := [some (.ref 18), none, none, some (.int (l3 + 1)), none, none, none]) (st' := []) (g' := g) (by decide +kernel) rfl ?_
        refine xgoto A (-37) 116 (by decide +kernel) ?_
        exact ih _ _ H
      · rw [if_pos h3] at H
        refine xb A [(.aload_n 0, 1, 0, 0, .null), (.getfield 9, 3, 18, 0, .ref 19), (.iload_n 3, 1, 0, 0, .null), (.aload_n 0, 1, 0, 0, .null), (.aload_n 0, 1, 0, 0, .null), (.iload_n 3, 1, 0, 0, .null)] (pc' := 141) (ls' := [some (.ref 18), none, none, some (.int l3), none, none, none]) (st' := [.int l3, .ref 18, .ref 18, .int l3, .ref 19]) (g' := g) (by decide +kernel) rfl ?_
        refine xcallV A (ix := 85) (nxt := 144) hrm hz [.int l3] [.ref 18, .int l3, .ref 19] 715 (c_X9_valueOf_18 hS _ rfl) ok_X9_valueOf (by decide +kernel) rfl (fun r g1 hq => ?_)
        rw [hq.1, hq.2]
        show xW k S 0 0 144 [some (.ref 18), none, none, some (.int l3), none, none, none] [.long (f_X9_valueOf_18 l3 g), .ref 18, .int l3, .ref 19] g
        obtain ⟨w2, e2, H⟩ := xbind H
        refine xcallV A (ix := 89) (nxt := 147) hrm hz [.long (f_X9_valueOf_18 l3 g)] [.int l3, .ref 19] 727 (c_X9_kindOfWord_18 hS _ e2) ok_X9_kindOfWord (by decide +kernel) rfl (fun r g1 hq => ?_)
        rw [hq.1, hq.2]
        show xW k S 0 0 147 [some (.ref 18), none, none, some (.int l3), none, none, none] [.int w2, .int l3, .ref 19] g
        obtain ⟨w3, e3, H⟩ := xl_elim H
        refine xcallSN A (ix := 93) (nxt := 150) (host := "NoonRinger") hrm hz [.ref 19, .int l3, .int w2] [] 13 (c_X11_put (hS _ _ sh_19) (by decide)) ok_X11_put (by decide +kernel) rfl (fun r g1 hq => ?_)
        rw [hq.1, hq.2]
        rw [e3]
        show xW k S 0 0 150 [some (.ref 18), none, none, some (.int l3), none, none, none] [] w3
        refine xb A [(.iinc 3 1, 3, 0, 0, .null)] (pc' := 153) (ls' := [some (.ref 18), none, none, some (.int (l3 + 1)), none, none, none]) (st' := []) (g' := w3) (by decide +kernel) rfl ?_
        refine xgoto A (-37) 116 (by decide +kernel) ?_
        exact ih _ _ H
theorem fr_X9_scan_18_1_116   : ∀ (n : Nat) (l3 : Int32) (g : xG) (out : xG), f_X9_scan_18_1_116 n l3 g = some out → xfrm fp_X9_scan_18_1 g (out) := by
  intro n
  induction n with
  | zero => intro l3 g out H; exact absurd H (by simp [f_X9_scan_18_1_116])
  | succ n ih =>
    intro l3 g out H
    have H : (if (g.1 18 4) ≤ l3 then
  some g
else
  (f_X9_kindAt_18 l3 g).bind fun w1 =>
  if w1 = 2 then
    (f_X9_kindOfWord_18 (f_X9_valueOf_18 l3 g) g).bind fun w2 =>
    xl (xput g 19 402 l3 w2) fun w3 =>
    f_X9_scan_18_1_116 n (l3 + 1) w3
  else
    f_X9_scan_18_1_116 n (l3 + 1) g) = some out := H
    by_cases h2 : (g.1 18 4) ≤ l3
    · rw [if_pos h2] at H
      obtain rfl := Option.some.inj H
      exact xfrm.rf
    · rw [if_neg h2] at H
      obtain ⟨w1, e1, H⟩ := xbind H
      by_cases h3 : w1 = 2
      · rw [if_pos h3] at H
        obtain ⟨w2, e2, H⟩ := xbind H
        obtain ⟨w3, e3, H⟩ := xl_elim H
        have hf3 : xfrm fp_X9_scan_18_1 g (w3) := xfrm_xput xfrm.rf rfl e3
        exact xfrm.tr hf3 (ih _ _ _ H) rfl
      · rw [if_neg h3] at H
        exact xfrm.tr xfrm.rf (ih _ _ _ H) rfl
set_option maxRecDepth 20000 in
theorem t_X9_scan_18_1_91 {k : xK} {S : List xSh} {out : xG} (hS : xpf SH1 S) (A : xAt k mX9_scan.2.1 9 SH1 S) (hR : xRet k 0 0 S (fun r g' => r = none ∧ g' = out) mX9_scan.2.2.2) (hrm : xrm k = { frames := 5, cells := 0, slots := 0, locals := 112 }) (hz : xhs k = xb0 k + S.length) {k17 : Int32 → Int32 → xG → Option (xG)} (hk17 : ∀ (l2 : Int32) (l3 : Int32) (g : xG), k17 l2 l3 g = some out → xW k S 0 0 17 [some (.ref 18), some (.ref 1), some (.int l2), some (.int l3), none, none, none] [] g) : ∀ (l3 : Int32) (l4 : Int32) (l5 : Int32) (l6 : Int32) (g : xG), f_X9_scan_18_1_91 k17 l3 l4 l5 l6 g = some out → xW k S 0 0 91 [some (.ref 18), some (.ref 1), none, some (.int l3), some (.int l4), some (.int l5), some (.int l6)] [] g := by
  intro l3 l4 l5 l6 g H
  have H : (if l6 = 0 then
  k17 l5 (l3 + 1) g
else
  xl (f_X9_grow_18 l5 l4 l3 g) fun w6 =>
  k17 l5 (l3 + 1) w6) = some out := H
  refine xb A [(.iload 6, 2, 0, 0, .null)] (pc' := 93) (ls' := [some (.ref 18), some (.ref 1), none, some (.int l3), some (.int l4), some (.int l5), some (.int l6)]) (st' := [.int l6]) (g' := g) (by decide +kernel) rfl ?_
  refine xif_eq A (12) 105 96 (by decide +kernel) (fun h7 => ?_) (fun h7 => ?_)
  · rw [if_pos h7] at H
    refine xb A [(.iload 5, 2, 0, 0, .null), (.istore_n 2, 1, 0, 0, .null), (.iinc 3 1, 3, 0, 0, .null)] (pc' := 111) (ls' := [some (.ref 18), some (.ref 1), some (.int l5), some (.int (l3 + 1)), some (.int l4), some (.int l5), some (.int l6)]) (st' := []) (g' := g) (by decide +kernel) rfl ?_
    refine xgoto A (-94) 17 (by decide +kernel) ?_
    refine xweak (ls' := [some (.ref 18), some (.ref 1), some (.int l5), some (.int (l3 + 1)), none, none, none]) (by exact ⟨rfl, ⟨rfl, ⟨rfl, ⟨rfl, trivial⟩⟩⟩⟩) ?_
    exact hk17 _ _ _ H
  · rw [if_neg h7] at H
    refine xb A [(.aload_n 0, 1, 0, 0, .null), (.iload 5, 2, 0, 0, .null), (.iload 4, 2, 0, 0, .null), (.iload_n 3, 1, 0, 0, .null)] (pc' := 102) (ls' := [some (.ref 18), some (.ref 1), none, some (.int l3), some (.int l4), some (.int l5), some (.int l6)]) (st' := [.int l3, .int l4, .int l5, .ref 18]) (g' := g) (by decide +kernel) rfl ?_
    obtain ⟨w6, e6, H⟩ := xl_elim H
    refine xcallV A (ix := 78) (nxt := 105) hrm hz [.int l5, .int l4, .int l3] [] 706 (c_X9_grow_18 hS _ e6) ok_X9_grow (by decide +kernel) rfl (fun r g1 hq => ?_)
    rw [hq.1, hq.2]
    show xW k S 0 0 105 [some (.ref 18), some (.ref 1), none, some (.int l3), some (.int l4), some (.int l5), some (.int l6)] [] w6
    refine xb A [(.iload 5, 2, 0, 0, .null), (.istore_n 2, 1, 0, 0, .null), (.iinc 3 1, 3, 0, 0, .null)] (pc' := 111) (ls' := [some (.ref 18), some (.ref 1), some (.int l5), some (.int (l3 + 1)), some (.int l4), some (.int l5), some (.int l6)]) (st' := []) (g' := w6) (by decide +kernel) rfl ?_
    refine xgoto A (-94) 17 (by decide +kernel) ?_
    refine xweak (ls' := [some (.ref 18), some (.ref 1), some (.int l5), some (.int (l3 + 1)), none, none, none]) (by exact ⟨rfl, ⟨rfl, ⟨rfl, ⟨rfl, trivial⟩⟩⟩⟩) ?_
    exact hk17 _ _ _ H
theorem fr_X9_scan_18_1_91 {k17 : Int32 → Int32 → xG → Option (xG)} (hk17 : ∀ (l2 : Int32) (l3 : Int32) (g : xG) (out : xG), k17 l2 l3 g = some out → xfrm fp_X9_scan_18_1 g (out)) : ∀ (l3 : Int32) (l4 : Int32) (l5 : Int32) (l6 : Int32) (g : xG) (out : xG), f_X9_scan_18_1_91 k17 l3 l4 l5 l6 g = some out → xfrm fp_X9_scan_18_1 g (out) := by
  intro l3 l4 l5 l6 g out H
  have H : (if l6 = 0 then
  k17 l5 (l3 + 1) g
else
  xl (f_X9_grow_18 l5 l4 l3 g) fun w6 =>
  k17 l5 (l3 + 1) w6) = some out := H
  by_cases h7 : l6 = 0
  · rw [if_pos h7] at H
    exact xfrm.tr xfrm.rf (hk17 _ _ _ _ H) rfl
  · rw [if_neg h7] at H
    obtain ⟨w6, e6, H⟩ := xl_elim H
    have hf4 : xfrm fp_X9_scan_18_1 g (w6) := xfrm.tr xfrm.rf (fr_X9_grow_18 _ e6) rfl
    exact xfrm.tr hf4 (hk17 _ _ _ _ H) rfl
set_option maxRecDepth 20000 in
theorem t_X9_scan_18_1_84 {k : xK} {S : List xSh} {out : xG} (hS : xpf SH1 S) (A : xAt k mX9_scan.2.1 9 SH1 S) (hR : xRet k 0 0 S (fun r g' => r = none ∧ g' = out) mX9_scan.2.2.2) (hrm : xrm k = { frames := 5, cells := 0, slots := 0, locals := 112 }) (hz : xhs k = xb0 k + S.length) {k17 : Int32 → Int32 → xG → Option (xG)} (hk17 : ∀ (l2 : Int32) (l3 : Int32) (g : xG), k17 l2 l3 g = some out → xW k S 0 0 17 [some (.ref 18), some (.ref 1), some (.int l2), some (.int l3), none, none, none] [] g) : ∀ (l3 : Int32) (l4 : Int32) (l5 : Int32) (l6 : Int32) (g : xG), f_X9_scan_18_1_84 k17 l3 l4 l5 l6 g = some out → xW k S 0 0 84 [some (.ref 18), some (.ref 1), none, some (.int l3), some (.int l4), some (.int l5), some (.int l6)] [] g := by
  intro l3 l4 l5 l6 g H
  have H : (xl (f_X9_begin_18 l5 l3 g) fun w7 =>
f_X9_scan_18_1_91 k17 l3 l4 l5 l6 w7) = some out := H
  refine xb A [(.aload_n 0, 1, 0, 0, .null), (.iload 5, 2, 0, 0, .null), (.iload_n 3, 1, 0, 0, .null)] (pc' := 88) (ls' := [some (.ref 18), some (.ref 1), none, some (.int l3), some (.int l4), some (.int l5), some (.int l6)]) (st' := [.int l3, .int l5, .ref 18]) (g' := g) (by decide +kernel) rfl ?_
  obtain ⟨w7, e7, H⟩ := xl_elim H
  refine xcallV A (ix := 74) (nxt := 91) hrm hz [.int l5, .int l3] [] 701 (c_X9_begin_18 hS _ e7) ok_X9_begin (by decide +kernel) rfl (fun r g1 hq => ?_)
  rw [hq.1, hq.2]
  show xW k S 0 0 91 [some (.ref 18), some (.ref 1), none, some (.int l3), some (.int l4), some (.int l5), some (.int l6)] [] w7
  exact t_X9_scan_18_1_91 hS A hR hrm hz hk17 _ _ _ _ _ H
theorem fr_X9_scan_18_1_84 {k17 : Int32 → Int32 → xG → Option (xG)} (hk17 : ∀ (l2 : Int32) (l3 : Int32) (g : xG) (out : xG), k17 l2 l3 g = some out → xfrm fp_X9_scan_18_1 g (out)) : ∀ (l3 : Int32) (l4 : Int32) (l5 : Int32) (l6 : Int32) (g : xG) (out : xG), f_X9_scan_18_1_84 k17 l3 l4 l5 l6 g = some out → xfrm fp_X9_scan_18_1 g (out) := by
  intro l3 l4 l5 l6 g out H
  have H : (xl (f_X9_begin_18 l5 l3 g) fun w7 =>
f_X9_scan_18_1_91 k17 l3 l4 l5 l6 w7) = some out := H
  obtain ⟨w7, e7, H⟩ := xl_elim H
  have hf5 : xfrm fp_X9_scan_18_1 g (w7) := xfrm.tr xfrm.rf (fr_X9_begin_18 _ e7) rfl
  exact xfrm.tr hf5 (fr_X9_scan_18_1_91 hk17 _ _ _ _ _ _ H) rfl
set_option maxRecDepth 20000 in
theorem t_X9_scan_18_1_66 {k : xK} {S : List xSh} {out : xG} (hS : xpf SH1 S) (A : xAt k mX9_scan.2.1 9 SH1 S) (hR : xRet k 0 0 S (fun r g' => r = none ∧ g' = out) mX9_scan.2.2.2) (hrm : xrm k = { frames := 5, cells := 0, slots := 0, locals := 112 }) (hz : xhs k = xb0 k + S.length) {k17 : Int32 → Int32 → xG → Option (xG)} (hk17 : ∀ (l2 : Int32) (l3 : Int32) (g : xG), k17 l2 l3 g = some out → xW k S 0 0 17 [some (.ref 18), some (.ref 1), some (.int l2), some (.int l3), none, none, none] [] g) : ∀ (l2 : Int32) (l3 : Int32) (l4 : Int32) (l5 : Int32) (s0 : Int32) (g : xG), f_X9_scan_18_1_66 k17 l2 l3 l4 l5 s0 g = some out → xW k S 0 0 66 [some (.ref 18), some (.ref 1), some (.int l2), some (.int l3), some (.int l4), some (.int l5), none] [.int s0] g := by
  intro l2 l3 l4 l5 s0 g H
  have H : (if l5 = 0 then
  f_X9_scan_18_1_91 k17 l3 l4 l5 s0 g
else
  if s0 = 0 then
    f_X9_scan_18_1_84 k17 l3 l4 l5 s0 g
  else
    if l5 = l2 then
      f_X9_scan_18_1_91 k17 l3 l4 l5 s0 g
    else
      f_X9_scan_18_1_84 k17 l3 l4 l5 s0 g) = some out := H
  refine xb A [(.istore 6, 2, 0, 0, .null), (.iload 5, 2, 0, 0, .null)] (pc' := 70) (ls' := [some (.ref 18), some (.ref 1), some (.int l2), some (.int l3), some (.int l4), some (.int l5), some (.int s0)]) (st' := [.int l5]) (g' := g) (by decide +kernel) rfl ?_
  refine xif_eq A (21) 91 73 (by decide +kernel) (fun h6 => ?_) (fun h6 => ?_)
  · rw [if_pos h6] at H
    refine xweak (ls' := [some (.ref 18), some (.ref 1), none, some (.int l3), some (.int l4), some (.int l5), some (.int s0)]) (by exact ⟨rfl, ⟨rfl, ⟨rfl, ⟨rfl, ⟨rfl, ⟨rfl, trivial⟩⟩⟩⟩⟩⟩) ?_
    exact t_X9_scan_18_1_91 hS A hR hrm hz hk17 _ _ _ _ _ H
  · rw [if_neg h6] at H
    refine xb A [(.iload 6, 2, 0, 0, .null)] (pc' := 75) (ls' := [some (.ref 18), some (.ref 1), some (.int l2), some (.int l3), some (.int l4), some (.int l5), some (.int s0)]) (st' := [.int s0]) (g' := g) (by decide +kernel) rfl ?_
    refine xif_eq A (9) 84 78 (by decide +kernel) (fun h8 => ?_) (fun h8 => ?_)
    · rw [if_pos h8] at H
      refine xweak (ls' := [some (.ref 18), some (.ref 1), none, some (.int l3), some (.int l4), some (.int l5), some (.int s0)]) (by exact ⟨rfl, ⟨rfl, ⟨rfl, ⟨rfl, ⟨rfl, ⟨rfl, trivial⟩⟩⟩⟩⟩⟩) ?_
      exact t_X9_scan_18_1_84 hS A hR hrm hz hk17 _ _ _ _ _ H
    · rw [if_neg h8] at H
      refine xb A [(.iload 5, 2, 0, 0, .null), (.iload_n 2, 1, 0, 0, .null)] (pc' := 81) (ls' := [some (.ref 18), some (.ref 1), some (.int l2), some (.int l3), some (.int l4), some (.int l5), some (.int s0)]) (st' := [.int l2, .int l5]) (g' := g) (by decide +kernel) rfl ?_
      refine xic_eq A (10) 91 84 (by decide +kernel) (fun h9 => ?_) (fun h9 => ?_)
      · rw [if_pos h9] at H
        refine xweak (ls' := [some (.ref 18), some (.ref 1), none, some (.int l3), some (.int l4), some (.int l5), some (.int s0)]) (by exact ⟨rfl, ⟨rfl, ⟨rfl, ⟨rfl, ⟨rfl, ⟨rfl, trivial⟩⟩⟩⟩⟩⟩) ?_
        exact t_X9_scan_18_1_91 hS A hR hrm hz hk17 _ _ _ _ _ H
      · rw [if_neg h9] at H
        refine xweak (ls' := [some (.ref 18), some (.ref 1), none, some (.int l3), some (.int l4), some (.int l5), some (.int s0)]) (by exact ⟨rfl, ⟨rfl, ⟨rfl, ⟨rfl, ⟨rfl, ⟨rfl, trivial⟩⟩⟩⟩⟩⟩) ?_
        exact t_X9_scan_18_1_84 hS A hR hrm hz hk17 _ _ _ _ _ H
theorem fr_X9_scan_18_1_66 {k17 : Int32 → Int32 → xG → Option (xG)} (hk17 : ∀ (l2 : Int32) (l3 : Int32) (g : xG) (out : xG), k17 l2 l3 g = some out → xfrm fp_X9_scan_18_1 g (out)) : ∀ (l2 : Int32) (l3 : Int32) (l4 : Int32) (l5 : Int32) (s0 : Int32) (g : xG) (out : xG), f_X9_scan_18_1_66 k17 l2 l3 l4 l5 s0 g = some out → xfrm fp_X9_scan_18_1 g (out) := by
  intro l2 l3 l4 l5 s0 g out H
  have H : (if l5 = 0 then
  f_X9_scan_18_1_91 k17 l3 l4 l5 s0 g
else
  if s0 = 0 then
    f_X9_scan_18_1_84 k17 l3 l4 l5 s0 g
  else
    if l5 = l2 then
      f_X9_scan_18_1_91 k17 l3 l4 l5 s0 g
    else
      f_X9_scan_18_1_84 k17 l3 l4 l5 s0 g) = some out := H
  by_cases h6 : l5 = 0
  · rw [if_pos h6] at H
    exact xfrm.tr xfrm.rf (fr_X9_scan_18_1_91 hk17 _ _ _ _ _ _ H) rfl
  · rw [if_neg h6] at H
    by_cases h8 : s0 = 0
    · rw [if_pos h8] at H
      exact xfrm.tr xfrm.rf (fr_X9_scan_18_1_84 hk17 _ _ _ _ _ _ H) rfl
    · rw [if_neg h8] at H
      by_cases h9 : l5 = l2
      · rw [if_pos h9] at H
        exact xfrm.tr xfrm.rf (fr_X9_scan_18_1_91 hk17 _ _ _ _ _ _ H) rfl
      · rw [if_neg h9] at H
        exact xfrm.tr xfrm.rf (fr_X9_scan_18_1_84 hk17 _ _ _ _ _ _ H) rfl
set_option maxRecDepth 20000 in
theorem t_X9_scan_18_1_61 {k : xK} {S : List xSh} {out : xG} (hS : xpf SH1 S) (A : xAt k mX9_scan.2.1 9 SH1 S) (hR : xRet k 0 0 S (fun r g' => r = none ∧ g' = out) mX9_scan.2.2.2) (hrm : xrm k = { frames := 5, cells := 0, slots := 0, locals := 112 }) (hz : xhs k = xb0 k + S.length) {k17 : Int32 → Int32 → xG → Option (xG)} (hk17 : ∀ (l2 : Int32) (l3 : Int32) (g : xG), k17 l2 l3 g = some out → xW k S 0 0 17 [some (.ref 18), some (.ref 1), some (.int l2), some (.int l3), none, none, none] [] g) : ∀ (l2 : Int32) (l3 : Int32) (l4 : Int32) (l5 : Int32) (g : xG), f_X9_scan_18_1_61 k17 l2 l3 l4 l5 g = some out → xW k S 0 0 61 [some (.ref 18), some (.ref 1), some (.int l2), some (.int l3), some (.int l4), some (.int l5), none] [] g := by
  intro l2 l3 l4 l5 g H
  have H : (f_X9_scan_18_1_66 k17 l2 l3 l4 l5 1 g) = some out := H
  refine xb A [(.iconst 1, 1, 0, 0, .int 1)] (pc' := 62) (ls' := [some (.ref 18), some (.ref 1), some (.int l2), some (.int l3), some (.int l4), some (.int l5), none]) (st' := [.int 1]) (g' := g) (by decide +kernel) rfl ?_
  refine xgoto A (4) 66 (by decide +kernel) ?_
  exact t_X9_scan_18_1_66 hS A hR hrm hz hk17 _ _ _ _ _ _ H
theorem fr_X9_scan_18_1_61 {k17 : Int32 → Int32 → xG → Option (xG)} (hk17 : ∀ (l2 : Int32) (l3 : Int32) (g : xG) (out : xG), k17 l2 l3 g = some out → xfrm fp_X9_scan_18_1 g (out)) : ∀ (l2 : Int32) (l3 : Int32) (l4 : Int32) (l5 : Int32) (g : xG) (out : xG), f_X9_scan_18_1_61 k17 l2 l3 l4 l5 g = some out → xfrm fp_X9_scan_18_1 g (out) := by
  intro l2 l3 l4 l5 g out H
  have H : (f_X9_scan_18_1_66 k17 l2 l3 l4 l5 1 g) = some out := H
  exact xfrm.tr xfrm.rf (fr_X9_scan_18_1_66 hk17 _ _ _ _ _ _ _ H) rfl
set_option maxRecDepth 20000 in
theorem t_X9_scan_18_1_17 {k : xK} {S : List xSh} {out : xG} (hS : xpf SH1 S) (A : xAt k mX9_scan.2.1 9 SH1 S) (hR : xRet k 0 0 S (fun r g' => r = none ∧ g' = out) mX9_scan.2.2.2) (hrm : xrm k = { frames := 5, cells := 0, slots := 0, locals := 112 }) (hz : xhs k = xb0 k + S.length)   : ∀ (n : Nat) (l2 : Int32) (l3 : Int32) (g : xG), f_X9_scan_18_1_17 n l2 l3 g = some out → xW k S 0 0 17 [some (.ref 18), some (.ref 1), some (.int l2), some (.int l3), none, none, none] [] g := by
  intro n
  induction n with
  | zero => intro l2 l3 g H; exact absurd H (by simp [f_X9_scan_18_1_17])
  | succ n ih =>
    intro l2 l3 g H
    have H : (if (g.1 18 5) ≤ l3 then
  f_X9_scan_18_1_116 xN 0 g
else
  if 402 ≤ (g.1 18 4) then
    f_X9_scan_18_1_116 xN 0 g
  else
    (f_X8_byteAt_1 l3 g).bind fun w4 =>
    (f_X9_kindBegunBy w4).bind fun w5 =>
    if w5 = 2 then
      f_X9_scan_18_1_61 (f_X9_scan_18_1_17 n) l2 l3 w4 w5 g
    else
      if w5 = 3 then
        f_X9_scan_18_1_61 (f_X9_scan_18_1_17 n) l2 l3 w4 w5 g
      else
        f_X9_scan_18_1_66 (f_X9_scan_18_1_17 n) l2 l3 w4 w5 0 g) = some out := H
    refine xb A [(.iload_n 3, 1, 0, 0, .null), (.aload_n 0, 1, 0, 0, .null), (.getfield 55, 3, 18, 5, .int 0)] (pc' := 22) (ls' := [some (.ref 18), some (.ref 1), some (.int l2), some (.int l3), none, none, none]) (st' := [.int (g.1 18 5), .int l3]) (g' := g) (by decide +kernel) rfl ?_
    refine xic_ge A (92) 114 25 (by decide +kernel) (fun h1 => ?_) (fun h1 => ?_)
    · rw [if_pos h1] at H
      refine xb A [(.iconst 0, 1, 0, 0, .int 0), (.istore_n 3, 1, 0, 0, .null)] (pc' := 116) (ls' := [some (.ref 18), some (.ref 1), some (.int l2), some (.int 0), none, none, none]) (st' := []) (g' := g) (by decide +kernel) rfl ?_
      refine xweak (ls' := [some (.ref 18), none, none, some (.int 0), none, none, none]) (by exact ⟨rfl, ⟨rfl, trivial⟩⟩) ?_
      exact t_X9_scan_18_1_116 hS A hR hrm hz _ _ _ H
    · rw [if_neg h1] at H
      refine xb A [(.aload_n 0, 1, 0, 0, .null), (.getfield 47, 3, 18, 4, .int 0), (.sipush 402, 3, 0, 0, .int 402)] (pc' := 32) (ls' := [some (.ref 18), some (.ref 1), some (.int l2), some (.int l3), none, none, none]) (st' := [.int 402, .int (g.1 18 4)]) (g' := g) (by decide +kernel) rfl ?_
      refine xic_ge A (82) 114 35 (by decide +kernel) (fun h4 => ?_) (fun h4 => ?_)
      · rw [if_pos h4] at H
        refine xb A [(.iconst 0, 1, 0, 0, .int 0), (.istore_n 3, 1, 0, 0, .null)] (pc' := 116) (ls' := [some (.ref 18), some (.ref 1), some (.int l2), some (.int 0), none, none, none]) (st' := []) (g' := g) (by decide +kernel) rfl ?_
        refine xweak (ls' := [some (.ref 18), none, none, some (.int 0), none, none, none]) (by exact ⟨rfl, ⟨rfl, trivial⟩⟩) ?_
        exact t_X9_scan_18_1_116 hS A hR hrm hz _ _ _ H
      · rw [if_neg h4] at H
        refine xb A [(.aload_n 1, 1, 0, 0, .null), (.iload_n 3, 1, 0, 0, .null)] (pc' := 37) (ls' := [some (.ref 18), some (.ref 1), some (.int l2), some (.int l3), none, none, none]) (st' := [.int l3, .ref 1]) (g' := g) (by decide +kernel) rfl ?_
        obtain ⟨w4, e4, H⟩ := xbind H
        refine xcallV A (ix := 67) (nxt := 40) hrm hz [.int l3] [] 636 (c_X8_byteAt_1 hS _ e4) ok_X8_byteAt (by decide +kernel) rfl (fun r g1 hq => ?_)
        rw [hq.1, hq.2]
        show xW k S 0 0 40 [some (.ref 18), some (.ref 1), some (.int l2), some (.int l3), none, none, none] [.int w4] g
        refine xb A [(.istore 4, 2, 0, 0, .null), (.iload 4, 2, 0, 0, .null)] (pc' := 44) (ls' := [some (.ref 18), some (.ref 1), some (.int l2), some (.int l3), some (.int w4), none, none]) (st' := [.int w4]) (g' := g) (by decide +kernel) rfl ?_
        obtain ⟨w5, e5, H⟩ := xbind H
        refine xcallS A (ix := 71) (nxt := 47) hrm hz [.int w4] [] 640 (c_X9_kindBegunBy hS _ e5) ok_X9_kindBegunBy (by decide +kernel) rfl (fun r g1 hq => ?_)
        rw [hq.1, hq.2]
        show xW k S 0 0 47 [some (.ref 18), some (.ref 1), some (.int l2), some (.int l3), some (.int w4), none, none] [.int w5] g
        refine xb A [(.istore 5, 2, 0, 0, .null), (.iload 5, 2, 0, 0, .null), (.iconst 2, 1, 0, 0, .int 2)] (pc' := 52) (ls' := [some (.ref 18), some (.ref 1), some (.int l2), some (.int l3), some (.int w4), some (.int w5), none]) (st' := [.int 2, .int w5]) (g' := g) (by decide +kernel) rfl ?_
        refine xic_eq A (9) 61 55 (by decide +kernel) (fun h5 => ?_) (fun h5 => ?_)
        · rw [if_pos h5] at H
          exact t_X9_scan_18_1_61 hS A hR hrm hz ih _ _ _ _ _ H
        · rw [if_neg h5] at H
          refine xb A [(.iload 5, 2, 0, 0, .null), (.iconst 3, 1, 0, 0, .int 3)] (pc' := 58) (ls' := [some (.ref 18), some (.ref 1), some (.int l2), some (.int l3), some (.int w4), some (.int w5), none]) (st' := [.int 3, .int w5]) (g' := g) (by decide +kernel) rfl ?_
          refine xic_ne A (7) 65 61 (by decide +kernel) (fun h10 => ?_) (fun h10 => ?_)
          · rw [if_neg h10] at H
            refine xb A [(.iconst 0, 1, 0, 0, .int 0)] (pc' := 66) (ls' := [some (.ref 18), some (.ref 1), some (.int l2), some (.int l3), some (.int w4), some (.int w5), none]) (st' := [.int 0]) (g' := g) (by decide +kernel) rfl ?_
            exact t_X9_scan_18_1_66 hS A hR hrm hz ih _ _ _ _ _ _ H
          · rw [if_pos h10] at H
            exact t_X9_scan_18_1_61 hS A hR hrm hz ih _ _ _ _ _ H
theorem fr_X9_scan_18_1_17   : ∀ (n : Nat) (l2 : Int32) (l3 : Int32) (g : xG) (out : xG), f_X9_scan_18_1_17 n l2 l3 g = some out → xfrm fp_X9_scan_18_1 g (out) := by
  intro n
  induction n with
  | zero => intro l2 l3 g out H; exact absurd H (by simp [f_X9_scan_18_1_17])
  | succ n ih =>
    intro l2 l3 g out H
    have H : (if (g.1 18 5) ≤ l3 then
  f_X9_scan_18_1_116 xN 0 g
else
  if 402 ≤ (g.1 18 4) then
    f_X9_scan_18_1_116 xN 0 g
  else
    (f_X8_byteAt_1 l3 g).bind fun w4 =>
    (f_X9_kindBegunBy w4).bind fun w5 =>
    if w5 = 2 then
      f_X9_scan_18_1_61 (f_X9_scan_18_1_17 n) l2 l3 w4 w5 g
    else
      if w5 = 3 then
        f_X9_scan_18_1_61 (f_X9_scan_18_1_17 n) l2 l3 w4 w5 g
      else
        f_X9_scan_18_1_66 (f_X9_scan_18_1_17 n) l2 l3 w4 w5 0 g) = some out := H
    by_cases h1 : (g.1 18 5) ≤ l3
    · rw [if_pos h1] at H
      exact xfrm.tr xfrm.rf (fr_X9_scan_18_1_116 _ _ _ _ H) rfl
    · rw [if_neg h1] at H
      by_cases h4 : 402 ≤ (g.1 18 4)
      · rw [if_pos h4] at H
        exact xfrm.tr xfrm.rf (fr_X9_scan_18_1_116 _ _ _ _ H) rfl
      · rw [if_neg h4] at H
        obtain ⟨w4, e4, H⟩ := xbind H
        obtain ⟨w5, e5, H⟩ := xbind H
        by_cases h5 : w5 = 2
        · rw [if_pos h5] at H
          exact xfrm.tr xfrm.rf (fr_X9_scan_18_1_61 ih _ _ _ _ _ _ H) rfl
        · rw [if_neg h5] at H
          by_cases h10 : w5 = 3
          · rw [if_pos h10] at H
            exact xfrm.tr xfrm.rf (fr_X9_scan_18_1_61 ih _ _ _ _ _ _ H) rfl
          · rw [if_neg h10] at H
            exact xfrm.tr xfrm.rf (fr_X9_scan_18_1_66 ih _ _ _ _ _ _ _ H) rfl
set_option maxRecDepth 20000 in
theorem c_X9_scan_18_1 {S : List xSh} (hS : xpf SH1 S) {g : xG}  (out : xG) (H : f_X9_scan_18_1  g = some out) : xC mX9_scan 5 112 0 0 S [.ref 18, .ref 1] g S (fun r g' => r = none ∧ g' = out) := by
  have H : (f_X9_scan_18_1_17 xN 0 0 (xupd (xupd g.1 18 4 0) 18 5 (f_X8_size_1 (xupd g.1 18 4 0, g.2)), g.2)) = some out := H
  refine xC.of 9 SH1 [some (.ref 18), some (.ref 1), none, none, none, none, none] hS (by decide +kernel) rfl (fun _ _ => Nat.le_of_ble_eq_true rfl) (fun _ _ => rfl) ?_
  intro k A hR hrm hz
  refine xb A [(.aload_n 0, 1, 0, 0, .null), (.iconst 0, 1, 0, 0, .int 0), (.putfield 47, 3, 18, 4, .int 0), (.aload_n 0, 1, 0, 0, .null), (.aload_n 1, 1, 0, 0, .null)] (pc' := 7) (ls' := [some (.ref 18), some (.ref 1), none, none, none, none, none]) (st' := [.ref 1, .ref 18]) (g' := (xupd g.1 18 4 0, g.2)) (by decide +kernel) rfl ?_
  refine xcallV A (ix := 62) (nxt := 10) hrm hz [] [.ref 18] 635 (c_X8_size_1 hS _ rfl) ok_X8_size (by decide +kernel) rfl (fun r g1 hq => ?_)
  rw [hq.1, hq.2]
  show xW k S 0 0 10 [some (.ref 18), some (.ref 1), none, none, none, none, none] [.int (f_X8_size_1 (xupd g.1 18 4 0, g.2)), .ref 18] (xupd g.1 18 4 0, g.2)
  refine xb A [(.putfield 55, 3, 18, 5, .int 0), (.iconst 0, 1, 0, 0, .int 0), (.istore_n 2, 1, 0, 0, .null), (.iconst 0, 1, 0, 0, .int 0), (.istore_n 3, 1, 0, 0, .null)] (pc' := 17) (ls' := [some (.ref 18), some (.ref 1), some (.int 0), some (.int 0), none, none, none]) (st' := []) (g' := (xupd (xupd g.1 18 4 0) 18 5 (f_X8_size_1 (xupd g.1 18 4 0, g.2)), g.2)) (by decide +kernel) rfl ?_
  exact t_X9_scan_18_1_17 hS A hR hrm hz _ _ _ _ H
theorem fr_X9_scan_18_1  {g : xG} (out : xG) (H : f_X9_scan_18_1  g = some out) : xfrm fp_X9_scan_18_1 g (out) := by
  have H : (f_X9_scan_18_1_17 xN 0 0 (xupd (xupd g.1 18 4 0) 18 5 (f_X8_size_1 (xupd g.1 18 4 0, g.2)), g.2)) = some out := H
  have hf1 : xfrm fp_X9_scan_18_1 g ((xupd g.1 18 4 0, g.2)) := xfrm.up xfrm.rf rfl
  have hf2 : xfrm fp_X9_scan_18_1 g ((xupd (xupd g.1 18 4 0) 18 5 (f_X8_size_1 (xupd g.1 18 4 0, g.2)), g.2)) := xfrm.up hf1 rfl
  exact xfrm.tr hf2 (fr_X9_scan_18_1_17 _ _ _ _ _ H) rfl
def fp_X2_begin_32 : List (Nat × Option Nat) := [(35, none)]
def f_X2_begin_32 (p1 : Int32) (g : xG) : xG :=
  xl (xput g 35 4 p1 (g.1 32 4)) fun w1 =>
  w1
set_option maxRecDepth 20000 in
theorem c_X2_begin_32 {S : List xSh} (hS : xpf SH1 S) {g : xG} {p1 : Int32} (out : xG) (H : f_X2_begin_32 p1 g = out) : xC mX2_begin 1 22 0 0 S [.ref 32, .int p1] g S (fun r g' => r = none ∧ g' = out) := by
  have H : (xl (xput g 35 4 p1 (g.1 32 4)) fun w1 =>
w1) = out := H
  refine xC.of 2 SH1 [some (.ref 32), some (.int p1)] hS (by decide +kernel) rfl (fun _ _ => Nat.le_of_ble_eq_true rfl) (fun _ _ => rfl) ?_
  intro k A hR hrm hz
  refine xb A [(.aload_n 0, 1, 0, 0, .null), (.getfield 20, 3, 32, 2, .ref 35), (.iload_n 1, 1, 0, 0, .null), (.aload_n 0, 1, 0, 0, .null), (.getfield 26, 3, 32, 4, .int 0)] (pc' := 9) (ls' := [some (.ref 32), some (.int p1)]) (st' := [.int (g.1 32 4), .int p1, .ref 35]) (g' := g) (by decide +kernel) rfl ?_
  obtain ⟨w1, e1, H⟩ := xl_elim H
  refine xcallSN A (ix := 42) (nxt := 12) (host := "NoonRinger") hrm hz [.ref 35, .int p1, .int (g.1 32 4)] [] 6 (c_X11_put (hS _ _ sh_35) (by decide)) ok_X11_put (by decide +kernel) rfl (fun r g1 hq => ?_)
  rw [hq.1, hq.2]
  rw [e1]
  show xW k S 0 0 12 [some (.ref 32), some (.int p1)] [] w1
  subst H
  exact xret_v A hR hz (by decide +kernel) ⟨rfl, rfl⟩
theorem fr_X2_begin_32 {p1 : Int32} {g : xG} (out : xG) (H : f_X2_begin_32 p1 g = out) : xfrm fp_X2_begin_32 g (out) := by
  have H : (xl (xput g 35 4 p1 (g.1 32 4)) fun w1 =>
w1) = out := H
  obtain ⟨w1, e1, H⟩ := xl_elim H
  have hf1 : xfrm fp_X2_begin_32 g (w1) := xfrm_xput xfrm.rf rfl e1
  subst H
  exact hf1
def fp_X2_add_32 : List (Nat × Option Nat) := [(32, some 4), (33, none), (34, none)]
def f_X2_add_32 (p1 : Int32) (p2 : Int32) (g : xG) : xG :=
  xl (xput g 33 408 (g.1 32 4) p1) fun w1 =>
  xl (xput w1 34 408 (w1.1 32 4) p2) fun w2 =>
  (xupd w2.1 32 4 ((w2.1 32 4) + 1), w2.2)
set_option maxRecDepth 20000 in
theorem c_X2_add_32 {S : List xSh} (hS : xpf SH1 S) {g : xG} {p1 : Int32} {p2 : Int32} (out : xG) (H : f_X2_add_32 p1 p2 g = out) : xC mX2_add 1 22 0 0 S [.ref 32, .int p1, .int p2] g S (fun r g' => r = none ∧ g' = out) := by
  have H : (xl (xput g 33 408 (g.1 32 4) p1) fun w1 =>
xl (xput w1 34 408 (w1.1 32 4) p2) fun w2 =>
(xupd w2.1 32 4 ((w2.1 32 4) + 1), w2.2)) = out := H
  refine xC.of 2 SH1 [some (.ref 32), some (.int p1), some (.int p2)] hS (by decide +kernel) rfl (fun _ _ => Nat.le_of_ble_eq_true rfl) (fun _ _ => rfl) ?_
  intro k A hR hrm hz
  refine xb A [(.aload_n 0, 1, 0, 0, .null), (.getfield 13, 3, 32, 0, .ref 33), (.aload_n 0, 1, 0, 0, .null), (.getfield 26, 3, 32, 4, .int 0), (.iload_n 1, 1, 0, 0, .null)] (pc' := 9) (ls' := [some (.ref 32), some (.int p1), some (.int p2)]) (st' := [.int p1, .int (g.1 32 4), .ref 33]) (g' := g) (by decide +kernel) rfl ?_
  obtain ⟨w1, e1, H⟩ := xl_elim H
  refine xcallSN A (ix := 42) (nxt := 12) (host := "NoonRinger") hrm hz [.ref 33, .int (g.1 32 4), .int p1] [] 6 (c_X11_put (hS _ _ sh_33) (by decide)) ok_X11_put (by decide +kernel) rfl (fun r g1 hq => ?_)
  rw [hq.1, hq.2]
  rw [e1]
  show xW k S 0 0 12 [some (.ref 32), some (.int p1), some (.int p2)] [] w1
  refine xb A [(.aload_n 0, 1, 0, 0, .null), (.getfield 17, 3, 32, 1, .ref 34), (.aload_n 0, 1, 0, 0, .null), (.getfield 26, 3, 32, 4, .int 0), (.iload_n 2, 1, 0, 0, .null)] (pc' := 21) (ls' := [some (.ref 32), some (.int p1), some (.int p2)]) (st' := [.int p2, .int (w1.1 32 4), .ref 34]) (g' := w1) (by decide +kernel) rfl ?_
  obtain ⟨w2, e2, H⟩ := xl_elim H
  refine xcallSN A (ix := 42) (nxt := 24) (host := "NoonRinger") hrm hz [.ref 34, .int (w1.1 32 4), .int p2] [] 6 (c_X11_put (hS _ _ sh_34) (by decide)) ok_X11_put (by decide +kernel) rfl (fun r g1 hq => ?_)
  rw [hq.1, hq.2]
  rw [e2]
  show xW k S 0 0 24 [some (.ref 32), some (.int p1), some (.int p2)] [] w2
  refine xb A [(.aload_n 0, 1, 0, 0, .null), (.dup, 1, 0, 0, .null), (.getfield 26, 3, 32, 4, .int 0), (.iconst 1, 1, 0, 0, .int 1), (.iadd, 1, 0, 0, .null), (.putfield 26, 3, 32, 4, .int 0)] (pc' := 34) (ls' := [some (.ref 32), some (.int p1), some (.int p2)]) (st' := []) (g' := (xupd w2.1 32 4 ((w2.1 32 4) + 1), w2.2)) (by decide +kernel) rfl ?_
  subst H
  exact xret_v A hR hz (by decide +kernel) ⟨rfl, rfl⟩
theorem fr_X2_add_32 {p1 : Int32} {p2 : Int32} {g : xG} (out : xG) (H : f_X2_add_32 p1 p2 g = out) : xfrm fp_X2_add_32 g (out) := by
  have H : (xl (xput g 33 408 (g.1 32 4) p1) fun w1 =>
xl (xput w1 34 408 (w1.1 32 4) p2) fun w2 =>
(xupd w2.1 32 4 ((w2.1 32 4) + 1), w2.2)) = out := H
  obtain ⟨w1, e1, H⟩ := xl_elim H
  have hf1 : xfrm fp_X2_add_32 g (w1) := xfrm_xput xfrm.rf rfl e1
  obtain ⟨w2, e2, H⟩ := xl_elim H
  have hf2 : xfrm fp_X2_add_32 g (w2) := xfrm_xput hf1 rfl e2
  have hf3 : xfrm fp_X2_add_32 g ((xupd w2.1 32 4 ((w2.1 32 4) + 1), w2.2)) := xfrm.up hf2 rfl
  subst H
  exact hf3
def fp_X2_clear_32 : List (Nat × Option Nat) := [(32, some 4), (33, none), (34, none), (35, none)]
def f_X2_clear_32  (g : xG) : xG :=
  xl (f_X2_begin_32 0 (xupd g.1 32 4 0, g.2)) fun w1 =>
  xl (f_X2_add_32 2 0 w1) fun w2 =>
  xl (f_X2_add_32 0 0 w2) fun w3 =>
  xl (f_X2_begin_32 1 w3) fun w4 =>
  xl (f_X2_add_32 2 0 w4) fun w5 =>
  xl (f_X2_add_32 0 0 w5) fun w6 =>
  xl (f_X2_begin_32 2 w6) fun w7 =>
  xl (f_X2_add_32 1 1 w7) fun w8 =>
  xl (f_X2_add_32 0 0 w8) fun w9 =>
  xl (f_X2_begin_32 3 w9) fun w10 =>
  xl (f_X2_add_32 1 0 w10) fun w11 =>
  xl (f_X2_add_32 0 0 w11) fun w12 =>
  w12
set_option maxRecDepth 20000 in
theorem c_X2_clear_32 {S : List xSh} (hS : xpf SH1 S) {g : xG}  (out : xG) (H : f_X2_clear_32  g = out) : xC mX2_clear 2 44 0 0 S [.ref 32] g S (fun r g' => r = none ∧ g' = out) := by
  have H : (xl (f_X2_begin_32 0 (xupd g.1 32 4 0, g.2)) fun w1 =>
xl (f_X2_add_32 2 0 w1) fun w2 =>
xl (f_X2_add_32 0 0 w2) fun w3 =>
xl (f_X2_begin_32 1 w3) fun w4 =>
xl (f_X2_add_32 2 0 w4) fun w5 =>
xl (f_X2_add_32 0 0 w5) fun w6 =>
xl (f_X2_begin_32 2 w6) fun w7 =>
xl (f_X2_add_32 1 1 w7) fun w8 =>
xl (f_X2_add_32 0 0 w8) fun w9 =>
xl (f_X2_begin_32 3 w9) fun w10 =>
xl (f_X2_add_32 1 0 w10) fun w11 =>
xl (f_X2_add_32 0 0 w11) fun w12 =>
w12) = out := H
  refine xC.of 2 SH1 [some (.ref 32)] hS (by decide +kernel) rfl (fun _ _ => Nat.le_of_ble_eq_true rfl) (fun _ _ => rfl) ?_
  intro k A hR hrm hz
  refine xb A [(.aload_n 0, 1, 0, 0, .null), (.iconst 0, 1, 0, 0, .int 0), (.putfield 26, 3, 32, 4, .int 0), (.aload_n 0, 1, 0, 0, .null), (.iconst 0, 1, 0, 0, .int 0)] (pc' := 7) (ls' := [some (.ref 32)]) (st' := [.int 0, .ref 32]) (g' := (xupd g.1 32 4 0, g.2)) (by decide +kernel) rfl ?_
  obtain ⟨w1, e1, H⟩ := xl_elim H
  refine xcallV A (ix := 30) (nxt := 10) hrm hz [.int 0] [] 450 (c_X2_begin_32 hS _ e1) ok_X2_begin (by decide +kernel) rfl (fun r g1 hq => ?_)
  rw [hq.1, hq.2]
  show xW k S 0 0 10 [some (.ref 32)] [] w1
  refine xb A [(.aload_n 0, 1, 0, 0, .null), (.iconst 2, 1, 0, 0, .int 2), (.iconst 0, 1, 0, 0, .int 0)] (pc' := 13) (ls' := [some (.ref 32)]) (st' := [.int 0, .int 2, .ref 32]) (g' := w1) (by decide +kernel) rfl ?_
  obtain ⟨w2, e2, H⟩ := xl_elim H
  refine xcallV A (ix := 34) (nxt := 16) hrm hz [.int 2, .int 0] [] 457 (c_X2_add_32 hS _ e2) ok_X2_add (by decide +kernel) rfl (fun r g1 hq => ?_)
  rw [hq.1, hq.2]
  show xW k S 0 0 16 [some (.ref 32)] [] w2
  refine xb A [(.aload_n 0, 1, 0, 0, .null), (.iconst 0, 1, 0, 0, .int 0), (.iconst 0, 1, 0, 0, .int 0)] (pc' := 19) (ls' := [some (.ref 32)]) (st' := [.int 0, .int 0, .ref 32]) (g' := w2) (by decide +kernel) rfl ?_
  obtain ⟨w3, e3, H⟩ := xl_elim H
  refine xcallV A (ix := 34) (nxt := 22) hrm hz [.int 0, .int 0] [] 457 (c_X2_add_32 hS _ e3) ok_X2_add (by decide +kernel) rfl (fun r g1 hq => ?_)
  rw [hq.1, hq.2]
  show xW k S 0 0 22 [some (.ref 32)] [] w3
  refine xb A [(.aload_n 0, 1, 0, 0, .null), (.iconst 1, 1, 0, 0, .int 1)] (pc' := 24) (ls' := [some (.ref 32)]) (st' := [.int 1, .ref 32]) (g' := w3) (by decide +kernel) rfl ?_
  obtain ⟨w4, e4, H⟩ := xl_elim H
  refine xcallV A (ix := 30) (nxt := 27) hrm hz [.int 1] [] 450 (c_X2_begin_32 hS _ e4) ok_X2_begin (by decide +kernel) rfl (fun r g1 hq => ?_)
  rw [hq.1, hq.2]
  show xW k S 0 0 27 [some (.ref 32)] [] w4
  refine xb A [(.aload_n 0, 1, 0, 0, .null), (.iconst 2, 1, 0, 0, .int 2), (.iconst 0, 1, 0, 0, .int 0)] (pc' := 30) (ls' := [some (.ref 32)]) (st' := [.int 0, .int 2, .ref 32]) (g' := w4) (by decide +kernel) rfl ?_
  obtain ⟨w5, e5, H⟩ := xl_elim H
  refine xcallV A (ix := 34) (nxt := 33) hrm hz [.int 2, .int 0] [] 457 (c_X2_add_32 hS _ e5) ok_X2_add (by decide +kernel) rfl (fun r g1 hq => ?_)
  rw [hq.1, hq.2]
  show xW k S 0 0 33 [some (.ref 32)] [] w5
  refine xb A [(.aload_n 0, 1, 0, 0, .null), (.iconst 0, 1, 0, 0, .int 0), (.iconst 0, 1, 0, 0, .int 0)] (pc' := 36) (ls' := [some (.ref 32)]) (st' := [.int 0, .int 0, .ref 32]) (g' := w5) (by decide +kernel) rfl ?_
  obtain ⟨w6, e6, H⟩ := xl_elim H
  refine xcallV A (ix := 34) (nxt := 39) hrm hz [.int 0, .int 0] [] 457 (c_X2_add_32 hS _ e6) ok_X2_add (by decide +kernel) rfl (fun r g1 hq => ?_)
  rw [hq.1, hq.2]
  show xW k S 0 0 39 [some (.ref 32)] [] w6
  refine xb A [(.aload_n 0, 1, 0, 0, .null), (.iconst 2, 1, 0, 0, .int 2)] (pc' := 41) (ls' := [some (.ref 32)]) (st' := [.int 2, .ref 32]) (g' := w6) (by decide +kernel) rfl ?_
  obtain ⟨w7, e7, H⟩ := xl_elim H
  refine xcallV A (ix := 30) (nxt := 44) hrm hz [.int 2] [] 450 (c_X2_begin_32 hS _ e7) ok_X2_begin (by decide +kernel) rfl (fun r g1 hq => ?_)
  rw [hq.1, hq.2]
  show xW k S 0 0 44 [some (.ref 32)] [] w7
  refine xb A [(.aload_n 0, 1, 0, 0, .null), (.iconst 1, 1, 0, 0, .int 1), (.iconst 1, 1, 0, 0, .int 1)] (pc' := 47) (ls' := [some (.ref 32)]) (st' := [.int 1, .int 1, .ref 32]) (g' := w7) (by decide +kernel) rfl ?_
  obtain ⟨w8, e8, H⟩ := xl_elim H
  refine xcallV A (ix := 34) (nxt := 50) hrm hz [.int 1, .int 1] [] 457 (c_X2_add_32 hS _ e8) ok_X2_add (by decide +kernel) rfl (fun r g1 hq => ?_)
  rw [hq.1, hq.2]
  show xW k S 0 0 50 [some (.ref 32)] [] w8
  refine xb A [(.aload_n 0, 1, 0, 0, .null), (.iconst 0, 1, 0, 0, .int 0), (.iconst 0, 1, 0, 0, .int 0)] (pc' := 53) (ls' := [some (.ref 32)]) (st' := [.int 0, .int 0, .ref 32]) (g' := w8) (by decide +kernel) rfl ?_
  obtain ⟨w9, e9, H⟩ := xl_elim H
  refine xcallV A (ix := 34) (nxt := 56) hrm hz [.int 0, .int 0] [] 457 (c_X2_add_32 hS _ e9) ok_X2_add (by decide +kernel) rfl (fun r g1 hq => ?_)
  rw [hq.1, hq.2]
  show xW k S 0 0 56 [some (.ref 32)] [] w9
  refine xb A [(.aload_n 0, 1, 0, 0, .null), (.iconst 3, 1, 0, 0, .int 3)] (pc' := 58) (ls' := [some (.ref 32)]) (st' := [.int 3, .ref 32]) (g' := w9) (by decide +kernel) rfl ?_
  obtain ⟨w10, e10, H⟩ := xl_elim H
  refine xcallV A (ix := 30) (nxt := 61) hrm hz [.int 3] [] 450 (c_X2_begin_32 hS _ e10) ok_X2_begin (by decide +kernel) rfl (fun r g1 hq => ?_)
  rw [hq.1, hq.2]
  show xW k S 0 0 61 [some (.ref 32)] [] w10
  refine xb A [(.aload_n 0, 1, 0, 0, .null), (.iconst 1, 1, 0, 0, .int 1), (.iconst 0, 1, 0, 0, .int 0)] (pc' := 64) (ls' := [some (.ref 32)]) (st' := [.int 0, .int 1, .ref 32]) (g' := w10) (by decide +kernel) rfl ?_
  obtain ⟨w11, e11, H⟩ := xl_elim H
  refine xcallV A (ix := 34) (nxt := 67) hrm hz [.int 1, .int 0] [] 457 (c_X2_add_32 hS _ e11) ok_X2_add (by decide +kernel) rfl (fun r g1 hq => ?_)
  rw [hq.1, hq.2]
  show xW k S 0 0 67 [some (.ref 32)] [] w11
  refine xb A [(.aload_n 0, 1, 0, 0, .null), (.iconst 0, 1, 0, 0, .int 0), (.iconst 0, 1, 0, 0, .int 0)] (pc' := 70) (ls' := [some (.ref 32)]) (st' := [.int 0, .int 0, .ref 32]) (g' := w11) (by decide +kernel) rfl ?_
  obtain ⟨w12, e12, H⟩ := xl_elim H
  refine xcallV A (ix := 34) (nxt := 73) hrm hz [.int 0, .int 0] [] 457 (c_X2_add_32 hS _ e12) ok_X2_add (by decide +kernel) rfl (fun r g1 hq => ?_)
  rw [hq.1, hq.2]
  show xW k S 0 0 73 [some (.ref 32)] [] w12
  subst H
  exact xret_v A hR hz (by decide +kernel) ⟨rfl, rfl⟩
theorem fr_X2_clear_32  {g : xG} (out : xG) (H : f_X2_clear_32  g = out) : xfrm fp_X2_clear_32 g (out) := by
  have H : (xl (f_X2_begin_32 0 (xupd g.1 32 4 0, g.2)) fun w1 =>
xl (f_X2_add_32 2 0 w1) fun w2 =>
xl (f_X2_add_32 0 0 w2) fun w3 =>
xl (f_X2_begin_32 1 w3) fun w4 =>
xl (f_X2_add_32 2 0 w4) fun w5 =>
xl (f_X2_add_32 0 0 w5) fun w6 =>
xl (f_X2_begin_32 2 w6) fun w7 =>
xl (f_X2_add_32 1 1 w7) fun w8 =>
xl (f_X2_add_32 0 0 w8) fun w9 =>
xl (f_X2_begin_32 3 w9) fun w10 =>
xl (f_X2_add_32 1 0 w10) fun w11 =>
xl (f_X2_add_32 0 0 w11) fun w12 =>
w12) = out := H
  have hf1 : xfrm fp_X2_clear_32 g ((xupd g.1 32 4 0, g.2)) := xfrm.up xfrm.rf rfl
  obtain ⟨w1, e1, H⟩ := xl_elim H
  have hf2 : xfrm fp_X2_clear_32 g (w1) := xfrm.tr hf1 (fr_X2_begin_32 _ e1) rfl
  obtain ⟨w2, e2, H⟩ := xl_elim H
  have hf3 : xfrm fp_X2_clear_32 g (w2) := xfrm.tr hf2 (fr_X2_add_32 _ e2) rfl
  obtain ⟨w3, e3, H⟩ := xl_elim H
  have hf4 : xfrm fp_X2_clear_32 g (w3) := xfrm.tr hf3 (fr_X2_add_32 _ e3) rfl
  obtain ⟨w4, e4, H⟩ := xl_elim H
  have hf5 : xfrm fp_X2_clear_32 g (w4) := xfrm.tr hf4 (fr_X2_begin_32 _ e4) rfl
  obtain ⟨w5, e5, H⟩ := xl_elim H
  have hf6 : xfrm fp_X2_clear_32 g (w5) := xfrm.tr hf5 (fr_X2_add_32 _ e5) rfl
  obtain ⟨w6, e6, H⟩ := xl_elim H
  have hf7 : xfrm fp_X2_clear_32 g (w6) := xfrm.tr hf6 (fr_X2_add_32 _ e6) rfl
  obtain ⟨w7, e7, H⟩ := xl_elim H
  have hf8 : xfrm fp_X2_clear_32 g (w7) := xfrm.tr hf7 (fr_X2_begin_32 _ e7) rfl
  obtain ⟨w8, e8, H⟩ := xl_elim H
  have hf9 : xfrm fp_X2_clear_32 g (w8) := xfrm.tr hf8 (fr_X2_add_32 _ e8) rfl
  obtain ⟨w9, e9, H⟩ := xl_elim H
  have hf10 : xfrm fp_X2_clear_32 g (w9) := xfrm.tr hf9 (fr_X2_add_32 _ e9) rfl
  obtain ⟨w10, e10, H⟩ := xl_elim H
  have hf11 : xfrm fp_X2_clear_32 g (w10) := xfrm.tr hf10 (fr_X2_begin_32 _ e10) rfl
  obtain ⟨w11, e11, H⟩ := xl_elim H
  have hf12 : xfrm fp_X2_clear_32 g (w11) := xfrm.tr hf11 (fr_X2_add_32 _ e11) rfl
  obtain ⟨w12, e12, H⟩ := xl_elim H
  have hf13 : xfrm fp_X2_clear_32 g (w12) := xfrm.tr hf12 (fr_X2_add_32 _ e12) rfl
  subst H
  exact hf13
def fp_X4_clear_23 : List (Nat × Option Nat) := [(23, some 9), (23, some 10), (23, some 11), (23, some 12), (23, some 13), (32, some 4), (33, none), (34, none), (35, none)]
def f_X4_clear_23  (g : xG) : xG :=
  xl (f_X2_clear_32 (xupd (xupd (xupd (xupd (xupd g.1 23 9 0) 23 10 0) 23 11 0) 23 12 0) 23 13 0, g.2)) fun w1 =>
  w1
set_option maxRecDepth 20000 in
theorem c_X4_clear_23 {S : List xSh} (hS : xpf SH1 S) {g : xG}  (out : xG) (H : f_X4_clear_23  g = out) : xC mX4_clear 3 64 0 0 S [.ref 23] g S (fun r g' => r = none ∧ g' = out) := by
  have H : (xl (f_X2_clear_32 (xupd (xupd (xupd (xupd (xupd g.1 23 9 0) 23 10 0) 23 11 0) 23 12 0) 23 13 0, g.2)) fun w1 =>
w1) = out := H
  refine xC.of 4 SH1 [some (.ref 23)] hS (by decide +kernel) rfl (fun _ _ => Nat.le_of_ble_eq_true rfl) (fun _ _ => rfl) ?_
  intro k A hR hrm hz
  refine xb A [(.aload_n 0, 1, 0, 0, .null), (.iconst 0, 1, 0, 0, .int 0), (.putfield 44, 3, 23, 9, .int 0), (.aload_n 0, 1, 0, 0, .null), (.iconst 0, 1, 0, 0, .int 0), (.putfield 48, 3, 23, 10, .int 0), (.aload_n 0, 1, 0, 0, .null), (.iconst 0, 1, 0, 0, .int 0), (.putfield 51, 3, 23, 11, .int 0), (.aload_n 0, 1, 0, 0, .null), (.iconst 0, 1, 0, 0, .int 0), (.putfield 54, 3, 23, 12, .int 0), (.aload_n 0, 1, 0, 0, .null), (.iconst 0, 1, 0, 0, .int 0), (.putfield 57, 3, 23, 13, .int 0), (.aload_n 0, 1, 0, 0, .null), (.getfield 40, 3, 23, 8, .ref 32)] (pc' := 29) (ls' := [some (.ref 23)]) (st' := [.ref 32]) (g' := (xupd (xupd (xupd (xupd (xupd g.1 23 9 0) 23 10 0) 23 11 0) 23 12 0) 23 13 0, g.2)) (by decide +kernel) rfl ?_
  obtain ⟨w1, e1, H⟩ := xl_elim H
  refine xcallV A (ix := 60) (nxt := 32) hrm hz [] [] 446 (c_X2_clear_32 hS _ e1) ok_X2_clear (by decide +kernel) rfl (fun r g1 hq => ?_)
  rw [hq.1, hq.2]
  show xW k S 0 0 32 [some (.ref 23)] [] w1
  subst H
  exact xret_v A hR hz (by decide +kernel) ⟨rfl, rfl⟩
theorem fr_X4_clear_23  {g : xG} (out : xG) (H : f_X4_clear_23  g = out) : xfrm fp_X4_clear_23 g (out) := by
  have H : (xl (f_X2_clear_32 (xupd (xupd (xupd (xupd (xupd g.1 23 9 0) 23 10 0) 23 11 0) 23 12 0) 23 13 0, g.2)) fun w1 =>
w1) = out := H
  have hf1 : xfrm fp_X4_clear_23 g ((xupd g.1 23 9 0, g.2)) := xfrm.up xfrm.rf rfl
  have hf2 : xfrm fp_X4_clear_23 g ((xupd (xupd g.1 23 9 0) 23 10 0, g.2)) := xfrm.up hf1 rfl
  have hf3 : xfrm fp_X4_clear_23 g ((xupd (xupd (xupd g.1 23 9 0) 23 10 0) 23 11 0, g.2)) := xfrm.up hf2 rfl
  have hf4 : xfrm fp_X4_clear_23 g ((xupd (xupd (xupd (xupd g.1 23 9 0) 23 10 0) 23 11 0) 23 12 0, g.2)) := xfrm.up hf3 rfl
  have hf5 : xfrm fp_X4_clear_23 g ((xupd (xupd (xupd (xupd (xupd g.1 23 9 0) 23 10 0) 23 11 0) 23 12 0) 23 13 0, g.2)) := xfrm.up hf4 rfl
  obtain ⟨w1, e1, H⟩ := xl_elim H
  have hf6 : xfrm fp_X4_clear_23 g (w1) := xfrm.tr hf5 (fr_X2_clear_32 _ e1) rfl
  subst H
  exact hf6
def fp_X3_stop_17 : List (Nat × Option Nat) := [(17, some 6)]
def f_X3_stop_17 (p1 : Int32) (g : xG) : xG :=
  if (g.1 17 6) = 0 then
    (xupd g.1 17 6 p1, g.2)
  else
    g
set_option maxRecDepth 20000 in
theorem c_X3_stop_17 {S : List xSh} (hS : xpf SH1 S) {g : xG} {p1 : Int32} (out : xG) (H : f_X3_stop_17 p1 g = out) : xC mX3_stop 0 0 0 0 S [.ref 17, .int p1] g S (fun r g' => r = none ∧ g' = out) := by
  have H : (if (g.1 17 6) = 0 then
  (xupd g.1 17 6 p1, g.2)
else
  g) = out := H
  refine xC.of 3 SH1 [some (.ref 17), some (.int p1)] hS (by decide +kernel) rfl (fun _ _ => Nat.le_of_ble_eq_true rfl) (fun _ _ => rfl) ?_
  intro k A hR hrm hz
  refine xb A [(.aload_n 0, 1, 0, 0, .null), (.getfield 33, 3, 17, 6, .int 0)] (pc' := 4) (ls' := [some (.ref 17), some (.int p1)]) (st' := [.int (g.1 17 6)]) (g' := g) (by decide +kernel) rfl ?_
  refine xif_ne A (8) 12 7 (by decide +kernel) (fun h1 => ?_) (fun h1 => ?_)
  · rw [if_neg h1] at H
    subst H
    exact xret_v A hR hz (by decide +kernel) ⟨rfl, rfl⟩
  · rw [if_pos h1] at H
    refine xb A [(.aload_n 0, 1, 0, 0, .null), (.iload_n 1, 1, 0, 0, .null), (.putfield 33, 3, 17, 6, .int 0)] (pc' := 12) (ls' := [some (.ref 17), some (.int p1)]) (st' := []) (g' := (xupd g.1 17 6 p1, g.2)) (by decide +kernel) rfl ?_
    subst H
    exact xret_v A hR hz (by decide +kernel) ⟨rfl, rfl⟩
theorem fr_X3_stop_17 {p1 : Int32} {g : xG} (out : xG) (H : f_X3_stop_17 p1 g = out) : xfrm fp_X3_stop_17 g (out) := by
  have H : (if (g.1 17 6) = 0 then
  (xupd g.1 17 6 p1, g.2)
else
  g) = out := H
  by_cases h1 : (g.1 17 6) = 0
  · rw [if_pos h1] at H
    have hf1 : xfrm fp_X3_stop_17 g ((xupd g.1 17 6 p1, g.2)) := xfrm.up xfrm.rf rfl
    subst H
    exact hf1
  · rw [if_neg h1] at H
    subst H
    exact xfrm.rf
def fp_X3_take_17 : List (Nat × Option Nat) := [(17, some 5), (17, some 6)]
def f_X3_take_17 (p1 : Int32) (g : xG) : Option (xG) :=
  if (g.1 17 6) = 0 then
    (f_X9_kindAt_18 (g.1 17 5) g).bind fun w1 =>
    if w1 = p1 then
      if (g.1 17 5) < 400 then
        some (xupd g.1 17 5 ((g.1 17 5) + 1), g.2)
      else
        xl (f_X3_stop_17 2 g) fun w2 =>
        some w2
    else
      xl (f_X3_stop_17 1 g) fun w3 =>
      some w3
  else
    some g
set_option maxRecDepth 20000 in
theorem c_X3_take_17 {S : List xSh} (hS : xpf SH1 S) {g : xG} {p1 : Int32} (out : xG) (H : f_X3_take_17 p1 g = some out) : xC mX3_take 1 21 0 0 S [.ref 17, .int p1] g S (fun r g' => r = none ∧ g' = out) := by
  have H : (if (g.1 17 6) = 0 then
  (f_X9_kindAt_18 (g.1 17 5) g).bind fun w1 =>
  if w1 = p1 then
    if (g.1 17 5) < 400 then
      some (xupd g.1 17 5 ((g.1 17 5) + 1), g.2)
    else
      xl (f_X3_stop_17 2 g) fun w2 =>
      some w2
  else
    xl (f_X3_stop_17 1 g) fun w3 =>
    some w3
else
  some g) = some out := H
  refine xC.of 3 SH1 [some (.ref 17), some (.int p1)] hS (by decide +kernel) rfl (fun _ _ => Nat.le_of_ble_eq_true rfl) (fun _ _ => rfl) ?_
  intro k A hR hrm hz
  refine xb A [(.aload_n 0, 1, 0, 0, .null), (.getfield 33, 3, 17, 6, .int 0)] (pc' := 4) (ls' := [some (.ref 17), some (.int p1)]) (st' := [.int (g.1 17 6)]) (g' := g) (by decide +kernel) rfl ?_
  refine xif_eq A (4) 8 7 (by decide +kernel) (fun h1 => ?_) (fun h1 => ?_)
  · rw [if_pos h1] at H
    refine xb A [(.aload_n 0, 1, 0, 0, .null), (.getfield 14, 3, 17, 1, .ref 18), (.aload_n 0, 1, 0, 0, .null), (.getfield 37, 3, 17, 5, .int 0)] (pc' := 16) (ls' := [some (.ref 17), some (.int p1)]) (st' := [.int (g.1 17 5), .ref 18]) (g' := g) (by decide +kernel) rfl ?_
    obtain ⟨w1, e1, H⟩ := xbind H
    refine xcallV A (ix := 57) (nxt := 19) hrm hz [.int (g.1 17 5)] [] 732 (c_X9_kindAt_18 hS _ e1) ok_X9_kindAt (by decide +kernel) rfl (fun r g1 hq => ?_)
    rw [hq.1, hq.2]
    show xW k S 0 0 19 [some (.ref 17), some (.int p1)] [.int w1] g
    refine xb A [(.iload_n 1, 1, 0, 0, .null)] (pc' := 20) (ls' := [some (.ref 17), some (.int p1)]) (st' := [.int p1, .int w1]) (g' := g) (by decide +kernel) rfl ?_
    refine xic_eq A (11) 31 23 (by decide +kernel) (fun h2 => ?_) (fun h2 => ?_)
    · rw [if_pos h2] at H
      refine xb A [(.aload_n 0, 1, 0, 0, .null), (.getfield 37, 3, 17, 5, .int 0), (.sipush 400, 3, 0, 0, .int 400)] (pc' := 38) (ls' := [some (.ref 17), some (.int p1)]) (st' := [.int 400, .int (g.1 17 5)]) (g' := g) (by decide +kernel) rfl ?_
      refine xic_lt A (11) 49 41 (by decide +kernel) (fun h3 => ?_) (fun h3 => ?_)
      · rw [if_pos h3] at H
        refine xb A [(.aload_n 0, 1, 0, 0, .null), (.dup, 1, 0, 0, .null), (.getfield 37, 3, 17, 5, .int 0), (.iconst 1, 1, 0, 0, .int 1), (.iadd, 1, 0, 0, .null), (.putfield 37, 3, 17, 5, .int 0)] (pc' := 59) (ls' := [some (.ref 17), some (.int p1)]) (st' := []) (g' := (xupd g.1 17 5 ((g.1 17 5) + 1), g.2)) (by decide +kernel) rfl ?_
        obtain rfl := Option.some.inj H
        exact xret_v A hR hz (by decide +kernel) ⟨rfl, rfl⟩
      · rw [if_neg h3] at H
        refine xb A [(.aload_n 0, 1, 0, 0, .null), (.iconst 2, 1, 0, 0, .int 2)] (pc' := 43) (ls' := [some (.ref 17), some (.int p1)]) (st' := [.int 2, .ref 17]) (g' := g) (by decide +kernel) rfl ?_
        obtain ⟨w2, e2, H⟩ := xl_elim H
        refine xcallV A (ix := 79) (nxt := 46) hrm hz [.int 2] [] 742 (c_X3_stop_17 hS _ e2) ok_X3_stop (by decide +kernel) rfl (fun r g1 hq => ?_)
        rw [hq.1, hq.2]
        show xW k S 0 0 46 [some (.ref 17), some (.int p1)] [] w2
        refine xgoto A (13) 59 (by decide +kernel) ?_
        obtain rfl := Option.some.inj H
        exact xret_v A hR hz (by decide +kernel) ⟨rfl, rfl⟩
    · rw [if_neg h2] at H
      refine xb A [(.aload_n 0, 1, 0, 0, .null), (.iconst 1, 1, 0, 0, .int 1)] (pc' := 25) (ls' := [some (.ref 17), some (.int p1)]) (st' := [.int 1, .ref 17]) (g' := g) (by decide +kernel) rfl ?_
      obtain ⟨w3, e3, H⟩ := xl_elim H
      refine xcallV A (ix := 79) (nxt := 28) hrm hz [.int 1] [] 742 (c_X3_stop_17 hS _ e3) ok_X3_stop (by decide +kernel) rfl (fun r g1 hq => ?_)
      rw [hq.1, hq.2]
      show xW k S 0 0 28 [some (.ref 17), some (.int p1)] [] w3
      refine xgoto A (31) 59 (by decide +kernel) ?_
      obtain rfl := Option.some.inj H
      exact xret_v A hR hz (by decide +kernel) ⟨rfl, rfl⟩
  · rw [if_neg h1] at H
    obtain rfl := Option.some.inj H
    exact xret_v A hR hz (by decide +kernel) ⟨rfl, rfl⟩
theorem fr_X3_take_17 {p1 : Int32} {g : xG} (out : xG) (H : f_X3_take_17 p1 g = some out) : xfrm fp_X3_take_17 g (out) := by
  have H : (if (g.1 17 6) = 0 then
  (f_X9_kindAt_18 (g.1 17 5) g).bind fun w1 =>
  if w1 = p1 then
    if (g.1 17 5) < 400 then
      some (xupd g.1 17 5 ((g.1 17 5) + 1), g.2)
    else
      xl (f_X3_stop_17 2 g) fun w2 =>
      some w2
  else
    xl (f_X3_stop_17 1 g) fun w3 =>
    some w3
else
  some g) = some out := H
  by_cases h1 : (g.1 17 6) = 0
  · rw [if_pos h1] at H
    obtain ⟨w1, e1, H⟩ := xbind H
    by_cases h2 : w1 = p1
    · rw [if_pos h2] at H
      by_cases h3 : (g.1 17 5) < 400
      · rw [if_pos h3] at H
        have hf1 : xfrm fp_X3_take_17 g ((xupd g.1 17 5 ((g.1 17 5) + 1), g.2)) := xfrm.up xfrm.rf rfl
        obtain rfl := Option.some.inj H
        exact hf1
      · rw [if_neg h3] at H
        obtain ⟨w2, e2, H⟩ := xl_elim H
        have hf2 : xfrm fp_X3_take_17 g (w2) := xfrm.tr xfrm.rf (fr_X3_stop_17 _ e2) rfl
        obtain rfl := Option.some.inj H
        exact hf2
    · rw [if_neg h2] at H
      obtain ⟨w3, e3, H⟩ := xl_elim H
      have hf3 : xfrm fp_X3_take_17 g (w3) := xfrm.tr xfrm.rf (fr_X3_stop_17 _ e3) rfl
      obtain rfl := Option.some.inj H
      exact hf3
  · rw [if_neg h1] at H
    obtain rfl := Option.some.inj H
    exact xfrm.rf
def fp_X4_setSeed_23 : List (Nat × Option Nat) := [(23, some 13)]
def f_X4_setSeed_23 (p1 : Int32) (g : xG) : xG :=
  (xupd g.1 23 13 p1, g.2)
set_option maxRecDepth 20000 in
theorem c_X4_setSeed_23 {S : List xSh} (hS : xpf SH1 S) {g : xG} {p1 : Int32} (out : xG) (H : f_X4_setSeed_23 p1 g = out) : xC mX4_setSeed 0 0 0 0 S [.ref 23, .int p1] g S (fun r g' => r = none ∧ g' = out) := by
  have H : ((xupd g.1 23 13 p1, g.2)) = out := H
  refine xC.of 4 SH1 [some (.ref 23), some (.int p1)] hS (by decide +kernel) rfl (fun _ _ => Nat.le_of_ble_eq_true rfl) (fun _ _ => rfl) ?_
  intro k A hR hrm hz
  refine xb A [(.aload_n 0, 1, 0, 0, .null), (.iload_n 1, 1, 0, 0, .null), (.putfield 57, 3, 23, 13, .int 0)] (pc' := 5) (ls' := [some (.ref 23), some (.int p1)]) (st' := []) (g' := (xupd g.1 23 13 p1, g.2)) (by decide +kernel) rfl ?_
  subst H
  exact xret_v A hR hz (by decide +kernel) ⟨rfl, rfl⟩
theorem fr_X4_setSeed_23 {p1 : Int32} {g : xG} (out : xG) (H : f_X4_setSeed_23 p1 g = out) : xfrm fp_X4_setSeed_23 g (out) := by
  have H : ((xupd g.1 23 13 p1, g.2)) = out := H
  have hf1 : xfrm fp_X4_setSeed_23 g ((xupd g.1 23 13 p1, g.2)) := xfrm.up xfrm.rf rfl
  subst H
  exact hf1
def fp_X3_readSeed_17 : List (Nat × Option Nat) := [(17, some 5), (17, some 6), (23, some 13)]
def f_X3_readSeed_17  (g : xG) : Option (xG) :=
  (f_X3_take_17 21 g).bind fun w1 =>
  xl (f_X4_setSeed_23 ((f_X9_valueOf_18 (w1.1 17 5) w1).toInt32) w1) fun w2 =>
  (f_X3_take_17 3 w2).bind fun w3 =>
  some w3
set_option maxRecDepth 20000 in
theorem c_X3_readSeed_17 {S : List xSh} (hS : xpf SH1 S) {g : xG}  (out : xG) (H : f_X3_readSeed_17  g = some out) : xC mX3_readSeed 2 42 0 0 S [.ref 17] g S (fun r g' => r = none ∧ g' = out) := by
  have H : ((f_X3_take_17 21 g).bind fun w1 =>
xl (f_X4_setSeed_23 ((f_X9_valueOf_18 (w1.1 17 5) w1).toInt32) w1) fun w2 =>
(f_X3_take_17 3 w2).bind fun w3 =>
some w3) = some out := H
  refine xC.of 3 SH1 [some (.ref 17)] hS (by decide +kernel) rfl (fun _ _ => Nat.le_of_ble_eq_true rfl) (fun _ _ => rfl) ?_
  intro k A hR hrm hz
  refine xb A [(.aload_n 0, 1, 0, 0, .null), (.bipush 21, 2, 0, 0, .int 21)] (pc' := 3) (ls' := [some (.ref 17)]) (st' := [.int 21, .ref 17]) (g' := g) (by decide +kernel) rfl ?_
  obtain ⟨w1, e1, H⟩ := xbind H
  refine xcallV A (ix := 82) (nxt := 6) hrm hz [.int 21] [] 746 (c_X3_take_17 hS _ e1) ok_X3_take (by decide +kernel) rfl (fun r g1 hq => ?_)
  rw [hq.1, hq.2]
  show xW k S 0 0 6 [some (.ref 17)] [] w1
  refine xb A [(.aload_n 0, 1, 0, 0, .null), (.getfield 21, 3, 17, 2, .ref 23), (.aload_n 0, 1, 0, 0, .null), (.getfield 14, 3, 17, 1, .ref 18), (.aload_n 0, 1, 0, 0, .null), (.getfield 37, 3, 17, 5, .int 0)] (pc' := 18) (ls' := [some (.ref 17)]) (st' := [.int (w1.1 17 5), .ref 18, .ref 23]) (g' := w1) (by decide +kernel) rfl ?_
  refine xcallV A (ix := 128) (nxt := 21) hrm hz [.int (w1.1 17 5)] [.ref 23] 754 (c_X9_valueOf_18 hS _ rfl) ok_X9_valueOf (by decide +kernel) rfl (fun r g1 hq => ?_)
  rw [hq.1, hq.2]
  show xW k S 0 0 21 [some (.ref 17)] [.long (f_X9_valueOf_18 (w1.1 17 5) w1), .ref 23] w1
  refine xb A [(.l2i, 1, 0, 0, .null)] (pc' := 22) (ls' := [some (.ref 17)]) (st' := [.int ((f_X9_valueOf_18 (w1.1 17 5) w1).toInt32), .ref 23]) (g' := w1) (by decide +kernel) rfl ?_
  obtain ⟨w2, e2, H⟩ := xl_elim H
  refine xcallV A (ix := 132) (nxt := 25) hrm hz [.int ((f_X9_valueOf_18 (w1.1 17 5) w1).toInt32)] [] 813 (c_X4_setSeed_23 hS _ e2) ok_X4_setSeed (by decide +kernel) rfl (fun r g1 hq => ?_)
  rw [hq.1, hq.2]
  show xW k S 0 0 25 [some (.ref 17)] [] w2
  refine xb A [(.aload_n 0, 1, 0, 0, .null), (.iconst 3, 1, 0, 0, .int 3)] (pc' := 27) (ls' := [some (.ref 17)]) (st' := [.int 3, .ref 17]) (g' := w2) (by decide +kernel) rfl ?_
  obtain ⟨w3, e3, H⟩ := xbind H
  refine xcallV A (ix := 82) (nxt := 30) hrm hz [.int 3] [] 746 (c_X3_take_17 hS _ e3) ok_X3_take (by decide +kernel) rfl (fun r g1 hq => ?_)
  rw [hq.1, hq.2]
  show xW k S 0 0 30 [some (.ref 17)] [] w3
  obtain rfl := Option.some.inj H
  exact xret_v A hR hz (by decide +kernel) ⟨rfl, rfl⟩
theorem fr_X3_readSeed_17  {g : xG} (out : xG) (H : f_X3_readSeed_17  g = some out) : xfrm fp_X3_readSeed_17 g (out) := by
  have H : ((f_X3_take_17 21 g).bind fun w1 =>
xl (f_X4_setSeed_23 ((f_X9_valueOf_18 (w1.1 17 5) w1).toInt32) w1) fun w2 =>
(f_X3_take_17 3 w2).bind fun w3 =>
some w3) = some out := H
  obtain ⟨w1, e1, H⟩ := xbind H
  have hf1 : xfrm fp_X3_readSeed_17 g (w1) := xfrm.tr xfrm.rf (fr_X3_take_17 _ e1) rfl
  obtain ⟨w2, e2, H⟩ := xl_elim H
  have hf2 : xfrm fp_X3_readSeed_17 g (w2) := xfrm.tr hf1 (fr_X4_setSeed_23 _ e2) rfl
  obtain ⟨w3, e3, H⟩ := xbind H
  have hf3 : xfrm fp_X3_readSeed_17 g (w3) := xfrm.tr hf2 (fr_X3_take_17 _ e3) rfl
  obtain rfl := Option.some.inj H
  exact hf3
theorem c_X4_laws_23 {S : List xSh} (hS : xpf SH1 S) {g : xG}  : xC mX4_laws 0 0 0 0 S [.ref 23] g S (fun r g' => r = some (.ref 32) ∧ g' = g) := by
  refine xC.of 4 SH1 [some (.ref 23)] hS (by decide +kernel) rfl (fun _ _ => Nat.le_of_ble_eq_true rfl) (fun _ _ => rfl) ?_
  intro k A hR hrm hz
  refine xb A [(.aload_n 0, 1, 0, 0, .null), (.getfield 40, 3, 23, 8, .ref 32)] (pc' := 4) (ls' := [some (.ref 23)]) (st' := [.ref 32]) (g' := g) (by decide +kernel) rfl ?_
  exact xret_a A hR hz (by decide +kernel) ⟨rfl, rfl⟩
def fp_X3_takeOneMore_17 : List (Nat × Option Nat) := [(17, some 5), (17, some 6)]
def f_X3_takeOneMore_17 (p1 : Int32) (p2 : Int32) (p3 : Int32) (g : xG) : Option (xG) :=
  if p2 < p3 then
    (f_X3_take_17 p1 g).bind fun w1 =>
    some w1
  else
    xl (f_X3_stop_17 2 g) fun w2 =>
    (f_X3_take_17 p1 w2).bind fun w3 =>
    some w3
set_option maxRecDepth 20000 in
theorem c_X3_takeOneMore_17 {S : List xSh} (hS : xpf SH1 S) {g : xG} {p1 : Int32} {p2 : Int32} {p3 : Int32} (out : xG) (H : f_X3_takeOneMore_17 p1 p2 p3 g = some out) : xC mX3_takeOneMore 2 42 0 0 S [.ref 17, .int p1, .int p2, .int p3] g S (fun r g' => r = none ∧ g' = out) := by
  have H : (if p2 < p3 then
  (f_X3_take_17 p1 g).bind fun w1 =>
  some w1
else
  xl (f_X3_stop_17 2 g) fun w2 =>
  (f_X3_take_17 p1 w2).bind fun w3 =>
  some w3) = some out := H
  refine xC.of 3 SH1 [some (.ref 17), some (.int p1), some (.int p2), some (.int p3)] hS (by decide +kernel) rfl (fun _ _ => Nat.le_of_ble_eq_true rfl) (fun _ _ => rfl) ?_
  intro k A hR hrm hz
  refine xb A [(.iload_n 2, 1, 0, 0, .null), (.iload_n 3, 1, 0, 0, .null)] (pc' := 2) (ls' := [some (.ref 17), some (.int p1), some (.int p2), some (.int p3)]) (st' := [.int p3, .int p2]) (g' := g) (by decide +kernel) rfl ?_
  refine xic_lt A (8) 10 5 (by decide +kernel) (fun h1 => ?_) (fun h1 => ?_)
  · rw [if_pos h1] at H
    refine xb A [(.aload_n 0, 1, 0, 0, .null), (.iload_n 1, 1, 0, 0, .null)] (pc' := 12) (ls' := [some (.ref 17), some (.int p1), some (.int p2), some (.int p3)]) (st' := [.int p1, .ref 17]) (g' := g) (by decide +kernel) rfl ?_
    obtain ⟨w1, e1, H⟩ := xbind H
    refine xcallV A (ix := 82) (nxt := 15) hrm hz [.int p1] [] 746 (c_X3_take_17 hS _ e1) ok_X3_take (by decide +kernel) rfl (fun r g1 hq => ?_)
    rw [hq.1, hq.2]
    show xW k S 0 0 15 [some (.ref 17), some (.int p1), some (.int p2), some (.int p3)] [] w1
    obtain rfl := Option.some.inj H
    exact xret_v A hR hz (by decide +kernel) ⟨rfl, rfl⟩
  · rw [if_neg h1] at H
    refine xb A [(.aload_n 0, 1, 0, 0, .null), (.iconst 2, 1, 0, 0, .int 2)] (pc' := 7) (ls' := [some (.ref 17), some (.int p1), some (.int p2), some (.int p3)]) (st' := [.int 2, .ref 17]) (g' := g) (by decide +kernel) rfl ?_
    obtain ⟨w2, e2, H⟩ := xl_elim H
    refine xcallV A (ix := 79) (nxt := 10) hrm hz [.int 2] [] 742 (c_X3_stop_17 hS _ e2) ok_X3_stop (by decide +kernel) rfl (fun r g1 hq => ?_)
    rw [hq.1, hq.2]
    show xW k S 0 0 10 [some (.ref 17), some (.int p1), some (.int p2), some (.int p3)] [] w2
    refine xb A [(.aload_n 0, 1, 0, 0, .null), (.iload_n 1, 1, 0, 0, .null)] (pc' := 12) (ls' := [some (.ref 17), some (.int p1), some (.int p2), some (.int p3)]) (st' := [.int p1, .ref 17]) (g' := w2) (by decide +kernel) rfl ?_
    obtain ⟨w3, e3, H⟩ := xbind H
    refine xcallV A (ix := 82) (nxt := 15) hrm hz [.int p1] [] 746 (c_X3_take_17 hS _ e3) ok_X3_take (by decide +kernel) rfl (fun r g1 hq => ?_)
    rw [hq.1, hq.2]
    show xW k S 0 0 15 [some (.ref 17), some (.int p1), some (.int p2), some (.int p3)] [] w3
    obtain rfl := Option.some.inj H
    exact xret_v A hR hz (by decide +kernel) ⟨rfl, rfl⟩
theorem fr_X3_takeOneMore_17 {p1 : Int32} {p2 : Int32} {p3 : Int32} {g : xG} (out : xG) (H : f_X3_takeOneMore_17 p1 p2 p3 g = some out) : xfrm fp_X3_takeOneMore_17 g (out) := by
  have H : (if p2 < p3 then
  (f_X3_take_17 p1 g).bind fun w1 =>
  some w1
else
  xl (f_X3_stop_17 2 g) fun w2 =>
  (f_X3_take_17 p1 w2).bind fun w3 =>
  some w3) = some out := H
  by_cases h1 : p2 < p3
  · rw [if_pos h1] at H
    obtain ⟨w1, e1, H⟩ := xbind H
    have hf1 : xfrm fp_X3_takeOneMore_17 g (w1) := xfrm.tr xfrm.rf (fr_X3_take_17 _ e1) rfl
    obtain rfl := Option.some.inj H
    exact hf1
  · rw [if_neg h1] at H
    obtain ⟨w2, e2, H⟩ := xl_elim H
    have hf2 : xfrm fp_X3_takeOneMore_17 g (w2) := xfrm.tr xfrm.rf (fr_X3_stop_17 _ e2) rfl
    obtain ⟨w3, e3, H⟩ := xbind H
    have hf3 : xfrm fp_X3_takeOneMore_17 g (w3) := xfrm.tr hf2 (fr_X3_take_17 _ e3) rfl
    obtain rfl := Option.some.inj H
    exact hf3
def fp_X3_putAside_17 : List (Nat × Option Nat) := [(17, some 4), (37, none)]
def f_X3_putAside_17 (p1 : Int32) (g : xG) : xG :=
  xl (xput g 37 21 (g.1 17 4) p1) fun w1 =>
  (xupd w1.1 17 4 ((w1.1 17 4) + 1), w1.2)
set_option maxRecDepth 20000 in
theorem c_X3_putAside_17 {S : List xSh} (hS : xpf SH1 S) {g : xG} {p1 : Int32} (out : xG) (H : f_X3_putAside_17 p1 g = out) : xC mX3_putAside 1 22 0 0 S [.ref 17, .int p1] g S (fun r g' => r = none ∧ g' = out) := by
  have H : (xl (xput g 37 21 (g.1 17 4) p1) fun w1 =>
(xupd w1.1 17 4 ((w1.1 17 4) + 1), w1.2)) = out := H
  refine xC.of 3 SH1 [some (.ref 17), some (.int p1)] hS (by decide +kernel) rfl (fun _ _ => Nat.le_of_ble_eq_true rfl) (fun _ _ => rfl) ?_
  intro k A hR hrm hz
  refine xb A [(.aload_n 0, 1, 0, 0, .null), (.getfield 25, 3, 17, 3, .ref 37), (.aload_n 0, 1, 0, 0, .null), (.getfield 159, 3, 17, 4, .int 0), (.iload_n 1, 1, 0, 0, .null)] (pc' := 9) (ls' := [some (.ref 17), some (.int p1)]) (st' := [.int p1, .int (g.1 17 4), .ref 37]) (g' := g) (by decide +kernel) rfl ?_
  obtain ⟨w1, e1, H⟩ := xl_elim H
  refine xcallSN A (ix := 174) (nxt := 12) (host := "NoonRinger") hrm hz [.ref 37, .int (g.1 17 4), .int p1] [] 19 (c_X11_put (hS _ _ sh_37) (by decide)) ok_X11_put (by decide +kernel) rfl (fun r g1 hq => ?_)
  rw [hq.1, hq.2]
  rw [e1]
  show xW k S 0 0 12 [some (.ref 17), some (.int p1)] [] w1
  refine xb A [(.aload_n 0, 1, 0, 0, .null), (.dup, 1, 0, 0, .null), (.getfield 159, 3, 17, 4, .int 0), (.iconst 1, 1, 0, 0, .int 1), (.iadd, 1, 0, 0, .null), (.putfield 159, 3, 17, 4, .int 0)] (pc' := 22) (ls' := [some (.ref 17), some (.int p1)]) (st' := []) (g' := (xupd w1.1 17 4 ((w1.1 17 4) + 1), w1.2)) (by decide +kernel) rfl ?_
  subst H
  exact xret_v A hR hz (by decide +kernel) ⟨rfl, rfl⟩
theorem fr_X3_putAside_17 {p1 : Int32} {g : xG} (out : xG) (H : f_X3_putAside_17 p1 g = out) : xfrm fp_X3_putAside_17 g (out) := by
  have H : (xl (xput g 37 21 (g.1 17 4) p1) fun w1 =>
(xupd w1.1 17 4 ((w1.1 17 4) + 1), w1.2)) = out := H
  obtain ⟨w1, e1, H⟩ := xl_elim H
  have hf1 : xfrm fp_X3_putAside_17 g (w1) := xfrm_xput xfrm.rf rfl e1
  have hf2 : xfrm fp_X3_putAside_17 g ((xupd w1.1 17 4 ((w1.1 17 4) + 1), w1.2)) := xfrm.up hf1 rfl
  subst H
  exact hf2
def fp_X3_readUnit_17 : List (Nat × Option Nat) := [(17, some 5), (17, some 6), (32, some 4), (33, none), (34, none)]
def f_X3_readUnit_17 (p1 : Int32) (g : xG) : Option (xG) :=
  if p1 = 3 then
    xl (f_X2_add_32 1 ((f_X9_valueOf_18 (g.1 17 5) g).toInt32) g) fun w5 =>
    (f_X3_take_17 p1 w5).bind fun w6 =>
    some w6
  else
    if p1 < 25 then
      xl (f_X3_stop_17 1 g) fun w1 =>
      some w1
    else
      if 33 < p1 then
        xl (f_X3_stop_17 1 g) fun w2 =>
        some w2
      else
        xl (f_X2_add_32 2 (p1 - 25) g) fun w3 =>
        (f_X3_take_17 p1 w3).bind fun w4 =>
        some w4
set_option maxRecDepth 20000 in
theorem c_X3_readUnit_17 {S : List xSh} (hS : xpf SH1 S) {g : xG} {p1 : Int32} (out : xG) (H : f_X3_readUnit_17 p1 g = some out) : xC mX3_readUnit 2 44 0 0 S [.ref 17, .int p1] g S (fun r g' => r = none ∧ g' = out) := by
  have H : (if p1 = 3 then
  xl (f_X2_add_32 1 ((f_X9_valueOf_18 (g.1 17 5) g).toInt32) g) fun w5 =>
  (f_X3_take_17 p1 w5).bind fun w6 =>
  some w6
else
  if p1 < 25 then
    xl (f_X3_stop_17 1 g) fun w1 =>
    some w1
  else
    if 33 < p1 then
      xl (f_X3_stop_17 1 g) fun w2 =>
      some w2
    else
      xl (f_X2_add_32 2 (p1 - 25) g) fun w3 =>
      (f_X3_take_17 p1 w3).bind fun w4 =>
      some w4) = some out := H
  refine xC.of 3 SH1 [some (.ref 17), some (.int p1)] hS (by decide +kernel) rfl (fun _ _ => Nat.le_of_ble_eq_true rfl) (fun _ _ => rfl) ?_
  intro k A hR hrm hz
  refine xb A [(.iload_n 1, 1, 0, 0, .null), (.iconst 3, 1, 0, 0, .int 3)] (pc' := 2) (ls' := [some (.ref 17), some (.int p1)]) (st' := [.int 3, .int p1]) (g' := g) (by decide +kernel) rfl ?_
  refine xic_ne A (34) 36 5 (by decide +kernel) (fun h1 => ?_) (fun h1 => ?_)
  · rw [if_neg h1] at H
    refine xb A [(.iload_n 1, 1, 0, 0, .null), (.bipush 25, 2, 0, 0, .int 25)] (pc' := 39) (ls' := [some (.ref 17), some (.int p1)]) (st' := [.int 25, .int p1]) (g' := g) (by decide +kernel) rfl ?_
    refine xic_lt A (32) 71 42 (by decide +kernel) (fun h2 => ?_) (fun h2 => ?_)
    · rw [if_pos h2] at H
      refine xb A [(.aload_n 0, 1, 0, 0, .null), (.iconst 1, 1, 0, 0, .int 1)] (pc' := 73) (ls' := [some (.ref 17), some (.int p1)]) (st' := [.int 1, .ref 17]) (g' := g) (by decide +kernel) rfl ?_
      obtain ⟨w1, e1, H⟩ := xl_elim H
      refine xcallV A (ix := 79) (nxt := 76) hrm hz [.int 1] [] 742 (c_X3_stop_17 hS _ e1) ok_X3_stop (by decide +kernel) rfl (fun r g1 hq => ?_)
      rw [hq.1, hq.2]
      show xW k S 0 0 76 [some (.ref 17), some (.int p1)] [] w1
      obtain rfl := Option.some.inj H
      exact xret_v A hR hz (by decide +kernel) ⟨rfl, rfl⟩
    · rw [if_neg h2] at H
      refine xb A [(.iload_n 1, 1, 0, 0, .null), (.bipush 33, 2, 0, 0, .int 33)] (pc' := 45) (ls' := [some (.ref 17), some (.int p1)]) (st' := [.int 33, .int p1]) (g' := g) (by decide +kernel) rfl ?_
      refine xic_gt A (26) 71 48 (by decide +kernel) (fun h3 => ?_) (fun h3 => ?_)
      · rw [if_pos h3] at H
        refine xb A [(.aload_n 0, 1, 0, 0, .null), (.iconst 1, 1, 0, 0, .int 1)] (pc' := 73) (ls' := [some (.ref 17), some (.int p1)]) (st' := [.int 1, .ref 17]) (g' := g) (by decide +kernel) rfl ?_
        obtain ⟨w2, e2, H⟩ := xl_elim H
        refine xcallV A (ix := 79) (nxt := 76) hrm hz [.int 1] [] 742 (c_X3_stop_17 hS _ e2) ok_X3_stop (by decide +kernel) rfl (fun r g1 hq => ?_)
        rw [hq.1, hq.2]
        show xW k S 0 0 76 [some (.ref 17), some (.int p1)] [] w2
        obtain rfl := Option.some.inj H
        exact xret_v A hR hz (by decide +kernel) ⟨rfl, rfl⟩
      · rw [if_neg h3] at H
        refine xb A [(.aload_n 0, 1, 0, 0, .null), (.getfield 21, 3, 17, 2, .ref 23)] (pc' := 52) (ls' := [some (.ref 17), some (.int p1)]) (st' := [.ref 23]) (g' := g) (by decide +kernel) rfl ?_
        refine xcallV A (ix := 135) (nxt := 55) hrm hz [] [] 821 (c_X4_laws_23 hS) ok_X4_laws (by decide +kernel) rfl (fun r g1 hq => ?_)
        rw [hq.1, hq.2]
        show xW k S 0 0 55 [some (.ref 17), some (.int p1)] [.ref 32] g
        refine xb A [(.iconst 2, 1, 0, 0, .int 2), (.iload_n 1, 1, 0, 0, .null), (.bipush 25, 2, 0, 0, .int 25), (.isub, 1, 0, 0, .null)] (pc' := 60) (ls' := [some (.ref 17), some (.int p1)]) (st' := [.int (p1 - 25), .int 2, .ref 32]) (g' := g) (by decide +kernel) rfl ?_
        obtain ⟨w3, e3, H⟩ := xl_elim H
        refine xcallV A (ix := 150) (nxt := 63) hrm hz [.int 2, .int (p1 - 25)] [] 843 (c_X2_add_32 hS _ e3) ok_X2_add (by decide +kernel) rfl (fun r g1 hq => ?_)
        rw [hq.1, hq.2]
        show xW k S 0 0 63 [some (.ref 17), some (.int p1)] [] w3
        refine xb A [(.aload_n 0, 1, 0, 0, .null), (.iload_n 1, 1, 0, 0, .null)] (pc' := 65) (ls' := [some (.ref 17), some (.int p1)]) (st' := [.int p1, .ref 17]) (g' := w3) (by decide +kernel) rfl ?_
        obtain ⟨w4, e4, H⟩ := xbind H
        refine xcallV A (ix := 82) (nxt := 68) hrm hz [.int p1] [] 746 (c_X3_take_17 hS _ e4) ok_X3_take (by decide +kernel) rfl (fun r g1 hq => ?_)
        rw [hq.1, hq.2]
        show xW k S 0 0 68 [some (.ref 17), some (.int p1)] [] w4
        refine xgoto A (8) 76 (by decide +kernel) ?_
        obtain rfl := Option.some.inj H
        exact xret_v A hR hz (by decide +kernel) ⟨rfl, rfl⟩
  · rw [if_pos h1] at H
    refine xb A [(.aload_n 0, 1, 0, 0, .null), (.getfield 21, 3, 17, 2, .ref 23)] (pc' := 9) (ls' := [some (.ref 17), some (.int p1)]) (st' := [.ref 23]) (g' := g) (by decide +kernel) rfl ?_
    refine xcallV A (ix := 135) (nxt := 12) hrm hz [] [] 821 (c_X4_laws_23 hS) ok_X4_laws (by decide +kernel) rfl (fun r g1 hq => ?_)
    rw [hq.1, hq.2]
    show xW k S 0 0 12 [some (.ref 17), some (.int p1)] [.ref 32] g
    refine xb A [(.iconst 1, 1, 0, 0, .int 1), (.aload_n 0, 1, 0, 0, .null), (.getfield 14, 3, 17, 1, .ref 18), (.aload_n 0, 1, 0, 0, .null), (.getfield 37, 3, 17, 5, .int 0)] (pc' := 21) (ls' := [some (.ref 17), some (.int p1)]) (st' := [.int (g.1 17 5), .ref 18, .int 1, .ref 32]) (g' := g) (by decide +kernel) rfl ?_
    refine xcallV A (ix := 128) (nxt := 24) hrm hz [.int (g.1 17 5)] [.int 1, .ref 32] 754 (c_X9_valueOf_18 hS _ rfl) ok_X9_valueOf (by decide +kernel) rfl (fun r g1 hq => ?_)
    rw [hq.1, hq.2]
    show xW k S 0 0 24 [some (.ref 17), some (.int p1)] [.long (f_X9_valueOf_18 (g.1 17 5) g), .int 1, .ref 32] g
    refine xb A [(.l2i, 1, 0, 0, .null)] (pc' := 25) (ls' := [some (.ref 17), some (.int p1)]) (st' := [.int ((f_X9_valueOf_18 (g.1 17 5) g).toInt32), .int 1, .ref 32]) (g' := g) (by decide +kernel) rfl ?_
    obtain ⟨w5, e5, H⟩ := xl_elim H
    refine xcallV A (ix := 150) (nxt := 28) hrm hz [.int 1, .int ((f_X9_valueOf_18 (g.1 17 5) g).toInt32)] [] 843 (c_X2_add_32 hS _ e5) ok_X2_add (by decide +kernel) rfl (fun r g1 hq => ?_)
    rw [hq.1, hq.2]
    show xW k S 0 0 28 [some (.ref 17), some (.int p1)] [] w5
    refine xb A [(.aload_n 0, 1, 0, 0, .null), (.iload_n 1, 1, 0, 0, .null)] (pc' := 30) (ls' := [some (.ref 17), some (.int p1)]) (st' := [.int p1, .ref 17]) (g' := w5) (by decide +kernel) rfl ?_
    obtain ⟨w6, e6, H⟩ := xbind H
    refine xcallV A (ix := 82) (nxt := 33) hrm hz [.int p1] [] 746 (c_X3_take_17 hS _ e6) ok_X3_take (by decide +kernel) rfl (fun r g1 hq => ?_)
    rw [hq.1, hq.2]
    show xW k S 0 0 33 [some (.ref 17), some (.int p1)] [] w6
    refine xgoto A (43) 76 (by decide +kernel) ?_
    obtain rfl := Option.some.inj H
    exact xret_v A hR hz (by decide +kernel) ⟨rfl, rfl⟩
theorem fr_X3_readUnit_17 {p1 : Int32} {g : xG} (out : xG) (H : f_X3_readUnit_17 p1 g = some out) : xfrm fp_X3_readUnit_17 g (out) := by
  have H : (if p1 = 3 then
  xl (f_X2_add_32 1 ((f_X9_valueOf_18 (g.1 17 5) g).toInt32) g) fun w5 =>
  (f_X3_take_17 p1 w5).bind fun w6 =>
  some w6
else
  if p1 < 25 then
    xl (f_X3_stop_17 1 g) fun w1 =>
    some w1
  else
    if 33 < p1 then
      xl (f_X3_stop_17 1 g) fun w2 =>
      some w2
    else
      xl (f_X2_add_32 2 (p1 - 25) g) fun w3 =>
      (f_X3_take_17 p1 w3).bind fun w4 =>
      some w4) = some out := H
  by_cases h1 : p1 = 3
  · rw [if_pos h1] at H
    obtain ⟨w5, e5, H⟩ := xl_elim H
    have hf5 : xfrm fp_X3_readUnit_17 g (w5) := xfrm.tr xfrm.rf (fr_X2_add_32 _ e5) rfl
    obtain ⟨w6, e6, H⟩ := xbind H
    have hf6 : xfrm fp_X3_readUnit_17 g (w6) := xfrm.tr hf5 (fr_X3_take_17 _ e6) rfl
    obtain rfl := Option.some.inj H
    exact hf6
  · rw [if_neg h1] at H
    by_cases h2 : p1 < 25
    · rw [if_pos h2] at H
      obtain ⟨w1, e1, H⟩ := xl_elim H
      have hf1 : xfrm fp_X3_readUnit_17 g (w1) := xfrm.tr xfrm.rf (fr_X3_stop_17 _ e1) rfl
      obtain rfl := Option.some.inj H
      exact hf1
    · rw [if_neg h2] at H
      by_cases h3 : 33 < p1
      · rw [if_pos h3] at H
        obtain ⟨w2, e2, H⟩ := xl_elim H
        have hf2 : xfrm fp_X3_readUnit_17 g (w2) := xfrm.tr xfrm.rf (fr_X3_stop_17 _ e2) rfl
        obtain rfl := Option.some.inj H
        exact hf2
      · rw [if_neg h3] at H
        obtain ⟨w3, e3, H⟩ := xl_elim H
        have hf3 : xfrm fp_X3_readUnit_17 g (w3) := xfrm.tr xfrm.rf (fr_X2_add_32 _ e3) rfl
        obtain ⟨w4, e4, H⟩ := xbind H
        have hf4 : xfrm fp_X3_readUnit_17 g (w4) := xfrm.tr hf3 (fr_X3_take_17 _ e4) rfl
        obtain rfl := Option.some.inj H
        exact hf4
def f_X3_bindingOf (p0 : Int32) : Int32 :=
  if p0 = 6 then
    1
  else
    if p0 = 7 then
      1
    else
      if p0 = 8 then
        2
      else
        if p0 = 9 then
          2
        else
          0
set_option maxRecDepth 20000 in
theorem c_X3_bindingOf {S : List xSh} (hS : xpf SH1 S) {g : xG} {p0 : Int32} (out : Int32) (H : f_X3_bindingOf p0 = out) : xC mX3_bindingOf 0 0 0 0 S [.int p0] g S (fun r g' => r = some (.int out) ∧ g' = g) := by
  have H : (if p0 = 6 then
  1
else
  if p0 = 7 then
    1
  else
    if p0 = 8 then
      2
    else
      if p0 = 9 then
        2
      else
        0) = out := H
  refine xC.of 3 SH1 [some (.int p0)] hS (by decide +kernel) rfl (fun _ _ => Nat.le_of_ble_eq_true rfl) (fun _ _ => rfl) ?_
  intro k A hR hrm hz
  refine xb A [(.iload_n 0, 1, 0, 0, .null)] (pc' := 1) (ls' := [some (.int p0)]) (st' := [.int p0]) (g' := g) (by decide +kernel) rfl ?_
  by_cases h1 : p0 = 6
  · rw [if_pos h1] at H
    refine xtabIn A (dflt := 35) (lo := 6) (hi := 9) (off := 31) (offs := #[(31), (31), (33), (33)]) (len := 31) (tgt := 32) (6) (by rw [h1]; rfl) (by decide +kernel) ?_
    refine xb A [(.iconst 1, 1, 0, 0, .int 1)] (pc' := 33) (ls' := [some (.int p0)]) (st' := [.int 1]) (g' := g) (by decide +kernel) rfl ?_
    subst H
    exact xret_i A hR hz (by decide +kernel) rfl ⟨rfl, rfl⟩
  · rw [if_neg h1] at H
    by_cases h2 : p0 = 7
    · rw [if_pos h2] at H
      refine xtabIn A (dflt := 35) (lo := 6) (hi := 9) (off := 31) (offs := #[(31), (31), (33), (33)]) (len := 31) (tgt := 32) (7) (by rw [h2]; rfl) (by decide +kernel) ?_
      refine xb A [(.iconst 1, 1, 0, 0, .int 1)] (pc' := 33) (ls' := [some (.int p0)]) (st' := [.int 1]) (g' := g) (by decide +kernel) rfl ?_
      subst H
      exact xret_i A hR hz (by decide +kernel) rfl ⟨rfl, rfl⟩
    · rw [if_neg h2] at H
      by_cases h3 : p0 = 8
      · rw [if_pos h3] at H
        refine xtabIn A (dflt := 35) (lo := 6) (hi := 9) (off := 33) (offs := #[(31), (31), (33), (33)]) (len := 31) (tgt := 34) (8) (by rw [h3]; rfl) (by decide +kernel) ?_
        refine xb A [(.iconst 2, 1, 0, 0, .int 2)] (pc' := 35) (ls' := [some (.int p0)]) (st' := [.int 2]) (g' := g) (by decide +kernel) rfl ?_
        subst H
        exact xret_i A hR hz (by decide +kernel) rfl ⟨rfl, rfl⟩
      · rw [if_neg h3] at H
        by_cases h4 : p0 = 9
        · rw [if_pos h4] at H
          refine xtabIn A (dflt := 35) (lo := 6) (hi := 9) (off := 33) (offs := #[(31), (31), (33), (33)]) (len := 31) (tgt := 34) (9) (by rw [h4]; rfl) (by decide +kernel) ?_
          refine xb A [(.iconst 2, 1, 0, 0, .int 2)] (pc' := 35) (ls' := [some (.int p0)]) (st' := [.int 2]) (g' := g) (by decide +kernel) rfl ?_
          subst H
          exact xret_i A hR hz (by decide +kernel) rfl ⟨rfl, rfl⟩
        · rw [if_neg h4] at H
          refine xtabOut A (dflt := 35) (lo := 6) (hi := 9) (offs := #[(31), (31), (33), (33)]) (len := 31) (tgt := 36) (by decide +kernel) ?_ ?_
          · have e0 := lv_neT (a := 6) h1 rfl; have e1 := lv_neT (a := 7) h2 rfl; have e2 := lv_neT (a := 8) h3 rfl; have e3 := lv_neT (a := 9) h4 rfl; omega
          · skip
            refine xb A [(.iconst 0, 1, 0, 0, .int 0)] (pc' := 37) (ls' := [some (.int p0)]) (st' := [.int 0]) (g' := g) (by decide +kernel) rfl ?_
            subst H
            exact xret_i A hR hz (by decide +kernel) rfl ⟨rfl, rfl⟩
def fp_X3_addWaiting_17 : List (Nat × Option Nat) := [(17, some 4), (32, some 4), (33, none), (34, none)]
def f_X3_addWaiting_17_7  : Nat → Int32 → Int32 → xG → Option (xG)
  | 0, _, _, _ => none
  | n + 1, l1, l2, g =>
    if l2 < 0 then
      some g
    else
      if (f_X3_bindingOf (xat g 37 21 l2)) < l1 then
        some g
      else
        xl (f_X2_add_32 (4 + ((xat g 37 21 l2) - 6)) 0 g) fun w1 =>
        f_X3_addWaiting_17_7 n l1 (l2 + (-1)) (xupd w1.1 17 4 l2, w1.2)
def f_X3_addWaiting_17 (p1 : Int32) (g : xG) : Option (xG) :=
  f_X3_addWaiting_17_7 xN p1 ((g.1 17 4) - 1) g
set_option maxRecDepth 20000 in
theorem t_X3_addWaiting_17_7 {k : xK} {S : List xSh} {out : xG} (hS : xpf SH1 S) (A : xAt k mX3_addWaiting.2.1 3 SH1 S) (hR : xRet k 0 0 S (fun r g' => r = none ∧ g' = out) mX3_addWaiting.2.2.2) (hrm : xrm k = { frames := 2, cells := 0, slots := 0, locals := 44 }) (hz : xhs k = xb0 k + S.length)   : ∀ (n : Nat) (l1 : Int32) (l2 : Int32) (g : xG), f_X3_addWaiting_17_7 n l1 l2 g = some out → xW k S 0 0 7 [some (.ref 17), some (.int l1), some (.int l2)] [] g := by
  intro n
  induction n with
  | zero => intro l1 l2 g H; exact absurd H (by simp [f_X3_addWaiting_17_7])
  | succ n ih =>
    intro l1 l2 g H
    have H : (if l2 < 0 then
  some g
else
  if (f_X3_bindingOf (xat g 37 21 l2)) < l1 then
    some g
  else
    xl (f_X2_add_32 (4 + ((xat g 37 21 l2) - 6)) 0 g) fun w1 =>
    f_X3_addWaiting_17_7 n l1 (l2 + (-1)) (xupd w1.1 17 4 l2, w1.2)) = some out := H
    refine xb A [(.iload_n 2, 1, 0, 0, .null)] (pc' := 8) (ls' := [some (.ref 17), some (.int l1), some (.int l2)]) (st' := [.int l2]) (g' := g) (by decide +kernel) rfl ?_
    refine xif_lt A (53) 61 11 (by decide +kernel) (fun h1 => ?_) (fun h1 => ?_)
    · rw [if_pos h1] at H
      obtain rfl := Option.some.inj H
      exact xret_v A hR hz (by decide +kernel) ⟨rfl, rfl⟩
    · rw [if_neg h1] at H
      refine xb A [(.aload_n 0, 1, 0, 0, .null), (.getfield 25, 3, 17, 3, .ref 37), (.iload_n 2, 1, 0, 0, .null)] (pc' := 16) (ls' := [some (.ref 17), some (.int l1), some (.int l2)]) (st' := [.int l2, .ref 37]) (g' := g) (by decide +kernel) rfl ?_
      refine xcallSN A (ix := 178) (nxt := 19) (host := "NoonRinger") hrm hz [.ref 37, .int l2] [] 20 (c_X11_at (hS _ _ sh_37) (by decide)) ok_X11_at (by decide +kernel) rfl (fun r g1 hq => ?_)
      rw [hq.1, hq.2]
      show xW k S 0 0 19 [some (.ref 17), some (.int l1), some (.int l2)] [.int (xat g 37 21 l2)] g
      refine xcallS A (ix := 168) (nxt := 22) hrm hz [.int (xat g 37 21 l2)] [] 844 (c_X3_bindingOf hS _ rfl) ok_X3_bindingOf (by decide +kernel) rfl (fun r g1 hq => ?_)
      rw [hq.1, hq.2]
      show xW k S 0 0 22 [some (.ref 17), some (.int l1), some (.int l2)] [.int (f_X3_bindingOf (xat g 37 21 l2))] g
      refine xb A [(.iload_n 1, 1, 0, 0, .null)] (pc' := 23) (ls' := [some (.ref 17), some (.int l1), some (.int l2)]) (st' := [.int l1, .int (f_X3_bindingOf (xat g 37 21 l2))]) (g' := g) (by decide +kernel) rfl ?_
      refine xic_lt A (38) 61 26 (by decide +kernel) (fun h2 => ?_) (fun h2 => ?_)
      · rw [if_pos h2] at H
        obtain rfl := Option.some.inj H
        exact xret_v A hR hz (by decide +kernel) ⟨rfl, rfl⟩
      · rw [if_neg h2] at H
        refine xb A [(.aload_n 0, 1, 0, 0, .null), (.getfield 21, 3, 17, 2, .ref 23)] (pc' := 30) (ls' := [some (.ref 17), some (.int l1), some (.int l2)]) (st' := [.ref 23]) (g' := g) (by decide +kernel) rfl ?_
        refine xcallV A (ix := 135) (nxt := 33) hrm hz [] [] 821 (c_X4_laws_23 hS) ok_X4_laws (by decide +kernel) rfl (fun r g1 hq => ?_)
        rw [hq.1, hq.2]
        show xW k S 0 0 33 [some (.ref 17), some (.int l1), some (.int l2)] [.ref 32] g
        refine xb A [(.iconst 4, 1, 0, 0, .int 4), (.aload_n 0, 1, 0, 0, .null), (.getfield 25, 3, 17, 3, .ref 37), (.iload_n 2, 1, 0, 0, .null)] (pc' := 39) (ls' := [some (.ref 17), some (.int l1), some (.int l2)]) (st' := [.int l2, .ref 37, .int 4, .ref 32]) (g' := g) (by decide +kernel) rfl ?_
        refine xcallSN A (ix := 178) (nxt := 42) (host := "NoonRinger") hrm hz [.ref 37, .int l2] [.int 4, .ref 32] 20 (c_X11_at (hS _ _ sh_37) (by decide)) ok_X11_at (by decide +kernel) rfl (fun r g1 hq => ?_)
        rw [hq.1, hq.2]
        show xW k S 0 0 42 [some (.ref 17), some (.int l1), some (.int l2)] [.int (xat g 37 21 l2), .int 4, .ref 32] g
        refine xb A [(.bipush 6, 2, 0, 0, .int 6), (.isub, 1, 0, 0, .null), (.iadd, 1, 0, 0, .null), (.iconst 0, 1, 0, 0, .int 0)] (pc' := 47) (ls' := [some (.ref 17), some (.int l1), some (.int l2)]) (st' := [.int 0, .int (4 + ((xat g 37 21 l2) - 6)), .ref 32]) (g' := g) (by decide +kernel) rfl ?_
        obtain ⟨w1, e1, H⟩ := xl_elim H
        refine xcallV A (ix := 150) (nxt := 50) hrm hz [.int (4 + ((xat g 37 21 l2) - 6)), .int 0] [] 843 (c_X2_add_32 hS _ e1) ok_X2_add (by decide +kernel) rfl (fun r g1 hq => ?_)
        rw [hq.1, hq.2]
        show xW k S 0 0 50 [some (.ref 17), some (.int l1), some (.int l2)] [] w1
        refine xb A [(.aload_n 0, 1, 0, 0, .null), (.iload_n 2, 1, 0, 0, .null), (.putfield 159, 3, 17, 4, .int 0), (.iinc 2 (-1), 3, 0, 0, .null)] (pc' := 58) (ls' := [some (.ref 17), some (.int l1), some (.int (l2 + (-1)))]) (st' := []) (g' := (xupd w1.1 17 4 l2, w1.2)) (by decide +kernel) rfl ?_
        refine xgoto A (-51) 7 (by decide +kernel) ?_
        exact ih _ _ _ H
theorem fr_X3_addWaiting_17_7   : ∀ (n : Nat) (l1 : Int32) (l2 : Int32) (g : xG) (out : xG), f_X3_addWaiting_17_7 n l1 l2 g = some out → xfrm fp_X3_addWaiting_17 g (out) := by
  intro n
  induction n with
  | zero => intro l1 l2 g out H; exact absurd H (by simp [f_X3_addWaiting_17_7])
  | succ n ih =>
    intro l1 l2 g out H
    have H : (if l2 < 0 then
  some g
else
  if (f_X3_bindingOf (xat g 37 21 l2)) < l1 then
    some g
  else
    xl (f_X2_add_32 (4 + ((xat g 37 21 l2) - 6)) 0 g) fun w1 =>
    f_X3_addWaiting_17_7 n l1 (l2 + (-1)) (xupd w1.1 17 4 l2, w1.2)) = some out := H
    by_cases h1 : l2 < 0
    · rw [if_pos h1] at H
      obtain rfl := Option.some.inj H
      exact xfrm.rf
    · rw [if_neg h1] at H
      by_cases h2 : (f_X3_bindingOf (xat g 37 21 l2)) < l1
      · rw [if_pos h2] at H
        obtain rfl := Option.some.inj H
        exact xfrm.rf
      · rw [if_neg h2] at H
        obtain ⟨w1, e1, H⟩ := xl_elim H
        have hf1 : xfrm fp_X3_addWaiting_17 g (w1) := xfrm.tr xfrm.rf (fr_X2_add_32 _ e1) rfl
        have hf2 : xfrm fp_X3_addWaiting_17 g ((xupd w1.1 17 4 l2, w1.2)) := xfrm.up hf1 rfl
        exact xfrm.tr hf2 (ih _ _ _ _ H) rfl
set_option maxRecDepth 20000 in
theorem c_X3_addWaiting_17 {S : List xSh} (hS : xpf SH1 S) {g : xG} {p1 : Int32} (out : xG) (H : f_X3_addWaiting_17 p1 g = some out) : xC mX3_addWaiting 2 44 0 0 S [.ref 17, .int p1] g S (fun r g' => r = none ∧ g' = out) := by
  have H : (f_X3_addWaiting_17_7 xN p1 ((g.1 17 4) - 1) g) = some out := H
  refine xC.of 3 SH1 [some (.ref 17), some (.int p1), none] hS (by decide +kernel) rfl (fun _ _ => Nat.le_of_ble_eq_true rfl) (fun _ _ => rfl) ?_
  intro k A hR hrm hz
  refine xb A [(.aload_n 0, 1, 0, 0, .null), (.getfield 159, 3, 17, 4, .int 0), (.iconst 1, 1, 0, 0, .int 1), (.isub, 1, 0, 0, .null), (.istore_n 2, 1, 0, 0, .null)] (pc' := 7) (ls' := [some (.ref 17), some (.int p1), some (.int ((g.1 17 4) - 1))]) (st' := []) (g' := g) (by decide +kernel) rfl ?_
  exact t_X3_addWaiting_17_7 hS A hR hrm hz _ _ _ _ H
theorem fr_X3_addWaiting_17 {p1 : Int32} {g : xG} (out : xG) (H : f_X3_addWaiting_17 p1 g = some out) : xfrm fp_X3_addWaiting_17 g (out) := by
  have H : (f_X3_addWaiting_17_7 xN p1 ((g.1 17 4) - 1) g) = some out := H
  exact xfrm.tr xfrm.rf (fr_X3_addWaiting_17_7 _ _ _ _ _ H) rfl
def fp_X3_readSum_17 : List (Nat × Option Nat) := [(17, some 4), (17, some 5), (17, some 6), (32, some 4), (33, none), (34, none), (37, none)]
def f_X3_readSum_17_70 (k11 : Int32 → Int32 → Int32 → xG → Option (xG)) (l1 : Int32) (l2 : Int32) (l3 : Int32) (l4 : Int32) (g : xG) : Option (xG) :=
  if l1 = 0 then
    if (f_X3_bindingOf l4) ≤ 0 then
      if l4 = 12 then
        if l2 ≤ 0 then
          (f_X3_addWaiting_17 1 g).bind fun w4 =>
          if l2 ≤ 0 then
            some w4
          else
            xl (f_X3_stop_17 1 w4) fun w5 =>
            some w5
        else
          (f_X3_addWaiting_17 1 g).bind fun w6 =>
          (f_X3_take_17 l4 w6).bind fun w7 =>
          k11 l1 (l2 + (-1)) (l3 + 1) (xupd w7.1 17 4 ((w7.1 17 4) - 1), w7.2)
      else
        (f_X3_addWaiting_17 1 g).bind fun w2 =>
        if l2 ≤ 0 then
          some w2
        else
          xl (f_X3_stop_17 1 w2) fun w3 =>
          some w3
    else
      (f_X3_addWaiting_17 (f_X3_bindingOf l4) g).bind fun w8 =>
      (f_X3_take_17 l4 w8).bind fun w9 =>
      xl (f_X3_putAside_17 l4 w9) fun w10 =>
      k11 1 l2 (l3 + 1) w10
  else
    (f_X3_readUnit_17 l4 g).bind fun w11 =>
    k11 0 l2 (l3 + 1) w11
def f_X3_readSum_17_11  : Nat → Int32 → Int32 → Int32 → xG → Option (xG)
  | 0, _, _, _, _ => none
  | n + 1, l1, l2, l3, g =>
    if 400 < l3 then
      some g
    else
      if (g.1 17 6) = 0 then
        (f_X9_kindAt_18 (g.1 17 5) g).bind fun w1 =>
        if l1 = 0 then
          f_X3_readSum_17_70 (f_X3_readSum_17_11 n) l1 l2 l3 w1 g
        else
          if w1 = 11 then
            (f_X3_takeOneMore_17 w1 l2 6 g).bind fun w12 =>
            xl (f_X3_putAside_17 w1 w12) fun w13 =>
            f_X3_readSum_17_11 n l1 (l2 + 1) (l3 + 1) w13
          else
            f_X3_readSum_17_70 (f_X3_readSum_17_11 n) l1 l2 l3 w1 g
      else
        some g
def f_X3_readSum_17  (g : xG) : Option (xG) :=
  f_X3_readSum_17_11 xN 1 0 0 (xupd g.1 17 4 0, g.2)
set_option maxRecDepth 20000 in
theorem t_X3_readSum_17_70 {k : xK} {S : List xSh} {out : xG} (hS : xpf SH1 S) (A : xAt k mX3_readSum.2.1 3 SH1 S) (hR : xRet k 0 0 S (fun r g' => r = none ∧ g' = out) mX3_readSum.2.2.2) (hrm : xrm k = { frames := 3, cells := 0, slots := 0, locals := 66 }) (hz : xhs k = xb0 k + S.length) {k11 : Int32 → Int32 → Int32 → xG → Option (xG)} (hk11 : ∀ (l1 : Int32) (l2 : Int32) (l3 : Int32) (g : xG), k11 l1 l2 l3 g = some out → xW k S 0 0 11 [some (.ref 17), some (.int l1), some (.int l2), some (.int l3), none] [] g) : ∀ (l1 : Int32) (l2 : Int32) (l3 : Int32) (l4 : Int32) (g : xG), f_X3_readSum_17_70 k11 l1 l2 l3 l4 g = some out → xW k S 0 0 70 [some (.ref 17), some (.int l1), some (.int l2), some (.int l3), some (.int l4)] [] g := by
  intro l1 l2 l3 l4 g H
  have H : (if l1 = 0 then
  if (f_X3_bindingOf l4) ≤ 0 then
    if l4 = 12 then
      if l2 ≤ 0 then
        (f_X3_addWaiting_17 1 g).bind fun w4 =>
        if l2 ≤ 0 then
          some w4
        else
          xl (f_X3_stop_17 1 w4) fun w5 =>
          some w5
      else
        (f_X3_addWaiting_17 1 g).bind fun w6 =>
        (f_X3_take_17 l4 w6).bind fun w7 =>
        k11 l1 (l2 + (-1)) (l3 + 1) (xupd w7.1 17 4 ((w7.1 17 4) - 1), w7.2)
    else
      (f_X3_addWaiting_17 1 g).bind fun w2 =>
      if l2 ≤ 0 then
        some w2
      else
        xl (f_X3_stop_17 1 w2) fun w3 =>
        some w3
  else
    (f_X3_addWaiting_17 (f_X3_bindingOf l4) g).bind fun w8 =>
    (f_X3_take_17 l4 w8).bind fun w9 =>
    xl (f_X3_putAside_17 l4 w9) fun w10 =>
    k11 1 l2 (l3 + 1) w10
else
  (f_X3_readUnit_17 l4 g).bind fun w11 =>
  k11 0 l2 (l3 + 1) w11) = some out := H
  refine xb A [(.iload_n 1, 1, 0, 0, .null)] (pc' := 71) (ls' := [some (.ref 17), some (.int l1), some (.int l2), some (.int l3), some (.int l4)]) (st' := [.int l1]) (g' := g) (by decide +kernel) rfl ?_
  refine xif_eq A (14) 85 74 (by decide +kernel) (fun h4 => ?_) (fun h4 => ?_)
  · rw [if_pos h4] at H
    refine xb A [(.iload 4, 2, 0, 0, .null)] (pc' := 87) (ls' := [some (.ref 17), some (.int l1), some (.int l2), some (.int l3), some (.int l4)]) (st' := [.int l4]) (g' := g) (by decide +kernel) rfl ?_
    refine xcallS A (ix := 168) (nxt := 90) hrm hz [.int l4] [] 844 (c_X3_bindingOf hS _ rfl) ok_X3_bindingOf (by decide +kernel) rfl (fun r g1 hq => ?_)
    rw [hq.1, hq.2]
    show xW k S 0 0 90 [some (.ref 17), some (.int l1), some (.int l2), some (.int l3), some (.int l4)] [.int (f_X3_bindingOf l4)] g
    refine xif_le A (29) 119 93 (by decide +kernel) (fun h5 => ?_) (fun h5 => ?_)
    · rw [if_pos h5] at H
      refine xb A [(.iload 4, 2, 0, 0, .null), (.bipush 12, 2, 0, 0, .int 12)] (pc' := 123) (ls' := [some (.ref 17), some (.int l1), some (.int l2), some (.int l3), some (.int l4)]) (st' := [.int 12, .int l4]) (g' := g) (by decide +kernel) rfl ?_
      refine xic_ne A (34) 157 126 (by decide +kernel) (fun h6 => ?_) (fun h6 => ?_)
      · rw [if_neg h6] at H
        refine xb A [(.aload_n 0, 1, 0, 0, .null), (.iconst 1, 1, 0, 0, .int 1)] (pc' := 159) (ls' := [some (.ref 17), some (.int l1), some (.int l2), some (.int l3), some (.int l4)]) (st' := [.int 1, .ref 17]) (g' := g) (by decide +kernel) rfl ?_
        obtain ⟨w2, e2, H⟩ := xbind H
        refine xcallV A (ix := 171) (nxt := 162) hrm hz [.int 1] [] 847 (c_X3_addWaiting_17 hS _ e2) ok_X3_addWaiting (by decide +kernel) rfl (fun r g1 hq => ?_)
        rw [hq.1, hq.2]
        show xW k S 0 0 162 [some (.ref 17), some (.int l1), some (.int l2), some (.int l3), some (.int l4)] [] w2
        refine xb A [(.iload_n 2, 1, 0, 0, .null)] (pc' := 163) (ls' := [some (.ref 17), some (.int l1), some (.int l2), some (.int l3), some (.int l4)]) (st' := [.int l2]) (g' := w2) (by decide +kernel) rfl ?_
        refine xif_le A (8) 171 166 (by decide +kernel) (fun h7 => ?_) (fun h7 => ?_)
        · rw [if_pos h7] at H
          obtain rfl := Option.some.inj H
          exact xret_v A hR hz (by decide +kernel) ⟨rfl, rfl⟩
        · rw [if_neg h7] at H
          refine xb A [(.aload_n 0, 1, 0, 0, .null), (.iconst 1, 1, 0, 0, .int 1)] (pc' := 168) (ls' := [some (.ref 17), some (.int l1), some (.int l2), some (.int l3), some (.int l4)]) (st' := [.int 1, .ref 17]) (g' := w2) (by decide +kernel) rfl ?_
          obtain ⟨w3, e3, H⟩ := xl_elim H
          refine xcallV A (ix := 79) (nxt := 171) hrm hz [.int 1] [] 742 (c_X3_stop_17 hS _ e3) ok_X3_stop (by decide +kernel) rfl (fun r g1 hq => ?_)
          rw [hq.1, hq.2]
          show xW k S 0 0 171 [some (.ref 17), some (.int l1), some (.int l2), some (.int l3), some (.int l4)] [] w3
          obtain rfl := Option.some.inj H
          exact xret_v A hR hz (by decide +kernel) ⟨rfl, rfl⟩
      · rw [if_pos h6] at H
        refine xb A [(.iload_n 2, 1, 0, 0, .null)] (pc' := 127) (ls' := [some (.ref 17), some (.int l1), some (.int l2), some (.int l3), some (.int l4)]) (st' := [.int l2]) (g' := g) (by decide +kernel) rfl ?_
        refine xif_le A (30) 157 130 (by decide +kernel) (fun h8 => ?_) (fun h8 => ?_)
        · rw [if_pos h8] at H
          refine xb A [(.aload_n 0, 1, 0, 0, .null), (.iconst 1, 1, 0, 0, .int 1)] (pc' := 159) (ls' := [some (.ref 17), some (.int l1), some (.int l2), some (.int l3), some (.int l4)]) (st' := [.int 1, .ref 17]) (g' := g) (by decide +kernel) rfl ?_
          obtain ⟨w4, e4, H⟩ := xbind H
          refine xcallV A (ix := 171) (nxt := 162) hrm hz [.int 1] [] 847 (c_X3_addWaiting_17 hS _ e4) ok_X3_addWaiting (by decide +kernel) rfl (fun r g1 hq => ?_)
          rw [hq.1, hq.2]
          show xW k S 0 0 162 [some (.ref 17), some (.int l1), some (.int l2), some (.int l3), some (.int l4)] [] w4
          refine xb A [(.iload_n 2, 1, 0, 0, .null)] (pc' := 163) (ls' := [some (.ref 17), some (.int l1), some (.int l2), some (.int l3), some (.int l4)]) (st' := [.int l2]) (g' := w4) (by decide +kernel) rfl ?_
          refine xif_le A (8) 171 166 (by decide +kernel) (fun h9 => ?_) (fun h9 => ?_)
          · rw [if_pos h9] at H
            obtain rfl := Option.some.inj H
            exact xret_v A hR hz (by decide +kernel) ⟨rfl, rfl⟩
          · rw [if_neg h9] at H
            refine xb A [(.aload_n 0, 1, 0, 0, .null), (.iconst 1, 1, 0, 0, .int 1)] (pc' := 168) (ls' := [some (.ref 17), some (.int l1), some (.int l2), some (.int l3), some (.int l4)]) (st' := [.int 1, .ref 17]) (g' := w4) (by decide +kernel) rfl ?_
            obtain ⟨w5, e5, H⟩ := xl_elim H
            refine xcallV A (ix := 79) (nxt := 171) hrm hz [.int 1] [] 742 (c_X3_stop_17 hS _ e5) ok_X3_stop (by decide +kernel) rfl (fun r g1 hq => ?_)
            rw [hq.1, hq.2]
            show xW k S 0 0 171 [some (.ref 17), some (.int l1), some (.int l2), some (.int l3), some (.int l4)] [] w5
            obtain rfl := Option.some.inj H
            exact xret_v A hR hz (by decide +kernel) ⟨rfl, rfl⟩
        · rw [if_neg h8] at H
          refine xb A [(.aload_n 0, 1, 0, 0, .null), (.iconst 1, 1, 0, 0, .int 1)] (pc' := 132) (ls' := [some (.ref 17), some (.int l1), some (.int l2), some (.int l3), some (.int l4)]) (st' := [.int 1, .ref 17]) (g' := g) (by decide +kernel) rfl ?_
          obtain ⟨w6, e6, H⟩ := xbind H
          refine xcallV A (ix := 171) (nxt := 135) hrm hz [.int 1] [] 847 (c_X3_addWaiting_17 hS _ e6) ok_X3_addWaiting (by decide +kernel) rfl (fun r g1 hq => ?_)
          rw [hq.1, hq.2]
          show xW k S 0 0 135 [some (.ref 17), some (.int l1), some (.int l2), some (.int l3), some (.int l4)] [] w6
          refine xb A [(.aload_n 0, 1, 0, 0, .null), (.iload 4, 2, 0, 0, .null)] (pc' := 138) (ls' := [some (.ref 17), some (.int l1), some (.int l2), some (.int l3), some (.int l4)]) (st' := [.int l4, .ref 17]) (g' := w6) (by decide +kernel) rfl ?_
          obtain ⟨w7, e7, H⟩ := xbind H
          refine xcallV A (ix := 82) (nxt := 141) hrm hz [.int l4] [] 746 (c_X3_take_17 hS _ e7) ok_X3_take (by decide +kernel) rfl (fun r g1 hq => ?_)
          rw [hq.1, hq.2]
          show xW k S 0 0 141 [some (.ref 17), some (.int l1), some (.int l2), some (.int l3), some (.int l4)] [] w7
          refine xb A [(.aload_n 0, 1, 0, 0, .null), (.dup, 1, 0, 0, .null), (.getfield 159, 3, 17, 4, .int 0), (.iconst 1, 1, 0, 0, .int 1), (.isub, 1, 0, 0, .null), (.putfield 159, 3, 17, 4, .int 0), (.iinc 2 (-1), 3, 0, 0, .null)] (pc' := 154) (ls' := [some (.ref 17), some (.int l1), some (.int (l2 + (-1))), some (.int l3), some (.int l4)]) (st' := []) (g' := (xupd w7.1 17 4 ((w7.1 17 4) - 1), w7.2)) (by decide +kernel) rfl ?_
          refine xgoto A (18) 172 (by decide +kernel) ?_
          refine xb A [(.iinc 3 1, 3, 0, 0, .null)] (pc' := 175) (ls' := [some (.ref 17), some (.int l1), some (.int (l2 + (-1))), some (.int (l3 + 1)), some (.int l4)]) (st' := []) (g' := (xupd w7.1 17 4 ((w7.1 17 4) - 1), w7.2)) (by decide +kernel) rfl ?_
          refine xgoto A (-164) 11 (by decide +kernel) ?_
          refine xweak (ls' := [some (.ref 17), some (.int l1), some (.int (l2 + (-1))), some (.int (l3 + 1)), none]) (by exact ⟨rfl, ⟨rfl, ⟨rfl, ⟨rfl, trivial⟩⟩⟩⟩) ?_
          exact hk11 _ _ _ _ H
    · rw [if_neg h5] at H
      refine xb A [(.aload_n 0, 1, 0, 0, .null), (.iload 4, 2, 0, 0, .null)] (pc' := 96) (ls' := [some (.ref 17), some (.int l1), some (.int l2), some (.int l3), some (.int l4)]) (st' := [.int l4, .ref 17]) (g' := g) (by decide +kernel) rfl ?_
      refine xcallS A (ix := 168) (nxt := 99) hrm hz [.int l4] [.ref 17] 844 (c_X3_bindingOf hS _ rfl) ok_X3_bindingOf (by decide +kernel) rfl (fun r g1 hq => ?_)
      rw [hq.1, hq.2]
      show xW k S 0 0 99 [some (.ref 17), some (.int l1), some (.int l2), some (.int l3), some (.int l4)] [.int (f_X3_bindingOf l4), .ref 17] g
      obtain ⟨w8, e8, H⟩ := xbind H
      refine xcallV A (ix := 171) (nxt := 102) hrm hz [.int (f_X3_bindingOf l4)] [] 847 (c_X3_addWaiting_17 hS _ e8) ok_X3_addWaiting (by decide +kernel) rfl (fun r g1 hq => ?_)
      rw [hq.1, hq.2]
      show xW k S 0 0 102 [some (.ref 17), some (.int l1), some (.int l2), some (.int l3), some (.int l4)] [] w8
      refine xb A [(.aload_n 0, 1, 0, 0, .null), (.iload 4, 2, 0, 0, .null)] (pc' := 105) (ls' := [some (.ref 17), some (.int l1), some (.int l2), some (.int l3), some (.int l4)]) (st' := [.int l4, .ref 17]) (g' := w8) (by decide +kernel) rfl ?_
      obtain ⟨w9, e9, H⟩ := xbind H
      refine xcallV A (ix := 82) (nxt := 108) hrm hz [.int l4] [] 746 (c_X3_take_17 hS _ e9) ok_X3_take (by decide +kernel) rfl (fun r g1 hq => ?_)
      rw [hq.1, hq.2]
      show xW k S 0 0 108 [some (.ref 17), some (.int l1), some (.int l2), some (.int l3), some (.int l4)] [] w9
      refine xb A [(.aload_n 0, 1, 0, 0, .null), (.iload 4, 2, 0, 0, .null)] (pc' := 111) (ls' := [some (.ref 17), some (.int l1), some (.int l2), some (.int l3), some (.int l4)]) (st' := [.int l4, .ref 17]) (g' := w9) (by decide +kernel) rfl ?_
      obtain ⟨w10, e10, H⟩ := xl_elim H
      refine xcallV A (ix := 162) (nxt := 114) hrm hz [.int l4] [] 834 (c_X3_putAside_17 hS _ e10) ok_X3_putAside (by decide +kernel) rfl (fun r g1 hq => ?_)
      rw [hq.1, hq.2]
      show xW k S 0 0 114 [some (.ref 17), some (.int l1), some (.int l2), some (.int l3), some (.int l4)] [] w10
      refine xb A [(.iconst 1, 1, 0, 0, .int 1), (.istore_n 1, 1, 0, 0, .null)] (pc' := 116) (ls' := [some (.ref 17), some (.int 1), some (.int l2), some (.int l3), some (.int l4)]) (st' := []) (g' := w10) (by decide +kernel) rfl ?_
      refine xgoto A (56) 172 (by decide +kernel) ?_
      refine xb A [(.iinc 3 1, 3, 0, 0, .null)] (pc' := 175) (ls' := [some (.ref 17), some (.int 1), some (.int l2), some (.int (l3 + 1)), some (.int l4)]) (st' := []) (g' := w10) (by decide +kernel) rfl ?_
      refine xgoto A (-164) 11 (by decide +kernel) ?_
      refine xweak (ls' := [some (.ref 17), some (.int 1), some (.int l2), some (.int (l3 + 1)), none]) (by exact ⟨rfl, ⟨rfl, ⟨rfl, ⟨rfl, trivial⟩⟩⟩⟩) ?_
      exact hk11 _ _ _ _ H
  · rw [if_neg h4] at H
    refine xb A [(.aload_n 0, 1, 0, 0, .null), (.iload 4, 2, 0, 0, .null)] (pc' := 77) (ls' := [some (.ref 17), some (.int l1), some (.int l2), some (.int l3), some (.int l4)]) (st' := [.int l4, .ref 17]) (g' := g) (by decide +kernel) rfl ?_
    obtain ⟨w11, e11, H⟩ := xbind H
    refine xcallV A (ix := 165) (nxt := 80) hrm hz [.int l4] [] 839 (c_X3_readUnit_17 hS _ e11) ok_X3_readUnit (by decide +kernel) rfl (fun r g1 hq => ?_)
    rw [hq.1, hq.2]
    show xW k S 0 0 80 [some (.ref 17), some (.int l1), some (.int l2), some (.int l3), some (.int l4)] [] w11
    refine xb A [(.iconst 0, 1, 0, 0, .int 0), (.istore_n 1, 1, 0, 0, .null)] (pc' := 82) (ls' := [some (.ref 17), some (.int 0), some (.int l2), some (.int l3), some (.int l4)]) (st' := []) (g' := w11) (by decide +kernel) rfl ?_
    refine xgoto A (90) 172 (by decide +kernel) ?_
    refine xb A [(.iinc 3 1, 3, 0, 0, .null)] (pc' := 175) (ls' := [some (.ref 17), some (.int 0), some (.int l2), some (.int (l3 + 1)), some (.int l4)]) (st' := []) (g' := w11) (by decide +kernel) rfl ?_
    refine xgoto A (-164) 11 (by decide +kernel) ?_
    refine xweak (ls' := [some (.ref 17), some (.int 0), some (.int l2), some (.int (l3 + 1)), none]) (by exact ⟨rfl, ⟨rfl, ⟨rfl, ⟨rfl, trivial⟩⟩⟩⟩) ?_
    exact hk11 _ _ _ _ H
theorem fr_X3_readSum_17_70 {k11 : Int32 → Int32 → Int32 → xG → Option (xG)} (hk11 : ∀ (l1 : Int32) (l2 : Int32) (l3 : Int32) (g : xG) (out : xG), k11 l1 l2 l3 g = some out → xfrm fp_X3_readSum_17 g (out)) : ∀ (l1 : Int32) (l2 : Int32) (l3 : Int32) (l4 : Int32) (g : xG) (out : xG), f_X3_readSum_17_70 k11 l1 l2 l3 l4 g = some out → xfrm fp_X3_readSum_17 g (out) := by
  intro l1 l2 l3 l4 g out H
  have H : (if l1 = 0 then
  if (f_X3_bindingOf l4) ≤ 0 then
    if l4 = 12 then
      if l2 ≤ 0 then
        (f_X3_addWaiting_17 1 g).bind fun w4 =>
        if l2 ≤ 0 then
          some w4
        else
          xl (f_X3_stop_17 1 w4) fun w5 =>
          some w5
      else
        (f_X3_addWaiting_17 1 g).bind fun w6 =>
        (f_X3_take_17 l4 w6).bind fun w7 =>
        k11 l1 (l2 + (-1)) (l3 + 1) (xupd w7.1 17 4 ((w7.1 17 4) - 1), w7.2)
    else
      (f_X3_addWaiting_17 1 g).bind fun w2 =>
      if l2 ≤ 0 then
        some w2
      else
        xl (f_X3_stop_17 1 w2) fun w3 =>
        some w3
  else
    (f_X3_addWaiting_17 (f_X3_bindingOf l4) g).bind fun w8 =>
    (f_X3_take_17 l4 w8).bind fun w9 =>
    xl (f_X3_putAside_17 l4 w9) fun w10 =>
    k11 1 l2 (l3 + 1) w10
else
  (f_X3_readUnit_17 l4 g).bind fun w11 =>
  k11 0 l2 (l3 + 1) w11) = some out := H
  by_cases h4 : l1 = 0
  · rw [if_pos h4] at H
    by_cases h5 : (f_X3_bindingOf l4) ≤ 0
    · rw [if_pos h5] at H
      by_cases h6 : l4 = 12
      · rw [if_pos h6] at H
        by_cases h8 : l2 ≤ 0
        · rw [if_pos h8] at H
          obtain ⟨w4, e4, H⟩ := xbind H
          have hf4 : xfrm fp_X3_readSum_17 g (w4) := xfrm.tr xfrm.rf (fr_X3_addWaiting_17 _ e4) rfl
          by_cases h9 : l2 ≤ 0
          · rw [if_pos h9] at H
            obtain rfl := Option.some.inj H
            exact hf4
          · rw [if_neg h9] at H
            obtain ⟨w5, e5, H⟩ := xl_elim H
            have hf5 : xfrm fp_X3_readSum_17 g (w5) := xfrm.tr hf4 (fr_X3_stop_17 _ e5) rfl
            obtain rfl := Option.some.inj H
            exact hf5
        · rw [if_neg h8] at H
          obtain ⟨w6, e6, H⟩ := xbind H
          have hf6 : xfrm fp_X3_readSum_17 g (w6) := xfrm.tr xfrm.rf (fr_X3_addWaiting_17 _ e6) rfl
          obtain ⟨w7, e7, H⟩ := xbind H
          have hf7 : xfrm fp_X3_readSum_17 g (w7) := xfrm.tr hf6 (fr_X3_take_17 _ e7) rfl
          have hf8 : xfrm fp_X3_readSum_17 g ((xupd w7.1 17 4 ((w7.1 17 4) - 1), w7.2)) := xfrm.up hf7 rfl
          exact xfrm.tr hf8 (hk11 _ _ _ _ _ H) rfl
      · rw [if_neg h6] at H
        obtain ⟨w2, e2, H⟩ := xbind H
        have hf2 : xfrm fp_X3_readSum_17 g (w2) := xfrm.tr xfrm.rf (fr_X3_addWaiting_17 _ e2) rfl
        by_cases h7 : l2 ≤ 0
        · rw [if_pos h7] at H
          obtain rfl := Option.some.inj H
          exact hf2
        · rw [if_neg h7] at H
          obtain ⟨w3, e3, H⟩ := xl_elim H
          have hf3 : xfrm fp_X3_readSum_17 g (w3) := xfrm.tr hf2 (fr_X3_stop_17 _ e3) rfl
          obtain rfl := Option.some.inj H
          exact hf3
    · rw [if_neg h5] at H
      obtain ⟨w8, e8, H⟩ := xbind H
      have hf9 : xfrm fp_X3_readSum_17 g (w8) := xfrm.tr xfrm.rf (fr_X3_addWaiting_17 _ e8) rfl
      obtain ⟨w9, e9, H⟩ := xbind H
      have hf10 : xfrm fp_X3_readSum_17 g (w9) := xfrm.tr hf9 (fr_X3_take_17 _ e9) rfl
      obtain ⟨w10, e10, H⟩ := xl_elim H
      have hf11 : xfrm fp_X3_readSum_17 g (w10) := xfrm.tr hf10 (fr_X3_putAside_17 _ e10) rfl
      exact xfrm.tr hf11 (hk11 _ _ _ _ _ H) rfl
  · rw [if_neg h4] at H
    obtain ⟨w11, e11, H⟩ := xbind H
    have hf12 : xfrm fp_X3_readSum_17 g (w11) := xfrm.tr xfrm.rf (fr_X3_readUnit_17 _ e11) rfl
    exact xfrm.tr hf12 (hk11 _ _ _ _ _ H) rfl
set_option maxRecDepth 20000 in
theorem t_X3_readSum_17_11 {k : xK} {S : List xSh} {out : xG} (hS : xpf SH1 S) (A : xAt k mX3_readSum.2.1 3 SH1 S) (hR : xRet k 0 0 S (fun r g' => r = none ∧ g' = out) mX3_readSum.2.2.2) (hrm : xrm k = { frames := 3, cells := 0, slots := 0, locals := 66 }) (hz : xhs k = xb0 k + S.length)   : ∀ (n : Nat) (l1 : Int32) (l2 : Int32) (l3 : Int32) (g : xG), f_X3_readSum_17_11 n l1 l2 l3 g = some out → xW k S 0 0 11 [some (.ref 17), some (.int l1), some (.int l2), some (.int l3), none] [] g := by
  intro n
  induction n with
  | zero => intro l1 l2 l3 g H; exact absurd H (by simp [f_X3_readSum_17_11])
  | succ n ih =>
    intro l1 l2 l3 g H
    have H : (if 400 < l3 then
  some g
else
  if (g.1 17 6) = 0 then
    (f_X9_kindAt_18 (g.1 17 5) g).bind fun w1 =>
    if l1 = 0 then
      f_X3_readSum_17_70 (f_X3_readSum_17_11 n) l1 l2 l3 w1 g
    else
      if w1 = 11 then
        (f_X3_takeOneMore_17 w1 l2 6 g).bind fun w12 =>
        xl (f_X3_putAside_17 w1 w12) fun w13 =>
        f_X3_readSum_17_11 n l1 (l2 + 1) (l3 + 1) w13
      else
        f_X3_readSum_17_70 (f_X3_readSum_17_11 n) l1 l2 l3 w1 g
  else
    some g) = some out := H
    refine xb A [(.iload_n 3, 1, 0, 0, .null), (.sipush 400, 3, 0, 0, .int 400)] (pc' := 15) (ls' := [some (.ref 17), some (.int l1), some (.int l2), some (.int l3), none]) (st' := [.int 400, .int l3]) (g' := g) (by decide +kernel) rfl ?_
    refine xic_gt A (163) 178 18 (by decide +kernel) (fun h1 => ?_) (fun h1 => ?_)
    · rw [if_pos h1] at H
      obtain rfl := Option.some.inj H
      exact xret_v A hR hz (by decide +kernel) ⟨rfl, rfl⟩
    · rw [if_neg h1] at H
      refine xb A [(.aload_n 0, 1, 0, 0, .null), (.getfield 33, 3, 17, 6, .int 0)] (pc' := 22) (ls' := [some (.ref 17), some (.int l1), some (.int l2), some (.int l3), none]) (st' := [.int (g.1 17 6)]) (g' := g) (by decide +kernel) rfl ?_
      refine xif_ne A (156) 178 25 (by decide +kernel) (fun h2 => ?_) (fun h2 => ?_)
      · rw [if_neg h2] at H
        obtain rfl := Option.some.inj H
        exact xret_v A hR hz (by decide +kernel) ⟨rfl, rfl⟩
      · rw [if_pos h2] at H
        refine xb A [(.aload_n 0, 1, 0, 0, .null), (.getfield 14, 3, 17, 1, .ref 18), (.aload_n 0, 1, 0, 0, .null), (.getfield 37, 3, 17, 5, .int 0)] (pc' := 33) (ls' := [some (.ref 17), some (.int l1), some (.int l2), some (.int l3), none]) (st' := [.int (g.1 17 5), .ref 18]) (g' := g) (by decide +kernel) rfl ?_
        obtain ⟨w1, e1, H⟩ := xbind H
        refine xcallV A (ix := 57) (nxt := 36) hrm hz [.int (g.1 17 5)] [] 732 (c_X9_kindAt_18 hS _ e1) ok_X9_kindAt (by decide +kernel) rfl (fun r g1 hq => ?_)
        rw [hq.1, hq.2]
        show xW k S 0 0 36 [some (.ref 17), some (.int l1), some (.int l2), some (.int l3), none] [.int w1] g
        refine xb A [(.istore 4, 2, 0, 0, .null), (.iload_n 1, 1, 0, 0, .null)] (pc' := 39) (ls' := [some (.ref 17), some (.int l1), some (.int l2), some (.int l3), some (.int w1)]) (st' := [.int l1]) (g' := g) (by decide +kernel) rfl ?_
        refine xif_eq A (31) 70 42 (by decide +kernel) (fun h3 => ?_) (fun h3 => ?_)
        · rw [if_pos h3] at H
          exact t_X3_readSum_17_70 hS A hR hrm hz ih _ _ _ _ _ H
        · rw [if_neg h3] at H
          refine xb A [(.iload 4, 2, 0, 0, .null), (.bipush 11, 2, 0, 0, .int 11)] (pc' := 46) (ls' := [some (.ref 17), some (.int l1), some (.int l2), some (.int l3), some (.int w1)]) (st' := [.int 11, .int w1]) (g' := g) (by decide +kernel) rfl ?_
          refine xic_ne A (24) 70 49 (by decide +kernel) (fun h10 => ?_) (fun h10 => ?_)
          · rw [if_neg h10] at H
            exact t_X3_readSum_17_70 hS A hR hrm hz ih _ _ _ _ _ H
          · rw [if_pos h10] at H
            refine xb A [(.aload_n 0, 1, 0, 0, .null), (.iload 4, 2, 0, 0, .null), (.iload_n 2, 1, 0, 0, .null), (.bipush 6, 2, 0, 0, .int 6)] (pc' := 55) (ls' := [some (.ref 17), some (.int l1), some (.int l2), some (.int l3), some (.int w1)]) (st' := [.int 6, .int l2, .int w1, .ref 17]) (g' := g) (by decide +kernel) rfl ?_
            obtain ⟨w12, e12, H⟩ := xbind H
            refine xcallV A (ix := 89) (nxt := 58) hrm hz [.int w1, .int l2, .int 6] [] 738 (c_X3_takeOneMore_17 hS _ e12) ok_X3_takeOneMore (by decide +kernel) rfl (fun r g1 hq => ?_)
            rw [hq.1, hq.2]
            show xW k S 0 0 58 [some (.ref 17), some (.int l1), some (.int l2), some (.int l3), some (.int w1)] [] w12
            refine xb A [(.aload_n 0, 1, 0, 0, .null), (.iload 4, 2, 0, 0, .null)] (pc' := 61) (ls' := [some (.ref 17), some (.int l1), some (.int l2), some (.int l3), some (.int w1)]) (st' := [.int w1, .ref 17]) (g' := w12) (by decide +kernel) rfl ?_
            obtain ⟨w13, e13, H⟩ := xl_elim H
            refine xcallV A (ix := 162) (nxt := 64) hrm hz [.int w1] [] 834 (c_X3_putAside_17 hS _ e13) ok_X3_putAside (by decide +kernel) rfl (fun r g1 hq => ?_)
            rw [hq.1, hq.2]
            show xW k S 0 0 64 [some (.ref 17), some (.int l1), some (.int l2), some (.int l3), some (.int w1)] [] w13
            refine xb A [(.iinc 2 1, 3, 0, 0, .null)] (pc' := 67) (ls' := [some (.ref 17), some (.int l1), some (.int (l2 + 1)), some (.int l3), some (.int w1)]) (st' := []) (g' := w13) (by decide +kernel) rfl ?_
            refine xgoto A (105) 172 (by decide +kernel) ?_
            refine xb A [(.iinc 3 1, 3, 0, 0, .null)] (pc' := 175) (ls' := [some (.ref 17), some (.int l1), some (.int (l2 + 1)), some (.int (l3 + 1)), some (.int w1)]) (st' := []) (g' := w13) (by decide +kernel) rfl ?_
            refine xgoto A (-164) 11 (by decide +kernel) ?_
            refine xweak (ls' := [some (.ref 17), some (.int l1), some (.int (l2 + 1)), some (.int (l3 + 1)), none]) (by exact ⟨rfl, ⟨rfl, ⟨rfl, ⟨rfl, trivial⟩⟩⟩⟩) ?_
            exact ih _ _ _ _ H
theorem fr_X3_readSum_17_11   : ∀ (n : Nat) (l1 : Int32) (l2 : Int32) (l3 : Int32) (g : xG) (out : xG), f_X3_readSum_17_11 n l1 l2 l3 g = some out → xfrm fp_X3_readSum_17 g (out) := by
  intro n
  induction n with
  | zero => intro l1 l2 l3 g out H; exact absurd H (by simp [f_X3_readSum_17_11])
  | succ n ih =>
    intro l1 l2 l3 g out H
    have H : (if 400 < l3 then
  some g
else
  if (g.1 17 6) = 0 then
    (f_X9_kindAt_18 (g.1 17 5) g).bind fun w1 =>
    if l1 = 0 then
      f_X3_readSum_17_70 (f_X3_readSum_17_11 n) l1 l2 l3 w1 g
    else
      if w1 = 11 then
        (f_X3_takeOneMore_17 w1 l2 6 g).bind fun w12 =>
        xl (f_X3_putAside_17 w1 w12) fun w13 =>
        f_X3_readSum_17_11 n l1 (l2 + 1) (l3 + 1) w13
      else
        f_X3_readSum_17_70 (f_X3_readSum_17_11 n) l1 l2 l3 w1 g
  else
    some g) = some out := H
    by_cases h1 : 400 < l3
    · rw [if_pos h1] at H
      obtain rfl := Option.some.inj H
      exact xfrm.rf
    · rw [if_neg h1] at H
      by_cases h2 : (g.1 17 6) = 0
      · rw [if_pos h2] at H
        obtain ⟨w1, e1, H⟩ := xbind H
        by_cases h3 : l1 = 0
        · rw [if_pos h3] at H
          exact xfrm.tr xfrm.rf (fr_X3_readSum_17_70 ih _ _ _ _ _ _ H) rfl
        · rw [if_neg h3] at H
          by_cases h10 : w1 = 11
          · rw [if_pos h10] at H
            obtain ⟨w12, e12, H⟩ := xbind H
            have hf13 : xfrm fp_X3_readSum_17 g (w12) := xfrm.tr xfrm.rf (fr_X3_takeOneMore_17 _ e12) rfl
            obtain ⟨w13, e13, H⟩ := xl_elim H
            have hf14 : xfrm fp_X3_readSum_17 g (w13) := xfrm.tr hf13 (fr_X3_putAside_17 _ e13) rfl
            exact xfrm.tr hf14 (ih _ _ _ _ _ H) rfl
          · rw [if_neg h10] at H
            exact xfrm.tr xfrm.rf (fr_X3_readSum_17_70 ih _ _ _ _ _ _ H) rfl
      · rw [if_neg h2] at H
        obtain rfl := Option.some.inj H
        exact xfrm.rf
set_option maxRecDepth 20000 in
theorem c_X3_readSum_17 {S : List xSh} (hS : xpf SH1 S) {g : xG}  (out : xG) (H : f_X3_readSum_17  g = some out) : xC mX3_readSum 3 66 0 0 S [.ref 17] g S (fun r g' => r = none ∧ g' = out) := by
  have H : (f_X3_readSum_17_11 xN 1 0 0 (xupd g.1 17 4 0, g.2)) = some out := H
  refine xC.of 3 SH1 [some (.ref 17), none, none, none, none] hS (by decide +kernel) rfl (fun _ _ => Nat.le_of_ble_eq_true rfl) (fun _ _ => rfl) ?_
  intro k A hR hrm hz
  refine xb A [(.iconst 1, 1, 0, 0, .int 1), (.istore_n 1, 1, 0, 0, .null), (.iconst 0, 1, 0, 0, .int 0), (.istore_n 2, 1, 0, 0, .null), (.aload_n 0, 1, 0, 0, .null), (.iconst 0, 1, 0, 0, .int 0), (.putfield 159, 3, 17, 4, .int 0), (.iconst 0, 1, 0, 0, .int 0), (.istore_n 3, 1, 0, 0, .null)] (pc' := 11) (ls' := [some (.ref 17), some (.int 1), some (.int 0), some (.int 0), none]) (st' := []) (g' := (xupd g.1 17 4 0, g.2)) (by decide +kernel) rfl ?_
  exact t_X3_readSum_17_11 hS A hR hrm hz _ _ _ _ _ H
theorem fr_X3_readSum_17  {g : xG} (out : xG) (H : f_X3_readSum_17  g = some out) : xfrm fp_X3_readSum_17 g (out) := by
  have H : (f_X3_readSum_17_11 xN 1 0 0 (xupd g.1 17 4 0, g.2)) = some out := H
  have hf1 : xfrm fp_X3_readSum_17 g ((xupd g.1 17 4 0, g.2)) := xfrm.up xfrm.rf rfl
  exact xfrm.tr hf1 (fr_X3_readSum_17_11 _ _ _ _ _ _ H) rfl
