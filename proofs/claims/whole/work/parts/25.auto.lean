/-! methods, walked by program -/
def fp_X11_liars_0 : List (Nat × Option Nat) := [(16, none), (45, none)]
def f_X11_liars_0_4  : Nat → Int32 → Int32 → xG → Option (Int32 × xG)
  | 0, _, _, _ => none
  | n + 1, l1, l2, g =>
    if (f_X4_people_3 g) ≤ l2 then
      some (l1, g)
    else
      (f_X1_lies_44_48 l2 g).bind fun w1 =>
      if w1.1 = 0 then
        f_X11_liars_0_4 n l1 (l2 + 1) w1.2
      else
        f_X11_liars_0_4 n (l1 ||| (f_X11_bit l2)) (l2 + 1) w1.2
def f_X11_liars_0  (g : xG) : Option (Int32 × xG) :=
  f_X11_liars_0_4 xN 0 0 g
set_option maxRecDepth 20000 in
theorem t_X11_liars_0_4 {k : xK} {S : List xSh} {out : Int32 × xG} (hS : xpf SH1 S) (A : xAt k mX11_liars.2.1 11 SH1 S) (hR : xRet k 0 0 S (fun r g' => r = some (.int out.1) ∧ g' = out.2) mX11_liars.2.2.2) (hrm : xrm k = { frames := 4, cells := 0, slots := 0, locals := 98 }) (hz : xhs k = xb0 k + S.length)   : ∀ (n : Nat) (l1 : Int32) (l2 : Int32) (g : xG), f_X11_liars_0_4 n l1 l2 g = some out → xW k S 0 0 4 [some (.ref 0), some (.int l1), some (.int l2)] [] g := by
  intro n
  induction n with
  | zero => intro l1 l2 g H; exact absurd H (by simp [f_X11_liars_0_4])
  | succ n ih =>
    intro l1 l2 g H
    have H : (if (f_X4_people_3 g) ≤ l2 then
  some (l1, g)
else
  (f_X1_lies_44_48 l2 g).bind fun w1 =>
  if w1.1 = 0 then
    f_X11_liars_0_4 n l1 (l2 + 1) w1.2
  else
    f_X11_liars_0_4 n (l1 ||| (f_X11_bit l2)) (l2 + 1) w1.2) = some out := H
    refine xb A [(.iload_n 2, 1, 0, 0, .null), (.aload_n 0, 1, 0, 0, .null), (.getfield 19, 3, 0, 1, .ref 3)] (pc' := 9) (ls' := [some (.ref 0), some (.int l1), some (.int l2)]) (st' := [.ref 3, .int l2]) (g' := g) (by decide +kernel) rfl ?_
    refine xcallV A (ix := 158) (nxt := 12) hrm hz [] [.int l2] 912 (c_X4_people_3 hS _ rfl) ok_X4_people (by decide +kernel) rfl (fun r g1 hq => ?_)
    rw [hq.1, hq.2]
    show xW k S 0 0 12 [some (.ref 0), some (.int l1), some (.int l2)] [.int (f_X4_people_3 g), .int l2] g
    refine xic_ge A (31) 43 15 (by decide +kernel) (fun h1 => ?_) (fun h1 => ?_)
    · rw [if_pos h1] at H
      refine xb A [(.iload_n 1, 1, 0, 0, .null)] (pc' := 44) (ls' := [some (.ref 0), some (.int l1), some (.int l2)]) (st' := [.int l1]) (g' := g) (by decide +kernel) rfl ?_
      obtain rfl := Option.some.inj H
      exact xret_i A hR hz (by decide +kernel) rfl ⟨rfl, rfl⟩
    · rw [if_neg h1] at H
      refine xb A [(.aload_n 0, 1, 0, 0, .null), (.getfield 56, 3, 0, 6, .ref 44), (.aload_n 0, 1, 0, 0, .null), (.getfield 66, 3, 0, 8, .ref 48), (.iload_n 2, 1, 0, 0, .null)] (pc' := 24) (ls' := [some (.ref 0), some (.int l1), some (.int l2)]) (st' := [.int l2, .ref 48, .ref 44]) (g' := g) (by decide +kernel) rfl ?_
      obtain ⟨w1, e1, H⟩ := xbind H
      refine xcallV A (ix := 253) (nxt := 27) hrm hz [.ref 48, .int l2] [] 1123 (c_X1_lies_44_48 hS _ e1) ok_X1_lies (by decide +kernel) rfl (fun r g1 hq => ?_)
      rw [hq.1, hq.2]
      show xW k S 0 0 27 [some (.ref 0), some (.int l1), some (.int l2)] [.int w1.1] w1.2
      refine xif_eq A (10) 37 30 (by decide +kernel) (fun h2 => ?_) (fun h2 => ?_)
      · rw [if_pos h2] at H
        refine xb A [(.iinc 2 1, 3, 0, 0, .null)] (pc' := 40) (ls' := [some (.ref 0), some (.int l1), some (.int (l2 + 1))]) (st' := []) (g' := w1.2) (by decide +kernel) rfl ?_
        refine xgoto A (-36) 4 (by decide +kernel) ?_
        exact ih _ _ _ H
      · rw [if_neg h2] at H
        refine xb A [(.iload_n 1, 1, 0, 0, .null), (.iload_n 2, 1, 0, 0, .null)] (pc' := 32) (ls' := [some (.ref 0), some (.int l1), some (.int l2)]) (st' := [.int l2, .int l1]) (g' := w1.2) (by decide +kernel) rfl ?_
        refine xcallS A (ix := 214) (nxt := 35) hrm hz [.int l2] [.int l1] 1017 (c_X11_bit hS _ rfl) ok_X11_bit (by decide +kernel) rfl (fun r g1 hq => ?_)
        rw [hq.1, hq.2]
        show xW k S 0 0 35 [some (.ref 0), some (.int l1), some (.int l2)] [.int (f_X11_bit l2), .int l1] w1.2
        refine xb A [(.ior, 1, 0, 0, .null), (.istore_n 1, 1, 0, 0, .null), (.iinc 2 1, 3, 0, 0, .null)] (pc' := 40) (ls' := [some (.ref 0), some (.int (l1 ||| (f_X11_bit l2))), some (.int (l2 + 1))]) (st' := []) (g' := w1.2) (by decide +kernel) rfl ?_
        refine xgoto A (-36) 4 (by decide +kernel) ?_
        exact ih _ _ _ H
theorem fr_X11_liars_0_4   : ∀ (n : Nat) (l1 : Int32) (l2 : Int32) (g : xG) (out : Int32 × xG), f_X11_liars_0_4 n l1 l2 g = some out → xfrm fp_X11_liars_0 g (out.2) := by
  intro n
  induction n with
  | zero => intro l1 l2 g out H; exact absurd H (by simp [f_X11_liars_0_4])
  | succ n ih =>
    intro l1 l2 g out H
    have H : (if (f_X4_people_3 g) ≤ l2 then
  some (l1, g)
else
  (f_X1_lies_44_48 l2 g).bind fun w1 =>
  if w1.1 = 0 then
    f_X11_liars_0_4 n l1 (l2 + 1) w1.2
  else
    f_X11_liars_0_4 n (l1 ||| (f_X11_bit l2)) (l2 + 1) w1.2) = some out := H
    by_cases h1 : (f_X4_people_3 g) ≤ l2
    · rw [if_pos h1] at H
      obtain rfl := Option.some.inj H
      exact xfrm.rf
    · rw [if_neg h1] at H
      obtain ⟨w1, e1, H⟩ := xbind H
      have hf1 : xfrm fp_X11_liars_0 g (w1.2) := xfrm.tr xfrm.rf (fr_X1_lies_44_48 _ e1) rfl
      by_cases h2 : w1.1 = 0
      · rw [if_pos h2] at H
        exact xfrm.tr hf1 (ih _ _ _ _ H) rfl
      · rw [if_neg h2] at H
        exact xfrm.tr hf1 (ih _ _ _ _ H) rfl
set_option maxRecDepth 20000 in
theorem c_X11_liars_0 {S : List xSh} (hS : xpf SH1 S) {g : xG}  (out : Int32 × xG) (H : f_X11_liars_0  g = some out) : xC mX11_liars 4 98 0 0 S [.ref 0] g S (fun r g' => r = some (.int out.1) ∧ g' = out.2) := by
  have H : (f_X11_liars_0_4 xN 0 0 g) = some out := H
  refine xC.of 11 SH1 [some (.ref 0), none, none] hS (by decide +kernel) rfl (fun _ _ => Nat.le_of_ble_eq_true rfl) (fun _ _ => rfl) ?_
  intro k A hR hrm hz
  refine xb A [(.iconst 0, 1, 0, 0, .int 0), (.istore_n 1, 1, 0, 0, .null), (.iconst 0, 1, 0, 0, .int 0), (.istore_n 2, 1, 0, 0, .null)] (pc' := 4) (ls' := [some (.ref 0), some (.int 0), some (.int 0)]) (st' := []) (g' := g) (by decide +kernel) rfl ?_
  exact t_X11_liars_0_4 hS A hR hrm hz _ _ _ _ H
theorem fr_X11_liars_0  {g : xG} (out : Int32 × xG) (H : f_X11_liars_0  g = some out) : xfrm fp_X11_liars_0 g (out.2) := by
  have H : (f_X11_liars_0_4 xN 0 0 g) = some out := H
  exact xfrm.tr xfrm.rf (fr_X11_liars_0_4 _ _ _ _ _ H) rfl
def f_X1_trueRingerOf_44_48_5  (g : xG) : Nat → Int32 → Int32 → Option (Int32)
  | 0, _, _ => none
  | n + 1, l2, l3 =>
    if (f_X4_people_3 g) ≤ l3 then
      some l2
    else
      if (f_X1_mayRing_44_48 l3 g) = 0 then
        f_X1_trueRingerOf_44_48_5 g n l2 (l3 + 1)
      else
        if l2 < 0 then
          f_X1_trueRingerOf_44_48_5 g n l3 (l3 + 1)
        else
          if (f_X1_trueFarOf_44 l3 g) ≤ (f_X1_trueFarOf_44 l2 g) then
            f_X1_trueRingerOf_44_48_5 g n l2 (l3 + 1)
          else
            f_X1_trueRingerOf_44_48_5 g n l3 (l3 + 1)
def f_X1_trueRingerOf_44_48  (g : xG) : Option (Int32) :=
  f_X1_trueRingerOf_44_48_5 g xN (-2) 0
set_option maxRecDepth 20000 in
theorem t_X1_trueRingerOf_44_48_5 {k : xK} {S : List xSh} {g : xG} {out : Int32} (hS : xpf SH1 S) (A : xAt k mX1_trueRingerOf.2.1 1 SH1 S) (hR : xRet k 0 0 S (fun r g' => r = some (.int out) ∧ g' = g) mX1_trueRingerOf.2.2.2) (hrm : xrm k = { frames := 4, cells := 0, slots := 0, locals := 85 }) (hz : xhs k = xb0 k + S.length)   : ∀ (n : Nat) (l2 : Int32) (l3 : Int32), f_X1_trueRingerOf_44_48_5 g n l2 l3 = some out → xW k S 0 0 5 [some (.ref 44), some (.ref 48), some (.int l2), some (.int l3)] [] g := by
  intro n
  induction n with
  | zero => intro l2 l3 H; exact absurd H (by simp [f_X1_trueRingerOf_44_48_5])
  | succ n ih =>
    intro l2 l3 H
    have H : (if (f_X4_people_3 g) ≤ l3 then
  some l2
else
  if (f_X1_mayRing_44_48 l3 g) = 0 then
    f_X1_trueRingerOf_44_48_5 g n l2 (l3 + 1)
  else
    if l2 < 0 then
      f_X1_trueRingerOf_44_48_5 g n l3 (l3 + 1)
    else
      if (f_X1_trueFarOf_44 l3 g) ≤ (f_X1_trueFarOf_44 l2 g) then
        f_X1_trueRingerOf_44_48_5 g n l2 (l3 + 1)
      else
        f_X1_trueRingerOf_44_48_5 g n l3 (l3 + 1)) = some out := H
    refine xb A [(.iload_n 3, 1, 0, 0, .null), (.aload_n 0, 1, 0, 0, .null), (.getfield 17, 3, 44, 0, .ref 3)] (pc' := 10) (ls' := [some (.ref 44), some (.ref 48), some (.int l2), some (.int l3)]) (st' := [.ref 3, .int l3]) (g' := g) (by decide +kernel) rfl ?_
    refine xcallV A (ix := 60) (nxt := 13) hrm hz [] [.int l3] 972 (c_X4_people_3 hS _ rfl) ok_X4_people (by decide +kernel) rfl (fun r g1 hq => ?_)
    rw [hq.1, hq.2]
    show xW k S 0 0 13 [some (.ref 44), some (.ref 48), some (.int l2), some (.int l3)] [.int (f_X4_people_3 g), .int l3] g
    refine xic_ge A (37) 50 16 (by decide +kernel) (fun h1 => ?_) (fun h1 => ?_)
    · rw [if_pos h1] at H
      refine xb A [(.iload_n 2, 1, 0, 0, .null)] (pc' := 51) (ls' := [some (.ref 44), some (.ref 48), some (.int l2), some (.int l3)]) (st' := [.int l2]) (g' := g) (by decide +kernel) rfl ?_
      obtain rfl := Option.some.inj H
      exact xret_i A hR hz (by decide +kernel) rfl ⟨rfl, rfl⟩
    · rw [if_neg h1] at H
      refine xb A [(.aload_n 0, 1, 0, 0, .null), (.aload_n 1, 1, 0, 0, .null), (.iload_n 3, 1, 0, 0, .null)] (pc' := 19) (ls' := [some (.ref 44), some (.ref 48), some (.int l2), some (.int l3)]) (st' := [.int l3, .ref 48, .ref 44]) (g' := g) (by decide +kernel) rfl ?_
      refine xcallV A (ix := 96) (nxt := 22) hrm hz [.ref 48, .int l3] [] 1042 (c_X1_mayRing_44_48 hS _ rfl) ok_X1_mayRing (by decide +kernel) rfl (fun r g1 hq => ?_)
      rw [hq.1, hq.2]
      show xW k S 0 0 22 [some (.ref 44), some (.ref 48), some (.int l2), some (.int l3)] [.int (f_X1_mayRing_44_48 l3 g)] g
      refine xif_eq A (22) 44 25 (by decide +kernel) (fun h2 => ?_) (fun h2 => ?_)
      · rw [if_pos h2] at H
        refine xb A [(.iinc 3 1, 3, 0, 0, .null)] (pc' := 47) (ls' := [some (.ref 44), some (.ref 48), some (.int l2), some (.int (l3 + 1))]) (st' := []) (g' := g) (by decide +kernel) rfl ?_
        refine xgoto A (-42) 5 (by decide +kernel) ?_
        exact ih _ _ H
      · rw [if_neg h2] at H
        refine xb A [(.iload_n 2, 1, 0, 0, .null)] (pc' := 26) (ls' := [some (.ref 44), some (.ref 48), some (.int l2), some (.int l3)]) (st' := [.int l2]) (g' := g) (by decide +kernel) rfl ?_
        refine xif_lt A (16) 42 29 (by decide +kernel) (fun h3 => ?_) (fun h3 => ?_)
        · rw [if_pos h3] at H
          refine xb A [(.iload_n 3, 1, 0, 0, .null), (.istore_n 2, 1, 0, 0, .null), (.iinc 3 1, 3, 0, 0, .null)] (pc' := 47) (ls' := [some (.ref 44), some (.ref 48), some (.int l3), some (.int (l3 + 1))]) (st' := []) (g' := g) (by decide +kernel) rfl ?_
          refine xgoto A (-42) 5 (by decide +kernel) ?_
          exact ih _ _ H
        · rw [if_neg h3] at H
          refine xb A [(.aload_n 0, 1, 0, 0, .null), (.iload_n 3, 1, 0, 0, .null)] (pc' := 31) (ls' := [some (.ref 44), some (.ref 48), some (.int l2), some (.int l3)]) (st' := [.int l3, .ref 44]) (g' := g) (by decide +kernel) rfl ?_
          refine xcallV A (ix := 93) (nxt := 34) hrm hz [.int l3] [] 1056 (c_X1_trueFarOf_44 hS _ rfl) ok_X1_trueFarOf (by decide +kernel) rfl (fun r g1 hq => ?_)
          rw [hq.1, hq.2]
          show xW k S 0 0 34 [some (.ref 44), some (.ref 48), some (.int l2), some (.int l3)] [.int (f_X1_trueFarOf_44 l3 g)] g
          refine xb A [(.aload_n 0, 1, 0, 0, .null), (.iload_n 2, 1, 0, 0, .null)] (pc' := 36) (ls' := [some (.ref 44), some (.ref 48), some (.int l2), some (.int l3)]) (st' := [.int l2, .ref 44, .int (f_X1_trueFarOf_44 l3 g)]) (g' := g) (by decide +kernel) rfl ?_
          refine xcallV A (ix := 93) (nxt := 39) hrm hz [.int l2] [.int (f_X1_trueFarOf_44 l3 g)] 1056 (c_X1_trueFarOf_44 hS _ rfl) ok_X1_trueFarOf (by decide +kernel) rfl (fun r g1 hq => ?_)
          rw [hq.1, hq.2]
          show xW k S 0 0 39 [some (.ref 44), some (.ref 48), some (.int l2), some (.int l3)] [.int (f_X1_trueFarOf_44 l2 g), .int (f_X1_trueFarOf_44 l3 g)] g
          refine xic_le A (5) 44 42 (by decide +kernel) (fun h4 => ?_) (fun h4 => ?_)
          · rw [if_pos h4] at H
            refine xb A [(.iinc 3 1, 3, 0, 0, .null)] (pc' := 47) (ls' := [some (.ref 44), some (.ref 48), some (.int l2), some (.int (l3 + 1))]) (st' := []) (g' := g) (by decide +kernel) rfl ?_
            refine xgoto A (-42) 5 (by decide +kernel) ?_
            exact ih _ _ H
          · rw [if_neg h4] at H
            refine xb A [(.iload_n 3, 1, 0, 0, .null), (.istore_n 2, 1, 0, 0, .null), (.iinc 3 1, 3, 0, 0, .null)] (pc' := 47) (ls' := [some (.ref 44), some (.ref 48), some (.int l3), some (.int (l3 + 1))]) (st' := []) (g' := g) (by decide +kernel) rfl ?_
            refine xgoto A (-42) 5 (by decide +kernel) ?_
            exact ih _ _ H
set_option maxRecDepth 20000 in
theorem c_X1_trueRingerOf_44_48 {S : List xSh} (hS : xpf SH1 S) {g : xG}  (out : Int32) (H : f_X1_trueRingerOf_44_48  g = some out) : xC mX1_trueRingerOf 4 85 0 0 S [.ref 44, .ref 48] g S (fun r g' => r = some (.int out) ∧ g' = g) := by
  have H : (f_X1_trueRingerOf_44_48_5 g xN (-2) 0) = some out := H
  refine xC.of 1 SH1 [some (.ref 44), some (.ref 48), none, none] hS (by decide +kernel) rfl (fun _ _ => Nat.le_of_ble_eq_true rfl) (fun _ _ => rfl) ?_
  intro k A hR hrm hz
  refine xb A [(.bipush (-2), 2, 0, 0, .int (-2)), (.istore_n 2, 1, 0, 0, .null), (.iconst 0, 1, 0, 0, .int 0), (.istore_n 3, 1, 0, 0, .null)] (pc' := 5) (ls' := [some (.ref 44), some (.ref 48), some (.int (-2)), some (.int 0)]) (st' := []) (g' := g) (by decide +kernel) rfl ?_
  exact t_X1_trueRingerOf_44_48_5 hS A hR hrm hz _ _ _ H
def f_X11_truth_0  (g : xG) : Option (Int32) :=
  (f_X1_trueRingerOf_44_48 g).bind fun w1 =>
  some w1
set_option maxRecDepth 20000 in
theorem c_X11_truth_0 {S : List xSh} (hS : xpf SH1 S) {g : xG}  (out : Int32) (H : f_X11_truth_0  g = some out) : xC mX11_truth 5 108 0 0 S [.ref 0] g S (fun r g' => r = some (.int out) ∧ g' = g) := by
  have H : ((f_X1_trueRingerOf_44_48 g).bind fun w1 =>
some w1) = some out := H
  refine xC.of 11 SH1 [some (.ref 0)] hS (by decide +kernel) rfl (fun _ _ => Nat.le_of_ble_eq_true rfl) (fun _ _ => rfl) ?_
  intro k A hR hrm hz
  refine xb A [(.aload_n 0, 1, 0, 0, .null), (.getfield 56, 3, 0, 6, .ref 44), (.aload_n 0, 1, 0, 0, .null), (.getfield 66, 3, 0, 8, .ref 48)] (pc' := 8) (ls' := [some (.ref 0)]) (st' := [.ref 48, .ref 44]) (g' := g) (by decide +kernel) rfl ?_
  obtain ⟨w1, e1, H⟩ := xbind H
  refine xcallV A (ix := 257) (nxt := 11) hrm hz [.ref 48] [] 1128 (c_X1_trueRingerOf_44_48 hS _ e1) ok_X1_trueRingerOf (by decide +kernel) rfl (fun r g1 hq => ?_)
  rw [hq.1, hq.2]
  show xW k S 0 0 11 [some (.ref 0)] [.int w1] g
  obtain rfl := Option.some.inj H
  exact xret_i A hR hz (by decide +kernel) rfl ⟨rfl, rfl⟩
def f_X10_isOpen_40 (p1 : Int32) (g : xG) : Int32 :=
  if (f_X4_isRoad_3 p1 g) = 0 then
    0
  else
    if ((g.1 40 2) &&& (f_X11_bit p1)) = 0 then
      1
    else
      0
set_option maxRecDepth 20000 in
theorem c_X10_isOpen_40 {S : List xSh} (hS : xpf SH1 S) {g : xG} {p1 : Int32} (out : Int32) (H : f_X10_isOpen_40 p1 g = out) : xC mX10_isOpen 1 21 0 0 S [.ref 40, .int p1] g S (fun r g' => r = some (.int out) ∧ g' = g) := by
  have H : (if (f_X4_isRoad_3 p1 g) = 0 then
  0
else
  if ((g.1 40 2) &&& (f_X11_bit p1)) = 0 then
    1
  else
    0) = out := H
  refine xC.of 10 SH1 [some (.ref 40), some (.int p1)] hS (by decide +kernel) rfl (fun _ _ => Nat.le_of_ble_eq_true rfl) (fun _ _ => rfl) ?_
  intro k A hR hrm hz
  refine xb A [(.aload_n 0, 1, 0, 0, .null), (.getfield 15, 3, 40, 0, .ref 3), (.iload_n 1, 1, 0, 0, .null)] (pc' := 5) (ls' := [some (.ref 40), some (.int p1)]) (st' := [.int p1, .ref 3]) (g' := g) (by decide +kernel) rfl ?_
  refine xcallV A (ix := 65) (nxt := 8) hrm hz [.int p1] [] 506 (c_X4_isRoad_3 hS _ rfl) ok_X4_isRoad (by decide +kernel) rfl (fun r g1 hq => ?_)
  rw [hq.1, hq.2]
  show xW k S 0 0 8 [some (.ref 40), some (.int p1)] [.int (f_X4_isRoad_3 p1 g)] g
  refine xif_eq A (19) 27 11 (by decide +kernel) (fun h1 => ?_) (fun h1 => ?_)
  · rw [if_pos h1] at H
    refine xb A [(.iconst 0, 1, 0, 0, .int 0)] (pc' := 28) (ls' := [some (.ref 40), some (.int p1)]) (st' := [.int 0]) (g' := g) (by decide +kernel) rfl ?_
    subst H
    exact xret_i A hR hz (by decide +kernel) rfl ⟨rfl, rfl⟩
  · rw [if_neg h1] at H
    refine xb A [(.aload_n 0, 1, 0, 0, .null), (.getfield 19, 3, 40, 2, .int 0), (.iload_n 1, 1, 0, 0, .null)] (pc' := 16) (ls' := [some (.ref 40), some (.int p1)]) (st' := [.int p1, .int (g.1 40 2)]) (g' := g) (by decide +kernel) rfl ?_
    refine xcallSN A (ix := 68) (nxt := 19) (host := "NoonRinger") hrm hz [.int p1] [.int (g.1 40 2)] 10 (c_X11_bit hS _ rfl) ok_X11_bit (by decide +kernel) rfl (fun r g1 hq => ?_)
    rw [hq.1, hq.2]
    show xW k S 0 0 19 [some (.ref 40), some (.int p1)] [.int (f_X11_bit p1), .int (g.1 40 2)] g
    refine xb A [(.iand, 1, 0, 0, .null)] (pc' := 20) (ls' := [some (.ref 40), some (.int p1)]) (st' := [.int ((g.1 40 2) &&& (f_X11_bit p1))]) (g' := g) (by decide +kernel) rfl ?_
    refine xif_ne A (7) 27 23 (by decide +kernel) (fun h2 => ?_) (fun h2 => ?_)
    · rw [if_neg h2] at H
      refine xb A [(.iconst 0, 1, 0, 0, .int 0)] (pc' := 28) (ls' := [some (.ref 40), some (.int p1)]) (st' := [.int 0]) (g' := g) (by decide +kernel) rfl ?_
      subst H
      exact xret_i A hR hz (by decide +kernel) rfl ⟨rfl, rfl⟩
    · rw [if_pos h2] at H
      refine xb A [(.iconst 1, 1, 0, 0, .int 1)] (pc' := 24) (ls' := [some (.ref 40), some (.int p1)]) (st' := [.int 1]) (g' := g) (by decide +kernel) rfl ?_
      refine xgoto A (4) 28 (by decide +kernel) ?_
      subst H
      exact xret_i A hR hz (by decide +kernel) rfl ⟨rfl, rfl⟩
def f_X10_between_40 (p1 : Int32) (p2 : Int32) (g : xG) : Int32 :=
  if (f_X4_isTown_3 p1 g) = 0 then
    999
  else
    if (f_X4_isTown_3 p2 g) = 0 then
      999
    else
      xat g 41 49 ((p1 * 7) + p2)
set_option maxRecDepth 20000 in
theorem c_X10_between_40 {S : List xSh} (hS : xpf SH1 S) {g : xG} {p1 : Int32} {p2 : Int32} (out : Int32) (H : f_X10_between_40 p1 p2 g = out) : xC mX10_between 1 21 0 0 S [.ref 40, .int p1, .int p2] g S (fun r g' => r = some (.int out) ∧ g' = g) := by
  have H : (if (f_X4_isTown_3 p1 g) = 0 then
  999
else
  if (f_X4_isTown_3 p2 g) = 0 then
    999
  else
    xat g 41 49 ((p1 * 7) + p2)) = out := H
  refine xC.of 10 SH1 [some (.ref 40), some (.int p1), some (.int p2)] hS (by decide +kernel) rfl (fun _ _ => Nat.le_of_ble_eq_true rfl) (fun _ _ => rfl) ?_
  intro k A hR hrm hz
  refine xb A [(.aload_n 0, 1, 0, 0, .null), (.getfield 15, 3, 40, 0, .ref 3), (.iload_n 1, 1, 0, 0, .null)] (pc' := 5) (ls' := [some (.ref 40), some (.int p1), some (.int p2)]) (st' := [.int p1, .ref 3]) (g' := g) (by decide +kernel) rfl ?_
  refine xcallV A (ix := 58) (nxt := 8) hrm hz [.int p1] [] 533 (c_X4_isTown_3 hS _ rfl) ok_X4_isTown (by decide +kernel) rfl (fun r g1 hq => ?_)
  rw [hq.1, hq.2]
  show xW k S 0 0 8 [some (.ref 40), some (.int p1), some (.int p2)] [.int (f_X4_isTown_3 p1 g)] g
  refine xif_eq A (30) 38 11 (by decide +kernel) (fun h1 => ?_) (fun h1 => ?_)
  · rw [if_pos h1] at H
    refine xb A [(.sipush 999, 3, 0, 0, .int 999)] (pc' := 41) (ls' := [some (.ref 40), some (.int p1), some (.int p2)]) (st' := [.int 999]) (g' := g) (by decide +kernel) rfl ?_
    subst H
    exact xret_i A hR hz (by decide +kernel) rfl ⟨rfl, rfl⟩
  · rw [if_neg h1] at H
    refine xb A [(.aload_n 0, 1, 0, 0, .null), (.getfield 15, 3, 40, 0, .ref 3), (.iload_n 2, 1, 0, 0, .null)] (pc' := 16) (ls' := [some (.ref 40), some (.int p1), some (.int p2)]) (st' := [.int p2, .ref 3]) (g' := g) (by decide +kernel) rfl ?_
    refine xcallV A (ix := 58) (nxt := 19) hrm hz [.int p2] [] 533 (c_X4_isTown_3 hS _ rfl) ok_X4_isTown (by decide +kernel) rfl (fun r g1 hq => ?_)
    rw [hq.1, hq.2]
    show xW k S 0 0 19 [some (.ref 40), some (.int p1), some (.int p2)] [.int (f_X4_isTown_3 p2 g)] g
    refine xif_eq A (19) 38 22 (by decide +kernel) (fun h2 => ?_) (fun h2 => ?_)
    · rw [if_pos h2] at H
      refine xb A [(.sipush 999, 3, 0, 0, .int 999)] (pc' := 41) (ls' := [some (.ref 40), some (.int p1), some (.int p2)]) (st' := [.int 999]) (g' := g) (by decide +kernel) rfl ?_
      subst H
      exact xret_i A hR hz (by decide +kernel) rfl ⟨rfl, rfl⟩
    · rw [if_neg h2] at H
      refine xb A [(.aload_n 0, 1, 0, 0, .null), (.getfield 9, 3, 40, 1, .ref 41), (.iload_n 1, 1, 0, 0, .null), (.bipush 7, 2, 0, 0, .int 7), (.imul, 1, 0, 0, .null), (.iload_n 2, 1, 0, 0, .null), (.iadd, 1, 0, 0, .null)] (pc' := 32) (ls' := [some (.ref 40), some (.int p1), some (.int p2)]) (st' := [.int ((p1 * 7) + p2), .ref 41]) (g' := g) (by decide +kernel) rfl ?_
      refine xcallSN A (ix := 61) (nxt := 35) (host := "NoonRinger") hrm hz [.ref 41, .int ((p1 * 7) + p2)] [] 11 (c_X11_at (hS _ _ sh_41) (by decide)) ok_X11_at (by decide +kernel) rfl (fun r g1 hq => ?_)
      rw [hq.1, hq.2]
      show xW k S 0 0 35 [some (.ref 40), some (.int p1), some (.int p2)] [.int (xat g 41 49 ((p1 * 7) + p2))] g
      refine xgoto A (6) 41 (by decide +kernel) ?_
      subst H
      exact xret_i A hR hz (by decide +kernel) rfl ⟨rfl, rfl⟩
def fp_X10_shorten_40 : List (Nat × Option Nat) := [(41, none)]
def f_X10_shorten_40 (p1 : Int32) (p2 : Int32) (p3 : Int32) (g : xG) : xG :=
  if (f_X10_between_40 p1 p2 g) ≤ p3 then
    g
  else
    xl (xput g 41 49 ((p1 * 7) + p2) p3) fun w1 =>
    w1
set_option maxRecDepth 20000 in
theorem c_X10_shorten_40 {S : List xSh} (hS : xpf SH1 S) {g : xG} {p1 : Int32} {p2 : Int32} {p3 : Int32} (out : xG) (H : f_X10_shorten_40 p1 p2 p3 g = out) : xC mX10_shorten 2 43 0 0 S [.ref 40, .int p1, .int p2, .int p3] g S (fun r g' => r = none ∧ g' = out) := by
  have H : (if (f_X10_between_40 p1 p2 g) ≤ p3 then
  g
else
  xl (xput g 41 49 ((p1 * 7) + p2) p3) fun w1 =>
  w1) = out := H
  refine xC.of 10 SH1 [some (.ref 40), some (.int p1), some (.int p2), some (.int p3)] hS (by decide +kernel) rfl (fun _ _ => Nat.le_of_ble_eq_true rfl) (fun _ _ => rfl) ?_
  intro k A hR hrm hz
  refine xb A [(.iload_n 3, 1, 0, 0, .null), (.aload_n 0, 1, 0, 0, .null), (.iload_n 1, 1, 0, 0, .null), (.iload_n 2, 1, 0, 0, .null)] (pc' := 4) (ls' := [some (.ref 40), some (.int p1), some (.int p2), some (.int p3)]) (st' := [.int p2, .int p1, .ref 40, .int p3]) (g' := g) (by decide +kernel) rfl ?_
  refine xcallV A (ix := 50) (nxt := 7) hrm hz [.int p1, .int p2] [.int p3] 529 (c_X10_between_40 hS _ rfl) ok_X10_between (by decide +kernel) rfl (fun r g1 hq => ?_)
  rw [hq.1, hq.2]
  show xW k S 0 0 7 [some (.ref 40), some (.int p1), some (.int p2), some (.int p3)] [.int (f_X10_between_40 p1 p2 g), .int p3] g
  refine xic_ge A (17) 24 10 (by decide +kernel) (fun h1 => ?_) (fun h1 => ?_)
  · rw [if_pos h1] at H
    subst H
    exact xret_v A hR hz (by decide +kernel) ⟨rfl, rfl⟩
  · rw [if_neg h1] at H
    refine xb A [(.aload_n 0, 1, 0, 0, .null), (.getfield 9, 3, 40, 1, .ref 41), (.iload_n 1, 1, 0, 0, .null), (.bipush 7, 2, 0, 0, .int 7), (.imul, 1, 0, 0, .null), (.iload_n 2, 1, 0, 0, .null), (.iadd, 1, 0, 0, .null), (.iload_n 3, 1, 0, 0, .null)] (pc' := 21) (ls' := [some (.ref 40), some (.int p1), some (.int p2), some (.int p3)]) (st' := [.int p3, .int ((p1 * 7) + p2), .ref 41]) (g' := g) (by decide +kernel) rfl ?_
    obtain ⟨w1, e1, H⟩ := xl_elim H
    refine xcallSN A (ix := 54) (nxt := 24) (host := "NoonRinger") hrm hz [.ref 41, .int ((p1 * 7) + p2), .int p3] [] 12 (c_X11_put (hS _ _ sh_41) (by decide)) ok_X11_put (by decide +kernel) rfl (fun r g1 hq => ?_)
    rw [hq.1, hq.2]
    rw [e1]
    show xW k S 0 0 24 [some (.ref 40), some (.int p1), some (.int p2), some (.int p3)] [] w1
    subst H
    exact xret_v A hR hz (by decide +kernel) ⟨rfl, rfl⟩
theorem fr_X10_shorten_40 {p1 : Int32} {p2 : Int32} {p3 : Int32} {g : xG} (out : xG) (H : f_X10_shorten_40 p1 p2 p3 g = out) : xfrm fp_X10_shorten_40 g (out) := by
  have H : (if (f_X10_between_40 p1 p2 g) ≤ p3 then
  g
else
  xl (xput g 41 49 ((p1 * 7) + p2) p3) fun w1 =>
  w1) = out := H
  by_cases h1 : (f_X10_between_40 p1 p2 g) ≤ p3
  · rw [if_pos h1] at H
    subst H
    exact xfrm.rf
  · rw [if_neg h1] at H
    obtain ⟨w1, e1, H⟩ := xl_elim H
    have hf1 : xfrm fp_X10_shorten_40 g (w1) := xfrm_xput xfrm.rf rfl e1
    subst H
    exact hf1
def fp_X10_measure_40 : List (Nat × Option Nat) := [(40, some 2), (41, none)]
def f_X10_measure_40_158 (k131 : Int32 → xG → Option (xG)) (k144 : Int32 → Int32 → xG → Option (xG)) : Nat → Int32 → Int32 → Int32 → xG → Option (xG)
  | 0, _, _, _, _ => none
  | n + 1, l2, l3, l4, g =>
    if (f_X4_towns_3 g) ≤ l4 then
      k144 l2 (l3 + 1) g
    else
      xl (f_X10_shorten_40 l3 l4 ((f_X10_between_40 l3 l2 g) + (f_X10_between_40 l2 l4 g)) g) fun w1 =>
      f_X10_measure_40_158 k131 k144 n l2 l3 (l4 + 1) w1
def f_X10_measure_40_144 (k131 : Int32 → xG → Option (xG)) : Nat → Int32 → Int32 → xG → Option (xG)
  | 0, _, _, _ => none
  | n + 1, l2, l3, g =>
    if (f_X4_towns_3 g) ≤ l3 then
      k131 (l2 + 1) g
    else
      f_X10_measure_40_158 k131 (f_X10_measure_40_144 k131 n) xN l2 l3 0 g
def f_X10_measure_40_131  : Nat → Int32 → xG → Option (xG)
  | 0, _, _ => none
  | n + 1, l2, g =>
    if (f_X4_towns_3 g) ≤ l2 then
      some g
    else
      f_X10_measure_40_144 (f_X10_measure_40_131 n) xN l2 0 g
def f_X10_measure_40_48  : Nat → Int32 → xG → Option (xG)
  | 0, _, _ => none
  | n + 1, l2, g =>
    if (f_X4_roads_3 g) ≤ l2 then
      f_X10_measure_40_131 xN 0 g
    else
      if (f_X10_isOpen_40 l2 g) = 0 then
        f_X10_measure_40_48 n (l2 + 1) g
      else
        xl (f_X10_shorten_40 (f_X4_oneEndOf_3 l2 g) (f_X4_otherEndOf_3 l2 g) (f_X4_milesOf_3 l2 g) g) fun w2 =>
        xl (f_X10_shorten_40 (f_X4_otherEndOf_3 l2 w2) (f_X4_oneEndOf_3 l2 w2) (f_X4_milesOf_3 l2 w2) w2) fun w3 =>
        f_X10_measure_40_48 n (l2 + 1) w3
def f_X10_measure_40_7  : Nat → Int32 → xG → Option (xG)
  | 0, _, _ => none
  | n + 1, l2, g =>
    if 49 ≤ l2 then
      f_X10_measure_40_48 xN 0 g
    else
      xg (¬ (7 : Int32) = 0) (
        xg (¬ (7 : Int32) = 0) (
          if (l2 / 7) = (l2 - l2 / 7 * 7) then
            xg (¬ (l2 < 0 ∨ 49 ≤ l2.toNatClampNeg)) (
              f_X10_measure_40_7 n (l2 + 1) (xupd g.1 41 l2.toNatClampNeg 0, g.2))
          else
            xg (¬ (l2 < 0 ∨ 49 ≤ l2.toNatClampNeg)) (
              f_X10_measure_40_7 n (l2 + 1) (xupd g.1 41 l2.toNatClampNeg 999, g.2))))
def f_X10_measure_40 (p1 : Int32) (g : xG) : Option (xG) :=
  f_X10_measure_40_7 xN 0 (xupd g.1 40 2 p1, g.2)
set_option maxRecDepth 20000 in
theorem t_X10_measure_40_158 {k : xK} {S : List xSh} {out : xG} (hS : xpf SH1 S) (A : xAt k mX10_measure.2.1 10 SH1 S) (hR : xRet k 0 0 S (fun r g' => r = none ∧ g' = out) mX10_measure.2.2.2) (hrm : xrm k = { frames := 3, cells := 0, slots := 0, locals := 66 }) (hz : xhs k = xb0 k + S.length) {k131 : Int32 → xG → Option (xG)} {k144 : Int32 → Int32 → xG → Option (xG)} (hk131 : ∀ (l2 : Int32) (g : xG), k131 l2 g = some out → xW k S 0 0 131 [some (.ref 40), none, some (.int l2), none, none] [] g) (hk144 : ∀ (l2 : Int32) (l3 : Int32) (g : xG), k144 l2 l3 g = some out → xW k S 0 0 144 [some (.ref 40), none, some (.int l2), some (.int l3), none] [] g) : ∀ (n : Nat) (l2 : Int32) (l3 : Int32) (l4 : Int32) (g : xG), f_X10_measure_40_158 k131 k144 n l2 l3 l4 g = some out → xW k S 0 0 158 [some (.ref 40), none, some (.int l2), some (.int l3), some (.int l4)] [] g := by
  intro n
  induction n with
  | zero => intro l2 l3 l4 g H; exact absurd H (by simp [f_X10_measure_40_158])
  | succ n ih =>
    intro l2 l3 l4 g H
    have H : (if (f_X4_towns_3 g) ≤ l4 then
  k144 l2 (l3 + 1) g
else
  xl (f_X10_shorten_40 l3 l4 ((f_X10_between_40 l3 l2 g) + (f_X10_between_40 l2 l4 g)) g) fun w1 =>
  f_X10_measure_40_158 k131 k144 n l2 l3 (l4 + 1) w1) = some out := H
    refine xb A [(.iload 4, 2, 0, 0, .null), (.aload_n 0, 1, 0, 0, .null), (.getfield 15, 3, 40, 0, .ref 3)] (pc' := 164) (ls' := [some (.ref 40), none, some (.int l2), some (.int l3), some (.int l4)]) (st' := [.ref 3, .int l4]) (g' := g) (by decide +kernel) rfl ?_
    refine xcallV A (ix := 47) (nxt := 167) hrm hz [] [.int l4] 539 (c_X4_towns_3 hS _ rfl) ok_X4_towns (by decide +kernel) rfl (fun r g1 hq => ?_)
    rw [hq.1, hq.2]
    show xW k S 0 0 167 [some (.ref 40), none, some (.int l2), some (.int l3), some (.int l4)] [.int (f_X4_towns_3 g), .int l4] g
    refine xic_ge A (30) 197 170 (by decide +kernel) (fun h5 => ?_) (fun h5 => ?_)
    · rw [if_pos h5] at H
      refine xb A [(.iinc 3 1, 3, 0, 0, .null)] (pc' := 200) (ls' := [some (.ref 40), none, some (.int l2), some (.int (l3 + 1)), some (.int l4)]) (st' := []) (g' := g) (by decide +kernel) rfl ?_
      refine xgoto A (-56) 144 (by decide +kernel) ?_
      refine xweak (ls' := [some (.ref 40), none, some (.int l2), some (.int (l3 + 1)), none]) (by exact ⟨rfl, ⟨rfl, ⟨rfl, trivial⟩⟩⟩) ?_
      exact hk144 _ _ _ H
    · rw [if_neg h5] at H
      refine xb A [(.aload_n 0, 1, 0, 0, .null), (.iload_n 3, 1, 0, 0, .null), (.iload 4, 2, 0, 0, .null), (.aload_n 0, 1, 0, 0, .null), (.iload_n 3, 1, 0, 0, .null), (.iload_n 2, 1, 0, 0, .null)] (pc' := 177) (ls' := [some (.ref 40), none, some (.int l2), some (.int l3), some (.int l4)]) (st' := [.int l2, .int l3, .ref 40, .int l4, .int l3, .ref 40]) (g' := g) (by decide +kernel) rfl ?_
      refine xcallV A (ix := 50) (nxt := 180) hrm hz [.int l3, .int l2] [.int l4, .int l3, .ref 40] 529 (c_X10_between_40 hS _ rfl) ok_X10_between (by decide +kernel) rfl (fun r g1 hq => ?_)
      rw [hq.1, hq.2]
      show xW k S 0 0 180 [some (.ref 40), none, some (.int l2), some (.int l3), some (.int l4)] [.int (f_X10_between_40 l3 l2 g), .int l4, .int l3, .ref 40] g
      refine xb A [(.aload_n 0, 1, 0, 0, .null), (.iload_n 2, 1, 0, 0, .null), (.iload 4, 2, 0, 0, .null)] (pc' := 184) (ls' := [some (.ref 40), none, some (.int l2), some (.int l3), some (.int l4)]) (st' := [.int l4, .int l2, .ref 40, .int (f_X10_between_40 l3 l2 g), .int l4, .int l3, .ref 40]) (g' := g) (by decide +kernel) rfl ?_
      refine xcallV A (ix := 50) (nxt := 187) hrm hz [.int l2, .int l4] [.int (f_X10_between_40 l3 l2 g), .int l4, .int l3, .ref 40] 529 (c_X10_between_40 hS _ rfl) ok_X10_between (by decide +kernel) rfl (fun r g1 hq => ?_)
      rw [hq.1, hq.2]
      show xW k S 0 0 187 [some (.ref 40), none, some (.int l2), some (.int l3), some (.int l4)] [.int (f_X10_between_40 l2 l4 g), .int (f_X10_between_40 l3 l2 g), .int l4, .int l3, .ref 40] g
      refine xb A [(.iadd, 1, 0, 0, .null)] (pc' := 188) (ls' := [some (.ref 40), none, some (.int l2), some (.int l3), some (.int l4)]) (st' := [.int ((f_X10_between_40 l3 l2 g) + (f_X10_between_40 l2 l4 g)), .int l4, .int l3, .ref 40]) (g' := g) (by decide +kernel) rfl ?_
      obtain ⟨w1, e1, H⟩ := xl_elim H
      refine xcallV A (ix := 43) (nxt := 191) hrm hz [.int l3, .int l4, .int ((f_X10_between_40 l3 l2 g) + (f_X10_between_40 l2 l4 g))] [] 525 (c_X10_shorten_40 hS _ e1) ok_X10_shorten (by decide +kernel) rfl (fun r g1 hq => ?_)
      rw [hq.1, hq.2]
      show xW k S 0 0 191 [some (.ref 40), none, some (.int l2), some (.int l3), some (.int l4)] [] w1
      refine xb A [(.iinc 4 1, 3, 0, 0, .null)] (pc' := 194) (ls' := [some (.ref 40), none, some (.int l2), some (.int l3), some (.int (l4 + 1))]) (st' := []) (g' := w1) (by decide +kernel) rfl ?_
      refine xgoto A (-36) 158 (by decide +kernel) ?_
      exact ih _ _ _ _ H
theorem fr_X10_measure_40_158 {k131 : Int32 → xG → Option (xG)} {k144 : Int32 → Int32 → xG → Option (xG)} (hk131 : ∀ (l2 : Int32) (g : xG) (out : xG), k131 l2 g = some out → xfrm fp_X10_measure_40 g (out)) (hk144 : ∀ (l2 : Int32) (l3 : Int32) (g : xG) (out : xG), k144 l2 l3 g = some out → xfrm fp_X10_measure_40 g (out)) : ∀ (n : Nat) (l2 : Int32) (l3 : Int32) (l4 : Int32) (g : xG) (out : xG), f_X10_measure_40_158 k131 k144 n l2 l3 l4 g = some out → xfrm fp_X10_measure_40 g (out) := by
  intro n
  induction n with
  | zero => intro l2 l3 l4 g out H; exact absurd H (by simp [f_X10_measure_40_158])
  | succ n ih =>
    intro l2 l3 l4 g out H
    have H : (if (f_X4_towns_3 g) ≤ l4 then
  k144 l2 (l3 + 1) g
else
  xl (f_X10_shorten_40 l3 l4 ((f_X10_between_40 l3 l2 g) + (f_X10_between_40 l2 l4 g)) g) fun w1 =>
  f_X10_measure_40_158 k131 k144 n l2 l3 (l4 + 1) w1) = some out := H
    by_cases h5 : (f_X4_towns_3 g) ≤ l4
    · rw [if_pos h5] at H
      exact xfrm.tr xfrm.rf (hk144 _ _ _ _ H) rfl
    · rw [if_neg h5] at H
      obtain ⟨w1, e1, H⟩ := xl_elim H
      have hf2 : xfrm fp_X10_measure_40 g (w1) := xfrm.tr xfrm.rf (fr_X10_shorten_40 _ e1) rfl
      exact xfrm.tr hf2 (ih _ _ _ _ _ H) rfl
set_option maxRecDepth 20000 in
theorem t_X10_measure_40_144 {k : xK} {S : List xSh} {out : xG} (hS : xpf SH1 S) (A : xAt k mX10_measure.2.1 10 SH1 S) (hR : xRet k 0 0 S (fun r g' => r = none ∧ g' = out) mX10_measure.2.2.2) (hrm : xrm k = { frames := 3, cells := 0, slots := 0, locals := 66 }) (hz : xhs k = xb0 k + S.length) {k131 : Int32 → xG → Option (xG)} (hk131 : ∀ (l2 : Int32) (g : xG), k131 l2 g = some out → xW k S 0 0 131 [some (.ref 40), none, some (.int l2), none, none] [] g) : ∀ (n : Nat) (l2 : Int32) (l3 : Int32) (g : xG), f_X10_measure_40_144 k131 n l2 l3 g = some out → xW k S 0 0 144 [some (.ref 40), none, some (.int l2), some (.int l3), none] [] g := by
  intro n
  induction n with
  | zero => intro l2 l3 g H; exact absurd H (by simp [f_X10_measure_40_144])
  | succ n ih =>
    intro l2 l3 g H
    have H : (if (f_X4_towns_3 g) ≤ l3 then
  k131 (l2 + 1) g
else
  f_X10_measure_40_158 k131 (f_X10_measure_40_144 k131 n) xN l2 l3 0 g) = some out := H
    refine xb A [(.iload_n 3, 1, 0, 0, .null), (.aload_n 0, 1, 0, 0, .null), (.getfield 15, 3, 40, 0, .ref 3)] (pc' := 149) (ls' := [some (.ref 40), none, some (.int l2), some (.int l3), none]) (st' := [.ref 3, .int l3]) (g' := g) (by decide +kernel) rfl ?_
    refine xcallV A (ix := 47) (nxt := 152) hrm hz [] [.int l3] 539 (c_X4_towns_3 hS _ rfl) ok_X4_towns (by decide +kernel) rfl (fun r g1 hq => ?_)
    rw [hq.1, hq.2]
    show xW k S 0 0 152 [some (.ref 40), none, some (.int l2), some (.int l3), none] [.int (f_X4_towns_3 g), .int l3] g
    refine xic_ge A (51) 203 155 (by decide +kernel) (fun h4 => ?_) (fun h4 => ?_)
    · rw [if_pos h4] at H
      refine xb A [(.iinc 2 1, 3, 0, 0, .null)] (pc' := 206) (ls' := [some (.ref 40), none, some (.int (l2 + 1)), some (.int l3), none]) (st' := []) (g' := g) (by decide +kernel) rfl ?_
      refine xgoto A (-75) 131 (by decide +kernel) ?_
      refine xweak (ls' := [some (.ref 40), none, some (.int (l2 + 1)), none, none]) (by exact ⟨rfl, ⟨rfl, trivial⟩⟩) ?_
      exact hk131 _ _ H
    · rw [if_neg h4] at H
      refine xb A [(.iconst 0, 1, 0, 0, .int 0), (.istore 4, 2, 0, 0, .null)] (pc' := 158) (ls' := [some (.ref 40), none, some (.int l2), some (.int l3), some (.int 0)]) (st' := []) (g' := g) (by decide +kernel) rfl ?_
      exact t_X10_measure_40_158 hS A hR hrm hz hk131 ih _ _ _ _ _ H
theorem fr_X10_measure_40_144 {k131 : Int32 → xG → Option (xG)} (hk131 : ∀ (l2 : Int32) (g : xG) (out : xG), k131 l2 g = some out → xfrm fp_X10_measure_40 g (out)) : ∀ (n : Nat) (l2 : Int32) (l3 : Int32) (g : xG) (out : xG), f_X10_measure_40_144 k131 n l2 l3 g = some out → xfrm fp_X10_measure_40 g (out) := by
  intro n
  induction n with
  | zero => intro l2 l3 g out H; exact absurd H (by simp [f_X10_measure_40_144])
  | succ n ih =>
    intro l2 l3 g out H
    have H : (if (f_X4_towns_3 g) ≤ l3 then
  k131 (l2 + 1) g
else
  f_X10_measure_40_158 k131 (f_X10_measure_40_144 k131 n) xN l2 l3 0 g) = some out := H
    by_cases h4 : (f_X4_towns_3 g) ≤ l3
    · rw [if_pos h4] at H
      exact xfrm.tr xfrm.rf (hk131 _ _ _ H) rfl
    · rw [if_neg h4] at H
      exact xfrm.tr xfrm.rf (fr_X10_measure_40_158 hk131 ih _ _ _ _ _ _ H) rfl
set_option maxRecDepth 20000 in
theorem t_X10_measure_40_131 {k : xK} {S : List xSh} {out : xG} (hS : xpf SH1 S) (A : xAt k mX10_measure.2.1 10 SH1 S) (hR : xRet k 0 0 S (fun r g' => r = none ∧ g' = out) mX10_measure.2.2.2) (hrm : xrm k = { frames := 3, cells := 0, slots := 0, locals := 66 }) (hz : xhs k = xb0 k + S.length)   : ∀ (n : Nat) (l2 : Int32) (g : xG), f_X10_measure_40_131 n l2 g = some out → xW k S 0 0 131 [some (.ref 40), none, some (.int l2), none, none] [] g := by
  intro n
  induction n with
  | zero => intro l2 g H; exact absurd H (by simp [f_X10_measure_40_131])
  | succ n ih =>
    intro l2 g H
    have H : (if (f_X4_towns_3 g) ≤ l2 then
  some g
else
  f_X10_measure_40_144 (f_X10_measure_40_131 n) xN l2 0 g) = some out := H
    refine xb A [(.iload_n 2, 1, 0, 0, .null), (.aload_n 0, 1, 0, 0, .null), (.getfield 15, 3, 40, 0, .ref 3)] (pc' := 136) (ls' := [some (.ref 40), none, some (.int l2), none, none]) (st' := [.ref 3, .int l2]) (g' := g) (by decide +kernel) rfl ?_
    refine xcallV A (ix := 47) (nxt := 139) hrm hz [] [.int l2] 539 (c_X4_towns_3 hS _ rfl) ok_X4_towns (by decide +kernel) rfl (fun r g1 hq => ?_)
    rw [hq.1, hq.2]
    show xW k S 0 0 139 [some (.ref 40), none, some (.int l2), none, none] [.int (f_X4_towns_3 g), .int l2] g
    refine xic_ge A (70) 209 142 (by decide +kernel) (fun h3 => ?_) (fun h3 => ?_)
    · rw [if_pos h3] at H
      obtain rfl := Option.some.inj H
      exact xret_v A hR hz (by decide +kernel) ⟨rfl, rfl⟩
    · rw [if_neg h3] at H
      refine xb A [(.iconst 0, 1, 0, 0, .int 0), (.istore_n 3, 1, 0, 0, .null)] (pc' := 144) (ls' := [some (.ref 40), none, some (.int l2), some (.int 0), none]) (st' := []) (g' := g) (by decide +kernel) rfl ?_
      exact t_X10_measure_40_144 hS A hR hrm hz ih _ _ _ _ H
theorem fr_X10_measure_40_131   : ∀ (n : Nat) (l2 : Int32) (g : xG) (out : xG), f_X10_measure_40_131 n l2 g = some out → xfrm fp_X10_measure_40 g (out) := by
  intro n
  induction n with
  | zero => intro l2 g out H; exact absurd H (by simp [f_X10_measure_40_131])
  | succ n ih =>
    intro l2 g out H
    have H : (if (f_X4_towns_3 g) ≤ l2 then
  some g
else
  f_X10_measure_40_144 (f_X10_measure_40_131 n) xN l2 0 g) = some out := H
    by_cases h3 : (f_X4_towns_3 g) ≤ l2
    · rw [if_pos h3] at H
      obtain rfl := Option.some.inj H
      exact xfrm.rf
    · rw [if_neg h3] at H
      exact xfrm.tr xfrm.rf (fr_X10_measure_40_144 ih _ _ _ _ _ H) rfl
set_option maxRecDepth 20000 in
theorem t_X10_measure_40_48 {k : xK} {S : List xSh} {out : xG} (hS : xpf SH1 S) (A : xAt k mX10_measure.2.1 10 SH1 S) (hR : xRet k 0 0 S (fun r g' => r = none ∧ g' = out) mX10_measure.2.2.2) (hrm : xrm k = { frames := 3, cells := 0, slots := 0, locals := 66 }) (hz : xhs k = xb0 k + S.length)   : ∀ (n : Nat) (l2 : Int32) (g : xG), f_X10_measure_40_48 n l2 g = some out → xW k S 0 0 48 [some (.ref 40), none, some (.int l2), none, none] [] g := by
  intro n
  induction n with
  | zero => intro l2 g H; exact absurd H (by simp [f_X10_measure_40_48])
  | succ n ih =>
    intro l2 g H
    have H : (if (f_X4_roads_3 g) ≤ l2 then
  f_X10_measure_40_131 xN 0 g
else
  if (f_X10_isOpen_40 l2 g) = 0 then
    f_X10_measure_40_48 n (l2 + 1) g
  else
    xl (f_X10_shorten_40 (f_X4_oneEndOf_3 l2 g) (f_X4_otherEndOf_3 l2 g) (f_X4_milesOf_3 l2 g) g) fun w2 =>
    xl (f_X10_shorten_40 (f_X4_otherEndOf_3 l2 w2) (f_X4_oneEndOf_3 l2 w2) (f_X4_milesOf_3 l2 w2) w2) fun w3 =>
    f_X10_measure_40_48 n (l2 + 1) w3) = some out := H
    refine xb A [(.iload_n 2, 1, 0, 0, .null), (.aload_n 0, 1, 0, 0, .null), (.getfield 15, 3, 40, 0, .ref 3)] (pc' := 53) (ls' := [some (.ref 40), none, some (.int l2), none, none]) (st' := [.ref 3, .int l2]) (g' := g) (by decide +kernel) rfl ?_
    refine xcallV A (ix := 23) (nxt := 56) hrm hz [] [.int l2] 498 (c_X4_roads_3 hS _ rfl) ok_X4_roads (by decide +kernel) rfl (fun r g1 hq => ?_)
    rw [hq.1, hq.2]
    show xW k S 0 0 56 [some (.ref 40), none, some (.int l2), none, none] [.int (f_X4_roads_3 g), .int l2] g
    refine xic_ge A (73) 129 59 (by decide +kernel) (fun h2 => ?_) (fun h2 => ?_)
    · rw [if_pos h2] at H
      refine xb A [(.iconst 0, 1, 0, 0, .int 0), (.istore_n 2, 1, 0, 0, .null)] (pc' := 131) (ls' := [some (.ref 40), none, some (.int 0), none, none]) (st' := []) (g' := g) (by decide +kernel) rfl ?_
      exact t_X10_measure_40_131 hS A hR hrm hz _ _ _ H
    · rw [if_neg h2] at H
      refine xb A [(.aload_n 0, 1, 0, 0, .null), (.iload_n 2, 1, 0, 0, .null)] (pc' := 61) (ls' := [some (.ref 40), none, some (.int l2), none, none]) (st' := [.int l2, .ref 40]) (g' := g) (by decide +kernel) rfl ?_
      refine xcallV A (ix := 29) (nxt := 64) hrm hz [.int l2] [] 502 (c_X10_isOpen_40 hS _ rfl) ok_X10_isOpen (by decide +kernel) rfl (fun r g1 hq => ?_)
      rw [hq.1, hq.2]
      show xW k S 0 0 64 [some (.ref 40), none, some (.int l2), none, none] [.int (f_X10_isOpen_40 l2 g)] g
      refine xif_eq A (59) 123 67 (by decide +kernel) (fun h6 => ?_) (fun h6 => ?_)
      · rw [if_pos h6] at H
        refine xb A [(.iinc 2 1, 3, 0, 0, .null)] (pc' := 126) (ls' := [some (.ref 40), none, some (.int (l2 + 1)), none, none]) (st' := []) (g' := g) (by decide +kernel) rfl ?_
        refine xgoto A (-78) 48 (by decide +kernel) ?_
        exact ih _ _ H
      · rw [if_neg h6] at H
        refine xb A [(.aload_n 0, 1, 0, 0, .null), (.aload_n 0, 1, 0, 0, .null), (.getfield 15, 3, 40, 0, .ref 3), (.iload_n 2, 1, 0, 0, .null)] (pc' := 73) (ls' := [some (.ref 40), none, some (.int l2), none, none]) (st' := [.int l2, .ref 3, .ref 40]) (g' := g) (by decide +kernel) rfl ?_
        refine xcallV A (ix := 33) (nxt := 76) hrm hz [.int l2] [.ref 40] 513 (c_X4_oneEndOf_3 hS _ rfl) ok_X4_oneEndOf (by decide +kernel) rfl (fun r g1 hq => ?_)
        rw [hq.1, hq.2]
        show xW k S 0 0 76 [some (.ref 40), none, some (.int l2), none, none] [.int (f_X4_oneEndOf_3 l2 g), .ref 40] g
        refine xb A [(.aload_n 0, 1, 0, 0, .null), (.getfield 15, 3, 40, 0, .ref 3), (.iload_n 2, 1, 0, 0, .null)] (pc' := 81) (ls' := [some (.ref 40), none, some (.int l2), none, none]) (st' := [.int l2, .ref 3, .int (f_X4_oneEndOf_3 l2 g), .ref 40]) (g' := g) (by decide +kernel) rfl ?_
        refine xcallV A (ix := 37) (nxt := 84) hrm hz [.int l2] [.int (f_X4_oneEndOf_3 l2 g), .ref 40] 517 (c_X4_otherEndOf_3 hS _ rfl) ok_X4_otherEndOf (by decide +kernel) rfl (fun r g1 hq => ?_)
        rw [hq.1, hq.2]
        show xW k S 0 0 84 [some (.ref 40), none, some (.int l2), none, none] [.int (f_X4_otherEndOf_3 l2 g), .int (f_X4_oneEndOf_3 l2 g), .ref 40] g
        refine xb A [(.aload_n 0, 1, 0, 0, .null), (.getfield 15, 3, 40, 0, .ref 3), (.iload_n 2, 1, 0, 0, .null)] (pc' := 89) (ls' := [some (.ref 40), none, some (.int l2), none, none]) (st' := [.int l2, .ref 3, .int (f_X4_otherEndOf_3 l2 g), .int (f_X4_oneEndOf_3 l2 g), .ref 40]) (g' := g) (by decide +kernel) rfl ?_
        refine xcallV A (ix := 40) (nxt := 92) hrm hz [.int l2] [.int (f_X4_otherEndOf_3 l2 g), .int (f_X4_oneEndOf_3 l2 g), .ref 40] 521 (c_X4_milesOf_3 hS _ rfl) ok_X4_milesOf (by decide +kernel) rfl (fun r g1 hq => ?_)
        rw [hq.1, hq.2]
        show xW k S 0 0 92 [some (.ref 40), none, some (.int l2), none, none] [.int (f_X4_milesOf_3 l2 g), .int (f_X4_otherEndOf_3 l2 g), .int (f_X4_oneEndOf_3 l2 g), .ref 40] g
        obtain ⟨w2, e2, H⟩ := xl_elim H
        refine xcallV A (ix := 43) (nxt := 95) hrm hz [.int (f_X4_oneEndOf_3 l2 g), .int (f_X4_otherEndOf_3 l2 g), .int (f_X4_milesOf_3 l2 g)] [] 525 (c_X10_shorten_40 hS _ e2) ok_X10_shorten (by decide +kernel) rfl (fun r g1 hq => ?_)
        rw [hq.1, hq.2]
        show xW k S 0 0 95 [some (.ref 40), none, some (.int l2), none, none] [] w2
        refine xb A [(.aload_n 0, 1, 0, 0, .null), (.aload_n 0, 1, 0, 0, .null), (.getfield 15, 3, 40, 0, .ref 3), (.iload_n 2, 1, 0, 0, .null)] (pc' := 101) (ls' := [some (.ref 40), none, some (.int l2), none, none]) (st' := [.int l2, .ref 3, .ref 40]) (g' := w2) (by decide +kernel) rfl ?_
        refine xcallV A (ix := 37) (nxt := 104) hrm hz [.int l2] [.ref 40] 517 (c_X4_otherEndOf_3 hS _ rfl) ok_X4_otherEndOf (by decide +kernel) rfl (fun r g1 hq => ?_)
        rw [hq.1, hq.2]
        show xW k S 0 0 104 [some (.ref 40), none, some (.int l2), none, none] [.int (f_X4_otherEndOf_3 l2 w2), .ref 40] w2
        refine xb A [(.aload_n 0, 1, 0, 0, .null), (.getfield 15, 3, 40, 0, .ref 3), (.iload_n 2, 1, 0, 0, .null)] (pc' := 109) (ls' := [some (.ref 40), none, some (.int l2), none, none]) (st' := [.int l2, .ref 3, .int (f_X4_otherEndOf_3 l2 w2), .ref 40]) (g' := w2) (by decide +kernel) rfl ?_
        refine xcallV A (ix := 33) (nxt := 112) hrm hz [.int l2] [.int (f_X4_otherEndOf_3 l2 w2), .ref 40] 513 (c_X4_oneEndOf_3 hS _ rfl) ok_X4_oneEndOf (by decide +kernel) rfl (fun r g1 hq => ?_)
        rw [hq.1, hq.2]
        show xW k S 0 0 112 [some (.ref 40), none, some (.int l2), none, none] [.int (f_X4_oneEndOf_3 l2 w2), .int (f_X4_otherEndOf_3 l2 w2), .ref 40] w2
        refine xb A [(.aload_n 0, 1, 0, 0, .null), (.getfield 15, 3, 40, 0, .ref 3), (.iload_n 2, 1, 0, 0, .null)] (pc' := 117) (ls' := [some (.ref 40), none, some (.int l2), none, none]) (st' := [.int l2, .ref 3, .int (f_X4_oneEndOf_3 l2 w2), .int (f_X4_otherEndOf_3 l2 w2), .ref 40]) (g' := w2) (by decide +kernel) rfl ?_
        refine xcallV A (ix := 40) (nxt := 120) hrm hz [.int l2] [.int (f_X4_oneEndOf_3 l2 w2), .int (f_X4_otherEndOf_3 l2 w2), .ref 40] 521 (c_X4_milesOf_3 hS _ rfl) ok_X4_milesOf (by decide +kernel) rfl (fun r g1 hq => ?_)
        rw [hq.1, hq.2]
        show xW k S 0 0 120 [some (.ref 40), none, some (.int l2), none, none] [.int (f_X4_milesOf_3 l2 w2), .int (f_X4_oneEndOf_3 l2 w2), .int (f_X4_otherEndOf_3 l2 w2), .ref 40] w2
        obtain ⟨w3, e3, H⟩ := xl_elim H
        refine xcallV A (ix := 43) (nxt := 123) hrm hz [.int (f_X4_otherEndOf_3 l2 w2), .int (f_X4_oneEndOf_3 l2 w2), .int (f_X4_milesOf_3 l2 w2)] [] 525 (c_X10_shorten_40 hS _ e3) ok_X10_shorten (by decide +kernel) rfl (fun r g1 hq => ?_)
        rw [hq.1, hq.2]
        show xW k S 0 0 123 [some (.ref 40), none, some (.int l2), none, none] [] w3
        refine xb A [(.iinc 2 1, 3, 0, 0, .null)] (pc' := 126) (ls' := [some (.ref 40), none, some (.int (l2 + 1)), none, none]) (st' := []) (g' := w3) (by decide +kernel) rfl ?_
        refine xgoto A (-78) 48 (by decide +kernel) ?_
        exact ih _ _ H
theorem fr_X10_measure_40_48   : ∀ (n : Nat) (l2 : Int32) (g : xG) (out : xG), f_X10_measure_40_48 n l2 g = some out → xfrm fp_X10_measure_40 g (out) := by
  intro n
  induction n with
  | zero => intro l2 g out H; exact absurd H (by simp [f_X10_measure_40_48])
  | succ n ih =>
    intro l2 g out H
    have H : (if (f_X4_roads_3 g) ≤ l2 then
  f_X10_measure_40_131 xN 0 g
else
  if (f_X10_isOpen_40 l2 g) = 0 then
    f_X10_measure_40_48 n (l2 + 1) g
  else
    xl (f_X10_shorten_40 (f_X4_oneEndOf_3 l2 g) (f_X4_otherEndOf_3 l2 g) (f_X4_milesOf_3 l2 g) g) fun w2 =>
    xl (f_X10_shorten_40 (f_X4_otherEndOf_3 l2 w2) (f_X4_oneEndOf_3 l2 w2) (f_X4_milesOf_3 l2 w2) w2) fun w3 =>
    f_X10_measure_40_48 n (l2 + 1) w3) = some out := H
    by_cases h2 : (f_X4_roads_3 g) ≤ l2
    · rw [if_pos h2] at H
      exact xfrm.tr xfrm.rf (fr_X10_measure_40_131 _ _ _ _ H) rfl
    · rw [if_neg h2] at H
      by_cases h6 : (f_X10_isOpen_40 l2 g) = 0
      · rw [if_pos h6] at H
        exact xfrm.tr xfrm.rf (ih _ _ _ H) rfl
      · rw [if_neg h6] at H
        obtain ⟨w2, e2, H⟩ := xl_elim H
        have hf3 : xfrm fp_X10_measure_40 g (w2) := xfrm.tr xfrm.rf (fr_X10_shorten_40 _ e2) rfl
        obtain ⟨w3, e3, H⟩ := xl_elim H
        have hf4 : xfrm fp_X10_measure_40 g (w3) := xfrm.tr hf3 (fr_X10_shorten_40 _ e3) rfl
        exact xfrm.tr hf4 (ih _ _ _ H) rfl
set_option maxRecDepth 20000 in
theorem t_X10_measure_40_7 {k : xK} {S : List xSh} {out : xG} (hS : xpf SH1 S) (A : xAt k mX10_measure.2.1 10 SH1 S) (hR : xRet k 0 0 S (fun r g' => r = none ∧ g' = out) mX10_measure.2.2.2) (hrm : xrm k = { frames := 3, cells := 0, slots := 0, locals := 66 }) (hz : xhs k = xb0 k + S.length)   : ∀ (n : Nat) (l2 : Int32) (g : xG), f_X10_measure_40_7 n l2 g = some out → xW k S 0 0 7 [some (.ref 40), none, some (.int l2), none, none] [] g := by
  intro n
  induction n with
  | zero => intro l2 g H; exact absurd H (by simp [f_X10_measure_40_7])
  | succ n ih =>
    intro l2 g H
    have H : (if 49 ≤ l2 then
  f_X10_measure_40_48 xN 0 g
else
  xg (¬ (7 : Int32) = 0) (
    xg (¬ (7 : Int32) = 0) (
      if (l2 / 7) = (l2 - l2 / 7 * 7) then
        xg (¬ (l2 < 0 ∨ 49 ≤ l2.toNatClampNeg)) (
          f_X10_measure_40_7 n (l2 + 1) (xupd g.1 41 l2.toNatClampNeg 0, g.2))
      else
        xg (¬ (l2 < 0 ∨ 49 ≤ l2.toNatClampNeg)) (
          f_X10_measure_40_7 n (l2 + 1) (xupd g.1 41 l2.toNatClampNeg 999, g.2))))) = some out := H
    refine xb A [(.iload_n 2, 1, 0, 0, .null), (.aload_n 0, 1, 0, 0, .null), (.getfield 9, 3, 40, 1, .ref 41), (.arraylength, 1, 41, 0, .int 49)] (pc' := 13) (ls' := [some (.ref 40), none, some (.int l2), none, none]) (st' := [.int 49, .int l2]) (g' := g) (by decide +kernel) rfl ?_
    refine xic_ge A (33) 46 16 (by decide +kernel) (fun h1 => ?_) (fun h1 => ?_)
    · rw [if_pos h1] at H
      refine xb A [(.iconst 0, 1, 0, 0, .int 0), (.istore_n 2, 1, 0, 0, .null)] (pc' := 48) (ls' := [some (.ref 40), none, some (.int 0), none, none]) (st' := []) (g' := g) (by decide +kernel) rfl ?_
      exact t_X10_measure_40_48 hS A hR hrm hz _ _ _ H
    · rw [if_neg h1] at H
      refine xb A [(.aload_n 0, 1, 0, 0, .null), (.getfield 9, 3, 40, 1, .ref 41), (.iload_n 2, 1, 0, 0, .null), (.iload_n 2, 1, 0, 0, .null), (.bipush 7, 2, 0, 0, .int 7)] (pc' := 24) (ls' := [some (.ref 40), none, some (.int l2), none, none]) (st' := [.int 7, .int l2, .int l2, .ref 41]) (g' := g) (by decide +kernel) rfl ?_
      obtain ⟨h7, H⟩ := xg_elim H
      refine xidiv A (nxt := 25) (by decide +kernel) h7 ?_
      refine xb A [(.iload_n 2, 1, 0, 0, .null), (.bipush 7, 2, 0, 0, .int 7)] (pc' := 28) (ls' := [some (.ref 40), none, some (.int l2), none, none]) (st' := [.int 7, .int l2, .int (l2 / 7), .int l2, .ref 41]) (g' := g) (by decide +kernel) rfl ?_
      obtain ⟨h8, H⟩ := xg_elim H
      refine xirem A (nxt := 29) (by decide +kernel) h8 ?_
      refine xic_ne A (7) 36 32 (by decide +kernel) (fun h9 => ?_) (fun h9 => ?_)
      · rw [if_neg h9] at H
        refine xb A [(.sipush 999, 3, 0, 0, .int 999)] (pc' := 39) (ls' := [some (.ref 40), none, some (.int l2), none, none]) (st' := [.int 999, .int l2, .ref 41]) (g' := g) (by decide +kernel) rfl ?_
        obtain ⟨h10, H⟩ := xg_elim H
        refine xiast A (nxt := 40) (by decide +kernel) (hS _ _ sh_41) h10 ?_
        show xW k S 0 0 40 [some (.ref 40), none, some (.int l2), none, none] [] (xupd g.1 41 l2.toNatClampNeg 999, g.2)
        refine xb A [(.iinc 2 1, 3, 0, 0, .null)] (pc' := 43) (ls' := [some (.ref 40), none, some (.int (l2 + 1)), none, none]) (st' := []) (g' := (xupd g.1 41 l2.toNatClampNeg 999, g.2)) (by decide +kernel) rfl ?_
        refine xgoto A (-36) 7 (by decide +kernel) ?_
        exact ih _ _ H
      · rw [if_pos h9] at H
        refine xb A [(.iconst 0, 1, 0, 0, .int 0)] (pc' := 33) (ls' := [some (.ref 40), none, some (.int l2), none, none]) (st' := [.int 0, .int l2, .ref 41]) (g' := g) (by decide +kernel) rfl ?_
        refine xgoto A (6) 39 (by decide +kernel) ?_
        obtain ⟨h11, H⟩ := xg_elim H
        refine xiast A (nxt := 40) (by decide +kernel) (hS _ _ sh_41) h11 ?_
        show xW k S 0 0 40 [some (.ref 40), none, some (.int l2), none, none] [] (xupd g.1 41 l2.toNatClampNeg 0, g.2)
        refine xb A [(.iinc 2 1, 3, 0, 0, .null)] (pc' := 43) (ls' := [some (.ref 40), none, some (.int (l2 + 1)), none, none]) (st' := []) (g' := (xupd g.1 41 l2.toNatClampNeg 0, g.2)) (by decide +kernel) rfl ?_
        refine xgoto A (-36) 7 (by decide +kernel) ?_
        exact ih _ _ H
theorem fr_X10_measure_40_7   : ∀ (n : Nat) (l2 : Int32) (g : xG) (out : xG), f_X10_measure_40_7 n l2 g = some out → xfrm fp_X10_measure_40 g (out) := by
  intro n
  induction n with
  | zero => intro l2 g out H; exact absurd H (by simp [f_X10_measure_40_7])
  | succ n ih =>
    intro l2 g out H
    have H : (if 49 ≤ l2 then
  f_X10_measure_40_48 xN 0 g
else
  xg (¬ (7 : Int32) = 0) (
    xg (¬ (7 : Int32) = 0) (
      if (l2 / 7) = (l2 - l2 / 7 * 7) then
        xg (¬ (l2 < 0 ∨ 49 ≤ l2.toNatClampNeg)) (
          f_X10_measure_40_7 n (l2 + 1) (xupd g.1 41 l2.toNatClampNeg 0, g.2))
      else
        xg (¬ (l2 < 0 ∨ 49 ≤ l2.toNatClampNeg)) (
          f_X10_measure_40_7 n (l2 + 1) (xupd g.1 41 l2.toNatClampNeg 999, g.2))))) = some out := H
    by_cases h1 : 49 ≤ l2
    · rw [if_pos h1] at H
      exact xfrm.tr xfrm.rf (fr_X10_measure_40_48 _ _ _ _ H) rfl
    · rw [if_neg h1] at H
      obtain ⟨h7, H⟩ := xg_elim H
      obtain ⟨h8, H⟩ := xg_elim H
      by_cases h9 : (l2 / 7) = (l2 - l2 / 7 * 7)
      · rw [if_pos h9] at H
        obtain ⟨h11, H⟩ := xg_elim H
        have hf6 : xfrm fp_X10_measure_40 g ((xupd g.1 41 l2.toNatClampNeg 0, g.2)) := xfrm.ua xfrm.rf rfl
        exact xfrm.tr hf6 (ih _ _ _ H) rfl
      · rw [if_neg h9] at H
        obtain ⟨h10, H⟩ := xg_elim H
        have hf5 : xfrm fp_X10_measure_40 g ((xupd g.1 41 l2.toNatClampNeg 999, g.2)) := xfrm.ua xfrm.rf rfl
        exact xfrm.tr hf5 (ih _ _ _ H) rfl
set_option maxRecDepth 20000 in
theorem c_X10_measure_40 {S : List xSh} (hS : xpf SH1 S) {g : xG} {p1 : Int32} (out : xG) (H : f_X10_measure_40 p1 g = some out) : xC mX10_measure 3 66 0 0 S [.ref 40, .int p1] g S (fun r g' => r = none ∧ g' = out) := by
  have H : (f_X10_measure_40_7 xN 0 (xupd g.1 40 2 p1, g.2)) = some out := H
  refine xC.of 10 SH1 [some (.ref 40), some (.int p1), none, none, none] hS (by decide +kernel) rfl (fun _ _ => Nat.le_of_ble_eq_true rfl) (fun _ _ => rfl) ?_
  intro k A hR hrm hz
  refine xb A [(.aload_n 0, 1, 0, 0, .null), (.iload_n 1, 1, 0, 0, .null), (.putfield 19, 3, 40, 2, .int 0), (.iconst 0, 1, 0, 0, .int 0), (.istore_n 2, 1, 0, 0, .null)] (pc' := 7) (ls' := [some (.ref 40), some (.int p1), some (.int 0), none, none]) (st' := []) (g' := (xupd g.1 40 2 p1, g.2)) (by decide +kernel) rfl ?_
  refine xweak (ls' := [some (.ref 40), none, some (.int 0), none, none]) (by exact ⟨rfl, ⟨rfl, trivial⟩⟩) ?_
  exact t_X10_measure_40_7 hS A hR hrm hz _ _ _ H
theorem fr_X10_measure_40 {p1 : Int32} {g : xG} (out : xG) (H : f_X10_measure_40 p1 g = some out) : xfrm fp_X10_measure_40 g (out) := by
  have H : (f_X10_measure_40_7 xN 0 (xupd g.1 40 2 p1, g.2)) = some out := H
  have hf1 : xfrm fp_X10_measure_40 g ((xupd g.1 40 2 p1, g.2)) := xfrm.up xfrm.rf rfl
  exact xfrm.tr hf1 (fr_X10_measure_40_7 _ _ _ _ H) rfl
def f_X1_mayRing_46_48 (p2 : Int32) (g : xG) : Int32 :=
  if (f_X6_of_48 p2 5 g) = (f_X4_capital_3 g) then
    if (f_X6_isBarred_48 p2 g) = 0 then
      1
    else
      0
  else
    0
set_option maxRecDepth 20000 in
theorem c_X1_mayRing_46_48 {S : List xSh} (hS : xpf SH1 S) {g : xG} {p2 : Int32} (out : Int32) (H : f_X1_mayRing_46_48 p2 g = out) : xC mX1_mayRing 3 63 0 0 S [.ref 46, .ref 48, .int p2] g S (fun r g' => r = some (.int out) ∧ g' = g) := by
  have H : (if (f_X6_of_48 p2 5 g) = (f_X4_capital_3 g) then
  if (f_X6_isBarred_48 p2 g) = 0 then
    1
  else
    0
else
  0) = out := H
  refine xC.of 1 SH1 [some (.ref 46), some (.ref 48), some (.int p2)] hS (by decide +kernel) rfl (fun _ _ => Nat.le_of_ble_eq_true rfl) (fun _ _ => rfl) ?_
  intro k A hR hrm hz
  refine xb A [(.aload_n 1, 1, 0, 0, .null), (.iload_n 2, 1, 0, 0, .null), (.iconst 5, 1, 0, 0, .int 5)] (pc' := 3) (ls' := [some (.ref 46), some (.ref 48), some (.int p2)]) (st' := [.int 5, .int p2, .ref 48]) (g' := g) (by decide +kernel) rfl ?_
  refine xcallV A (ix := 51) (nxt := 6) hrm hz [.int p2, .int 5] [] 969 (c_X6_of_48 hS _ rfl) ok_X6_of (by decide +kernel) rfl (fun r g1 hq => ?_)
  rw [hq.1, hq.2]
  show xW k S 0 0 6 [some (.ref 46), some (.ref 48), some (.int p2)] [.int (f_X6_of_48 p2 5 g)] g
  refine xb A [(.aload_n 0, 1, 0, 0, .null), (.getfield 17, 3, 46, 0, .ref 3)] (pc' := 10) (ls' := [some (.ref 46), some (.ref 48), some (.int p2)]) (st' := [.ref 3, .int (f_X6_of_48 p2 5 g)]) (g' := g) (by decide +kernel) rfl ?_
  refine xcallV A (ix := 31) (nxt := 13) hrm hz [] [.int (f_X6_of_48 p2 5 g)] 958 (c_X4_capital_3 hS _ rfl) ok_X4_capital (by decide +kernel) rfl (fun r g1 hq => ?_)
  rw [hq.1, hq.2]
  show xW k S 0 0 13 [some (.ref 46), some (.ref 48), some (.int p2)] [.int (f_X4_capital_3 g), .int (f_X6_of_48 p2 5 g)] g
  refine xic_ne A (15) 28 16 (by decide +kernel) (fun h1 => ?_) (fun h1 => ?_)
  · rw [if_neg h1] at H
    refine xb A [(.iconst 0, 1, 0, 0, .int 0)] (pc' := 29) (ls' := [some (.ref 46), some (.ref 48), some (.int p2)]) (st' := [.int 0]) (g' := g) (by decide +kernel) rfl ?_
    subst H
    exact xret_i A hR hz (by decide +kernel) rfl ⟨rfl, rfl⟩
  · rw [if_pos h1] at H
    refine xb A [(.aload_n 1, 1, 0, 0, .null), (.iload_n 2, 1, 0, 0, .null)] (pc' := 18) (ls' := [some (.ref 46), some (.ref 48), some (.int p2)]) (st' := [.int p2, .ref 48]) (g' := g) (by decide +kernel) rfl ?_
    refine xcallV A (ix := 104) (nxt := 21) hrm hz [.int p2] [] 1046 (c_X6_isBarred_48 hS _ rfl) ok_X6_isBarred (by decide +kernel) rfl (fun r g1 hq => ?_)
    rw [hq.1, hq.2]
    show xW k S 0 0 21 [some (.ref 46), some (.ref 48), some (.int p2)] [.int (f_X6_isBarred_48 p2 g)] g
    refine xif_ne A (7) 28 24 (by decide +kernel) (fun h2 => ?_) (fun h2 => ?_)
    · rw [if_neg h2] at H
      refine xb A [(.iconst 0, 1, 0, 0, .int 0)] (pc' := 29) (ls' := [some (.ref 46), some (.ref 48), some (.int p2)]) (st' := [.int 0]) (g' := g) (by decide +kernel) rfl ?_
      subst H
      exact xret_i A hR hz (by decide +kernel) rfl ⟨rfl, rfl⟩
    · rw [if_pos h2] at H
      refine xb A [(.iconst 1, 1, 0, 0, .int 1)] (pc' := 25) (ls' := [some (.ref 46), some (.ref 48), some (.int p2)]) (st' := [.int 1]) (g' := g) (by decide +kernel) rfl ?_
      refine xgoto A (4) 29 (by decide +kernel) ?_
      subst H
      exact xret_i A hR hz (by decide +kernel) rfl ⟨rfl, rfl⟩
def fp_X2_answer_12_47 : List (Nat × Option Nat) := [(16, none)]
def f_X2_answer_12_47_58 (k15 : Int32 → Int32 → Int32 → xG → Option (Int32 × xG)) (l3 : Int32) (l4 : Int32) (l5 : Int32) (l6 : Int32) (l7 : Int32) (g : xG) : Option (Int32 × xG) :=
  if l6 = 1 then
    xl (xput g 16 24 l4 l7) fun w2 =>
    k15 l3 (l4 + 1) (l5 + 1) w2
  else
    xl (xput g 16 24 l4 (xat g 47 9 l7)) fun w1 =>
    k15 l3 (l4 + 1) (l5 + 1) w1
def f_X2_answer_12_47_156 (k15 : Int32 → Int32 → Int32 → xG → Option (Int32 × xG)) (l3 : Int32) (l4 : Int32) (l5 : Int32) (l6 : Int32) (l8 : Int32) (l9 : Int32) (g : xG) : Option (Int32 × xG) :=
  (f_X2_joined l6 l9 l8).bind fun w3 =>
  xl (xput g 16 24 l4 w3) fun w4 =>
  k15 l3 (l4 + 1) (l5 + 1) w4
def f_X2_answer_12_47_15  : Nat → Int32 → Int32 → Int32 → xG → Option (Int32 × xG)
  | 0, _, _, _, _ => none
  | n + 1, l3, l4, l5, g =>
    if 408 ≤ l5 then
      some (0, g)
    else
      if (xat g 13 408 l3) = 1 then
        f_X2_answer_12_47_58 (f_X2_answer_12_47_15 n) (l3 + 1) l4 l5 (xat g 13 408 l3) (xat g 14 408 l3) g
      else
        if (xat g 13 408 l3) = 2 then
          f_X2_answer_12_47_58 (f_X2_answer_12_47_15 n) (l3 + 1) l4 l5 (xat g 13 408 l3) (xat g 14 408 l3) g
        else
          if (xat g 13 408 l3) = 0 then
            some (xat g 16 24 (l4 - 1), g)
          else
            if (xat g 13 408 l3) = 3 then
              if (xat g 16 24 (l4 - 2)) < (xat g 16 24 (l4 - 1)) then
                f_X2_answer_12_47_15 n (l3 + 1) (l4 + (-2)) (l5 + 1) g
              else
                f_X2_answer_12_47_15 n (xat g 14 408 l3) (l4 + (-2)) (l5 + 1) g
            else
              if (xat g 13 408 l3) = 7 then
                if (xat g 16 24 (l4 - 1)) = 0 then
                  some (0, g)
                else
                  f_X2_answer_12_47_156 (f_X2_answer_12_47_15 n) (l3 + 1) (l4 + (-2)) l5 (xat g 13 408 l3) (xat g 16 24 (l4 - 1)) (xat g 16 24 (l4 - 2)) g
              else
                f_X2_answer_12_47_156 (f_X2_answer_12_47_15 n) (l3 + 1) (l4 + (-2)) l5 (xat g 13 408 l3) (xat g 16 24 (l4 - 1)) (xat g 16 24 (l4 - 2)) g
def f_X2_answer_12_47 (p1 : Int32) (g : xG) : Option (Int32 × xG) :=
  f_X2_answer_12_47_15 xN (xat g 15 4 p1) 0 0 g
set_option maxRecDepth 20000 in
theorem t_X2_answer_12_47_58 {k : xK} {S : List xSh} {out : Int32 × xG} (hS : xpf SH1 S) (A : xAt k mX2_answer.2.1 2 SH1 S) (hR : xRet k 0 0 S (fun r g' => r = some (.int out.1) ∧ g' = out.2) mX2_answer.2.2.2) (hrm : xrm k = { frames := 1, cells := 0, slots := 0, locals := 22 }) (hz : xhs k = xb0 k + S.length) {k15 : Int32 → Int32 → Int32 → xG → Option (Int32 × xG)} (hk15 : ∀ (l3 : Int32) (l4 : Int32) (l5 : Int32) (g : xG), k15 l3 l4 l5 g = some out → xW k S 0 0 15 [some (.ref 12), none, some (.ref 47), some (.int l3), some (.int l4), some (.int l5), none, none, none, none] [] g) : ∀ (l3 : Int32) (l4 : Int32) (l5 : Int32) (l6 : Int32) (l7 : Int32) (g : xG), f_X2_answer_12_47_58 k15 l3 l4 l5 l6 l7 g = some out → xW k S 0 0 58 [some (.ref 12), none, some (.ref 47), some (.int l3), some (.int l4), some (.int l5), some (.int l6), some (.int l7), none, none] [] g := by
  intro l3 l4 l5 l6 l7 g H
  have H : (if l6 = 1 then
  xl (xput g 16 24 l4 l7) fun w2 =>
  k15 l3 (l4 + 1) (l5 + 1) w2
else
  xl (xput g 16 24 l4 (xat g 47 9 l7)) fun w1 =>
  k15 l3 (l4 + 1) (l5 + 1) w1) = some out := H
  refine xb A [(.aload_n 0, 1, 0, 0, .null), (.getfield 23, 3, 12, 3, .ref 16), (.iload 4, 2, 0, 0, .null), (.iload 6, 2, 0, 0, .null), (.iconst 1, 1, 0, 0, .int 1)] (pc' := 67) (ls' := [some (.ref 12), none, some (.ref 47), some (.int l3), some (.int l4), some (.int l5), some (.int l6), some (.int l7), none, none]) (st' := [.int 1, .int l6, .int l4, .ref 16]) (g' := g) (by decide +kernel) rfl ?_
  refine xic_ne A (8) 75 70 (by decide +kernel) (fun h3 => ?_) (fun h3 => ?_)
  · rw [if_neg h3] at H
    refine xb A [(.aload_n 2, 1, 0, 0, .null), (.iload 7, 2, 0, 0, .null)] (pc' := 78) (ls' := [some (.ref 12), none, some (.ref 47), some (.int l3), some (.int l4), some (.int l5), some (.int l6), some (.int l7), none, none]) (st' := [.int l7, .ref 47, .int l4, .ref 16]) (g' := g) (by decide +kernel) rfl ?_
    refine xcallSN A (ix := 46) (nxt := 81) (host := "NoonRinger") hrm hz [.ref 47, .int l7] [.int l4, .ref 16] 26 (c_X11_at (hS _ _ sh_47) (by decide)) ok_X11_at (by decide +kernel) rfl (fun r g1 hq => ?_)
    rw [hq.1, hq.2]
    show xW k S 0 0 81 [some (.ref 12), none, some (.ref 47), some (.int l3), some (.int l4), some (.int l5), some (.int l6), some (.int l7), none, none] [.int (xat g 47 9 l7), .int l4, .ref 16] g
    obtain ⟨w1, e1, H⟩ := xl_elim H
    refine xcallSN A (ix := 42) (nxt := 84) (host := "NoonRinger") hrm hz [.ref 16, .int l4, .int (xat g 47 9 l7)] [] 6 (c_X11_put (hS _ _ sh_16) (by decide)) ok_X11_put (by decide +kernel) rfl (fun r g1 hq => ?_)
    rw [hq.1, hq.2]
    rw [e1]
    show xW k S 0 0 84 [some (.ref 12), none, some (.ref 47), some (.int l3), some (.int l4), some (.int l5), some (.int l6), some (.int l7), none, none] [] w1
    refine xb A [(.iinc 4 1, 3, 0, 0, .null)] (pc' := 87) (ls' := [some (.ref 12), none, some (.ref 47), some (.int l3), some (.int (l4 + 1)), some (.int l5), some (.int l6), some (.int l7), none, none]) (st' := []) (g' := w1) (by decide +kernel) rfl ?_
    refine xgoto A (103) 190 (by decide +kernel) ?_
    refine xb A [(.iinc 5 1, 3, 0, 0, .null)] (pc' := 193) (ls' := [some (.ref 12), none, some (.ref 47), some (.int l3), some (.int (l4 + 1)), some (.int (l5 + 1)), some (.int l6), some (.int l7), none, none]) (st' := []) (g' := w1) (by decide +kernel) rfl ?_
    refine xgoto A (-178) 15 (by decide +kernel) ?_
    refine xweak (ls' := [some (.ref 12), none, some (.ref 47), some (.int l3), some (.int (l4 + 1)), some (.int (l5 + 1)), none, none, none, none]) (by exact ⟨rfl, ⟨rfl, ⟨rfl, ⟨rfl, ⟨rfl, trivial⟩⟩⟩⟩⟩) ?_
    exact hk15 _ _ _ _ H
  · rw [if_pos h3] at H
    refine xb A [(.iload 7, 2, 0, 0, .null)] (pc' := 72) (ls' := [some (.ref 12), none, some (.ref 47), some (.int l3), some (.int l4), some (.int l5), some (.int l6), some (.int l7), none, none]) (st' := [.int l7, .int l4, .ref 16]) (g' := g) (by decide +kernel) rfl ?_
    refine xgoto A (9) 81 (by decide +kernel) ?_
    obtain ⟨w2, e2, H⟩ := xl_elim H
    refine xcallSN A (ix := 42) (nxt := 84) (host := "NoonRinger") hrm hz [.ref 16, .int l4, .int l7] [] 6 (c_X11_put (hS _ _ sh_16) (by decide)) ok_X11_put (by decide +kernel) rfl (fun r g1 hq => ?_)
    rw [hq.1, hq.2]
    rw [e2]
    show xW k S 0 0 84 [some (.ref 12), none, some (.ref 47), some (.int l3), some (.int l4), some (.int l5), some (.int l6), some (.int l7), none, none] [] w2
    refine xb A [(.iinc 4 1, 3, 0, 0, .null)] (pc' := 87) (ls' := [some (.ref 12), none, some (.ref 47), some (.int l3), some (.int (l4 + 1)), some (.int l5), some (.int l6), some (.int l7), none, none]) (st' := []) (g' := w2) (by decide +kernel) rfl ?_
    refine xgoto A (103) 190 (by decide +kernel) ?_
    refine xb A [(.iinc 5 1, 3, 0, 0, .null)] (pc' := 193) (ls' := [some (.ref 12), none, some (.ref 47), some (.int l3), some (.int (l4 + 1)), some (.int (l5 + 1)), some (.int l6), some (.int l7), none, none]) (st' := []) (g' := w2) (by decide +kernel) rfl ?_
    refine xgoto A (-178) 15 (by decide +kernel) ?_
    refine xweak (ls' := [some (.ref 12), none, some (.ref 47), some (.int l3), some (.int (l4 + 1)), some (.int (l5 + 1)), none, none, none, none]) (by exact ⟨rfl, ⟨rfl, ⟨rfl, ⟨rfl, ⟨rfl, trivial⟩⟩⟩⟩⟩) ?_
    exact hk15 _ _ _ _ H
theorem fr_X2_answer_12_47_58 {k15 : Int32 → Int32 → Int32 → xG → Option (Int32 × xG)} (hk15 : ∀ (l3 : Int32) (l4 : Int32) (l5 : Int32) (g : xG) (out : Int32 × xG), k15 l3 l4 l5 g = some out → xfrm fp_X2_answer_12_47 g (out.2)) : ∀ (l3 : Int32) (l4 : Int32) (l5 : Int32) (l6 : Int32) (l7 : Int32) (g : xG) (out : Int32 × xG), f_X2_answer_12_47_58 k15 l3 l4 l5 l6 l7 g = some out → xfrm fp_X2_answer_12_47 g (out.2) := by
  intro l3 l4 l5 l6 l7 g out H
  have H : (if l6 = 1 then
  xl (xput g 16 24 l4 l7) fun w2 =>
  k15 l3 (l4 + 1) (l5 + 1) w2
else
  xl (xput g 16 24 l4 (xat g 47 9 l7)) fun w1 =>
  k15 l3 (l4 + 1) (l5 + 1) w1) = some out := H
  by_cases h3 : l6 = 1
  · rw [if_pos h3] at H
    obtain ⟨w2, e2, H⟩ := xl_elim H
    have hf2 : xfrm fp_X2_answer_12_47 g (w2) := xfrm_xput xfrm.rf rfl e2
    exact xfrm.tr hf2 (hk15 _ _ _ _ _ H) rfl
  · rw [if_neg h3] at H
    obtain ⟨w1, e1, H⟩ := xl_elim H
    have hf1 : xfrm fp_X2_answer_12_47 g (w1) := xfrm_xput xfrm.rf rfl e1
    exact xfrm.tr hf1 (hk15 _ _ _ _ _ H) rfl
set_option maxRecDepth 20000 in
theorem t_X2_answer_12_47_156 {k : xK} {S : List xSh} {out : Int32 × xG} (hS : xpf SH1 S) (A : xAt k mX2_answer.2.1 2 SH1 S) (hR : xRet k 0 0 S (fun r g' => r = some (.int out.1) ∧ g' = out.2) mX2_answer.2.2.2) (hrm : xrm k = { frames := 1, cells := 0, slots := 0, locals := 22 }) (hz : xhs k = xb0 k + S.length) {k15 : Int32 → Int32 → Int32 → xG → Option (Int32 × xG)} (hk15 : ∀ (l3 : Int32) (l4 : Int32) (l5 : Int32) (g : xG), k15 l3 l4 l5 g = some out → xW k S 0 0 15 [some (.ref 12), none, some (.ref 47), some (.int l3), some (.int l4), some (.int l5), none, none, none, none] [] g) : ∀ (l3 : Int32) (l4 : Int32) (l5 : Int32) (l6 : Int32) (l8 : Int32) (l9 : Int32) (g : xG), f_X2_answer_12_47_156 k15 l3 l4 l5 l6 l8 l9 g = some out → xW k S 0 0 156 [some (.ref 12), none, some (.ref 47), some (.int l3), some (.int l4), some (.int l5), some (.int l6), none, some (.int l8), some (.int l9)] [] g := by
  intro l3 l4 l5 l6 l8 l9 g H
  have H : ((f_X2_joined l6 l9 l8).bind fun w3 =>
xl (xput g 16 24 l4 w3) fun w4 =>
k15 l3 (l4 + 1) (l5 + 1) w4) = some out := H
  refine xb A [(.aload_n 0, 1, 0, 0, .null), (.getfield 23, 3, 12, 3, .ref 16), (.iload 4, 2, 0, 0, .null), (.iload 6, 2, 0, 0, .null), (.iload 9, 2, 0, 0, .null), (.iload 8, 2, 0, 0, .null)] (pc' := 168) (ls' := [some (.ref 12), none, some (.ref 47), some (.int l3), some (.int l4), some (.int l5), some (.int l6), none, some (.int l8), some (.int l9)]) (st' := [.int l8, .int l9, .int l6, .int l4, .ref 16]) (g' := g) (by decide +kernel) rfl ?_
  obtain ⟨w3, e3, H⟩ := xbind H
  refine xcallS A (ix := 50) (nxt := 171) hrm hz [.int l6, .int l9, .int l8] [.int l4, .ref 16] 989 (c_X2_joined hS _ e3) ok_X2_joined (by decide +kernel) rfl (fun r g1 hq => ?_)
  rw [hq.1, hq.2]
  show xW k S 0 0 171 [some (.ref 12), none, some (.ref 47), some (.int l3), some (.int l4), some (.int l5), some (.int l6), none, some (.int l8), some (.int l9)] [.int w3, .int l4, .ref 16] g
  obtain ⟨w4, e4, H⟩ := xl_elim H
  refine xcallSN A (ix := 42) (nxt := 174) (host := "NoonRinger") hrm hz [.ref 16, .int l4, .int w3] [] 6 (c_X11_put (hS _ _ sh_16) (by decide)) ok_X11_put (by decide +kernel) rfl (fun r g1 hq => ?_)
  rw [hq.1, hq.2]
  rw [e4]
  show xW k S 0 0 174 [some (.ref 12), none, some (.ref 47), some (.int l3), some (.int l4), some (.int l5), some (.int l6), none, some (.int l8), some (.int l9)] [] w4
  refine xb A [(.iinc 4 1, 3, 0, 0, .null)] (pc' := 177) (ls' := [some (.ref 12), none, some (.ref 47), some (.int l3), some (.int (l4 + 1)), some (.int l5), some (.int l6), none, some (.int l8), some (.int l9)]) (st' := []) (g' := w4) (by decide +kernel) rfl ?_
  refine xgoto A (13) 190 (by decide +kernel) ?_
  refine xb A [(.iinc 5 1, 3, 0, 0, .null)] (pc' := 193) (ls' := [some (.ref 12), none, some (.ref 47), some (.int l3), some (.int (l4 + 1)), some (.int (l5 + 1)), some (.int l6), none, some (.int l8), some (.int l9)]) (st' := []) (g' := w4) (by decide +kernel) rfl ?_
  refine xgoto A (-178) 15 (by decide +kernel) ?_
  refine xweak (ls' := [some (.ref 12), none, some (.ref 47), some (.int l3), some (.int (l4 + 1)), some (.int (l5 + 1)), none, none, none, none]) (by exact ⟨rfl, ⟨rfl, ⟨rfl, ⟨rfl, ⟨rfl, trivial⟩⟩⟩⟩⟩) ?_
  exact hk15 _ _ _ _ H
theorem fr_X2_answer_12_47_156 {k15 : Int32 → Int32 → Int32 → xG → Option (Int32 × xG)} (hk15 : ∀ (l3 : Int32) (l4 : Int32) (l5 : Int32) (g : xG) (out : Int32 × xG), k15 l3 l4 l5 g = some out → xfrm fp_X2_answer_12_47 g (out.2)) : ∀ (l3 : Int32) (l4 : Int32) (l5 : Int32) (l6 : Int32) (l8 : Int32) (l9 : Int32) (g : xG) (out : Int32 × xG), f_X2_answer_12_47_156 k15 l3 l4 l5 l6 l8 l9 g = some out → xfrm fp_X2_answer_12_47 g (out.2) := by
  intro l3 l4 l5 l6 l8 l9 g out H
  have H : ((f_X2_joined l6 l9 l8).bind fun w3 =>
xl (xput g 16 24 l4 w3) fun w4 =>
k15 l3 (l4 + 1) (l5 + 1) w4) = some out := H
  obtain ⟨w3, e3, H⟩ := xbind H
  obtain ⟨w4, e4, H⟩ := xl_elim H
  have hf3 : xfrm fp_X2_answer_12_47 g (w4) := xfrm_xput xfrm.rf rfl e4
  exact xfrm.tr hf3 (hk15 _ _ _ _ _ H) rfl
set_option maxRecDepth 20000 in
theorem t_X2_answer_12_47_15 {k : xK} {S : List xSh} {out : Int32 × xG} (hS : xpf SH1 S) (A : xAt k mX2_answer.2.1 2 SH1 S) (hR : xRet k 0 0 S (fun r g' => r = some (.int out.1) ∧ g' = out.2) mX2_answer.2.2.2) (hrm : xrm k = { frames := 1, cells := 0, slots := 0, locals := 22 }) (hz : xhs k = xb0 k + S.length)   : ∀ (n : Nat) (l3 : Int32) (l4 : Int32) (l5 : Int32) (g : xG), f_X2_answer_12_47_15 n l3 l4 l5 g = some out → xW k S 0 0 15 [some (.ref 12), none, some (.ref 47), some (.int l3), some (.int l4), some (.int l5), none, none, none, none] [] g := by
  intro n
  induction n with
  | zero => intro l3 l4 l5 g H; exact absurd H (by simp [f_X2_answer_12_47_15])
  | succ n ih =>
    intro l3 l4 l5 g H
    have H : (if 408 ≤ l5 then
  some (0, g)
else
  if (xat g 13 408 l3) = 1 then
    f_X2_answer_12_47_58 (f_X2_answer_12_47_15 n) (l3 + 1) l4 l5 (xat g 13 408 l3) (xat g 14 408 l3) g
  else
    if (xat g 13 408 l3) = 2 then
      f_X2_answer_12_47_58 (f_X2_answer_12_47_15 n) (l3 + 1) l4 l5 (xat g 13 408 l3) (xat g 14 408 l3) g
    else
      if (xat g 13 408 l3) = 0 then
        some (xat g 16 24 (l4 - 1), g)
      else
        if (xat g 13 408 l3) = 3 then
          if (xat g 16 24 (l4 - 2)) < (xat g 16 24 (l4 - 1)) then
            f_X2_answer_12_47_15 n (l3 + 1) (l4 + (-2)) (l5 + 1) g
          else
            f_X2_answer_12_47_15 n (xat g 14 408 l3) (l4 + (-2)) (l5 + 1) g
        else
          if (xat g 13 408 l3) = 7 then
            if (xat g 16 24 (l4 - 1)) = 0 then
              some (0, g)
            else
              f_X2_answer_12_47_156 (f_X2_answer_12_47_15 n) (l3 + 1) (l4 + (-2)) l5 (xat g 13 408 l3) (xat g 16 24 (l4 - 1)) (xat g 16 24 (l4 - 2)) g
          else
            f_X2_answer_12_47_156 (f_X2_answer_12_47_15 n) (l3 + 1) (l4 + (-2)) l5 (xat g 13 408 l3) (xat g 16 24 (l4 - 1)) (xat g 16 24 (l4 - 2)) g) = some out := H
    refine xb A [(.iload 5, 2, 0, 0, .null), (.sipush 408, 3, 0, 0, .int 408)] (pc' := 20) (ls' := [some (.ref 12), none, some (.ref 47), some (.int l3), some (.int l4), some (.int l5), none, none, none, none]) (st' := [.int 408, .int l5]) (g' := g) (by decide +kernel) rfl ?_
    refine xic_ge A (176) 196 23 (by decide +kernel) (fun h1 => ?_) (fun h1 => ?_)
    · rw [if_pos h1] at H
      refine xb A [(.iconst 0, 1, 0, 0, .int 0)] (pc' := 197) (ls' := [some (.ref 12), none, some (.ref 47), some (.int l3), some (.int l4), some (.int l5), none, none, none, none]) (st' := [.int 0]) (g' := g) (by decide +kernel) rfl ?_
      obtain rfl := Option.some.inj H
      exact xret_i A hR hz (by decide +kernel) rfl ⟨rfl, rfl⟩
    · rw [if_neg h1] at H
      refine xb A [(.aload_n 0, 1, 0, 0, .null), (.getfield 13, 3, 12, 0, .ref 13), (.iload_n 3, 1, 0, 0, .null)] (pc' := 28) (ls' := [some (.ref 12), none, some (.ref 47), some (.int l3), some (.int l4), some (.int l5), none, none, none, none]) (st' := [.int l3, .ref 13]) (g' := g) (by decide +kernel) rfl ?_
      refine xcallSN A (ix := 46) (nxt := 31) (host := "NoonRinger") hrm hz [.ref 13, .int l3] [] 26 (c_X11_at (hS _ _ sh_13) (by decide)) ok_X11_at (by decide +kernel) rfl (fun r g1 hq => ?_)
      rw [hq.1, hq.2]
      show xW k S 0 0 31 [some (.ref 12), none, some (.ref 47), some (.int l3), some (.int l4), some (.int l5), none, none, none, none] [.int (xat g 13 408 l3)] g
      refine xb A [(.istore 6, 2, 0, 0, .null), (.aload_n 0, 1, 0, 0, .null), (.getfield 17, 3, 12, 1, .ref 14), (.iload_n 3, 1, 0, 0, .null)] (pc' := 38) (ls' := [some (.ref 12), none, some (.ref 47), some (.int l3), some (.int l4), some (.int l5), some (.int (xat g 13 408 l3)), none, none, none]) (st' := [.int l3, .ref 14]) (g' := g) (by decide +kernel) rfl ?_
      refine xcallSN A (ix := 46) (nxt := 41) (host := "NoonRinger") hrm hz [.ref 14, .int l3] [] 26 (c_X11_at (hS _ _ sh_14) (by decide)) ok_X11_at (by decide +kernel) rfl (fun r g1 hq => ?_)
      rw [hq.1, hq.2]
      show xW k S 0 0 41 [some (.ref 12), none, some (.ref 47), some (.int l3), some (.int l4), some (.int l5), some (.int (xat g 13 408 l3)), none, none, none] [.int (xat g 14 408 l3)] g
      refine xb A [(.istore 7, 2, 0, 0, .null), (.iinc 3 1, 3, 0, 0, .null), (.iload 6, 2, 0, 0, .null), (.iconst 1, 1, 0, 0, .int 1)] (pc' := 49) (ls' := [some (.ref 12), none, some (.ref 47), some (.int (l3 + 1)), some (.int l4), some (.int l5), some (.int (xat g 13 408 l3)), some (.int (xat g 14 408 l3)), none, none]) (st' := [.int 1, .int (xat g 13 408 l3)]) (g' := g) (by decide +kernel) rfl ?_
      refine xic_eq A (9) 58 52 (by decide +kernel) (fun h2 => ?_) (fun h2 => ?_)
      · rw [if_pos h2] at H
        exact t_X2_answer_12_47_58 hS A hR hrm hz ih _ _ _ _ _ _ H
      · rw [if_neg h2] at H
        refine xb A [(.iload 6, 2, 0, 0, .null), (.iconst 2, 1, 0, 0, .int 2)] (pc' := 55) (ls' := [some (.ref 12), none, some (.ref 47), some (.int (l3 + 1)), some (.int l4), some (.int l5), some (.int (xat g 13 408 l3)), some (.int (xat g 14 408 l3)), none, none]) (st' := [.int 2, .int (xat g 13 408 l3)]) (g' := g) (by decide +kernel) rfl ?_
        refine xic_ne A (35) 90 58 (by decide +kernel) (fun h4 => ?_) (fun h4 => ?_)
        · rw [if_neg h4] at H
          refine xb A [(.iload 6, 2, 0, 0, .null)] (pc' := 92) (ls' := [some (.ref 12), none, some (.ref 47), some (.int (l3 + 1)), some (.int l4), some (.int l5), some (.int (xat g 13 408 l3)), some (.int (xat g 14 408 l3)), none, none]) (st' := [.int (xat g 13 408 l3)]) (g' := g) (by decide +kernel) rfl ?_
          refine xif_ne A (15) 107 95 (by decide +kernel) (fun h5 => ?_) (fun h5 => ?_)
          · rw [if_neg h5] at H
            refine xb A [(.aload_n 0, 1, 0, 0, .null), (.getfield 23, 3, 12, 3, .ref 16), (.iload 4, 2, 0, 0, .null), (.iconst 1, 1, 0, 0, .int 1), (.isub, 1, 0, 0, .null)] (pc' := 115) (ls' := [some (.ref 12), none, some (.ref 47), some (.int (l3 + 1)), some (.int l4), some (.int l5), some (.int (xat g 13 408 l3)), some (.int (xat g 14 408 l3)), none, none]) (st' := [.int (l4 - 1), .ref 16]) (g' := g) (by decide +kernel) rfl ?_
            refine xcallSN A (ix := 46) (nxt := 118) (host := "NoonRinger") hrm hz [.ref 16, .int (l4 - 1)] [] 26 (c_X11_at (hS _ _ sh_16) (by decide)) ok_X11_at (by decide +kernel) rfl (fun r g1 hq => ?_)
            rw [hq.1, hq.2]
            show xW k S 0 0 118 [some (.ref 12), none, some (.ref 47), some (.int (l3 + 1)), some (.int l4), some (.int l5), some (.int (xat g 13 408 l3)), some (.int (xat g 14 408 l3)), none, none] [.int (xat g 16 24 (l4 - 1))] g
            refine xb A [(.istore 8, 2, 0, 0, .null), (.aload_n 0, 1, 0, 0, .null), (.getfield 23, 3, 12, 3, .ref 16), (.iload 4, 2, 0, 0, .null), (.iconst 2, 1, 0, 0, .int 2), (.isub, 1, 0, 0, .null)] (pc' := 128) (ls' := [some (.ref 12), none, some (.ref 47), some (.int (l3 + 1)), some (.int l4), some (.int l5), some (.int (xat g 13 408 l3)), some (.int (xat g 14 408 l3)), some (.int (xat g 16 24 (l4 - 1))), none]) (st' := [.int (l4 - 2), .ref 16]) (g' := g) (by decide +kernel) rfl ?_
            refine xcallSN A (ix := 46) (nxt := 131) (host := "NoonRinger") hrm hz [.ref 16, .int (l4 - 2)] [] 26 (c_X11_at (hS _ _ sh_16) (by decide)) ok_X11_at (by decide +kernel) rfl (fun r g1 hq => ?_)
            rw [hq.1, hq.2]
            show xW k S 0 0 131 [some (.ref 12), none, some (.ref 47), some (.int (l3 + 1)), some (.int l4), some (.int l5), some (.int (xat g 13 408 l3)), some (.int (xat g 14 408 l3)), some (.int (xat g 16 24 (l4 - 1))), none] [.int (xat g 16 24 (l4 - 2))] g
            refine xb A [(.istore 9, 2, 0, 0, .null), (.iinc 4 (-2), 3, 0, 0, .null), (.iload 6, 2, 0, 0, .null), (.iconst 3, 1, 0, 0, .int 3)] (pc' := 139) (ls' := [some (.ref 12), none, some (.ref 47), some (.int (l3 + 1)), some (.int (l4 + (-2))), some (.int l5), some (.int (xat g 13 408 l3)), some (.int (xat g 14 408 l3)), some (.int (xat g 16 24 (l4 - 1))), some (.int (xat g 16 24 (l4 - 2)))]) (st' := [.int 3, .int (xat g 13 408 l3)]) (g' := g) (by decide +kernel) rfl ?_
            refine xic_eq A (41) 180 142 (by decide +kernel) (fun h6 => ?_) (fun h6 => ?_)
            · rw [if_pos h6] at H
              refine xb A [(.iload 9, 2, 0, 0, .null), (.iload 8, 2, 0, 0, .null)] (pc' := 184) (ls' := [some (.ref 12), none, some (.ref 47), some (.int (l3 + 1)), some (.int (l4 + (-2))), some (.int l5), some (.int (xat g 13 408 l3)), some (.int (xat g 14 408 l3)), some (.int (xat g 16 24 (l4 - 1))), some (.int (xat g 16 24 (l4 - 2)))]) (st' := [.int (xat g 16 24 (l4 - 1)), .int (xat g 16 24 (l4 - 2))]) (g' := g) (by decide +kernel) rfl ?_
              refine xic_lt A (6) 190 187 (by decide +kernel) (fun h7 => ?_) (fun h7 => ?_)
              · rw [if_pos h7] at H
                refine xb A [(.iinc 5 1, 3, 0, 0, .null)] (pc' := 193) (ls' := [some (.ref 12), none, some (.ref 47), some (.int (l3 + 1)), some (.int (l4 + (-2))), some (.int (l5 + 1)), some (.int (xat g 13 408 l3)), some (.int (xat g 14 408 l3)), some (.int (xat g 16 24 (l4 - 1))), some (.int (xat g 16 24 (l4 - 2)))]) (st' := []) (g' := g) (by decide +kernel) rfl ?_
                refine xgoto A (-178) 15 (by decide +kernel) ?_
                refine xweak (ls' := [some (.ref 12), none, some (.ref 47), some (.int (l3 + 1)), some (.int (l4 + (-2))), some (.int (l5 + 1)), none, none, none, none]) (by exact ⟨rfl, ⟨rfl, ⟨rfl, ⟨rfl, ⟨rfl, trivial⟩⟩⟩⟩⟩) ?_
                exact ih _ _ _ _ H
              · rw [if_neg h7] at H
                refine xb A [(.iload 7, 2, 0, 0, .null), (.istore_n 3, 1, 0, 0, .null), (.iinc 5 1, 3, 0, 0, .null)] (pc' := 193) (ls' := [some (.ref 12), none, some (.ref 47), some (.int (xat g 14 408 l3)), some (.int (l4 + (-2))), some (.int (l5 + 1)), some (.int (xat g 13 408 l3)), some (.int (xat g 14 408 l3)), some (.int (xat g 16 24 (l4 - 1))), some (.int (xat g 16 24 (l4 - 2)))]) (st' := []) (g' := g) (by decide +kernel) rfl ?_
                refine xgoto A (-178) 15 (by decide +kernel) ?_
                refine xweak (ls' := [some (.ref 12), none, some (.ref 47), some (.int (xat g 14 408 l3)), some (.int (l4 + (-2))), some (.int (l5 + 1)), none, none, none, none]) (by exact ⟨rfl, ⟨rfl, ⟨rfl, ⟨rfl, ⟨rfl, trivial⟩⟩⟩⟩⟩) ?_
                exact ih _ _ _ _ H
            · rw [if_neg h6] at H
              refine xb A [(.iload 6, 2, 0, 0, .null), (.bipush 7, 2, 0, 0, .int 7)] (pc' := 146) (ls' := [some (.ref 12), none, some (.ref 47), some (.int (l3 + 1)), some (.int (l4 + (-2))), some (.int l5), some (.int (xat g 13 408 l3)), some (.int (xat g 14 408 l3)), some (.int (xat g 16 24 (l4 - 1))), some (.int (xat g 16 24 (l4 - 2)))]) (st' := [.int 7, .int (xat g 13 408 l3)]) (g' := g) (by decide +kernel) rfl ?_
              refine xic_ne A (10) 156 149 (by decide +kernel) (fun h8 => ?_) (fun h8 => ?_)
              · rw [if_neg h8] at H
                refine xweak (ls' := [some (.ref 12), none, some (.ref 47), some (.int (l3 + 1)), some (.int (l4 + (-2))), some (.int l5), some (.int (xat g 13 408 l3)), none, some (.int (xat g 16 24 (l4 - 1))), some (.int (xat g 16 24 (l4 - 2)))]) (by exact ⟨rfl, ⟨rfl, ⟨rfl, ⟨rfl, ⟨rfl, ⟨rfl, ⟨rfl, ⟨rfl, trivial⟩⟩⟩⟩⟩⟩⟩⟩) ?_
                exact t_X2_answer_12_47_156 hS A hR hrm hz ih _ _ _ _ _ _ _ H
              · rw [if_pos h8] at H
                refine xb A [(.iload 8, 2, 0, 0, .null)] (pc' := 151) (ls' := [some (.ref 12), none, some (.ref 47), some (.int (l3 + 1)), some (.int (l4 + (-2))), some (.int l5), some (.int (xat g 13 408 l3)), some (.int (xat g 14 408 l3)), some (.int (xat g 16 24 (l4 - 1))), some (.int (xat g 16 24 (l4 - 2)))]) (st' := [.int (xat g 16 24 (l4 - 1))]) (g' := g) (by decide +kernel) rfl ?_
                refine xif_ne A (5) 156 154 (by decide +kernel) (fun h9 => ?_) (fun h9 => ?_)
                · rw [if_neg h9] at H
                  refine xweak (ls' := [some (.ref 12), none, some (.ref 47), some (.int (l3 + 1)), some (.int (l4 + (-2))), some (.int l5), some (.int (xat g 13 408 l3)), none, some (.int (xat g 16 24 (l4 - 1))), some (.int (xat g 16 24 (l4 - 2)))]) (by exact ⟨rfl, ⟨rfl, ⟨rfl, ⟨rfl, ⟨rfl, ⟨rfl, ⟨rfl, ⟨rfl, trivial⟩⟩⟩⟩⟩⟩⟩⟩) ?_
                  exact t_X2_answer_12_47_156 hS A hR hrm hz ih _ _ _ _ _ _ _ H
                · rw [if_pos h9] at H
                  refine xb A [(.iconst 0, 1, 0, 0, .int 0)] (pc' := 155) (ls' := [some (.ref 12), none, some (.ref 47), some (.int (l3 + 1)), some (.int (l4 + (-2))), some (.int l5), some (.int (xat g 13 408 l3)), some (.int (xat g 14 408 l3)), some (.int (xat g 16 24 (l4 - 1))), some (.int (xat g 16 24 (l4 - 2)))]) (st' := [.int 0]) (g' := g) (by decide +kernel) rfl ?_
                  obtain rfl := Option.some.inj H
                  exact xret_i A hR hz (by decide +kernel) rfl ⟨rfl, rfl⟩
          · rw [if_pos h5] at H
            refine xb A [(.aload_n 0, 1, 0, 0, .null), (.getfield 23, 3, 12, 3, .ref 16), (.iload 4, 2, 0, 0, .null), (.iconst 1, 1, 0, 0, .int 1), (.isub, 1, 0, 0, .null)] (pc' := 103) (ls' := [some (.ref 12), none, some (.ref 47), some (.int (l3 + 1)), some (.int l4), some (.int l5), some (.int (xat g 13 408 l3)), some (.int (xat g 14 408 l3)), none, none]) (st' := [.int (l4 - 1), .ref 16]) (g' := g) (by decide +kernel) rfl ?_
            refine xcallSN A (ix := 46) (nxt := 106) (host := "NoonRinger") hrm hz [.ref 16, .int (l4 - 1)] [] 26 (c_X11_at (hS _ _ sh_16) (by decide)) ok_X11_at (by decide +kernel) rfl (fun r g1 hq => ?_)
            rw [hq.1, hq.2]
            show xW k S 0 0 106 [some (.ref 12), none, some (.ref 47), some (.int (l3 + 1)), some (.int l4), some (.int l5), some (.int (xat g 13 408 l3)), some (.int (xat g 14 408 l3)), none, none] [.int (xat g 16 24 (l4 - 1))] g
            obtain rfl := Option.some.inj H
            exact xret_i A hR hz (by decide +kernel) rfl ⟨rfl, rfl⟩
        · rw [if_pos h4] at H
          exact t_X2_answer_12_47_58 hS A hR hrm hz ih _ _ _ _ _ _ H
theorem fr_X2_answer_12_47_15   : ∀ (n : Nat) (l3 : Int32) (l4 : Int32) (l5 : Int32) (g : xG) (out : Int32 × xG), f_X2_answer_12_47_15 n l3 l4 l5 g = some out → xfrm fp_X2_answer_12_47 g (out.2) := by
  intro n
  induction n with
  | zero => intro l3 l4 l5 g out H; exact absurd H (by simp [f_X2_answer_12_47_15])
  | succ n ih =>
    intro l3 l4 l5 g out H
    have H : (if 408 ≤ l5 then
  some (0, g)
else
  if (xat g 13 408 l3) = 1 then
    f_X2_answer_12_47_58 (f_X2_answer_12_47_15 n) (l3 + 1) l4 l5 (xat g 13 408 l3) (xat g 14 408 l3) g
  else
    if (xat g 13 408 l3) = 2 then
      f_X2_answer_12_47_58 (f_X2_answer_12_47_15 n) (l3 + 1) l4 l5 (xat g 13 408 l3) (xat g 14 408 l3) g
    else
      if (xat g 13 408 l3) = 0 then
        some (xat g 16 24 (l4 - 1), g)
      else
        if (xat g 13 408 l3) = 3 then
          if (xat g 16 24 (l4 - 2)) < (xat g 16 24 (l4 - 1)) then
            f_X2_answer_12_47_15 n (l3 + 1) (l4 + (-2)) (l5 + 1) g
          else
            f_X2_answer_12_47_15 n (xat g 14 408 l3) (l4 + (-2)) (l5 + 1) g
        else
          if (xat g 13 408 l3) = 7 then
            if (xat g 16 24 (l4 - 1)) = 0 then
              some (0, g)
            else
              f_X2_answer_12_47_156 (f_X2_answer_12_47_15 n) (l3 + 1) (l4 + (-2)) l5 (xat g 13 408 l3) (xat g 16 24 (l4 - 1)) (xat g 16 24 (l4 - 2)) g
          else
            f_X2_answer_12_47_156 (f_X2_answer_12_47_15 n) (l3 + 1) (l4 + (-2)) l5 (xat g 13 408 l3) (xat g 16 24 (l4 - 1)) (xat g 16 24 (l4 - 2)) g) = some out := H
    by_cases h1 : 408 ≤ l5
    · rw [if_pos h1] at H
      obtain rfl := Option.some.inj H
      exact xfrm.rf
    · rw [if_neg h1] at H
      by_cases h2 : (xat g 13 408 l3) = 1
      · rw [if_pos h2] at H
        exact xfrm.tr xfrm.rf (fr_X2_answer_12_47_58 ih _ _ _ _ _ _ _ H) rfl
      · rw [if_neg h2] at H
        by_cases h4 : (xat g 13 408 l3) = 2
        · rw [if_pos h4] at H
          exact xfrm.tr xfrm.rf (fr_X2_answer_12_47_58 ih _ _ _ _ _ _ _ H) rfl
        · rw [if_neg h4] at H
          by_cases h5 : (xat g 13 408 l3) = 0
          · rw [if_pos h5] at H
            obtain rfl := Option.some.inj H
            exact xfrm.rf
          · rw [if_neg h5] at H
            by_cases h6 : (xat g 13 408 l3) = 3
            · rw [if_pos h6] at H
              by_cases h7 : (xat g 16 24 (l4 - 2)) < (xat g 16 24 (l4 - 1))
              · rw [if_pos h7] at H
                exact xfrm.tr xfrm.rf (ih _ _ _ _ _ H) rfl
              · rw [if_neg h7] at H
                exact xfrm.tr xfrm.rf (ih _ _ _ _ _ H) rfl
            · rw [if_neg h6] at H
              by_cases h8 : (xat g 13 408 l3) = 7
              · rw [if_pos h8] at H
                by_cases h9 : (xat g 16 24 (l4 - 1)) = 0
                · rw [if_pos h9] at H
                  obtain rfl := Option.some.inj H
                  exact xfrm.rf
                · rw [if_neg h9] at H
                  exact xfrm.tr xfrm.rf (fr_X2_answer_12_47_156 ih _ _ _ _ _ _ _ _ H) rfl
              · rw [if_neg h8] at H
                exact xfrm.tr xfrm.rf (fr_X2_answer_12_47_156 ih _ _ _ _ _ _ _ _ H) rfl
set_option maxRecDepth 20000 in
theorem c_X2_answer_12_47 {S : List xSh} (hS : xpf SH1 S) {g : xG} {p1 : Int32} (out : Int32 × xG) (H : f_X2_answer_12_47 p1 g = some out) : xC mX2_answer 1 22 0 0 S [.ref 12, .int p1, .ref 47] g S (fun r g' => r = some (.int out.1) ∧ g' = out.2) := by
  have H : (f_X2_answer_12_47_15 xN (xat g 15 4 p1) 0 0 g) = some out := H
  refine xC.of 2 SH1 [some (.ref 12), some (.int p1), some (.ref 47), none, none, none, none, none, none, none] hS (by decide +kernel) rfl (fun _ _ => Nat.le_of_ble_eq_true rfl) (fun _ _ => rfl) ?_
  intro k A hR hrm hz
  refine xb A [(.aload_n 0, 1, 0, 0, .null), (.getfield 20, 3, 12, 2, .ref 15), (.iload_n 1, 1, 0, 0, .null)] (pc' := 5) (ls' := [some (.ref 12), some (.int p1), some (.ref 47), none, none, none, none, none, none, none]) (st' := [.int p1, .ref 15]) (g' := g) (by decide +kernel) rfl ?_
  refine xcallSN A (ix := 46) (nxt := 8) (host := "NoonRinger") hrm hz [.ref 15, .int p1] [] 26 (c_X11_at (hS _ _ sh_15) (by decide)) ok_X11_at (by decide +kernel) rfl (fun r g1 hq => ?_)
  rw [hq.1, hq.2]
  show xW k S 0 0 8 [some (.ref 12), some (.int p1), some (.ref 47), none, none, none, none, none, none, none] [.int (xat g 15 4 p1)] g
  refine xb A [(.istore_n 3, 1, 0, 0, .null), (.iconst 0, 1, 0, 0, .int 0), (.istore 4, 2, 0, 0, .null), (.iconst 0, 1, 0, 0, .int 0), (.istore 5, 2, 0, 0, .null)] (pc' := 15) (ls' := [some (.ref 12), some (.int p1), some (.ref 47), some (.int (xat g 15 4 p1)), some (.int 0), some (.int 0), none, none, none, none]) (st' := []) (g' := g) (by decide +kernel) rfl ?_
  refine xweak (ls' := [some (.ref 12), none, some (.ref 47), some (.int (xat g 15 4 p1)), some (.int 0), some (.int 0), none, none, none, none]) (by exact ⟨rfl, ⟨rfl, ⟨rfl, ⟨rfl, ⟨rfl, trivial⟩⟩⟩⟩⟩) ?_
  exact t_X2_answer_12_47_15 hS A hR hrm hz _ _ _ _ _ H
theorem fr_X2_answer_12_47 {p1 : Int32} {g : xG} (out : Int32 × xG) (H : f_X2_answer_12_47 p1 g = some out) : xfrm fp_X2_answer_12_47 g (out.2) := by
  have H : (f_X2_answer_12_47_15 xN (xat g 15 4 p1) 0 0 g) = some out := H
  exact xfrm.tr xfrm.rf (fr_X2_answer_12_47_15 _ _ _ _ _ _ H) rfl
def fp_X1_lawFrom_46_48 : List (Nat × Option Nat) := [(16, none), (47, none)]
def f_X1_lawFrom_46_48 (p2 : Int32) (p3 : Int32) (p4 : Int32) (g : xG) : Option (Int32 × xG) :=
  xl (xput g 47 9 0 (f_X10_between_40 p3 (f_X4_capital_3 g) g)) fun w1 =>
  xl (xput w1 47 9 1 (f_X6_of_48 p2 17 w1)) fun w2 =>
  xl (xput w2 47 9 2 (f_X4_honestyOf_3 p2 w2)) fun w3 =>
  xl (xput w3 47 9 3 (f_X6_of_48 p2 23 w3)) fun w4 =>
  xl (xput w4 47 9 4 (f_X6_get_48 0 w4)) fun w5 =>
  xl (xput w5 47 9 5 p2) fun w6 =>
  xl (xput w6 47 9 6 0) fun w7 =>
  (f_X6_peopleIn_48 (f_X4_capital_3 w7) (f_X4_people_3 w7) w7).bind fun w8 =>
  xl (xput w7 47 9 7 (f_J6_bitCount_0f7a4 w8)) fun w9 =>
  xl (xput w9 47 9 8 (f_X6_of_48 p2 29 w9)) fun w10 =>
  (f_X2_answer_12_47 0 w10).bind fun w11 =>
  if p4 = 0 then
    some (f_X1_heldTo (f_X2_mostOf 0) w11.1, w11.2)
  else
    xl (xput w11.2 47 9 6 (f_X1_heldTo (f_X2_mostOf 0) w11.1)) fun w12 =>
    (f_X2_answer_12_47 p4 w12).bind fun w13 =>
    some (f_X1_heldTo (f_X2_mostOf p4) w13.1, w13.2)
set_option maxRecDepth 20000 in
theorem c_X1_lawFrom_46_48 {S : List xSh} (hS : xpf SH1 S) {g : xG} {p2 : Int32} {p3 : Int32} {p4 : Int32} (out : Int32 × xG) (H : f_X1_lawFrom_46_48 p2 p3 p4 g = some out) : xC mX1_lawFrom 2 51 0 0 S [.ref 46, .ref 48, .int p2, .int p3, .int p4] g S (fun r g' => r = some (.int out.1) ∧ g' = out.2) := by
  have H : (xl (xput g 47 9 0 (f_X10_between_40 p3 (f_X4_capital_3 g) g)) fun w1 =>
xl (xput w1 47 9 1 (f_X6_of_48 p2 17 w1)) fun w2 =>
xl (xput w2 47 9 2 (f_X4_honestyOf_3 p2 w2)) fun w3 =>
xl (xput w3 47 9 3 (f_X6_of_48 p2 23 w3)) fun w4 =>
xl (xput w4 47 9 4 (f_X6_get_48 0 w4)) fun w5 =>
xl (xput w5 47 9 5 p2) fun w6 =>
xl (xput w6 47 9 6 0) fun w7 =>
(f_X6_peopleIn_48 (f_X4_capital_3 w7) (f_X4_people_3 w7) w7).bind fun w8 =>
xl (xput w7 47 9 7 (f_J6_bitCount_0f7a4 w8)) fun w9 =>
xl (xput w9 47 9 8 (f_X6_of_48 p2 29 w9)) fun w10 =>
(f_X2_answer_12_47 0 w10).bind fun w11 =>
if p4 = 0 then
  some (f_X1_heldTo (f_X2_mostOf 0) w11.1, w11.2)
else
  xl (xput w11.2 47 9 6 (f_X1_heldTo (f_X2_mostOf 0) w11.1)) fun w12 =>
  (f_X2_answer_12_47 p4 w12).bind fun w13 =>
  some (f_X1_heldTo (f_X2_mostOf p4) w13.1, w13.2)) = some out := H
  refine xC.of 1 SH1 [some (.ref 46), some (.ref 48), some (.int p2), some (.int p3), some (.int p4), none] hS (by decide +kernel) rfl (fun _ _ => Nat.le_of_ble_eq_true rfl) (fun _ _ => rfl) ?_
  intro k A hR hrm hz
  refine xb A [(.aload_n 0, 1, 0, 0, .null), (.getfield 11, 3, 46, 2, .ref 47), (.iconst 0, 1, 0, 0, .int 0), (.aload_n 0, 1, 0, 0, .null), (.getfield 21, 3, 46, 1, .ref 40), (.iload_n 3, 1, 0, 0, .null), (.aload_n 0, 1, 0, 0, .null), (.getfield 17, 3, 46, 0, .ref 3)] (pc' := 14) (ls' := [some (.ref 46), some (.ref 48), some (.int p2), some (.int p3), some (.int p4), none]) (st' := [.ref 3, .int p3, .ref 40, .int 0, .ref 47]) (g' := g) (by decide +kernel) rfl ?_
  refine xcallV A (ix := 31) (nxt := 17) hrm hz [] [.int p3, .ref 40, .int 0, .ref 47] 958 (c_X4_capital_3 hS _ rfl) ok_X4_capital (by decide +kernel) rfl (fun r g1 hq => ?_)
  rw [hq.1, hq.2]
  show xW k S 0 0 17 [some (.ref 46), some (.ref 48), some (.int p2), some (.int p3), some (.int p4), none] [.int (f_X4_capital_3 g), .int p3, .ref 40, .int 0, .ref 47] g
  refine xcallV A (ix := 35) (nxt := 20) hrm hz [.int p3, .int (f_X4_capital_3 g)] [.int 0, .ref 47] 959 (c_X10_between_40 hS _ rfl) ok_X10_between (by decide +kernel) rfl (fun r g1 hq => ?_)
  rw [hq.1, hq.2]
  show xW k S 0 0 20 [some (.ref 46), some (.ref 48), some (.int p2), some (.int p3), some (.int p4), none] [.int (f_X10_between_40 p3 (f_X4_capital_3 g) g), .int 0, .ref 47] g
  obtain ⟨w1, e1, H⟩ := xl_elim H
  refine xcallSN A (ix := 45) (nxt := 23) (host := "NoonRinger") hrm hz [.ref 47, .int 0, .int (f_X10_between_40 p3 (f_X4_capital_3 g) g)] [] 25 (c_X11_put (hS _ _ sh_47) (by decide)) ok_X11_put (by decide +kernel) rfl (fun r g1 hq => ?_)
  rw [hq.1, hq.2]
  rw [e1]
  show xW k S 0 0 23 [some (.ref 46), some (.ref 48), some (.int p2), some (.int p3), some (.int p4), none] [] w1
  refine xb A [(.aload_n 0, 1, 0, 0, .null), (.getfield 11, 3, 46, 2, .ref 47), (.iconst 1, 1, 0, 0, .int 1), (.aload_n 1, 1, 0, 0, .null), (.iload_n 2, 1, 0, 0, .null), (.bipush 17, 2, 0, 0, .int 17)] (pc' := 32) (ls' := [some (.ref 46), some (.ref 48), some (.int p2), some (.int p3), some (.int p4), none]) (st' := [.int 17, .int p2, .ref 48, .int 1, .ref 47]) (g' := w1) (by decide +kernel) rfl ?_
  refine xcallV A (ix := 51) (nxt := 35) hrm hz [.int p2, .int 17] [.int 1, .ref 47] 969 (c_X6_of_48 hS _ rfl) ok_X6_of (by decide +kernel) rfl (fun r g1 hq => ?_)
  rw [hq.1, hq.2]
  show xW k S 0 0 35 [some (.ref 46), some (.ref 48), some (.int p2), some (.int p3), some (.int p4), none] [.int (f_X6_of_48 p2 17 w1), .int 1, .ref 47] w1
  obtain ⟨w2, e2, H⟩ := xl_elim H
  refine xcallSN A (ix := 45) (nxt := 38) (host := "NoonRinger") hrm hz [.ref 47, .int 1, .int (f_X6_of_48 p2 17 w1)] [] 25 (c_X11_put (hS _ _ sh_47) (by decide)) ok_X11_put (by decide +kernel) rfl (fun r g1 hq => ?_)
  rw [hq.1, hq.2]
  rw [e2]
  show xW k S 0 0 38 [some (.ref 46), some (.ref 48), some (.int p2), some (.int p3), some (.int p4), none] [] w2
  refine xb A [(.aload_n 0, 1, 0, 0, .null), (.getfield 11, 3, 46, 2, .ref 47), (.iconst 2, 1, 0, 0, .int 2), (.aload_n 0, 1, 0, 0, .null), (.getfield 17, 3, 46, 0, .ref 3), (.iload_n 2, 1, 0, 0, .null)] (pc' := 48) (ls' := [some (.ref 46), some (.ref 48), some (.int p2), some (.int p3), some (.int p4), none]) (st' := [.int p2, .ref 3, .int 2, .ref 47]) (g' := w2) (by decide +kernel) rfl ?_
  refine xcallV A (ix := 54) (nxt := 51) hrm hz [.int p2] [.int 2, .ref 47] 970 (c_X4_honestyOf_3 hS _ rfl) ok_X4_honestyOf (by decide +kernel) rfl (fun r g1 hq => ?_)
  rw [hq.1, hq.2]
  show xW k S 0 0 51 [some (.ref 46), some (.ref 48), some (.int p2), some (.int p3), some (.int p4), none] [.int (f_X4_honestyOf_3 p2 w2), .int 2, .ref 47] w2
  obtain ⟨w3, e3, H⟩ := xl_elim H
  refine xcallSN A (ix := 45) (nxt := 54) (host := "NoonRinger") hrm hz [.ref 47, .int 2, .int (f_X4_honestyOf_3 p2 w2)] [] 25 (c_X11_put (hS _ _ sh_47) (by decide)) ok_X11_put (by decide +kernel) rfl (fun r g1 hq => ?_)
  rw [hq.1, hq.2]
  rw [e3]
  show xW k S 0 0 54 [some (.ref 46), some (.ref 48), some (.int p2), some (.int p3), some (.int p4), none] [] w3
  refine xb A [(.aload_n 0, 1, 0, 0, .null), (.getfield 11, 3, 46, 2, .ref 47), (.iconst 3, 1, 0, 0, .int 3), (.aload_n 1, 1, 0, 0, .null), (.iload_n 2, 1, 0, 0, .null), (.bipush 23, 2, 0, 0, .int 23)] (pc' := 63) (ls' := [some (.ref 46), some (.ref 48), some (.int p2), some (.int p3), some (.int p4), none]) (st' := [.int 23, .int p2, .ref 48, .int 3, .ref 47]) (g' := w3) (by decide +kernel) rfl ?_
  refine xcallV A (ix := 51) (nxt := 66) hrm hz [.int p2, .int 23] [.int 3, .ref 47] 969 (c_X6_of_48 hS _ rfl) ok_X6_of (by decide +kernel) rfl (fun r g1 hq => ?_)
  rw [hq.1, hq.2]
  show xW k S 0 0 66 [some (.ref 46), some (.ref 48), some (.int p2), some (.int p3), some (.int p4), none] [.int (f_X6_of_48 p2 23 w3), .int 3, .ref 47] w3
  obtain ⟨w4, e4, H⟩ := xl_elim H
  refine xcallSN A (ix := 45) (nxt := 69) (host := "NoonRinger") hrm hz [.ref 47, .int 3, .int (f_X6_of_48 p2 23 w3)] [] 25 (c_X11_put (hS _ _ sh_47) (by decide)) ok_X11_put (by decide +kernel) rfl (fun r g1 hq => ?_)
  rw [hq.1, hq.2]
  rw [e4]
  show xW k S 0 0 69 [some (.ref 46), some (.ref 48), some (.int p2), some (.int p3), some (.int p4), none] [] w4
  refine xb A [(.aload_n 0, 1, 0, 0, .null), (.getfield 11, 3, 46, 2, .ref 47), (.iconst 4, 1, 0, 0, .int 4), (.aload_n 1, 1, 0, 0, .null), (.iconst 0, 1, 0, 0, .int 0)] (pc' := 76) (ls' := [some (.ref 46), some (.ref 48), some (.int p2), some (.int p3), some (.int p4), none]) (st' := [.int 0, .ref 48, .int 4, .ref 47]) (g' := w4) (by decide +kernel) rfl ?_
  refine xcallV A (ix := 57) (nxt := 79) hrm hz [.int 0] [.int 4, .ref 47] 971 (c_X6_get_48 hS _ rfl) ok_X6_get (by decide +kernel) rfl (fun r g1 hq => ?_)
  rw [hq.1, hq.2]
  show xW k S 0 0 79 [some (.ref 46), some (.ref 48), some (.int p2), some (.int p3), some (.int p4), none] [.int (f_X6_get_48 0 w4), .int 4, .ref 47] w4
  obtain ⟨w5, e5, H⟩ := xl_elim H
  refine xcallSN A (ix := 45) (nxt := 82) (host := "NoonRinger") hrm hz [.ref 47, .int 4, .int (f_X6_get_48 0 w4)] [] 25 (c_X11_put (hS _ _ sh_47) (by decide)) ok_X11_put (by decide +kernel) rfl (fun r g1 hq => ?_)
  rw [hq.1, hq.2]
  rw [e5]
  show xW k S 0 0 82 [some (.ref 46), some (.ref 48), some (.int p2), some (.int p3), some (.int p4), none] [] w5
  refine xb A [(.aload_n 0, 1, 0, 0, .null), (.getfield 11, 3, 46, 2, .ref 47), (.iconst 5, 1, 0, 0, .int 5), (.iload_n 2, 1, 0, 0, .null)] (pc' := 88) (ls' := [some (.ref 46), some (.ref 48), some (.int p2), some (.int p3), some (.int p4), none]) (st' := [.int p2, .int 5, .ref 47]) (g' := w5) (by decide +kernel) rfl ?_
  obtain ⟨w6, e6, H⟩ := xl_elim H
  refine xcallSN A (ix := 45) (nxt := 91) (host := "NoonRinger") hrm hz [.ref 47, .int 5, .int p2] [] 25 (c_X11_put (hS _ _ sh_47) (by decide)) ok_X11_put (by decide +kernel) rfl (fun r g1 hq => ?_)
  rw [hq.1, hq.2]
  rw [e6]
  show xW k S 0 0 91 [some (.ref 46), some (.ref 48), some (.int p2), some (.int p3), some (.int p4), none] [] w6
  refine xb A [(.aload_n 0, 1, 0, 0, .null), (.getfield 11, 3, 46, 2, .ref 47), (.bipush 6, 2, 0, 0, .int 6), (.iconst 0, 1, 0, 0, .int 0)] (pc' := 98) (ls' := [some (.ref 46), some (.ref 48), some (.int p2), some (.int p3), some (.int p4), none]) (st' := [.int 0, .int 6, .ref 47]) (g' := w6) (by decide +kernel) rfl ?_
  obtain ⟨w7, e7, H⟩ := xl_elim H
  refine xcallSN A (ix := 45) (nxt := 101) (host := "NoonRinger") hrm hz [.ref 47, .int 6, .int 0] [] 25 (c_X11_put (hS _ _ sh_47) (by decide)) ok_X11_put (by decide +kernel) rfl (fun r g1 hq => ?_)
  rw [hq.1, hq.2]
  rw [e7]
  show xW k S 0 0 101 [some (.ref 46), some (.ref 48), some (.int p2), some (.int p3), some (.int p4), none] [] w7
  refine xb A [(.aload_n 0, 1, 0, 0, .null), (.getfield 11, 3, 46, 2, .ref 47), (.bipush 7, 2, 0, 0, .int 7), (.aload_n 1, 1, 0, 0, .null), (.aload_n 0, 1, 0, 0, .null), (.getfield 17, 3, 46, 0, .ref 3)] (pc' := 112) (ls' := [some (.ref 46), some (.ref 48), some (.int p2), some (.int p3), some (.int p4), none]) (st' := [.ref 3, .ref 48, .int 7, .ref 47]) (g' := w7) (by decide +kernel) rfl ?_
  refine xcallV A (ix := 31) (nxt := 115) hrm hz [] [.ref 48, .int 7, .ref 47] 958 (c_X4_capital_3 hS _ rfl) ok_X4_capital (by decide +kernel) rfl (fun r g1 hq => ?_)
  rw [hq.1, hq.2]
  show xW k S 0 0 115 [some (.ref 46), some (.ref 48), some (.int p2), some (.int p3), some (.int p4), none] [.int (f_X4_capital_3 w7), .ref 48, .int 7, .ref 47] w7
  refine xb A [(.aload_n 0, 1, 0, 0, .null), (.getfield 17, 3, 46, 0, .ref 3)] (pc' := 119) (ls' := [some (.ref 46), some (.ref 48), some (.int p2), some (.int p3), some (.int p4), none]) (st' := [.ref 3, .int (f_X4_capital_3 w7), .ref 48, .int 7, .ref 47]) (g' := w7) (by decide +kernel) rfl ?_
  refine xcallV A (ix := 60) (nxt := 122) hrm hz [] [.int (f_X4_capital_3 w7), .ref 48, .int 7, .ref 47] 972 (c_X4_people_3 hS _ rfl) ok_X4_people (by decide +kernel) rfl (fun r g1 hq => ?_)
  rw [hq.1, hq.2]
  show xW k S 0 0 122 [some (.ref 46), some (.ref 48), some (.int p2), some (.int p3), some (.int p4), none] [.int (f_X4_people_3 w7), .int (f_X4_capital_3 w7), .ref 48, .int 7, .ref 47] w7
  obtain ⟨w8, e8, H⟩ := xbind H
  refine xcallV A (ix := 63) (nxt := 125) hrm hz [.int (f_X4_capital_3 w7), .int (f_X4_people_3 w7)] [.int 7, .ref 47] 973 (c_X6_peopleIn_48 hS _ e8) ok_X6_peopleIn (by decide +kernel) rfl (fun r g1 hq => ?_)
  rw [hq.1, hq.2]
  show xW k S 0 0 125 [some (.ref 46), some (.ref 48), some (.int p2), some (.int p3), some (.int p4), none] [.int w8, .int 7, .ref 47] w7
  refine xcallS A (ix := 66) (nxt := 128) hrm hz [.int w8] [.int 7, .ref 47] 974 (c_J6_bitCount_0f7a4 hS _ rfl) ok_J6_bitCount_0f7a4 (by decide +kernel) rfl (fun r g1 hq => ?_)
  rw [hq.1, hq.2]
  show xW k S 0 0 128 [some (.ref 46), some (.ref 48), some (.int p2), some (.int p3), some (.int p4), none] [.int (f_J6_bitCount_0f7a4 w8), .int 7, .ref 47] w7
  obtain ⟨w9, e9, H⟩ := xl_elim H
  refine xcallSN A (ix := 45) (nxt := 131) (host := "NoonRinger") hrm hz [.ref 47, .int 7, .int (f_J6_bitCount_0f7a4 w8)] [] 25 (c_X11_put (hS _ _ sh_47) (by decide)) ok_X11_put (by decide +kernel) rfl (fun r g1 hq => ?_)
  rw [hq.1, hq.2]
  rw [e9]
  show xW k S 0 0 131 [some (.ref 46), some (.ref 48), some (.int p2), some (.int p3), some (.int p4), none] [] w9
  refine xb A [(.aload_n 0, 1, 0, 0, .null), (.getfield 11, 3, 46, 2, .ref 47), (.bipush 8, 2, 0, 0, .int 8), (.aload_n 1, 1, 0, 0, .null), (.iload_n 2, 1, 0, 0, .null), (.bipush 29, 2, 0, 0, .int 29)] (pc' := 141) (ls' := [some (.ref 46), some (.ref 48), some (.int p2), some (.int p3), some (.int p4), none]) (st' := [.int 29, .int p2, .ref 48, .int 8, .ref 47]) (g' := w9) (by decide +kernel) rfl ?_
  refine xcallV A (ix := 51) (nxt := 144) hrm hz [.int p2, .int 29] [.int 8, .ref 47] 969 (c_X6_of_48 hS _ rfl) ok_X6_of (by decide +kernel) rfl (fun r g1 hq => ?_)
  rw [hq.1, hq.2]
  show xW k S 0 0 144 [some (.ref 46), some (.ref 48), some (.int p2), some (.int p3), some (.int p4), none] [.int (f_X6_of_48 p2 29 w9), .int 8, .ref 47] w9
  obtain ⟨w10, e10, H⟩ := xl_elim H
  refine xcallSN A (ix := 45) (nxt := 147) (host := "NoonRinger") hrm hz [.ref 47, .int 8, .int (f_X6_of_48 p2 29 w9)] [] 25 (c_X11_put (hS _ _ sh_47) (by decide)) ok_X11_put (by decide +kernel) rfl (fun r g1 hq => ?_)
  rw [hq.1, hq.2]
  rw [e10]
  show xW k S 0 0 147 [some (.ref 46), some (.ref 48), some (.int p2), some (.int p3), some (.int p4), none] [] w10
  refine xb A [(.iconst 0, 1, 0, 0, .int 0)] (pc' := 148) (ls' := [some (.ref 46), some (.ref 48), some (.int p2), some (.int p3), some (.int p4), none]) (st' := [.int 0]) (g' := w10) (by decide +kernel) rfl ?_
  refine xcallS A (ix := 71) (nxt := 151) hrm hz [.int 0] [] 980 (c_X2_mostOf hS _ rfl) ok_X2_mostOf (by decide +kernel) rfl (fun r g1 hq => ?_)
  rw [hq.1, hq.2]
  show xW k S 0 0 151 [some (.ref 46), some (.ref 48), some (.int p2), some (.int p3), some (.int p4), none] [.int (f_X2_mostOf 0)] w10
  refine xb A [(.aload_n 0, 1, 0, 0, .null), (.getfield 17, 3, 46, 0, .ref 3)] (pc' := 155) (ls' := [some (.ref 46), some (.ref 48), some (.int p2), some (.int p3), some (.int p4), none]) (st' := [.ref 3, .int (f_X2_mostOf 0)]) (g' := w10) (by decide +kernel) rfl ?_
  refine xcallV A (ix := 74) (nxt := 158) hrm hz [] [.int (f_X2_mostOf 0)] 983 (c_X4_laws_3 hS) ok_X4_laws (by decide +kernel) rfl (fun r g1 hq => ?_)
  rw [hq.1, hq.2]
  show xW k S 0 0 158 [some (.ref 46), some (.ref 48), some (.int p2), some (.int p3), some (.int p4), none] [.ref 12, .int (f_X2_mostOf 0)] w10
  refine xb A [(.iconst 0, 1, 0, 0, .int 0), (.aload_n 0, 1, 0, 0, .null), (.getfield 11, 3, 46, 2, .ref 47)] (pc' := 163) (ls' := [some (.ref 46), some (.ref 48), some (.int p2), some (.int p3), some (.int p4), none]) (st' := [.ref 47, .int 0, .ref 12, .int (f_X2_mostOf 0)]) (g' := w10) (by decide +kernel) rfl ?_
  obtain ⟨w11, e11, H⟩ := xbind H
  refine xcallV A (ix := 78) (nxt := 166) hrm hz [.int 0, .ref 47] [.int (f_X2_mostOf 0)] 984 (c_X2_answer_12_47 hS _ e11) ok_X2_answer (by decide +kernel) rfl (fun r g1 hq => ?_)
  rw [hq.1, hq.2]
  show xW k S 0 0 166 [some (.ref 46), some (.ref 48), some (.int p2), some (.int p3), some (.int p4), none] [.int w11.1, .int (f_X2_mostOf 0)] w11.2
  refine xcallS A (ix := 82) (nxt := 169) hrm hz [.int (f_X2_mostOf 0), .int w11.1] [] 992 (c_X1_heldTo hS _ rfl) ok_X1_heldTo (by decide +kernel) rfl (fun r g1 hq => ?_)
  rw [hq.1, hq.2]
  show xW k S 0 0 169 [some (.ref 46), some (.ref 48), some (.int p2), some (.int p3), some (.int p4), none] [.int (f_X1_heldTo (f_X2_mostOf 0) w11.1)] w11.2
  refine xb A [(.istore 5, 2, 0, 0, .null), (.iload 4, 2, 0, 0, .null)] (pc' := 173) (ls' := [some (.ref 46), some (.ref 48), some (.int p2), some (.int p3), some (.int p4), some (.int (f_X1_heldTo (f_X2_mostOf 0) w11.1))]) (st' := [.int p4]) (g' := w11.2) (by decide +kernel) rfl ?_
  refine xif_ne A (6) 179 176 (by decide +kernel) (fun h1 => ?_) (fun h1 => ?_)
  · rw [if_neg h1] at H
    refine xb A [(.aload_n 0, 1, 0, 0, .null), (.getfield 11, 3, 46, 2, .ref 47), (.bipush 6, 2, 0, 0, .int 6), (.iload 5, 2, 0, 0, .null)] (pc' := 187) (ls' := [some (.ref 46), some (.ref 48), some (.int p2), some (.int p3), some (.int p4), some (.int (f_X1_heldTo (f_X2_mostOf 0) w11.1))]) (st' := [.int (f_X1_heldTo (f_X2_mostOf 0) w11.1), .int 6, .ref 47]) (g' := w11.2) (by decide +kernel) rfl ?_
    obtain ⟨w12, e12, H⟩ := xl_elim H
    refine xcallSN A (ix := 45) (nxt := 190) (host := "NoonRinger") hrm hz [.ref 47, .int 6, .int (f_X1_heldTo (f_X2_mostOf 0) w11.1)] [] 25 (c_X11_put (hS _ _ sh_47) (by decide)) ok_X11_put (by decide +kernel) rfl (fun r g1 hq => ?_)
    rw [hq.1, hq.2]
    rw [e12]
    show xW k S 0 0 190 [some (.ref 46), some (.ref 48), some (.int p2), some (.int p3), some (.int p4), some (.int (f_X1_heldTo (f_X2_mostOf 0) w11.1))] [] w12
    refine xb A [(.iload 4, 2, 0, 0, .null)] (pc' := 192) (ls' := [some (.ref 46), some (.ref 48), some (.int p2), some (.int p3), some (.int p4), some (.int (f_X1_heldTo (f_X2_mostOf 0) w11.1))]) (st' := [.int p4]) (g' := w12) (by decide +kernel) rfl ?_
    refine xcallS A (ix := 71) (nxt := 195) hrm hz [.int p4] [] 980 (c_X2_mostOf hS _ rfl) ok_X2_mostOf (by decide +kernel) rfl (fun r g1 hq => ?_)
    rw [hq.1, hq.2]
    show xW k S 0 0 195 [some (.ref 46), some (.ref 48), some (.int p2), some (.int p3), some (.int p4), some (.int (f_X1_heldTo (f_X2_mostOf 0) w11.1))] [.int (f_X2_mostOf p4)] w12
    refine xb A [(.aload_n 0, 1, 0, 0, .null), (.getfield 17, 3, 46, 0, .ref 3)] (pc' := 199) (ls' := [some (.ref 46), some (.ref 48), some (.int p2), some (.int p3), some (.int p4), some (.int (f_X1_heldTo (f_X2_mostOf 0) w11.1))]) (st' := [.ref 3, .int (f_X2_mostOf p4)]) (g' := w12) (by decide +kernel) rfl ?_
    refine xcallV A (ix := 74) (nxt := 202) hrm hz [] [.int (f_X2_mostOf p4)] 983 (c_X4_laws_3 hS) ok_X4_laws (by decide +kernel) rfl (fun r g1 hq => ?_)
    rw [hq.1, hq.2]
    show xW k S 0 0 202 [some (.ref 46), some (.ref 48), some (.int p2), some (.int p3), some (.int p4), some (.int (f_X1_heldTo (f_X2_mostOf 0) w11.1))] [.ref 12, .int (f_X2_mostOf p4)] w12
    refine xb A [(.iload 4, 2, 0, 0, .null), (.aload_n 0, 1, 0, 0, .null), (.getfield 11, 3, 46, 2, .ref 47)] (pc' := 208) (ls' := [some (.ref 46), some (.ref 48), some (.int p2), some (.int p3), some (.int p4), some (.int (f_X1_heldTo (f_X2_mostOf 0) w11.1))]) (st' := [.ref 47, .int p4, .ref 12, .int (f_X2_mostOf p4)]) (g' := w12) (by decide +kernel) rfl ?_
    obtain ⟨w13, e13, H⟩ := xbind H
    refine xcallV A (ix := 78) (nxt := 211) hrm hz [.int p4, .ref 47] [.int (f_X2_mostOf p4)] 984 (c_X2_answer_12_47 hS _ e13) ok_X2_answer (by decide +kernel) rfl (fun r g1 hq => ?_)
    rw [hq.1, hq.2]
    show xW k S 0 0 211 [some (.ref 46), some (.ref 48), some (.int p2), some (.int p3), some (.int p4), some (.int (f_X1_heldTo (f_X2_mostOf 0) w11.1))] [.int w13.1, .int (f_X2_mostOf p4)] w13.2
    refine xcallS A (ix := 82) (nxt := 214) hrm hz [.int (f_X2_mostOf p4), .int w13.1] [] 992 (c_X1_heldTo hS _ rfl) ok_X1_heldTo (by decide +kernel) rfl (fun r g1 hq => ?_)
    rw [hq.1, hq.2]
    show xW k S 0 0 214 [some (.ref 46), some (.ref 48), some (.int p2), some (.int p3), some (.int p4), some (.int (f_X1_heldTo (f_X2_mostOf 0) w11.1))] [.int (f_X1_heldTo (f_X2_mostOf p4) w13.1)] w13.2
    obtain rfl := Option.some.inj H
    exact xret_i A hR hz (by decide +kernel) rfl ⟨rfl, rfl⟩
  · rw [if_pos h1] at H
    refine xb A [(.iload 5, 2, 0, 0, .null)] (pc' := 178) (ls' := [some (.ref 46), some (.ref 48), some (.int p2), some (.int p3), some (.int p4), some (.int (f_X1_heldTo (f_X2_mostOf 0) w11.1))]) (st' := [.int (f_X1_heldTo (f_X2_mostOf 0) w11.1)]) (g' := w11.2) (by decide +kernel) rfl ?_
    obtain rfl := Option.some.inj H
    exact xret_i A hR hz (by decide +kernel) rfl ⟨rfl, rfl⟩
theorem fr_X1_lawFrom_46_48 {p2 : Int32} {p3 : Int32} {p4 : Int32} {g : xG} (out : Int32 × xG) (H : f_X1_lawFrom_46_48 p2 p3 p4 g = some out) : xfrm fp_X1_lawFrom_46_48 g (out.2) := by
  have H : (xl (xput g 47 9 0 (f_X10_between_40 p3 (f_X4_capital_3 g) g)) fun w1 =>
xl (xput w1 47 9 1 (f_X6_of_48 p2 17 w1)) fun w2 =>
xl (xput w2 47 9 2 (f_X4_honestyOf_3 p2 w2)) fun w3 =>
xl (xput w3 47 9 3 (f_X6_of_48 p2 23 w3)) fun w4 =>
xl (xput w4 47 9 4 (f_X6_get_48 0 w4)) fun w5 =>
xl (xput w5 47 9 5 p2) fun w6 =>
xl (xput w6 47 9 6 0) fun w7 =>
(f_X6_peopleIn_48 (f_X4_capital_3 w7) (f_X4_people_3 w7) w7).bind fun w8 =>
xl (xput w7 47 9 7 (f_J6_bitCount_0f7a4 w8)) fun w9 =>
xl (xput w9 47 9 8 (f_X6_of_48 p2 29 w9)) fun w10 =>
(f_X2_answer_12_47 0 w10).bind fun w11 =>
if p4 = 0 then
  some (f_X1_heldTo (f_X2_mostOf 0) w11.1, w11.2)
else
  xl (xput w11.2 47 9 6 (f_X1_heldTo (f_X2_mostOf 0) w11.1)) fun w12 =>
  (f_X2_answer_12_47 p4 w12).bind fun w13 =>
  some (f_X1_heldTo (f_X2_mostOf p4) w13.1, w13.2)) = some out := H
  obtain ⟨w1, e1, H⟩ := xl_elim H
  have hf1 : xfrm fp_X1_lawFrom_46_48 g (w1) := xfrm_xput xfrm.rf rfl e1
  obtain ⟨w2, e2, H⟩ := xl_elim H
  have hf2 : xfrm fp_X1_lawFrom_46_48 g (w2) := xfrm_xput hf1 rfl e2
  obtain ⟨w3, e3, H⟩ := xl_elim H
  have hf3 : xfrm fp_X1_lawFrom_46_48 g (w3) := xfrm_xput hf2 rfl e3
  obtain ⟨w4, e4, H⟩ := xl_elim H
  have hf4 : xfrm fp_X1_lawFrom_46_48 g (w4) := xfrm_xput hf3 rfl e4
  obtain ⟨w5, e5, H⟩ := xl_elim H
  have hf5 : xfrm fp_X1_lawFrom_46_48 g (w5) := xfrm_xput hf4 rfl e5
  obtain ⟨w6, e6, H⟩ := xl_elim H
  have hf6 : xfrm fp_X1_lawFrom_46_48 g (w6) := xfrm_xput hf5 rfl e6
  obtain ⟨w7, e7, H⟩ := xl_elim H
  have hf7 : xfrm fp_X1_lawFrom_46_48 g (w7) := xfrm_xput hf6 rfl e7
  obtain ⟨w8, e8, H⟩ := xbind H
  obtain ⟨w9, e9, H⟩ := xl_elim H
  have hf8 : xfrm fp_X1_lawFrom_46_48 g (w9) := xfrm_xput hf7 rfl e9
  obtain ⟨w10, e10, H⟩ := xl_elim H
  have hf9 : xfrm fp_X1_lawFrom_46_48 g (w10) := xfrm_xput hf8 rfl e10
  obtain ⟨w11, e11, H⟩ := xbind H
  have hf10 : xfrm fp_X1_lawFrom_46_48 g (w11.2) := xfrm.tr hf9 (fr_X2_answer_12_47 _ e11) rfl
  by_cases h1 : p4 = 0
  · rw [if_pos h1] at H
    obtain rfl := Option.some.inj H
    exact hf10
  · rw [if_neg h1] at H
    obtain ⟨w12, e12, H⟩ := xl_elim H
    have hf11 : xfrm fp_X1_lawFrom_46_48 g (w12) := xfrm_xput hf10 rfl e12
    obtain ⟨w13, e13, H⟩ := xbind H
    have hf12 : xfrm fp_X1_lawFrom_46_48 g (w13.2) := xfrm.tr hf11 (fr_X2_answer_12_47 _ e13) rfl
    obtain rfl := Option.some.inj H
    exact hf12
def fp_X1_lawNow_46_48 : List (Nat × Option Nat) := [(16, none), (47, none)]
def f_X1_lawNow_46_48 (p2 : Int32) (p3 : Int32) (g : xG) : Option (Int32 × xG) :=
  (f_X1_lawFrom_46_48 p2 (f_X4_homeOf_3 p2 g) p3 g).bind fun w1 =>
  some (w1.1, w1.2)
set_option maxRecDepth 20000 in
theorem c_X1_lawNow_46_48 {S : List xSh} (hS : xpf SH1 S) {g : xG} {p2 : Int32} {p3 : Int32} (out : Int32 × xG) (H : f_X1_lawNow_46_48 p2 p3 g = some out) : xC mX1_lawNow 3 76 0 0 S [.ref 46, .ref 48, .int p2, .int p3] g S (fun r g' => r = some (.int out.1) ∧ g' = out.2) := by
  have H : ((f_X1_lawFrom_46_48 p2 (f_X4_homeOf_3 p2 g) p3 g).bind fun w1 =>
some (w1.1, w1.2)) = some out := H
  refine xC.of 1 SH1 [some (.ref 46), some (.ref 48), some (.int p2), some (.int p3)] hS (by decide +kernel) rfl (fun _ _ => Nat.le_of_ble_eq_true rfl) (fun _ _ => rfl) ?_
  intro k A hR hrm hz
  refine xb A [(.aload_n 0, 1, 0, 0, .null), (.aload_n 1, 1, 0, 0, .null), (.iload_n 2, 1, 0, 0, .null), (.aload_n 0, 1, 0, 0, .null), (.getfield 17, 3, 46, 0, .ref 3), (.iload_n 2, 1, 0, 0, .null)] (pc' := 8) (ls' := [some (.ref 46), some (.ref 48), some (.int p2), some (.int p3)]) (st' := [.int p2, .ref 3, .int p2, .ref 48, .ref 46]) (g' := g) (by decide +kernel) rfl ?_
  refine xcallV A (ix := 25) (nxt := 11) hrm hz [.int p2] [.int p2, .ref 48, .ref 46] 957 (c_X4_homeOf_3 hS _ rfl) ok_X4_homeOf (by decide +kernel) rfl (fun r g1 hq => ?_)
  rw [hq.1, hq.2]
  show xW k S 0 0 11 [some (.ref 46), some (.ref 48), some (.int p2), some (.int p3)] [.int (f_X4_homeOf_3 p2 g), .int p2, .ref 48, .ref 46] g
  refine xb A [(.iload_n 3, 1, 0, 0, .null)] (pc' := 12) (ls' := [some (.ref 46), some (.ref 48), some (.int p2), some (.int p3)]) (st' := [.int p3, .int (f_X4_homeOf_3 p2 g), .int p2, .ref 48, .ref 46]) (g' := g) (by decide +kernel) rfl ?_
  obtain ⟨w1, e1, H⟩ := xbind H
  refine xcallV A (ix := 41) (nxt := 15) hrm hz [.ref 48, .int p2, .int (f_X4_homeOf_3 p2 g), .int p3] [] 964 (c_X1_lawFrom_46_48 hS _ e1) ok_X1_lawFrom (by decide +kernel) rfl (fun r g1 hq => ?_)
  rw [hq.1, hq.2]
  show xW k S 0 0 15 [some (.ref 46), some (.ref 48), some (.int p2), some (.int p3)] [.int w1.1] w1.2
  obtain rfl := Option.some.inj H
  exact xret_i A hR hz (by decide +kernel) rfl ⟨rfl, rfl⟩
theorem fr_X1_lawNow_46_48 {p2 : Int32} {p3 : Int32} {g : xG} (out : Int32 × xG) (H : f_X1_lawNow_46_48 p2 p3 g = some out) : xfrm fp_X1_lawNow_46_48 g (out.2) := by
  have H : ((f_X1_lawFrom_46_48 p2 (f_X4_homeOf_3 p2 g) p3 g).bind fun w1 =>
some (w1.1, w1.2)) = some out := H
  obtain ⟨w1, e1, H⟩ := xbind H
  have hf1 : xfrm fp_X1_lawNow_46_48 g (w1.2) := xfrm.tr xfrm.rf (fr_X1_lawFrom_46_48 _ e1) rfl
  obtain rfl := Option.some.inj H
  exact hf1
def fp_X1_ringerOf_46_48 : List (Nat × Option Nat) := [(16, none), (47, none)]
def f_X1_ringerOf_46_48_8  : Nat → Int32 → Int32 → Int32 → xG → Option (Int32 × xG)
  | 0, _, _, _, _ => none
  | n + 1, l2, l3, l4, g =>
    if (f_X4_people_3 g) ≤ l4 then
      some (l2, g)
    else
      if (f_X1_mayRing_46_48 l4 g) = 0 then
        f_X1_ringerOf_46_48_8 n l2 l3 (l4 + 1) g
      else
        (f_X1_lawNow_46_48 l4 0 g).bind fun w1 =>
        if l2 < 0 then
          f_X1_ringerOf_46_48_8 n l4 w1.1 (l4 + 1) w1.2
        else
          if w1.1 ≤ l3 then
            f_X1_ringerOf_46_48_8 n l2 l3 (l4 + 1) w1.2
          else
            f_X1_ringerOf_46_48_8 n l4 w1.1 (l4 + 1) w1.2
def f_X1_ringerOf_46_48  (g : xG) : Option (Int32 × xG) :=
  f_X1_ringerOf_46_48_8 xN (-2) 0 0 g
set_option maxRecDepth 20000 in
theorem t_X1_ringerOf_46_48_8 {k : xK} {S : List xSh} {out : Int32 × xG} (hS : xpf SH1 S) (A : xAt k mX1_ringerOf.2.1 1 SH1 S) (hR : xRet k 0 0 S (fun r g' => r = some (.int out.1) ∧ g' = out.2) mX1_ringerOf.2.2.2) (hrm : xrm k = { frames := 4, cells := 0, slots := 0, locals := 99 }) (hz : xhs k = xb0 k + S.length)   : ∀ (n : Nat) (l2 : Int32) (l3 : Int32) (l4 : Int32) (g : xG), f_X1_ringerOf_46_48_8 n l2 l3 l4 g = some out → xW k S 0 0 8 [some (.ref 46), some (.ref 48), some (.int l2), some (.int l3), some (.int l4), none] [] g := by
  intro n
  induction n with
  | zero => intro l2 l3 l4 g H; exact absurd H (by simp [f_X1_ringerOf_46_48_8])
  | succ n ih =>
    intro l2 l3 l4 g H
    have H : (if (f_X4_people_3 g) ≤ l4 then
  some (l2, g)
else
  if (f_X1_mayRing_46_48 l4 g) = 0 then
    f_X1_ringerOf_46_48_8 n l2 l3 (l4 + 1) g
  else
    (f_X1_lawNow_46_48 l4 0 g).bind fun w1 =>
    if l2 < 0 then
      f_X1_ringerOf_46_48_8 n l4 w1.1 (l4 + 1) w1.2
    else
      if w1.1 ≤ l3 then
        f_X1_ringerOf_46_48_8 n l2 l3 (l4 + 1) w1.2
      else
        f_X1_ringerOf_46_48_8 n l4 w1.1 (l4 + 1) w1.2) = some out := H
    refine xb A [(.iload 4, 2, 0, 0, .null), (.aload_n 0, 1, 0, 0, .null), (.getfield 17, 3, 46, 0, .ref 3)] (pc' := 14) (ls' := [some (.ref 46), some (.ref 48), some (.int l2), some (.int l3), some (.int l4), none]) (st' := [.ref 3, .int l4]) (g' := g) (by decide +kernel) rfl ?_
    refine xcallV A (ix := 60) (nxt := 17) hrm hz [] [.int l4] 972 (c_X4_people_3 hS _ rfl) ok_X4_people (by decide +kernel) rfl (fun r g1 hq => ?_)
    rw [hq.1, hq.2]
    show xW k S 0 0 17 [some (.ref 46), some (.ref 48), some (.int l2), some (.int l3), some (.int l4), none] [.int (f_X4_people_3 g), .int l4] g
    refine xic_ge A (45) 62 20 (by decide +kernel) (fun h1 => ?_) (fun h1 => ?_)
    · rw [if_pos h1] at H
      refine xb A [(.iload_n 2, 1, 0, 0, .null)] (pc' := 63) (ls' := [some (.ref 46), some (.ref 48), some (.int l2), some (.int l3), some (.int l4), none]) (st' := [.int l2]) (g' := g) (by decide +kernel) rfl ?_
      obtain rfl := Option.some.inj H
      exact xret_i A hR hz (by decide +kernel) rfl ⟨rfl, rfl⟩
    · rw [if_neg h1] at H
      refine xb A [(.aload_n 0, 1, 0, 0, .null), (.aload_n 1, 1, 0, 0, .null), (.iload 4, 2, 0, 0, .null)] (pc' := 24) (ls' := [some (.ref 46), some (.ref 48), some (.int l2), some (.int l3), some (.int l4), none]) (st' := [.int l4, .ref 48, .ref 46]) (g' := g) (by decide +kernel) rfl ?_
      refine xcallV A (ix := 96) (nxt := 27) hrm hz [.ref 48, .int l4] [] 1042 (c_X1_mayRing_46_48 hS _ rfl) ok_X1_mayRing (by decide +kernel) rfl (fun r g1 hq => ?_)
      rw [hq.1, hq.2]
      show xW k S 0 0 27 [some (.ref 46), some (.ref 48), some (.int l2), some (.int l3), some (.int l4), none] [.int (f_X1_mayRing_46_48 l4 g)] g
      refine xif_eq A (29) 56 30 (by decide +kernel) (fun h2 => ?_) (fun h2 => ?_)
      · rw [if_pos h2] at H
        refine xb A [(.iinc 4 1, 3, 0, 0, .null)] (pc' := 59) (ls' := [some (.ref 46), some (.ref 48), some (.int l2), some (.int l3), some (.int (l4 + 1)), none]) (st' := []) (g' := g) (by decide +kernel) rfl ?_
        refine xgoto A (-51) 8 (by decide +kernel) ?_
        exact ih _ _ _ _ H
      · rw [if_neg h2] at H
        refine xb A [(.aload_n 0, 1, 0, 0, .null), (.aload_n 1, 1, 0, 0, .null), (.iload 4, 2, 0, 0, .null), (.iconst 0, 1, 0, 0, .int 0)] (pc' := 35) (ls' := [some (.ref 46), some (.ref 48), some (.int l2), some (.int l3), some (.int l4), none]) (st' := [.int 0, .int l4, .ref 48, .ref 46]) (g' := g) (by decide +kernel) rfl ?_
        obtain ⟨w1, e1, H⟩ := xbind H
        refine xcallV A (ix := 100) (nxt := 38) hrm hz [.ref 48, .int l4, .int 0] [] 1047 (c_X1_lawNow_46_48 hS _ e1) ok_X1_lawNow (by decide +kernel) rfl (fun r g1 hq => ?_)
        rw [hq.1, hq.2]
        show xW k S 0 0 38 [some (.ref 46), some (.ref 48), some (.int l2), some (.int l3), some (.int l4), none] [.int w1.1] w1.2
        refine xb A [(.istore 5, 2, 0, 0, .null), (.iload_n 2, 1, 0, 0, .null)] (pc' := 41) (ls' := [some (.ref 46), some (.ref 48), some (.int l2), some (.int l3), some (.int l4), some (.int w1.1)]) (st' := [.int l2]) (g' := w1.2) (by decide +kernel) rfl ?_
        refine xif_lt A (9) 50 44 (by decide +kernel) (fun h3 => ?_) (fun h3 => ?_)
        · rw [if_pos h3] at H
          refine xb A [(.iload 4, 2, 0, 0, .null), (.istore_n 2, 1, 0, 0, .null), (.iload 5, 2, 0, 0, .null), (.istore_n 3, 1, 0, 0, .null), (.iinc 4 1, 3, 0, 0, .null)] (pc' := 59) (ls' := [some (.ref 46), some (.ref 48), some (.int l4), some (.int w1.1), some (.int (l4 + 1)), some (.int w1.1)]) (st' := []) (g' := w1.2) (by decide +kernel) rfl ?_
          refine xgoto A (-51) 8 (by decide +kernel) ?_
          refine xweak (ls' := [some (.ref 46), some (.ref 48), some (.int l4), some (.int w1.1), some (.int (l4 + 1)), none]) (by exact ⟨rfl, ⟨rfl, ⟨rfl, ⟨rfl, ⟨rfl, trivial⟩⟩⟩⟩⟩) ?_
          exact ih _ _ _ _ H
        · rw [if_neg h3] at H
          refine xb A [(.iload 5, 2, 0, 0, .null), (.iload_n 3, 1, 0, 0, .null)] (pc' := 47) (ls' := [some (.ref 46), some (.ref 48), some (.int l2), some (.int l3), some (.int l4), some (.int w1.1)]) (st' := [.int l3, .int w1.1]) (g' := w1.2) (by decide +kernel) rfl ?_
          refine xic_le A (9) 56 50 (by decide +kernel) (fun h4 => ?_) (fun h4 => ?_)
          · rw [if_pos h4] at H
            refine xb A [(.iinc 4 1, 3, 0, 0, .null)] (pc' := 59) (ls' := [some (.ref 46), some (.ref 48), some (.int l2), some (.int l3), some (.int (l4 + 1)), some (.int w1.1)]) (st' := []) (g' := w1.2) (by decide +kernel) rfl ?_
            refine xgoto A (-51) 8 (by decide +kernel) ?_
            refine xweak (ls' := [some (.ref 46), some (.ref 48), some (.int l2), some (.int l3), some (.int (l4 + 1)), none]) (by exact ⟨rfl, ⟨rfl, ⟨rfl, ⟨rfl, ⟨rfl, trivial⟩⟩⟩⟩⟩) ?_
            exact ih _ _ _ _ H
          · rw [if_neg h4] at H
            refine xb A [(.iload 4, 2, 0, 0, .null), (.istore_n 2, 1, 0, 0, .null), (.iload 5, 2, 0, 0, .null), (.istore_n 3, 1, 0, 0, .null), (.iinc 4 1, 3, 0, 0, .null)] (pc' := 59) (ls' := [some (.ref 46), some (.ref 48), some (.int l4), some (.int w1.1), some (.int (l4 + 1)), some (.int w1.1)]) (st' := []) (g' := w1.2) (by decide +kernel) rfl ?_
            refine xgoto A (-51) 8 (by decide +kernel) ?_
            refine xweak (ls' := [some (.ref 46), some (.ref 48), some (.int l4), some (.int w1.1), some (.int (l4 + 1)), none]) (by exact ⟨rfl, ⟨rfl, ⟨rfl, ⟨rfl, ⟨rfl, trivial⟩⟩⟩⟩⟩) ?_
            exact ih _ _ _ _ H
theorem fr_X1_ringerOf_46_48_8   : ∀ (n : Nat) (l2 : Int32) (l3 : Int32) (l4 : Int32) (g : xG) (out : Int32 × xG), f_X1_ringerOf_46_48_8 n l2 l3 l4 g = some out → xfrm fp_X1_ringerOf_46_48 g (out.2) := by
  intro n
  induction n with
  | zero => intro l2 l3 l4 g out H; exact absurd H (by simp [f_X1_ringerOf_46_48_8])
  | succ n ih =>
    intro l2 l3 l4 g out H
    have H : (if (f_X4_people_3 g) ≤ l4 then
  some (l2, g)
else
  if (f_X1_mayRing_46_48 l4 g) = 0 then
    f_X1_ringerOf_46_48_8 n l2 l3 (l4 + 1) g
  else
    (f_X1_lawNow_46_48 l4 0 g).bind fun w1 =>
    if l2 < 0 then
      f_X1_ringerOf_46_48_8 n l4 w1.1 (l4 + 1) w1.2
    else
      if w1.1 ≤ l3 then
        f_X1_ringerOf_46_48_8 n l2 l3 (l4 + 1) w1.2
      else
        f_X1_ringerOf_46_48_8 n l4 w1.1 (l4 + 1) w1.2) = some out := H
    by_cases h1 : (f_X4_people_3 g) ≤ l4
    · rw [if_pos h1] at H
      obtain rfl := Option.some.inj H
      exact xfrm.rf
    · rw [if_neg h1] at H
      by_cases h2 : (f_X1_mayRing_46_48 l4 g) = 0
      · rw [if_pos h2] at H
        exact xfrm.tr xfrm.rf (ih _ _ _ _ _ H) rfl
      · rw [if_neg h2] at H
        obtain ⟨w1, e1, H⟩ := xbind H
        have hf1 : xfrm fp_X1_ringerOf_46_48 g (w1.2) := xfrm.tr xfrm.rf (fr_X1_lawNow_46_48 _ e1) rfl
        by_cases h3 : l2 < 0
        · rw [if_pos h3] at H
          exact xfrm.tr hf1 (ih _ _ _ _ _ H) rfl
        · rw [if_neg h3] at H
          by_cases h4 : w1.1 ≤ l3
          · rw [if_pos h4] at H
            exact xfrm.tr hf1 (ih _ _ _ _ _ H) rfl
          · rw [if_neg h4] at H
            exact xfrm.tr hf1 (ih _ _ _ _ _ H) rfl
set_option maxRecDepth 20000 in
theorem c_X1_ringerOf_46_48 {S : List xSh} (hS : xpf SH1 S) {g : xG}  (out : Int32 × xG) (H : f_X1_ringerOf_46_48  g = some out) : xC mX1_ringerOf 4 99 0 0 S [.ref 46, .ref 48] g S (fun r g' => r = some (.int out.1) ∧ g' = out.2) := by
  have H : (f_X1_ringerOf_46_48_8 xN (-2) 0 0 g) = some out := H
  refine xC.of 1 SH1 [some (.ref 46), some (.ref 48), none, none, none, none] hS (by decide +kernel) rfl (fun _ _ => Nat.le_of_ble_eq_true rfl) (fun _ _ => rfl) ?_
  intro k A hR hrm hz
  refine xb A [(.bipush (-2), 2, 0, 0, .int (-2)), (.istore_n 2, 1, 0, 0, .null), (.iconst 0, 1, 0, 0, .int 0), (.istore_n 3, 1, 0, 0, .null), (.iconst 0, 1, 0, 0, .int 0), (.istore 4, 2, 0, 0, .null)] (pc' := 8) (ls' := [some (.ref 46), some (.ref 48), some (.int (-2)), some (.int 0), some (.int 0), none]) (st' := []) (g' := g) (by decide +kernel) rfl ?_
  exact t_X1_ringerOf_46_48_8 hS A hR hrm hz _ _ _ _ _ H
theorem fr_X1_ringerOf_46_48  {g : xG} (out : Int32 × xG) (H : f_X1_ringerOf_46_48  g = some out) : xfrm fp_X1_ringerOf_46_48 g (out.2) := by
  have H : (f_X1_ringerOf_46_48_8 xN (-2) 0 0 g) = some out := H
  exact xfrm.tr xfrm.rf (fr_X1_ringerOf_46_48_8 _ _ _ _ _ _ H) rfl
def fp_X11_ringerWithout_0 : List (Nat × Option Nat) := [(16, none), (40, some 2), (41, none), (47, none)]
def f_X11_ringerWithout_0 (p1 : Int32) (g : xG) : Option (Int32 × xG) :=
  (f_X10_measure_40 ((f_X6_get_48 4 g) ||| (f_X11_bit p1)) g).bind fun w1 =>
  (f_X1_ringerOf_46_48 w1).bind fun w2 =>
  some (w2.1, w2.2)
set_option maxRecDepth 20000 in
theorem c_X11_ringerWithout_0 {S : List xSh} (hS : xpf SH1 S) {g : xG} {p1 : Int32} (out : Int32 × xG) (H : f_X11_ringerWithout_0 p1 g = some out) : xC mX11_ringerWithout 5 124 0 0 S [.ref 0, .int p1] g S (fun r g' => r = some (.int out.1) ∧ g' = out.2) := by
  have H : ((f_X10_measure_40 ((f_X6_get_48 4 g) ||| (f_X11_bit p1)) g).bind fun w1 =>
(f_X1_ringerOf_46_48 w1).bind fun w2 =>
some (w2.1, w2.2)) = some out := H
  refine xC.of 11 SH1 [some (.ref 0), some (.int p1)] hS (by decide +kernel) rfl (fun _ _ => Nat.le_of_ble_eq_true rfl) (fun _ _ => rfl) ?_
  intro k A hR hrm hz
  refine xb A [(.aload_n 0, 1, 0, 0, .null), (.getfield 41, 3, 0, 4, .ref 40), (.aload_n 0, 1, 0, 0, .null), (.getfield 66, 3, 0, 8, .ref 48), (.iconst 4, 1, 0, 0, .int 4)] (pc' := 9) (ls' := [some (.ref 0), some (.int p1)]) (st' := [.int 4, .ref 48, .ref 40]) (g' := g) (by decide +kernel) rfl ?_
  refine xcallV A (ix := 135) (nxt := 12) hrm hz [.int 4] [.ref 40] 489 (c_X6_get_48 hS _ rfl) ok_X6_get (by decide +kernel) rfl (fun r g1 hq => ?_)
  rw [hq.1, hq.2]
  show xW k S 0 0 12 [some (.ref 0), some (.int p1)] [.int (f_X6_get_48 4 g), .ref 40] g
  refine xb A [(.iload_n 1, 1, 0, 0, .null)] (pc' := 13) (ls' := [some (.ref 0), some (.int p1)]) (st' := [.int p1, .int (f_X6_get_48 4 g), .ref 40]) (g' := g) (by decide +kernel) rfl ?_
  refine xcallS A (ix := 214) (nxt := 16) hrm hz [.int p1] [.int (f_X6_get_48 4 g), .ref 40] 1017 (c_X11_bit hS _ rfl) ok_X11_bit (by decide +kernel) rfl (fun r g1 hq => ?_)
  rw [hq.1, hq.2]
  show xW k S 0 0 16 [some (.ref 0), some (.int p1)] [.int (f_X11_bit p1), .int (f_X6_get_48 4 g), .ref 40] g
  refine xb A [(.ior, 1, 0, 0, .null)] (pc' := 17) (ls' := [some (.ref 0), some (.int p1)]) (st' := [.int ((f_X6_get_48 4 g) ||| (f_X11_bit p1)), .ref 40]) (g' := g) (by decide +kernel) rfl ?_
  obtain ⟨w1, e1, H⟩ := xbind H
  refine xcallV A (ix := 139) (nxt := 20) hrm hz [.int ((f_X6_get_48 4 g) ||| (f_X11_bit p1))] [] 494 (c_X10_measure_40 hS _ e1) ok_X10_measure (by decide +kernel) rfl (fun r g1 hq => ?_)
  rw [hq.1, hq.2]
  show xW k S 0 0 20 [some (.ref 0), some (.int p1)] [] w1
  refine xb A [(.aload_n 0, 1, 0, 0, .null), (.getfield 60, 3, 0, 7, .ref 46), (.aload_n 0, 1, 0, 0, .null), (.getfield 66, 3, 0, 8, .ref 48)] (pc' := 28) (ls' := [some (.ref 0), some (.int p1)]) (st' := [.ref 48, .ref 46]) (g' := w1) (by decide +kernel) rfl ?_
  obtain ⟨w2, e2, H⟩ := xbind H
  refine xcallV A (ix := 246) (nxt := 31) hrm hz [.ref 48] [] 1097 (c_X1_ringerOf_46_48 hS _ e2) ok_X1_ringerOf (by decide +kernel) rfl (fun r g1 hq => ?_)
  rw [hq.1, hq.2]
  show xW k S 0 0 31 [some (.ref 0), some (.int p1)] [.int w2.1] w2.2
  obtain rfl := Option.some.inj H
  exact xret_i A hR hz (by decide +kernel) rfl ⟨rfl, rfl⟩
theorem fr_X11_ringerWithout_0 {p1 : Int32} {g : xG} (out : Int32 × xG) (H : f_X11_ringerWithout_0 p1 g = some out) : xfrm fp_X11_ringerWithout_0 g (out.2) := by
  have H : ((f_X10_measure_40 ((f_X6_get_48 4 g) ||| (f_X11_bit p1)) g).bind fun w1 =>
(f_X1_ringerOf_46_48 w1).bind fun w2 =>
some (w2.1, w2.2)) = some out := H
  obtain ⟨w1, e1, H⟩ := xbind H
  have hf1 : xfrm fp_X11_ringerWithout_0 g (w1) := xfrm.tr xfrm.rf (fr_X10_measure_40 _ e1) rfl
  obtain ⟨w2, e2, H⟩ := xbind H
  have hf2 : xfrm fp_X11_ringerWithout_0 g (w2.2) := xfrm.tr hf1 (fr_X1_ringerOf_46_48 _ e2) rfl
  obtain rfl := Option.some.inj H
  exact hf2
def fp_X11_turns_0 : List (Nat × Option Nat) := [(16, none), (40, some 2), (41, none), (45, none), (47, none)]
def f_X11_turns_0_16  : Nat → Int32 → Int32 → Int32 → xG → Option (Int32 × xG)
  | 0, _, _, _, _ => none
  | n + 1, l1, l2, l3, g =>
    if (f_X4_roads_3 g) ≤ l3 then
      some (l2, g)
    else
      if (f_X10_isOpen_38 l3 g) = 0 then
        f_X11_turns_0_16 n l1 l2 (l3 + 1) g
      else
        (f_X11_ringerWithout_0 l3 g).bind fun w2 =>
        if w2.1 = l1 then
          f_X11_turns_0_16 n l1 l2 (l3 + 1) w2.2
        else
          f_X11_turns_0_16 n l1 (l2 ||| (f_X11_bit l3)) (l3 + 1) w2.2
def f_X11_turns_0  (g : xG) : Option (Int32 × xG) :=
  (f_X1_ringerOf_44_48 g).bind fun w1 =>
  f_X11_turns_0_16 xN w1.1 0 0 w1.2
set_option maxRecDepth 20000 in
theorem t_X11_turns_0_16 {k : xK} {S : List xSh} {out : Int32 × xG} (hS : xpf SH1 S) (A : xAt k mX11_turns.2.1 11 SH1 S) (hR : xRet k 0 0 S (fun r g' => r = some (.int out.1) ∧ g' = out.2) mX11_turns.2.2.2) (hrm : xrm k = { frames := 6, cells := 0, slots := 0, locals := 145 }) (hz : xhs k = xb0 k + S.length)   : ∀ (n : Nat) (l1 : Int32) (l2 : Int32) (l3 : Int32) (g : xG), f_X11_turns_0_16 n l1 l2 l3 g = some out → xW k S 0 0 16 [some (.ref 0), some (.int l1), some (.int l2), some (.int l3)] [] g := by
  intro n
  induction n with
  | zero => intro l1 l2 l3 g H; exact absurd H (by simp [f_X11_turns_0_16])
  | succ n ih =>
    intro l1 l2 l3 g H
    have H : (if (f_X4_roads_3 g) ≤ l3 then
  some (l2, g)
else
  if (f_X10_isOpen_38 l3 g) = 0 then
    f_X11_turns_0_16 n l1 l2 (l3 + 1) g
  else
    (f_X11_ringerWithout_0 l3 g).bind fun w2 =>
    if w2.1 = l1 then
      f_X11_turns_0_16 n l1 l2 (l3 + 1) w2.2
    else
      f_X11_turns_0_16 n l1 (l2 ||| (f_X11_bit l3)) (l3 + 1) w2.2) = some out := H
    refine xb A [(.iload_n 3, 1, 0, 0, .null), (.aload_n 0, 1, 0, 0, .null), (.getfield 19, 3, 0, 1, .ref 3)] (pc' := 21) (ls' := [some (.ref 0), some (.int l1), some (.int l2), some (.int l3)]) (st' := [.ref 3, .int l3]) (g' := g) (by decide +kernel) rfl ?_
    refine xcallV A (ix := 260) (nxt := 24) hrm hz [] [.int l3] 1136 (c_X4_roads_3 hS _ rfl) ok_X4_roads (by decide +kernel) rfl (fun r g1 hq => ?_)
    rw [hq.1, hq.2]
    show xW k S 0 0 24 [some (.ref 0), some (.int l1), some (.int l2), some (.int l3)] [.int (f_X4_roads_3 g), .int l3] g
    refine xic_ge A (36) 60 27 (by decide +kernel) (fun h1 => ?_) (fun h1 => ?_)
    · rw [if_pos h1] at H
      refine xb A [(.iload_n 2, 1, 0, 0, .null)] (pc' := 61) (ls' := [some (.ref 0), some (.int l1), some (.int l2), some (.int l3)]) (st' := [.int l2]) (g' := g) (by decide +kernel) rfl ?_
      obtain rfl := Option.some.inj H
      exact xret_i A hR hz (by decide +kernel) rfl ⟨rfl, rfl⟩
    · rw [if_neg h1] at H
      refine xb A [(.aload_n 0, 1, 0, 0, .null), (.getfield 37, 3, 0, 3, .ref 38), (.iload_n 3, 1, 0, 0, .null)] (pc' := 32) (ls' := [some (.ref 0), some (.int l1), some (.int l2), some (.int l3)]) (st' := [.int l3, .ref 38]) (g' := g) (by decide +kernel) rfl ?_
      refine xcallV A (ix := 180) (nxt := 35) hrm hz [.int l3] [] 927 (c_X10_isOpen_38 hS _ rfl) ok_X10_isOpen (by decide +kernel) rfl (fun r g1 hq => ?_)
      rw [hq.1, hq.2]
      show xW k S 0 0 35 [some (.ref 0), some (.int l1), some (.int l2), some (.int l3)] [.int (f_X10_isOpen_38 l3 g)] g
      refine xif_eq A (19) 54 38 (by decide +kernel) (fun h2 => ?_) (fun h2 => ?_)
      · rw [if_pos h2] at H
        refine xb A [(.iinc 3 1, 3, 0, 0, .null)] (pc' := 57) (ls' := [some (.ref 0), some (.int l1), some (.int l2), some (.int (l3 + 1))]) (st' := []) (g' := g) (by decide +kernel) rfl ?_
        refine xgoto A (-41) 16 (by decide +kernel) ?_
        exact ih _ _ _ _ H
      · rw [if_neg h2] at H
        refine xb A [(.aload_n 0, 1, 0, 0, .null), (.iload_n 3, 1, 0, 0, .null)] (pc' := 40) (ls' := [some (.ref 0), some (.int l1), some (.int l2), some (.int l3)]) (st' := [.int l3, .ref 0]) (g' := g) (by decide +kernel) rfl ?_
        obtain ⟨w2, e2, H⟩ := xbind H
        refine xcallV A (ix := 263) (nxt := 43) hrm hz [.int l3] [] 1137 (c_X11_ringerWithout_0 hS _ e2) ok_X11_ringerWithout (by decide +kernel) rfl (fun r g1 hq => ?_)
        rw [hq.1, hq.2]
        show xW k S 0 0 43 [some (.ref 0), some (.int l1), some (.int l2), some (.int l3)] [.int w2.1] w2.2
        refine xb A [(.iload_n 1, 1, 0, 0, .null)] (pc' := 44) (ls' := [some (.ref 0), some (.int l1), some (.int l2), some (.int l3)]) (st' := [.int l1, .int w2.1]) (g' := w2.2) (by decide +kernel) rfl ?_
        refine xic_eq A (10) 54 47 (by decide +kernel) (fun h3 => ?_) (fun h3 => ?_)
        · rw [if_pos h3] at H
          refine xb A [(.iinc 3 1, 3, 0, 0, .null)] (pc' := 57) (ls' := [some (.ref 0), some (.int l1), some (.int l2), some (.int (l3 + 1))]) (st' := []) (g' := w2.2) (by decide +kernel) rfl ?_
          refine xgoto A (-41) 16 (by decide +kernel) ?_
          exact ih _ _ _ _ H
        · rw [if_neg h3] at H
          refine xb A [(.iload_n 2, 1, 0, 0, .null), (.iload_n 3, 1, 0, 0, .null)] (pc' := 49) (ls' := [some (.ref 0), some (.int l1), some (.int l2), some (.int l3)]) (st' := [.int l3, .int l2]) (g' := w2.2) (by decide +kernel) rfl ?_
          refine xcallS A (ix := 214) (nxt := 52) hrm hz [.int l3] [.int l2] 1017 (c_X11_bit hS _ rfl) ok_X11_bit (by decide +kernel) rfl (fun r g1 hq => ?_)
          rw [hq.1, hq.2]
          show xW k S 0 0 52 [some (.ref 0), some (.int l1), some (.int l2), some (.int l3)] [.int (f_X11_bit l3), .int l2] w2.2
          refine xb A [(.ior, 1, 0, 0, .null), (.istore_n 2, 1, 0, 0, .null), (.iinc 3 1, 3, 0, 0, .null)] (pc' := 57) (ls' := [some (.ref 0), some (.int l1), some (.int (l2 ||| (f_X11_bit l3))), some (.int (l3 + 1))]) (st' := []) (g' := w2.2) (by decide +kernel) rfl ?_
          refine xgoto A (-41) 16 (by decide +kernel) ?_
          exact ih _ _ _ _ H
theorem fr_X11_turns_0_16   : ∀ (n : Nat) (l1 : Int32) (l2 : Int32) (l3 : Int32) (g : xG) (out : Int32 × xG), f_X11_turns_0_16 n l1 l2 l3 g = some out → xfrm fp_X11_turns_0 g (out.2) := by
  intro n
  induction n with
  | zero => intro l1 l2 l3 g out H; exact absurd H (by simp [f_X11_turns_0_16])
  | succ n ih =>
    intro l1 l2 l3 g out H
    have H : (if (f_X4_roads_3 g) ≤ l3 then
  some (l2, g)
else
  if (f_X10_isOpen_38 l3 g) = 0 then
    f_X11_turns_0_16 n l1 l2 (l3 + 1) g
  else
    (f_X11_ringerWithout_0 l3 g).bind fun w2 =>
    if w2.1 = l1 then
      f_X11_turns_0_16 n l1 l2 (l3 + 1) w2.2
    else
      f_X11_turns_0_16 n l1 (l2 ||| (f_X11_bit l3)) (l3 + 1) w2.2) = some out := H
    by_cases h1 : (f_X4_roads_3 g) ≤ l3
    · rw [if_pos h1] at H
      obtain rfl := Option.some.inj H
      exact xfrm.rf
    · rw [if_neg h1] at H
      by_cases h2 : (f_X10_isOpen_38 l3 g) = 0
      · rw [if_pos h2] at H
        exact xfrm.tr xfrm.rf (ih _ _ _ _ _ H) rfl
      · rw [if_neg h2] at H
        obtain ⟨w2, e2, H⟩ := xbind H
        have hf2 : xfrm fp_X11_turns_0 g (w2.2) := xfrm.tr xfrm.rf (fr_X11_ringerWithout_0 _ e2) rfl
        by_cases h3 : w2.1 = l1
        · rw [if_pos h3] at H
          exact xfrm.tr hf2 (ih _ _ _ _ _ H) rfl
        · rw [if_neg h3] at H
          exact xfrm.tr hf2 (ih _ _ _ _ _ H) rfl
set_option maxRecDepth 20000 in
theorem c_X11_turns_0 {S : List xSh} (hS : xpf SH1 S) {g : xG}  (out : Int32 × xG) (H : f_X11_turns_0  g = some out) : xC mX11_turns 6 145 0 0 S [.ref 0] g S (fun r g' => r = some (.int out.1) ∧ g' = out.2) := by
  have H : ((f_X1_ringerOf_44_48 g).bind fun w1 =>
f_X11_turns_0_16 xN w1.1 0 0 w1.2) = some out := H
  refine xC.of 11 SH1 [some (.ref 0), none, none, none] hS (by decide +kernel) rfl (fun _ _ => Nat.le_of_ble_eq_true rfl) (fun _ _ => rfl) ?_
  intro k A hR hrm hz
  refine xb A [(.aload_n 0, 1, 0, 0, .null), (.getfield 56, 3, 0, 6, .ref 44), (.aload_n 0, 1, 0, 0, .null), (.getfield 66, 3, 0, 8, .ref 48)] (pc' := 8) (ls' := [some (.ref 0), none, none, none]) (st' := [.ref 48, .ref 44]) (g' := g) (by decide +kernel) rfl ?_
  obtain ⟨w1, e1, H⟩ := xbind H
  refine xcallV A (ix := 246) (nxt := 11) hrm hz [.ref 48] [] 1097 (c_X1_ringerOf_44_48 hS _ e1) ok_X1_ringerOf (by decide +kernel) rfl (fun r g1 hq => ?_)
  rw [hq.1, hq.2]
  show xW k S 0 0 11 [some (.ref 0), none, none, none] [.int w1.1] w1.2
  refine xb A [(.istore_n 1, 1, 0, 0, .null), (.iconst 0, 1, 0, 0, .int 0), (.istore_n 2, 1, 0, 0, .null), (.iconst 0, 1, 0, 0, .int 0), (.istore_n 3, 1, 0, 0, .null)] (pc' := 16) (ls' := [some (.ref 0), some (.int w1.1), some (.int 0), some (.int 0)]) (st' := []) (g' := w1.2) (by decide +kernel) rfl ?_
  exact t_X11_turns_0_16 hS A hR hrm hz _ _ _ _ _ H
theorem fr_X11_turns_0  {g : xG} (out : Int32 × xG) (H : f_X11_turns_0  g = some out) : xfrm fp_X11_turns_0 g (out.2) := by
  have H : ((f_X1_ringerOf_44_48 g).bind fun w1 =>
f_X11_turns_0_16 xN w1.1 0 0 w1.2) = some out := H
  obtain ⟨w1, e1, H⟩ := xbind H
  have hf1 : xfrm fp_X11_turns_0 g (w1.2) := xfrm.tr xfrm.rf (fr_X1_ringerOf_44_48 _ e1) rfl
  exact xfrm.tr hf1 (fr_X11_turns_0_16 _ _ _ _ _ _ H) rfl
def fp_X11_wish_0 : List (Nat × Option Nat) := [(16, none), (40, some 2), (41, none), (47, none)]
def f_X11_wish_0_17  : Nat → Int32 → Int32 → Int32 → xG → Option (Int32 × xG)
  | 0, _, _, _, _ => none
  | n + 1, l1, l2, l3, g =>
    if (f_X4_roads_3 g) ≤ l3 then
      some (l2, g)
    else
      if (f_X10_isOpen_38 l3 g) = 0 then
        f_X11_wish_0_17 n l1 l2 (l3 + 1) g
      else
        (f_X11_ringerWithout_0 l3 g).bind fun w1 =>
        if w1.1 = l1 then
          f_X11_wish_0_17 n l1 (l2 ||| (f_X11_bit l3)) (l3 + 1) w1.2
        else
          f_X11_wish_0_17 n l1 l2 (l3 + 1) w1.2
def f_X11_wish_0 (p1 : Int32) (g : xG) : Option (Int32 × xG) :=
  if (f_X4_isPerson_3 p1 g) = 0 then
    some ((-1), g)
  else
    f_X11_wish_0_17 xN p1 0 0 g
set_option maxRecDepth 20000 in
theorem t_X11_wish_0_17 {k : xK} {S : List xSh} {out : Int32 × xG} (hS : xpf SH1 S) (A : xAt k mX11_wish.2.1 11 SH1 S) (hR : xRet k 0 0 S (fun r g' => r = some (.int out.1) ∧ g' = out.2) mX11_wish.2.2.2) (hrm : xrm k = { frames := 6, cells := 0, slots := 0, locals := 145 }) (hz : xhs k = xb0 k + S.length)   : ∀ (n : Nat) (l1 : Int32) (l2 : Int32) (l3 : Int32) (g : xG), f_X11_wish_0_17 n l1 l2 l3 g = some out → xW k S 0 0 17 [some (.ref 0), some (.int l1), some (.int l2), some (.int l3)] [] g := by
  intro n
  induction n with
  | zero => intro l1 l2 l3 g H; exact absurd H (by simp [f_X11_wish_0_17])
  | succ n ih =>
    intro l1 l2 l3 g H
    have H : (if (f_X4_roads_3 g) ≤ l3 then
  some (l2, g)
else
  if (f_X10_isOpen_38 l3 g) = 0 then
    f_X11_wish_0_17 n l1 l2 (l3 + 1) g
  else
    (f_X11_ringerWithout_0 l3 g).bind fun w1 =>
    if w1.1 = l1 then
      f_X11_wish_0_17 n l1 (l2 ||| (f_X11_bit l3)) (l3 + 1) w1.2
    else
      f_X11_wish_0_17 n l1 l2 (l3 + 1) w1.2) = some out := H
    refine xb A [(.iload_n 3, 1, 0, 0, .null), (.aload_n 0, 1, 0, 0, .null), (.getfield 19, 3, 0, 1, .ref 3)] (pc' := 22) (ls' := [some (.ref 0), some (.int l1), some (.int l2), some (.int l3)]) (st' := [.ref 3, .int l3]) (g' := g) (by decide +kernel) rfl ?_
    refine xcallV A (ix := 260) (nxt := 25) hrm hz [] [.int l3] 1136 (c_X4_roads_3 hS _ rfl) ok_X4_roads (by decide +kernel) rfl (fun r g1 hq => ?_)
    rw [hq.1, hq.2]
    show xW k S 0 0 25 [some (.ref 0), some (.int l1), some (.int l2), some (.int l3)] [.int (f_X4_roads_3 g), .int l3] g
    refine xic_ge A (36) 61 28 (by decide +kernel) (fun h2 => ?_) (fun h2 => ?_)
    · rw [if_pos h2] at H
      refine xb A [(.iload_n 2, 1, 0, 0, .null)] (pc' := 62) (ls' := [some (.ref 0), some (.int l1), some (.int l2), some (.int l3)]) (st' := [.int l2]) (g' := g) (by decide +kernel) rfl ?_
      obtain rfl := Option.some.inj H
      exact xret_i A hR hz (by decide +kernel) rfl ⟨rfl, rfl⟩
    · rw [if_neg h2] at H
      refine xb A [(.aload_n 0, 1, 0, 0, .null), (.getfield 37, 3, 0, 3, .ref 38), (.iload_n 3, 1, 0, 0, .null)] (pc' := 33) (ls' := [some (.ref 0), some (.int l1), some (.int l2), some (.int l3)]) (st' := [.int l3, .ref 38]) (g' := g) (by decide +kernel) rfl ?_
      refine xcallV A (ix := 180) (nxt := 36) hrm hz [.int l3] [] 927 (c_X10_isOpen_38 hS _ rfl) ok_X10_isOpen (by decide +kernel) rfl (fun r g1 hq => ?_)
      rw [hq.1, hq.2]
      show xW k S 0 0 36 [some (.ref 0), some (.int l1), some (.int l2), some (.int l3)] [.int (f_X10_isOpen_38 l3 g)] g
      refine xif_eq A (19) 55 39 (by decide +kernel) (fun h3 => ?_) (fun h3 => ?_)
      · rw [if_pos h3] at H
        refine xb A [(.iinc 3 1, 3, 0, 0, .null)] (pc' := 58) (ls' := [some (.ref 0), some (.int l1), some (.int l2), some (.int (l3 + 1))]) (st' := []) (g' := g) (by decide +kernel) rfl ?_
        refine xgoto A (-41) 17 (by decide +kernel) ?_
        exact ih _ _ _ _ H
      · rw [if_neg h3] at H
        refine xb A [(.aload_n 0, 1, 0, 0, .null), (.iload_n 3, 1, 0, 0, .null)] (pc' := 41) (ls' := [some (.ref 0), some (.int l1), some (.int l2), some (.int l3)]) (st' := [.int l3, .ref 0]) (g' := g) (by decide +kernel) rfl ?_
        obtain ⟨w1, e1, H⟩ := xbind H
        refine xcallV A (ix := 263) (nxt := 44) hrm hz [.int l3] [] 1137 (c_X11_ringerWithout_0 hS _ e1) ok_X11_ringerWithout (by decide +kernel) rfl (fun r g1 hq => ?_)
        rw [hq.1, hq.2]
        show xW k S 0 0 44 [some (.ref 0), some (.int l1), some (.int l2), some (.int l3)] [.int w1.1] w1.2
        refine xb A [(.iload_n 1, 1, 0, 0, .null)] (pc' := 45) (ls' := [some (.ref 0), some (.int l1), some (.int l2), some (.int l3)]) (st' := [.int l1, .int w1.1]) (g' := w1.2) (by decide +kernel) rfl ?_
        refine xic_ne A (10) 55 48 (by decide +kernel) (fun h4 => ?_) (fun h4 => ?_)
        · rw [if_neg h4] at H
          refine xb A [(.iinc 3 1, 3, 0, 0, .null)] (pc' := 58) (ls' := [some (.ref 0), some (.int l1), some (.int l2), some (.int (l3 + 1))]) (st' := []) (g' := w1.2) (by decide +kernel) rfl ?_
          refine xgoto A (-41) 17 (by decide +kernel) ?_
          exact ih _ _ _ _ H
        · rw [if_pos h4] at H
          refine xb A [(.iload_n 2, 1, 0, 0, .null), (.iload_n 3, 1, 0, 0, .null)] (pc' := 50) (ls' := [some (.ref 0), some (.int l1), some (.int l2), some (.int l3)]) (st' := [.int l3, .int l2]) (g' := w1.2) (by decide +kernel) rfl ?_
          refine xcallS A (ix := 214) (nxt := 53) hrm hz [.int l3] [.int l2] 1017 (c_X11_bit hS _ rfl) ok_X11_bit (by decide +kernel) rfl (fun r g1 hq => ?_)
          rw [hq.1, hq.2]
          show xW k S 0 0 53 [some (.ref 0), some (.int l1), some (.int l2), some (.int l3)] [.int (f_X11_bit l3), .int l2] w1.2
          refine xb A [(.ior, 1, 0, 0, .null), (.istore_n 2, 1, 0, 0, .null), (.iinc 3 1, 3, 0, 0, .null)] (pc' := 58) (ls' := [some (.ref 0), some (.int l1), some (.int (l2 ||| (f_X11_bit l3))), some (.int (l3 + 1))]) (st' := []) (g' := w1.2) (by decide +kernel) rfl ?_
          refine xgoto A (-41) 17 (by decide +kernel) ?_
          exact ih _ _ _ _ H
theorem fr_X11_wish_0_17   : ∀ (n : Nat) (l1 : Int32) (l2 : Int32) (l3 : Int32) (g : xG) (out : Int32 × xG), f_X11_wish_0_17 n l1 l2 l3 g = some out → xfrm fp_X11_wish_0 g (out.2) := by
  intro n
  induction n with
  | zero => intro l1 l2 l3 g out H; exact absurd H (by simp [f_X11_wish_0_17])
  | succ n ih =>
    intro l1 l2 l3 g out H
    have H : (if (f_X4_roads_3 g) ≤ l3 then
  some (l2, g)
else
  if (f_X10_isOpen_38 l3 g) = 0 then
    f_X11_wish_0_17 n l1 l2 (l3 + 1) g
  else
    (f_X11_ringerWithout_0 l3 g).bind fun w1 =>
    if w1.1 = l1 then
      f_X11_wish_0_17 n l1 (l2 ||| (f_X11_bit l3)) (l3 + 1) w1.2
    else
      f_X11_wish_0_17 n l1 l2 (l3 + 1) w1.2) = some out := H
    by_cases h2 : (f_X4_roads_3 g) ≤ l3
    · rw [if_pos h2] at H
      obtain rfl := Option.some.inj H
      exact xfrm.rf
    · rw [if_neg h2] at H
      by_cases h3 : (f_X10_isOpen_38 l3 g) = 0
      · rw [if_pos h3] at H
        exact xfrm.tr xfrm.rf (ih _ _ _ _ _ H) rfl
      · rw [if_neg h3] at H
        obtain ⟨w1, e1, H⟩ := xbind H
        have hf1 : xfrm fp_X11_wish_0 g (w1.2) := xfrm.tr xfrm.rf (fr_X11_ringerWithout_0 _ e1) rfl
        by_cases h4 : w1.1 = l1
        · rw [if_pos h4] at H
          exact xfrm.tr hf1 (ih _ _ _ _ _ H) rfl
        · rw [if_neg h4] at H
          exact xfrm.tr hf1 (ih _ _ _ _ _ H) rfl
set_option maxRecDepth 20000 in
theorem c_X11_wish_0 {S : List xSh} (hS : xpf SH1 S) {g : xG} {p1 : Int32} (out : Int32 × xG) (H : f_X11_wish_0 p1 g = some out) : xC mX11_wish 6 145 0 0 S [.ref 0, .int p1] g S (fun r g' => r = some (.int out.1) ∧ g' = out.2) := by
  have H : (if (f_X4_isPerson_3 p1 g) = 0 then
  some ((-1), g)
else
  f_X11_wish_0_17 xN p1 0 0 g) = some out := H
  refine xC.of 11 SH1 [some (.ref 0), some (.int p1), none, none] hS (by decide +kernel) rfl (fun _ _ => Nat.le_of_ble_eq_true rfl) (fun _ _ => rfl) ?_
  intro k A hR hrm hz
  refine xb A [(.aload_n 0, 1, 0, 0, .null), (.getfield 19, 3, 0, 1, .ref 3), (.iload_n 1, 1, 0, 0, .null)] (pc' := 5) (ls' := [some (.ref 0), some (.int p1), none, none]) (st' := [.int p1, .ref 3]) (g' := g) (by decide +kernel) rfl ?_
  refine xcallV A (ix := 183) (nxt := 8) hrm hz [.int p1] [] 932 (c_X4_isPerson_3 hS _ rfl) ok_X4_isPerson (by decide +kernel) rfl (fun r g1 hq => ?_)
  rw [hq.1, hq.2]
  show xW k S 0 0 8 [some (.ref 0), some (.int p1), none, none] [.int (f_X4_isPerson_3 p1 g)] g
  refine xif_ne A (5) 13 11 (by decide +kernel) (fun h1 => ?_) (fun h1 => ?_)
  · rw [if_neg h1] at H
    refine xb A [(.iconst 0, 1, 0, 0, .int 0), (.istore_n 2, 1, 0, 0, .null), (.iconst 0, 1, 0, 0, .int 0), (.istore_n 3, 1, 0, 0, .null)] (pc' := 17) (ls' := [some (.ref 0), some (.int p1), some (.int 0), some (.int 0)]) (st' := []) (g' := g) (by decide +kernel) rfl ?_
    exact t_X11_wish_0_17 hS A hR hrm hz _ _ _ _ _ H
  · rw [if_pos h1] at H
    refine xb A [(.iconst (-1), 1, 0, 0, .int (-1))] (pc' := 12) (ls' := [some (.ref 0), some (.int p1), none, none]) (st' := [.int (-1)]) (g' := g) (by decide +kernel) rfl ?_
    obtain rfl := Option.some.inj H
    exact xret_i A hR hz (by decide +kernel) rfl ⟨rfl, rfl⟩
theorem fr_X11_wish_0 {p1 : Int32} {g : xG} (out : Int32 × xG) (H : f_X11_wish_0 p1 g = some out) : xfrm fp_X11_wish_0 g (out.2) := by
  have H : (if (f_X4_isPerson_3 p1 g) = 0 then
  some ((-1), g)
else
  f_X11_wish_0_17 xN p1 0 0 g) = some out := H
  by_cases h1 : (f_X4_isPerson_3 p1 g) = 0
  · rw [if_pos h1] at H
    obtain rfl := Option.some.inj H
    exact xfrm.rf
  · rw [if_neg h1] at H
    exact xfrm.tr xfrm.rf (fr_X11_wish_0_17 _ _ _ _ _ _ H) rfl
