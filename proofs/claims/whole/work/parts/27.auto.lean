/-! methods, walked by program -/
def fp_X11_rings_0 : List (Nat × Option Nat) := [(16, none), (45, none), (51, none)]
def f_X11_rings_0 (p1 : Int32) (g : xG) : Option (Int32 × xG) :=
  if (f_X11_isSpan p1) = 0 then
    some ((-1), g)
  else
    (f_X11_goOnTrusting_0 p1 g).bind fun w1 =>
    (f_X1_ringerOf_44_50 w1).bind fun w2 =>
    some (w2.1, w2.2)
set_option maxRecDepth 20000 in
theorem c_X11_rings_0 {S : List xSh} (hS : xpf SH1 S) {g : xG} {p1 : Int32} (out : Int32 × xG) (H : f_X11_rings_0 p1 g = some out) : xC mX11_rings 7 171 0 0 S [.ref 0, .int p1] g S (fun r g' => r = some (.int out.1) ∧ g' = out.2) := by
  have H : (if (f_X11_isSpan p1) = 0 then
  some ((-1), g)
else
  (f_X11_goOnTrusting_0 p1 g).bind fun w1 =>
  (f_X1_ringerOf_44_50 w1).bind fun w2 =>
  some (w2.1, w2.2)) = some out := H
  refine xC.of 11 SH1 [some (.ref 0), some (.int p1)] hS (by decide +kernel) rfl (fun _ _ => Nat.le_of_ble_eq_true rfl) (fun _ _ => rfl) ?_
  intro k A hR hrm hz
  refine xb A [(.iload_n 1, 1, 0, 0, .null)] (pc' := 1) (ls' := [some (.ref 0), some (.int p1)]) (st' := [.int p1]) (g' := g) (by decide +kernel) rfl ?_
  refine xcallS A (ix := 221) (nxt := 4) hrm hz [.int p1] [] 1027 (c_X11_isSpan hS _ rfl) ok_X11_isSpan (by decide +kernel) rfl (fun r g1 hq => ?_)
  rw [hq.1, hq.2]
  show xW k S 0 0 4 [some (.ref 0), some (.int p1)] [.int (f_X11_isSpan p1)] g
  refine xif_ne A (5) 9 7 (by decide +kernel) (fun h1 => ?_) (fun h1 => ?_)
  · rw [if_neg h1] at H
    refine xb A [(.aload_n 0, 1, 0, 0, .null), (.iload_n 1, 1, 0, 0, .null)] (pc' := 11) (ls' := [some (.ref 0), some (.int p1)]) (st' := [.int p1, .ref 0]) (g' := g) (by decide +kernel) rfl ?_
    obtain ⟨w1, e1, H⟩ := xbind H
    refine xcallV A (ix := 272) (nxt := 14) hrm hz [.int p1] [] 1166 (c_X11_goOnTrusting_0 hS _ e1) ok_X11_goOnTrusting (by decide +kernel) rfl (fun r g1 hq => ?_)
    rw [hq.1, hq.2]
    show xW k S 0 0 14 [some (.ref 0), some (.int p1)] [] w1
    refine xb A [(.aload_n 0, 1, 0, 0, .null), (.getfield 56, 3, 0, 6, .ref 44), (.aload_n 0, 1, 0, 0, .null), (.getfield 70, 3, 0, 9, .ref 50)] (pc' := 22) (ls' := [some (.ref 0), some (.int p1)]) (st' := [.ref 50, .ref 44]) (g' := w1) (by decide +kernel) rfl ?_
    obtain ⟨w2, e2, H⟩ := xbind H
    refine xcallV A (ix := 246) (nxt := 25) hrm hz [.ref 50] [] 1097 (c_X1_ringerOf_44_50 hS _ e2) ok_X1_ringerOf (by decide +kernel) rfl (fun r g1 hq => ?_)
    rw [hq.1, hq.2]
    show xW k S 0 0 25 [some (.ref 0), some (.int p1)] [.int w2.1] w2.2
    obtain rfl := Option.some.inj H
    exact xret_i A hR hz (by decide +kernel) rfl ⟨rfl, rfl⟩
  · rw [if_pos h1] at H
    refine xb A [(.iconst (-1), 1, 0, 0, .int (-1))] (pc' := 8) (ls' := [some (.ref 0), some (.int p1)]) (st' := [.int (-1)]) (g' := g) (by decide +kernel) rfl ?_
    obtain rfl := Option.some.inj H
    exact xret_i A hR hz (by decide +kernel) rfl ⟨rfl, rfl⟩
theorem fr_X11_rings_0 {p1 : Int32} {g : xG} (out : Int32 × xG) (H : f_X11_rings_0 p1 g = some out) : xfrm fp_X11_rings_0 g (out.2) := by
  have H : (if (f_X11_isSpan p1) = 0 then
  some ((-1), g)
else
  (f_X11_goOnTrusting_0 p1 g).bind fun w1 =>
  (f_X1_ringerOf_44_50 w1).bind fun w2 =>
  some (w2.1, w2.2)) = some out := H
  by_cases h1 : (f_X11_isSpan p1) = 0
  · rw [if_pos h1] at H
    obtain rfl := Option.some.inj H
    exact xfrm.rf
  · rw [if_neg h1] at H
    obtain ⟨w1, e1, H⟩ := xbind H
    have hf1 : xfrm fp_X11_rings_0 g (w1) := xfrm.tr xfrm.rf (fr_X11_goOnTrusting_0 _ e1) rfl
    obtain ⟨w2, e2, H⟩ := xbind H
    have hf2 : xfrm fp_X11_rings_0 g (w2.2) := xfrm.tr hf1 (fr_X1_ringerOf_44_50 _ e2) rfl
    obtain rfl := Option.some.inj H
    exact hf2
def f_X11_walks_0 (p1 : Int32) (g : xG) : Option (Int32) :=
  if (f_X4_isPerson_3 p1 g) = 0 then
    some (-1)
  else
    (f_X10_roadToward_38 (f_X6_of_48 p1 5 g) (f_X6_of_48 p1 11 g) g).bind fun w1 =>
    some w1
set_option maxRecDepth 20000 in
theorem c_X11_walks_0 {S : List xSh} (hS : xpf SH1 S) {g : xG} {p1 : Int32} (out : Int32) (H : f_X11_walks_0 p1 g = some out) : xC mX11_walks 4 91 0 0 S [.ref 0, .int p1] g S (fun r g' => r = some (.int out) ∧ g' = g) := by
  have H : (if (f_X4_isPerson_3 p1 g) = 0 then
  some (-1)
else
  (f_X10_roadToward_38 (f_X6_of_48 p1 5 g) (f_X6_of_48 p1 11 g) g).bind fun w1 =>
  some w1) = some out := H
  refine xC.of 11 SH1 [some (.ref 0), some (.int p1)] hS (by decide +kernel) rfl (fun _ _ => Nat.le_of_ble_eq_true rfl) (fun _ _ => rfl) ?_
  intro k A hR hrm hz
  refine xb A [(.aload_n 0, 1, 0, 0, .null), (.getfield 19, 3, 0, 1, .ref 3), (.iload_n 1, 1, 0, 0, .null)] (pc' := 5) (ls' := [some (.ref 0), some (.int p1)]) (st' := [.int p1, .ref 3]) (g' := g) (by decide +kernel) rfl ?_
  refine xcallV A (ix := 183) (nxt := 8) hrm hz [.int p1] [] 932 (c_X4_isPerson_3 hS _ rfl) ok_X4_isPerson (by decide +kernel) rfl (fun r g1 hq => ?_)
  rw [hq.1, hq.2]
  show xW k S 0 0 8 [some (.ref 0), some (.int p1)] [.int (f_X4_isPerson_3 p1 g)] g
  refine xif_ne A (5) 13 11 (by decide +kernel) (fun h1 => ?_) (fun h1 => ?_)
  · rw [if_neg h1] at H
    refine xb A [(.aload_n 0, 1, 0, 0, .null), (.getfield 37, 3, 0, 3, .ref 38), (.aload_n 0, 1, 0, 0, .null), (.getfield 66, 3, 0, 8, .ref 48), (.iload_n 1, 1, 0, 0, .null), (.iconst 5, 1, 0, 0, .int 5)] (pc' := 23) (ls' := [some (.ref 0), some (.int p1)]) (st' := [.int 5, .int p1, .ref 48, .ref 38]) (g' := g) (by decide +kernel) rfl ?_
    refine xcallV A (ix := 192) (nxt := 26) hrm hz [.int p1, .int 5] [.ref 38] 944 (c_X6_of_48 hS _ rfl) ok_X6_of (by decide +kernel) rfl (fun r g1 hq => ?_)
    rw [hq.1, hq.2]
    show xW k S 0 0 26 [some (.ref 0), some (.int p1)] [.int (f_X6_of_48 p1 5 g), .ref 38] g
    refine xb A [(.aload_n 0, 1, 0, 0, .null), (.getfield 66, 3, 0, 8, .ref 48), (.iload_n 1, 1, 0, 0, .null), (.bipush 11, 2, 0, 0, .int 11)] (pc' := 33) (ls' := [some (.ref 0), some (.int p1)]) (st' := [.int 11, .int p1, .ref 48, .int (f_X6_of_48 p1 5 g), .ref 38]) (g' := g) (by decide +kernel) rfl ?_
    refine xcallV A (ix := 192) (nxt := 36) hrm hz [.int p1, .int 11] [.int (f_X6_of_48 p1 5 g), .ref 38] 944 (c_X6_of_48 hS _ rfl) ok_X6_of (by decide +kernel) rfl (fun r g1 hq => ?_)
    rw [hq.1, hq.2]
    show xW k S 0 0 36 [some (.ref 0), some (.int p1)] [.int (f_X6_of_48 p1 11 g), .int (f_X6_of_48 p1 5 g), .ref 38] g
    obtain ⟨w1, e1, H⟩ := xbind H
    refine xcallV A (ix := 275) (nxt := 39) hrm hz [.int (f_X6_of_48 p1 5 g), .int (f_X6_of_48 p1 11 g)] [] 1178 (c_X10_roadToward_38 hS _ e1) ok_X10_roadToward (by decide +kernel) rfl (fun r g1 hq => ?_)
    rw [hq.1, hq.2]
    show xW k S 0 0 39 [some (.ref 0), some (.int p1)] [.int w1] g
    obtain rfl := Option.some.inj H
    exact xret_i A hR hz (by decide +kernel) rfl ⟨rfl, rfl⟩
  · rw [if_pos h1] at H
    refine xb A [(.iconst (-1), 1, 0, 0, .int (-1))] (pc' := 12) (ls' := [some (.ref 0), some (.int p1)]) (st' := [.int (-1)]) (g' := g) (by decide +kernel) rfl ?_
    obtain rfl := Option.some.inj H
    exact xret_i A hR hz (by decide +kernel) rfl ⟨rfl, rfl⟩
def f_X1_strangerOf_44_5  (g : xG) : Nat → Int32 → Int32 → Option (Int32)
  | 0, _, _ => none
  | n + 1, l1, l2 =>
    if (f_X4_people_3 g) ≤ l2 then
      some l1
    else
      if l1 < 0 then
        f_X1_strangerOf_44_5 g n l2 (l2 + 1)
      else
        if (f_X1_trueFarOf_44 l2 g) ≤ (f_X1_trueFarOf_44 l1 g) then
          f_X1_strangerOf_44_5 g n l1 (l2 + 1)
        else
          f_X1_strangerOf_44_5 g n l2 (l2 + 1)
def f_X1_strangerOf_44  (g : xG) : Option (Int32) :=
  f_X1_strangerOf_44_5 g xN (-2) 0
set_option maxRecDepth 20000 in
theorem t_X1_strangerOf_44_5 {k : xK} {S : List xSh} {g : xG} {out : Int32} (hS : xpf SH1 S) (A : xAt k mX1_strangerOf.2.1 1 SH1 S) (hR : xRet k 0 0 S (fun r g' => r = some (.int out) ∧ g' = g) mX1_strangerOf.2.2.2) (hrm : xrm k = { frames := 3, cells := 0, slots := 0, locals := 64 }) (hz : xhs k = xb0 k + S.length)   : ∀ (n : Nat) (l1 : Int32) (l2 : Int32), f_X1_strangerOf_44_5 g n l1 l2 = some out → xW k S 0 0 5 [some (.ref 44), some (.int l1), some (.int l2)] [] g := by
  intro n
  induction n with
  | zero => intro l1 l2 H; exact absurd H (by simp [f_X1_strangerOf_44_5])
  | succ n ih =>
    intro l1 l2 H
    have H : (if (f_X4_people_3 g) ≤ l2 then
  some l1
else
  if l1 < 0 then
    f_X1_strangerOf_44_5 g n l2 (l2 + 1)
  else
    if (f_X1_trueFarOf_44 l2 g) ≤ (f_X1_trueFarOf_44 l1 g) then
      f_X1_strangerOf_44_5 g n l1 (l2 + 1)
    else
      f_X1_strangerOf_44_5 g n l2 (l2 + 1)) = some out := H
    refine xb A [(.iload_n 2, 1, 0, 0, .null), (.aload_n 0, 1, 0, 0, .null), (.getfield 17, 3, 44, 0, .ref 3)] (pc' := 10) (ls' := [some (.ref 44), some (.int l1), some (.int l2)]) (st' := [.ref 3, .int l2]) (g' := g) (by decide +kernel) rfl ?_
    refine xcallV A (ix := 60) (nxt := 13) hrm hz [] [.int l2] 972 (c_X4_people_3 hS _ rfl) ok_X4_people (by decide +kernel) rfl (fun r g1 hq => ?_)
    rw [hq.1, hq.2]
    show xW k S 0 0 13 [some (.ref 44), some (.int l1), some (.int l2)] [.int (f_X4_people_3 g), .int l2] g
    refine xic_ge A (28) 41 16 (by decide +kernel) (fun h1 => ?_) (fun h1 => ?_)
    · rw [if_pos h1] at H
      refine xb A [(.iload_n 1, 1, 0, 0, .null)] (pc' := 42) (ls' := [some (.ref 44), some (.int l1), some (.int l2)]) (st' := [.int l1]) (g' := g) (by decide +kernel) rfl ?_
      obtain rfl := Option.some.inj H
      exact xret_i A hR hz (by decide +kernel) rfl ⟨rfl, rfl⟩
    · rw [if_neg h1] at H
      refine xb A [(.iload_n 1, 1, 0, 0, .null)] (pc' := 17) (ls' := [some (.ref 44), some (.int l1), some (.int l2)]) (st' := [.int l1]) (g' := g) (by decide +kernel) rfl ?_
      refine xif_lt A (16) 33 20 (by decide +kernel) (fun h2 => ?_) (fun h2 => ?_)
      · rw [if_pos h2] at H
        refine xb A [(.iload_n 2, 1, 0, 0, .null), (.istore_n 1, 1, 0, 0, .null), (.iinc 2 1, 3, 0, 0, .null)] (pc' := 38) (ls' := [some (.ref 44), some (.int l2), some (.int (l2 + 1))]) (st' := []) (g' := g) (by decide +kernel) rfl ?_
        refine xgoto A (-33) 5 (by decide +kernel) ?_
        exact ih _ _ H
      · rw [if_neg h2] at H
        refine xb A [(.aload_n 0, 1, 0, 0, .null), (.iload_n 2, 1, 0, 0, .null)] (pc' := 22) (ls' := [some (.ref 44), some (.int l1), some (.int l2)]) (st' := [.int l2, .ref 44]) (g' := g) (by decide +kernel) rfl ?_
        refine xcallV A (ix := 93) (nxt := 25) hrm hz [.int l2] [] 1056 (c_X1_trueFarOf_44 hS _ rfl) ok_X1_trueFarOf (by decide +kernel) rfl (fun r g1 hq => ?_)
        rw [hq.1, hq.2]
        show xW k S 0 0 25 [some (.ref 44), some (.int l1), some (.int l2)] [.int (f_X1_trueFarOf_44 l2 g)] g
        refine xb A [(.aload_n 0, 1, 0, 0, .null), (.iload_n 1, 1, 0, 0, .null)] (pc' := 27) (ls' := [some (.ref 44), some (.int l1), some (.int l2)]) (st' := [.int l1, .ref 44, .int (f_X1_trueFarOf_44 l2 g)]) (g' := g) (by decide +kernel) rfl ?_
        refine xcallV A (ix := 93) (nxt := 30) hrm hz [.int l1] [.int (f_X1_trueFarOf_44 l2 g)] 1056 (c_X1_trueFarOf_44 hS _ rfl) ok_X1_trueFarOf (by decide +kernel) rfl (fun r g1 hq => ?_)
        rw [hq.1, hq.2]
        show xW k S 0 0 30 [some (.ref 44), some (.int l1), some (.int l2)] [.int (f_X1_trueFarOf_44 l1 g), .int (f_X1_trueFarOf_44 l2 g)] g
        refine xic_le A (5) 35 33 (by decide +kernel) (fun h3 => ?_) (fun h3 => ?_)
        · rw [if_pos h3] at H
          refine xb A [(.iinc 2 1, 3, 0, 0, .null)] (pc' := 38) (ls' := [some (.ref 44), some (.int l1), some (.int (l2 + 1))]) (st' := []) (g' := g) (by decide +kernel) rfl ?_
          refine xgoto A (-33) 5 (by decide +kernel) ?_
          exact ih _ _ H
        · rw [if_neg h3] at H
          refine xb A [(.iload_n 2, 1, 0, 0, .null), (.istore_n 1, 1, 0, 0, .null), (.iinc 2 1, 3, 0, 0, .null)] (pc' := 38) (ls' := [some (.ref 44), some (.int l2), some (.int (l2 + 1))]) (st' := []) (g' := g) (by decide +kernel) rfl ?_
          refine xgoto A (-33) 5 (by decide +kernel) ?_
          exact ih _ _ H
set_option maxRecDepth 20000 in
theorem c_X1_strangerOf_44 {S : List xSh} (hS : xpf SH1 S) {g : xG}  (out : Int32) (H : f_X1_strangerOf_44  g = some out) : xC mX1_strangerOf 3 64 0 0 S [.ref 44] g S (fun r g' => r = some (.int out) ∧ g' = g) := by
  have H : (f_X1_strangerOf_44_5 g xN (-2) 0) = some out := H
  refine xC.of 1 SH1 [some (.ref 44), none, none] hS (by decide +kernel) rfl (fun _ _ => Nat.le_of_ble_eq_true rfl) (fun _ _ => rfl) ?_
  intro k A hR hrm hz
  refine xb A [(.bipush (-2), 2, 0, 0, .int (-2)), (.istore_n 1, 1, 0, 0, .null), (.iconst 0, 1, 0, 0, .int 0), (.istore_n 2, 1, 0, 0, .null)] (pc' := 5) (ls' := [some (.ref 44), some (.int (-2)), some (.int 0)]) (st' := []) (g' := g) (by decide +kernel) rfl ?_
  exact t_X1_strangerOf_44_5 hS A hR hrm hz _ _ _ H
def f_X11_stranger_0_11  (g : xG) (l1 : Int32) : Option (Int32) :=
  (f_X1_strangerOf_44 g).bind fun w1 =>
  if 0 ≤ w1 then
    if l1 = 0 then
      some w1
    else
      some (f_X1_trueFarOf_44 w1 g)
  else
    some (-2)
def f_X11_stranger_0 (p1 : Int32) (g : xG) : Option (Int32) :=
  if p1 = 0 then
    f_X11_stranger_0_11 g p1
  else
    if p1 = 1 then
      f_X11_stranger_0_11 g p1
    else
      some (-1)
set_option maxRecDepth 20000 in
theorem t_X11_stranger_0_11 {k : xK} {S : List xSh} {g : xG} {out : Int32} (hS : xpf SH1 S) (A : xAt k mX11_stranger.2.1 11 SH1 S) (hR : xRet k 0 0 S (fun r g' => r = some (.int out) ∧ g' = g) mX11_stranger.2.2.2) (hrm : xrm k = { frames := 4, cells := 0, slots := 0, locals := 86 }) (hz : xhs k = xb0 k + S.length)   : ∀ (l1 : Int32), f_X11_stranger_0_11 g l1 = some out → xW k S 0 0 11 [some (.ref 0), some (.int l1), none] [] g := by
  intro l1 H
  have H : ((f_X1_strangerOf_44 g).bind fun w1 =>
if 0 ≤ w1 then
  if l1 = 0 then
    some w1
  else
    some (f_X1_trueFarOf_44 w1 g)
else
  some (-2)) = some out := H
  refine xb A [(.aload_n 0, 1, 0, 0, .null), (.getfield 56, 3, 0, 6, .ref 44)] (pc' := 15) (ls' := [some (.ref 0), some (.int l1), none]) (st' := [.ref 44]) (g' := g) (by decide +kernel) rfl ?_
  obtain ⟨w1, e1, H⟩ := xbind H
  refine xcallV A (ix := 278) (nxt := 18) hrm hz [] [] 1183 (c_X1_strangerOf_44 hS _ e1) ok_X1_strangerOf (by decide +kernel) rfl (fun r g1 hq => ?_)
  rw [hq.1, hq.2]
  show xW k S 0 0 18 [some (.ref 0), some (.int l1), none] [.int w1] g
  refine xb A [(.istore_n 2, 1, 0, 0, .null), (.iload_n 2, 1, 0, 0, .null)] (pc' := 20) (ls' := [some (.ref 0), some (.int l1), some (.int w1)]) (st' := [.int w1]) (g' := g) (by decide +kernel) rfl ?_
  refine xif_ge A (6) 26 23 (by decide +kernel) (fun h2 => ?_) (fun h2 => ?_)
  · rw [if_pos h2] at H
    refine xb A [(.iload_n 1, 1, 0, 0, .null)] (pc' := 27) (ls' := [some (.ref 0), some (.int l1), some (.int w1)]) (st' := [.int l1]) (g' := g) (by decide +kernel) rfl ?_
    refine xif_ne A (7) 34 30 (by decide +kernel) (fun h3 => ?_) (fun h3 => ?_)
    · rw [if_neg h3] at H
      refine xb A [(.aload_n 0, 1, 0, 0, .null), (.getfield 56, 3, 0, 6, .ref 44), (.iload_n 2, 1, 0, 0, .null)] (pc' := 39) (ls' := [some (.ref 0), some (.int l1), some (.int w1)]) (st' := [.int w1, .ref 44]) (g' := g) (by decide +kernel) rfl ?_
      refine xcallV A (ix := 198) (nxt := 42) hrm hz [.int w1] [] 953 (c_X1_trueFarOf_44 hS _ rfl) ok_X1_trueFarOf (by decide +kernel) rfl (fun r g1 hq => ?_)
      rw [hq.1, hq.2]
      show xW k S 0 0 42 [some (.ref 0), some (.int l1), some (.int w1)] [.int (f_X1_trueFarOf_44 w1 g)] g
      obtain rfl := Option.some.inj H
      exact xret_i A hR hz (by decide +kernel) rfl ⟨rfl, rfl⟩
    · rw [if_pos h3] at H
      refine xb A [(.iload_n 2, 1, 0, 0, .null)] (pc' := 31) (ls' := [some (.ref 0), some (.int l1), some (.int w1)]) (st' := [.int w1]) (g' := g) (by decide +kernel) rfl ?_
      refine xgoto A (11) 42 (by decide +kernel) ?_
      obtain rfl := Option.some.inj H
      exact xret_i A hR hz (by decide +kernel) rfl ⟨rfl, rfl⟩
  · rw [if_neg h2] at H
    refine xb A [(.bipush (-2), 2, 0, 0, .int (-2))] (pc' := 25) (ls' := [some (.ref 0), some (.int l1), some (.int w1)]) (st' := [.int (-2)]) (g' := g) (by decide +kernel) rfl ?_
    obtain rfl := Option.some.inj H
    exact xret_i A hR hz (by decide +kernel) rfl ⟨rfl, rfl⟩
set_option maxRecDepth 20000 in
theorem c_X11_stranger_0 {S : List xSh} (hS : xpf SH1 S) {g : xG} {p1 : Int32} (out : Int32) (H : f_X11_stranger_0 p1 g = some out) : xC mX11_stranger 4 86 0 0 S [.ref 0, .int p1] g S (fun r g' => r = some (.int out) ∧ g' = g) := by
  have H : (if p1 = 0 then
  f_X11_stranger_0_11 g p1
else
  if p1 = 1 then
    f_X11_stranger_0_11 g p1
  else
    some (-1)) = some out := H
  refine xC.of 11 SH1 [some (.ref 0), some (.int p1), none] hS (by decide +kernel) rfl (fun _ _ => Nat.le_of_ble_eq_true rfl) (fun _ _ => rfl) ?_
  intro k A hR hrm hz
  refine xb A [(.iload_n 1, 1, 0, 0, .null)] (pc' := 1) (ls' := [some (.ref 0), some (.int p1), none]) (st' := [.int p1]) (g' := g) (by decide +kernel) rfl ?_
  refine xif_eq A (10) 11 4 (by decide +kernel) (fun h1 => ?_) (fun h1 => ?_)
  · rw [if_pos h1] at H
    exact t_X11_stranger_0_11 hS A hR hrm hz _ H
  · rw [if_neg h1] at H
    refine xb A [(.iload_n 1, 1, 0, 0, .null), (.iconst 1, 1, 0, 0, .int 1)] (pc' := 6) (ls' := [some (.ref 0), some (.int p1), none]) (st' := [.int 1, .int p1]) (g' := g) (by decide +kernel) rfl ?_
    refine xic_eq A (5) 11 9 (by decide +kernel) (fun h4 => ?_) (fun h4 => ?_)
    · rw [if_pos h4] at H
      exact t_X11_stranger_0_11 hS A hR hrm hz _ H
    · rw [if_neg h4] at H
      refine xb A [(.iconst (-1), 1, 0, 0, .int (-1))] (pc' := 10) (ls' := [some (.ref 0), some (.int p1), none]) (st' := [.int (-1)]) (g' := g) (by decide +kernel) rfl ?_
      obtain rfl := Option.some.inj H
      exact xret_i A hR hz (by decide +kernel) rfl ⟨rfl, rfl⟩
def f_X7_seesAllRoads_42_2  (g : xG) : Nat → Int32 → Int32 → Option (Int32)
  | 0, _, _ => none
  | n + 1, l1, l2 =>
    if (f_X4_roads_3 g) ≤ l2 then
      some 1
    else
      if (f_X10_isOpen_38 l2 g) = 0 then
        f_X7_seesAllRoads_42_2 g n l1 (l2 + 1)
      else
        if (l1 &&& ((f_X11_bit (f_X4_oneEndOf_3 l2 g)) ||| (f_X11_bit (f_X4_otherEndOf_3 l2 g)))) = 0 then
          some 0
        else
          f_X7_seesAllRoads_42_2 g n l1 (l2 + 1)
def f_X7_seesAllRoads_42 (p1 : Int32) (g : xG) : Option (Int32) :=
  f_X7_seesAllRoads_42_2 g xN p1 0
set_option maxRecDepth 20000 in
theorem t_X7_seesAllRoads_42_2 {k : xK} {S : List xSh} {g : xG} {out : Int32} (hS : xpf SH1 S) (A : xAt k mX7_seesAllRoads.2.1 7 SH1 S) (hR : xRet k 0 0 S (fun r g' => r = some (.int out) ∧ g' = g) mX7_seesAllRoads.2.2.2) (hrm : xrm k = { frames := 2, cells := 0, slots := 0, locals := 42 }) (hz : xhs k = xb0 k + S.length)   : ∀ (n : Nat) (l1 : Int32) (l2 : Int32), f_X7_seesAllRoads_42_2 g n l1 l2 = some out → xW k S 0 0 2 [some (.ref 42), some (.int l1), some (.int l2), none] [] g := by
  intro n
  induction n with
  | zero => intro l1 l2 H; exact absurd H (by simp [f_X7_seesAllRoads_42_2])
  | succ n ih =>
    intro l1 l2 H
    have H : (if (f_X4_roads_3 g) ≤ l2 then
  some 1
else
  if (f_X10_isOpen_38 l2 g) = 0 then
    f_X7_seesAllRoads_42_2 g n l1 (l2 + 1)
  else
    if (l1 &&& ((f_X11_bit (f_X4_oneEndOf_3 l2 g)) ||| (f_X11_bit (f_X4_otherEndOf_3 l2 g)))) = 0 then
      some 0
    else
      f_X7_seesAllRoads_42_2 g n l1 (l2 + 1)) = some out := H
    refine xb A [(.iload_n 2, 1, 0, 0, .null), (.aload_n 0, 1, 0, 0, .null), (.getfield 15, 3, 42, 0, .ref 3)] (pc' := 7) (ls' := [some (.ref 42), some (.int l1), some (.int l2), none]) (st' := [.ref 3, .int l2]) (g' := g) (by decide +kernel) rfl ?_
    refine xcallV A (ix := 23) (nxt := 10) hrm hz [] [.int l2] 902 (c_X4_roads_3 hS _ rfl) ok_X4_roads (by decide +kernel) rfl (fun r g1 hq => ?_)
    rw [hq.1, hq.2]
    show xW k S 0 0 10 [some (.ref 42), some (.int l1), some (.int l2), none] [.int (f_X4_roads_3 g), .int l2] g
    refine xic_ge A (52) 62 13 (by decide +kernel) (fun h1 => ?_) (fun h1 => ?_)
    · rw [if_pos h1] at H
      refine xb A [(.iconst 1, 1, 0, 0, .int 1)] (pc' := 63) (ls' := [some (.ref 42), some (.int l1), some (.int l2), none]) (st' := [.int 1]) (g' := g) (by decide +kernel) rfl ?_
      obtain rfl := Option.some.inj H
      exact xret_i A hR hz (by decide +kernel) rfl ⟨rfl, rfl⟩
    · rw [if_neg h1] at H
      refine xb A [(.aload_n 0, 1, 0, 0, .null), (.getfield 15, 3, 42, 0, .ref 3), (.iload_n 2, 1, 0, 0, .null)] (pc' := 18) (ls' := [some (.ref 42), some (.int l1), some (.int l2), none]) (st' := [.int l2, .ref 3]) (g' := g) (by decide +kernel) rfl ?_
      refine xcallV A (ix := 74) (nxt := 21) hrm hz [.int l2] [] 1200 (c_X4_oneEndOf_3 hS _ rfl) ok_X4_oneEndOf (by decide +kernel) rfl (fun r g1 hq => ?_)
      rw [hq.1, hq.2]
      show xW k S 0 0 21 [some (.ref 42), some (.int l1), some (.int l2), none] [.int (f_X4_oneEndOf_3 l2 g)] g
      refine xcallSN A (ix := 39) (nxt := 24) (host := "NoonRinger") hrm hz [.int (f_X4_oneEndOf_3 l2 g)] [] 23 (c_X11_bit hS _ rfl) ok_X11_bit (by decide +kernel) rfl (fun r g1 hq => ?_)
      rw [hq.1, hq.2]
      show xW k S 0 0 24 [some (.ref 42), some (.int l1), some (.int l2), none] [.int (f_X11_bit (f_X4_oneEndOf_3 l2 g))] g
      refine xb A [(.aload_n 0, 1, 0, 0, .null), (.getfield 15, 3, 42, 0, .ref 3), (.iload_n 2, 1, 0, 0, .null)] (pc' := 29) (ls' := [some (.ref 42), some (.int l1), some (.int l2), none]) (st' := [.int l2, .ref 3, .int (f_X11_bit (f_X4_oneEndOf_3 l2 g))]) (g' := g) (by decide +kernel) rfl ?_
      refine xcallV A (ix := 77) (nxt := 32) hrm hz [.int l2] [.int (f_X11_bit (f_X4_oneEndOf_3 l2 g))] 1201 (c_X4_otherEndOf_3 hS _ rfl) ok_X4_otherEndOf (by decide +kernel) rfl (fun r g1 hq => ?_)
      rw [hq.1, hq.2]
      show xW k S 0 0 32 [some (.ref 42), some (.int l1), some (.int l2), none] [.int (f_X4_otherEndOf_3 l2 g), .int (f_X11_bit (f_X4_oneEndOf_3 l2 g))] g
      refine xcallSN A (ix := 39) (nxt := 35) (host := "NoonRinger") hrm hz [.int (f_X4_otherEndOf_3 l2 g)] [.int (f_X11_bit (f_X4_oneEndOf_3 l2 g))] 23 (c_X11_bit hS _ rfl) ok_X11_bit (by decide +kernel) rfl (fun r g1 hq => ?_)
      rw [hq.1, hq.2]
      show xW k S 0 0 35 [some (.ref 42), some (.int l1), some (.int l2), none] [.int (f_X11_bit (f_X4_otherEndOf_3 l2 g)), .int (f_X11_bit (f_X4_oneEndOf_3 l2 g))] g
      refine xb A [(.ior, 1, 0, 0, .null), (.istore_n 3, 1, 0, 0, .null), (.aload_n 0, 1, 0, 0, .null), (.getfield 19, 3, 42, 1, .ref 38), (.iload_n 2, 1, 0, 0, .null)] (pc' := 42) (ls' := [some (.ref 42), some (.int l1), some (.int l2), some (.int ((f_X11_bit (f_X4_oneEndOf_3 l2 g)) ||| (f_X11_bit (f_X4_otherEndOf_3 l2 g))))]) (st' := [.int l2, .ref 38]) (g' := g) (by decide +kernel) rfl ?_
      refine xcallV A (ix := 29) (nxt := 45) hrm hz [.int l2] [] 903 (c_X10_isOpen_38 hS _ rfl) ok_X10_isOpen (by decide +kernel) rfl (fun r g1 hq => ?_)
      rw [hq.1, hq.2]
      show xW k S 0 0 45 [some (.ref 42), some (.int l1), some (.int l2), some (.int ((f_X11_bit (f_X4_oneEndOf_3 l2 g)) ||| (f_X11_bit (f_X4_otherEndOf_3 l2 g))))] [.int (f_X10_isOpen_38 l2 g)] g
      refine xif_eq A (11) 56 48 (by decide +kernel) (fun h2 => ?_) (fun h2 => ?_)
      · rw [if_pos h2] at H
        refine xb A [(.iinc 2 1, 3, 0, 0, .null)] (pc' := 59) (ls' := [some (.ref 42), some (.int l1), some (.int (l2 + 1)), some (.int ((f_X11_bit (f_X4_oneEndOf_3 l2 g)) ||| (f_X11_bit (f_X4_otherEndOf_3 l2 g))))]) (st' := []) (g' := g) (by decide +kernel) rfl ?_
        refine xgoto A (-57) 2 (by decide +kernel) ?_
        refine xweak (ls' := [some (.ref 42), some (.int l1), some (.int (l2 + 1)), none]) (by exact ⟨rfl, ⟨rfl, ⟨rfl, trivial⟩⟩⟩) ?_
        exact ih _ _ H
      · rw [if_neg h2] at H
        refine xb A [(.iload_n 1, 1, 0, 0, .null), (.iload_n 3, 1, 0, 0, .null), (.iand, 1, 0, 0, .null)] (pc' := 51) (ls' := [some (.ref 42), some (.int l1), some (.int l2), some (.int ((f_X11_bit (f_X4_oneEndOf_3 l2 g)) ||| (f_X11_bit (f_X4_otherEndOf_3 l2 g))))]) (st' := [.int (l1 &&& ((f_X11_bit (f_X4_oneEndOf_3 l2 g)) ||| (f_X11_bit (f_X4_otherEndOf_3 l2 g))))]) (g' := g) (by decide +kernel) rfl ?_
        refine xif_ne A (5) 56 54 (by decide +kernel) (fun h3 => ?_) (fun h3 => ?_)
        · rw [if_neg h3] at H
          refine xb A [(.iinc 2 1, 3, 0, 0, .null)] (pc' := 59) (ls' := [some (.ref 42), some (.int l1), some (.int (l2 + 1)), some (.int ((f_X11_bit (f_X4_oneEndOf_3 l2 g)) ||| (f_X11_bit (f_X4_otherEndOf_3 l2 g))))]) (st' := []) (g' := g) (by decide +kernel) rfl ?_
          refine xgoto A (-57) 2 (by decide +kernel) ?_
          refine xweak (ls' := [some (.ref 42), some (.int l1), some (.int (l2 + 1)), none]) (by exact ⟨rfl, ⟨rfl, ⟨rfl, trivial⟩⟩⟩) ?_
          exact ih _ _ H
        · rw [if_pos h3] at H
          refine xb A [(.iconst 0, 1, 0, 0, .int 0)] (pc' := 55) (ls' := [some (.ref 42), some (.int l1), some (.int l2), some (.int ((f_X11_bit (f_X4_oneEndOf_3 l2 g)) ||| (f_X11_bit (f_X4_otherEndOf_3 l2 g))))]) (st' := [.int 0]) (g' := g) (by decide +kernel) rfl ?_
          obtain rfl := Option.some.inj H
          exact xret_i A hR hz (by decide +kernel) rfl ⟨rfl, rfl⟩
set_option maxRecDepth 20000 in
theorem c_X7_seesAllRoads_42 {S : List xSh} (hS : xpf SH1 S) {g : xG} {p1 : Int32} (out : Int32) (H : f_X7_seesAllRoads_42 p1 g = some out) : xC mX7_seesAllRoads 2 42 0 0 S [.ref 42, .int p1] g S (fun r g' => r = some (.int out) ∧ g' = g) := by
  have H : (f_X7_seesAllRoads_42_2 g xN p1 0) = some out := H
  refine xC.of 7 SH1 [some (.ref 42), some (.int p1), none, none] hS (by decide +kernel) rfl (fun _ _ => Nat.le_of_ble_eq_true rfl) (fun _ _ => rfl) ?_
  intro k A hR hrm hz
  refine xb A [(.iconst 0, 1, 0, 0, .int 0), (.istore_n 2, 1, 0, 0, .null)] (pc' := 2) (ls' := [some (.ref 42), some (.int p1), some (.int 0), none]) (st' := []) (g' := g) (by decide +kernel) rfl ?_
  exact t_X7_seesAllRoads_42_2 hS A hR hrm hz _ _ _ H
def f_X7_clerkTowns_42_15  (g : xG) : Nat → Int32 → Int32 → Option (Int32)
  | 0, _, _ => none
  | n + 1, l1, l2 =>
    if (f_X11_bit (f_X4_towns_3 g)) ≤ l2 then
      some l1
    else
      if (f_J6_bitCount_0f7a4 l1) ≤ (f_J6_bitCount_0f7a4 l2) then
        f_X7_clerkTowns_42_15 g n l1 (l2 + 1)
      else
        (f_X7_seesAllRoads_42 l2 g).bind fun w1 =>
        if w1 = 0 then
          f_X7_clerkTowns_42_15 g n l1 (l2 + 1)
        else
          f_X7_clerkTowns_42_15 g n l2 (l2 + 1)
def f_X7_clerkTowns_42  (g : xG) : Option (Int32) :=
  f_X7_clerkTowns_42_15 g xN ((f_X11_bit (f_X4_towns_3 g)) - 1) 0
set_option maxRecDepth 20000 in
theorem t_X7_clerkTowns_42_15 {k : xK} {S : List xSh} {g : xG} {out : Int32} (hS : xpf SH1 S) (A : xAt k mX7_clerkTowns.2.1 7 SH1 S) (hR : xRet k 0 0 S (fun r g' => r = some (.int out) ∧ g' = g) mX7_clerkTowns.2.2.2) (hrm : xrm k = { frames := 3, cells := 0, slots := 0, locals := 65 }) (hz : xhs k = xb0 k + S.length)   : ∀ (n : Nat) (l1 : Int32) (l2 : Int32), f_X7_clerkTowns_42_15 g n l1 l2 = some out → xW k S 0 0 15 [some (.ref 42), some (.int l1), some (.int l2)] [] g := by
  intro n
  induction n with
  | zero => intro l1 l2 H; exact absurd H (by simp [f_X7_clerkTowns_42_15])
  | succ n ih =>
    intro l1 l2 H
    have H : (if (f_X11_bit (f_X4_towns_3 g)) ≤ l2 then
  some l1
else
  if (f_J6_bitCount_0f7a4 l1) ≤ (f_J6_bitCount_0f7a4 l2) then
    f_X7_clerkTowns_42_15 g n l1 (l2 + 1)
  else
    (f_X7_seesAllRoads_42 l2 g).bind fun w1 =>
    if w1 = 0 then
      f_X7_clerkTowns_42_15 g n l1 (l2 + 1)
    else
      f_X7_clerkTowns_42_15 g n l2 (l2 + 1)) = some out := H
    refine xb A [(.iload_n 2, 1, 0, 0, .null), (.aload_n 0, 1, 0, 0, .null), (.getfield 15, 3, 42, 0, .ref 3)] (pc' := 20) (ls' := [some (.ref 42), some (.int l1), some (.int l2)]) (st' := [.ref 3, .int l2]) (g' := g) (by decide +kernel) rfl ?_
    refine xcallV A (ix := 50) (nxt := 23) hrm hz [] [.int l2] 1111 (c_X4_towns_3 hS _ rfl) ok_X4_towns (by decide +kernel) rfl (fun r g1 hq => ?_)
    rw [hq.1, hq.2]
    show xW k S 0 0 23 [some (.ref 42), some (.int l1), some (.int l2)] [.int (f_X4_towns_3 g), .int l2] g
    refine xcallSN A (ix := 39) (nxt := 26) (host := "NoonRinger") hrm hz [.int (f_X4_towns_3 g)] [.int l2] 23 (c_X11_bit hS _ rfl) ok_X11_bit (by decide +kernel) rfl (fun r g1 hq => ?_)
    rw [hq.1, hq.2]
    show xW k S 0 0 26 [some (.ref 42), some (.int l1), some (.int l2)] [.int (f_X11_bit (f_X4_towns_3 g)), .int l2] g
    refine xic_ge A (30) 56 29 (by decide +kernel) (fun h1 => ?_) (fun h1 => ?_)
    · rw [if_pos h1] at H
      refine xb A [(.iload_n 1, 1, 0, 0, .null)] (pc' := 57) (ls' := [some (.ref 42), some (.int l1), some (.int l2)]) (st' := [.int l1]) (g' := g) (by decide +kernel) rfl ?_
      obtain rfl := Option.some.inj H
      exact xret_i A hR hz (by decide +kernel) rfl ⟨rfl, rfl⟩
    · rw [if_neg h1] at H
      refine xb A [(.iload_n 2, 1, 0, 0, .null)] (pc' := 30) (ls' := [some (.ref 42), some (.int l1), some (.int l2)]) (st' := [.int l2]) (g' := g) (by decide +kernel) rfl ?_
      refine xcallS A (ix := 66) (nxt := 33) hrm hz [.int l2] [] 1195 (c_J6_bitCount_0f7a4 hS _ rfl) ok_J6_bitCount_0f7a4 (by decide +kernel) rfl (fun r g1 hq => ?_)
      rw [hq.1, hq.2]
      show xW k S 0 0 33 [some (.ref 42), some (.int l1), some (.int l2)] [.int (f_J6_bitCount_0f7a4 l2)] g
      refine xb A [(.iload_n 1, 1, 0, 0, .null)] (pc' := 34) (ls' := [some (.ref 42), some (.int l1), some (.int l2)]) (st' := [.int l1, .int (f_J6_bitCount_0f7a4 l2)]) (g' := g) (by decide +kernel) rfl ?_
      refine xcallS A (ix := 66) (nxt := 37) hrm hz [.int l1] [.int (f_J6_bitCount_0f7a4 l2)] 1195 (c_J6_bitCount_0f7a4 hS _ rfl) ok_J6_bitCount_0f7a4 (by decide +kernel) rfl (fun r g1 hq => ?_)
      rw [hq.1, hq.2]
      show xW k S 0 0 37 [some (.ref 42), some (.int l1), some (.int l2)] [.int (f_J6_bitCount_0f7a4 l1), .int (f_J6_bitCount_0f7a4 l2)] g
      refine xic_ge A (13) 50 40 (by decide +kernel) (fun h2 => ?_) (fun h2 => ?_)
      · rw [if_pos h2] at H
        refine xb A [(.iinc 2 1, 3, 0, 0, .null)] (pc' := 53) (ls' := [some (.ref 42), some (.int l1), some (.int (l2 + 1))]) (st' := []) (g' := g) (by decide +kernel) rfl ?_
        refine xgoto A (-38) 15 (by decide +kernel) ?_
        exact ih _ _ H
      · rw [if_neg h2] at H
        refine xb A [(.aload_n 0, 1, 0, 0, .null), (.iload_n 2, 1, 0, 0, .null)] (pc' := 42) (ls' := [some (.ref 42), some (.int l1), some (.int l2)]) (st' := [.int l2, .ref 42]) (g' := g) (by decide +kernel) rfl ?_
        obtain ⟨w1, e1, H⟩ := xbind H
        refine xcallV A (ix := 71) (nxt := 45) hrm hz [.int l2] [] 1196 (c_X7_seesAllRoads_42 hS _ e1) ok_X7_seesAllRoads (by decide +kernel) rfl (fun r g1 hq => ?_)
        rw [hq.1, hq.2]
        show xW k S 0 0 45 [some (.ref 42), some (.int l1), some (.int l2)] [.int w1] g
        refine xif_eq A (5) 50 48 (by decide +kernel) (fun h3 => ?_) (fun h3 => ?_)
        · rw [if_pos h3] at H
          refine xb A [(.iinc 2 1, 3, 0, 0, .null)] (pc' := 53) (ls' := [some (.ref 42), some (.int l1), some (.int (l2 + 1))]) (st' := []) (g' := g) (by decide +kernel) rfl ?_
          refine xgoto A (-38) 15 (by decide +kernel) ?_
          exact ih _ _ H
        · rw [if_neg h3] at H
          refine xb A [(.iload_n 2, 1, 0, 0, .null), (.istore_n 1, 1, 0, 0, .null), (.iinc 2 1, 3, 0, 0, .null)] (pc' := 53) (ls' := [some (.ref 42), some (.int l2), some (.int (l2 + 1))]) (st' := []) (g' := g) (by decide +kernel) rfl ?_
          refine xgoto A (-38) 15 (by decide +kernel) ?_
          exact ih _ _ H
set_option maxRecDepth 20000 in
theorem c_X7_clerkTowns_42 {S : List xSh} (hS : xpf SH1 S) {g : xG}  (out : Int32) (H : f_X7_clerkTowns_42  g = some out) : xC mX7_clerkTowns 3 65 0 0 S [.ref 42] g S (fun r g' => r = some (.int out) ∧ g' = g) := by
  have H : (f_X7_clerkTowns_42_15 g xN ((f_X11_bit (f_X4_towns_3 g)) - 1) 0) = some out := H
  refine xC.of 7 SH1 [some (.ref 42), none, none] hS (by decide +kernel) rfl (fun _ _ => Nat.le_of_ble_eq_true rfl) (fun _ _ => rfl) ?_
  intro k A hR hrm hz
  refine xb A [(.aload_n 0, 1, 0, 0, .null), (.getfield 15, 3, 42, 0, .ref 3)] (pc' := 4) (ls' := [some (.ref 42), none, none]) (st' := [.ref 3]) (g' := g) (by decide +kernel) rfl ?_
  refine xcallV A (ix := 50) (nxt := 7) hrm hz [] [] 1111 (c_X4_towns_3 hS _ rfl) ok_X4_towns (by decide +kernel) rfl (fun r g1 hq => ?_)
  rw [hq.1, hq.2]
  show xW k S 0 0 7 [some (.ref 42), none, none] [.int (f_X4_towns_3 g)] g
  refine xcallSN A (ix := 39) (nxt := 10) (host := "NoonRinger") hrm hz [.int (f_X4_towns_3 g)] [] 23 (c_X11_bit hS _ rfl) ok_X11_bit (by decide +kernel) rfl (fun r g1 hq => ?_)
  rw [hq.1, hq.2]
  show xW k S 0 0 10 [some (.ref 42), none, none] [.int (f_X11_bit (f_X4_towns_3 g))] g
  refine xb A [(.iconst 1, 1, 0, 0, .int 1), (.isub, 1, 0, 0, .null), (.istore_n 1, 1, 0, 0, .null), (.iconst 0, 1, 0, 0, .int 0), (.istore_n 2, 1, 0, 0, .null)] (pc' := 15) (ls' := [some (.ref 42), some (.int ((f_X11_bit (f_X4_towns_3 g)) - 1)), some (.int 0)]) (st' := []) (g' := g) (by decide +kernel) rfl ?_
  exact t_X7_clerkTowns_42_15 hS A hR hrm hz _ _ _ H
def f_X11_clerks_0_11  (g : xG) (l1 : Int32) : Option (Int32) :=
  (f_X7_clerkTowns_42 g).bind fun w1 =>
  if l1 = 0 then
    some (f_J6_bitCount_0f7a4 w1)
  else
    some w1
def f_X11_clerks_0 (p1 : Int32) (g : xG) : Option (Int32) :=
  if p1 = 0 then
    f_X11_clerks_0_11 g p1
  else
    if p1 = 1 then
      f_X11_clerks_0_11 g p1
    else
      some (-1)
set_option maxRecDepth 20000 in
theorem t_X11_clerks_0_11 {k : xK} {S : List xSh} {g : xG} {out : Int32} (hS : xpf SH1 S) (A : xAt k mX11_clerks.2.1 11 SH1 S) (hR : xRet k 0 0 S (fun r g' => r = some (.int out) ∧ g' = g) mX11_clerks.2.2.2) (hrm : xrm k = { frames := 4, cells := 0, slots := 0, locals := 87 }) (hz : xhs k = xb0 k + S.length)   : ∀ (l1 : Int32), f_X11_clerks_0_11 g l1 = some out → xW k S 0 0 11 [some (.ref 0), some (.int l1), none] [] g := by
  intro l1 H
  have H : ((f_X7_clerkTowns_42 g).bind fun w1 =>
if l1 = 0 then
  some (f_J6_bitCount_0f7a4 w1)
else
  some w1) = some out := H
  refine xb A [(.aload_n 0, 1, 0, 0, .null), (.getfield 49, 3, 0, 5, .ref 42)] (pc' := 15) (ls' := [some (.ref 0), some (.int l1), none]) (st' := [.ref 42]) (g' := g) (by decide +kernel) rfl ?_
  obtain ⟨w1, e1, H⟩ := xbind H
  refine xcallV A (ix := 281) (nxt := 18) hrm hz [] [] 1191 (c_X7_clerkTowns_42 hS _ e1) ok_X7_clerkTowns (by decide +kernel) rfl (fun r g1 hq => ?_)
  rw [hq.1, hq.2]
  show xW k S 0 0 18 [some (.ref 0), some (.int l1), none] [.int w1] g
  refine xb A [(.istore_n 2, 1, 0, 0, .null), (.iload_n 1, 1, 0, 0, .null)] (pc' := 20) (ls' := [some (.ref 0), some (.int l1), some (.int w1)]) (st' := [.int l1]) (g' := g) (by decide +kernel) rfl ?_
  refine xif_ne A (10) 30 23 (by decide +kernel) (fun h2 => ?_) (fun h2 => ?_)
  · rw [if_neg h2] at H
    refine xb A [(.iload_n 2, 1, 0, 0, .null)] (pc' := 31) (ls' := [some (.ref 0), some (.int l1), some (.int w1)]) (st' := [.int w1]) (g' := g) (by decide +kernel) rfl ?_
    obtain rfl := Option.some.inj H
    exact xret_i A hR hz (by decide +kernel) rfl ⟨rfl, rfl⟩
  · rw [if_pos h2] at H
    refine xb A [(.iload_n 2, 1, 0, 0, .null)] (pc' := 24) (ls' := [some (.ref 0), some (.int l1), some (.int w1)]) (st' := [.int w1]) (g' := g) (by decide +kernel) rfl ?_
    refine xcallS A (ix := 284) (nxt := 27) hrm hz [.int w1] [] 1202 (c_J6_bitCount_0f7a4 hS _ rfl) ok_J6_bitCount_0f7a4 (by decide +kernel) rfl (fun r g1 hq => ?_)
    rw [hq.1, hq.2]
    show xW k S 0 0 27 [some (.ref 0), some (.int l1), some (.int w1)] [.int (f_J6_bitCount_0f7a4 w1)] g
    refine xgoto A (4) 31 (by decide +kernel) ?_
    obtain rfl := Option.some.inj H
    exact xret_i A hR hz (by decide +kernel) rfl ⟨rfl, rfl⟩
set_option maxRecDepth 20000 in
theorem c_X11_clerks_0 {S : List xSh} (hS : xpf SH1 S) {g : xG} {p1 : Int32} (out : Int32) (H : f_X11_clerks_0 p1 g = some out) : xC mX11_clerks 4 87 0 0 S [.ref 0, .int p1] g S (fun r g' => r = some (.int out) ∧ g' = g) := by
  have H : (if p1 = 0 then
  f_X11_clerks_0_11 g p1
else
  if p1 = 1 then
    f_X11_clerks_0_11 g p1
  else
    some (-1)) = some out := H
  refine xC.of 11 SH1 [some (.ref 0), some (.int p1), none] hS (by decide +kernel) rfl (fun _ _ => Nat.le_of_ble_eq_true rfl) (fun _ _ => rfl) ?_
  intro k A hR hrm hz
  refine xb A [(.iload_n 1, 1, 0, 0, .null)] (pc' := 1) (ls' := [some (.ref 0), some (.int p1), none]) (st' := [.int p1]) (g' := g) (by decide +kernel) rfl ?_
  refine xif_eq A (10) 11 4 (by decide +kernel) (fun h1 => ?_) (fun h1 => ?_)
  · rw [if_pos h1] at H
    exact t_X11_clerks_0_11 hS A hR hrm hz _ H
  · rw [if_neg h1] at H
    refine xb A [(.iload_n 1, 1, 0, 0, .null), (.iconst 1, 1, 0, 0, .int 1)] (pc' := 6) (ls' := [some (.ref 0), some (.int p1), none]) (st' := [.int 1, .int p1]) (g' := g) (by decide +kernel) rfl ?_
    refine xic_eq A (5) 11 9 (by decide +kernel) (fun h3 => ?_) (fun h3 => ?_)
    · rw [if_pos h3] at H
      exact t_X11_clerks_0_11 hS A hR hrm hz _ H
    · rw [if_neg h3] at H
      refine xb A [(.iconst (-1), 1, 0, 0, .int (-1))] (pc' := 10) (ls' := [some (.ref 0), some (.int p1), none]) (st' := [.int (-1)]) (g' := g) (by decide +kernel) rfl ?_
      obtain rfl := Option.some.inj H
      exact xret_i A hR hz (by decide +kernel) rfl ⟨rfl, rfl⟩
def f_X7_greatestFarFrom_42_4  (g : xG) : Nat → Int32 → Int32 → Int32 → Option (Int32)
  | 0, _, _, _ => none
  | n + 1, l1, l2, l3 =>
    if (f_X4_towns_3 g) ≤ l3 then
      some l2
    else
      f_X7_greatestFarFrom_42_4 g n l1 (xmax l2 (f_X10_between_38 l1 l3 g)) (l3 + 1)
def f_X7_greatestFarFrom_42 (p1 : Int32) (g : xG) : Option (Int32) :=
  f_X7_greatestFarFrom_42_4 g xN p1 0 0
set_option maxRecDepth 20000 in
theorem t_X7_greatestFarFrom_42_4 {k : xK} {S : List xSh} {g : xG} {out : Int32} (hS : xpf SH1 S) (A : xAt k mX7_greatestFarFrom.2.1 7 SH1 S) (hR : xRet k 0 0 S (fun r g' => r = some (.int out) ∧ g' = g) mX7_greatestFarFrom.2.2.2) (hrm : xrm k = { frames := 2, cells := 0, slots := 0, locals := 43 }) (hz : xhs k = xb0 k + S.length)   : ∀ (n : Nat) (l1 : Int32) (l2 : Int32) (l3 : Int32), f_X7_greatestFarFrom_42_4 g n l1 l2 l3 = some out → xW k S 0 0 4 [some (.ref 42), some (.int l1), some (.int l2), some (.int l3)] [] g := by
  intro n
  induction n with
  | zero => intro l1 l2 l3 H; exact absurd H (by simp [f_X7_greatestFarFrom_42_4])
  | succ n ih =>
    intro l1 l2 l3 H
    have H : (if (f_X4_towns_3 g) ≤ l3 then
  some l2
else
  f_X7_greatestFarFrom_42_4 g n l1 (xmax l2 (f_X10_between_38 l1 l3 g)) (l3 + 1)) = some out := H
    refine xb A [(.iload_n 3, 1, 0, 0, .null), (.aload_n 0, 1, 0, 0, .null), (.getfield 15, 3, 42, 0, .ref 3)] (pc' := 9) (ls' := [some (.ref 42), some (.int l1), some (.int l2), some (.int l3)]) (st' := [.ref 3, .int l3]) (g' := g) (by decide +kernel) rfl ?_
    refine xcallV A (ix := 50) (nxt := 12) hrm hz [] [.int l3] 1111 (c_X4_towns_3 hS _ rfl) ok_X4_towns (by decide +kernel) rfl (fun r g1 hq => ?_)
    rw [hq.1, hq.2]
    show xW k S 0 0 12 [some (.ref 42), some (.int l1), some (.int l2), some (.int l3)] [.int (f_X4_towns_3 g), .int l3] g
    refine xic_ge A (23) 35 15 (by decide +kernel) (fun h1 => ?_) (fun h1 => ?_)
    · rw [if_pos h1] at H
      refine xb A [(.iload_n 2, 1, 0, 0, .null)] (pc' := 36) (ls' := [some (.ref 42), some (.int l1), some (.int l2), some (.int l3)]) (st' := [.int l2]) (g' := g) (by decide +kernel) rfl ?_
      obtain rfl := Option.some.inj H
      exact xret_i A hR hz (by decide +kernel) rfl ⟨rfl, rfl⟩
    · rw [if_neg h1] at H
      refine xb A [(.iload_n 2, 1, 0, 0, .null), (.aload_n 0, 1, 0, 0, .null), (.getfield 19, 3, 42, 1, .ref 38), (.iload_n 1, 1, 0, 0, .null), (.iload_n 3, 1, 0, 0, .null)] (pc' := 22) (ls' := [some (.ref 42), some (.int l1), some (.int l2), some (.int l3)]) (st' := [.int l3, .int l1, .ref 38, .int l2]) (g' := g) (by decide +kernel) rfl ?_
      refine xcallV A (ix := 80) (nxt := 25) hrm hz [.int l1, .int l3] [.int l2] 1215 (c_X10_between_38 hS _ rfl) ok_X10_between (by decide +kernel) rfl (fun r g1 hq => ?_)
      rw [hq.1, hq.2]
      show xW k S 0 0 25 [some (.ref 42), some (.int l1), some (.int l2), some (.int l3)] [.int (f_X10_between_38 l1 l3 g), .int l2] g
      refine xmmax A (ix := 61) (nxt := 28) hrm [] 1118 (by decide +kernel) rfl ?_
      refine xb A [(.istore_n 2, 1, 0, 0, .null), (.iinc 3 1, 3, 0, 0, .null)] (pc' := 32) (ls' := [some (.ref 42), some (.int l1), some (.int (xmax l2 (f_X10_between_38 l1 l3 g))), some (.int (l3 + 1))]) (st' := []) (g' := g) (by decide +kernel) rfl ?_
      refine xgoto A (-28) 4 (by decide +kernel) ?_
      exact ih _ _ _ H
set_option maxRecDepth 20000 in
theorem c_X7_greatestFarFrom_42 {S : List xSh} (hS : xpf SH1 S) {g : xG} {p1 : Int32} (out : Int32) (H : f_X7_greatestFarFrom_42 p1 g = some out) : xC mX7_greatestFarFrom 2 43 0 0 S [.ref 42, .int p1] g S (fun r g' => r = some (.int out) ∧ g' = g) := by
  have H : (f_X7_greatestFarFrom_42_4 g xN p1 0 0) = some out := H
  refine xC.of 7 SH1 [some (.ref 42), some (.int p1), none, none] hS (by decide +kernel) rfl (fun _ _ => Nat.le_of_ble_eq_true rfl) (fun _ _ => rfl) ?_
  intro k A hR hrm hz
  refine xb A [(.iconst 0, 1, 0, 0, .int 0), (.istore_n 2, 1, 0, 0, .null), (.iconst 0, 1, 0, 0, .int 0), (.istore_n 3, 1, 0, 0, .null)] (pc' := 4) (ls' := [some (.ref 42), some (.int p1), some (.int 0), some (.int 0)]) (st' := []) (g' := g) (by decide +kernel) rfl ?_
  exact t_X7_greatestFarFrom_42_4 hS A hR hrm hz _ _ _ _ H
def f_X7_centralTown_42_5  (g : xG) : Nat → Int32 → Int32 → Option (Int32)
  | 0, _, _ => none
  | n + 1, l1, l2 =>
    if (f_X4_towns_3 g) ≤ l2 then
      some l1
    else
      if l1 < 0 then
        f_X7_centralTown_42_5 g n l2 (l2 + 1)
      else
        (f_X7_greatestFarFrom_42 l2 g).bind fun w1 =>
        (f_X7_greatestFarFrom_42 l1 g).bind fun w2 =>
        if w2 ≤ w1 then
          f_X7_centralTown_42_5 g n l1 (l2 + 1)
        else
          f_X7_centralTown_42_5 g n l2 (l2 + 1)
def f_X7_centralTown_42  (g : xG) : Option (Int32) :=
  f_X7_centralTown_42_5 g xN (-2) 0
set_option maxRecDepth 20000 in
theorem t_X7_centralTown_42_5 {k : xK} {S : List xSh} {g : xG} {out : Int32} (hS : xpf SH1 S) (A : xAt k mX7_centralTown.2.1 7 SH1 S) (hR : xRet k 0 0 S (fun r g' => r = some (.int out) ∧ g' = g) mX7_centralTown.2.2.2) (hrm : xrm k = { frames := 3, cells := 0, slots := 0, locals := 66 }) (hz : xhs k = xb0 k + S.length)   : ∀ (n : Nat) (l1 : Int32) (l2 : Int32), f_X7_centralTown_42_5 g n l1 l2 = some out → xW k S 0 0 5 [some (.ref 42), some (.int l1), some (.int l2)] [] g := by
  intro n
  induction n with
  | zero => intro l1 l2 H; exact absurd H (by simp [f_X7_centralTown_42_5])
  | succ n ih =>
    intro l1 l2 H
    have H : (if (f_X4_towns_3 g) ≤ l2 then
  some l1
else
  if l1 < 0 then
    f_X7_centralTown_42_5 g n l2 (l2 + 1)
  else
    (f_X7_greatestFarFrom_42 l2 g).bind fun w1 =>
    (f_X7_greatestFarFrom_42 l1 g).bind fun w2 =>
    if w2 ≤ w1 then
      f_X7_centralTown_42_5 g n l1 (l2 + 1)
    else
      f_X7_centralTown_42_5 g n l2 (l2 + 1)) = some out := H
    refine xb A [(.iload_n 2, 1, 0, 0, .null), (.aload_n 0, 1, 0, 0, .null), (.getfield 15, 3, 42, 0, .ref 3)] (pc' := 10) (ls' := [some (.ref 42), some (.int l1), some (.int l2)]) (st' := [.ref 3, .int l2]) (g' := g) (by decide +kernel) rfl ?_
    refine xcallV A (ix := 50) (nxt := 13) hrm hz [] [.int l2] 1111 (c_X4_towns_3 hS _ rfl) ok_X4_towns (by decide +kernel) rfl (fun r g1 hq => ?_)
    rw [hq.1, hq.2]
    show xW k S 0 0 13 [some (.ref 42), some (.int l1), some (.int l2)] [.int (f_X4_towns_3 g), .int l2] g
    refine xic_ge A (28) 41 16 (by decide +kernel) (fun h1 => ?_) (fun h1 => ?_)
    · rw [if_pos h1] at H
      refine xb A [(.iload_n 1, 1, 0, 0, .null)] (pc' := 42) (ls' := [some (.ref 42), some (.int l1), some (.int l2)]) (st' := [.int l1]) (g' := g) (by decide +kernel) rfl ?_
      obtain rfl := Option.some.inj H
      exact xret_i A hR hz (by decide +kernel) rfl ⟨rfl, rfl⟩
    · rw [if_neg h1] at H
      refine xb A [(.iload_n 1, 1, 0, 0, .null)] (pc' := 17) (ls' := [some (.ref 42), some (.int l1), some (.int l2)]) (st' := [.int l1]) (g' := g) (by decide +kernel) rfl ?_
      refine xif_lt A (16) 33 20 (by decide +kernel) (fun h2 => ?_) (fun h2 => ?_)
      · rw [if_pos h2] at H
        refine xb A [(.iload_n 2, 1, 0, 0, .null), (.istore_n 1, 1, 0, 0, .null), (.iinc 2 1, 3, 0, 0, .null)] (pc' := 38) (ls' := [some (.ref 42), some (.int l2), some (.int (l2 + 1))]) (st' := []) (g' := g) (by decide +kernel) rfl ?_
        refine xgoto A (-33) 5 (by decide +kernel) ?_
        exact ih _ _ H
      · rw [if_neg h2] at H
        refine xb A [(.aload_n 0, 1, 0, 0, .null), (.iload_n 2, 1, 0, 0, .null)] (pc' := 22) (ls' := [some (.ref 42), some (.int l1), some (.int l2)]) (st' := [.int l2, .ref 42]) (g' := g) (by decide +kernel) rfl ?_
        obtain ⟨w1, e1, H⟩ := xbind H
        refine xcallV A (ix := 83) (nxt := 25) hrm hz [.int l2] [] 1211 (c_X7_greatestFarFrom_42 hS _ e1) ok_X7_greatestFarFrom (by decide +kernel) rfl (fun r g1 hq => ?_)
        rw [hq.1, hq.2]
        show xW k S 0 0 25 [some (.ref 42), some (.int l1), some (.int l2)] [.int w1] g
        refine xb A [(.aload_n 0, 1, 0, 0, .null), (.iload_n 1, 1, 0, 0, .null)] (pc' := 27) (ls' := [some (.ref 42), some (.int l1), some (.int l2)]) (st' := [.int l1, .ref 42, .int w1]) (g' := g) (by decide +kernel) rfl ?_
        obtain ⟨w2, e2, H⟩ := xbind H
        refine xcallV A (ix := 83) (nxt := 30) hrm hz [.int l1] [.int w1] 1211 (c_X7_greatestFarFrom_42 hS _ e2) ok_X7_greatestFarFrom (by decide +kernel) rfl (fun r g1 hq => ?_)
        rw [hq.1, hq.2]
        show xW k S 0 0 30 [some (.ref 42), some (.int l1), some (.int l2)] [.int w2, .int w1] g
        refine xic_ge A (5) 35 33 (by decide +kernel) (fun h3 => ?_) (fun h3 => ?_)
        · rw [if_pos h3] at H
          refine xb A [(.iinc 2 1, 3, 0, 0, .null)] (pc' := 38) (ls' := [some (.ref 42), some (.int l1), some (.int (l2 + 1))]) (st' := []) (g' := g) (by decide +kernel) rfl ?_
          refine xgoto A (-33) 5 (by decide +kernel) ?_
          exact ih _ _ H
        · rw [if_neg h3] at H
          refine xb A [(.iload_n 2, 1, 0, 0, .null), (.istore_n 1, 1, 0, 0, .null), (.iinc 2 1, 3, 0, 0, .null)] (pc' := 38) (ls' := [some (.ref 42), some (.int l2), some (.int (l2 + 1))]) (st' := []) (g' := g) (by decide +kernel) rfl ?_
          refine xgoto A (-33) 5 (by decide +kernel) ?_
          exact ih _ _ H
set_option maxRecDepth 20000 in
theorem c_X7_centralTown_42 {S : List xSh} (hS : xpf SH1 S) {g : xG}  (out : Int32) (H : f_X7_centralTown_42  g = some out) : xC mX7_centralTown 3 66 0 0 S [.ref 42] g S (fun r g' => r = some (.int out) ∧ g' = g) := by
  have H : (f_X7_centralTown_42_5 g xN (-2) 0) = some out := H
  refine xC.of 7 SH1 [some (.ref 42), none, none] hS (by decide +kernel) rfl (fun _ _ => Nat.le_of_ble_eq_true rfl) (fun _ _ => rfl) ?_
  intro k A hR hrm hz
  refine xb A [(.bipush (-2), 2, 0, 0, .int (-2)), (.istore_n 1, 1, 0, 0, .null), (.iconst 0, 1, 0, 0, .int 0), (.istore_n 2, 1, 0, 0, .null)] (pc' := 5) (ls' := [some (.ref 42), some (.int (-2)), some (.int 0)]) (st' := []) (g' := g) (by decide +kernel) rfl ?_
  exact t_X7_centralTown_42_5 hS A hR hrm hz _ _ _ H
def f_X11_centre_0_11  (g : xG) (l1 : Int32) : Option (Int32) :=
  (f_X7_centralTown_42 g).bind fun w1 =>
  if 0 ≤ w1 then
    if l1 = 0 then
      some w1
    else
      (f_X7_greatestFarFrom_42 w1 g).bind fun w2 =>
      some w2
  else
    some (-2)
def f_X11_centre_0 (p1 : Int32) (g : xG) : Option (Int32) :=
  if p1 = 0 then
    f_X11_centre_0_11 g p1
  else
    if p1 = 1 then
      f_X11_centre_0_11 g p1
    else
      some (-1)
set_option maxRecDepth 20000 in
theorem t_X11_centre_0_11 {k : xK} {S : List xSh} {g : xG} {out : Int32} (hS : xpf SH1 S) (A : xAt k mX11_centre.2.1 11 SH1 S) (hR : xRet k 0 0 S (fun r g' => r = some (.int out) ∧ g' = g) mX11_centre.2.2.2) (hrm : xrm k = { frames := 4, cells := 0, slots := 0, locals := 88 }) (hz : xhs k = xb0 k + S.length)   : ∀ (l1 : Int32), f_X11_centre_0_11 g l1 = some out → xW k S 0 0 11 [some (.ref 0), some (.int l1), none] [] g := by
  intro l1 H
  have H : ((f_X7_centralTown_42 g).bind fun w1 =>
if 0 ≤ w1 then
  if l1 = 0 then
    some w1
  else
    (f_X7_greatestFarFrom_42 w1 g).bind fun w2 =>
    some w2
else
  some (-2)) = some out := H
  refine xb A [(.aload_n 0, 1, 0, 0, .null), (.getfield 49, 3, 0, 5, .ref 42)] (pc' := 15) (ls' := [some (.ref 0), some (.int l1), none]) (st' := [.ref 42]) (g' := g) (by decide +kernel) rfl ?_
  obtain ⟨w1, e1, H⟩ := xbind H
  refine xcallV A (ix := 289) (nxt := 18) hrm hz [] [] 1207 (c_X7_centralTown_42 hS _ e1) ok_X7_centralTown (by decide +kernel) rfl (fun r g1 hq => ?_)
  rw [hq.1, hq.2]
  show xW k S 0 0 18 [some (.ref 0), some (.int l1), none] [.int w1] g
  refine xb A [(.istore_n 2, 1, 0, 0, .null), (.iload_n 2, 1, 0, 0, .null)] (pc' := 20) (ls' := [some (.ref 0), some (.int l1), some (.int w1)]) (st' := [.int w1]) (g' := g) (by decide +kernel) rfl ?_
  refine xif_ge A (6) 26 23 (by decide +kernel) (fun h2 => ?_) (fun h2 => ?_)
  · rw [if_pos h2] at H
    refine xb A [(.iload_n 1, 1, 0, 0, .null)] (pc' := 27) (ls' := [some (.ref 0), some (.int l1), some (.int w1)]) (st' := [.int l1]) (g' := g) (by decide +kernel) rfl ?_
    refine xif_ne A (7) 34 30 (by decide +kernel) (fun h3 => ?_) (fun h3 => ?_)
    · rw [if_neg h3] at H
      refine xb A [(.aload_n 0, 1, 0, 0, .null), (.getfield 49, 3, 0, 5, .ref 42), (.iload_n 2, 1, 0, 0, .null)] (pc' := 39) (ls' := [some (.ref 0), some (.int l1), some (.int w1)]) (st' := [.int w1, .ref 42]) (g' := g) (by decide +kernel) rfl ?_
      obtain ⟨w2, e2, H⟩ := xbind H
      refine xcallV A (ix := 292) (nxt := 42) hrm hz [.int w1] [] 1216 (c_X7_greatestFarFrom_42 hS _ e2) ok_X7_greatestFarFrom (by decide +kernel) rfl (fun r g1 hq => ?_)
      rw [hq.1, hq.2]
      show xW k S 0 0 42 [some (.ref 0), some (.int l1), some (.int w1)] [.int w2] g
      obtain rfl := Option.some.inj H
      exact xret_i A hR hz (by decide +kernel) rfl ⟨rfl, rfl⟩
    · rw [if_pos h3] at H
      refine xb A [(.iload_n 2, 1, 0, 0, .null)] (pc' := 31) (ls' := [some (.ref 0), some (.int l1), some (.int w1)]) (st' := [.int w1]) (g' := g) (by decide +kernel) rfl ?_
      refine xgoto A (11) 42 (by decide +kernel) ?_
      obtain rfl := Option.some.inj H
      exact xret_i A hR hz (by decide +kernel) rfl ⟨rfl, rfl⟩
  · rw [if_neg h2] at H
    refine xb A [(.bipush (-2), 2, 0, 0, .int (-2))] (pc' := 25) (ls' := [some (.ref 0), some (.int l1), some (.int w1)]) (st' := [.int (-2)]) (g' := g) (by decide +kernel) rfl ?_
    obtain rfl := Option.some.inj H
    exact xret_i A hR hz (by decide +kernel) rfl ⟨rfl, rfl⟩
set_option maxRecDepth 20000 in
theorem c_X11_centre_0 {S : List xSh} (hS : xpf SH1 S) {g : xG} {p1 : Int32} (out : Int32) (H : f_X11_centre_0 p1 g = some out) : xC mX11_centre 4 88 0 0 S [.ref 0, .int p1] g S (fun r g' => r = some (.int out) ∧ g' = g) := by
  have H : (if p1 = 0 then
  f_X11_centre_0_11 g p1
else
  if p1 = 1 then
    f_X11_centre_0_11 g p1
  else
    some (-1)) = some out := H
  refine xC.of 11 SH1 [some (.ref 0), some (.int p1), none] hS (by decide +kernel) rfl (fun _ _ => Nat.le_of_ble_eq_true rfl) (fun _ _ => rfl) ?_
  intro k A hR hrm hz
  refine xb A [(.iload_n 1, 1, 0, 0, .null)] (pc' := 1) (ls' := [some (.ref 0), some (.int p1), none]) (st' := [.int p1]) (g' := g) (by decide +kernel) rfl ?_
  refine xif_eq A (10) 11 4 (by decide +kernel) (fun h1 => ?_) (fun h1 => ?_)
  · rw [if_pos h1] at H
    exact t_X11_centre_0_11 hS A hR hrm hz _ H
  · rw [if_neg h1] at H
    refine xb A [(.iload_n 1, 1, 0, 0, .null), (.iconst 1, 1, 0, 0, .int 1)] (pc' := 6) (ls' := [some (.ref 0), some (.int p1), none]) (st' := [.int 1, .int p1]) (g' := g) (by decide +kernel) rfl ?_
    refine xic_eq A (5) 11 9 (by decide +kernel) (fun h4 => ?_) (fun h4 => ?_)
    · rw [if_pos h4] at H
      exact t_X11_centre_0_11 hS A hR hrm hz _ H
    · rw [if_neg h4] at H
      refine xb A [(.iconst (-1), 1, 0, 0, .int (-1))] (pc' := 10) (ls' := [some (.ref 0), some (.int p1), none]) (st' := [.int (-1)]) (g' := g) (by decide +kernel) rfl ?_
      obtain rfl := Option.some.inj H
      exact xret_i A hR hz (by decide +kernel) rfl ⟨rfl, rfl⟩
def f_X7_allFarTo_42_48_5  (g : xG) : Nat → Int32 → Int32 → Int32 → Option (Int32)
  | 0, _, _, _ => none
  | n + 1, l1, l3, l4 =>
    if (f_X4_people_3 g) ≤ l4 then
      some l3
    else
      f_X7_allFarTo_42_48_5 g n l1 (l3 + (f_X10_between_38 (f_X6_of_48 l4 5 g) l1 g)) (l4 + 1)
def f_X7_allFarTo_42_48 (p1 : Int32) (g : xG) : Option (Int32) :=
  f_X7_allFarTo_42_48_5 g xN p1 0 0
set_option maxRecDepth 20000 in
theorem t_X7_allFarTo_42_48_5 {k : xK} {S : List xSh} {g : xG} {out : Int32} (hS : xpf SH1 S) (A : xAt k mX7_allFarTo.2.1 7 SH1 S) (hR : xRet k 0 0 S (fun r g' => r = some (.int out) ∧ g' = g) mX7_allFarTo.2.2.2) (hrm : xrm k = { frames := 2, cells := 0, slots := 0, locals := 43 }) (hz : xhs k = xb0 k + S.length)   : ∀ (n : Nat) (l1 : Int32) (l3 : Int32) (l4 : Int32), f_X7_allFarTo_42_48_5 g n l1 l3 l4 = some out → xW k S 0 0 5 [some (.ref 42), some (.int l1), some (.ref 48), some (.int l3), some (.int l4)] [] g := by
  intro n
  induction n with
  | zero => intro l1 l3 l4 H; exact absurd H (by simp [f_X7_allFarTo_42_48_5])
  | succ n ih =>
    intro l1 l3 l4 H
    have H : (if (f_X4_people_3 g) ≤ l4 then
  some l3
else
  f_X7_allFarTo_42_48_5 g n l1 (l3 + (f_X10_between_38 (f_X6_of_48 l4 5 g) l1 g)) (l4 + 1)) = some out := H
    refine xb A [(.iload 4, 2, 0, 0, .null), (.aload_n 0, 1, 0, 0, .null), (.getfield 15, 3, 42, 0, .ref 3)] (pc' := 11) (ls' := [some (.ref 42), some (.int l1), some (.ref 48), some (.int l3), some (.int l4)]) (st' := [.ref 3, .int l4]) (g' := g) (by decide +kernel) rfl ?_
    refine xcallV A (ix := 86) (nxt := 14) hrm hz [] [.int l4] 1229 (c_X4_people_3 hS _ rfl) ok_X4_people (by decide +kernel) rfl (fun r g1 hq => ?_)
    rw [hq.1, hq.2]
    show xW k S 0 0 14 [some (.ref 42), some (.int l1), some (.ref 48), some (.int l3), some (.int l4)] [.int (f_X4_people_3 g), .int l4] g
    refine xic_ge A (27) 41 17 (by decide +kernel) (fun h1 => ?_) (fun h1 => ?_)
    · rw [if_pos h1] at H
      refine xb A [(.iload_n 3, 1, 0, 0, .null)] (pc' := 42) (ls' := [some (.ref 42), some (.int l1), some (.ref 48), some (.int l3), some (.int l4)]) (st' := [.int l3]) (g' := g) (by decide +kernel) rfl ?_
      obtain rfl := Option.some.inj H
      exact xret_i A hR hz (by decide +kernel) rfl ⟨rfl, rfl⟩
    · rw [if_neg h1] at H
      refine xb A [(.iload_n 3, 1, 0, 0, .null), (.aload_n 0, 1, 0, 0, .null), (.getfield 19, 3, 42, 1, .ref 38), (.aload_n 2, 1, 0, 0, .null), (.iload 4, 2, 0, 0, .null), (.iconst 5, 1, 0, 0, .int 5)] (pc' := 26) (ls' := [some (.ref 42), some (.int l1), some (.ref 48), some (.int l3), some (.int l4)]) (st' := [.int 5, .int l4, .ref 48, .ref 38, .int l3]) (g' := g) (by decide +kernel) rfl ?_
      refine xcallV A (ix := 91) (nxt := 29) hrm hz [.int l4, .int 5] [.ref 38, .int l3] 1230 (c_X6_of_48 hS _ rfl) ok_X6_of (by decide +kernel) rfl (fun r g1 hq => ?_)
      rw [hq.1, hq.2]
      show xW k S 0 0 29 [some (.ref 42), some (.int l1), some (.ref 48), some (.int l3), some (.int l4)] [.int (f_X6_of_48 l4 5 g), .ref 38, .int l3] g
      refine xb A [(.iload_n 1, 1, 0, 0, .null)] (pc' := 30) (ls' := [some (.ref 42), some (.int l1), some (.ref 48), some (.int l3), some (.int l4)]) (st' := [.int l1, .int (f_X6_of_48 l4 5 g), .ref 38, .int l3]) (g' := g) (by decide +kernel) rfl ?_
      refine xcallV A (ix := 80) (nxt := 33) hrm hz [.int (f_X6_of_48 l4 5 g), .int l1] [.int l3] 1215 (c_X10_between_38 hS _ rfl) ok_X10_between (by decide +kernel) rfl (fun r g1 hq => ?_)
      rw [hq.1, hq.2]
      show xW k S 0 0 33 [some (.ref 42), some (.int l1), some (.ref 48), some (.int l3), some (.int l4)] [.int (f_X10_between_38 (f_X6_of_48 l4 5 g) l1 g), .int l3] g
      refine xb A [(.iadd, 1, 0, 0, .null), (.istore_n 3, 1, 0, 0, .null), (.iinc 4 1, 3, 0, 0, .null)] (pc' := 38) (ls' := [some (.ref 42), some (.int l1), some (.ref 48), some (.int (l3 + (f_X10_between_38 (f_X6_of_48 l4 5 g) l1 g))), some (.int (l4 + 1))]) (st' := []) (g' := g) (by decide +kernel) rfl ?_
      refine xgoto A (-33) 5 (by decide +kernel) ?_
      exact ih _ _ _ H
set_option maxRecDepth 20000 in
theorem c_X7_allFarTo_42_48 {S : List xSh} (hS : xpf SH1 S) {g : xG} {p1 : Int32} (out : Int32) (H : f_X7_allFarTo_42_48 p1 g = some out) : xC mX7_allFarTo 2 43 0 0 S [.ref 42, .int p1, .ref 48] g S (fun r g' => r = some (.int out) ∧ g' = g) := by
  have H : (f_X7_allFarTo_42_48_5 g xN p1 0 0) = some out := H
  refine xC.of 7 SH1 [some (.ref 42), some (.int p1), some (.ref 48), none, none] hS (by decide +kernel) rfl (fun _ _ => Nat.le_of_ble_eq_true rfl) (fun _ _ => rfl) ?_
  intro k A hR hrm hz
  refine xb A [(.iconst 0, 1, 0, 0, .int 0), (.istore_n 3, 1, 0, 0, .null), (.iconst 0, 1, 0, 0, .int 0), (.istore 4, 2, 0, 0, .null)] (pc' := 5) (ls' := [some (.ref 42), some (.int p1), some (.ref 48), some (.int 0), some (.int 0)]) (st' := []) (g' := g) (by decide +kernel) rfl ?_
  exact t_X7_allFarTo_42_48_5 hS A hR hrm hz _ _ _ _ H
def f_X7_meetingTown_42_48_5  (g : xG) : Nat → Int32 → Int32 → Option (Int32)
  | 0, _, _ => none
  | n + 1, l2, l3 =>
    if (f_X4_towns_3 g) ≤ l3 then
      some l2
    else
      if l2 < 0 then
        f_X7_meetingTown_42_48_5 g n l3 (l3 + 1)
      else
        (f_X7_allFarTo_42_48 l3 g).bind fun w1 =>
        (f_X7_allFarTo_42_48 l2 g).bind fun w2 =>
        if w2 ≤ w1 then
          f_X7_meetingTown_42_48_5 g n l2 (l3 + 1)
        else
          f_X7_meetingTown_42_48_5 g n l3 (l3 + 1)
def f_X7_meetingTown_42_48  (g : xG) : Option (Int32) :=
  f_X7_meetingTown_42_48_5 g xN (-2) 0
set_option maxRecDepth 20000 in
theorem t_X7_meetingTown_42_48_5 {k : xK} {S : List xSh} {g : xG} {out : Int32} (hS : xpf SH1 S) (A : xAt k mX7_meetingTown.2.1 7 SH1 S) (hR : xRet k 0 0 S (fun r g' => r = some (.int out) ∧ g' = g) mX7_meetingTown.2.2.2) (hrm : xrm k = { frames := 3, cells := 0, slots := 0, locals := 67 }) (hz : xhs k = xb0 k + S.length)   : ∀ (n : Nat) (l2 : Int32) (l3 : Int32), f_X7_meetingTown_42_48_5 g n l2 l3 = some out → xW k S 0 0 5 [some (.ref 42), some (.ref 48), some (.int l2), some (.int l3)] [] g := by
  intro n
  induction n with
  | zero => intro l2 l3 H; exact absurd H (by simp [f_X7_meetingTown_42_48_5])
  | succ n ih =>
    intro l2 l3 H
    have H : (if (f_X4_towns_3 g) ≤ l3 then
  some l2
else
  if l2 < 0 then
    f_X7_meetingTown_42_48_5 g n l3 (l3 + 1)
  else
    (f_X7_allFarTo_42_48 l3 g).bind fun w1 =>
    (f_X7_allFarTo_42_48 l2 g).bind fun w2 =>
    if w2 ≤ w1 then
      f_X7_meetingTown_42_48_5 g n l2 (l3 + 1)
    else
      f_X7_meetingTown_42_48_5 g n l3 (l3 + 1)) = some out := H
    refine xb A [(.iload_n 3, 1, 0, 0, .null), (.aload_n 0, 1, 0, 0, .null), (.getfield 15, 3, 42, 0, .ref 3)] (pc' := 10) (ls' := [some (.ref 42), some (.ref 48), some (.int l2), some (.int l3)]) (st' := [.ref 3, .int l3]) (g' := g) (by decide +kernel) rfl ?_
    refine xcallV A (ix := 50) (nxt := 13) hrm hz [] [.int l3] 1111 (c_X4_towns_3 hS _ rfl) ok_X4_towns (by decide +kernel) rfl (fun r g1 hq => ?_)
    rw [hq.1, hq.2]
    show xW k S 0 0 13 [some (.ref 42), some (.ref 48), some (.int l2), some (.int l3)] [.int (f_X4_towns_3 g), .int l3] g
    refine xic_ge A (30) 43 16 (by decide +kernel) (fun h1 => ?_) (fun h1 => ?_)
    · rw [if_pos h1] at H
      refine xb A [(.iload_n 2, 1, 0, 0, .null)] (pc' := 44) (ls' := [some (.ref 42), some (.ref 48), some (.int l2), some (.int l3)]) (st' := [.int l2]) (g' := g) (by decide +kernel) rfl ?_
      obtain rfl := Option.some.inj H
      exact xret_i A hR hz (by decide +kernel) rfl ⟨rfl, rfl⟩
    · rw [if_neg h1] at H
      refine xb A [(.iload_n 2, 1, 0, 0, .null)] (pc' := 17) (ls' := [some (.ref 42), some (.ref 48), some (.int l2), some (.int l3)]) (st' := [.int l2]) (g' := g) (by decide +kernel) rfl ?_
      refine xif_lt A (18) 35 20 (by decide +kernel) (fun h2 => ?_) (fun h2 => ?_)
      · rw [if_pos h2] at H
        refine xb A [(.iload_n 3, 1, 0, 0, .null), (.istore_n 2, 1, 0, 0, .null), (.iinc 3 1, 3, 0, 0, .null)] (pc' := 40) (ls' := [some (.ref 42), some (.ref 48), some (.int l3), some (.int (l3 + 1))]) (st' := []) (g' := g) (by decide +kernel) rfl ?_
        refine xgoto A (-35) 5 (by decide +kernel) ?_
        exact ih _ _ H
      · rw [if_neg h2] at H
        refine xb A [(.aload_n 0, 1, 0, 0, .null), (.iload_n 3, 1, 0, 0, .null), (.aload_n 1, 1, 0, 0, .null)] (pc' := 23) (ls' := [some (.ref 42), some (.ref 48), some (.int l2), some (.int l3)]) (st' := [.ref 48, .int l3, .ref 42]) (g' := g) (by decide +kernel) rfl ?_
        obtain ⟨w1, e1, H⟩ := xbind H
        refine xcallV A (ix := 94) (nxt := 26) hrm hz [.int l3, .ref 48] [] 1225 (c_X7_allFarTo_42_48 hS _ e1) ok_X7_allFarTo (by decide +kernel) rfl (fun r g1 hq => ?_)
        rw [hq.1, hq.2]
        show xW k S 0 0 26 [some (.ref 42), some (.ref 48), some (.int l2), some (.int l3)] [.int w1] g
        refine xb A [(.aload_n 0, 1, 0, 0, .null), (.iload_n 2, 1, 0, 0, .null), (.aload_n 1, 1, 0, 0, .null)] (pc' := 29) (ls' := [some (.ref 42), some (.ref 48), some (.int l2), some (.int l3)]) (st' := [.ref 48, .int l2, .ref 42, .int w1]) (g' := g) (by decide +kernel) rfl ?_
        obtain ⟨w2, e2, H⟩ := xbind H
        refine xcallV A (ix := 94) (nxt := 32) hrm hz [.int l2, .ref 48] [.int w1] 1225 (c_X7_allFarTo_42_48 hS _ e2) ok_X7_allFarTo (by decide +kernel) rfl (fun r g1 hq => ?_)
        rw [hq.1, hq.2]
        show xW k S 0 0 32 [some (.ref 42), some (.ref 48), some (.int l2), some (.int l3)] [.int w2, .int w1] g
        refine xic_ge A (5) 37 35 (by decide +kernel) (fun h3 => ?_) (fun h3 => ?_)
        · rw [if_pos h3] at H
          refine xb A [(.iinc 3 1, 3, 0, 0, .null)] (pc' := 40) (ls' := [some (.ref 42), some (.ref 48), some (.int l2), some (.int (l3 + 1))]) (st' := []) (g' := g) (by decide +kernel) rfl ?_
          refine xgoto A (-35) 5 (by decide +kernel) ?_
          exact ih _ _ H
        · rw [if_neg h3] at H
          refine xb A [(.iload_n 3, 1, 0, 0, .null), (.istore_n 2, 1, 0, 0, .null), (.iinc 3 1, 3, 0, 0, .null)] (pc' := 40) (ls' := [some (.ref 42), some (.ref 48), some (.int l3), some (.int (l3 + 1))]) (st' := []) (g' := g) (by decide +kernel) rfl ?_
          refine xgoto A (-35) 5 (by decide +kernel) ?_
          exact ih _ _ H
set_option maxRecDepth 20000 in
theorem c_X7_meetingTown_42_48 {S : List xSh} (hS : xpf SH1 S) {g : xG}  (out : Int32) (H : f_X7_meetingTown_42_48  g = some out) : xC mX7_meetingTown 3 67 0 0 S [.ref 42, .ref 48] g S (fun r g' => r = some (.int out) ∧ g' = g) := by
  have H : (f_X7_meetingTown_42_48_5 g xN (-2) 0) = some out := H
  refine xC.of 7 SH1 [some (.ref 42), some (.ref 48), none, none] hS (by decide +kernel) rfl (fun _ _ => Nat.le_of_ble_eq_true rfl) (fun _ _ => rfl) ?_
  intro k A hR hrm hz
  refine xb A [(.bipush (-2), 2, 0, 0, .int (-2)), (.istore_n 2, 1, 0, 0, .null), (.iconst 0, 1, 0, 0, .int 0), (.istore_n 3, 1, 0, 0, .null)] (pc' := 5) (ls' := [some (.ref 42), some (.ref 48), some (.int (-2)), some (.int 0)]) (st' := []) (g' := g) (by decide +kernel) rfl ?_
  exact t_X7_meetingTown_42_48_5 hS A hR hrm hz _ _ _ H
def f_X11_meet_0_11  (g : xG) (l1 : Int32) : Option (Int32) :=
  (f_X7_meetingTown_42_48 g).bind fun w1 =>
  if 0 ≤ w1 then
    if l1 = 0 then
      some w1
    else
      (f_X7_allFarTo_42_48 w1 g).bind fun w2 =>
      some w2
  else
    some (-2)
def f_X11_meet_0 (p1 : Int32) (g : xG) : Option (Int32) :=
  if p1 = 0 then
    f_X11_meet_0_11 g p1
  else
    if p1 = 1 then
      f_X11_meet_0_11 g p1
    else
      some (-1)
set_option maxRecDepth 20000 in
theorem t_X11_meet_0_11 {k : xK} {S : List xSh} {g : xG} {out : Int32} (hS : xpf SH1 S) (A : xAt k mX11_meet.2.1 11 SH1 S) (hR : xRet k 0 0 S (fun r g' => r = some (.int out) ∧ g' = g) mX11_meet.2.2.2) (hrm : xrm k = { frames := 4, cells := 0, slots := 0, locals := 90 }) (hz : xhs k = xb0 k + S.length)   : ∀ (l1 : Int32), f_X11_meet_0_11 g l1 = some out → xW k S 0 0 11 [some (.ref 0), some (.int l1), none] [] g := by
  intro l1 H
  have H : ((f_X7_meetingTown_42_48 g).bind fun w1 =>
if 0 ≤ w1 then
  if l1 = 0 then
    some w1
  else
    (f_X7_allFarTo_42_48 w1 g).bind fun w2 =>
    some w2
else
  some (-2)) = some out := H
  refine xb A [(.aload_n 0, 1, 0, 0, .null), (.getfield 49, 3, 0, 5, .ref 42), (.aload_n 0, 1, 0, 0, .null), (.getfield 66, 3, 0, 8, .ref 48)] (pc' := 19) (ls' := [some (.ref 0), some (.int l1), none]) (st' := [.ref 48, .ref 42]) (g' := g) (by decide +kernel) rfl ?_
  obtain ⟨w1, e1, H⟩ := xbind H
  refine xcallV A (ix := 295) (nxt := 22) hrm hz [.ref 48] [] 1221 (c_X7_meetingTown_42_48 hS _ e1) ok_X7_meetingTown (by decide +kernel) rfl (fun r g1 hq => ?_)
  rw [hq.1, hq.2]
  show xW k S 0 0 22 [some (.ref 0), some (.int l1), none] [.int w1] g
  refine xb A [(.istore_n 2, 1, 0, 0, .null), (.iload_n 2, 1, 0, 0, .null)] (pc' := 24) (ls' := [some (.ref 0), some (.int l1), some (.int w1)]) (st' := [.int w1]) (g' := g) (by decide +kernel) rfl ?_
  refine xif_ge A (6) 30 27 (by decide +kernel) (fun h2 => ?_) (fun h2 => ?_)
  · rw [if_pos h2] at H
    refine xb A [(.iload_n 1, 1, 0, 0, .null)] (pc' := 31) (ls' := [some (.ref 0), some (.int l1), some (.int w1)]) (st' := [.int l1]) (g' := g) (by decide +kernel) rfl ?_
    refine xif_ne A (7) 38 34 (by decide +kernel) (fun h3 => ?_) (fun h3 => ?_)
    · rw [if_neg h3] at H
      refine xb A [(.aload_n 0, 1, 0, 0, .null), (.getfield 49, 3, 0, 5, .ref 42), (.iload_n 2, 1, 0, 0, .null), (.aload_n 0, 1, 0, 0, .null), (.getfield 66, 3, 0, 8, .ref 48)] (pc' := 47) (ls' := [some (.ref 0), some (.int l1), some (.int w1)]) (st' := [.ref 48, .int w1, .ref 42]) (g' := g) (by decide +kernel) rfl ?_
      obtain ⟨w2, e2, H⟩ := xbind H
      refine xcallV A (ix := 298) (nxt := 50) hrm hz [.int w1, .ref 48] [] 1231 (c_X7_allFarTo_42_48 hS _ e2) ok_X7_allFarTo (by decide +kernel) rfl (fun r g1 hq => ?_)
      rw [hq.1, hq.2]
      show xW k S 0 0 50 [some (.ref 0), some (.int l1), some (.int w1)] [.int w2] g
      obtain rfl := Option.some.inj H
      exact xret_i A hR hz (by decide +kernel) rfl ⟨rfl, rfl⟩
    · rw [if_pos h3] at H
      refine xb A [(.iload_n 2, 1, 0, 0, .null)] (pc' := 35) (ls' := [some (.ref 0), some (.int l1), some (.int w1)]) (st' := [.int w1]) (g' := g) (by decide +kernel) rfl ?_
      refine xgoto A (15) 50 (by decide +kernel) ?_
      obtain rfl := Option.some.inj H
      exact xret_i A hR hz (by decide +kernel) rfl ⟨rfl, rfl⟩
  · rw [if_neg h2] at H
    refine xb A [(.bipush (-2), 2, 0, 0, .int (-2))] (pc' := 29) (ls' := [some (.ref 0), some (.int l1), some (.int w1)]) (st' := [.int (-2)]) (g' := g) (by decide +kernel) rfl ?_
    obtain rfl := Option.some.inj H
    exact xret_i A hR hz (by decide +kernel) rfl ⟨rfl, rfl⟩
set_option maxRecDepth 20000 in
theorem c_X11_meet_0 {S : List xSh} (hS : xpf SH1 S) {g : xG} {p1 : Int32} (out : Int32) (H : f_X11_meet_0 p1 g = some out) : xC mX11_meet 4 90 0 0 S [.ref 0, .int p1] g S (fun r g' => r = some (.int out) ∧ g' = g) := by
  have H : (if p1 = 0 then
  f_X11_meet_0_11 g p1
else
  if p1 = 1 then
    f_X11_meet_0_11 g p1
  else
    some (-1)) = some out := H
  refine xC.of 11 SH1 [some (.ref 0), some (.int p1), none] hS (by decide +kernel) rfl (fun _ _ => Nat.le_of_ble_eq_true rfl) (fun _ _ => rfl) ?_
  intro k A hR hrm hz
  refine xb A [(.iload_n 1, 1, 0, 0, .null)] (pc' := 1) (ls' := [some (.ref 0), some (.int p1), none]) (st' := [.int p1]) (g' := g) (by decide +kernel) rfl ?_
  refine xif_eq A (10) 11 4 (by decide +kernel) (fun h1 => ?_) (fun h1 => ?_)
  · rw [if_pos h1] at H
    exact t_X11_meet_0_11 hS A hR hrm hz _ H
  · rw [if_neg h1] at H
    refine xb A [(.iload_n 1, 1, 0, 0, .null), (.iconst 1, 1, 0, 0, .int 1)] (pc' := 6) (ls' := [some (.ref 0), some (.int p1), none]) (st' := [.int 1, .int p1]) (g' := g) (by decide +kernel) rfl ?_
    refine xic_eq A (5) 11 9 (by decide +kernel) (fun h4 => ?_) (fun h4 => ?_)
    · rw [if_pos h4] at H
      exact t_X11_meet_0_11 hS A hR hrm hz _ H
    · rw [if_neg h4] at H
      refine xb A [(.iconst (-1), 1, 0, 0, .int (-1))] (pc' := 10) (ls' := [some (.ref 0), some (.int p1), none]) (st' := [.int (-1)]) (g' := g) (by decide +kernel) rfl ?_
      obtain rfl := Option.some.inj H
      exact xret_i A hR hz (by decide +kernel) rfl ⟨rfl, rfl⟩
def f_X7_shortestOutOf_42_60 (k5 : Int32 → Int32 → Int32 → Option (Int32)) (g : xG) (l1 : Int32) (l2 : Int32) (l3 : Int32) (l4 : Int32) (s0 : Int32) : Option (Int32) :=
  if (f_X10_isOpen_38 l3 g) = 0 then
    k5 l1 l2 (l3 + 1)
  else
    if l4 = s0 then
      k5 l1 l2 (l3 + 1)
    else
      if l2 < 0 then
        k5 l1 l3 (l3 + 1)
      else
        if (f_X4_milesOf_3 l2 g) ≤ (f_X4_milesOf_3 l3 g) then
          k5 l1 l2 (l3 + 1)
        else
          k5 l1 l3 (l3 + 1)
def f_X7_shortestOutOf_42_37 (k5 : Int32 → Int32 → Int32 → Option (Int32)) (g : xG) (l1 : Int32) (l2 : Int32) (l3 : Int32) (s0 : Int32) : Option (Int32) :=
  if (l1 &&& (f_X11_bit (f_X4_otherEndOf_3 l3 g))) = 0 then
    f_X7_shortestOutOf_42_60 k5 g l1 l2 l3 s0 0
  else
    f_X7_shortestOutOf_42_60 k5 g l1 l2 l3 s0 1
def f_X7_shortestOutOf_42_5  (g : xG) : Nat → Int32 → Int32 → Int32 → Option (Int32)
  | 0, _, _, _ => none
  | n + 1, l1, l2, l3 =>
    if (f_X4_roads_3 g) ≤ l3 then
      some l2
    else
      if (l1 &&& (f_X11_bit (f_X4_oneEndOf_3 l3 g))) = 0 then
        f_X7_shortestOutOf_42_37 (f_X7_shortestOutOf_42_5 g n) g l1 l2 l3 0
      else
        f_X7_shortestOutOf_42_37 (f_X7_shortestOutOf_42_5 g n) g l1 l2 l3 1
def f_X7_shortestOutOf_42 (p1 : Int32) (g : xG) : Option (Int32) :=
  f_X7_shortestOutOf_42_5 g xN p1 (-2) 0
set_option maxRecDepth 20000 in
theorem t_X7_shortestOutOf_42_60 {k : xK} {S : List xSh} {g : xG} {out : Int32} (hS : xpf SH1 S) (A : xAt k mX7_shortestOutOf.2.1 7 SH1 S) (hR : xRet k 0 0 S (fun r g' => r = some (.int out) ∧ g' = g) mX7_shortestOutOf.2.2.2) (hrm : xrm k = { frames := 2, cells := 0, slots := 0, locals := 42 }) (hz : xhs k = xb0 k + S.length) {k5 : Int32 → Int32 → Int32 → Option (Int32)} (hk5 : ∀ (l1 : Int32) (l2 : Int32) (l3 : Int32), k5 l1 l2 l3 = some out → xW k S 0 0 5 [some (.ref 42), some (.int l1), some (.int l2), some (.int l3), none, none] [] g) : ∀ (l1 : Int32) (l2 : Int32) (l3 : Int32) (l4 : Int32) (s0 : Int32), f_X7_shortestOutOf_42_60 k5 g l1 l2 l3 l4 s0 = some out → xW k S 0 0 60 [some (.ref 42), some (.int l1), some (.int l2), some (.int l3), some (.int l4), none] [.int s0] g := by
  intro l1 l2 l3 l4 s0 H
  have H : (if (f_X10_isOpen_38 l3 g) = 0 then
  k5 l1 l2 (l3 + 1)
else
  if l4 = s0 then
    k5 l1 l2 (l3 + 1)
  else
    if l2 < 0 then
      k5 l1 l3 (l3 + 1)
    else
      if (f_X4_milesOf_3 l2 g) ≤ (f_X4_milesOf_3 l3 g) then
        k5 l1 l2 (l3 + 1)
      else
        k5 l1 l3 (l3 + 1)) = some out := H
  refine xb A [(.istore 5, 2, 0, 0, .null), (.aload_n 0, 1, 0, 0, .null), (.getfield 19, 3, 42, 1, .ref 38), (.iload_n 3, 1, 0, 0, .null)] (pc' := 67) (ls' := [some (.ref 42), some (.int l1), some (.int l2), some (.int l3), some (.int l4), some (.int s0)]) (st' := [.int l3, .ref 38]) (g' := g) (by decide +kernel) rfl ?_
  refine xcallV A (ix := 29) (nxt := 70) hrm hz [.int l3] [] 903 (c_X10_isOpen_38 hS _ rfl) ok_X10_isOpen (by decide +kernel) rfl (fun r g1 hq => ?_)
  rw [hq.1, hq.2]
  show xW k S 0 0 70 [some (.ref 42), some (.int l1), some (.int l2), some (.int l3), some (.int l4), some (.int s0)] [.int (f_X10_isOpen_38 l3 g)] g
  refine xif_eq A (35) 105 73 (by decide +kernel) (fun h4 => ?_) (fun h4 => ?_)
  · rw [if_pos h4] at H
    refine xb A [(.iinc 3 1, 3, 0, 0, .null)] (pc' := 108) (ls' := [some (.ref 42), some (.int l1), some (.int l2), some (.int (l3 + 1)), some (.int l4), some (.int s0)]) (st' := []) (g' := g) (by decide +kernel) rfl ?_
    refine xgoto A (-103) 5 (by decide +kernel) ?_
    refine xweak (ls' := [some (.ref 42), some (.int l1), some (.int l2), some (.int (l3 + 1)), none, none]) (by exact ⟨rfl, ⟨rfl, ⟨rfl, ⟨rfl, trivial⟩⟩⟩⟩) ?_
    exact hk5 _ _ _ H
  · rw [if_neg h4] at H
    refine xb A [(.iload 4, 2, 0, 0, .null), (.iload 5, 2, 0, 0, .null)] (pc' := 77) (ls' := [some (.ref 42), some (.int l1), some (.int l2), some (.int l3), some (.int l4), some (.int s0)]) (st' := [.int s0, .int l4]) (g' := g) (by decide +kernel) rfl ?_
    refine xic_eq A (28) 105 80 (by decide +kernel) (fun h5 => ?_) (fun h5 => ?_)
    · rw [if_pos h5] at H
      refine xb A [(.iinc 3 1, 3, 0, 0, .null)] (pc' := 108) (ls' := [some (.ref 42), some (.int l1), some (.int l2), some (.int (l3 + 1)), some (.int l4), some (.int s0)]) (st' := []) (g' := g) (by decide +kernel) rfl ?_
      refine xgoto A (-103) 5 (by decide +kernel) ?_
      refine xweak (ls' := [some (.ref 42), some (.int l1), some (.int l2), some (.int (l3 + 1)), none, none]) (by exact ⟨rfl, ⟨rfl, ⟨rfl, ⟨rfl, trivial⟩⟩⟩⟩) ?_
      exact hk5 _ _ _ H
    · rw [if_neg h5] at H
      refine xb A [(.iload_n 2, 1, 0, 0, .null)] (pc' := 81) (ls' := [some (.ref 42), some (.int l1), some (.int l2), some (.int l3), some (.int l4), some (.int s0)]) (st' := [.int l2]) (g' := g) (by decide +kernel) rfl ?_
      refine xif_lt A (22) 103 84 (by decide +kernel) (fun h6 => ?_) (fun h6 => ?_)
      · rw [if_pos h6] at H
        refine xb A [(.iload_n 3, 1, 0, 0, .null), (.istore_n 2, 1, 0, 0, .null), (.iinc 3 1, 3, 0, 0, .null)] (pc' := 108) (ls' := [some (.ref 42), some (.int l1), some (.int l3), some (.int (l3 + 1)), some (.int l4), some (.int s0)]) (st' := []) (g' := g) (by decide +kernel) rfl ?_
        refine xgoto A (-103) 5 (by decide +kernel) ?_
        refine xweak (ls' := [some (.ref 42), some (.int l1), some (.int l3), some (.int (l3 + 1)), none, none]) (by exact ⟨rfl, ⟨rfl, ⟨rfl, ⟨rfl, trivial⟩⟩⟩⟩) ?_
        exact hk5 _ _ _ H
      · rw [if_neg h6] at H
        refine xb A [(.aload_n 0, 1, 0, 0, .null), (.getfield 15, 3, 42, 0, .ref 3), (.iload_n 3, 1, 0, 0, .null)] (pc' := 89) (ls' := [some (.ref 42), some (.int l1), some (.int l2), some (.int l3), some (.int l4), some (.int s0)]) (st' := [.int l3, .ref 3]) (g' := g) (by decide +kernel) rfl ?_
        refine xcallV A (ix := 43) (nxt := 92) hrm hz [.int l3] [] 1117 (c_X4_milesOf_3 hS _ rfl) ok_X4_milesOf (by decide +kernel) rfl (fun r g1 hq => ?_)
        rw [hq.1, hq.2]
        show xW k S 0 0 92 [some (.ref 42), some (.int l1), some (.int l2), some (.int l3), some (.int l4), some (.int s0)] [.int (f_X4_milesOf_3 l3 g)] g
        refine xb A [(.aload_n 0, 1, 0, 0, .null), (.getfield 15, 3, 42, 0, .ref 3), (.iload_n 2, 1, 0, 0, .null)] (pc' := 97) (ls' := [some (.ref 42), some (.int l1), some (.int l2), some (.int l3), some (.int l4), some (.int s0)]) (st' := [.int l2, .ref 3, .int (f_X4_milesOf_3 l3 g)]) (g' := g) (by decide +kernel) rfl ?_
        refine xcallV A (ix := 43) (nxt := 100) hrm hz [.int l2] [.int (f_X4_milesOf_3 l3 g)] 1117 (c_X4_milesOf_3 hS _ rfl) ok_X4_milesOf (by decide +kernel) rfl (fun r g1 hq => ?_)
        rw [hq.1, hq.2]
        show xW k S 0 0 100 [some (.ref 42), some (.int l1), some (.int l2), some (.int l3), some (.int l4), some (.int s0)] [.int (f_X4_milesOf_3 l2 g), .int (f_X4_milesOf_3 l3 g)] g
        refine xic_ge A (5) 105 103 (by decide +kernel) (fun h7 => ?_) (fun h7 => ?_)
        · rw [if_pos h7] at H
          refine xb A [(.iinc 3 1, 3, 0, 0, .null)] (pc' := 108) (ls' := [some (.ref 42), some (.int l1), some (.int l2), some (.int (l3 + 1)), some (.int l4), some (.int s0)]) (st' := []) (g' := g) (by decide +kernel) rfl ?_
          refine xgoto A (-103) 5 (by decide +kernel) ?_
          refine xweak (ls' := [some (.ref 42), some (.int l1), some (.int l2), some (.int (l3 + 1)), none, none]) (by exact ⟨rfl, ⟨rfl, ⟨rfl, ⟨rfl, trivial⟩⟩⟩⟩) ?_
          exact hk5 _ _ _ H
        · rw [if_neg h7] at H
          refine xb A [(.iload_n 3, 1, 0, 0, .null), (.istore_n 2, 1, 0, 0, .null), (.iinc 3 1, 3, 0, 0, .null)] (pc' := 108) (ls' := [some (.ref 42), some (.int l1), some (.int l3), some (.int (l3 + 1)), some (.int l4), some (.int s0)]) (st' := []) (g' := g) (by decide +kernel) rfl ?_
          refine xgoto A (-103) 5 (by decide +kernel) ?_
          refine xweak (ls' := [some (.ref 42), some (.int l1), some (.int l3), some (.int (l3 + 1)), none, none]) (by exact ⟨rfl, ⟨rfl, ⟨rfl, ⟨rfl, trivial⟩⟩⟩⟩) ?_
          exact hk5 _ _ _ H
set_option maxRecDepth 20000 in
theorem t_X7_shortestOutOf_42_37 {k : xK} {S : List xSh} {g : xG} {out : Int32} (hS : xpf SH1 S) (A : xAt k mX7_shortestOutOf.2.1 7 SH1 S) (hR : xRet k 0 0 S (fun r g' => r = some (.int out) ∧ g' = g) mX7_shortestOutOf.2.2.2) (hrm : xrm k = { frames := 2, cells := 0, slots := 0, locals := 42 }) (hz : xhs k = xb0 k + S.length) {k5 : Int32 → Int32 → Int32 → Option (Int32)} (hk5 : ∀ (l1 : Int32) (l2 : Int32) (l3 : Int32), k5 l1 l2 l3 = some out → xW k S 0 0 5 [some (.ref 42), some (.int l1), some (.int l2), some (.int l3), none, none] [] g) : ∀ (l1 : Int32) (l2 : Int32) (l3 : Int32) (s0 : Int32), f_X7_shortestOutOf_42_37 k5 g l1 l2 l3 s0 = some out → xW k S 0 0 37 [some (.ref 42), some (.int l1), some (.int l2), some (.int l3), none, none] [.int s0] g := by
  intro l1 l2 l3 s0 H
  have H : (if (l1 &&& (f_X11_bit (f_X4_otherEndOf_3 l3 g))) = 0 then
  f_X7_shortestOutOf_42_60 k5 g l1 l2 l3 s0 0
else
  f_X7_shortestOutOf_42_60 k5 g l1 l2 l3 s0 1) = some out := H
  refine xb A [(.istore 4, 2, 0, 0, .null), (.iload_n 1, 1, 0, 0, .null), (.aload_n 0, 1, 0, 0, .null), (.getfield 15, 3, 42, 0, .ref 3), (.iload_n 3, 1, 0, 0, .null)] (pc' := 45) (ls' := [some (.ref 42), some (.int l1), some (.int l2), some (.int l3), some (.int s0), none]) (st' := [.int l3, .ref 3, .int l1]) (g' := g) (by decide +kernel) rfl ?_
  refine xcallV A (ix := 77) (nxt := 48) hrm hz [.int l3] [.int l1] 1201 (c_X4_otherEndOf_3 hS _ rfl) ok_X4_otherEndOf (by decide +kernel) rfl (fun r g1 hq => ?_)
  rw [hq.1, hq.2]
  show xW k S 0 0 48 [some (.ref 42), some (.int l1), some (.int l2), some (.int l3), some (.int s0), none] [.int (f_X4_otherEndOf_3 l3 g), .int l1] g
  refine xcallSN A (ix := 39) (nxt := 51) (host := "NoonRinger") hrm hz [.int (f_X4_otherEndOf_3 l3 g)] [.int l1] 23 (c_X11_bit hS _ rfl) ok_X11_bit (by decide +kernel) rfl (fun r g1 hq => ?_)
  rw [hq.1, hq.2]
  show xW k S 0 0 51 [some (.ref 42), some (.int l1), some (.int l2), some (.int l3), some (.int s0), none] [.int (f_X11_bit (f_X4_otherEndOf_3 l3 g)), .int l1] g
  refine xb A [(.iand, 1, 0, 0, .null)] (pc' := 52) (ls' := [some (.ref 42), some (.int l1), some (.int l2), some (.int l3), some (.int s0), none]) (st' := [.int (l1 &&& (f_X11_bit (f_X4_otherEndOf_3 l3 g)))]) (g' := g) (by decide +kernel) rfl ?_
  refine xif_eq A (7) 59 55 (by decide +kernel) (fun h3 => ?_) (fun h3 => ?_)
  · rw [if_pos h3] at H
    refine xb A [(.iconst 0, 1, 0, 0, .int 0)] (pc' := 60) (ls' := [some (.ref 42), some (.int l1), some (.int l2), some (.int l3), some (.int s0), none]) (st' := [.int 0]) (g' := g) (by decide +kernel) rfl ?_
    exact t_X7_shortestOutOf_42_60 hS A hR hrm hz hk5 _ _ _ _ _ H
  · rw [if_neg h3] at H
    refine xb A [(.iconst 1, 1, 0, 0, .int 1)] (pc' := 56) (ls' := [some (.ref 42), some (.int l1), some (.int l2), some (.int l3), some (.int s0), none]) (st' := [.int 1]) (g' := g) (by decide +kernel) rfl ?_
    refine xgoto A (4) 60 (by decide +kernel) ?_
    exact t_X7_shortestOutOf_42_60 hS A hR hrm hz hk5 _ _ _ _ _ H
set_option maxRecDepth 20000 in
theorem t_X7_shortestOutOf_42_5 {k : xK} {S : List xSh} {g : xG} {out : Int32} (hS : xpf SH1 S) (A : xAt k mX7_shortestOutOf.2.1 7 SH1 S) (hR : xRet k 0 0 S (fun r g' => r = some (.int out) ∧ g' = g) mX7_shortestOutOf.2.2.2) (hrm : xrm k = { frames := 2, cells := 0, slots := 0, locals := 42 }) (hz : xhs k = xb0 k + S.length)   : ∀ (n : Nat) (l1 : Int32) (l2 : Int32) (l3 : Int32), f_X7_shortestOutOf_42_5 g n l1 l2 l3 = some out → xW k S 0 0 5 [some (.ref 42), some (.int l1), some (.int l2), some (.int l3), none, none] [] g := by
  intro n
  induction n with
  | zero => intro l1 l2 l3 H; exact absurd H (by simp [f_X7_shortestOutOf_42_5])
  | succ n ih =>
    intro l1 l2 l3 H
    have H : (if (f_X4_roads_3 g) ≤ l3 then
  some l2
else
  if (l1 &&& (f_X11_bit (f_X4_oneEndOf_3 l3 g))) = 0 then
    f_X7_shortestOutOf_42_37 (f_X7_shortestOutOf_42_5 g n) g l1 l2 l3 0
  else
    f_X7_shortestOutOf_42_37 (f_X7_shortestOutOf_42_5 g n) g l1 l2 l3 1) = some out := H
    refine xb A [(.iload_n 3, 1, 0, 0, .null), (.aload_n 0, 1, 0, 0, .null), (.getfield 15, 3, 42, 0, .ref 3)] (pc' := 10) (ls' := [some (.ref 42), some (.int l1), some (.int l2), some (.int l3), none, none]) (st' := [.ref 3, .int l3]) (g' := g) (by decide +kernel) rfl ?_
    refine xcallV A (ix := 23) (nxt := 13) hrm hz [] [.int l3] 902 (c_X4_roads_3 hS _ rfl) ok_X4_roads (by decide +kernel) rfl (fun r g1 hq => ?_)
    rw [hq.1, hq.2]
    show xW k S 0 0 13 [some (.ref 42), some (.int l1), some (.int l2), some (.int l3), none, none] [.int (f_X4_roads_3 g), .int l3] g
    refine xic_ge A (98) 111 16 (by decide +kernel) (fun h1 => ?_) (fun h1 => ?_)
    · rw [if_pos h1] at H
      refine xb A [(.iload_n 2, 1, 0, 0, .null)] (pc' := 112) (ls' := [some (.ref 42), some (.int l1), some (.int l2), some (.int l3), none, none]) (st' := [.int l2]) (g' := g) (by decide +kernel) rfl ?_
      obtain rfl := Option.some.inj H
      exact xret_i A hR hz (by decide +kernel) rfl ⟨rfl, rfl⟩
    · rw [if_neg h1] at H
      refine xb A [(.iload_n 1, 1, 0, 0, .null), (.aload_n 0, 1, 0, 0, .null), (.getfield 15, 3, 42, 0, .ref 3), (.iload_n 3, 1, 0, 0, .null)] (pc' := 22) (ls' := [some (.ref 42), some (.int l1), some (.int l2), some (.int l3), none, none]) (st' := [.int l3, .ref 3, .int l1]) (g' := g) (by decide +kernel) rfl ?_
      refine xcallV A (ix := 74) (nxt := 25) hrm hz [.int l3] [.int l1] 1200 (c_X4_oneEndOf_3 hS _ rfl) ok_X4_oneEndOf (by decide +kernel) rfl (fun r g1 hq => ?_)
      rw [hq.1, hq.2]
      show xW k S 0 0 25 [some (.ref 42), some (.int l1), some (.int l2), some (.int l3), none, none] [.int (f_X4_oneEndOf_3 l3 g), .int l1] g
      refine xcallSN A (ix := 39) (nxt := 28) (host := "NoonRinger") hrm hz [.int (f_X4_oneEndOf_3 l3 g)] [.int l1] 23 (c_X11_bit hS _ rfl) ok_X11_bit (by decide +kernel) rfl (fun r g1 hq => ?_)
      rw [hq.1, hq.2]
      show xW k S 0 0 28 [some (.ref 42), some (.int l1), some (.int l2), some (.int l3), none, none] [.int (f_X11_bit (f_X4_oneEndOf_3 l3 g)), .int l1] g
      refine xb A [(.iand, 1, 0, 0, .null)] (pc' := 29) (ls' := [some (.ref 42), some (.int l1), some (.int l2), some (.int l3), none, none]) (st' := [.int (l1 &&& (f_X11_bit (f_X4_oneEndOf_3 l3 g)))]) (g' := g) (by decide +kernel) rfl ?_
      refine xif_eq A (7) 36 32 (by decide +kernel) (fun h2 => ?_) (fun h2 => ?_)
      · rw [if_pos h2] at H
        refine xb A [(.iconst 0, 1, 0, 0, .int 0)] (pc' := 37) (ls' := [some (.ref 42), some (.int l1), some (.int l2), some (.int l3), none, none]) (st' := [.int 0]) (g' := g) (by decide +kernel) rfl ?_
        exact t_X7_shortestOutOf_42_37 hS A hR hrm hz ih _ _ _ _ H
      · rw [if_neg h2] at H
        refine xb A [(.iconst 1, 1, 0, 0, .int 1)] (pc' := 33) (ls' := [some (.ref 42), some (.int l1), some (.int l2), some (.int l3), none, none]) (st' := [.int 1]) (g' := g) (by decide +kernel) rfl ?_
        refine xgoto A (4) 37 (by decide +kernel) ?_
        exact t_X7_shortestOutOf_42_37 hS A hR hrm hz ih _ _ _ _ H
set_option maxRecDepth 20000 in
theorem c_X7_shortestOutOf_42 {S : List xSh} (hS : xpf SH1 S) {g : xG} {p1 : Int32} (out : Int32) (H : f_X7_shortestOutOf_42 p1 g = some out) : xC mX7_shortestOutOf 2 42 0 0 S [.ref 42, .int p1] g S (fun r g' => r = some (.int out) ∧ g' = g) := by
  have H : (f_X7_shortestOutOf_42_5 g xN p1 (-2) 0) = some out := H
  refine xC.of 7 SH1 [some (.ref 42), some (.int p1), none, none, none, none] hS (by decide +kernel) rfl (fun _ _ => Nat.le_of_ble_eq_true rfl) (fun _ _ => rfl) ?_
  intro k A hR hrm hz
  refine xb A [(.bipush (-2), 2, 0, 0, .int (-2)), (.istore_n 2, 1, 0, 0, .null), (.iconst 0, 1, 0, 0, .int 0), (.istore_n 3, 1, 0, 0, .null)] (pc' := 5) (ls' := [some (.ref 42), some (.int p1), some (.int (-2)), some (.int 0), none, none]) (st' := []) (g' := g) (by decide +kernel) rfl ?_
  exact t_X7_shortestOutOf_42_5 hS A hR hrm hz _ _ _ _ H
def f_X7_leastMilesToJoin_42_22  (g : xG) : Nat → Int32 → Int32 → Int32 → Option (Int32)
  | 0, _, _, _ => none
  | n + 1, l1, l2, l3 =>
    if (f_X4_towns_3 g) ≤ l3 then
      some l2
    else
      (f_X7_shortestOutOf_42 l1 g).bind fun w1 =>
      if 0 ≤ w1 then
        f_X7_leastMilesToJoin_42_22 g n (l1 ||| ((f_X11_bit (f_X4_oneEndOf_3 w1 g)) ||| (f_X11_bit (f_X4_otherEndOf_3 w1 g)))) (l2 + (f_X4_milesOf_3 w1 g)) (l3 + 1)
      else
        some (-2)
def f_X7_leastMilesToJoin_42  (g : xG) : Option (Int32) :=
  if (f_X4_towns_3 g) = 0 then
    some (-2)
  else
    f_X7_leastMilesToJoin_42_22 g xN (f_X11_bit 0) 0 1
set_option maxRecDepth 20000 in
theorem t_X7_leastMilesToJoin_42_22 {k : xK} {S : List xSh} {g : xG} {out : Int32} (hS : xpf SH1 S) (A : xAt k mX7_leastMilesToJoin.2.1 7 SH1 S) (hR : xRet k 0 0 S (fun r g' => r = some (.int out) ∧ g' = g) mX7_leastMilesToJoin.2.2.2) (hrm : xrm k = { frames := 3, cells := 0, slots := 0, locals := 67 }) (hz : xhs k = xb0 k + S.length)   : ∀ (n : Nat) (l1 : Int32) (l2 : Int32) (l3 : Int32), f_X7_leastMilesToJoin_42_22 g n l1 l2 l3 = some out → xW k S 0 0 22 [some (.ref 42), some (.int l1), some (.int l2), some (.int l3), none] [] g := by
  intro n
  induction n with
  | zero => intro l1 l2 l3 H; exact absurd H (by simp [f_X7_leastMilesToJoin_42_22])
  | succ n ih =>
    intro l1 l2 l3 H
    have H : (if (f_X4_towns_3 g) ≤ l3 then
  some l2
else
  (f_X7_shortestOutOf_42 l1 g).bind fun w1 =>
  if 0 ≤ w1 then
    f_X7_leastMilesToJoin_42_22 g n (l1 ||| ((f_X11_bit (f_X4_oneEndOf_3 w1 g)) ||| (f_X11_bit (f_X4_otherEndOf_3 w1 g)))) (l2 + (f_X4_milesOf_3 w1 g)) (l3 + 1)
  else
    some (-2)) = some out := H
    refine xb A [(.iload_n 3, 1, 0, 0, .null), (.aload_n 0, 1, 0, 0, .null), (.getfield 15, 3, 42, 0, .ref 3)] (pc' := 27) (ls' := [some (.ref 42), some (.int l1), some (.int l2), some (.int l3), none]) (st' := [.ref 3, .int l3]) (g' := g) (by decide +kernel) rfl ?_
    refine xcallV A (ix := 50) (nxt := 30) hrm hz [] [.int l3] 1111 (c_X4_towns_3 hS _ rfl) ok_X4_towns (by decide +kernel) rfl (fun r g1 hq => ?_)
    rw [hq.1, hq.2]
    show xW k S 0 0 30 [some (.ref 42), some (.int l1), some (.int l2), some (.int l3), none] [.int (f_X4_towns_3 g), .int l3] g
    refine xic_ge A (64) 94 33 (by decide +kernel) (fun h2 => ?_) (fun h2 => ?_)
    · rw [if_pos h2] at H
      refine xb A [(.iload_n 2, 1, 0, 0, .null)] (pc' := 95) (ls' := [some (.ref 42), some (.int l1), some (.int l2), some (.int l3), none]) (st' := [.int l2]) (g' := g) (by decide +kernel) rfl ?_
      obtain rfl := Option.some.inj H
      exact xret_i A hR hz (by decide +kernel) rfl ⟨rfl, rfl⟩
    · rw [if_neg h2] at H
      refine xb A [(.aload_n 0, 1, 0, 0, .null), (.iload_n 1, 1, 0, 0, .null)] (pc' := 35) (ls' := [some (.ref 42), some (.int l1), some (.int l2), some (.int l3), none]) (st' := [.int l1, .ref 42]) (g' := g) (by decide +kernel) rfl ?_
      obtain ⟨w1, e1, H⟩ := xbind H
      refine xcallV A (ix := 98) (nxt := 38) hrm hz [.int l1] [] 1240 (c_X7_shortestOutOf_42 hS _ e1) ok_X7_shortestOutOf (by decide +kernel) rfl (fun r g1 hq => ?_)
      rw [hq.1, hq.2]
      show xW k S 0 0 38 [some (.ref 42), some (.int l1), some (.int l2), some (.int l3), none] [.int w1] g
      refine xb A [(.istore 4, 2, 0, 0, .null), (.iload 4, 2, 0, 0, .null)] (pc' := 42) (ls' := [some (.ref 42), some (.int l1), some (.int l2), some (.int l3), some (.int w1)]) (st' := [.int w1]) (g' := g) (by decide +kernel) rfl ?_
      refine xif_ge A (6) 48 45 (by decide +kernel) (fun h3 => ?_) (fun h3 => ?_)
      · rw [if_pos h3] at H
        refine xb A [(.iload_n 1, 1, 0, 0, .null), (.aload_n 0, 1, 0, 0, .null), (.getfield 15, 3, 42, 0, .ref 3), (.iload 4, 2, 0, 0, .null)] (pc' := 55) (ls' := [some (.ref 42), some (.int l1), some (.int l2), some (.int l3), some (.int w1)]) (st' := [.int w1, .ref 3, .int l1]) (g' := g) (by decide +kernel) rfl ?_
        refine xcallV A (ix := 74) (nxt := 58) hrm hz [.int w1] [.int l1] 1200 (c_X4_oneEndOf_3 hS _ rfl) ok_X4_oneEndOf (by decide +kernel) rfl (fun r g1 hq => ?_)
        rw [hq.1, hq.2]
        show xW k S 0 0 58 [some (.ref 42), some (.int l1), some (.int l2), some (.int l3), some (.int w1)] [.int (f_X4_oneEndOf_3 w1 g), .int l1] g
        refine xcallSN A (ix := 39) (nxt := 61) (host := "NoonRinger") hrm hz [.int (f_X4_oneEndOf_3 w1 g)] [.int l1] 23 (c_X11_bit hS _ rfl) ok_X11_bit (by decide +kernel) rfl (fun r g1 hq => ?_)
        rw [hq.1, hq.2]
        show xW k S 0 0 61 [some (.ref 42), some (.int l1), some (.int l2), some (.int l3), some (.int w1)] [.int (f_X11_bit (f_X4_oneEndOf_3 w1 g)), .int l1] g
        refine xb A [(.aload_n 0, 1, 0, 0, .null), (.getfield 15, 3, 42, 0, .ref 3), (.iload 4, 2, 0, 0, .null)] (pc' := 67) (ls' := [some (.ref 42), some (.int l1), some (.int l2), some (.int l3), some (.int w1)]) (st' := [.int w1, .ref 3, .int (f_X11_bit (f_X4_oneEndOf_3 w1 g)), .int l1]) (g' := g) (by decide +kernel) rfl ?_
        refine xcallV A (ix := 77) (nxt := 70) hrm hz [.int w1] [.int (f_X11_bit (f_X4_oneEndOf_3 w1 g)), .int l1] 1201 (c_X4_otherEndOf_3 hS _ rfl) ok_X4_otherEndOf (by decide +kernel) rfl (fun r g1 hq => ?_)
        rw [hq.1, hq.2]
        show xW k S 0 0 70 [some (.ref 42), some (.int l1), some (.int l2), some (.int l3), some (.int w1)] [.int (f_X4_otherEndOf_3 w1 g), .int (f_X11_bit (f_X4_oneEndOf_3 w1 g)), .int l1] g
        refine xcallSN A (ix := 39) (nxt := 73) (host := "NoonRinger") hrm hz [.int (f_X4_otherEndOf_3 w1 g)] [.int (f_X11_bit (f_X4_oneEndOf_3 w1 g)), .int l1] 23 (c_X11_bit hS _ rfl) ok_X11_bit (by decide +kernel) rfl (fun r g1 hq => ?_)
        rw [hq.1, hq.2]
        show xW k S 0 0 73 [some (.ref 42), some (.int l1), some (.int l2), some (.int l3), some (.int w1)] [.int (f_X11_bit (f_X4_otherEndOf_3 w1 g)), .int (f_X11_bit (f_X4_oneEndOf_3 w1 g)), .int l1] g
        refine xb A [(.ior, 1, 0, 0, .null), (.ior, 1, 0, 0, .null), (.istore_n 1, 1, 0, 0, .null), (.iload_n 2, 1, 0, 0, .null), (.aload_n 0, 1, 0, 0, .null), (.getfield 15, 3, 42, 0, .ref 3), (.iload 4, 2, 0, 0, .null)] (pc' := 83) (ls' := [some (.ref 42), some (.int (l1 ||| ((f_X11_bit (f_X4_oneEndOf_3 w1 g)) ||| (f_X11_bit (f_X4_otherEndOf_3 w1 g))))), some (.int l2), some (.int l3), some (.int w1)]) (st' := [.int w1, .ref 3, .int l2]) (g' := g) (by decide +kernel) rfl ?_
        refine xcallV A (ix := 43) (nxt := 86) hrm hz [.int w1] [.int l2] 1117 (c_X4_milesOf_3 hS _ rfl) ok_X4_milesOf (by decide +kernel) rfl (fun r g1 hq => ?_)
        rw [hq.1, hq.2]
        show xW k S 0 0 86 [some (.ref 42), some (.int (l1 ||| ((f_X11_bit (f_X4_oneEndOf_3 w1 g)) ||| (f_X11_bit (f_X4_otherEndOf_3 w1 g))))), some (.int l2), some (.int l3), some (.int w1)] [.int (f_X4_milesOf_3 w1 g), .int l2] g
        refine xb A [(.iadd, 1, 0, 0, .null), (.istore_n 2, 1, 0, 0, .null), (.iinc 3 1, 3, 0, 0, .null)] (pc' := 91) (ls' := [some (.ref 42), some (.int (l1 ||| ((f_X11_bit (f_X4_oneEndOf_3 w1 g)) ||| (f_X11_bit (f_X4_otherEndOf_3 w1 g))))), some (.int (l2 + (f_X4_milesOf_3 w1 g))), some (.int (l3 + 1)), some (.int w1)]) (st' := []) (g' := g) (by decide +kernel) rfl ?_
        refine xgoto A (-69) 22 (by decide +kernel) ?_
        refine xweak (ls' := [some (.ref 42), some (.int (l1 ||| ((f_X11_bit (f_X4_oneEndOf_3 w1 g)) ||| (f_X11_bit (f_X4_otherEndOf_3 w1 g))))), some (.int (l2 + (f_X4_milesOf_3 w1 g))), some (.int (l3 + 1)), none]) (by exact ⟨rfl, ⟨rfl, ⟨rfl, ⟨rfl, trivial⟩⟩⟩⟩) ?_
        exact ih _ _ _ H
      · rw [if_neg h3] at H
        refine xb A [(.bipush (-2), 2, 0, 0, .int (-2))] (pc' := 47) (ls' := [some (.ref 42), some (.int l1), some (.int l2), some (.int l3), some (.int w1)]) (st' := [.int (-2)]) (g' := g) (by decide +kernel) rfl ?_
        obtain rfl := Option.some.inj H
        exact xret_i A hR hz (by decide +kernel) rfl ⟨rfl, rfl⟩
set_option maxRecDepth 20000 in
theorem c_X7_leastMilesToJoin_42 {S : List xSh} (hS : xpf SH1 S) {g : xG}  (out : Int32) (H : f_X7_leastMilesToJoin_42  g = some out) : xC mX7_leastMilesToJoin 3 67 0 0 S [.ref 42] g S (fun r g' => r = some (.int out) ∧ g' = g) := by
  have H : (if (f_X4_towns_3 g) = 0 then
  some (-2)
else
  f_X7_leastMilesToJoin_42_22 g xN (f_X11_bit 0) 0 1) = some out := H
  refine xC.of 7 SH1 [some (.ref 42), none, none, none, none] hS (by decide +kernel) rfl (fun _ _ => Nat.le_of_ble_eq_true rfl) (fun _ _ => rfl) ?_
  intro k A hR hrm hz
  refine xb A [(.aload_n 0, 1, 0, 0, .null), (.getfield 15, 3, 42, 0, .ref 3)] (pc' := 4) (ls' := [some (.ref 42), none, none, none, none]) (st' := [.ref 3]) (g' := g) (by decide +kernel) rfl ?_
  refine xcallV A (ix := 50) (nxt := 7) hrm hz [] [] 1111 (c_X4_towns_3 hS _ rfl) ok_X4_towns (by decide +kernel) rfl (fun r g1 hq => ?_)
  rw [hq.1, hq.2]
  show xW k S 0 0 7 [some (.ref 42), none, none, none, none] [.int (f_X4_towns_3 g)] g
  refine xif_ne A (6) 13 10 (by decide +kernel) (fun h1 => ?_) (fun h1 => ?_)
  · rw [if_neg h1] at H
    refine xb A [(.iconst 0, 1, 0, 0, .int 0)] (pc' := 14) (ls' := [some (.ref 42), none, none, none, none]) (st' := [.int 0]) (g' := g) (by decide +kernel) rfl ?_
    refine xcallSN A (ix := 39) (nxt := 17) (host := "NoonRinger") hrm hz [.int 0] [] 23 (c_X11_bit hS _ rfl) ok_X11_bit (by decide +kernel) rfl (fun r g1 hq => ?_)
    rw [hq.1, hq.2]
    show xW k S 0 0 17 [some (.ref 42), none, none, none, none] [.int (f_X11_bit 0)] g
    refine xb A [(.istore_n 1, 1, 0, 0, .null), (.iconst 0, 1, 0, 0, .int 0), (.istore_n 2, 1, 0, 0, .null), (.iconst 1, 1, 0, 0, .int 1), (.istore_n 3, 1, 0, 0, .null)] (pc' := 22) (ls' := [some (.ref 42), some (.int (f_X11_bit 0)), some (.int 0), some (.int 1), none]) (st' := []) (g' := g) (by decide +kernel) rfl ?_
    exact t_X7_leastMilesToJoin_42_22 hS A hR hrm hz _ _ _ _ H
  · rw [if_pos h1] at H
    refine xb A [(.bipush (-2), 2, 0, 0, .int (-2))] (pc' := 12) (ls' := [some (.ref 42), none, none, none, none]) (st' := [.int (-2)]) (g' := g) (by decide +kernel) rfl ?_
    obtain rfl := Option.some.inj H
    exact xret_i A hR hz (by decide +kernel) rfl ⟨rfl, rfl⟩
def f_X11_tree_0  (g : xG) : Option (Int32) :=
  (f_X7_leastMilesToJoin_42 g).bind fun w1 =>
  some w1
set_option maxRecDepth 20000 in
theorem c_X11_tree_0 {S : List xSh} (hS : xpf SH1 S) {g : xG}  (out : Int32) (H : f_X11_tree_0  g = some out) : xC mX11_tree 4 91 0 0 S [.ref 0] g S (fun r g' => r = some (.int out) ∧ g' = g) := by
  have H : ((f_X7_leastMilesToJoin_42 g).bind fun w1 =>
some w1) = some out := H
  refine xC.of 11 SH1 [some (.ref 0)] hS (by decide +kernel) rfl (fun _ _ => Nat.le_of_ble_eq_true rfl) (fun _ _ => rfl) ?_
  intro k A hR hrm hz
  refine xb A [(.aload_n 0, 1, 0, 0, .null), (.getfield 49, 3, 0, 5, .ref 42)] (pc' := 4) (ls' := [some (.ref 0)]) (st' := [.ref 42]) (g' := g) (by decide +kernel) rfl ?_
  obtain ⟨w1, e1, H⟩ := xbind H
  refine xcallV A (ix := 302) (nxt := 7) hrm hz [] [] 1236 (c_X7_leastMilesToJoin_42 hS _ e1) ok_X7_leastMilesToJoin (by decide +kernel) rfl (fun r g1 hq => ?_)
  rw [hq.1, hq.2]
  show xW k S 0 0 7 [some (.ref 0)] [.int w1] g
  obtain rfl := Option.some.inj H
  exact xret_i A hR hz (by decide +kernel) rfl ⟨rfl, rfl⟩
def fp_X11_bridges_0 : List (Nat × Option Nat) := [(40, some 2), (41, none)]
def f_X11_bridges_0_4  : Nat → Int32 → Int32 → xG → Option (Int32 × xG)
  | 0, _, _, _ => none
  | n + 1, l1, l2, g =>
    if (f_X4_roads_3 g) ≤ l2 then
      some (l1, g)
    else
      if (f_X10_isOpen_38 l2 g) = 0 then
        f_X11_bridges_0_4 n l1 (l2 + 1) g
      else
        (f_X10_measure_40 ((f_X6_get_48 4 g) ||| (f_X11_bit l2)) g).bind fun w1 =>
        if (f_X10_between_40 (f_X4_oneEndOf_3 l2 w1) (f_X4_otherEndOf_3 l2 w1) w1) = 999 then
          f_X11_bridges_0_4 n (l1 ||| (f_X11_bit l2)) (l2 + 1) w1
        else
          f_X11_bridges_0_4 n (l1 ||| 0) (l2 + 1) w1
def f_X11_bridges_0  (g : xG) : Option (Int32 × xG) :=
  f_X11_bridges_0_4 xN 0 0 g
set_option maxRecDepth 20000 in
theorem t_X11_bridges_0_4 {k : xK} {S : List xSh} {out : Int32 × xG} (hS : xpf SH1 S) (A : xAt k mX11_bridges.2.1 11 SH1 S) (hR : xRet k 0 0 S (fun r g' => r = some (.int out.1) ∧ g' = out.2) mX11_bridges.2.2.2) (hrm : xrm k = { frames := 4, cells := 0, slots := 0, locals := 90 }) (hz : xhs k = xb0 k + S.length)   : ∀ (n : Nat) (l1 : Int32) (l2 : Int32) (g : xG), f_X11_bridges_0_4 n l1 l2 g = some out → xW k S 0 0 4 [some (.ref 0), some (.int l1), some (.int l2), none] [] g := by
  intro n
  induction n with
  | zero => intro l1 l2 g H; exact absurd H (by simp [f_X11_bridges_0_4])
  | succ n ih =>
    intro l1 l2 g H
    have H : (if (f_X4_roads_3 g) ≤ l2 then
  some (l1, g)
else
  if (f_X10_isOpen_38 l2 g) = 0 then
    f_X11_bridges_0_4 n l1 (l2 + 1) g
  else
    (f_X10_measure_40 ((f_X6_get_48 4 g) ||| (f_X11_bit l2)) g).bind fun w1 =>
    if (f_X10_between_40 (f_X4_oneEndOf_3 l2 w1) (f_X4_otherEndOf_3 l2 w1) w1) = 999 then
      f_X11_bridges_0_4 n (l1 ||| (f_X11_bit l2)) (l2 + 1) w1
    else
      f_X11_bridges_0_4 n (l1 ||| 0) (l2 + 1) w1) = some out := H
    refine xb A [(.iload_n 2, 1, 0, 0, .null), (.aload_n 0, 1, 0, 0, .null), (.getfield 19, 3, 0, 1, .ref 3)] (pc' := 9) (ls' := [some (.ref 0), some (.int l1), some (.int l2), none]) (st' := [.ref 3, .int l2]) (g' := g) (by decide +kernel) rfl ?_
    refine xcallV A (ix := 260) (nxt := 12) hrm hz [] [.int l2] 1136 (c_X4_roads_3 hS _ rfl) ok_X4_roads (by decide +kernel) rfl (fun r g1 hq => ?_)
    rw [hq.1, hq.2]
    show xW k S 0 0 12 [some (.ref 0), some (.int l1), some (.int l2), none] [.int (f_X4_roads_3 g), .int l2] g
    refine xic_ge A (82) 94 15 (by decide +kernel) (fun h1 => ?_) (fun h1 => ?_)
    · rw [if_pos h1] at H
      refine xb A [(.iload_n 1, 1, 0, 0, .null)] (pc' := 95) (ls' := [some (.ref 0), some (.int l1), some (.int l2), none]) (st' := [.int l1]) (g' := g) (by decide +kernel) rfl ?_
      obtain rfl := Option.some.inj H
      exact xret_i A hR hz (by decide +kernel) rfl ⟨rfl, rfl⟩
    · rw [if_neg h1] at H
      refine xb A [(.aload_n 0, 1, 0, 0, .null), (.getfield 37, 3, 0, 3, .ref 38), (.iload_n 2, 1, 0, 0, .null)] (pc' := 20) (ls' := [some (.ref 0), some (.int l1), some (.int l2), none]) (st' := [.int l2, .ref 38]) (g' := g) (by decide +kernel) rfl ?_
      refine xcallV A (ix := 180) (nxt := 23) hrm hz [.int l2] [] 927 (c_X10_isOpen_38 hS _ rfl) ok_X10_isOpen (by decide +kernel) rfl (fun r g1 hq => ?_)
      rw [hq.1, hq.2]
      show xW k S 0 0 23 [some (.ref 0), some (.int l1), some (.int l2), none] [.int (f_X10_isOpen_38 l2 g)] g
      refine xif_eq A (65) 88 26 (by decide +kernel) (fun h2 => ?_) (fun h2 => ?_)
      · rw [if_pos h2] at H
        refine xb A [(.iinc 2 1, 3, 0, 0, .null)] (pc' := 91) (ls' := [some (.ref 0), some (.int l1), some (.int (l2 + 1)), none]) (st' := []) (g' := g) (by decide +kernel) rfl ?_
        refine xgoto A (-87) 4 (by decide +kernel) ?_
        exact ih _ _ _ H
      · rw [if_neg h2] at H
        refine xb A [(.aload_n 0, 1, 0, 0, .null), (.getfield 41, 3, 0, 4, .ref 40), (.aload_n 0, 1, 0, 0, .null), (.getfield 66, 3, 0, 8, .ref 48), (.iconst 4, 1, 0, 0, .int 4)] (pc' := 35) (ls' := [some (.ref 0), some (.int l1), some (.int l2), none]) (st' := [.int 4, .ref 48, .ref 40]) (g' := g) (by decide +kernel) rfl ?_
        refine xcallV A (ix := 135) (nxt := 38) hrm hz [.int 4] [.ref 40] 489 (c_X6_get_48 hS _ rfl) ok_X6_get (by decide +kernel) rfl (fun r g1 hq => ?_)
        rw [hq.1, hq.2]
        show xW k S 0 0 38 [some (.ref 0), some (.int l1), some (.int l2), none] [.int (f_X6_get_48 4 g), .ref 40] g
        refine xb A [(.iload_n 2, 1, 0, 0, .null)] (pc' := 39) (ls' := [some (.ref 0), some (.int l1), some (.int l2), none]) (st' := [.int l2, .int (f_X6_get_48 4 g), .ref 40]) (g' := g) (by decide +kernel) rfl ?_
        refine xcallS A (ix := 214) (nxt := 42) hrm hz [.int l2] [.int (f_X6_get_48 4 g), .ref 40] 1017 (c_X11_bit hS _ rfl) ok_X11_bit (by decide +kernel) rfl (fun r g1 hq => ?_)
        rw [hq.1, hq.2]
        show xW k S 0 0 42 [some (.ref 0), some (.int l1), some (.int l2), none] [.int (f_X11_bit l2), .int (f_X6_get_48 4 g), .ref 40] g
        refine xb A [(.ior, 1, 0, 0, .null)] (pc' := 43) (ls' := [some (.ref 0), some (.int l1), some (.int l2), none]) (st' := [.int ((f_X6_get_48 4 g) ||| (f_X11_bit l2)), .ref 40]) (g' := g) (by decide +kernel) rfl ?_
        obtain ⟨w1, e1, H⟩ := xbind H
        refine xcallV A (ix := 139) (nxt := 46) hrm hz [.int ((f_X6_get_48 4 g) ||| (f_X11_bit l2))] [] 494 (c_X10_measure_40 hS _ e1) ok_X10_measure (by decide +kernel) rfl (fun r g1 hq => ?_)
        rw [hq.1, hq.2]
        show xW k S 0 0 46 [some (.ref 0), some (.int l1), some (.int l2), none] [] w1
        refine xb A [(.aload_n 0, 1, 0, 0, .null), (.getfield 41, 3, 0, 4, .ref 40), (.aload_n 0, 1, 0, 0, .null), (.getfield 19, 3, 0, 1, .ref 3), (.iload_n 2, 1, 0, 0, .null)] (pc' := 55) (ls' := [some (.ref 0), some (.int l1), some (.int l2), none]) (st' := [.int l2, .ref 3, .ref 40]) (g' := w1) (by decide +kernel) rfl ?_
        refine xcallV A (ix := 171) (nxt := 58) hrm hz [.int l2] [.ref 40] 924 (c_X4_oneEndOf_3 hS _ rfl) ok_X4_oneEndOf (by decide +kernel) rfl (fun r g1 hq => ?_)
        rw [hq.1, hq.2]
        show xW k S 0 0 58 [some (.ref 0), some (.int l1), some (.int l2), none] [.int (f_X4_oneEndOf_3 l2 w1), .ref 40] w1
        refine xb A [(.aload_n 0, 1, 0, 0, .null), (.getfield 19, 3, 0, 1, .ref 3), (.iload_n 2, 1, 0, 0, .null)] (pc' := 63) (ls' := [some (.ref 0), some (.int l1), some (.int l2), none]) (st' := [.int l2, .ref 3, .int (f_X4_oneEndOf_3 l2 w1), .ref 40]) (g' := w1) (by decide +kernel) rfl ?_
        refine xcallV A (ix := 174) (nxt := 66) hrm hz [.int l2] [.int (f_X4_oneEndOf_3 l2 w1), .ref 40] 925 (c_X4_otherEndOf_3 hS _ rfl) ok_X4_otherEndOf (by decide +kernel) rfl (fun r g1 hq => ?_)
        rw [hq.1, hq.2]
        show xW k S 0 0 66 [some (.ref 0), some (.int l1), some (.int l2), none] [.int (f_X4_otherEndOf_3 l2 w1), .int (f_X4_oneEndOf_3 l2 w1), .ref 40] w1
        refine xcallV A (ix := 165) (nxt := 69) hrm hz [.int (f_X4_oneEndOf_3 l2 w1), .int (f_X4_otherEndOf_3 l2 w1)] [] 918 (c_X10_between_40 hS _ rfl) ok_X10_between (by decide +kernel) rfl (fun r g1 hq => ?_)
        rw [hq.1, hq.2]
        show xW k S 0 0 69 [some (.ref 0), some (.int l1), some (.int l2), none] [.int (f_X10_between_40 (f_X4_oneEndOf_3 l2 w1) (f_X4_otherEndOf_3 l2 w1) w1)] w1
        refine xb A [(.istore_n 3, 1, 0, 0, .null), (.iload_n 1, 1, 0, 0, .null), (.iload_n 3, 1, 0, 0, .null), (.sipush 999, 3, 0, 0, .int 999)] (pc' := 75) (ls' := [some (.ref 0), some (.int l1), some (.int l2), some (.int (f_X10_between_40 (f_X4_oneEndOf_3 l2 w1) (f_X4_otherEndOf_3 l2 w1) w1))]) (st' := [.int 999, .int (f_X10_between_40 (f_X4_oneEndOf_3 l2 w1) (f_X4_otherEndOf_3 l2 w1) w1), .int l1]) (g' := w1) (by decide +kernel) rfl ?_
        refine xic_ne A (10) 85 78 (by decide +kernel) (fun h3 => ?_) (fun h3 => ?_)
        · rw [if_neg h3] at H
          refine xb A [(.iconst 0, 1, 0, 0, .int 0), (.ior, 1, 0, 0, .null), (.istore_n 1, 1, 0, 0, .null), (.iinc 2 1, 3, 0, 0, .null)] (pc' := 91) (ls' := [some (.ref 0), some (.int (l1 ||| 0)), some (.int (l2 + 1)), some (.int (f_X10_between_40 (f_X4_oneEndOf_3 l2 w1) (f_X4_otherEndOf_3 l2 w1) w1))]) (st' := []) (g' := w1) (by decide +kernel) rfl ?_
          refine xgoto A (-87) 4 (by decide +kernel) ?_
          refine xweak (ls' := [some (.ref 0), some (.int (l1 ||| 0)), some (.int (l2 + 1)), none]) (by exact ⟨rfl, ⟨rfl, ⟨rfl, trivial⟩⟩⟩) ?_
          exact ih _ _ _ H
        · rw [if_pos h3] at H
          refine xb A [(.iload_n 2, 1, 0, 0, .null)] (pc' := 79) (ls' := [some (.ref 0), some (.int l1), some (.int l2), some (.int (f_X10_between_40 (f_X4_oneEndOf_3 l2 w1) (f_X4_otherEndOf_3 l2 w1) w1))]) (st' := [.int l2, .int l1]) (g' := w1) (by decide +kernel) rfl ?_
          refine xcallS A (ix := 214) (nxt := 82) hrm hz [.int l2] [.int l1] 1017 (c_X11_bit hS _ rfl) ok_X11_bit (by decide +kernel) rfl (fun r g1 hq => ?_)
          rw [hq.1, hq.2]
          show xW k S 0 0 82 [some (.ref 0), some (.int l1), some (.int l2), some (.int (f_X10_between_40 (f_X4_oneEndOf_3 l2 w1) (f_X4_otherEndOf_3 l2 w1) w1))] [.int (f_X11_bit l2), .int l1] w1
          refine xgoto A (4) 86 (by decide +kernel) ?_
          refine xb A [(.ior, 1, 0, 0, .null), (.istore_n 1, 1, 0, 0, .null), (.iinc 2 1, 3, 0, 0, .null)] (pc' := 91) (ls' := [some (.ref 0), some (.int (l1 ||| (f_X11_bit l2))), some (.int (l2 + 1)), some (.int (f_X10_between_40 (f_X4_oneEndOf_3 l2 w1) (f_X4_otherEndOf_3 l2 w1) w1))]) (st' := []) (g' := w1) (by decide +kernel) rfl ?_
          refine xgoto A (-87) 4 (by decide +kernel) ?_
          refine xweak (ls' := [some (.ref 0), some (.int (l1 ||| (f_X11_bit l2))), some (.int (l2 + 1)), none]) (by exact ⟨rfl, ⟨rfl, ⟨rfl, trivial⟩⟩⟩) ?_
          exact ih _ _ _ H
theorem fr_X11_bridges_0_4   : ∀ (n : Nat) (l1 : Int32) (l2 : Int32) (g : xG) (out : Int32 × xG), f_X11_bridges_0_4 n l1 l2 g = some out → xfrm fp_X11_bridges_0 g (out.2) := by
  intro n
  induction n with
  | zero => intro l1 l2 g out H; exact absurd H (by simp [f_X11_bridges_0_4])
  | succ n ih =>
    intro l1 l2 g out H
    have H : (if (f_X4_roads_3 g) ≤ l2 then
  some (l1, g)
else
  if (f_X10_isOpen_38 l2 g) = 0 then
    f_X11_bridges_0_4 n l1 (l2 + 1) g
  else
    (f_X10_measure_40 ((f_X6_get_48 4 g) ||| (f_X11_bit l2)) g).bind fun w1 =>
    if (f_X10_between_40 (f_X4_oneEndOf_3 l2 w1) (f_X4_otherEndOf_3 l2 w1) w1) = 999 then
      f_X11_bridges_0_4 n (l1 ||| (f_X11_bit l2)) (l2 + 1) w1
    else
      f_X11_bridges_0_4 n (l1 ||| 0) (l2 + 1) w1) = some out := H
    by_cases h1 : (f_X4_roads_3 g) ≤ l2
    · rw [if_pos h1] at H
      obtain rfl := Option.some.inj H
      exact xfrm.rf
    · rw [if_neg h1] at H
      by_cases h2 : (f_X10_isOpen_38 l2 g) = 0
      · rw [if_pos h2] at H
        exact xfrm.tr xfrm.rf (ih _ _ _ _ H) rfl
      · rw [if_neg h2] at H
        obtain ⟨w1, e1, H⟩ := xbind H
        have hf1 : xfrm fp_X11_bridges_0 g (w1) := xfrm.tr xfrm.rf (fr_X10_measure_40 _ e1) rfl
        by_cases h3 : (f_X10_between_40 (f_X4_oneEndOf_3 l2 w1) (f_X4_otherEndOf_3 l2 w1) w1) = 999
        · rw [if_pos h3] at H
          exact xfrm.tr hf1 (ih _ _ _ _ H) rfl
        · rw [if_neg h3] at H
          exact xfrm.tr hf1 (ih _ _ _ _ H) rfl
set_option maxRecDepth 20000 in
theorem c_X11_bridges_0 {S : List xSh} (hS : xpf SH1 S) {g : xG}  (out : Int32 × xG) (H : f_X11_bridges_0  g = some out) : xC mX11_bridges 4 90 0 0 S [.ref 0] g S (fun r g' => r = some (.int out.1) ∧ g' = out.2) := by
  have H : (f_X11_bridges_0_4 xN 0 0 g) = some out := H
  refine xC.of 11 SH1 [some (.ref 0), none, none, none] hS (by decide +kernel) rfl (fun _ _ => Nat.le_of_ble_eq_true rfl) (fun _ _ => rfl) ?_
  intro k A hR hrm hz
  refine xb A [(.iconst 0, 1, 0, 0, .int 0), (.istore_n 1, 1, 0, 0, .null), (.iconst 0, 1, 0, 0, .int 0), (.istore_n 2, 1, 0, 0, .null)] (pc' := 4) (ls' := [some (.ref 0), some (.int 0), some (.int 0), none]) (st' := []) (g' := g) (by decide +kernel) rfl ?_
  exact t_X11_bridges_0_4 hS A hR hrm hz _ _ _ _ H
theorem fr_X11_bridges_0  {g : xG} (out : Int32 × xG) (H : f_X11_bridges_0  g = some out) : xfrm fp_X11_bridges_0 g (out.2) := by
  have H : (f_X11_bridges_0_4 xN 0 0 g) = some out := H
  exact xfrm.tr xfrm.rf (fr_X11_bridges_0_4 _ _ _ _ _ H) rfl
def f_X11_steps_0_37  (g : xG) : Nat → Int32 → Int32 → Int32 → Option (Int32)
  | 0, _, _, _ => none
  | n + 1, l2, l3, l4 =>
    if 7 < l4 then
      some (-2)
    else
      if l3 = l2 then
        some l4
      else
        (f_X10_roadToward_38 l3 l2 g).bind fun w1 =>
        f_X11_steps_0_37 g n l2 (f_X4_acrossFrom_3 l3 w1 g) (l4 + 1)
def f_X11_steps_0 (p1 : Int32) (p2 : Int32) (g : xG) : Option (Int32) :=
  if (f_X4_isPerson_3 p1 g) = 0 then
    some (-1)
  else
    if (f_X4_isTown_3 p2 g) = 0 then
      some (-1)
    else
      f_X11_steps_0_37 g xN p2 (f_X6_of_48 p1 5 g) 0
set_option maxRecDepth 20000 in
theorem t_X11_steps_0_37 {k : xK} {S : List xSh} {g : xG} {out : Int32} (hS : xpf SH1 S) (A : xAt k mX11_steps.2.1 11 SH1 S) (hR : xRet k 0 0 S (fun r g' => r = some (.int out) ∧ g' = g) mX11_steps.2.2.2) (hrm : xrm k = { frames := 4, cells := 0, slots := 0, locals := 91 }) (hz : xhs k = xb0 k + S.length)   : ∀ (n : Nat) (l2 : Int32) (l3 : Int32) (l4 : Int32), f_X11_steps_0_37 g n l2 l3 l4 = some out → xW k S 0 0 37 [some (.ref 0), none, some (.int l2), some (.int l3), some (.int l4)] [] g := by
  intro n
  induction n with
  | zero => intro l2 l3 l4 H; exact absurd H (by simp [f_X11_steps_0_37])
  | succ n ih =>
    intro l2 l3 l4 H
    have H : (if 7 < l4 then
  some (-2)
else
  if l3 = l2 then
    some l4
  else
    (f_X10_roadToward_38 l3 l2 g).bind fun w1 =>
    f_X11_steps_0_37 g n l2 (f_X4_acrossFrom_3 l3 w1 g) (l4 + 1)) = some out := H
    refine xb A [(.iload 4, 2, 0, 0, .null), (.bipush 7, 2, 0, 0, .int 7)] (pc' := 41) (ls' := [some (.ref 0), none, some (.int l2), some (.int l3), some (.int l4)]) (st' := [.int 7, .int l4]) (g' := g) (by decide +kernel) rfl ?_
    refine xic_gt A (35) 76 44 (by decide +kernel) (fun h3 => ?_) (fun h3 => ?_)
    · rw [if_pos h3] at H
      refine xb A [(.bipush (-2), 2, 0, 0, .int (-2))] (pc' := 78) (ls' := [some (.ref 0), none, some (.int l2), some (.int l3), some (.int l4)]) (st' := [.int (-2)]) (g' := g) (by decide +kernel) rfl ?_
      obtain rfl := Option.some.inj H
      exact xret_i A hR hz (by decide +kernel) rfl ⟨rfl, rfl⟩
    · rw [if_neg h3] at H
      refine xb A [(.iload_n 3, 1, 0, 0, .null), (.iload_n 2, 1, 0, 0, .null)] (pc' := 46) (ls' := [some (.ref 0), none, some (.int l2), some (.int l3), some (.int l4)]) (st' := [.int l2, .int l3]) (g' := g) (by decide +kernel) rfl ?_
      refine xic_ne A (6) 52 49 (by decide +kernel) (fun h4 => ?_) (fun h4 => ?_)
      · rw [if_neg h4] at H
        refine xb A [(.aload_n 0, 1, 0, 0, .null), (.getfield 19, 3, 0, 1, .ref 3), (.iload_n 3, 1, 0, 0, .null), (.aload_n 0, 1, 0, 0, .null), (.getfield 37, 3, 0, 3, .ref 38), (.iload_n 3, 1, 0, 0, .null), (.iload_n 2, 1, 0, 0, .null)] (pc' := 63) (ls' := [some (.ref 0), none, some (.int l2), some (.int l3), some (.int l4)]) (st' := [.int l2, .int l3, .ref 38, .int l3, .ref 3]) (g' := g) (by decide +kernel) rfl ?_
        obtain ⟨w1, e1, H⟩ := xbind H
        refine xcallV A (ix := 275) (nxt := 66) hrm hz [.int l3, .int l2] [.int l3, .ref 3] 1178 (c_X10_roadToward_38 hS _ e1) ok_X10_roadToward (by decide +kernel) rfl (fun r g1 hq => ?_)
        rw [hq.1, hq.2]
        show xW k S 0 0 66 [some (.ref 0), none, some (.int l2), some (.int l3), some (.int l4)] [.int w1, .int l3, .ref 3] g
        refine xcallV A (ix := 305) (nxt := 69) hrm hz [.int l3, .int w1] [] 1252 (c_X4_acrossFrom_3 hS _ rfl) ok_X4_acrossFrom (by decide +kernel) rfl (fun r g1 hq => ?_)
        rw [hq.1, hq.2]
        show xW k S 0 0 69 [some (.ref 0), none, some (.int l2), some (.int l3), some (.int l4)] [.int (f_X4_acrossFrom_3 l3 w1 g)] g
        refine xb A [(.istore_n 3, 1, 0, 0, .null), (.iinc 4 1, 3, 0, 0, .null)] (pc' := 73) (ls' := [some (.ref 0), none, some (.int l2), some (.int (f_X4_acrossFrom_3 l3 w1 g)), some (.int (l4 + 1))]) (st' := []) (g' := g) (by decide +kernel) rfl ?_
        refine xgoto A (-36) 37 (by decide +kernel) ?_
        exact ih _ _ _ H
      · rw [if_pos h4] at H
        refine xb A [(.iload 4, 2, 0, 0, .null)] (pc' := 51) (ls' := [some (.ref 0), none, some (.int l2), some (.int l3), some (.int l4)]) (st' := [.int l4]) (g' := g) (by decide +kernel) rfl ?_
        obtain rfl := Option.some.inj H
        exact xret_i A hR hz (by decide +kernel) rfl ⟨rfl, rfl⟩
set_option maxRecDepth 20000 in
theorem c_X11_steps_0 {S : List xSh} (hS : xpf SH1 S) {g : xG} {p1 : Int32} {p2 : Int32} (out : Int32) (H : f_X11_steps_0 p1 p2 g = some out) : xC mX11_steps 4 91 0 0 S [.ref 0, .int p1, .int p2] g S (fun r g' => r = some (.int out) ∧ g' = g) := by
  have H : (if (f_X4_isPerson_3 p1 g) = 0 then
  some (-1)
else
  if (f_X4_isTown_3 p2 g) = 0 then
    some (-1)
  else
    f_X11_steps_0_37 g xN p2 (f_X6_of_48 p1 5 g) 0) = some out := H
  refine xC.of 11 SH1 [some (.ref 0), some (.int p1), some (.int p2), none, none] hS (by decide +kernel) rfl (fun _ _ => Nat.le_of_ble_eq_true rfl) (fun _ _ => rfl) ?_
  intro k A hR hrm hz
  refine xb A [(.aload_n 0, 1, 0, 0, .null), (.getfield 19, 3, 0, 1, .ref 3), (.iload_n 1, 1, 0, 0, .null)] (pc' := 5) (ls' := [some (.ref 0), some (.int p1), some (.int p2), none, none]) (st' := [.int p1, .ref 3]) (g' := g) (by decide +kernel) rfl ?_
  refine xcallV A (ix := 183) (nxt := 8) hrm hz [.int p1] [] 932 (c_X4_isPerson_3 hS _ rfl) ok_X4_isPerson (by decide +kernel) rfl (fun r g1 hq => ?_)
  rw [hq.1, hq.2]
  show xW k S 0 0 8 [some (.ref 0), some (.int p1), some (.int p2), none, none] [.int (f_X4_isPerson_3 p1 g)] g
  refine xif_eq A (14) 22 11 (by decide +kernel) (fun h1 => ?_) (fun h1 => ?_)
  · rw [if_pos h1] at H
    refine xb A [(.iconst (-1), 1, 0, 0, .int (-1))] (pc' := 23) (ls' := [some (.ref 0), some (.int p1), some (.int p2), none, none]) (st' := [.int (-1)]) (g' := g) (by decide +kernel) rfl ?_
    obtain rfl := Option.some.inj H
    exact xret_i A hR hz (by decide +kernel) rfl ⟨rfl, rfl⟩
  · rw [if_neg h1] at H
    refine xb A [(.aload_n 0, 1, 0, 0, .null), (.getfield 19, 3, 0, 1, .ref 3), (.iload_n 2, 1, 0, 0, .null)] (pc' := 16) (ls' := [some (.ref 0), some (.int p1), some (.int p2), none, none]) (st' := [.int p2, .ref 3]) (g' := g) (by decide +kernel) rfl ?_
    refine xcallV A (ix := 149) (nxt := 19) hrm hz [.int p2] [] 893 (c_X4_isTown_3 hS _ rfl) ok_X4_isTown (by decide +kernel) rfl (fun r g1 hq => ?_)
    rw [hq.1, hq.2]
    show xW k S 0 0 19 [some (.ref 0), some (.int p1), some (.int p2), none, none] [.int (f_X4_isTown_3 p2 g)] g
    refine xif_ne A (5) 24 22 (by decide +kernel) (fun h2 => ?_) (fun h2 => ?_)
    · rw [if_neg h2] at H
      refine xb A [(.aload_n 0, 1, 0, 0, .null), (.getfield 66, 3, 0, 8, .ref 48), (.iload_n 1, 1, 0, 0, .null), (.iconst 5, 1, 0, 0, .int 5)] (pc' := 30) (ls' := [some (.ref 0), some (.int p1), some (.int p2), none, none]) (st' := [.int 5, .int p1, .ref 48]) (g' := g) (by decide +kernel) rfl ?_
      refine xcallV A (ix := 192) (nxt := 33) hrm hz [.int p1, .int 5] [] 944 (c_X6_of_48 hS _ rfl) ok_X6_of (by decide +kernel) rfl (fun r g1 hq => ?_)
      rw [hq.1, hq.2]
      show xW k S 0 0 33 [some (.ref 0), some (.int p1), some (.int p2), none, none] [.int (f_X6_of_48 p1 5 g)] g
      refine xb A [(.istore_n 3, 1, 0, 0, .null), (.iconst 0, 1, 0, 0, .int 0), (.istore 4, 2, 0, 0, .null)] (pc' := 37) (ls' := [some (.ref 0), some (.int p1), some (.int p2), some (.int (f_X6_of_48 p1 5 g)), some (.int 0)]) (st' := []) (g' := g) (by decide +kernel) rfl ?_
      refine xweak (ls' := [some (.ref 0), none, some (.int p2), some (.int (f_X6_of_48 p1 5 g)), some (.int 0)]) (by exact ⟨rfl, ⟨rfl, ⟨rfl, ⟨rfl, trivial⟩⟩⟩⟩) ?_
      exact t_X11_steps_0_37 hS A hR hrm hz _ _ _ _ H
    · rw [if_pos h2] at H
      refine xb A [(.iconst (-1), 1, 0, 0, .int (-1))] (pc' := 23) (ls' := [some (.ref 0), some (.int p1), some (.int p2), none, none]) (st' := [.int (-1)]) (g' := g) (by decide +kernel) rfl ?_
      obtain rfl := Option.some.inj H
      exact xret_i A hR hz (by decide +kernel) rfl ⟨rfl, rfl⟩
def fp_X11_goOnDoubting_0 : List (Nat × Option Nat) := [(16, none), (45, none), (51, none)]
def f_X11_goOnDoubting_0_13  : Nat → Int32 → Int32 → Int32 → xG → Option (xG)
  | 0, _, _, _, _ => none
  | n + 1, l1, l2, l3, g =>
    if l1 ≤ l3 then
      some g
    else
      (f_X1_goThroughNoon_44_50 l2 1 g).bind fun w2 =>
      f_X11_goOnDoubting_0_13 n l1 l2 (l3 + 1) w2
def f_X11_goOnDoubting_0 (p1 : Int32) (p2 : Int32) (g : xG) : Option (xG) :=
  xl (f_X6_copyFrom_50_48 g) fun w1 =>
  f_X11_goOnDoubting_0_13 xN p1 p2 0 w1
set_option maxRecDepth 20000 in
theorem t_X11_goOnDoubting_0_13 {k : xK} {S : List xSh} {out : xG} (hS : xpf SH1 S) (A : xAt k mX11_goOnDoubting.2.1 11 SH1 S) (hR : xRet k 0 0 S (fun r g' => r = none ∧ g' = out) mX11_goOnDoubting.2.2.2) (hrm : xrm k = { frames := 6, cells := 0, slots := 0, locals := 149 }) (hz : xhs k = xb0 k + S.length)   : ∀ (n : Nat) (l1 : Int32) (l2 : Int32) (l3 : Int32) (g : xG), f_X11_goOnDoubting_0_13 n l1 l2 l3 g = some out → xW k S 0 0 13 [some (.ref 0), some (.int l1), some (.int l2), some (.int l3)] [] g := by
  intro n
  induction n with
  | zero => intro l1 l2 l3 g H; exact absurd H (by simp [f_X11_goOnDoubting_0_13])
  | succ n ih =>
    intro l1 l2 l3 g H
    have H : (if l1 ≤ l3 then
  some g
else
  (f_X1_goThroughNoon_44_50 l2 1 g).bind fun w2 =>
  f_X11_goOnDoubting_0_13 n l1 l2 (l3 + 1) w2) = some out := H
    refine xb A [(.iload_n 3, 1, 0, 0, .null), (.iload_n 1, 1, 0, 0, .null)] (pc' := 15) (ls' := [some (.ref 0), some (.int l1), some (.int l2), some (.int l3)]) (st' := [.int l1, .int l3]) (g' := g) (by decide +kernel) rfl ?_
    refine xic_ge A (22) 37 18 (by decide +kernel) (fun h1 => ?_) (fun h1 => ?_)
    · rw [if_pos h1] at H
      obtain rfl := Option.some.inj H
      exact xret_v A hR hz (by decide +kernel) ⟨rfl, rfl⟩
    · rw [if_neg h1] at H
      refine xb A [(.aload_n 0, 1, 0, 0, .null), (.getfield 56, 3, 0, 6, .ref 44), (.aload_n 0, 1, 0, 0, .null), (.getfield 70, 3, 0, 9, .ref 50), (.iload_n 2, 1, 0, 0, .null), (.iconst 1, 1, 0, 0, .int 1)] (pc' := 28) (ls' := [some (.ref 0), some (.int l1), some (.int l2), some (.int l3)]) (st' := [.int 1, .int l2, .ref 50, .ref 44]) (g' := g) (by decide +kernel) rfl ?_
      obtain ⟨w2, e2, H⟩ := xbind H
      refine xcallV A (ix := 227) (nxt := 31) hrm hz [.ref 50, .int l2, .int 1] [] 1034 (c_X1_goThroughNoon_44_50 hS _ e2) ok_X1_goThroughNoon (by decide +kernel) rfl (fun r g1 hq => ?_)
      rw [hq.1, hq.2]
      show xW k S 0 0 31 [some (.ref 0), some (.int l1), some (.int l2), some (.int l3)] [] w2
      refine xb A [(.iinc 3 1, 3, 0, 0, .null)] (pc' := 34) (ls' := [some (.ref 0), some (.int l1), some (.int l2), some (.int (l3 + 1))]) (st' := []) (g' := w2) (by decide +kernel) rfl ?_
      refine xgoto A (-21) 13 (by decide +kernel) ?_
      exact ih _ _ _ _ H
theorem fr_X11_goOnDoubting_0_13   : ∀ (n : Nat) (l1 : Int32) (l2 : Int32) (l3 : Int32) (g : xG) (out : xG), f_X11_goOnDoubting_0_13 n l1 l2 l3 g = some out → xfrm fp_X11_goOnDoubting_0 g (out) := by
  intro n
  induction n with
  | zero => intro l1 l2 l3 g out H; exact absurd H (by simp [f_X11_goOnDoubting_0_13])
  | succ n ih =>
    intro l1 l2 l3 g out H
    have H : (if l1 ≤ l3 then
  some g
else
  (f_X1_goThroughNoon_44_50 l2 1 g).bind fun w2 =>
  f_X11_goOnDoubting_0_13 n l1 l2 (l3 + 1) w2) = some out := H
    by_cases h1 : l1 ≤ l3
    · rw [if_pos h1] at H
      obtain rfl := Option.some.inj H
      exact xfrm.rf
    · rw [if_neg h1] at H
      obtain ⟨w2, e2, H⟩ := xbind H
      have hf2 : xfrm fp_X11_goOnDoubting_0 g (w2) := xfrm.tr xfrm.rf (fr_X1_goThroughNoon_44_50 _ e2) rfl
      exact xfrm.tr hf2 (ih _ _ _ _ _ H) rfl
set_option maxRecDepth 20000 in
theorem c_X11_goOnDoubting_0 {S : List xSh} (hS : xpf SH1 S) {g : xG} {p1 : Int32} {p2 : Int32} (out : xG) (H : f_X11_goOnDoubting_0 p1 p2 g = some out) : xC mX11_goOnDoubting 6 149 0 0 S [.ref 0, .int p1, .int p2] g S (fun r g' => r = none ∧ g' = out) := by
  have H : (xl (f_X6_copyFrom_50_48 g) fun w1 =>
f_X11_goOnDoubting_0_13 xN p1 p2 0 w1) = some out := H
  refine xC.of 11 SH1 [some (.ref 0), some (.int p1), some (.int p2), none] hS (by decide +kernel) rfl (fun _ _ => Nat.le_of_ble_eq_true rfl) (fun _ _ => rfl) ?_
  intro k A hR hrm hz
  refine xb A [(.aload_n 0, 1, 0, 0, .null), (.getfield 70, 3, 0, 9, .ref 50), (.aload_n 0, 1, 0, 0, .null), (.getfield 66, 3, 0, 8, .ref 48)] (pc' := 8) (ls' := [some (.ref 0), some (.int p1), some (.int p2), none]) (st' := [.ref 48, .ref 50]) (g' := g) (by decide +kernel) rfl ?_
  obtain ⟨w1, e1, H⟩ := xl_elim H
  refine xcallV A (ix := 266) (nxt := 11) hrm hz [.ref 48] [] 1149 (c_X6_copyFrom_50_48 hS _ e1) ok_X6_copyFrom (by decide +kernel) rfl (fun r g1 hq => ?_)
  rw [hq.1, hq.2]
  show xW k S 0 0 11 [some (.ref 0), some (.int p1), some (.int p2), none] [] w1
  refine xb A [(.iconst 0, 1, 0, 0, .int 0), (.istore_n 3, 1, 0, 0, .null)] (pc' := 13) (ls' := [some (.ref 0), some (.int p1), some (.int p2), some (.int 0)]) (st' := []) (g' := w1) (by decide +kernel) rfl ?_
  exact t_X11_goOnDoubting_0_13 hS A hR hrm hz _ _ _ _ _ H
theorem fr_X11_goOnDoubting_0 {p1 : Int32} {p2 : Int32} {g : xG} (out : xG) (H : f_X11_goOnDoubting_0 p1 p2 g = some out) : xfrm fp_X11_goOnDoubting_0 g (out) := by
  have H : (xl (f_X6_copyFrom_50_48 g) fun w1 =>
f_X11_goOnDoubting_0_13 xN p1 p2 0 w1) = some out := H
  obtain ⟨w1, e1, H⟩ := xl_elim H
  have hf1 : xfrm fp_X11_goOnDoubting_0 g (w1) := xfrm.tr xfrm.rf (fr_X6_copyFrom_50_48 _ e1) rfl
  exact xfrm.tr hf1 (fr_X11_goOnDoubting_0_13 _ _ _ _ _ _ H) rfl
def fp_X11_then_0 : List (Nat × Option Nat) := [(16, none), (45, none), (51, none)]
def f_X11_then_0 (p1 : Int32) (p2 : Int32) (g : xG) : Option (Int32 × xG) :=
  if (f_X4_isPerson_3 p1 g) = 0 then
    some ((-1), g)
  else
    if (f_X11_isSpan p2) = 0 then
      some ((-1), g)
    else
      (f_X11_goOnDoubting_0 p2 (f_X4_seed_3 g) g).bind fun w1 =>
      some (f_X6_of_50 p1 5 w1, w1)
set_option maxRecDepth 20000 in
theorem c_X11_then_0 {S : List xSh} (hS : xpf SH1 S) {g : xG} {p1 : Int32} {p2 : Int32} (out : Int32 × xG) (H : f_X11_then_0 p1 p2 g = some out) : xC mX11_then 7 172 0 0 S [.ref 0, .int p1, .int p2] g S (fun r g' => r = some (.int out.1) ∧ g' = out.2) := by
  have H : (if (f_X4_isPerson_3 p1 g) = 0 then
  some ((-1), g)
else
  if (f_X11_isSpan p2) = 0 then
    some ((-1), g)
  else
    (f_X11_goOnDoubting_0 p2 (f_X4_seed_3 g) g).bind fun w1 =>
    some (f_X6_of_50 p1 5 w1, w1)) = some out := H
  refine xC.of 11 SH1 [some (.ref 0), some (.int p1), some (.int p2)] hS (by decide +kernel) rfl (fun _ _ => Nat.le_of_ble_eq_true rfl) (fun _ _ => rfl) ?_
  intro k A hR hrm hz
  refine xb A [(.aload_n 0, 1, 0, 0, .null), (.getfield 19, 3, 0, 1, .ref 3), (.iload_n 1, 1, 0, 0, .null)] (pc' := 5) (ls' := [some (.ref 0), some (.int p1), some (.int p2)]) (st' := [.int p1, .ref 3]) (g' := g) (by decide +kernel) rfl ?_
  refine xcallV A (ix := 183) (nxt := 8) hrm hz [.int p1] [] 932 (c_X4_isPerson_3 hS _ rfl) ok_X4_isPerson (by decide +kernel) rfl (fun r g1 hq => ?_)
  rw [hq.1, hq.2]
  show xW k S 0 0 8 [some (.ref 0), some (.int p1), some (.int p2)] [.int (f_X4_isPerson_3 p1 g)] g
  refine xif_eq A (10) 18 11 (by decide +kernel) (fun h1 => ?_) (fun h1 => ?_)
  · rw [if_pos h1] at H
    refine xb A [(.iconst (-1), 1, 0, 0, .int (-1))] (pc' := 19) (ls' := [some (.ref 0), some (.int p1), some (.int p2)]) (st' := [.int (-1)]) (g' := g) (by decide +kernel) rfl ?_
    obtain rfl := Option.some.inj H
    exact xret_i A hR hz (by decide +kernel) rfl ⟨rfl, rfl⟩
  · rw [if_neg h1] at H
    refine xb A [(.iload_n 2, 1, 0, 0, .null)] (pc' := 12) (ls' := [some (.ref 0), some (.int p1), some (.int p2)]) (st' := [.int p2]) (g' := g) (by decide +kernel) rfl ?_
    refine xcallS A (ix := 221) (nxt := 15) hrm hz [.int p2] [] 1027 (c_X11_isSpan hS _ rfl) ok_X11_isSpan (by decide +kernel) rfl (fun r g1 hq => ?_)
    rw [hq.1, hq.2]
    show xW k S 0 0 15 [some (.ref 0), some (.int p1), some (.int p2)] [.int (f_X11_isSpan p2)] g
    refine xif_ne A (5) 20 18 (by decide +kernel) (fun h2 => ?_) (fun h2 => ?_)
    · rw [if_neg h2] at H
      refine xb A [(.aload_n 0, 1, 0, 0, .null), (.iload_n 2, 1, 0, 0, .null), (.aload_n 0, 1, 0, 0, .null), (.getfield 19, 3, 0, 1, .ref 3)] (pc' := 26) (ls' := [some (.ref 0), some (.int p1), some (.int p2)]) (st' := [.ref 3, .int p2, .ref 0]) (g' := g) (by decide +kernel) rfl ?_
      refine xcallV A (ix := 224) (nxt := 29) hrm hz [] [.int p2, .ref 0] 1030 (c_X4_seed_3 hS _ rfl) ok_X4_seed (by decide +kernel) rfl (fun r g1 hq => ?_)
      rw [hq.1, hq.2]
      show xW k S 0 0 29 [some (.ref 0), some (.int p1), some (.int p2)] [.int (f_X4_seed_3 g), .int p2, .ref 0] g
      obtain ⟨w1, e1, H⟩ := xbind H
      refine xcallV A (ix := 308) (nxt := 32) hrm hz [.int p2, .int (f_X4_seed_3 g)] [] 1257 (c_X11_goOnDoubting_0 hS _ e1) ok_X11_goOnDoubting (by decide +kernel) rfl (fun r g1 hq => ?_)
      rw [hq.1, hq.2]
      show xW k S 0 0 32 [some (.ref 0), some (.int p1), some (.int p2)] [] w1
      refine xb A [(.aload_n 0, 1, 0, 0, .null), (.getfield 70, 3, 0, 9, .ref 50), (.iload_n 1, 1, 0, 0, .null), (.iconst 5, 1, 0, 0, .int 5)] (pc' := 38) (ls' := [some (.ref 0), some (.int p1), some (.int p2)]) (st' := [.int 5, .int p1, .ref 50]) (g' := w1) (by decide +kernel) rfl ?_
      refine xcallV A (ix := 192) (nxt := 41) hrm hz [.int p1, .int 5] [] 944 (c_X6_of_50 hS _ rfl) ok_X6_of (by decide +kernel) rfl (fun r g1 hq => ?_)
      rw [hq.1, hq.2]
      show xW k S 0 0 41 [some (.ref 0), some (.int p1), some (.int p2)] [.int (f_X6_of_50 p1 5 w1)] w1
      obtain rfl := Option.some.inj H
      exact xret_i A hR hz (by decide +kernel) rfl ⟨rfl, rfl⟩
    · rw [if_pos h2] at H
      refine xb A [(.iconst (-1), 1, 0, 0, .int (-1))] (pc' := 19) (ls' := [some (.ref 0), some (.int p1), some (.int p2)]) (st' := [.int (-1)]) (g' := g) (by decide +kernel) rfl ?_
      obtain rfl := Option.some.inj H
      exact xret_i A hR hz (by decide +kernel) rfl ⟨rfl, rfl⟩
theorem fr_X11_then_0 {p1 : Int32} {p2 : Int32} {g : xG} (out : Int32 × xG) (H : f_X11_then_0 p1 p2 g = some out) : xfrm fp_X11_then_0 g (out.2) := by
  have H : (if (f_X4_isPerson_3 p1 g) = 0 then
  some ((-1), g)
else
  if (f_X11_isSpan p2) = 0 then
    some ((-1), g)
  else
    (f_X11_goOnDoubting_0 p2 (f_X4_seed_3 g) g).bind fun w1 =>
    some (f_X6_of_50 p1 5 w1, w1)) = some out := H
  by_cases h1 : (f_X4_isPerson_3 p1 g) = 0
  · rw [if_pos h1] at H
    obtain rfl := Option.some.inj H
    exact xfrm.rf
  · rw [if_neg h1] at H
    by_cases h2 : (f_X11_isSpan p2) = 0
    · rw [if_pos h2] at H
      obtain rfl := Option.some.inj H
      exact xfrm.rf
    · rw [if_neg h2] at H
      obtain ⟨w1, e1, H⟩ := xbind H
      have hf1 : xfrm fp_X11_then_0 g (w1) := xfrm.tr xfrm.rf (fr_X11_goOnDoubting_0 _ e1) rfl
      obtain rfl := Option.some.inj H
      exact hf1
def fp_X11_rungIn_0 : List (Nat × Option Nat) := [(16, none), (45, none), (51, none)]
def f_X11_rungIn_0 (p1 : Int32) (p2 : Int32) (g : xG) : Option (Int32 × xG) :=
  if (f_X4_isPerson_3 p1 g) = 0 then
    some ((-1), g)
  else
    if (f_X11_isSpan p2) = 0 then
      some ((-1), g)
    else
      (f_X11_goOnDoubting_0 p2 (f_X4_seed_3 g) g).bind fun w1 =>
      some (f_X6_of_50 p1 23 w1, w1)
set_option maxRecDepth 20000 in
theorem c_X11_rungIn_0 {S : List xSh} (hS : xpf SH1 S) {g : xG} {p1 : Int32} {p2 : Int32} (out : Int32 × xG) (H : f_X11_rungIn_0 p1 p2 g = some out) : xC mX11_rungIn 7 172 0 0 S [.ref 0, .int p1, .int p2] g S (fun r g' => r = some (.int out.1) ∧ g' = out.2) := by
  have H : (if (f_X4_isPerson_3 p1 g) = 0 then
  some ((-1), g)
else
  if (f_X11_isSpan p2) = 0 then
    some ((-1), g)
  else
    (f_X11_goOnDoubting_0 p2 (f_X4_seed_3 g) g).bind fun w1 =>
    some (f_X6_of_50 p1 23 w1, w1)) = some out := H
  refine xC.of 11 SH1 [some (.ref 0), some (.int p1), some (.int p2)] hS (by decide +kernel) rfl (fun _ _ => Nat.le_of_ble_eq_true rfl) (fun _ _ => rfl) ?_
  intro k A hR hrm hz
  refine xb A [(.aload_n 0, 1, 0, 0, .null), (.getfield 19, 3, 0, 1, .ref 3), (.iload_n 1, 1, 0, 0, .null)] (pc' := 5) (ls' := [some (.ref 0), some (.int p1), some (.int p2)]) (st' := [.int p1, .ref 3]) (g' := g) (by decide +kernel) rfl ?_
  refine xcallV A (ix := 183) (nxt := 8) hrm hz [.int p1] [] 932 (c_X4_isPerson_3 hS _ rfl) ok_X4_isPerson (by decide +kernel) rfl (fun r g1 hq => ?_)
  rw [hq.1, hq.2]
  show xW k S 0 0 8 [some (.ref 0), some (.int p1), some (.int p2)] [.int (f_X4_isPerson_3 p1 g)] g
  refine xif_eq A (10) 18 11 (by decide +kernel) (fun h1 => ?_) (fun h1 => ?_)
  · rw [if_pos h1] at H
    refine xb A [(.iconst (-1), 1, 0, 0, .int (-1))] (pc' := 19) (ls' := [some (.ref 0), some (.int p1), some (.int p2)]) (st' := [.int (-1)]) (g' := g) (by decide +kernel) rfl ?_
    obtain rfl := Option.some.inj H
    exact xret_i A hR hz (by decide +kernel) rfl ⟨rfl, rfl⟩
  · rw [if_neg h1] at H
    refine xb A [(.iload_n 2, 1, 0, 0, .null)] (pc' := 12) (ls' := [some (.ref 0), some (.int p1), some (.int p2)]) (st' := [.int p2]) (g' := g) (by decide +kernel) rfl ?_
    refine xcallS A (ix := 221) (nxt := 15) hrm hz [.int p2] [] 1027 (c_X11_isSpan hS _ rfl) ok_X11_isSpan (by decide +kernel) rfl (fun r g1 hq => ?_)
    rw [hq.1, hq.2]
    show xW k S 0 0 15 [some (.ref 0), some (.int p1), some (.int p2)] [.int (f_X11_isSpan p2)] g
    refine xif_ne A (5) 20 18 (by decide +kernel) (fun h2 => ?_) (fun h2 => ?_)
    · rw [if_neg h2] at H
      refine xb A [(.aload_n 0, 1, 0, 0, .null), (.iload_n 2, 1, 0, 0, .null), (.aload_n 0, 1, 0, 0, .null), (.getfield 19, 3, 0, 1, .ref 3)] (pc' := 26) (ls' := [some (.ref 0), some (.int p1), some (.int p2)]) (st' := [.ref 3, .int p2, .ref 0]) (g' := g) (by decide +kernel) rfl ?_
      refine xcallV A (ix := 224) (nxt := 29) hrm hz [] [.int p2, .ref 0] 1030 (c_X4_seed_3 hS _ rfl) ok_X4_seed (by decide +kernel) rfl (fun r g1 hq => ?_)
      rw [hq.1, hq.2]
      show xW k S 0 0 29 [some (.ref 0), some (.int p1), some (.int p2)] [.int (f_X4_seed_3 g), .int p2, .ref 0] g
      obtain ⟨w1, e1, H⟩ := xbind H
      refine xcallV A (ix := 308) (nxt := 32) hrm hz [.int p2, .int (f_X4_seed_3 g)] [] 1257 (c_X11_goOnDoubting_0 hS _ e1) ok_X11_goOnDoubting (by decide +kernel) rfl (fun r g1 hq => ?_)
      rw [hq.1, hq.2]
      show xW k S 0 0 32 [some (.ref 0), some (.int p1), some (.int p2)] [] w1
      refine xb A [(.aload_n 0, 1, 0, 0, .null), (.getfield 70, 3, 0, 9, .ref 50), (.iload_n 1, 1, 0, 0, .null), (.bipush 23, 2, 0, 0, .int 23)] (pc' := 39) (ls' := [some (.ref 0), some (.int p1), some (.int p2)]) (st' := [.int 23, .int p1, .ref 50]) (g' := w1) (by decide +kernel) rfl ?_
      refine xcallV A (ix := 192) (nxt := 42) hrm hz [.int p1, .int 23] [] 944 (c_X6_of_50 hS _ rfl) ok_X6_of (by decide +kernel) rfl (fun r g1 hq => ?_)
      rw [hq.1, hq.2]
      show xW k S 0 0 42 [some (.ref 0), some (.int p1), some (.int p2)] [.int (f_X6_of_50 p1 23 w1)] w1
      obtain rfl := Option.some.inj H
      exact xret_i A hR hz (by decide +kernel) rfl ⟨rfl, rfl⟩
    · rw [if_pos h2] at H
      refine xb A [(.iconst (-1), 1, 0, 0, .int (-1))] (pc' := 19) (ls' := [some (.ref 0), some (.int p1), some (.int p2)]) (st' := [.int (-1)]) (g' := g) (by decide +kernel) rfl ?_
      obtain rfl := Option.some.inj H
      exact xret_i A hR hz (by decide +kernel) rfl ⟨rfl, rfl⟩
theorem fr_X11_rungIn_0 {p1 : Int32} {p2 : Int32} {g : xG} (out : Int32 × xG) (H : f_X11_rungIn_0 p1 p2 g = some out) : xfrm fp_X11_rungIn_0 g (out.2) := by
  have H : (if (f_X4_isPerson_3 p1 g) = 0 then
  some ((-1), g)
else
  if (f_X11_isSpan p2) = 0 then
    some ((-1), g)
  else
    (f_X11_goOnDoubting_0 p2 (f_X4_seed_3 g) g).bind fun w1 =>
    some (f_X6_of_50 p1 23 w1, w1)) = some out := H
  by_cases h1 : (f_X4_isPerson_3 p1 g) = 0
  · rw [if_pos h1] at H
    obtain rfl := Option.some.inj H
    exact xfrm.rf
  · rw [if_neg h1] at H
    by_cases h2 : (f_X11_isSpan p2) = 0
    · rw [if_pos h2] at H
      obtain rfl := Option.some.inj H
      exact xfrm.rf
    · rw [if_neg h2] at H
      obtain ⟨w1, e1, H⟩ := xbind H
      have hf1 : xfrm fp_X11_rungIn_0 g (w1) := xfrm.tr xfrm.rf (fr_X11_goOnDoubting_0 _ e1) rfl
      obtain rfl := Option.some.inj H
      exact hf1
def fp_X11_barredIn_0 : List (Nat × Option Nat) := [(16, none), (45, none), (51, none)]
def f_X11_barredIn_0 (p1 : Int32) (g : xG) : Option (Int32 × xG) :=
  if (f_X11_isSpan p1) = 0 then
    some ((-1), g)
  else
    (f_X11_goOnDoubting_0 p1 (f_X4_seed_3 g) g).bind fun w1 =>
    some (f_X6_get_50 3 w1, w1)
set_option maxRecDepth 20000 in
theorem c_X11_barredIn_0 {S : List xSh} (hS : xpf SH1 S) {g : xG} {p1 : Int32} (out : Int32 × xG) (H : f_X11_barredIn_0 p1 g = some out) : xC mX11_barredIn 7 172 0 0 S [.ref 0, .int p1] g S (fun r g' => r = some (.int out.1) ∧ g' = out.2) := by
  have H : (if (f_X11_isSpan p1) = 0 then
  some ((-1), g)
else
  (f_X11_goOnDoubting_0 p1 (f_X4_seed_3 g) g).bind fun w1 =>
  some (f_X6_get_50 3 w1, w1)) = some out := H
  refine xC.of 11 SH1 [some (.ref 0), some (.int p1)] hS (by decide +kernel) rfl (fun _ _ => Nat.le_of_ble_eq_true rfl) (fun _ _ => rfl) ?_
  intro k A hR hrm hz
  refine xb A [(.iload_n 1, 1, 0, 0, .null)] (pc' := 1) (ls' := [some (.ref 0), some (.int p1)]) (st' := [.int p1]) (g' := g) (by decide +kernel) rfl ?_
  refine xcallS A (ix := 221) (nxt := 4) hrm hz [.int p1] [] 1027 (c_X11_isSpan hS _ rfl) ok_X11_isSpan (by decide +kernel) rfl (fun r g1 hq => ?_)
  rw [hq.1, hq.2]
  show xW k S 0 0 4 [some (.ref 0), some (.int p1)] [.int (f_X11_isSpan p1)] g
  refine xif_ne A (5) 9 7 (by decide +kernel) (fun h1 => ?_) (fun h1 => ?_)
  · rw [if_neg h1] at H
    refine xb A [(.aload_n 0, 1, 0, 0, .null), (.iload_n 1, 1, 0, 0, .null), (.aload_n 0, 1, 0, 0, .null), (.getfield 19, 3, 0, 1, .ref 3)] (pc' := 15) (ls' := [some (.ref 0), some (.int p1)]) (st' := [.ref 3, .int p1, .ref 0]) (g' := g) (by decide +kernel) rfl ?_
    refine xcallV A (ix := 224) (nxt := 18) hrm hz [] [.int p1, .ref 0] 1030 (c_X4_seed_3 hS _ rfl) ok_X4_seed (by decide +kernel) rfl (fun r g1 hq => ?_)
    rw [hq.1, hq.2]
    show xW k S 0 0 18 [some (.ref 0), some (.int p1)] [.int (f_X4_seed_3 g), .int p1, .ref 0] g
    obtain ⟨w1, e1, H⟩ := xbind H
    refine xcallV A (ix := 308) (nxt := 21) hrm hz [.int p1, .int (f_X4_seed_3 g)] [] 1257 (c_X11_goOnDoubting_0 hS _ e1) ok_X11_goOnDoubting (by decide +kernel) rfl (fun r g1 hq => ?_)
    rw [hq.1, hq.2]
    show xW k S 0 0 21 [some (.ref 0), some (.int p1)] [] w1
    refine xb A [(.aload_n 0, 1, 0, 0, .null), (.getfield 70, 3, 0, 9, .ref 50), (.iconst 3, 1, 0, 0, .int 3)] (pc' := 26) (ls' := [some (.ref 0), some (.int p1)]) (st' := [.int 3, .ref 50]) (g' := w1) (by decide +kernel) rfl ?_
    refine xcallV A (ix := 135) (nxt := 29) hrm hz [.int 3] [] 489 (c_X6_get_50 hS _ rfl) ok_X6_get (by decide +kernel) rfl (fun r g1 hq => ?_)
    rw [hq.1, hq.2]
    show xW k S 0 0 29 [some (.ref 0), some (.int p1)] [.int (f_X6_get_50 3 w1)] w1
    obtain rfl := Option.some.inj H
    exact xret_i A hR hz (by decide +kernel) rfl ⟨rfl, rfl⟩
  · rw [if_pos h1] at H
    refine xb A [(.iconst (-1), 1, 0, 0, .int (-1))] (pc' := 8) (ls' := [some (.ref 0), some (.int p1)]) (st' := [.int (-1)]) (g' := g) (by decide +kernel) rfl ?_
    obtain rfl := Option.some.inj H
    exact xret_i A hR hz (by decide +kernel) rfl ⟨rfl, rfl⟩
theorem fr_X11_barredIn_0 {p1 : Int32} {g : xG} (out : Int32 × xG) (H : f_X11_barredIn_0 p1 g = some out) : xfrm fp_X11_barredIn_0 g (out.2) := by
  have H : (if (f_X11_isSpan p1) = 0 then
  some ((-1), g)
else
  (f_X11_goOnDoubting_0 p1 (f_X4_seed_3 g) g).bind fun w1 =>
  some (f_X6_get_50 3 w1, w1)) = some out := H
  by_cases h1 : (f_X11_isSpan p1) = 0
  · rw [if_pos h1] at H
    obtain rfl := Option.some.inj H
    exact xfrm.rf
  · rw [if_neg h1] at H
    obtain ⟨w1, e1, H⟩ := xbind H
    have hf1 : xfrm fp_X11_barredIn_0 g (w1) := xfrm.tr xfrm.rf (fr_X11_goOnDoubting_0 _ e1) rfl
    obtain rfl := Option.some.inj H
    exact hf1
def fp_X11_year_0 : List (Nat × Option Nat) := [(16, none), (45, none), (51, none)]
def f_X11_year_0_37  : Nat → Int32 → Int32 → Int32 → Int32 → Int32 → xG → Option (Int32 × xG)
  | 0, _, _, _, _, _, _ => none
  | n + 1, l1, l2, l3, l4, l5, g =>
    if l3 ≤ l5 then
      some (l4, g)
    else
      (f_X11_goOnDoubting_0 l2 ((f_X4_seed_3 g) + l5) g).bind fun w1 =>
      if (f_X6_of_50 l1 23 w1) ≤ (f_X6_of_48 l1 23 w1) then
        f_X11_year_0_37 n l1 l2 l3 l4 (l5 + 1) w1
      else
        f_X11_year_0_37 n l1 l2 l3 (l4 + 1) (l5 + 1) w1
def f_X11_year_0 (p1 : Int32) (p2 : Int32) (p3 : Int32) (g : xG) : Option (Int32 × xG) :=
  if (f_X4_isPerson_3 p1 g) = 0 then
    some ((-1), g)
  else
    if (f_X11_isSpan p2) = 0 then
      some ((-1), g)
    else
      if p3 < 1 then
        some ((-1), g)
      else
        if p3 ≤ 20 then
          f_X11_year_0_37 xN p1 p2 p3 0 0 g
        else
          some ((-1), g)
set_option maxRecDepth 20000 in
theorem t_X11_year_0_37 {k : xK} {S : List xSh} {out : Int32 × xG} (hS : xpf SH1 S) (A : xAt k mX11_year.2.1 11 SH1 S) (hR : xRet k 0 0 S (fun r g' => r = some (.int out.1) ∧ g' = out.2) mX11_year.2.2.2) (hrm : xrm k = { frames := 7, cells := 0, slots := 0, locals := 172 }) (hz : xhs k = xb0 k + S.length)   : ∀ (n : Nat) (l1 : Int32) (l2 : Int32) (l3 : Int32) (l4 : Int32) (l5 : Int32) (g : xG), f_X11_year_0_37 n l1 l2 l3 l4 l5 g = some out → xW k S 0 0 37 [some (.ref 0), some (.int l1), some (.int l2), some (.int l3), some (.int l4), some (.int l5)] [] g := by
  intro n
  induction n with
  | zero => intro l1 l2 l3 l4 l5 g H; exact absurd H (by simp [f_X11_year_0_37])
  | succ n ih =>
    intro l1 l2 l3 l4 l5 g H
    have H : (if l3 ≤ l5 then
  some (l4, g)
else
  (f_X11_goOnDoubting_0 l2 ((f_X4_seed_3 g) + l5) g).bind fun w1 =>
  if (f_X6_of_50 l1 23 w1) ≤ (f_X6_of_48 l1 23 w1) then
    f_X11_year_0_37 n l1 l2 l3 l4 (l5 + 1) w1
  else
    f_X11_year_0_37 n l1 l2 l3 (l4 + 1) (l5 + 1) w1) = some out := H
    refine xb A [(.iload 5, 2, 0, 0, .null), (.iload_n 3, 1, 0, 0, .null)] (pc' := 40) (ls' := [some (.ref 0), some (.int l1), some (.int l2), some (.int l3), some (.int l4), some (.int l5)]) (st' := [.int l3, .int l5]) (g' := g) (by decide +kernel) rfl ?_
    refine xic_ge A (50) 90 43 (by decide +kernel) (fun h5 => ?_) (fun h5 => ?_)
    · rw [if_pos h5] at H
      refine xb A [(.iload 4, 2, 0, 0, .null)] (pc' := 92) (ls' := [some (.ref 0), some (.int l1), some (.int l2), some (.int l3), some (.int l4), some (.int l5)]) (st' := [.int l4]) (g' := g) (by decide +kernel) rfl ?_
      obtain rfl := Option.some.inj H
      exact xret_i A hR hz (by decide +kernel) rfl ⟨rfl, rfl⟩
    · rw [if_neg h5] at H
      refine xb A [(.aload_n 0, 1, 0, 0, .null), (.iload_n 2, 1, 0, 0, .null), (.aload_n 0, 1, 0, 0, .null), (.getfield 19, 3, 0, 1, .ref 3)] (pc' := 49) (ls' := [some (.ref 0), some (.int l1), some (.int l2), some (.int l3), some (.int l4), some (.int l5)]) (st' := [.ref 3, .int l2, .ref 0]) (g' := g) (by decide +kernel) rfl ?_
      refine xcallV A (ix := 224) (nxt := 52) hrm hz [] [.int l2, .ref 0] 1030 (c_X4_seed_3 hS _ rfl) ok_X4_seed (by decide +kernel) rfl (fun r g1 hq => ?_)
      rw [hq.1, hq.2]
      show xW k S 0 0 52 [some (.ref 0), some (.int l1), some (.int l2), some (.int l3), some (.int l4), some (.int l5)] [.int (f_X4_seed_3 g), .int l2, .ref 0] g
      refine xb A [(.iload 5, 2, 0, 0, .null), (.iadd, 1, 0, 0, .null)] (pc' := 55) (ls' := [some (.ref 0), some (.int l1), some (.int l2), some (.int l3), some (.int l4), some (.int l5)]) (st' := [.int ((f_X4_seed_3 g) + l5), .int l2, .ref 0]) (g' := g) (by decide +kernel) rfl ?_
      obtain ⟨w1, e1, H⟩ := xbind H
      refine xcallV A (ix := 308) (nxt := 58) hrm hz [.int l2, .int ((f_X4_seed_3 g) + l5)] [] 1257 (c_X11_goOnDoubting_0 hS _ e1) ok_X11_goOnDoubting (by decide +kernel) rfl (fun r g1 hq => ?_)
      rw [hq.1, hq.2]
      show xW k S 0 0 58 [some (.ref 0), some (.int l1), some (.int l2), some (.int l3), some (.int l4), some (.int l5)] [] w1
      refine xb A [(.aload_n 0, 1, 0, 0, .null), (.getfield 70, 3, 0, 9, .ref 50), (.iload_n 1, 1, 0, 0, .null), (.bipush 23, 2, 0, 0, .int 23)] (pc' := 65) (ls' := [some (.ref 0), some (.int l1), some (.int l2), some (.int l3), some (.int l4), some (.int l5)]) (st' := [.int 23, .int l1, .ref 50]) (g' := w1) (by decide +kernel) rfl ?_
      refine xcallV A (ix := 192) (nxt := 68) hrm hz [.int l1, .int 23] [] 944 (c_X6_of_50 hS _ rfl) ok_X6_of (by decide +kernel) rfl (fun r g1 hq => ?_)
      rw [hq.1, hq.2]
      show xW k S 0 0 68 [some (.ref 0), some (.int l1), some (.int l2), some (.int l3), some (.int l4), some (.int l5)] [.int (f_X6_of_50 l1 23 w1)] w1
      refine xb A [(.aload_n 0, 1, 0, 0, .null), (.getfield 66, 3, 0, 8, .ref 48), (.iload_n 1, 1, 0, 0, .null), (.bipush 23, 2, 0, 0, .int 23)] (pc' := 75) (ls' := [some (.ref 0), some (.int l1), some (.int l2), some (.int l3), some (.int l4), some (.int l5)]) (st' := [.int 23, .int l1, .ref 48, .int (f_X6_of_50 l1 23 w1)]) (g' := w1) (by decide +kernel) rfl ?_
      refine xcallV A (ix := 192) (nxt := 78) hrm hz [.int l1, .int 23] [.int (f_X6_of_50 l1 23 w1)] 944 (c_X6_of_48 hS _ rfl) ok_X6_of (by decide +kernel) rfl (fun r g1 hq => ?_)
      rw [hq.1, hq.2]
      show xW k S 0 0 78 [some (.ref 0), some (.int l1), some (.int l2), some (.int l3), some (.int l4), some (.int l5)] [.int (f_X6_of_48 l1 23 w1), .int (f_X6_of_50 l1 23 w1)] w1
      refine xic_le A (6) 84 81 (by decide +kernel) (fun h6 => ?_) (fun h6 => ?_)
      · rw [if_pos h6] at H
        refine xb A [(.iinc 5 1, 3, 0, 0, .null)] (pc' := 87) (ls' := [some (.ref 0), some (.int l1), some (.int l2), some (.int l3), some (.int l4), some (.int (l5 + 1))]) (st' := []) (g' := w1) (by decide +kernel) rfl ?_
        refine xgoto A (-50) 37 (by decide +kernel) ?_
        exact ih _ _ _ _ _ _ H
      · rw [if_neg h6] at H
        refine xb A [(.iinc 4 1, 3, 0, 0, .null), (.iinc 5 1, 3, 0, 0, .null)] (pc' := 87) (ls' := [some (.ref 0), some (.int l1), some (.int l2), some (.int l3), some (.int (l4 + 1)), some (.int (l5 + 1))]) (st' := []) (g' := w1) (by decide +kernel) rfl ?_
        refine xgoto A (-50) 37 (by decide +kernel) ?_
        exact ih _ _ _ _ _ _ H
theorem fr_X11_year_0_37   : ∀ (n : Nat) (l1 : Int32) (l2 : Int32) (l3 : Int32) (l4 : Int32) (l5 : Int32) (g : xG) (out : Int32 × xG), f_X11_year_0_37 n l1 l2 l3 l4 l5 g = some out → xfrm fp_X11_year_0 g (out.2) := by
  intro n
  induction n with
  | zero => intro l1 l2 l3 l4 l5 g out H; exact absurd H (by simp [f_X11_year_0_37])
  | succ n ih =>
    intro l1 l2 l3 l4 l5 g out H
    have H : (if l3 ≤ l5 then
  some (l4, g)
else
  (f_X11_goOnDoubting_0 l2 ((f_X4_seed_3 g) + l5) g).bind fun w1 =>
  if (f_X6_of_50 l1 23 w1) ≤ (f_X6_of_48 l1 23 w1) then
    f_X11_year_0_37 n l1 l2 l3 l4 (l5 + 1) w1
  else
    f_X11_year_0_37 n l1 l2 l3 (l4 + 1) (l5 + 1) w1) = some out := H
    by_cases h5 : l3 ≤ l5
    · rw [if_pos h5] at H
      obtain rfl := Option.some.inj H
      exact xfrm.rf
    · rw [if_neg h5] at H
      obtain ⟨w1, e1, H⟩ := xbind H
      have hf1 : xfrm fp_X11_year_0 g (w1) := xfrm.tr xfrm.rf (fr_X11_goOnDoubting_0 _ e1) rfl
      by_cases h6 : (f_X6_of_50 l1 23 w1) ≤ (f_X6_of_48 l1 23 w1)
      · rw [if_pos h6] at H
        exact xfrm.tr hf1 (ih _ _ _ _ _ _ _ H) rfl
      · rw [if_neg h6] at H
        exact xfrm.tr hf1 (ih _ _ _ _ _ _ _ H) rfl
set_option maxRecDepth 20000 in
theorem c_X11_year_0 {S : List xSh} (hS : xpf SH1 S) {g : xG} {p1 : Int32} {p2 : Int32} {p3 : Int32} (out : Int32 × xG) (H : f_X11_year_0 p1 p2 p3 g = some out) : xC mX11_year 7 172 0 0 S [.ref 0, .int p1, .int p2, .int p3] g S (fun r g' => r = some (.int out.1) ∧ g' = out.2) := by
  have H : (if (f_X4_isPerson_3 p1 g) = 0 then
  some ((-1), g)
else
  if (f_X11_isSpan p2) = 0 then
    some ((-1), g)
  else
    if p3 < 1 then
      some ((-1), g)
    else
      if p3 ≤ 20 then
        f_X11_year_0_37 xN p1 p2 p3 0 0 g
      else
        some ((-1), g)) = some out := H
  refine xC.of 11 SH1 [some (.ref 0), some (.int p1), some (.int p2), some (.int p3), none, none] hS (by decide +kernel) rfl (fun _ _ => Nat.le_of_ble_eq_true rfl) (fun _ _ => rfl) ?_
  intro k A hR hrm hz
  refine xb A [(.aload_n 0, 1, 0, 0, .null), (.getfield 19, 3, 0, 1, .ref 3), (.iload_n 1, 1, 0, 0, .null)] (pc' := 5) (ls' := [some (.ref 0), some (.int p1), some (.int p2), some (.int p3), none, none]) (st' := [.int p1, .ref 3]) (g' := g) (by decide +kernel) rfl ?_
  refine xcallV A (ix := 183) (nxt := 8) hrm hz [.int p1] [] 932 (c_X4_isPerson_3 hS _ rfl) ok_X4_isPerson (by decide +kernel) rfl (fun r g1 hq => ?_)
  rw [hq.1, hq.2]
  show xW k S 0 0 8 [some (.ref 0), some (.int p1), some (.int p2), some (.int p3), none, none] [.int (f_X4_isPerson_3 p1 g)] g
  refine xif_eq A (21) 29 11 (by decide +kernel) (fun h1 => ?_) (fun h1 => ?_)
  · rw [if_pos h1] at H
    refine xb A [(.iconst (-1), 1, 0, 0, .int (-1))] (pc' := 30) (ls' := [some (.ref 0), some (.int p1), some (.int p2), some (.int p3), none, none]) (st' := [.int (-1)]) (g' := g) (by decide +kernel) rfl ?_
    obtain rfl := Option.some.inj H
    exact xret_i A hR hz (by decide +kernel) rfl ⟨rfl, rfl⟩
  · rw [if_neg h1] at H
    refine xb A [(.iload_n 2, 1, 0, 0, .null)] (pc' := 12) (ls' := [some (.ref 0), some (.int p1), some (.int p2), some (.int p3), none, none]) (st' := [.int p2]) (g' := g) (by decide +kernel) rfl ?_
    refine xcallS A (ix := 221) (nxt := 15) hrm hz [.int p2] [] 1027 (c_X11_isSpan hS _ rfl) ok_X11_isSpan (by decide +kernel) rfl (fun r g1 hq => ?_)
    rw [hq.1, hq.2]
    show xW k S 0 0 15 [some (.ref 0), some (.int p1), some (.int p2), some (.int p3), none, none] [.int (f_X11_isSpan p2)] g
    refine xif_eq A (14) 29 18 (by decide +kernel) (fun h2 => ?_) (fun h2 => ?_)
    · rw [if_pos h2] at H
      refine xb A [(.iconst (-1), 1, 0, 0, .int (-1))] (pc' := 30) (ls' := [some (.ref 0), some (.int p1), some (.int p2), some (.int p3), none, none]) (st' := [.int (-1)]) (g' := g) (by decide +kernel) rfl ?_
      obtain rfl := Option.some.inj H
      exact xret_i A hR hz (by decide +kernel) rfl ⟨rfl, rfl⟩
    · rw [if_neg h2] at H
      refine xb A [(.iload_n 3, 1, 0, 0, .null), (.iconst 1, 1, 0, 0, .int 1)] (pc' := 20) (ls' := [some (.ref 0), some (.int p1), some (.int p2), some (.int p3), none, none]) (st' := [.int 1, .int p3]) (g' := g) (by decide +kernel) rfl ?_
      refine xic_lt A (9) 29 23 (by decide +kernel) (fun h3 => ?_) (fun h3 => ?_)
      · rw [if_pos h3] at H
        refine xb A [(.iconst (-1), 1, 0, 0, .int (-1))] (pc' := 30) (ls' := [some (.ref 0), some (.int p1), some (.int p2), some (.int p3), none, none]) (st' := [.int (-1)]) (g' := g) (by decide +kernel) rfl ?_
        obtain rfl := Option.some.inj H
        exact xret_i A hR hz (by decide +kernel) rfl ⟨rfl, rfl⟩
      · rw [if_neg h3] at H
        refine xb A [(.iload_n 3, 1, 0, 0, .null), (.bipush 20, 2, 0, 0, .int 20)] (pc' := 26) (ls' := [some (.ref 0), some (.int p1), some (.int p2), some (.int p3), none, none]) (st' := [.int 20, .int p3]) (g' := g) (by decide +kernel) rfl ?_
        refine xic_le A (5) 31 29 (by decide +kernel) (fun h4 => ?_) (fun h4 => ?_)
        · rw [if_pos h4] at H
          refine xb A [(.iconst 0, 1, 0, 0, .int 0), (.istore 4, 2, 0, 0, .null), (.iconst 0, 1, 0, 0, .int 0), (.istore 5, 2, 0, 0, .null)] (pc' := 37) (ls' := [some (.ref 0), some (.int p1), some (.int p2), some (.int p3), some (.int 0), some (.int 0)]) (st' := []) (g' := g) (by decide +kernel) rfl ?_
          exact t_X11_year_0_37 hS A hR hrm hz _ _ _ _ _ _ _ H
        · rw [if_neg h4] at H
          refine xb A [(.iconst (-1), 1, 0, 0, .int (-1))] (pc' := 30) (ls' := [some (.ref 0), some (.int p1), some (.int p2), some (.int p3), none, none]) (st' := [.int (-1)]) (g' := g) (by decide +kernel) rfl ?_
          obtain rfl := Option.some.inj H
          exact xret_i A hR hz (by decide +kernel) rfl ⟨rfl, rfl⟩
theorem fr_X11_year_0 {p1 : Int32} {p2 : Int32} {p3 : Int32} {g : xG} (out : Int32 × xG) (H : f_X11_year_0 p1 p2 p3 g = some out) : xfrm fp_X11_year_0 g (out.2) := by
  have H : (if (f_X4_isPerson_3 p1 g) = 0 then
  some ((-1), g)
else
  if (f_X11_isSpan p2) = 0 then
    some ((-1), g)
  else
    if p3 < 1 then
      some ((-1), g)
    else
      if p3 ≤ 20 then
        f_X11_year_0_37 xN p1 p2 p3 0 0 g
      else
        some ((-1), g)) = some out := H
  by_cases h1 : (f_X4_isPerson_3 p1 g) = 0
  · rw [if_pos h1] at H
    obtain rfl := Option.some.inj H
    exact xfrm.rf
  · rw [if_neg h1] at H
    by_cases h2 : (f_X11_isSpan p2) = 0
    · rw [if_pos h2] at H
      obtain rfl := Option.some.inj H
      exact xfrm.rf
    · rw [if_neg h2] at H
      by_cases h3 : p3 < 1
      · rw [if_pos h3] at H
        obtain rfl := Option.some.inj H
        exact xfrm.rf
      · rw [if_neg h3] at H
        by_cases h4 : p3 ≤ 20
        · rw [if_pos h4] at H
          exact xfrm.tr xfrm.rf (fr_X11_year_0_37 _ _ _ _ _ _ _ _ H) rfl
        · rw [if_neg h4] at H
          obtain rfl := Option.some.inj H
          exact xfrm.rf
