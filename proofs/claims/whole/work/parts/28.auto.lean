/-! methods, walked by program -/
def fp_X0_add_56 : List (Nat × Option Nat) := [(56, some 5), (57, none), (58, none)]
def f_X0_add_56 (p1 : Int32) (p2 : Int32) (g : xG) : Option (Int32 × xG) :=
  if p1 < 0 then
    some ((-1), g)
  else
    if 999 < p1 then
      some ((-1), g)
    else
      if (g.1 56 5) < 0 then
        some ((-1), g)
      else
        if (g.1 56 5) < 20 then
          xl (xput g 57 20 (g.1 56 5) p1) fun w1 =>
          xg (¬ ((w1.1 56 5) < 0 ∨ 20 ≤ (w1.1 56 5).toNatClampNeg)) (
            some (((w1.1 56 5) + 1) - 1, (xupd (xupd w1.1 58 (w1.1 56 5).toNatClampNeg (p2 &&& 1)) 56 5 ((w1.1 56 5) + 1), w1.2)))
        else
          some ((-1), g)
set_option maxRecDepth 20000 in
theorem c_X0_add_56 {S : List xSh} (hS : xpf SH1 S) {g : xG} {p1 : Int32} {p2 : Int32} (out : Int32 × xG) (H : f_X0_add_56 p1 p2 g = some out) : xC mX0_add 1 22 0 0 S [.ref 56, .int p1, .int p2] g S (fun r g' => r = some (.int out.1) ∧ g' = out.2) := by
  have H : (if p1 < 0 then
  some ((-1), g)
else
  if 999 < p1 then
    some ((-1), g)
  else
    if (g.1 56 5) < 0 then
      some ((-1), g)
    else
      if (g.1 56 5) < 20 then
        xl (xput g 57 20 (g.1 56 5) p1) fun w1 =>
        xg (¬ ((w1.1 56 5) < 0 ∨ 20 ≤ (w1.1 56 5).toNatClampNeg)) (
          some (((w1.1 56 5) + 1) - 1, (xupd (xupd w1.1 58 (w1.1 56 5).toNatClampNeg (p2 &&& 1)) 56 5 ((w1.1 56 5) + 1), w1.2)))
      else
        some ((-1), g)) = some out := H
  refine xC.of 0 SH1 [some (.ref 56), some (.int p1), some (.int p2)] hS (by decide +kernel) rfl (fun _ _ => Nat.le_of_ble_eq_true rfl) (fun _ _ => rfl) ?_
  intro k A hR hrm hz
  refine xb A [(.iload_n 1, 1, 0, 0, .null)] (pc' := 1) (ls' := [some (.ref 56), some (.int p1), some (.int p2)]) (st' := [.int p1]) (g' := g) (by decide +kernel) rfl ?_
  refine xif_lt A (29) 30 4 (by decide +kernel) (fun h1 => ?_) (fun h1 => ?_)
  · rw [if_pos h1] at H
    refine xb A [(.iconst (-1), 1, 0, 0, .int (-1))] (pc' := 31) (ls' := [some (.ref 56), some (.int p1), some (.int p2)]) (st' := [.int (-1)]) (g' := g) (by decide +kernel) rfl ?_
    obtain rfl := Option.some.inj H
    exact xret_i A hR hz (by decide +kernel) rfl ⟨rfl, rfl⟩
  · rw [if_neg h1] at H
    refine xb A [(.iload_n 1, 1, 0, 0, .null), (.sipush 999, 3, 0, 0, .int 999)] (pc' := 8) (ls' := [some (.ref 56), some (.int p1), some (.int p2)]) (st' := [.int 999, .int p1]) (g' := g) (by decide +kernel) rfl ?_
    refine xic_gt A (22) 30 11 (by decide +kernel) (fun h2 => ?_) (fun h2 => ?_)
    · rw [if_pos h2] at H
      refine xb A [(.iconst (-1), 1, 0, 0, .int (-1))] (pc' := 31) (ls' := [some (.ref 56), some (.int p1), some (.int p2)]) (st' := [.int (-1)]) (g' := g) (by decide +kernel) rfl ?_
      obtain rfl := Option.some.inj H
      exact xret_i A hR hz (by decide +kernel) rfl ⟨rfl, rfl⟩
    · rw [if_neg h2] at H
      refine xb A [(.aload_n 0, 1, 0, 0, .null), (.getfield 30, 3, 56, 5, .int 0)] (pc' := 15) (ls' := [some (.ref 56), some (.int p1), some (.int p2)]) (st' := [.int (g.1 56 5)]) (g' := g) (by decide +kernel) rfl ?_
      refine xif_lt A (15) 30 18 (by decide +kernel) (fun h3 => ?_) (fun h3 => ?_)
      · rw [if_pos h3] at H
        refine xb A [(.iconst (-1), 1, 0, 0, .int (-1))] (pc' := 31) (ls' := [some (.ref 56), some (.int p1), some (.int p2)]) (st' := [.int (-1)]) (g' := g) (by decide +kernel) rfl ?_
        obtain rfl := Option.some.inj H
        exact xret_i A hR hz (by decide +kernel) rfl ⟨rfl, rfl⟩
      · rw [if_neg h3] at H
        refine xb A [(.aload_n 0, 1, 0, 0, .null), (.getfield 30, 3, 56, 5, .int 0), (.aload_n 0, 1, 0, 0, .null), (.getfield 15, 3, 56, 3, .ref 58), (.arraylength, 1, 58, 0, .int 20)] (pc' := 27) (ls' := [some (.ref 56), some (.int p1), some (.int p2)]) (st' := [.int 20, .int (g.1 56 5)]) (g' := g) (by decide +kernel) rfl ?_
        refine xic_lt A (5) 32 30 (by decide +kernel) (fun h4 => ?_) (fun h4 => ?_)
        · rw [if_pos h4] at H
          refine xb A [(.aload_n 0, 1, 0, 0, .null), (.getfield 11, 3, 56, 2, .ref 57), (.aload_n 0, 1, 0, 0, .null), (.getfield 30, 3, 56, 5, .int 0), (.iload_n 1, 1, 0, 0, .null)] (pc' := 41) (ls' := [some (.ref 56), some (.int p1), some (.int p2)]) (st' := [.int p1, .int (g.1 56 5), .ref 57]) (g' := g) (by decide +kernel) rfl ?_
          obtain ⟨w1, e1, H⟩ := xl_elim H
          refine xcallSN A (ix := 34) (nxt := 44) (host := "NoonRinger") hrm hz [.ref 57, .int (g.1 56 5), .int p1] [] 33 (c_X11_put (hS _ _ sh_57) (by decide)) ok_X11_put (by decide +kernel) rfl (fun r g1 hq => ?_)
          rw [hq.1, hq.2]
          rw [e1]
          show xW k S 0 0 44 [some (.ref 56), some (.int p1), some (.int p2)] [] w1
          refine xb A [(.aload_n 0, 1, 0, 0, .null), (.getfield 15, 3, 56, 3, .ref 58), (.aload_n 0, 1, 0, 0, .null), (.getfield 30, 3, 56, 5, .int 0), (.iload_n 2, 1, 0, 0, .null)] (pc' := 53) (ls' := [some (.ref 56), some (.int p1), some (.int p2)]) (st' := [.int p2, .int (w1.1 56 5), .ref 58]) (g' := w1) (by decide +kernel) rfl ?_
          obtain ⟨h5, H⟩ := xg_elim H
          refine xzast A (nxt := 54) (by decide +kernel) (hS _ _ sh_58) h5 ?_
          show xW k S 0 0 54 [some (.ref 56), some (.int p1), some (.int p2)] [] (xupd w1.1 58 (w1.1 56 5).toNatClampNeg (p2 &&& 1), w1.2)
          refine xb A [(.aload_n 0, 1, 0, 0, .null), (.dup, 1, 0, 0, .null), (.getfield 30, 3, 56, 5, .int 0), (.iconst 1, 1, 0, 0, .int 1), (.iadd, 1, 0, 0, .null), (.putfield 30, 3, 56, 5, .int 0), (.aload_n 0, 1, 0, 0, .null), (.getfield 30, 3, 56, 5, .int 0), (.iconst 1, 1, 0, 0, .int 1), (.isub, 1, 0, 0, .null)] (pc' := 70) (ls' := [some (.ref 56), some (.int p1), some (.int p2)]) (st' := [.int (((w1.1 56 5) + 1) - 1)]) (g' := (xupd (xupd w1.1 58 (w1.1 56 5).toNatClampNeg (p2 &&& 1)) 56 5 ((w1.1 56 5) + 1), w1.2)) (by decide +kernel) rfl ?_
          obtain rfl := Option.some.inj H
          exact xret_i A hR hz (by decide +kernel) rfl ⟨rfl, rfl⟩
        · rw [if_neg h4] at H
          refine xb A [(.iconst (-1), 1, 0, 0, .int (-1))] (pc' := 31) (ls' := [some (.ref 56), some (.int p1), some (.int p2)]) (st' := [.int (-1)]) (g' := g) (by decide +kernel) rfl ?_
          obtain rfl := Option.some.inj H
          exact xret_i A hR hz (by decide +kernel) rfl ⟨rfl, rfl⟩
theorem fr_X0_add_56 {p1 : Int32} {p2 : Int32} {g : xG} (out : Int32 × xG) (H : f_X0_add_56 p1 p2 g = some out) : xfrm fp_X0_add_56 g (out.2) := by
  have H : (if p1 < 0 then
  some ((-1), g)
else
  if 999 < p1 then
    some ((-1), g)
  else
    if (g.1 56 5) < 0 then
      some ((-1), g)
    else
      if (g.1 56 5) < 20 then
        xl (xput g 57 20 (g.1 56 5) p1) fun w1 =>
        xg (¬ ((w1.1 56 5) < 0 ∨ 20 ≤ (w1.1 56 5).toNatClampNeg)) (
          some (((w1.1 56 5) + 1) - 1, (xupd (xupd w1.1 58 (w1.1 56 5).toNatClampNeg (p2 &&& 1)) 56 5 ((w1.1 56 5) + 1), w1.2)))
      else
        some ((-1), g)) = some out := H
  by_cases h1 : p1 < 0
  · rw [if_pos h1] at H
    obtain rfl := Option.some.inj H
    exact xfrm.rf
  · rw [if_neg h1] at H
    by_cases h2 : 999 < p1
    · rw [if_pos h2] at H
      obtain rfl := Option.some.inj H
      exact xfrm.rf
    · rw [if_neg h2] at H
      by_cases h3 : (g.1 56 5) < 0
      · rw [if_pos h3] at H
        obtain rfl := Option.some.inj H
        exact xfrm.rf
      · rw [if_neg h3] at H
        by_cases h4 : (g.1 56 5) < 20
        · rw [if_pos h4] at H
          obtain ⟨w1, e1, H⟩ := xl_elim H
          have hf1 : xfrm fp_X0_add_56 g (w1) := xfrm_xput xfrm.rf rfl e1
          obtain ⟨h5, H⟩ := xg_elim H
          have hf2 : xfrm fp_X0_add_56 g ((xupd w1.1 58 (w1.1 56 5).toNatClampNeg (p2 &&& 1), w1.2)) := xfrm.ua hf1 rfl
          have hf3 : xfrm fp_X0_add_56 g ((xupd (xupd w1.1 58 (w1.1 56 5).toNatClampNeg (p2 &&& 1)) 56 5 ((w1.1 56 5) + 1), w1.2)) := xfrm.up hf2 rfl
          obtain rfl := Option.some.inj H
          exact hf3
        · rw [if_neg h4] at H
          obtain rfl := Option.some.inj H
          exact xfrm.rf
def fp_X11_tell_0 : List (Nat × Option Nat) := [(56, some 5), (57, none), (58, none)]
def f_X11_tell_0 (p1 : Int32) (p2 : Int32) (g : xG) : Option (Int32 × xG) :=
  (f_X0_add_56 p1 p2 g).bind fun w1 =>
  some (w1.1, w1.2)
set_option maxRecDepth 20000 in
theorem c_X11_tell_0 {S : List xSh} (hS : xpf SH1 S) {g : xG} {p1 : Int32} {p2 : Int32} (out : Int32 × xG) (H : f_X11_tell_0 p1 p2 g = some out) : xC mX11_tell 2 44 0 0 S [.ref 0, .int p1, .int p2] g S (fun r g' => r = some (.int out.1) ∧ g' = out.2) := by
  have H : ((f_X0_add_56 p1 p2 g).bind fun w1 =>
some (w1.1, w1.2)) = some out := H
  refine xC.of 11 SH1 [some (.ref 0), some (.int p1), some (.int p2)] hS (by decide +kernel) rfl (fun _ _ => Nat.le_of_ble_eq_true rfl) (fun _ _ => rfl) ?_
  intro k A hR hrm hz
  refine xb A [(.aload_n 0, 1, 0, 0, .null), (.getfield 90, 3, 0, 12, .ref 56), (.iload_n 1, 1, 0, 0, .null), (.iload_n 2, 1, 0, 0, .null)] (pc' := 6) (ls' := [some (.ref 0), some (.int p1), some (.int p2)]) (st' := [.int p2, .int p1, .ref 56]) (g' := g) (by decide +kernel) rfl ?_
  obtain ⟨w1, e1, H⟩ := xbind H
  refine xcallV A (ix := 311) (nxt := 9) hrm hz [.int p1, .int p2] [] 1277 (c_X0_add_56 hS _ e1) ok_X0_add (by decide +kernel) rfl (fun r g1 hq => ?_)
  rw [hq.1, hq.2]
  show xW k S 0 0 9 [some (.ref 0), some (.int p1), some (.int p2)] [.int w1.1] w1.2
  obtain rfl := Option.some.inj H
  exact xret_i A hR hz (by decide +kernel) rfl ⟨rfl, rfl⟩
theorem fr_X11_tell_0 {p1 : Int32} {p2 : Int32} {g : xG} (out : Int32 × xG) (H : f_X11_tell_0 p1 p2 g = some out) : xfrm fp_X11_tell_0 g (out.2) := by
  have H : ((f_X0_add_56 p1 p2 g).bind fun w1 =>
some (w1.1, w1.2)) = some out := H
  obtain ⟨w1, e1, H⟩ := xbind H
  have hf1 : xfrm fp_X11_tell_0 g (w1.2) := xfrm.tr xfrm.rf (fr_X0_add_56 _ e1) rfl
  obtain rfl := Option.some.inj H
  exact hf1
def f_X0_size_56  (g : xG) : Int32 :=
  g.1 56 5
set_option maxRecDepth 20000 in
theorem c_X0_size_56 {S : List xSh} (hS : xpf SH1 S) {g : xG}  (out : Int32) (H : f_X0_size_56  g = out) : xC mX0_size 0 0 0 0 S [.ref 56] g S (fun r g' => r = some (.int out) ∧ g' = g) := by
  have H : (g.1 56 5) = out := H
  refine xC.of 0 SH1 [some (.ref 56)] hS (by decide +kernel) rfl (fun _ _ => Nat.le_of_ble_eq_true rfl) (fun _ _ => rfl) ?_
  intro k A hR hrm hz
  refine xb A [(.aload_n 0, 1, 0, 0, .null), (.getfield 30, 3, 56, 5, .int 0)] (pc' := 4) (ls' := [some (.ref 56)]) (st' := [.int (g.1 56 5)]) (g' := g) (by decide +kernel) rfl ?_
  subst H
  exact xret_i A hR hz (by decide +kernel) rfl ⟨rfl, rfl⟩
def fp_X11_forget_0 : List (Nat × Option Nat) := [(56, some 5)]
def f_X11_forget_0  (g : xG) : Int32 × xG :=
  xl (f_X0_clear_56 g) fun w1 =>
  (f_X0_size_56 g, w1)
set_option maxRecDepth 20000 in
theorem c_X11_forget_0 {S : List xSh} (hS : xpf SH1 S) {g : xG}  (out : Int32 × xG) (H : f_X11_forget_0  g = out) : xC mX11_forget 1 20 0 0 S [.ref 0] g S (fun r g' => r = some (.int out.1) ∧ g' = out.2) := by
  have H : (xl (f_X0_clear_56 g) fun w1 =>
(f_X0_size_56 g, w1)) = out := H
  refine xC.of 11 SH1 [some (.ref 0), none] hS (by decide +kernel) rfl (fun _ _ => Nat.le_of_ble_eq_true rfl) (fun _ _ => rfl) ?_
  intro k A hR hrm hz
  refine xb A [(.aload_n 0, 1, 0, 0, .null), (.getfield 90, 3, 0, 12, .ref 56)] (pc' := 4) (ls' := [some (.ref 0), none]) (st' := [.ref 56]) (g' := g) (by decide +kernel) rfl ?_
  refine xcallV A (ix := 315) (nxt := 7) hrm hz [] [] 1286 (c_X0_size_56 hS _ rfl) ok_X0_size (by decide +kernel) rfl (fun r g1 hq => ?_)
  rw [hq.1, hq.2]
  show xW k S 0 0 7 [some (.ref 0), none] [.int (f_X0_size_56 g)] g
  refine xb A [(.istore_n 1, 1, 0, 0, .null), (.aload_n 0, 1, 0, 0, .null), (.getfield 90, 3, 0, 12, .ref 56)] (pc' := 12) (ls' := [some (.ref 0), some (.int (f_X0_size_56 g))]) (st' := [.ref 56]) (g' := g) (by decide +kernel) rfl ?_
  obtain ⟨w1, e1, H⟩ := xl_elim H
  refine xcallV A (ix := 142) (nxt := 15) hrm hz [] [] 543 (c_X0_clear_56 hS _ e1) ok_X0_clear (by decide +kernel) rfl (fun r g1 hq => ?_)
  rw [hq.1, hq.2]
  show xW k S 0 0 15 [some (.ref 0), some (.int (f_X0_size_56 g))] [] w1
  refine xb A [(.iload_n 1, 1, 0, 0, .null)] (pc' := 16) (ls' := [some (.ref 0), some (.int (f_X0_size_56 g))]) (st' := [.int (f_X0_size_56 g)]) (g' := w1) (by decide +kernel) rfl ?_
  subst H
  exact xret_i A hR hz (by decide +kernel) rfl ⟨rfl, rfl⟩
theorem fr_X11_forget_0  {g : xG} (out : Int32 × xG) (H : f_X11_forget_0  g = out) : xfrm fp_X11_forget_0 g (out.2) := by
  have H : (xl (f_X0_clear_56 g) fun w1 =>
(f_X0_size_56 g, w1)) = out := H
  obtain ⟨w1, e1, H⟩ := xl_elim H
  have hf1 : xfrm fp_X11_forget_0 g (w1) := xfrm.tr xfrm.rf (fr_X0_clear_56 _ e1) rfl
  subst H
  exact hf1
def f_X11_isKnown_0 (p1 : Int32) (g : xG) : Int32 :=
  if p1 < 0 then
    0
  else
    if (f_X0_size_56 g) < p1 then
      0
    else
      1
set_option maxRecDepth 20000 in
theorem c_X11_isKnown_0 {S : List xSh} (hS : xpf SH1 S) {g : xG} {p1 : Int32} (out : Int32) (H : f_X11_isKnown_0 p1 g = out) : xC mX11_isKnown 1 20 0 0 S [.ref 0, .int p1] g S (fun r g' => r = some (.int out) ∧ g' = g) := by
  have H : (if p1 < 0 then
  0
else
  if (f_X0_size_56 g) < p1 then
    0
  else
    1) = out := H
  refine xC.of 11 SH1 [some (.ref 0), some (.int p1)] hS (by decide +kernel) rfl (fun _ _ => Nat.le_of_ble_eq_true rfl) (fun _ _ => rfl) ?_
  intro k A hR hrm hz
  refine xb A [(.iload_n 1, 1, 0, 0, .null)] (pc' := 1) (ls' := [some (.ref 0), some (.int p1)]) (st' := [.int p1]) (g' := g) (by decide +kernel) rfl ?_
  refine xif_lt A (18) 19 4 (by decide +kernel) (fun h1 => ?_) (fun h1 => ?_)
  · rw [if_pos h1] at H
    refine xb A [(.iconst 0, 1, 0, 0, .int 0)] (pc' := 20) (ls' := [some (.ref 0), some (.int p1)]) (st' := [.int 0]) (g' := g) (by decide +kernel) rfl ?_
    subst H
    exact xret_i A hR hz (by decide +kernel) rfl ⟨rfl, rfl⟩
  · rw [if_neg h1] at H
    refine xb A [(.iload_n 1, 1, 0, 0, .null), (.aload_n 0, 1, 0, 0, .null), (.getfield 90, 3, 0, 12, .ref 56)] (pc' := 9) (ls' := [some (.ref 0), some (.int p1)]) (st' := [.ref 56, .int p1]) (g' := g) (by decide +kernel) rfl ?_
    refine xcallV A (ix := 315) (nxt := 12) hrm hz [] [.int p1] 1286 (c_X0_size_56 hS _ rfl) ok_X0_size (by decide +kernel) rfl (fun r g1 hq => ?_)
    rw [hq.1, hq.2]
    show xW k S 0 0 12 [some (.ref 0), some (.int p1)] [.int (f_X0_size_56 g), .int p1] g
    refine xic_gt A (7) 19 15 (by decide +kernel) (fun h2 => ?_) (fun h2 => ?_)
    · rw [if_pos h2] at H
      refine xb A [(.iconst 0, 1, 0, 0, .int 0)] (pc' := 20) (ls' := [some (.ref 0), some (.int p1)]) (st' := [.int 0]) (g' := g) (by decide +kernel) rfl ?_
      subst H
      exact xret_i A hR hz (by decide +kernel) rfl ⟨rfl, rfl⟩
    · rw [if_neg h2] at H
      refine xb A [(.iconst 1, 1, 0, 0, .int 1)] (pc' := 16) (ls' := [some (.ref 0), some (.int p1)]) (st' := [.int 1]) (g' := g) (by decide +kernel) rfl ?_
      refine xgoto A (4) 20 (by decide +kernel) ?_
      subst H
      exact xret_i A hR hz (by decide +kernel) rfl ⟨rfl, rfl⟩
def f_X0_agrees_56_2  (g : xG) : Nat → Int32 → Int32 → Int32 → Option (Int32)
  | 0, _, _, _ => none
  | n + 1, l1, l2, l3 =>
    if l1 ≤ l3 then
      some 1
    else
      if 20 ≤ l3 then
        some 1
      else
        if l2 < (xat g 57 20 l3) then
          xg (¬ (l3 < 0 ∨ 20 ≤ l3.toNatClampNeg)) (
            if 0 = (g.1 58 l3.toNatClampNeg) then
              f_X0_agrees_56_2 g n l1 l2 (l3 + 1)
            else
              some 0)
        else
          xg (¬ (l3 < 0 ∨ 20 ≤ l3.toNatClampNeg)) (
            if 1 = (g.1 58 l3.toNatClampNeg) then
              f_X0_agrees_56_2 g n l1 l2 (l3 + 1)
            else
              some 0)
def f_X0_agrees_56 (p1 : Int32) (p2 : Int32) (g : xG) : Option (Int32) :=
  f_X0_agrees_56_2 g xN p1 p2 0
set_option maxRecDepth 20000 in
theorem t_X0_agrees_56_2 {k : xK} {S : List xSh} {g : xG} {out : Int32} (hS : xpf SH1 S) (A : xAt k mX0_agrees.2.1 0 SH1 S) (hR : xRet k 0 0 S (fun r g' => r = some (.int out) ∧ g' = g) mX0_agrees.2.2.2) (hrm : xrm k = { frames := 1, cells := 0, slots := 0, locals := 21 }) (hz : xhs k = xb0 k + S.length)   : ∀ (n : Nat) (l1 : Int32) (l2 : Int32) (l3 : Int32), f_X0_agrees_56_2 g n l1 l2 l3 = some out → xW k S 0 0 2 [some (.ref 56), some (.int l1), some (.int l2), some (.int l3)] [] g := by
  intro n
  induction n with
  | zero => intro l1 l2 l3 H; exact absurd H (by simp [f_X0_agrees_56_2])
  | succ n ih =>
    intro l1 l2 l3 H
    have H : (if l1 ≤ l3 then
  some 1
else
  if 20 ≤ l3 then
    some 1
  else
    if l2 < (xat g 57 20 l3) then
      xg (¬ (l3 < 0 ∨ 20 ≤ l3.toNatClampNeg)) (
        if 0 = (g.1 58 l3.toNatClampNeg) then
          f_X0_agrees_56_2 g n l1 l2 (l3 + 1)
        else
          some 0)
    else
      xg (¬ (l3 < 0 ∨ 20 ≤ l3.toNatClampNeg)) (
        if 1 = (g.1 58 l3.toNatClampNeg) then
          f_X0_agrees_56_2 g n l1 l2 (l3 + 1)
        else
          some 0)) = some out := H
    refine xb A [(.iload_n 3, 1, 0, 0, .null), (.iload_n 1, 1, 0, 0, .null)] (pc' := 4) (ls' := [some (.ref 56), some (.int l1), some (.int l2), some (.int l3)]) (st' := [.int l1, .int l3]) (g' := g) (by decide +kernel) rfl ?_
    refine xic_ge A (46) 50 7 (by decide +kernel) (fun h1 => ?_) (fun h1 => ?_)
    · rw [if_pos h1] at H
      refine xb A [(.iconst 1, 1, 0, 0, .int 1)] (pc' := 51) (ls' := [some (.ref 56), some (.int l1), some (.int l2), some (.int l3)]) (st' := [.int 1]) (g' := g) (by decide +kernel) rfl ?_
      obtain rfl := Option.some.inj H
      exact xret_i A hR hz (by decide +kernel) rfl ⟨rfl, rfl⟩
    · rw [if_neg h1] at H
      refine xb A [(.iload_n 3, 1, 0, 0, .null), (.aload_n 0, 1, 0, 0, .null), (.getfield 15, 3, 56, 3, .ref 58), (.arraylength, 1, 58, 0, .int 20)] (pc' := 13) (ls' := [some (.ref 56), some (.int l1), some (.int l2), some (.int l3)]) (st' := [.int 20, .int l3]) (g' := g) (by decide +kernel) rfl ?_
      refine xic_ge A (37) 50 16 (by decide +kernel) (fun h2 => ?_) (fun h2 => ?_)
      · rw [if_pos h2] at H
        refine xb A [(.iconst 1, 1, 0, 0, .int 1)] (pc' := 51) (ls' := [some (.ref 56), some (.int l1), some (.int l2), some (.int l3)]) (st' := [.int 1]) (g' := g) (by decide +kernel) rfl ?_
        obtain rfl := Option.some.inj H
        exact xret_i A hR hz (by decide +kernel) rfl ⟨rfl, rfl⟩
      · rw [if_neg h2] at H
        refine xb A [(.iload_n 2, 1, 0, 0, .null), (.aload_n 0, 1, 0, 0, .null), (.getfield 11, 3, 56, 2, .ref 57), (.iload_n 3, 1, 0, 0, .null)] (pc' := 22) (ls' := [some (.ref 56), some (.int l1), some (.int l2), some (.int l3)]) (st' := [.int l3, .ref 57, .int l2]) (g' := g) (by decide +kernel) rfl ?_
        refine xcallSN A (ix := 60) (nxt := 25) (host := "NoonRinger") hrm hz [.ref 57, .int l3] [.int l2] 34 (c_X11_at (hS _ _ sh_57) (by decide)) ok_X11_at (by decide +kernel) rfl (fun r g1 hq => ?_)
        rw [hq.1, hq.2]
        show xW k S 0 0 25 [some (.ref 56), some (.int l1), some (.int l2), some (.int l3)] [.int (xat g 57 20 l3), .int l2] g
        refine xic_lt A (7) 32 28 (by decide +kernel) (fun h3 => ?_) (fun h3 => ?_)
        · rw [if_pos h3] at H
          refine xb A [(.iconst 0, 1, 0, 0, .int 0), (.aload_n 0, 1, 0, 0, .null), (.getfield 15, 3, 56, 3, .ref 58), (.iload_n 3, 1, 0, 0, .null)] (pc' := 38) (ls' := [some (.ref 56), some (.int l1), some (.int l2), some (.int l3)]) (st' := [.int l3, .ref 58, .int 0]) (g' := g) (by decide +kernel) rfl ?_
          obtain ⟨h4, H⟩ := xg_elim H
          refine xzald A (nxt := 39) (by decide +kernel) (hS _ _ sh_58) h4 ?_
          show xW k S 0 0 39 [some (.ref 56), some (.int l1), some (.int l2), some (.int l3)] [.int (g.1 58 l3.toNatClampNeg), .int 0] g
          refine xic_eq A (5) 44 42 (by decide +kernel) (fun h5 => ?_) (fun h5 => ?_)
          · rw [if_pos h5] at H
            refine xb A [(.iinc 3 1, 3, 0, 0, .null)] (pc' := 47) (ls' := [some (.ref 56), some (.int l1), some (.int l2), some (.int (l3 + 1))]) (st' := []) (g' := g) (by decide +kernel) rfl ?_
            refine xgoto A (-45) 2 (by decide +kernel) ?_
            exact ih _ _ _ H
          · rw [if_neg h5] at H
            refine xb A [(.iconst 0, 1, 0, 0, .int 0)] (pc' := 43) (ls' := [some (.ref 56), some (.int l1), some (.int l2), some (.int l3)]) (st' := [.int 0]) (g' := g) (by decide +kernel) rfl ?_
            obtain rfl := Option.some.inj H
            exact xret_i A hR hz (by decide +kernel) rfl ⟨rfl, rfl⟩
        · rw [if_neg h3] at H
          refine xb A [(.iconst 1, 1, 0, 0, .int 1)] (pc' := 29) (ls' := [some (.ref 56), some (.int l1), some (.int l2), some (.int l3)]) (st' := [.int 1]) (g' := g) (by decide +kernel) rfl ?_
          refine xgoto A (4) 33 (by decide +kernel) ?_
          refine xb A [(.aload_n 0, 1, 0, 0, .null), (.getfield 15, 3, 56, 3, .ref 58), (.iload_n 3, 1, 0, 0, .null)] (pc' := 38) (ls' := [some (.ref 56), some (.int l1), some (.int l2), some (.int l3)]) (st' := [.int l3, .ref 58, .int 1]) (g' := g) (by decide +kernel) rfl ?_
          obtain ⟨h6, H⟩ := xg_elim H
          refine xzald A (nxt := 39) (by decide +kernel) (hS _ _ sh_58) h6 ?_
          show xW k S 0 0 39 [some (.ref 56), some (.int l1), some (.int l2), some (.int l3)] [.int (g.1 58 l3.toNatClampNeg), .int 1] g
          refine xic_eq A (5) 44 42 (by decide +kernel) (fun h7 => ?_) (fun h7 => ?_)
          · rw [if_pos h7] at H
            refine xb A [(.iinc 3 1, 3, 0, 0, .null)] (pc' := 47) (ls' := [some (.ref 56), some (.int l1), some (.int l2), some (.int (l3 + 1))]) (st' := []) (g' := g) (by decide +kernel) rfl ?_
            refine xgoto A (-45) 2 (by decide +kernel) ?_
            exact ih _ _ _ H
          · rw [if_neg h7] at H
            refine xb A [(.iconst 0, 1, 0, 0, .int 0)] (pc' := 43) (ls' := [some (.ref 56), some (.int l1), some (.int l2), some (.int l3)]) (st' := [.int 0]) (g' := g) (by decide +kernel) rfl ?_
            obtain rfl := Option.some.inj H
            exact xret_i A hR hz (by decide +kernel) rfl ⟨rfl, rfl⟩
set_option maxRecDepth 20000 in
theorem c_X0_agrees_56 {S : List xSh} (hS : xpf SH1 S) {g : xG} {p1 : Int32} {p2 : Int32} (out : Int32) (H : f_X0_agrees_56 p1 p2 g = some out) : xC mX0_agrees 1 21 0 0 S [.ref 56, .int p1, .int p2] g S (fun r g' => r = some (.int out) ∧ g' = g) := by
  have H : (f_X0_agrees_56_2 g xN p1 p2 0) = some out := H
  refine xC.of 0 SH1 [some (.ref 56), some (.int p1), some (.int p2), none] hS (by decide +kernel) rfl (fun _ _ => Nat.le_of_ble_eq_true rfl) (fun _ _ => rfl) ?_
  intro k A hR hrm hz
  refine xb A [(.iconst 0, 1, 0, 0, .int 0), (.istore_n 3, 1, 0, 0, .null)] (pc' := 2) (ls' := [some (.ref 56), some (.int p1), some (.int p2), some (.int 0)]) (st' := []) (g' := g) (by decide +kernel) rfl ?_
  exact t_X0_agrees_56_2 hS A hR hrm hz _ _ _ _ H
def fp_X0_homesLeft_56_48 : List (Nat × Option Nat) := [(16, none), (45, none), (59, none)]
def f_X0_homesLeft_56_48_6  : Nat → Int32 → Int32 → Int32 → Int32 → xG → Option (Int32 × xG)
  | 0, _, _, _, _, _ => none
  | n + 1, l2, l3, l4, l5, g =>
    if (f_X4_towns_3 g) ≤ l5 then
      some (l4, g)
    else
      (f_X1_lawFrom_44_48 l3 l5 1 g).bind fun w1 =>
      xl (xput w1.2 59 7 l5 w1.1) fun w2 =>
      (f_X0_agrees_56 l2 w1.1 w2).bind fun w3 =>
      if w3 = 0 then
        f_X0_homesLeft_56_48_6 n l2 l3 l4 (l5 + 1) w2
      else
        f_X0_homesLeft_56_48_6 n l2 l3 (l4 ||| (f_X11_bit l5)) (l5 + 1) w2
def f_X0_homesLeft_56_48 (p2 : Int32) (p3 : Int32) (g : xG) : Option (Int32 × xG) :=
  f_X0_homesLeft_56_48_6 xN p2 p3 0 0 g
set_option maxRecDepth 20000 in
theorem t_X0_homesLeft_56_48_6 {k : xK} {S : List xSh} {out : Int32 × xG} (hS : xpf SH1 S) (A : xAt k mX0_homesLeft.2.1 0 SH1 S) (hR : xRet k 0 0 S (fun r g' => r = some (.int out.1) ∧ g' = out.2) mX0_homesLeft.2.2.2) (hrm : xrm k = { frames := 3, cells := 0, slots := 0, locals := 76 }) (hz : xhs k = xb0 k + S.length)   : ∀ (n : Nat) (l2 : Int32) (l3 : Int32) (l4 : Int32) (l5 : Int32) (g : xG), f_X0_homesLeft_56_48_6 n l2 l3 l4 l5 g = some out → xW k S 0 0 6 [some (.ref 56), some (.ref 48), some (.int l2), some (.int l3), some (.int l4), some (.int l5), none] [] g := by
  intro n
  induction n with
  | zero => intro l2 l3 l4 l5 g H; exact absurd H (by simp [f_X0_homesLeft_56_48_6])
  | succ n ih =>
    intro l2 l3 l4 l5 g H
    have H : (if (f_X4_towns_3 g) ≤ l5 then
  some (l4, g)
else
  (f_X1_lawFrom_44_48 l3 l5 1 g).bind fun w1 =>
  xl (xput w1.2 59 7 l5 w1.1) fun w2 =>
  (f_X0_agrees_56 l2 w1.1 w2).bind fun w3 =>
  if w3 = 0 then
    f_X0_homesLeft_56_48_6 n l2 l3 l4 (l5 + 1) w2
  else
    f_X0_homesLeft_56_48_6 n l2 l3 (l4 ||| (f_X11_bit l5)) (l5 + 1) w2) = some out := H
    refine xb A [(.iload 5, 2, 0, 0, .null), (.aload_n 0, 1, 0, 0, .null), (.getfield 22, 3, 56, 0, .ref 3)] (pc' := 12) (ls' := [some (.ref 56), some (.ref 48), some (.int l2), some (.int l3), some (.int l4), some (.int l5), none]) (st' := [.ref 3, .int l5]) (g' := g) (by decide +kernel) rfl ?_
    refine xcallV A (ix := 38) (nxt := 15) hrm hz [] [.int l5] 1302 (c_X4_towns_3 hS _ rfl) ok_X4_towns (by decide +kernel) rfl (fun r g1 hq => ?_)
    rw [hq.1, hq.2]
    show xW k S 0 0 15 [some (.ref 56), some (.ref 48), some (.int l2), some (.int l3), some (.int l4), some (.int l5), none] [.int (f_X4_towns_3 g), .int l5] g
    refine xic_ge A (54) 69 18 (by decide +kernel) (fun h1 => ?_) (fun h1 => ?_)
    · rw [if_pos h1] at H
      refine xb A [(.iload 4, 2, 0, 0, .null)] (pc' := 71) (ls' := [some (.ref 56), some (.ref 48), some (.int l2), some (.int l3), some (.int l4), some (.int l5), none]) (st' := [.int l4]) (g' := g) (by decide +kernel) rfl ?_
      obtain rfl := Option.some.inj H
      exact xret_i A hR hz (by decide +kernel) rfl ⟨rfl, rfl⟩
    · rw [if_neg h1] at H
      refine xb A [(.aload_n 0, 1, 0, 0, .null), (.getfield 26, 3, 56, 1, .ref 44), (.aload_n 1, 1, 0, 0, .null), (.iload_n 3, 1, 0, 0, .null), (.iload 5, 2, 0, 0, .null), (.iconst 1, 1, 0, 0, .int 1)] (pc' := 27) (ls' := [some (.ref 56), some (.ref 48), some (.int l2), some (.int l3), some (.int l4), some (.int l5), none]) (st' := [.int 1, .int l5, .int l3, .ref 48, .ref 44]) (g' := g) (by decide +kernel) rfl ?_
      obtain ⟨w1, e1, H⟩ := xbind H
      refine xcallV A (ix := 46) (nxt := 30) hrm hz [.ref 48, .int l3, .int l5, .int 1] [] 1303 (c_X1_lawFrom_44_48 hS _ e1) ok_X1_lawFrom (by decide +kernel) rfl (fun r g1 hq => ?_)
      rw [hq.1, hq.2]
      show xW k S 0 0 30 [some (.ref 56), some (.ref 48), some (.int l2), some (.int l3), some (.int l4), some (.int l5), none] [.int w1.1] w1.2
      refine xb A [(.istore 6, 2, 0, 0, .null), (.aload_n 0, 1, 0, 0, .null), (.getfield 19, 3, 56, 4, .ref 59), (.iload 5, 2, 0, 0, .null), (.iload 6, 2, 0, 0, .null)] (pc' := 40) (ls' := [some (.ref 56), some (.ref 48), some (.int l2), some (.int l3), some (.int l4), some (.int l5), some (.int w1.1)]) (st' := [.int w1.1, .int l5, .ref 59]) (g' := w1.2) (by decide +kernel) rfl ?_
      obtain ⟨w2, e2, H⟩ := xl_elim H
      refine xcallSN A (ix := 34) (nxt := 43) (host := "NoonRinger") hrm hz [.ref 59, .int l5, .int w1.1] [] 33 (c_X11_put (hS _ _ sh_59) (by decide)) ok_X11_put (by decide +kernel) rfl (fun r g1 hq => ?_)
      rw [hq.1, hq.2]
      rw [e2]
      show xW k S 0 0 43 [some (.ref 56), some (.ref 48), some (.int l2), some (.int l3), some (.int l4), some (.int l5), some (.int w1.1)] [] w2
      refine xb A [(.aload_n 0, 1, 0, 0, .null), (.iload_n 2, 1, 0, 0, .null), (.iload 6, 2, 0, 0, .null)] (pc' := 47) (ls' := [some (.ref 56), some (.ref 48), some (.int l2), some (.int l3), some (.int l4), some (.int l5), some (.int w1.1)]) (st' := [.int w1.1, .int l2, .ref 56]) (g' := w2) (by decide +kernel) rfl ?_
      obtain ⟨w3, e3, H⟩ := xbind H
      refine xcallV A (ix := 52) (nxt := 50) hrm hz [.int l2, .int w1.1] [] 1304 (c_X0_agrees_56 hS _ e3) ok_X0_agrees (by decide +kernel) rfl (fun r g1 hq => ?_)
      rw [hq.1, hq.2]
      show xW k S 0 0 50 [some (.ref 56), some (.ref 48), some (.int l2), some (.int l3), some (.int l4), some (.int l5), some (.int w1.1)] [.int w3] w2
      refine xif_eq A (13) 63 53 (by decide +kernel) (fun h2 => ?_) (fun h2 => ?_)
      · rw [if_pos h2] at H
        refine xb A [(.iinc 5 1, 3, 0, 0, .null)] (pc' := 66) (ls' := [some (.ref 56), some (.ref 48), some (.int l2), some (.int l3), some (.int l4), some (.int (l5 + 1)), some (.int w1.1)]) (st' := []) (g' := w2) (by decide +kernel) rfl ?_
        refine xgoto A (-60) 6 (by decide +kernel) ?_
        refine xweak (ls' := [some (.ref 56), some (.ref 48), some (.int l2), some (.int l3), some (.int l4), some (.int (l5 + 1)), none]) (by exact ⟨rfl, ⟨rfl, ⟨rfl, ⟨rfl, ⟨rfl, ⟨rfl, trivial⟩⟩⟩⟩⟩⟩) ?_
        exact ih _ _ _ _ _ H
      · rw [if_neg h2] at H
        refine xb A [(.iload 4, 2, 0, 0, .null), (.iload 5, 2, 0, 0, .null)] (pc' := 57) (ls' := [some (.ref 56), some (.ref 48), some (.int l2), some (.int l3), some (.int l4), some (.int l5), some (.int w1.1)]) (st' := [.int l5, .int l4]) (g' := w2) (by decide +kernel) rfl ?_
        refine xcallSN A (ix := 56) (nxt := 60) (host := "NoonRinger") hrm hz [.int l5] [.int l4] 35 (c_X11_bit hS _ rfl) ok_X11_bit (by decide +kernel) rfl (fun r g1 hq => ?_)
        rw [hq.1, hq.2]
        show xW k S 0 0 60 [some (.ref 56), some (.ref 48), some (.int l2), some (.int l3), some (.int l4), some (.int l5), some (.int w1.1)] [.int (f_X11_bit l5), .int l4] w2
        refine xb A [(.ior, 1, 0, 0, .null), (.istore 4, 2, 0, 0, .null), (.iinc 5 1, 3, 0, 0, .null)] (pc' := 66) (ls' := [some (.ref 56), some (.ref 48), some (.int l2), some (.int l3), some (.int (l4 ||| (f_X11_bit l5))), some (.int (l5 + 1)), some (.int w1.1)]) (st' := []) (g' := w2) (by decide +kernel) rfl ?_
        refine xgoto A (-60) 6 (by decide +kernel) ?_
        refine xweak (ls' := [some (.ref 56), some (.ref 48), some (.int l2), some (.int l3), some (.int (l4 ||| (f_X11_bit l5))), some (.int (l5 + 1)), none]) (by exact ⟨rfl, ⟨rfl, ⟨rfl, ⟨rfl, ⟨rfl, ⟨rfl, trivial⟩⟩⟩⟩⟩⟩) ?_
        exact ih _ _ _ _ _ H
theorem fr_X0_homesLeft_56_48_6   : ∀ (n : Nat) (l2 : Int32) (l3 : Int32) (l4 : Int32) (l5 : Int32) (g : xG) (out : Int32 × xG), f_X0_homesLeft_56_48_6 n l2 l3 l4 l5 g = some out → xfrm fp_X0_homesLeft_56_48 g (out.2) := by
  intro n
  induction n with
  | zero => intro l2 l3 l4 l5 g out H; exact absurd H (by simp [f_X0_homesLeft_56_48_6])
  | succ n ih =>
    intro l2 l3 l4 l5 g out H
    have H : (if (f_X4_towns_3 g) ≤ l5 then
  some (l4, g)
else
  (f_X1_lawFrom_44_48 l3 l5 1 g).bind fun w1 =>
  xl (xput w1.2 59 7 l5 w1.1) fun w2 =>
  (f_X0_agrees_56 l2 w1.1 w2).bind fun w3 =>
  if w3 = 0 then
    f_X0_homesLeft_56_48_6 n l2 l3 l4 (l5 + 1) w2
  else
    f_X0_homesLeft_56_48_6 n l2 l3 (l4 ||| (f_X11_bit l5)) (l5 + 1) w2) = some out := H
    by_cases h1 : (f_X4_towns_3 g) ≤ l5
    · rw [if_pos h1] at H
      obtain rfl := Option.some.inj H
      exact xfrm.rf
    · rw [if_neg h1] at H
      obtain ⟨w1, e1, H⟩ := xbind H
      have hf1 : xfrm fp_X0_homesLeft_56_48 g (w1.2) := xfrm.tr xfrm.rf (fr_X1_lawFrom_44_48 _ e1) rfl
      obtain ⟨w2, e2, H⟩ := xl_elim H
      have hf2 : xfrm fp_X0_homesLeft_56_48 g (w2) := xfrm_xput hf1 rfl e2
      obtain ⟨w3, e3, H⟩ := xbind H
      by_cases h2 : w3 = 0
      · rw [if_pos h2] at H
        exact xfrm.tr hf2 (ih _ _ _ _ _ _ H) rfl
      · rw [if_neg h2] at H
        exact xfrm.tr hf2 (ih _ _ _ _ _ _ H) rfl
set_option maxRecDepth 20000 in
theorem c_X0_homesLeft_56_48 {S : List xSh} (hS : xpf SH1 S) {g : xG} {p2 : Int32} {p3 : Int32} (out : Int32 × xG) (H : f_X0_homesLeft_56_48 p2 p3 g = some out) : xC mX0_homesLeft 3 76 0 0 S [.ref 56, .ref 48, .int p2, .int p3] g S (fun r g' => r = some (.int out.1) ∧ g' = out.2) := by
  have H : (f_X0_homesLeft_56_48_6 xN p2 p3 0 0 g) = some out := H
  refine xC.of 0 SH1 [some (.ref 56), some (.ref 48), some (.int p2), some (.int p3), none, none, none] hS (by decide +kernel) rfl (fun _ _ => Nat.le_of_ble_eq_true rfl) (fun _ _ => rfl) ?_
  intro k A hR hrm hz
  refine xb A [(.iconst 0, 1, 0, 0, .int 0), (.istore 4, 2, 0, 0, .null), (.iconst 0, 1, 0, 0, .int 0), (.istore 5, 2, 0, 0, .null)] (pc' := 6) (ls' := [some (.ref 56), some (.ref 48), some (.int p2), some (.int p3), some (.int 0), some (.int 0), none]) (st' := []) (g' := g) (by decide +kernel) rfl ?_
  exact t_X0_homesLeft_56_48_6 hS A hR hrm hz _ _ _ _ _ _ H
theorem fr_X0_homesLeft_56_48 {p2 : Int32} {p3 : Int32} {g : xG} (out : Int32 × xG) (H : f_X0_homesLeft_56_48 p2 p3 g = some out) : xfrm fp_X0_homesLeft_56_48 g (out.2) := by
  have H : (f_X0_homesLeft_56_48_6 xN p2 p3 0 0 g) = some out := H
  exact xfrm.tr xfrm.rf (fr_X0_homesLeft_56_48_6 _ _ _ _ _ _ _ H) rfl
def fp_X11_whence_0 : List (Nat × Option Nat) := [(16, none), (45, none), (59, none)]
def f_X11_whence_0_30  (l1 : Int32) (l2 : Int32) (l3 : Int32) (g : xG) : Option (Int32 × xG) :=
  (f_X0_homesLeft_56_48 l1 l2 g).bind fun w1 =>
  if l3 = 0 then
    some (f_J6_bitCount_0f7a4 w1.1, w1.2)
  else
    some (w1.1, w1.2)
def f_X11_whence_0 (p1 : Int32) (p2 : Int32) (p3 : Int32) (g : xG) : Option (Int32 × xG) :=
  if (f_X11_isKnown_0 p1 g) = 0 then
    some ((-1), g)
  else
    if (f_X4_isPerson_3 p2 g) = 0 then
      some ((-1), g)
    else
      if p3 = 0 then
        f_X11_whence_0_30 p1 p2 p3 g
      else
        if p3 = 1 then
          f_X11_whence_0_30 p1 p2 p3 g
        else
          some ((-1), g)
set_option maxRecDepth 20000 in
theorem t_X11_whence_0_30 {k : xK} {S : List xSh} {out : Int32 × xG} (hS : xpf SH1 S) (A : xAt k mX11_whence.2.1 11 SH1 S) (hR : xRet k 0 0 S (fun r g' => r = some (.int out.1) ∧ g' = out.2) mX11_whence.2.2.2) (hrm : xrm k = { frames := 4, cells := 0, slots := 0, locals := 102 }) (hz : xhs k = xb0 k + S.length)   : ∀ (l1 : Int32) (l2 : Int32) (l3 : Int32) (g : xG), f_X11_whence_0_30 l1 l2 l3 g = some out → xW k S 0 0 30 [some (.ref 0), some (.int l1), some (.int l2), some (.int l3), none] [] g := by
  intro l1 l2 l3 g H
  have H : ((f_X0_homesLeft_56_48 l1 l2 g).bind fun w1 =>
if l3 = 0 then
  some (f_J6_bitCount_0f7a4 w1.1, w1.2)
else
  some (w1.1, w1.2)) = some out := H
  refine xb A [(.aload_n 0, 1, 0, 0, .null), (.getfield 90, 3, 0, 12, .ref 56), (.aload_n 0, 1, 0, 0, .null), (.getfield 66, 3, 0, 8, .ref 48), (.iload_n 1, 1, 0, 0, .null), (.iload_n 2, 1, 0, 0, .null)] (pc' := 40) (ls' := [some (.ref 0), some (.int l1), some (.int l2), some (.int l3), none]) (st' := [.int l2, .int l1, .ref 48, .ref 56]) (g' := g) (by decide +kernel) rfl ?_
  obtain ⟨w1, e1, H⟩ := xbind H
  refine xcallV A (ix := 319) (nxt := 43) hrm hz [.ref 48, .int l1, .int l2] [] 1298 (c_X0_homesLeft_56_48 hS _ e1) ok_X0_homesLeft (by decide +kernel) rfl (fun r g1 hq => ?_)
  rw [hq.1, hq.2]
  show xW k S 0 0 43 [some (.ref 0), some (.int l1), some (.int l2), some (.int l3), none] [.int w1.1] w1.2
  refine xb A [(.istore 4, 2, 0, 0, .null), (.iload_n 3, 1, 0, 0, .null)] (pc' := 46) (ls' := [some (.ref 0), some (.int l1), some (.int l2), some (.int l3), some (.int w1.1)]) (st' := [.int l3]) (g' := w1.2) (by decide +kernel) rfl ?_
  refine xif_ne A (11) 57 49 (by decide +kernel) (fun h4 => ?_) (fun h4 => ?_)
  · rw [if_neg h4] at H
    refine xb A [(.iload 4, 2, 0, 0, .null)] (pc' := 59) (ls' := [some (.ref 0), some (.int l1), some (.int l2), some (.int l3), some (.int w1.1)]) (st' := [.int w1.1]) (g' := w1.2) (by decide +kernel) rfl ?_
    obtain rfl := Option.some.inj H
    exact xret_i A hR hz (by decide +kernel) rfl ⟨rfl, rfl⟩
  · rw [if_pos h4] at H
    refine xb A [(.iload 4, 2, 0, 0, .null)] (pc' := 51) (ls' := [some (.ref 0), some (.int l1), some (.int l2), some (.int l3), some (.int w1.1)]) (st' := [.int w1.1]) (g' := w1.2) (by decide +kernel) rfl ?_
    refine xcallS A (ix := 284) (nxt := 54) hrm hz [.int w1.1] [] 1202 (c_J6_bitCount_0f7a4 hS _ rfl) ok_J6_bitCount_0f7a4 (by decide +kernel) rfl (fun r g1 hq => ?_)
    rw [hq.1, hq.2]
    show xW k S 0 0 54 [some (.ref 0), some (.int l1), some (.int l2), some (.int l3), some (.int w1.1)] [.int (f_J6_bitCount_0f7a4 w1.1)] w1.2
    refine xgoto A (5) 59 (by decide +kernel) ?_
    obtain rfl := Option.some.inj H
    exact xret_i A hR hz (by decide +kernel) rfl ⟨rfl, rfl⟩
theorem fr_X11_whence_0_30   : ∀ (l1 : Int32) (l2 : Int32) (l3 : Int32) (g : xG) (out : Int32 × xG), f_X11_whence_0_30 l1 l2 l3 g = some out → xfrm fp_X11_whence_0 g (out.2) := by
  intro l1 l2 l3 g out H
  have H : ((f_X0_homesLeft_56_48 l1 l2 g).bind fun w1 =>
if l3 = 0 then
  some (f_J6_bitCount_0f7a4 w1.1, w1.2)
else
  some (w1.1, w1.2)) = some out := H
  obtain ⟨w1, e1, H⟩ := xbind H
  have hf1 : xfrm fp_X11_whence_0 g (w1.2) := xfrm.tr xfrm.rf (fr_X0_homesLeft_56_48 _ e1) rfl
  by_cases h4 : l3 = 0
  · rw [if_pos h4] at H
    obtain rfl := Option.some.inj H
    exact hf1
  · rw [if_neg h4] at H
    obtain rfl := Option.some.inj H
    exact hf1
set_option maxRecDepth 20000 in
theorem c_X11_whence_0 {S : List xSh} (hS : xpf SH1 S) {g : xG} {p1 : Int32} {p2 : Int32} {p3 : Int32} (out : Int32 × xG) (H : f_X11_whence_0 p1 p2 p3 g = some out) : xC mX11_whence 4 102 0 0 S [.ref 0, .int p1, .int p2, .int p3] g S (fun r g' => r = some (.int out.1) ∧ g' = out.2) := by
  have H : (if (f_X11_isKnown_0 p1 g) = 0 then
  some ((-1), g)
else
  if (f_X4_isPerson_3 p2 g) = 0 then
    some ((-1), g)
  else
    if p3 = 0 then
      f_X11_whence_0_30 p1 p2 p3 g
    else
      if p3 = 1 then
        f_X11_whence_0_30 p1 p2 p3 g
      else
        some ((-1), g)) = some out := H
  refine xC.of 11 SH1 [some (.ref 0), some (.int p1), some (.int p2), some (.int p3), none] hS (by decide +kernel) rfl (fun _ _ => Nat.le_of_ble_eq_true rfl) (fun _ _ => rfl) ?_
  intro k A hR hrm hz
  refine xb A [(.aload_n 0, 1, 0, 0, .null), (.iload_n 1, 1, 0, 0, .null)] (pc' := 2) (ls' := [some (.ref 0), some (.int p1), some (.int p2), some (.int p3), none]) (st' := [.int p1, .ref 0]) (g' := g) (by decide +kernel) rfl ?_
  refine xcallV A (ix := 316) (nxt := 5) hrm hz [.int p1] [] 1294 (c_X11_isKnown_0 hS _ rfl) ok_X11_isKnown (by decide +kernel) rfl (fun r g1 hq => ?_)
  rw [hq.1, hq.2]
  show xW k S 0 0 5 [some (.ref 0), some (.int p1), some (.int p2), some (.int p3), none] [.int (f_X11_isKnown_0 p1 g)] g
  refine xif_eq A (23) 28 8 (by decide +kernel) (fun h1 => ?_) (fun h1 => ?_)
  · rw [if_pos h1] at H
    refine xb A [(.iconst (-1), 1, 0, 0, .int (-1))] (pc' := 29) (ls' := [some (.ref 0), some (.int p1), some (.int p2), some (.int p3), none]) (st' := [.int (-1)]) (g' := g) (by decide +kernel) rfl ?_
    obtain rfl := Option.some.inj H
    exact xret_i A hR hz (by decide +kernel) rfl ⟨rfl, rfl⟩
  · rw [if_neg h1] at H
    refine xb A [(.aload_n 0, 1, 0, 0, .null), (.getfield 19, 3, 0, 1, .ref 3), (.iload_n 2, 1, 0, 0, .null)] (pc' := 13) (ls' := [some (.ref 0), some (.int p1), some (.int p2), some (.int p3), none]) (st' := [.int p2, .ref 3]) (g' := g) (by decide +kernel) rfl ?_
    refine xcallV A (ix := 183) (nxt := 16) hrm hz [.int p2] [] 932 (c_X4_isPerson_3 hS _ rfl) ok_X4_isPerson (by decide +kernel) rfl (fun r g1 hq => ?_)
    rw [hq.1, hq.2]
    show xW k S 0 0 16 [some (.ref 0), some (.int p1), some (.int p2), some (.int p3), none] [.int (f_X4_isPerson_3 p2 g)] g
    refine xif_eq A (12) 28 19 (by decide +kernel) (fun h2 => ?_) (fun h2 => ?_)
    · rw [if_pos h2] at H
      refine xb A [(.iconst (-1), 1, 0, 0, .int (-1))] (pc' := 29) (ls' := [some (.ref 0), some (.int p1), some (.int p2), some (.int p3), none]) (st' := [.int (-1)]) (g' := g) (by decide +kernel) rfl ?_
      obtain rfl := Option.some.inj H
      exact xret_i A hR hz (by decide +kernel) rfl ⟨rfl, rfl⟩
    · rw [if_neg h2] at H
      refine xb A [(.iload_n 3, 1, 0, 0, .null)] (pc' := 20) (ls' := [some (.ref 0), some (.int p1), some (.int p2), some (.int p3), none]) (st' := [.int p3]) (g' := g) (by decide +kernel) rfl ?_
      refine xif_eq A (10) 30 23 (by decide +kernel) (fun h3 => ?_) (fun h3 => ?_)
      · rw [if_pos h3] at H
        exact t_X11_whence_0_30 hS A hR hrm hz _ _ _ _ H
      · rw [if_neg h3] at H
        refine xb A [(.iload_n 3, 1, 0, 0, .null), (.iconst 1, 1, 0, 0, .int 1)] (pc' := 25) (ls' := [some (.ref 0), some (.int p1), some (.int p2), some (.int p3), none]) (st' := [.int 1, .int p3]) (g' := g) (by decide +kernel) rfl ?_
        refine xic_eq A (5) 30 28 (by decide +kernel) (fun h5 => ?_) (fun h5 => ?_)
        · rw [if_pos h5] at H
          exact t_X11_whence_0_30 hS A hR hrm hz _ _ _ _ H
        · rw [if_neg h5] at H
          refine xb A [(.iconst (-1), 1, 0, 0, .int (-1))] (pc' := 29) (ls' := [some (.ref 0), some (.int p1), some (.int p2), some (.int p3), none]) (st' := [.int (-1)]) (g' := g) (by decide +kernel) rfl ?_
          obtain rfl := Option.some.inj H
          exact xret_i A hR hz (by decide +kernel) rfl ⟨rfl, rfl⟩
theorem fr_X11_whence_0 {p1 : Int32} {p2 : Int32} {p3 : Int32} {g : xG} (out : Int32 × xG) (H : f_X11_whence_0 p1 p2 p3 g = some out) : xfrm fp_X11_whence_0 g (out.2) := by
  have H : (if (f_X11_isKnown_0 p1 g) = 0 then
  some ((-1), g)
else
  if (f_X4_isPerson_3 p2 g) = 0 then
    some ((-1), g)
  else
    if p3 = 0 then
      f_X11_whence_0_30 p1 p2 p3 g
    else
      if p3 = 1 then
        f_X11_whence_0_30 p1 p2 p3 g
      else
        some ((-1), g)) = some out := H
  by_cases h1 : (f_X11_isKnown_0 p1 g) = 0
  · rw [if_pos h1] at H
    obtain rfl := Option.some.inj H
    exact xfrm.rf
  · rw [if_neg h1] at H
    by_cases h2 : (f_X4_isPerson_3 p2 g) = 0
    · rw [if_pos h2] at H
      obtain rfl := Option.some.inj H
      exact xfrm.rf
    · rw [if_neg h2] at H
      by_cases h3 : p3 = 0
      · rw [if_pos h3] at H
        exact xfrm.tr xfrm.rf (fr_X11_whence_0_30 _ _ _ _ _ H) rfl
      · rw [if_neg h3] at H
        by_cases h5 : p3 = 1
        · rw [if_pos h5] at H
          exact xfrm.tr xfrm.rf (fr_X11_whence_0_30 _ _ _ _ _ H) rfl
        · rw [if_neg h5] at H
          obtain rfl := Option.some.inj H
          exact xfrm.rf
def f_X0_homesStriking_56_5  (g : xG) : Nat → Int32 → Int32 → Int32 → Int32 → Option (Int32)
  | 0, _, _, _, _ => none
  | n + 1, l1, l2, l3, l4 =>
    if 7 ≤ l4 then
      some l3
    else
      if (l1 &&& (f_X11_bit l4)) = 0 then
        f_X0_homesStriking_56_5 g n l1 l2 l3 (l4 + 1)
      else
        xg (¬ (l4 < 0 ∨ 7 ≤ l4.toNatClampNeg)) (
          if (g.1 59 l4.toNatClampNeg) < l2 then
            f_X0_homesStriking_56_5 g n l1 l2 l3 (l4 + 1)
          else
            f_X0_homesStriking_56_5 g n l1 l2 (l3 + 1) (l4 + 1))
def f_X0_homesStriking_56 (p1 : Int32) (p2 : Int32) (g : xG) : Option (Int32) :=
  f_X0_homesStriking_56_5 g xN p1 p2 0 0
set_option maxRecDepth 20000 in
theorem t_X0_homesStriking_56_5 {k : xK} {S : List xSh} {g : xG} {out : Int32} (hS : xpf SH1 S) (A : xAt k mX0_homesStriking.2.1 0 SH1 S) (hR : xRet k 0 0 S (fun r g' => r = some (.int out) ∧ g' = g) mX0_homesStriking.2.2.2) (hrm : xrm k = { frames := 1, cells := 0, slots := 0, locals := 20 }) (hz : xhs k = xb0 k + S.length)   : ∀ (n : Nat) (l1 : Int32) (l2 : Int32) (l3 : Int32) (l4 : Int32), f_X0_homesStriking_56_5 g n l1 l2 l3 l4 = some out → xW k S 0 0 5 [some (.ref 56), some (.int l1), some (.int l2), some (.int l3), some (.int l4)] [] g := by
  intro n
  induction n with
  | zero => intro l1 l2 l3 l4 H; exact absurd H (by simp [f_X0_homesStriking_56_5])
  | succ n ih =>
    intro l1 l2 l3 l4 H
    have H : (if 7 ≤ l4 then
  some l3
else
  if (l1 &&& (f_X11_bit l4)) = 0 then
    f_X0_homesStriking_56_5 g n l1 l2 l3 (l4 + 1)
  else
    xg (¬ (l4 < 0 ∨ 7 ≤ l4.toNatClampNeg)) (
      if (g.1 59 l4.toNatClampNeg) < l2 then
        f_X0_homesStriking_56_5 g n l1 l2 l3 (l4 + 1)
      else
        f_X0_homesStriking_56_5 g n l1 l2 (l3 + 1) (l4 + 1))) = some out := H
    refine xb A [(.iload 4, 2, 0, 0, .null), (.aload_n 0, 1, 0, 0, .null), (.getfield 19, 3, 56, 4, .ref 59), (.arraylength, 1, 59, 0, .int 7)] (pc' := 12) (ls' := [some (.ref 56), some (.int l1), some (.int l2), some (.int l3), some (.int l4)]) (st' := [.int 7, .int l4]) (g' := g) (by decide +kernel) rfl ?_
    refine xic_ge A (33) 45 15 (by decide +kernel) (fun h1 => ?_) (fun h1 => ?_)
    · rw [if_pos h1] at H
      refine xb A [(.iload_n 3, 1, 0, 0, .null)] (pc' := 46) (ls' := [some (.ref 56), some (.int l1), some (.int l2), some (.int l3), some (.int l4)]) (st' := [.int l3]) (g' := g) (by decide +kernel) rfl ?_
      obtain rfl := Option.some.inj H
      exact xret_i A hR hz (by decide +kernel) rfl ⟨rfl, rfl⟩
    · rw [if_neg h1] at H
      refine xb A [(.iload_n 1, 1, 0, 0, .null), (.iload 4, 2, 0, 0, .null)] (pc' := 18) (ls' := [some (.ref 56), some (.int l1), some (.int l2), some (.int l3), some (.int l4)]) (st' := [.int l4, .int l1]) (g' := g) (by decide +kernel) rfl ?_
      refine xcallSN A (ix := 56) (nxt := 21) (host := "NoonRinger") hrm hz [.int l4] [.int l1] 35 (c_X11_bit hS _ rfl) ok_X11_bit (by decide +kernel) rfl (fun r g1 hq => ?_)
      rw [hq.1, hq.2]
      show xW k S 0 0 21 [some (.ref 56), some (.int l1), some (.int l2), some (.int l3), some (.int l4)] [.int (f_X11_bit l4), .int l1] g
      refine xb A [(.iand, 1, 0, 0, .null)] (pc' := 22) (ls' := [some (.ref 56), some (.int l1), some (.int l2), some (.int l3), some (.int l4)]) (st' := [.int (l1 &&& (f_X11_bit l4))]) (g' := g) (by decide +kernel) rfl ?_
      refine xif_eq A (17) 39 25 (by decide +kernel) (fun h2 => ?_) (fun h2 => ?_)
      · rw [if_pos h2] at H
        refine xb A [(.iinc 4 1, 3, 0, 0, .null)] (pc' := 42) (ls' := [some (.ref 56), some (.int l1), some (.int l2), some (.int l3), some (.int (l4 + 1))]) (st' := []) (g' := g) (by decide +kernel) rfl ?_
        refine xgoto A (-37) 5 (by decide +kernel) ?_
        exact ih _ _ _ _ H
      · rw [if_neg h2] at H
        refine xb A [(.aload_n 0, 1, 0, 0, .null), (.getfield 19, 3, 56, 4, .ref 59), (.iload 4, 2, 0, 0, .null)] (pc' := 31) (ls' := [some (.ref 56), some (.int l1), some (.int l2), some (.int l3), some (.int l4)]) (st' := [.int l4, .ref 59]) (g' := g) (by decide +kernel) rfl ?_
        obtain ⟨h3, H⟩ := xg_elim H
        refine xiald A (nxt := 32) (by decide +kernel) (hS _ _ sh_59) h3 ?_
        show xW k S 0 0 32 [some (.ref 56), some (.int l1), some (.int l2), some (.int l3), some (.int l4)] [.int (g.1 59 l4.toNatClampNeg)] g
        refine xb A [(.iload_n 2, 1, 0, 0, .null)] (pc' := 33) (ls' := [some (.ref 56), some (.int l1), some (.int l2), some (.int l3), some (.int l4)]) (st' := [.int l2, .int (g.1 59 l4.toNatClampNeg)]) (g' := g) (by decide +kernel) rfl ?_
        refine xic_lt A (6) 39 36 (by decide +kernel) (fun h4 => ?_) (fun h4 => ?_)
        · rw [if_pos h4] at H
          refine xb A [(.iinc 4 1, 3, 0, 0, .null)] (pc' := 42) (ls' := [some (.ref 56), some (.int l1), some (.int l2), some (.int l3), some (.int (l4 + 1))]) (st' := []) (g' := g) (by decide +kernel) rfl ?_
          refine xgoto A (-37) 5 (by decide +kernel) ?_
          exact ih _ _ _ _ H
        · rw [if_neg h4] at H
          refine xb A [(.iinc 3 1, 3, 0, 0, .null), (.iinc 4 1, 3, 0, 0, .null)] (pc' := 42) (ls' := [some (.ref 56), some (.int l1), some (.int l2), some (.int (l3 + 1)), some (.int (l4 + 1))]) (st' := []) (g' := g) (by decide +kernel) rfl ?_
          refine xgoto A (-37) 5 (by decide +kernel) ?_
          exact ih _ _ _ _ H
set_option maxRecDepth 20000 in
theorem c_X0_homesStriking_56 {S : List xSh} (hS : xpf SH1 S) {g : xG} {p1 : Int32} {p2 : Int32} (out : Int32) (H : f_X0_homesStriking_56 p1 p2 g = some out) : xC mX0_homesStriking 1 20 0 0 S [.ref 56, .int p1, .int p2] g S (fun r g' => r = some (.int out) ∧ g' = g) := by
  have H : (f_X0_homesStriking_56_5 g xN p1 p2 0 0) = some out := H
  refine xC.of 0 SH1 [some (.ref 56), some (.int p1), some (.int p2), none, none] hS (by decide +kernel) rfl (fun _ _ => Nat.le_of_ble_eq_true rfl) (fun _ _ => rfl) ?_
  intro k A hR hrm hz
  refine xb A [(.iconst 0, 1, 0, 0, .int 0), (.istore_n 3, 1, 0, 0, .null), (.iconst 0, 1, 0, 0, .int 0), (.istore 4, 2, 0, 0, .null)] (pc' := 5) (ls' := [some (.ref 56), some (.int p1), some (.int p2), some (.int 0), some (.int 0)]) (st' := []) (g' := g) (by decide +kernel) rfl ?_
  exact t_X0_homesStriking_56_5 hS A hR hrm hz _ _ _ _ _ H
def f_X0_bestQuestion_56_14  (g : xG) : Nat → Int32 → Int32 → Int32 → Int32 → Int32 → Option (Int32)
  | 0, _, _, _, _, _ => none
  | n + 1, l1, l2, l3, l4, l5 =>
    if l4 ≤ 0 then
      some l2
    else
      if 999 < l5 then
        some l2
      else
        (f_X0_homesStriking_56 l1 l5 g).bind fun w1 =>
        if l2 < 0 then
          f_X0_bestQuestion_56_14 g n l1 l5 (xmax w1 (l4 - w1)) l4 (l5 + 1)
        else
          if l3 ≤ (xmax w1 (l4 - w1)) then
            f_X0_bestQuestion_56_14 g n l1 l2 l3 l4 (l5 + 1)
          else
            f_X0_bestQuestion_56_14 g n l1 l5 (xmax w1 (l4 - w1)) l4 (l5 + 1)
def f_X0_bestQuestion_56 (p1 : Int32) (g : xG) : Option (Int32) :=
  f_X0_bestQuestion_56_14 g xN p1 (-2) 0 (f_J6_bitCount_0f7a4 p1) 1
set_option maxRecDepth 20000 in
theorem t_X0_bestQuestion_56_14 {k : xK} {S : List xSh} {g : xG} {out : Int32} (hS : xpf SH1 S) (A : xAt k mX0_bestQuestion.2.1 0 SH1 S) (hR : xRet k 0 0 S (fun r g' => r = some (.int out) ∧ g' = g) mX0_bestQuestion.2.2.2) (hrm : xrm k = { frames := 2, cells := 0, slots := 0, locals := 44 }) (hz : xhs k = xb0 k + S.length)   : ∀ (n : Nat) (l1 : Int32) (l2 : Int32) (l3 : Int32) (l4 : Int32) (l5 : Int32), f_X0_bestQuestion_56_14 g n l1 l2 l3 l4 l5 = some out → xW k S 0 0 14 [some (.ref 56), some (.int l1), some (.int l2), some (.int l3), some (.int l4), some (.int l5), none, none] [] g := by
  intro n
  induction n with
  | zero => intro l1 l2 l3 l4 l5 H; exact absurd H (by simp [f_X0_bestQuestion_56_14])
  | succ n ih =>
    intro l1 l2 l3 l4 l5 H
    have H : (if l4 ≤ 0 then
  some l2
else
  if 999 < l5 then
    some l2
  else
    (f_X0_homesStriking_56 l1 l5 g).bind fun w1 =>
    if l2 < 0 then
      f_X0_bestQuestion_56_14 g n l1 l5 (xmax w1 (l4 - w1)) l4 (l5 + 1)
    else
      if l3 ≤ (xmax w1 (l4 - w1)) then
        f_X0_bestQuestion_56_14 g n l1 l2 l3 l4 (l5 + 1)
      else
        f_X0_bestQuestion_56_14 g n l1 l5 (xmax w1 (l4 - w1)) l4 (l5 + 1)) = some out := H
    refine xb A [(.iload 4, 2, 0, 0, .null)] (pc' := 16) (ls' := [some (.ref 56), some (.int l1), some (.int l2), some (.int l3), some (.int l4), some (.int l5), none, none]) (st' := [.int l4]) (g' := g) (by decide +kernel) rfl ?_
    refine xif_le A (54) 70 19 (by decide +kernel) (fun h1 => ?_) (fun h1 => ?_)
    · rw [if_pos h1] at H
      refine xb A [(.iload_n 2, 1, 0, 0, .null)] (pc' := 71) (ls' := [some (.ref 56), some (.int l1), some (.int l2), some (.int l3), some (.int l4), some (.int l5), none, none]) (st' := [.int l2]) (g' := g) (by decide +kernel) rfl ?_
      obtain rfl := Option.some.inj H
      exact xret_i A hR hz (by decide +kernel) rfl ⟨rfl, rfl⟩
    · rw [if_neg h1] at H
      refine xb A [(.iload 5, 2, 0, 0, .null), (.sipush 999, 3, 0, 0, .int 999)] (pc' := 24) (ls' := [some (.ref 56), some (.int l1), some (.int l2), some (.int l3), some (.int l4), some (.int l5), none, none]) (st' := [.int 999, .int l5]) (g' := g) (by decide +kernel) rfl ?_
      refine xic_gt A (46) 70 27 (by decide +kernel) (fun h2 => ?_) (fun h2 => ?_)
      · rw [if_pos h2] at H
        refine xb A [(.iload_n 2, 1, 0, 0, .null)] (pc' := 71) (ls' := [some (.ref 56), some (.int l1), some (.int l2), some (.int l3), some (.int l4), some (.int l5), none, none]) (st' := [.int l2]) (g' := g) (by decide +kernel) rfl ?_
        obtain rfl := Option.some.inj H
        exact xret_i A hR hz (by decide +kernel) rfl ⟨rfl, rfl⟩
      · rw [if_neg h2] at H
        refine xb A [(.aload_n 0, 1, 0, 0, .null), (.iload_n 1, 1, 0, 0, .null), (.iload 5, 2, 0, 0, .null)] (pc' := 31) (ls' := [some (.ref 56), some (.int l1), some (.int l2), some (.int l3), some (.int l4), some (.int l5), none, none]) (st' := [.int l5, .int l1, .ref 56]) (g' := g) (by decide +kernel) rfl ?_
        obtain ⟨w1, e1, H⟩ := xbind H
        refine xcallV A (ix := 69) (nxt := 34) hrm hz [.int l1, .int l5] [] 1319 (c_X0_homesStriking_56 hS _ e1) ok_X0_homesStriking (by decide +kernel) rfl (fun r g1 hq => ?_)
        rw [hq.1, hq.2]
        show xW k S 0 0 34 [some (.ref 56), some (.int l1), some (.int l2), some (.int l3), some (.int l4), some (.int l5), none, none] [.int w1] g
        refine xb A [(.istore 6, 2, 0, 0, .null), (.iload 6, 2, 0, 0, .null), (.iload 4, 2, 0, 0, .null), (.iload 6, 2, 0, 0, .null), (.isub, 1, 0, 0, .null)] (pc' := 43) (ls' := [some (.ref 56), some (.int l1), some (.int l2), some (.int l3), some (.int l4), some (.int l5), some (.int w1), none]) (st' := [.int (l4 - w1), .int w1]) (g' := g) (by decide +kernel) rfl ?_
        refine xmmax A (ix := 73) (nxt := 46) hrm [] 1323 (by decide +kernel) rfl ?_
        refine xb A [(.istore 7, 2, 0, 0, .null), (.iload_n 2, 1, 0, 0, .null)] (pc' := 49) (ls' := [some (.ref 56), some (.int l1), some (.int l2), some (.int l3), some (.int l4), some (.int l5), some (.int w1), some (.int (xmax w1 (l4 - w1)))]) (st' := [.int l2]) (g' := g) (by decide +kernel) rfl ?_
        refine xif_lt A (9) 58 52 (by decide +kernel) (fun h3 => ?_) (fun h3 => ?_)
        · rw [if_pos h3] at H
          refine xb A [(.iload 5, 2, 0, 0, .null), (.istore_n 2, 1, 0, 0, .null), (.iload 7, 2, 0, 0, .null), (.istore_n 3, 1, 0, 0, .null), (.iinc 5 1, 3, 0, 0, .null)] (pc' := 67) (ls' := [some (.ref 56), some (.int l1), some (.int l5), some (.int (xmax w1 (l4 - w1))), some (.int l4), some (.int (l5 + 1)), some (.int w1), some (.int (xmax w1 (l4 - w1)))]) (st' := []) (g' := g) (by decide +kernel) rfl ?_
          refine xgoto A (-53) 14 (by decide +kernel) ?_
          refine xweak (ls' := [some (.ref 56), some (.int l1), some (.int l5), some (.int (xmax w1 (l4 - w1))), some (.int l4), some (.int (l5 + 1)), none, none]) (by exact ⟨rfl, ⟨rfl, ⟨rfl, ⟨rfl, ⟨rfl, ⟨rfl, trivial⟩⟩⟩⟩⟩⟩) ?_
          exact ih _ _ _ _ _ H
        · rw [if_neg h3] at H
          refine xb A [(.iload 7, 2, 0, 0, .null), (.iload_n 3, 1, 0, 0, .null)] (pc' := 55) (ls' := [some (.ref 56), some (.int l1), some (.int l2), some (.int l3), some (.int l4), some (.int l5), some (.int w1), some (.int (xmax w1 (l4 - w1)))]) (st' := [.int l3, .int (xmax w1 (l4 - w1))]) (g' := g) (by decide +kernel) rfl ?_
          refine xic_ge A (9) 64 58 (by decide +kernel) (fun h4 => ?_) (fun h4 => ?_)
          · rw [if_pos h4] at H
            refine xb A [(.iinc 5 1, 3, 0, 0, .null)] (pc' := 67) (ls' := [some (.ref 56), some (.int l1), some (.int l2), some (.int l3), some (.int l4), some (.int (l5 + 1)), some (.int w1), some (.int (xmax w1 (l4 - w1)))]) (st' := []) (g' := g) (by decide +kernel) rfl ?_
            refine xgoto A (-53) 14 (by decide +kernel) ?_
            refine xweak (ls' := [some (.ref 56), some (.int l1), some (.int l2), some (.int l3), some (.int l4), some (.int (l5 + 1)), none, none]) (by exact ⟨rfl, ⟨rfl, ⟨rfl, ⟨rfl, ⟨rfl, ⟨rfl, trivial⟩⟩⟩⟩⟩⟩) ?_
            exact ih _ _ _ _ _ H
          · rw [if_neg h4] at H
            refine xb A [(.iload 5, 2, 0, 0, .null), (.istore_n 2, 1, 0, 0, .null), (.iload 7, 2, 0, 0, .null), (.istore_n 3, 1, 0, 0, .null), (.iinc 5 1, 3, 0, 0, .null)] (pc' := 67) (ls' := [some (.ref 56), some (.int l1), some (.int l5), some (.int (xmax w1 (l4 - w1))), some (.int l4), some (.int (l5 + 1)), some (.int w1), some (.int (xmax w1 (l4 - w1)))]) (st' := []) (g' := g) (by decide +kernel) rfl ?_
            refine xgoto A (-53) 14 (by decide +kernel) ?_
            refine xweak (ls' := [some (.ref 56), some (.int l1), some (.int l5), some (.int (xmax w1 (l4 - w1))), some (.int l4), some (.int (l5 + 1)), none, none]) (by exact ⟨rfl, ⟨rfl, ⟨rfl, ⟨rfl, ⟨rfl, ⟨rfl, trivial⟩⟩⟩⟩⟩⟩) ?_
            exact ih _ _ _ _ _ H
set_option maxRecDepth 20000 in
theorem c_X0_bestQuestion_56 {S : List xSh} (hS : xpf SH1 S) {g : xG} {p1 : Int32} (out : Int32) (H : f_X0_bestQuestion_56 p1 g = some out) : xC mX0_bestQuestion 2 44 0 0 S [.ref 56, .int p1] g S (fun r g' => r = some (.int out) ∧ g' = g) := by
  have H : (f_X0_bestQuestion_56_14 g xN p1 (-2) 0 (f_J6_bitCount_0f7a4 p1) 1) = some out := H
  refine xC.of 0 SH1 [some (.ref 56), some (.int p1), none, none, none, none, none, none] hS (by decide +kernel) rfl (fun _ _ => Nat.le_of_ble_eq_true rfl) (fun _ _ => rfl) ?_
  intro k A hR hrm hz
  refine xb A [(.bipush (-2), 2, 0, 0, .int (-2)), (.istore_n 2, 1, 0, 0, .null), (.iconst 0, 1, 0, 0, .int 0), (.istore_n 3, 1, 0, 0, .null), (.iload_n 1, 1, 0, 0, .null)] (pc' := 6) (ls' := [some (.ref 56), some (.int p1), some (.int (-2)), some (.int 0), none, none, none, none]) (st' := [.int p1]) (g' := g) (by decide +kernel) rfl ?_
  refine xcallS A (ix := 64) (nxt := 9) hrm hz [.int p1] [] 1318 (c_J6_bitCount_0f7a4 hS _ rfl) ok_J6_bitCount_0f7a4 (by decide +kernel) rfl (fun r g1 hq => ?_)
  rw [hq.1, hq.2]
  show xW k S 0 0 9 [some (.ref 56), some (.int p1), some (.int (-2)), some (.int 0), none, none, none, none] [.int (f_J6_bitCount_0f7a4 p1)] g
  refine xb A [(.istore 4, 2, 0, 0, .null), (.iconst 1, 1, 0, 0, .int 1), (.istore 5, 2, 0, 0, .null)] (pc' := 14) (ls' := [some (.ref 56), some (.int p1), some (.int (-2)), some (.int 0), some (.int (f_J6_bitCount_0f7a4 p1)), some (.int 1), none, none]) (st' := []) (g' := g) (by decide +kernel) rfl ?_
  exact t_X0_bestQuestion_56_14 hS A hR hrm hz _ _ _ _ _ _ H
def fp_X11_listen_0 : List (Nat × Option Nat) := [(16, none), (45, none), (59, none)]
def f_X11_listen_0 (p1 : Int32) (p2 : Int32) (g : xG) : Option (Int32 × xG) :=
  if (f_X11_isKnown_0 p1 g) = 0 then
    some ((-1), g)
  else
    if (f_X4_isPerson_3 p2 g) = 0 then
      some ((-1), g)
    else
      (f_X0_homesLeft_56_48 p1 p2 g).bind fun w1 =>
      (f_X0_bestQuestion_56 w1.1 w1.2).bind fun w2 =>
      some (w2, w1.2)
set_option maxRecDepth 20000 in
theorem c_X11_listen_0 {S : List xSh} (hS : xpf SH1 S) {g : xG} {p1 : Int32} {p2 : Int32} (out : Int32 × xG) (H : f_X11_listen_0 p1 p2 g = some out) : xC mX11_listen 4 102 0 0 S [.ref 0, .int p1, .int p2] g S (fun r g' => r = some (.int out.1) ∧ g' = out.2) := by
  have H : (if (f_X11_isKnown_0 p1 g) = 0 then
  some ((-1), g)
else
  if (f_X4_isPerson_3 p2 g) = 0 then
    some ((-1), g)
  else
    (f_X0_homesLeft_56_48 p1 p2 g).bind fun w1 =>
    (f_X0_bestQuestion_56 w1.1 w1.2).bind fun w2 =>
    some (w2, w1.2)) = some out := H
  refine xC.of 11 SH1 [some (.ref 0), some (.int p1), some (.int p2)] hS (by decide +kernel) rfl (fun _ _ => Nat.le_of_ble_eq_true rfl) (fun _ _ => rfl) ?_
  intro k A hR hrm hz
  refine xb A [(.aload_n 0, 1, 0, 0, .null), (.iload_n 1, 1, 0, 0, .null)] (pc' := 2) (ls' := [some (.ref 0), some (.int p1), some (.int p2)]) (st' := [.int p1, .ref 0]) (g' := g) (by decide +kernel) rfl ?_
  refine xcallV A (ix := 316) (nxt := 5) hrm hz [.int p1] [] 1294 (c_X11_isKnown_0 hS _ rfl) ok_X11_isKnown (by decide +kernel) rfl (fun r g1 hq => ?_)
  rw [hq.1, hq.2]
  show xW k S 0 0 5 [some (.ref 0), some (.int p1), some (.int p2)] [.int (f_X11_isKnown_0 p1 g)] g
  refine xif_eq A (14) 19 8 (by decide +kernel) (fun h1 => ?_) (fun h1 => ?_)
  · rw [if_pos h1] at H
    refine xb A [(.iconst (-1), 1, 0, 0, .int (-1))] (pc' := 20) (ls' := [some (.ref 0), some (.int p1), some (.int p2)]) (st' := [.int (-1)]) (g' := g) (by decide +kernel) rfl ?_
    obtain rfl := Option.some.inj H
    exact xret_i A hR hz (by decide +kernel) rfl ⟨rfl, rfl⟩
  · rw [if_neg h1] at H
    refine xb A [(.aload_n 0, 1, 0, 0, .null), (.getfield 19, 3, 0, 1, .ref 3), (.iload_n 2, 1, 0, 0, .null)] (pc' := 13) (ls' := [some (.ref 0), some (.int p1), some (.int p2)]) (st' := [.int p2, .ref 3]) (g' := g) (by decide +kernel) rfl ?_
    refine xcallV A (ix := 183) (nxt := 16) hrm hz [.int p2] [] 932 (c_X4_isPerson_3 hS _ rfl) ok_X4_isPerson (by decide +kernel) rfl (fun r g1 hq => ?_)
    rw [hq.1, hq.2]
    show xW k S 0 0 16 [some (.ref 0), some (.int p1), some (.int p2)] [.int (f_X4_isPerson_3 p2 g)] g
    refine xif_ne A (5) 21 19 (by decide +kernel) (fun h2 => ?_) (fun h2 => ?_)
    · rw [if_neg h2] at H
      refine xb A [(.aload_n 0, 1, 0, 0, .null), (.getfield 90, 3, 0, 12, .ref 56), (.aload_n 0, 1, 0, 0, .null), (.getfield 90, 3, 0, 12, .ref 56), (.aload_n 0, 1, 0, 0, .null), (.getfield 66, 3, 0, 8, .ref 48), (.iload_n 1, 1, 0, 0, .null), (.iload_n 2, 1, 0, 0, .null)] (pc' := 35) (ls' := [some (.ref 0), some (.int p1), some (.int p2)]) (st' := [.int p2, .int p1, .ref 48, .ref 56, .ref 56]) (g' := g) (by decide +kernel) rfl ?_
      obtain ⟨w1, e1, H⟩ := xbind H
      refine xcallV A (ix := 319) (nxt := 38) hrm hz [.ref 48, .int p1, .int p2] [.ref 56] 1298 (c_X0_homesLeft_56_48 hS _ e1) ok_X0_homesLeft (by decide +kernel) rfl (fun r g1 hq => ?_)
      rw [hq.1, hq.2]
      show xW k S 0 0 38 [some (.ref 0), some (.int p1), some (.int p2)] [.int w1.1, .ref 56] w1.2
      obtain ⟨w2, e2, H⟩ := xbind H
      refine xcallV A (ix := 322) (nxt := 41) hrm hz [.int w1.1] [] 1314 (c_X0_bestQuestion_56 hS _ e2) ok_X0_bestQuestion (by decide +kernel) rfl (fun r g1 hq => ?_)
      rw [hq.1, hq.2]
      show xW k S 0 0 41 [some (.ref 0), some (.int p1), some (.int p2)] [.int w2] w1.2
      obtain rfl := Option.some.inj H
      exact xret_i A hR hz (by decide +kernel) rfl ⟨rfl, rfl⟩
    · rw [if_pos h2] at H
      refine xb A [(.iconst (-1), 1, 0, 0, .int (-1))] (pc' := 20) (ls' := [some (.ref 0), some (.int p1), some (.int p2)]) (st' := [.int (-1)]) (g' := g) (by decide +kernel) rfl ?_
      obtain rfl := Option.some.inj H
      exact xret_i A hR hz (by decide +kernel) rfl ⟨rfl, rfl⟩
theorem fr_X11_listen_0 {p1 : Int32} {p2 : Int32} {g : xG} (out : Int32 × xG) (H : f_X11_listen_0 p1 p2 g = some out) : xfrm fp_X11_listen_0 g (out.2) := by
  have H : (if (f_X11_isKnown_0 p1 g) = 0 then
  some ((-1), g)
else
  if (f_X4_isPerson_3 p2 g) = 0 then
    some ((-1), g)
  else
    (f_X0_homesLeft_56_48 p1 p2 g).bind fun w1 =>
    (f_X0_bestQuestion_56 w1.1 w1.2).bind fun w2 =>
    some (w2, w1.2)) = some out := H
  by_cases h1 : (f_X11_isKnown_0 p1 g) = 0
  · rw [if_pos h1] at H
    obtain rfl := Option.some.inj H
    exact xfrm.rf
  · rw [if_neg h1] at H
    by_cases h2 : (f_X4_isPerson_3 p2 g) = 0
    · rw [if_pos h2] at H
      obtain rfl := Option.some.inj H
      exact xfrm.rf
    · rw [if_neg h2] at H
      obtain ⟨w1, e1, H⟩ := xbind H
      have hf1 : xfrm fp_X11_listen_0 g (w1.2) := xfrm.tr xfrm.rf (fr_X0_homesLeft_56_48 _ e1) rfl
      obtain ⟨w2, e2, H⟩ := xbind H
      obtain rfl := Option.some.inj H
      exact hf1
def f_X11_isSlot (p0 : Int32) : Int32 :=
  if p0 < 0 then
    0
  else
    if 3 ≤ p0 then
      0
    else
      1
set_option maxRecDepth 20000 in
theorem c_X11_isSlot {S : List xSh} (hS : xpf SH1 S) {g : xG} {p0 : Int32} (out : Int32) (H : f_X11_isSlot p0 = out) : xC mX11_isSlot 0 0 0 0 S [.int p0] g S (fun r g' => r = some (.int out) ∧ g' = g) := by
  have H : (if p0 < 0 then
  0
else
  if 3 ≤ p0 then
    0
  else
    1) = out := H
  refine xC.of 11 SH1 [some (.int p0)] hS (by decide +kernel) rfl (fun _ _ => Nat.le_of_ble_eq_true rfl) (fun _ _ => rfl) ?_
  intro k A hR hrm hz
  refine xb A [(.iload_n 0, 1, 0, 0, .null)] (pc' := 1) (ls' := [some (.int p0)]) (st' := [.int p0]) (g' := g) (by decide +kernel) rfl ?_
  refine xif_lt A (12) 13 4 (by decide +kernel) (fun h1 => ?_) (fun h1 => ?_)
  · rw [if_pos h1] at H
    refine xb A [(.iconst 0, 1, 0, 0, .int 0)] (pc' := 14) (ls' := [some (.int p0)]) (st' := [.int 0]) (g' := g) (by decide +kernel) rfl ?_
    subst H
    exact xret_i A hR hz (by decide +kernel) rfl ⟨rfl, rfl⟩
  · rw [if_neg h1] at H
    refine xb A [(.iload_n 0, 1, 0, 0, .null), (.iconst 3, 1, 0, 0, .int 3)] (pc' := 6) (ls' := [some (.int p0)]) (st' := [.int 3, .int p0]) (g' := g) (by decide +kernel) rfl ?_
    refine xic_ge A (7) 13 9 (by decide +kernel) (fun h2 => ?_) (fun h2 => ?_)
    · rw [if_pos h2] at H
      refine xb A [(.iconst 0, 1, 0, 0, .int 0)] (pc' := 14) (ls' := [some (.int p0)]) (st' := [.int 0]) (g' := g) (by decide +kernel) rfl ?_
      subst H
      exact xret_i A hR hz (by decide +kernel) rfl ⟨rfl, rfl⟩
    · rw [if_neg h2] at H
      refine xb A [(.iconst 1, 1, 0, 0, .int 1)] (pc' := 10) (ls' := [some (.int p0)]) (st' := [.int 1]) (g' := g) (by decide +kernel) rfl ?_
      refine xgoto A (4) 14 (by decide +kernel) ?_
      subst H
      exact xret_i A hR hz (by decide +kernel) rfl ⟨rfl, rfl⟩
def fp_X5_keep_54_48 : List (Nat × Option Nat) := [(55, none)]
def f_X5_keep_54_48_2  : Nat → Int32 → Int32 → xG → Option (xG)
  | 0, _, _, _ => none
  | n + 1, l1, l3, g =>
    if 35 ≤ l3 then
      some g
    else
      xl (xput g 55 105 ((l1 * 35) + l3) (f_X6_get_48 l3 g)) fun w1 =>
      f_X5_keep_54_48_2 n l1 (l3 + 1) w1
def f_X5_keep_54_48 (p1 : Int32) (g : xG) : Option (xG) :=
  f_X5_keep_54_48_2 xN p1 0 g
set_option maxRecDepth 20000 in
theorem t_X5_keep_54_48_2 {k : xK} {S : List xSh} {out : xG} (hS : xpf SH1 S) (A : xAt k mX5_keep.2.1 5 SH1 S) (hR : xRet k 0 0 S (fun r g' => r = none ∧ g' = out) mX5_keep.2.2.2) (hrm : xrm k = { frames := 2, cells := 0, slots := 0, locals := 42 }) (hz : xhs k = xb0 k + S.length)   : ∀ (n : Nat) (l1 : Int32) (l3 : Int32) (g : xG), f_X5_keep_54_48_2 n l1 l3 g = some out → xW k S 0 0 2 [some (.ref 54), some (.int l1), some (.ref 48), some (.int l3)] [] g := by
  intro n
  induction n with
  | zero => intro l1 l3 g H; exact absurd H (by simp [f_X5_keep_54_48_2])
  | succ n ih =>
    intro l1 l3 g H
    have H : (if 35 ≤ l3 then
  some g
else
  xl (xput g 55 105 ((l1 * 35) + l3) (f_X6_get_48 l3 g)) fun w1 =>
  f_X5_keep_54_48_2 n l1 (l3 + 1) w1) = some out := H
    refine xb A [(.iload_n 3, 1, 0, 0, .null), (.bipush 35, 2, 0, 0, .int 35)] (pc' := 5) (ls' := [some (.ref 54), some (.int l1), some (.ref 48), some (.int l3)]) (st' := [.int 35, .int l3]) (g' := g) (by decide +kernel) rfl ?_
    refine xic_ge A (27) 32 8 (by decide +kernel) (fun h1 => ?_) (fun h1 => ?_)
    · rw [if_pos h1] at H
      obtain rfl := Option.some.inj H
      exact xret_v A hR hz (by decide +kernel) ⟨rfl, rfl⟩
    · rw [if_neg h1] at H
      refine xb A [(.aload_n 0, 1, 0, 0, .null), (.getfield 15, 3, 54, 0, .ref 55), (.iload_n 1, 1, 0, 0, .null), (.bipush 35, 2, 0, 0, .int 35), (.imul, 1, 0, 0, .null), (.iload_n 3, 1, 0, 0, .null), (.iadd, 1, 0, 0, .null), (.aload_n 2, 1, 0, 0, .null), (.iload_n 3, 1, 0, 0, .null)] (pc' := 20) (ls' := [some (.ref 54), some (.int l1), some (.ref 48), some (.int l3)]) (st' := [.int l3, .ref 48, .int ((l1 * 35) + l3), .ref 55]) (g' := g) (by decide +kernel) rfl ?_
      refine xcallV A (ix := 21) (nxt := 23) hrm hz [.int l3] [.int ((l1 * 35) + l3), .ref 55] 1009 (c_X6_get_48 hS _ rfl) ok_X6_get (by decide +kernel) rfl (fun r g1 hq => ?_)
      rw [hq.1, hq.2]
      show xW k S 0 0 23 [some (.ref 54), some (.int l1), some (.ref 48), some (.int l3)] [.int (f_X6_get_48 l3 g), .int ((l1 * 35) + l3), .ref 55] g
      obtain ⟨w1, e1, H⟩ := xl_elim H
      refine xcallSN A (ix := 25) (nxt := 26) (host := "NoonRinger") hrm hz [.ref 55, .int ((l1 * 35) + l3), .int (f_X6_get_48 l3 g)] [] 27 (c_X11_put (hS _ _ sh_55) (by decide)) ok_X11_put (by decide +kernel) rfl (fun r g1 hq => ?_)
      rw [hq.1, hq.2]
      rw [e1]
      show xW k S 0 0 26 [some (.ref 54), some (.int l1), some (.ref 48), some (.int l3)] [] w1
      refine xb A [(.iinc 3 1, 3, 0, 0, .null)] (pc' := 29) (ls' := [some (.ref 54), some (.int l1), some (.ref 48), some (.int (l3 + 1))]) (st' := []) (g' := w1) (by decide +kernel) rfl ?_
      refine xgoto A (-27) 2 (by decide +kernel) ?_
      exact ih _ _ _ H
theorem fr_X5_keep_54_48_2   : ∀ (n : Nat) (l1 : Int32) (l3 : Int32) (g : xG) (out : xG), f_X5_keep_54_48_2 n l1 l3 g = some out → xfrm fp_X5_keep_54_48 g (out) := by
  intro n
  induction n with
  | zero => intro l1 l3 g out H; exact absurd H (by simp [f_X5_keep_54_48_2])
  | succ n ih =>
    intro l1 l3 g out H
    have H : (if 35 ≤ l3 then
  some g
else
  xl (xput g 55 105 ((l1 * 35) + l3) (f_X6_get_48 l3 g)) fun w1 =>
  f_X5_keep_54_48_2 n l1 (l3 + 1) w1) = some out := H
    by_cases h1 : 35 ≤ l3
    · rw [if_pos h1] at H
      obtain rfl := Option.some.inj H
      exact xfrm.rf
    · rw [if_neg h1] at H
      obtain ⟨w1, e1, H⟩ := xl_elim H
      have hf1 : xfrm fp_X5_keep_54_48 g (w1) := xfrm_xput xfrm.rf rfl e1
      exact xfrm.tr hf1 (ih _ _ _ _ H) rfl
set_option maxRecDepth 20000 in
theorem c_X5_keep_54_48 {S : List xSh} (hS : xpf SH1 S) {g : xG} {p1 : Int32} (out : xG) (H : f_X5_keep_54_48 p1 g = some out) : xC mX5_keep 2 42 0 0 S [.ref 54, .int p1, .ref 48] g S (fun r g' => r = none ∧ g' = out) := by
  have H : (f_X5_keep_54_48_2 xN p1 0 g) = some out := H
  refine xC.of 5 SH1 [some (.ref 54), some (.int p1), some (.ref 48), none] hS (by decide +kernel) rfl (fun _ _ => Nat.le_of_ble_eq_true rfl) (fun _ _ => rfl) ?_
  intro k A hR hrm hz
  refine xb A [(.iconst 0, 1, 0, 0, .int 0), (.istore_n 3, 1, 0, 0, .null)] (pc' := 2) (ls' := [some (.ref 54), some (.int p1), some (.ref 48), some (.int 0)]) (st' := []) (g' := g) (by decide +kernel) rfl ?_
  exact t_X5_keep_54_48_2 hS A hR hrm hz _ _ _ _ H
theorem fr_X5_keep_54_48 {p1 : Int32} {g : xG} (out : xG) (H : f_X5_keep_54_48 p1 g = some out) : xfrm fp_X5_keep_54_48 g (out) := by
  have H : (f_X5_keep_54_48_2 xN p1 0 g) = some out := H
  exact xfrm.tr xfrm.rf (fr_X5_keep_54_48_2 _ _ _ _ _ H) rfl
def fp_X11_hold_0 : List (Nat × Option Nat) := [(0, some 15), (55, none)]
def f_X11_hold_0 (p1 : Int32) (g : xG) : Option (Int32 × xG) :=
  if (f_X11_isSlot p1) = 0 then
    some (0, g)
  else
    (f_X5_keep_54_48 p1 g).bind fun w1 =>
    some (1, (xupd w1.1 0 15 ((w1.1 0 15) ||| (f_X11_bit p1)), w1.2))
set_option maxRecDepth 20000 in
theorem c_X11_hold_0 {S : List xSh} (hS : xpf SH1 S) {g : xG} {p1 : Int32} (out : Int32 × xG) (H : f_X11_hold_0 p1 g = some out) : xC mX11_hold 3 65 0 0 S [.ref 0, .int p1] g S (fun r g' => r = some (.int out.1) ∧ g' = out.2) := by
  have H : (if (f_X11_isSlot p1) = 0 then
  some (0, g)
else
  (f_X5_keep_54_48 p1 g).bind fun w1 =>
  some (1, (xupd w1.1 0 15 ((w1.1 0 15) ||| (f_X11_bit p1)), w1.2))) = some out := H
  refine xC.of 11 SH1 [some (.ref 0), some (.int p1)] hS (by decide +kernel) rfl (fun _ _ => Nat.le_of_ble_eq_true rfl) (fun _ _ => rfl) ?_
  intro k A hR hrm hz
  refine xb A [(.iload_n 1, 1, 0, 0, .null)] (pc' := 1) (ls' := [some (.ref 0), some (.int p1)]) (st' := [.int p1]) (g' := g) (by decide +kernel) rfl ?_
  refine xcallS A (ix := 325) (nxt := 4) hrm hz [.int p1] [] 1328 (c_X11_isSlot hS _ rfl) ok_X11_isSlot (by decide +kernel) rfl (fun r g1 hq => ?_)
  rw [hq.1, hq.2]
  show xW k S 0 0 4 [some (.ref 0), some (.int p1)] [.int (f_X11_isSlot p1)] g
  refine xif_ne A (5) 9 7 (by decide +kernel) (fun h1 => ?_) (fun h1 => ?_)
  · rw [if_neg h1] at H
    refine xb A [(.aload_n 0, 1, 0, 0, .null), (.getfield 82, 3, 0, 11, .ref 54), (.iload_n 1, 1, 0, 0, .null), (.aload_n 0, 1, 0, 0, .null), (.getfield 66, 3, 0, 8, .ref 48)] (pc' := 18) (ls' := [some (.ref 0), some (.int p1)]) (st' := [.ref 48, .int p1, .ref 54]) (g' := g) (by decide +kernel) rfl ?_
    obtain ⟨w1, e1, H⟩ := xbind H
    refine xcallV A (ix := 238) (nxt := 21) hrm hz [.int p1, .ref 48] [] 1005 (c_X5_keep_54_48 hS _ e1) ok_X5_keep (by decide +kernel) rfl (fun r g1 hq => ?_)
    rw [hq.1, hq.2]
    show xW k S 0 0 21 [some (.ref 0), some (.int p1)] [] w1
    refine xb A [(.aload_n 0, 1, 0, 0, .null), (.dup, 1, 0, 0, .null), (.getfield 146, 3, 0, 15, .int 0), (.iload_n 1, 1, 0, 0, .null)] (pc' := 27) (ls' := [some (.ref 0), some (.int p1)]) (st' := [.int p1, .int (w1.1 0 15), .ref 0]) (g' := w1) (by decide +kernel) rfl ?_
    refine xcallS A (ix := 214) (nxt := 30) hrm hz [.int p1] [.int (w1.1 0 15), .ref 0] 1017 (c_X11_bit hS _ rfl) ok_X11_bit (by decide +kernel) rfl (fun r g1 hq => ?_)
    rw [hq.1, hq.2]
    show xW k S 0 0 30 [some (.ref 0), some (.int p1)] [.int (f_X11_bit p1), .int (w1.1 0 15), .ref 0] w1
    refine xb A [(.ior, 1, 0, 0, .null), (.putfield 146, 3, 0, 15, .int 0), (.iconst 1, 1, 0, 0, .int 1)] (pc' := 35) (ls' := [some (.ref 0), some (.int p1)]) (st' := [.int 1]) (g' := (xupd w1.1 0 15 ((w1.1 0 15) ||| (f_X11_bit p1)), w1.2)) (by decide +kernel) rfl ?_
    obtain rfl := Option.some.inj H
    exact xret_i A hR hz (by decide +kernel) rfl ⟨rfl, rfl⟩
  · rw [if_pos h1] at H
    refine xb A [(.iconst 0, 1, 0, 0, .int 0)] (pc' := 8) (ls' := [some (.ref 0), some (.int p1)]) (st' := [.int 0]) (g' := g) (by decide +kernel) rfl ?_
    obtain rfl := Option.some.inj H
    exact xret_i A hR hz (by decide +kernel) rfl ⟨rfl, rfl⟩
theorem fr_X11_hold_0 {p1 : Int32} {g : xG} (out : Int32 × xG) (H : f_X11_hold_0 p1 g = some out) : xfrm fp_X11_hold_0 g (out.2) := by
  have H : (if (f_X11_isSlot p1) = 0 then
  some (0, g)
else
  (f_X5_keep_54_48 p1 g).bind fun w1 =>
  some (1, (xupd w1.1 0 15 ((w1.1 0 15) ||| (f_X11_bit p1)), w1.2))) = some out := H
  by_cases h1 : (f_X11_isSlot p1) = 0
  · rw [if_pos h1] at H
    obtain rfl := Option.some.inj H
    exact xfrm.rf
  · rw [if_neg h1] at H
    obtain ⟨w1, e1, H⟩ := xbind H
    have hf1 : xfrm fp_X11_hold_0 g (w1) := xfrm.tr xfrm.rf (fr_X5_keep_54_48 _ e1) rfl
    have hf2 : xfrm fp_X11_hold_0 g ((xupd w1.1 0 15 ((w1.1 0 15) ||| (f_X11_bit p1)), w1.2)) := xfrm.up hf1 rfl
    obtain rfl := Option.some.inj H
    exact hf2
def fp_X5_take_54_48 : List (Nat × Option Nat) := [(49, none)]
def f_X5_take_54_48_2  : Nat → Int32 → Int32 → xG → Option (xG)
  | 0, _, _, _ => none
  | n + 1, l1, l3, g =>
    if 35 ≤ l3 then
      some g
    else
      xl (f_X6_set_48 l3 (xat g 55 105 ((l1 * 35) + l3)) g) fun w1 =>
      f_X5_take_54_48_2 n l1 (l3 + 1) w1
def f_X5_take_54_48 (p1 : Int32) (g : xG) : Option (xG) :=
  f_X5_take_54_48_2 xN p1 0 g
set_option maxRecDepth 20000 in
theorem t_X5_take_54_48_2 {k : xK} {S : List xSh} {out : xG} (hS : xpf SH1 S) (A : xAt k mX5_take.2.1 5 SH1 S) (hR : xRet k 0 0 S (fun r g' => r = none ∧ g' = out) mX5_take.2.2.2) (hrm : xrm k = { frames := 2, cells := 0, slots := 0, locals := 44 }) (hz : xhs k = xb0 k + S.length)   : ∀ (n : Nat) (l1 : Int32) (l3 : Int32) (g : xG), f_X5_take_54_48_2 n l1 l3 g = some out → xW k S 0 0 2 [some (.ref 54), some (.int l1), some (.ref 48), some (.int l3)] [] g := by
  intro n
  induction n with
  | zero => intro l1 l3 g H; exact absurd H (by simp [f_X5_take_54_48_2])
  | succ n ih =>
    intro l1 l3 g H
    have H : (if 35 ≤ l3 then
  some g
else
  xl (f_X6_set_48 l3 (xat g 55 105 ((l1 * 35) + l3)) g) fun w1 =>
  f_X5_take_54_48_2 n l1 (l3 + 1) w1) = some out := H
    refine xb A [(.iload_n 3, 1, 0, 0, .null), (.bipush 35, 2, 0, 0, .int 35)] (pc' := 5) (ls' := [some (.ref 54), some (.int l1), some (.ref 48), some (.int l3)]) (st' := [.int 35, .int l3]) (g' := g) (by decide +kernel) rfl ?_
    refine xic_ge A (27) 32 8 (by decide +kernel) (fun h1 => ?_) (fun h1 => ?_)
    · rw [if_pos h1] at H
      obtain rfl := Option.some.inj H
      exact xret_v A hR hz (by decide +kernel) ⟨rfl, rfl⟩
    · rw [if_neg h1] at H
      refine xb A [(.aload_n 2, 1, 0, 0, .null), (.iload_n 3, 1, 0, 0, .null), (.aload_n 0, 1, 0, 0, .null), (.getfield 15, 3, 54, 0, .ref 55), (.iload_n 1, 1, 0, 0, .null), (.bipush 35, 2, 0, 0, .int 35), (.imul, 1, 0, 0, .null), (.iload_n 3, 1, 0, 0, .null), (.iadd, 1, 0, 0, .null)] (pc' := 20) (ls' := [some (.ref 54), some (.int l1), some (.ref 48), some (.int l3)]) (st' := [.int ((l1 * 35) + l3), .ref 55, .int l3, .ref 48]) (g' := g) (by decide +kernel) rfl ?_
      refine xcallSN A (ix := 31) (nxt := 23) (host := "NoonRinger") hrm hz [.ref 55, .int ((l1 * 35) + l3)] [.int l3, .ref 48] 29 (c_X11_at (hS _ _ sh_55) (by decide)) ok_X11_at (by decide +kernel) rfl (fun r g1 hq => ?_)
      rw [hq.1, hq.2]
      show xW k S 0 0 23 [some (.ref 54), some (.int l1), some (.ref 48), some (.int l3)] [.int (xat g 55 105 ((l1 * 35) + l3)), .int l3, .ref 48] g
      obtain ⟨w1, e1, H⟩ := xl_elim H
      refine xcallV A (ix := 35) (nxt := 26) hrm hz [.int l3, .int (xat g 55 105 ((l1 * 35) + l3))] [] 1092 (c_X6_set_48 hS _ e1) ok_X6_set (by decide +kernel) rfl (fun r g1 hq => ?_)
      rw [hq.1, hq.2]
      show xW k S 0 0 26 [some (.ref 54), some (.int l1), some (.ref 48), some (.int l3)] [] w1
      refine xb A [(.iinc 3 1, 3, 0, 0, .null)] (pc' := 29) (ls' := [some (.ref 54), some (.int l1), some (.ref 48), some (.int (l3 + 1))]) (st' := []) (g' := w1) (by decide +kernel) rfl ?_
      refine xgoto A (-27) 2 (by decide +kernel) ?_
      exact ih _ _ _ H
theorem fr_X5_take_54_48_2   : ∀ (n : Nat) (l1 : Int32) (l3 : Int32) (g : xG) (out : xG), f_X5_take_54_48_2 n l1 l3 g = some out → xfrm fp_X5_take_54_48 g (out) := by
  intro n
  induction n with
  | zero => intro l1 l3 g out H; exact absurd H (by simp [f_X5_take_54_48_2])
  | succ n ih =>
    intro l1 l3 g out H
    have H : (if 35 ≤ l3 then
  some g
else
  xl (f_X6_set_48 l3 (xat g 55 105 ((l1 * 35) + l3)) g) fun w1 =>
  f_X5_take_54_48_2 n l1 (l3 + 1) w1) = some out := H
    by_cases h1 : 35 ≤ l3
    · rw [if_pos h1] at H
      obtain rfl := Option.some.inj H
      exact xfrm.rf
    · rw [if_neg h1] at H
      obtain ⟨w1, e1, H⟩ := xl_elim H
      have hf1 : xfrm fp_X5_take_54_48 g (w1) := xfrm.tr xfrm.rf (fr_X6_set_48 _ e1) rfl
      exact xfrm.tr hf1 (ih _ _ _ _ H) rfl
set_option maxRecDepth 20000 in
theorem c_X5_take_54_48 {S : List xSh} (hS : xpf SH1 S) {g : xG} {p1 : Int32} (out : xG) (H : f_X5_take_54_48 p1 g = some out) : xC mX5_take 2 44 0 0 S [.ref 54, .int p1, .ref 48] g S (fun r g' => r = none ∧ g' = out) := by
  have H : (f_X5_take_54_48_2 xN p1 0 g) = some out := H
  refine xC.of 5 SH1 [some (.ref 54), some (.int p1), some (.ref 48), none] hS (by decide +kernel) rfl (fun _ _ => Nat.le_of_ble_eq_true rfl) (fun _ _ => rfl) ?_
  intro k A hR hrm hz
  refine xb A [(.iconst 0, 1, 0, 0, .int 0), (.istore_n 3, 1, 0, 0, .null)] (pc' := 2) (ls' := [some (.ref 54), some (.int p1), some (.ref 48), some (.int 0)]) (st' := []) (g' := g) (by decide +kernel) rfl ?_
  exact t_X5_take_54_48_2 hS A hR hrm hz _ _ _ _ H
theorem fr_X5_take_54_48 {p1 : Int32} {g : xG} (out : xG) (H : f_X5_take_54_48 p1 g = some out) : xfrm fp_X5_take_54_48 g (out) := by
  have H : (f_X5_take_54_48_2 xN p1 0 g) = some out := H
  exact xfrm.tr xfrm.rf (fr_X5_take_54_48_2 _ _ _ _ _ H) rfl
def fp_X11_restore_0 : List (Nat × Option Nat) := [(0, some 13), (38, some 2), (39, none), (49, none)]
def f_X11_restore_0 (p1 : Int32) (g : xG) : Option (Int32 × xG) :=
  if (f_X11_isSlot p1) = 0 then
    some (0, g)
  else
    if ((g.1 0 15) &&& (f_X11_bit p1)) = 0 then
      some (0, g)
    else
      (f_X5_take_54_48 p1 g).bind fun w1 =>
      (f_X10_measure_38 (f_X6_get_48 4 (xupd w1.1 0 13 0, w1.2)) (xupd w1.1 0 13 0, w1.2)).bind fun w2 =>
      some (1, w2)
set_option maxRecDepth 20000 in
theorem c_X11_restore_0 {S : List xSh} (hS : xpf SH1 S) {g : xG} {p1 : Int32} (out : Int32 × xG) (H : f_X11_restore_0 p1 g = some out) : xC mX11_restore 4 90 0 0 S [.ref 0, .int p1] g S (fun r g' => r = some (.int out.1) ∧ g' = out.2) := by
  have H : (if (f_X11_isSlot p1) = 0 then
  some (0, g)
else
  if ((g.1 0 15) &&& (f_X11_bit p1)) = 0 then
    some (0, g)
  else
    (f_X5_take_54_48 p1 g).bind fun w1 =>
    (f_X10_measure_38 (f_X6_get_48 4 (xupd w1.1 0 13 0, w1.2)) (xupd w1.1 0 13 0, w1.2)).bind fun w2 =>
    some (1, w2)) = some out := H
  refine xC.of 11 SH1 [some (.ref 0), some (.int p1)] hS (by decide +kernel) rfl (fun _ _ => Nat.le_of_ble_eq_true rfl) (fun _ _ => rfl) ?_
  intro k A hR hrm hz
  refine xb A [(.iload_n 1, 1, 0, 0, .null)] (pc' := 1) (ls' := [some (.ref 0), some (.int p1)]) (st' := [.int p1]) (g' := g) (by decide +kernel) rfl ?_
  refine xcallS A (ix := 325) (nxt := 4) hrm hz [.int p1] [] 1328 (c_X11_isSlot hS _ rfl) ok_X11_isSlot (by decide +kernel) rfl (fun r g1 hq => ?_)
  rw [hq.1, hq.2]
  show xW k S 0 0 4 [some (.ref 0), some (.int p1)] [.int (f_X11_isSlot p1)] g
  refine xif_eq A (15) 19 7 (by decide +kernel) (fun h1 => ?_) (fun h1 => ?_)
  · rw [if_pos h1] at H
    refine xb A [(.iconst 0, 1, 0, 0, .int 0)] (pc' := 20) (ls' := [some (.ref 0), some (.int p1)]) (st' := [.int 0]) (g' := g) (by decide +kernel) rfl ?_
    obtain rfl := Option.some.inj H
    exact xret_i A hR hz (by decide +kernel) rfl ⟨rfl, rfl⟩
  · rw [if_neg h1] at H
    refine xb A [(.aload_n 0, 1, 0, 0, .null), (.getfield 146, 3, 0, 15, .int 0), (.iload_n 1, 1, 0, 0, .null)] (pc' := 12) (ls' := [some (.ref 0), some (.int p1)]) (st' := [.int p1, .int (g.1 0 15)]) (g' := g) (by decide +kernel) rfl ?_
    refine xcallS A (ix := 214) (nxt := 15) hrm hz [.int p1] [.int (g.1 0 15)] 1017 (c_X11_bit hS _ rfl) ok_X11_bit (by decide +kernel) rfl (fun r g1 hq => ?_)
    rw [hq.1, hq.2]
    show xW k S 0 0 15 [some (.ref 0), some (.int p1)] [.int (f_X11_bit p1), .int (g.1 0 15)] g
    refine xb A [(.iand, 1, 0, 0, .null)] (pc' := 16) (ls' := [some (.ref 0), some (.int p1)]) (st' := [.int ((g.1 0 15) &&& (f_X11_bit p1))]) (g' := g) (by decide +kernel) rfl ?_
    refine xif_ne A (5) 21 19 (by decide +kernel) (fun h2 => ?_) (fun h2 => ?_)
    · rw [if_neg h2] at H
      refine xb A [(.aload_n 0, 1, 0, 0, .null), (.getfield 82, 3, 0, 11, .ref 54), (.iload_n 1, 1, 0, 0, .null), (.aload_n 0, 1, 0, 0, .null), (.getfield 66, 3, 0, 8, .ref 48)] (pc' := 30) (ls' := [some (.ref 0), some (.int p1)]) (st' := [.ref 48, .int p1, .ref 54]) (g' := g) (by decide +kernel) rfl ?_
      obtain ⟨w1, e1, H⟩ := xbind H
      refine xcallV A (ix := 234) (nxt := 33) hrm hz [.int p1, .ref 48] [] 1087 (c_X5_take_54_48 hS _ e1) ok_X5_take (by decide +kernel) rfl (fun r g1 hq => ?_)
      rw [hq.1, hq.2]
      show xW k S 0 0 33 [some (.ref 0), some (.int p1)] [] w1
      refine xb A [(.aload_n 0, 1, 0, 0, .null), (.iconst 0, 1, 0, 0, .int 0), (.putfield 143, 3, 0, 13, .int 0), (.aload_n 0, 1, 0, 0, .null), (.getfield 37, 3, 0, 3, .ref 38), (.aload_n 0, 1, 0, 0, .null), (.getfield 66, 3, 0, 8, .ref 48), (.iconst 4, 1, 0, 0, .int 4)] (pc' := 47) (ls' := [some (.ref 0), some (.int p1)]) (st' := [.int 4, .ref 48, .ref 38]) (g' := (xupd w1.1 0 13 0, w1.2)) (by decide +kernel) rfl ?_
      refine xcallV A (ix := 135) (nxt := 50) hrm hz [.int 4] [.ref 38] 489 (c_X6_get_48 hS _ rfl) ok_X6_get (by decide +kernel) rfl (fun r g1 hq => ?_)
      rw [hq.1, hq.2]
      show xW k S 0 0 50 [some (.ref 0), some (.int p1)] [.int (f_X6_get_48 4 (xupd w1.1 0 13 0, w1.2)), .ref 38] (xupd w1.1 0 13 0, w1.2)
      obtain ⟨w2, e2, H⟩ := xbind H
      refine xcallV A (ix := 139) (nxt := 53) hrm hz [.int (f_X6_get_48 4 (xupd w1.1 0 13 0, w1.2))] [] 494 (c_X10_measure_38 hS _ e2) ok_X10_measure (by decide +kernel) rfl (fun r g1 hq => ?_)
      rw [hq.1, hq.2]
      show xW k S 0 0 53 [some (.ref 0), some (.int p1)] [] w2
      refine xb A [(.iconst 1, 1, 0, 0, .int 1)] (pc' := 54) (ls' := [some (.ref 0), some (.int p1)]) (st' := [.int 1]) (g' := w2) (by decide +kernel) rfl ?_
      obtain rfl := Option.some.inj H
      exact xret_i A hR hz (by decide +kernel) rfl ⟨rfl, rfl⟩
    · rw [if_pos h2] at H
      refine xb A [(.iconst 0, 1, 0, 0, .int 0)] (pc' := 20) (ls' := [some (.ref 0), some (.int p1)]) (st' := [.int 0]) (g' := g) (by decide +kernel) rfl ?_
      obtain rfl := Option.some.inj H
      exact xret_i A hR hz (by decide +kernel) rfl ⟨rfl, rfl⟩
theorem fr_X11_restore_0 {p1 : Int32} {g : xG} (out : Int32 × xG) (H : f_X11_restore_0 p1 g = some out) : xfrm fp_X11_restore_0 g (out.2) := by
  have H : (if (f_X11_isSlot p1) = 0 then
  some (0, g)
else
  if ((g.1 0 15) &&& (f_X11_bit p1)) = 0 then
    some (0, g)
  else
    (f_X5_take_54_48 p1 g).bind fun w1 =>
    (f_X10_measure_38 (f_X6_get_48 4 (xupd w1.1 0 13 0, w1.2)) (xupd w1.1 0 13 0, w1.2)).bind fun w2 =>
    some (1, w2)) = some out := H
  by_cases h1 : (f_X11_isSlot p1) = 0
  · rw [if_pos h1] at H
    obtain rfl := Option.some.inj H
    exact xfrm.rf
  · rw [if_neg h1] at H
    by_cases h2 : ((g.1 0 15) &&& (f_X11_bit p1)) = 0
    · rw [if_pos h2] at H
      obtain rfl := Option.some.inj H
      exact xfrm.rf
    · rw [if_neg h2] at H
      obtain ⟨w1, e1, H⟩ := xbind H
      have hf1 : xfrm fp_X11_restore_0 g (w1) := xfrm.tr xfrm.rf (fr_X5_take_54_48 _ e1) rfl
      have hf2 : xfrm fp_X11_restore_0 g ((xupd w1.1 0 13 0, w1.2)) := xfrm.up hf1 rfl
      obtain ⟨w2, e2, H⟩ := xbind H
      have hf3 : xfrm fp_X11_restore_0 g (w2) := xfrm.tr hf2 (fr_X10_measure_38 _ e2) rfl
      obtain rfl := Option.some.inj H
      exact hf3
def f_X7_openMiles_42_4  (g : xG) : Nat → Int32 → Int32 → Option (Int32)
  | 0, _, _ => none
  | n + 1, l1, l2 =>
    if (f_X4_roads_3 g) ≤ l2 then
      some l1
    else
      if (f_X10_isOpen_38 l2 g) = 0 then
        f_X7_openMiles_42_4 g n (l1 + 0) (l2 + 1)
      else
        f_X7_openMiles_42_4 g n (l1 + (f_X4_milesOf_3 l2 g)) (l2 + 1)
def f_X7_openMiles_42  (g : xG) : Option (Int32) :=
  f_X7_openMiles_42_4 g xN 0 0
set_option maxRecDepth 20000 in
theorem t_X7_openMiles_42_4 {k : xK} {S : List xSh} {g : xG} {out : Int32} (hS : xpf SH1 S) (A : xAt k mX7_openMiles.2.1 7 SH1 S) (hR : xRet k 0 0 S (fun r g' => r = some (.int out) ∧ g' = g) mX7_openMiles.2.2.2) (hrm : xrm k = { frames := 2, cells := 0, slots := 0, locals := 42 }) (hz : xhs k = xb0 k + S.length)   : ∀ (n : Nat) (l1 : Int32) (l2 : Int32), f_X7_openMiles_42_4 g n l1 l2 = some out → xW k S 0 0 4 [some (.ref 42), some (.int l1), some (.int l2)] [] g := by
  intro n
  induction n with
  | zero => intro l1 l2 H; exact absurd H (by simp [f_X7_openMiles_42_4])
  | succ n ih =>
    intro l1 l2 H
    have H : (if (f_X4_roads_3 g) ≤ l2 then
  some l1
else
  if (f_X10_isOpen_38 l2 g) = 0 then
    f_X7_openMiles_42_4 g n (l1 + 0) (l2 + 1)
  else
    f_X7_openMiles_42_4 g n (l1 + (f_X4_milesOf_3 l2 g)) (l2 + 1)) = some out := H
    refine xb A [(.iload_n 2, 1, 0, 0, .null), (.aload_n 0, 1, 0, 0, .null), (.getfield 15, 3, 42, 0, .ref 3)] (pc' := 9) (ls' := [some (.ref 42), some (.int l1), some (.int l2)]) (st' := [.ref 3, .int l2]) (g' := g) (by decide +kernel) rfl ?_
    refine xcallV A (ix := 23) (nxt := 12) hrm hz [] [.int l2] 902 (c_X4_roads_3 hS _ rfl) ok_X4_roads (by decide +kernel) rfl (fun r g1 hq => ?_)
    rw [hq.1, hq.2]
    show xW k S 0 0 12 [some (.ref 42), some (.int l1), some (.int l2)] [.int (f_X4_roads_3 g), .int l2] g
    refine xic_ge A (35) 47 15 (by decide +kernel) (fun h1 => ?_) (fun h1 => ?_)
    · rw [if_pos h1] at H
      refine xb A [(.iload_n 1, 1, 0, 0, .null)] (pc' := 48) (ls' := [some (.ref 42), some (.int l1), some (.int l2)]) (st' := [.int l1]) (g' := g) (by decide +kernel) rfl ?_
      obtain rfl := Option.some.inj H
      exact xret_i A hR hz (by decide +kernel) rfl ⟨rfl, rfl⟩
    · rw [if_neg h1] at H
      refine xb A [(.iload_n 1, 1, 0, 0, .null), (.aload_n 0, 1, 0, 0, .null), (.getfield 19, 3, 42, 1, .ref 38), (.iload_n 2, 1, 0, 0, .null)] (pc' := 21) (ls' := [some (.ref 42), some (.int l1), some (.int l2)]) (st' := [.int l2, .ref 38, .int l1]) (g' := g) (by decide +kernel) rfl ?_
      refine xcallV A (ix := 29) (nxt := 24) hrm hz [.int l2] [.int l1] 903 (c_X10_isOpen_38 hS _ rfl) ok_X10_isOpen (by decide +kernel) rfl (fun r g1 hq => ?_)
      rw [hq.1, hq.2]
      show xW k S 0 0 24 [some (.ref 42), some (.int l1), some (.int l2)] [.int (f_X10_isOpen_38 l2 g), .int l1] g
      refine xif_eq A (14) 38 27 (by decide +kernel) (fun h2 => ?_) (fun h2 => ?_)
      · rw [if_pos h2] at H
        refine xb A [(.iconst 0, 1, 0, 0, .int 0), (.iadd, 1, 0, 0, .null), (.istore_n 1, 1, 0, 0, .null), (.iinc 2 1, 3, 0, 0, .null)] (pc' := 44) (ls' := [some (.ref 42), some (.int (l1 + 0)), some (.int (l2 + 1))]) (st' := []) (g' := g) (by decide +kernel) rfl ?_
        refine xgoto A (-40) 4 (by decide +kernel) ?_
        exact ih _ _ H
      · rw [if_neg h2] at H
        refine xb A [(.aload_n 0, 1, 0, 0, .null), (.getfield 15, 3, 42, 0, .ref 3), (.iload_n 2, 1, 0, 0, .null)] (pc' := 32) (ls' := [some (.ref 42), some (.int l1), some (.int l2)]) (st' := [.int l2, .ref 3, .int l1]) (g' := g) (by decide +kernel) rfl ?_
        refine xcallV A (ix := 43) (nxt := 35) hrm hz [.int l2] [.int l1] 1117 (c_X4_milesOf_3 hS _ rfl) ok_X4_milesOf (by decide +kernel) rfl (fun r g1 hq => ?_)
        rw [hq.1, hq.2]
        show xW k S 0 0 35 [some (.ref 42), some (.int l1), some (.int l2)] [.int (f_X4_milesOf_3 l2 g), .int l1] g
        refine xgoto A (4) 39 (by decide +kernel) ?_
        refine xb A [(.iadd, 1, 0, 0, .null), (.istore_n 1, 1, 0, 0, .null), (.iinc 2 1, 3, 0, 0, .null)] (pc' := 44) (ls' := [some (.ref 42), some (.int (l1 + (f_X4_milesOf_3 l2 g))), some (.int (l2 + 1))]) (st' := []) (g' := g) (by decide +kernel) rfl ?_
        refine xgoto A (-40) 4 (by decide +kernel) ?_
        exact ih _ _ H
set_option maxRecDepth 20000 in
theorem c_X7_openMiles_42 {S : List xSh} (hS : xpf SH1 S) {g : xG}  (out : Int32) (H : f_X7_openMiles_42  g = some out) : xC mX7_openMiles 2 42 0 0 S [.ref 42] g S (fun r g' => r = some (.int out) ∧ g' = g) := by
  have H : (f_X7_openMiles_42_4 g xN 0 0) = some out := H
  refine xC.of 7 SH1 [some (.ref 42), none, none] hS (by decide +kernel) rfl (fun _ _ => Nat.le_of_ble_eq_true rfl) (fun _ _ => rfl) ?_
  intro k A hR hrm hz
  refine xb A [(.iconst 0, 1, 0, 0, .int 0), (.istore_n 1, 1, 0, 0, .null), (.iconst 0, 1, 0, 0, .int 0), (.istore_n 2, 1, 0, 0, .null)] (pc' := 4) (ls' := [some (.ref 42), some (.int 0), some (.int 0)]) (st' := []) (g' := g) (by decide +kernel) rfl ?_
  exact t_X7_openMiles_42_4 hS A hR hrm hz _ _ _ H
def f_X6_goers_48_4  (g : xG) : Nat → Int32 → Int32 → Int32 → Option (Int32)
  | 0, _, _, _ => none
  | n + 1, l1, l2, l3 =>
    if l1 ≤ l3 then
      some l2
    else
      if (f_X6_of_48 l3 11 g) < 0 then
        f_X6_goers_48_4 g n l1 l2 (l3 + 1)
      else
        f_X6_goers_48_4 g n l1 (l2 ||| (f_X11_bit l3)) (l3 + 1)
def f_X6_goers_48 (p1 : Int32) (g : xG) : Option (Int32) :=
  f_X6_goers_48_4 g xN p1 0 0
set_option maxRecDepth 20000 in
theorem t_X6_goers_48_4 {k : xK} {S : List xSh} {g : xG} {out : Int32} (hS : xpf SH1 S) (A : xAt k mX6_goers.2.1 6 SH1 S) (hR : xRet k 0 0 S (fun r g' => r = some (.int out) ∧ g' = g) mX6_goers.2.2.2) (hrm : xrm k = { frames := 2, cells := 0, slots := 0, locals := 43 }) (hz : xhs k = xb0 k + S.length)   : ∀ (n : Nat) (l1 : Int32) (l2 : Int32) (l3 : Int32), f_X6_goers_48_4 g n l1 l2 l3 = some out → xW k S 0 0 4 [some (.ref 48), some (.int l1), some (.int l2), some (.int l3)] [] g := by
  intro n
  induction n with
  | zero => intro l1 l2 l3 H; exact absurd H (by simp [f_X6_goers_48_4])
  | succ n ih =>
    intro l1 l2 l3 H
    have H : (if l1 ≤ l3 then
  some l2
else
  if (f_X6_of_48 l3 11 g) < 0 then
    f_X6_goers_48_4 g n l1 l2 (l3 + 1)
  else
    f_X6_goers_48_4 g n l1 (l2 ||| (f_X11_bit l3)) (l3 + 1)) = some out := H
    refine xb A [(.iload_n 3, 1, 0, 0, .null), (.iload_n 1, 1, 0, 0, .null)] (pc' := 6) (ls' := [some (.ref 48), some (.int l1), some (.int l2), some (.int l3)]) (st' := [.int l1, .int l3]) (g' := g) (by decide +kernel) rfl ?_
    refine xic_ge A (26) 32 9 (by decide +kernel) (fun h1 => ?_) (fun h1 => ?_)
    · rw [if_pos h1] at H
      refine xb A [(.iload_n 2, 1, 0, 0, .null)] (pc' := 33) (ls' := [some (.ref 48), some (.int l1), some (.int l2), some (.int l3)]) (st' := [.int l2]) (g' := g) (by decide +kernel) rfl ?_
      obtain rfl := Option.some.inj H
      exact xret_i A hR hz (by decide +kernel) rfl ⟨rfl, rfl⟩
    · rw [if_neg h1] at H
      refine xb A [(.aload_n 0, 1, 0, 0, .null), (.iload_n 3, 1, 0, 0, .null), (.bipush 11, 2, 0, 0, .int 11)] (pc' := 13) (ls' := [some (.ref 48), some (.int l1), some (.int l2), some (.int l3)]) (st' := [.int 11, .int l3, .ref 48]) (g' := g) (by decide +kernel) rfl ?_
      refine xcallV A (ix := 51) (nxt := 16) hrm hz [.int l3, .int 11] [] 1344 (c_X6_of_48 hS _ rfl) ok_X6_of (by decide +kernel) rfl (fun r g1 hq => ?_)
      rw [hq.1, hq.2]
      show xW k S 0 0 16 [some (.ref 48), some (.int l1), some (.int l2), some (.int l3)] [.int (f_X6_of_48 l3 11 g)] g
      refine xif_lt A (10) 26 19 (by decide +kernel) (fun h2 => ?_) (fun h2 => ?_)
      · rw [if_pos h2] at H
        refine xb A [(.iinc 3 1, 3, 0, 0, .null)] (pc' := 29) (ls' := [some (.ref 48), some (.int l1), some (.int l2), some (.int (l3 + 1))]) (st' := []) (g' := g) (by decide +kernel) rfl ?_
        refine xgoto A (-25) 4 (by decide +kernel) ?_
        exact ih _ _ _ H
      · rw [if_neg h2] at H
        refine xb A [(.iload_n 2, 1, 0, 0, .null), (.iload_n 3, 1, 0, 0, .null)] (pc' := 21) (ls' := [some (.ref 48), some (.int l1), some (.int l2), some (.int l3)]) (st' := [.int l3, .int l2]) (g' := g) (by decide +kernel) rfl ?_
        refine xcallSN A (ix := 48) (nxt := 24) (host := "NoonRinger") hrm hz [.int l3] [.int l2] 24 (c_X11_bit hS _ rfl) ok_X11_bit (by decide +kernel) rfl (fun r g1 hq => ?_)
        rw [hq.1, hq.2]
        show xW k S 0 0 24 [some (.ref 48), some (.int l1), some (.int l2), some (.int l3)] [.int (f_X11_bit l3), .int l2] g
        refine xb A [(.ior, 1, 0, 0, .null), (.istore_n 2, 1, 0, 0, .null), (.iinc 3 1, 3, 0, 0, .null)] (pc' := 29) (ls' := [some (.ref 48), some (.int l1), some (.int (l2 ||| (f_X11_bit l3))), some (.int (l3 + 1))]) (st' := []) (g' := g) (by decide +kernel) rfl ?_
        refine xgoto A (-25) 4 (by decide +kernel) ?_
        exact ih _ _ _ H
set_option maxRecDepth 20000 in
theorem c_X6_goers_48 {S : List xSh} (hS : xpf SH1 S) {g : xG} {p1 : Int32} (out : Int32) (H : f_X6_goers_48 p1 g = some out) : xC mX6_goers 2 43 0 0 S [.ref 48, .int p1] g S (fun r g' => r = some (.int out) ∧ g' = g) := by
  have H : (f_X6_goers_48_4 g xN p1 0 0) = some out := H
  refine xC.of 6 SH1 [some (.ref 48), some (.int p1), none, none] hS (by decide +kernel) rfl (fun _ _ => Nat.le_of_ble_eq_true rfl) (fun _ _ => rfl) ?_
  intro k A hR hrm hz
  refine xb A [(.iconst 0, 1, 0, 0, .int 0), (.istore_n 2, 1, 0, 0, .null), (.iconst 0, 1, 0, 0, .int 0), (.istore_n 3, 1, 0, 0, .null)] (pc' := 4) (ls' := [some (.ref 48), some (.int p1), some (.int 0), some (.int 0)]) (st' := []) (g' := g) (by decide +kernel) rfl ?_
  exact t_X6_goers_48_4 hS A hR hrm hz _ _ _ _ H
def f_X6_sumOf_48_5  (g : xG) : Nat → Int32 → Int32 → Int32 → Int32 → Option (Int32)
  | 0, _, _, _, _ => none
  | n + 1, l1, l2, l3, l4 =>
    if l2 ≤ l4 then
      some l3
    else
      f_X6_sumOf_48_5 g n l1 l2 (l3 + (f_X6_of_48 l4 l1 g)) (l4 + 1)
def f_X6_sumOf_48 (p1 : Int32) (p2 : Int32) (g : xG) : Option (Int32) :=
  f_X6_sumOf_48_5 g xN p1 p2 0 0
set_option maxRecDepth 20000 in
theorem t_X6_sumOf_48_5 {k : xK} {S : List xSh} {g : xG} {out : Int32} (hS : xpf SH1 S) (A : xAt k mX6_sumOf.2.1 6 SH1 S) (hR : xRet k 0 0 S (fun r g' => r = some (.int out) ∧ g' = g) mX6_sumOf.2.2.2) (hrm : xrm k = { frames := 2, cells := 0, slots := 0, locals := 43 }) (hz : xhs k = xb0 k + S.length)   : ∀ (n : Nat) (l1 : Int32) (l2 : Int32) (l3 : Int32) (l4 : Int32), f_X6_sumOf_48_5 g n l1 l2 l3 l4 = some out → xW k S 0 0 5 [some (.ref 48), some (.int l1), some (.int l2), some (.int l3), some (.int l4)] [] g := by
  intro n
  induction n with
  | zero => intro l1 l2 l3 l4 H; exact absurd H (by simp [f_X6_sumOf_48_5])
  | succ n ih =>
    intro l1 l2 l3 l4 H
    have H : (if l2 ≤ l4 then
  some l3
else
  f_X6_sumOf_48_5 g n l1 l2 (l3 + (f_X6_of_48 l4 l1 g)) (l4 + 1)) = some out := H
    refine xb A [(.iload 4, 2, 0, 0, .null), (.iload_n 2, 1, 0, 0, .null)] (pc' := 8) (ls' := [some (.ref 48), some (.int l1), some (.int l2), some (.int l3), some (.int l4)]) (st' := [.int l2, .int l4]) (g' := g) (by decide +kernel) rfl ?_
    refine xic_ge A (19) 27 11 (by decide +kernel) (fun h1 => ?_) (fun h1 => ?_)
    · rw [if_pos h1] at H
      refine xb A [(.iload_n 3, 1, 0, 0, .null)] (pc' := 28) (ls' := [some (.ref 48), some (.int l1), some (.int l2), some (.int l3), some (.int l4)]) (st' := [.int l3]) (g' := g) (by decide +kernel) rfl ?_
      obtain rfl := Option.some.inj H
      exact xret_i A hR hz (by decide +kernel) rfl ⟨rfl, rfl⟩
    · rw [if_neg h1] at H
      refine xb A [(.iload_n 3, 1, 0, 0, .null), (.aload_n 0, 1, 0, 0, .null), (.iload 4, 2, 0, 0, .null), (.iload_n 1, 1, 0, 0, .null)] (pc' := 16) (ls' := [some (.ref 48), some (.int l1), some (.int l2), some (.int l3), some (.int l4)]) (st' := [.int l1, .int l4, .ref 48, .int l3]) (g' := g) (by decide +kernel) rfl ?_
      refine xcallV A (ix := 51) (nxt := 19) hrm hz [.int l4, .int l1] [.int l3] 1344 (c_X6_of_48 hS _ rfl) ok_X6_of (by decide +kernel) rfl (fun r g1 hq => ?_)
      rw [hq.1, hq.2]
      show xW k S 0 0 19 [some (.ref 48), some (.int l1), some (.int l2), some (.int l3), some (.int l4)] [.int (f_X6_of_48 l4 l1 g), .int l3] g
      refine xb A [(.iadd, 1, 0, 0, .null), (.istore_n 3, 1, 0, 0, .null), (.iinc 4 1, 3, 0, 0, .null)] (pc' := 24) (ls' := [some (.ref 48), some (.int l1), some (.int l2), some (.int (l3 + (f_X6_of_48 l4 l1 g))), some (.int (l4 + 1))]) (st' := []) (g' := g) (by decide +kernel) rfl ?_
      refine xgoto A (-19) 5 (by decide +kernel) ?_
      exact ih _ _ _ _ H
set_option maxRecDepth 20000 in
theorem c_X6_sumOf_48 {S : List xSh} (hS : xpf SH1 S) {g : xG} {p1 : Int32} {p2 : Int32} (out : Int32) (H : f_X6_sumOf_48 p1 p2 g = some out) : xC mX6_sumOf 2 43 0 0 S [.ref 48, .int p1, .int p2] g S (fun r g' => r = some (.int out) ∧ g' = g) := by
  have H : (f_X6_sumOf_48_5 g xN p1 p2 0 0) = some out := H
  refine xC.of 6 SH1 [some (.ref 48), some (.int p1), some (.int p2), none, none] hS (by decide +kernel) rfl (fun _ _ => Nat.le_of_ble_eq_true rfl) (fun _ _ => rfl) ?_
  intro k A hR hrm hz
  refine xb A [(.iconst 0, 1, 0, 0, .int 0), (.istore_n 3, 1, 0, 0, .null), (.iconst 0, 1, 0, 0, .int 0), (.istore 4, 2, 0, 0, .null)] (pc' := 5) (ls' := [some (.ref 48), some (.int p1), some (.int p2), some (.int 0), some (.int 0)]) (st' := []) (g' := g) (by decide +kernel) rfl ?_
  exact t_X6_sumOf_48_5 hS A hR hrm hz _ _ _ _ _ H
def f_X11_count_0 (p1 : Int32) (g : xG) : Option (Int32) :=
  if p1 = 0 then
    some (f_X4_towns_3 g)
  else
    if p1 = 1 then
      some (f_X4_roads_3 g)
    else
      if p1 = 2 then
        some (f_X4_people_3 g)
      else
        if p1 = 3 then
          some (f_X6_get_48 0 g)
        else
          if p1 = 4 then
            some (f_X6_get_48 1 g)
          else
            if p1 = 5 then
              some (f_X6_get_48 2 g)
            else
              if p1 = 6 then
                some (f_X6_get_48 3 g)
              else
                if p1 = 7 then
                  some (f_X6_get_48 4 g)
                else
                  if p1 = 8 then
                    some (f_X8_size_1 g)
                  else
                    if p1 = 9 then
                      some (g.1 0 13)
                    else
                      if p1 = 10 then
                        some (f_X0_size_56 g)
                      else
                        if p1 = 11 then
                          some (f_J6_bitCount_0f7a4 (g.1 0 15))
                        else
                          if p1 = 12 then
                            (f_X6_peopleIn_48 (f_X4_capital_3 g) (f_X4_people_3 g) g).bind fun w1 =>
                            some w1
                          else
                            if p1 = 13 then
                              (f_X6_sumOf_48 23 (f_X4_people_3 g) g).bind fun w2 =>
                              some w2
                            else
                              if p1 = 14 then
                                (f_X6_sumOf_48 29 (f_X4_people_3 g) g).bind fun w3 =>
                                some w3
                              else
                                if p1 = 15 then
                                  (f_X6_goers_48 (f_X4_people_3 g) g).bind fun w4 =>
                                  some w4
                                else
                                  if p1 = 16 then
                                    (f_X7_openMiles_42 g).bind fun w5 =>
                                    some w5
                                  else
                                    some (-1)
set_option maxRecDepth 20000 in
theorem c_X11_count_0 {S : List xSh} (hS : xpf SH1 S) {g : xG} {p1 : Int32} (out : Int32) (H : f_X11_count_0 p1 g = some out) : xC mX11_count 3 67 0 0 S [.ref 0, .int p1] g S (fun r g' => r = some (.int out) ∧ g' = g) := by
  have H : (if p1 = 0 then
  some (f_X4_towns_3 g)
else
  if p1 = 1 then
    some (f_X4_roads_3 g)
  else
    if p1 = 2 then
      some (f_X4_people_3 g)
    else
      if p1 = 3 then
        some (f_X6_get_48 0 g)
      else
        if p1 = 4 then
          some (f_X6_get_48 1 g)
        else
          if p1 = 5 then
            some (f_X6_get_48 2 g)
          else
            if p1 = 6 then
              some (f_X6_get_48 3 g)
            else
              if p1 = 7 then
                some (f_X6_get_48 4 g)
              else
                if p1 = 8 then
                  some (f_X8_size_1 g)
                else
                  if p1 = 9 then
                    some (g.1 0 13)
                  else
                    if p1 = 10 then
                      some (f_X0_size_56 g)
                    else
                      if p1 = 11 then
                        some (f_J6_bitCount_0f7a4 (g.1 0 15))
                      else
                        if p1 = 12 then
                          (f_X6_peopleIn_48 (f_X4_capital_3 g) (f_X4_people_3 g) g).bind fun w1 =>
                          some w1
                        else
                          if p1 = 13 then
                            (f_X6_sumOf_48 23 (f_X4_people_3 g) g).bind fun w2 =>
                            some w2
                          else
                            if p1 = 14 then
                              (f_X6_sumOf_48 29 (f_X4_people_3 g) g).bind fun w3 =>
                              some w3
                            else
                              if p1 = 15 then
                                (f_X6_goers_48 (f_X4_people_3 g) g).bind fun w4 =>
                                some w4
                              else
                                if p1 = 16 then
                                  (f_X7_openMiles_42 g).bind fun w5 =>
                                  some w5
                                else
                                  some (-1)) = some out := H
  refine xC.of 11 SH1 [some (.ref 0), some (.int p1)] hS (by decide +kernel) rfl (fun _ _ => Nat.le_of_ble_eq_true rfl) (fun _ _ => rfl) ?_
  intro k A hR hrm hz
  refine xb A [(.iload_n 1, 1, 0, 0, .null)] (pc' := 1) (ls' := [some (.ref 0), some (.int p1)]) (st' := [.int p1]) (g' := g) (by decide +kernel) rfl ?_
  by_cases h1 : p1 = 0
  · rw [if_pos h1] at H
    refine xtabIn A (dflt := 260) (lo := 0) (hi := 16) (off := 83) (offs := #[(83), (91), (99), (107), (116), (125), (134), (143), (152), (160), (165), (173), (181), (203), (220), (237), (252)]) (len := 83) (tgt := 84) (0) (by rw [h1]; rfl) (by decide +kernel) ?_
    refine xb A [(.aload_n 0, 1, 0, 0, .null), (.getfield 19, 3, 0, 1, .ref 3)] (pc' := 88) (ls' := [some (.ref 0), some (.int p1)]) (st' := [.ref 3]) (g' := g) (by decide +kernel) rfl ?_
    refine xcallV A (ix := 328) (nxt := 91) hrm hz [] [] 1339 (c_X4_towns_3 hS _ rfl) ok_X4_towns (by decide +kernel) rfl (fun r g1 hq => ?_)
    rw [hq.1, hq.2]
    show xW k S 0 0 91 [some (.ref 0), some (.int p1)] [.int (f_X4_towns_3 g)] g
    obtain rfl := Option.some.inj H
    exact xret_i A hR hz (by decide +kernel) rfl ⟨rfl, rfl⟩
  · rw [if_neg h1] at H
    by_cases h2 : p1 = 1
    · rw [if_pos h2] at H
      refine xtabIn A (dflt := 260) (lo := 0) (hi := 16) (off := 91) (offs := #[(83), (91), (99), (107), (116), (125), (134), (143), (152), (160), (165), (173), (181), (203), (220), (237), (252)]) (len := 83) (tgt := 92) (1) (by rw [h2]; rfl) (by decide +kernel) ?_
      refine xb A [(.aload_n 0, 1, 0, 0, .null), (.getfield 19, 3, 0, 1, .ref 3)] (pc' := 96) (ls' := [some (.ref 0), some (.int p1)]) (st' := [.ref 3]) (g' := g) (by decide +kernel) rfl ?_
      refine xcallV A (ix := 260) (nxt := 99) hrm hz [] [] 1136 (c_X4_roads_3 hS _ rfl) ok_X4_roads (by decide +kernel) rfl (fun r g1 hq => ?_)
      rw [hq.1, hq.2]
      show xW k S 0 0 99 [some (.ref 0), some (.int p1)] [.int (f_X4_roads_3 g)] g
      obtain rfl := Option.some.inj H
      exact xret_i A hR hz (by decide +kernel) rfl ⟨rfl, rfl⟩
    · rw [if_neg h2] at H
      by_cases h3 : p1 = 2
      · rw [if_pos h3] at H
        refine xtabIn A (dflt := 260) (lo := 0) (hi := 16) (off := 99) (offs := #[(83), (91), (99), (107), (116), (125), (134), (143), (152), (160), (165), (173), (181), (203), (220), (237), (252)]) (len := 83) (tgt := 100) (2) (by rw [h3]; rfl) (by decide +kernel) ?_
        refine xb A [(.aload_n 0, 1, 0, 0, .null), (.getfield 19, 3, 0, 1, .ref 3)] (pc' := 104) (ls' := [some (.ref 0), some (.int p1)]) (st' := [.ref 3]) (g' := g) (by decide +kernel) rfl ?_
        refine xcallV A (ix := 158) (nxt := 107) hrm hz [] [] 912 (c_X4_people_3 hS _ rfl) ok_X4_people (by decide +kernel) rfl (fun r g1 hq => ?_)
        rw [hq.1, hq.2]
        show xW k S 0 0 107 [some (.ref 0), some (.int p1)] [.int (f_X4_people_3 g)] g
        obtain rfl := Option.some.inj H
        exact xret_i A hR hz (by decide +kernel) rfl ⟨rfl, rfl⟩
      · rw [if_neg h3] at H
        by_cases h4 : p1 = 3
        · rw [if_pos h4] at H
          refine xtabIn A (dflt := 260) (lo := 0) (hi := 16) (off := 107) (offs := #[(83), (91), (99), (107), (116), (125), (134), (143), (152), (160), (165), (173), (181), (203), (220), (237), (252)]) (len := 83) (tgt := 108) (3) (by rw [h4]; rfl) (by decide +kernel) ?_
          refine xb A [(.aload_n 0, 1, 0, 0, .null), (.getfield 66, 3, 0, 8, .ref 48), (.iconst 0, 1, 0, 0, .int 0)] (pc' := 113) (ls' := [some (.ref 0), some (.int p1)]) (st' := [.int 0, .ref 48]) (g' := g) (by decide +kernel) rfl ?_
          refine xcallV A (ix := 135) (nxt := 116) hrm hz [.int 0] [] 489 (c_X6_get_48 hS _ rfl) ok_X6_get (by decide +kernel) rfl (fun r g1 hq => ?_)
          rw [hq.1, hq.2]
          show xW k S 0 0 116 [some (.ref 0), some (.int p1)] [.int (f_X6_get_48 0 g)] g
          obtain rfl := Option.some.inj H
          exact xret_i A hR hz (by decide +kernel) rfl ⟨rfl, rfl⟩
        · rw [if_neg h4] at H
          by_cases h5 : p1 = 4
          · rw [if_pos h5] at H
            refine xtabIn A (dflt := 260) (lo := 0) (hi := 16) (off := 116) (offs := #[(83), (91), (99), (107), (116), (125), (134), (143), (152), (160), (165), (173), (181), (203), (220), (237), (252)]) (len := 83) (tgt := 117) (4) (by rw [h5]; rfl) (by decide +kernel) ?_
            refine xb A [(.aload_n 0, 1, 0, 0, .null), (.getfield 66, 3, 0, 8, .ref 48), (.iconst 1, 1, 0, 0, .int 1)] (pc' := 122) (ls' := [some (.ref 0), some (.int p1)]) (st' := [.int 1, .ref 48]) (g' := g) (by decide +kernel) rfl ?_
            refine xcallV A (ix := 135) (nxt := 125) hrm hz [.int 1] [] 489 (c_X6_get_48 hS _ rfl) ok_X6_get (by decide +kernel) rfl (fun r g1 hq => ?_)
            rw [hq.1, hq.2]
            show xW k S 0 0 125 [some (.ref 0), some (.int p1)] [.int (f_X6_get_48 1 g)] g
            obtain rfl := Option.some.inj H
            exact xret_i A hR hz (by decide +kernel) rfl ⟨rfl, rfl⟩
          · rw [if_neg h5] at H
            by_cases h6 : p1 = 5
            · rw [if_pos h6] at H
              refine xtabIn A (dflt := 260) (lo := 0) (hi := 16) (off := 125) (offs := #[(83), (91), (99), (107), (116), (125), (134), (143), (152), (160), (165), (173), (181), (203), (220), (237), (252)]) (len := 83) (tgt := 126) (5) (by rw [h6]; rfl) (by decide +kernel) ?_
              refine xb A [(.aload_n 0, 1, 0, 0, .null), (.getfield 66, 3, 0, 8, .ref 48), (.iconst 2, 1, 0, 0, .int 2)] (pc' := 131) (ls' := [some (.ref 0), some (.int p1)]) (st' := [.int 2, .ref 48]) (g' := g) (by decide +kernel) rfl ?_
              refine xcallV A (ix := 135) (nxt := 134) hrm hz [.int 2] [] 489 (c_X6_get_48 hS _ rfl) ok_X6_get (by decide +kernel) rfl (fun r g1 hq => ?_)
              rw [hq.1, hq.2]
              show xW k S 0 0 134 [some (.ref 0), some (.int p1)] [.int (f_X6_get_48 2 g)] g
              obtain rfl := Option.some.inj H
              exact xret_i A hR hz (by decide +kernel) rfl ⟨rfl, rfl⟩
            · rw [if_neg h6] at H
              by_cases h7 : p1 = 6
              · rw [if_pos h7] at H
                refine xtabIn A (dflt := 260) (lo := 0) (hi := 16) (off := 134) (offs := #[(83), (91), (99), (107), (116), (125), (134), (143), (152), (160), (165), (173), (181), (203), (220), (237), (252)]) (len := 83) (tgt := 135) (6) (by rw [h7]; rfl) (by decide +kernel) ?_
                refine xb A [(.aload_n 0, 1, 0, 0, .null), (.getfield 66, 3, 0, 8, .ref 48), (.iconst 3, 1, 0, 0, .int 3)] (pc' := 140) (ls' := [some (.ref 0), some (.int p1)]) (st' := [.int 3, .ref 48]) (g' := g) (by decide +kernel) rfl ?_
                refine xcallV A (ix := 135) (nxt := 143) hrm hz [.int 3] [] 489 (c_X6_get_48 hS _ rfl) ok_X6_get (by decide +kernel) rfl (fun r g1 hq => ?_)
                rw [hq.1, hq.2]
                show xW k S 0 0 143 [some (.ref 0), some (.int p1)] [.int (f_X6_get_48 3 g)] g
                obtain rfl := Option.some.inj H
                exact xret_i A hR hz (by decide +kernel) rfl ⟨rfl, rfl⟩
              · rw [if_neg h7] at H
                by_cases h8 : p1 = 7
                · rw [if_pos h8] at H
                  refine xtabIn A (dflt := 260) (lo := 0) (hi := 16) (off := 143) (offs := #[(83), (91), (99), (107), (116), (125), (134), (143), (152), (160), (165), (173), (181), (203), (220), (237), (252)]) (len := 83) (tgt := 144) (7) (by rw [h8]; rfl) (by decide +kernel) ?_
                  refine xb A [(.aload_n 0, 1, 0, 0, .null), (.getfield 66, 3, 0, 8, .ref 48), (.iconst 4, 1, 0, 0, .int 4)] (pc' := 149) (ls' := [some (.ref 0), some (.int p1)]) (st' := [.int 4, .ref 48]) (g' := g) (by decide +kernel) rfl ?_
                  refine xcallV A (ix := 135) (nxt := 152) hrm hz [.int 4] [] 489 (c_X6_get_48 hS _ rfl) ok_X6_get (by decide +kernel) rfl (fun r g1 hq => ?_)
                  rw [hq.1, hq.2]
                  show xW k S 0 0 152 [some (.ref 0), some (.int p1)] [.int (f_X6_get_48 4 g)] g
                  obtain rfl := Option.some.inj H
                  exact xret_i A hR hz (by decide +kernel) rfl ⟨rfl, rfl⟩
                · rw [if_neg h8] at H
                  by_cases h9 : p1 = 8
                  · rw [if_pos h9] at H
                    refine xtabIn A (dflt := 260) (lo := 0) (hi := 16) (off := 152) (offs := #[(83), (91), (99), (107), (116), (125), (134), (143), (152), (160), (165), (173), (181), (203), (220), (237), (252)]) (len := 83) (tgt := 153) (8) (by rw [h9]; rfl) (by decide +kernel) ?_
                    refine xb A [(.aload_n 0, 1, 0, 0, .null), (.getfield 10, 3, 0, 0, .ref 1)] (pc' := 157) (ls' := [some (.ref 0), some (.int p1)]) (st' := [.ref 1]) (g' := g) (by decide +kernel) rfl ?_
                    refine xcallV A (ix := 111) (nxt := 160) hrm hz [] [] 611 (c_X8_size_1 hS _ rfl) ok_X8_size (by decide +kernel) rfl (fun r g1 hq => ?_)
                    rw [hq.1, hq.2]
                    show xW k S 0 0 160 [some (.ref 0), some (.int p1)] [.int (f_X8_size_1 g)] g
                    obtain rfl := Option.some.inj H
                    exact xret_i A hR hz (by decide +kernel) rfl ⟨rfl, rfl⟩
                  · rw [if_neg h9] at H
                    by_cases h10 : p1 = 9
                    · rw [if_pos h10] at H
                      refine xtabIn A (dflt := 260) (lo := 0) (hi := 16) (off := 160) (offs := #[(83), (91), (99), (107), (116), (125), (134), (143), (152), (160), (165), (173), (181), (203), (220), (237), (252)]) (len := 83) (tgt := 161) (9) (by rw [h10]; rfl) (by decide +kernel) ?_
                      refine xb A [(.aload_n 0, 1, 0, 0, .null), (.getfield 143, 3, 0, 13, .int 0)] (pc' := 165) (ls' := [some (.ref 0), some (.int p1)]) (st' := [.int (g.1 0 13)]) (g' := g) (by decide +kernel) rfl ?_
                      obtain rfl := Option.some.inj H
                      exact xret_i A hR hz (by decide +kernel) rfl ⟨rfl, rfl⟩
                    · rw [if_neg h10] at H
                      by_cases h11 : p1 = 10
                      · rw [if_pos h11] at H
                        refine xtabIn A (dflt := 260) (lo := 0) (hi := 16) (off := 165) (offs := #[(83), (91), (99), (107), (116), (125), (134), (143), (152), (160), (165), (173), (181), (203), (220), (237), (252)]) (len := 83) (tgt := 166) (10) (by rw [h11]; rfl) (by decide +kernel) ?_
                        refine xb A [(.aload_n 0, 1, 0, 0, .null), (.getfield 90, 3, 0, 12, .ref 56)] (pc' := 170) (ls' := [some (.ref 0), some (.int p1)]) (st' := [.ref 56]) (g' := g) (by decide +kernel) rfl ?_
                        refine xcallV A (ix := 315) (nxt := 173) hrm hz [] [] 1286 (c_X0_size_56 hS _ rfl) ok_X0_size (by decide +kernel) rfl (fun r g1 hq => ?_)
                        rw [hq.1, hq.2]
                        show xW k S 0 0 173 [some (.ref 0), some (.int p1)] [.int (f_X0_size_56 g)] g
                        obtain rfl := Option.some.inj H
                        exact xret_i A hR hz (by decide +kernel) rfl ⟨rfl, rfl⟩
                      · rw [if_neg h11] at H
                        by_cases h12 : p1 = 11
                        · rw [if_pos h12] at H
                          refine xtabIn A (dflt := 260) (lo := 0) (hi := 16) (off := 173) (offs := #[(83), (91), (99), (107), (116), (125), (134), (143), (152), (160), (165), (173), (181), (203), (220), (237), (252)]) (len := 83) (tgt := 174) (11) (by rw [h12]; rfl) (by decide +kernel) ?_
                          refine xb A [(.aload_n 0, 1, 0, 0, .null), (.getfield 146, 3, 0, 15, .int 0)] (pc' := 178) (ls' := [some (.ref 0), some (.int p1)]) (st' := [.int (g.1 0 15)]) (g' := g) (by decide +kernel) rfl ?_
                          refine xcallS A (ix := 284) (nxt := 181) hrm hz [.int (g.1 0 15)] [] 1202 (c_J6_bitCount_0f7a4 hS _ rfl) ok_J6_bitCount_0f7a4 (by decide +kernel) rfl (fun r g1 hq => ?_)
                          rw [hq.1, hq.2]
                          show xW k S 0 0 181 [some (.ref 0), some (.int p1)] [.int (f_J6_bitCount_0f7a4 (g.1 0 15))] g
                          obtain rfl := Option.some.inj H
                          exact xret_i A hR hz (by decide +kernel) rfl ⟨rfl, rfl⟩
                        · rw [if_neg h12] at H
                          by_cases h13 : p1 = 12
                          · rw [if_pos h13] at H
                            refine xtabIn A (dflt := 260) (lo := 0) (hi := 16) (off := 181) (offs := #[(83), (91), (99), (107), (116), (125), (134), (143), (152), (160), (165), (173), (181), (203), (220), (237), (252)]) (len := 83) (tgt := 182) (12) (by rw [h13]; rfl) (by decide +kernel) ?_
                            refine xb A [(.aload_n 0, 1, 0, 0, .null), (.getfield 66, 3, 0, 8, .ref 48), (.aload_n 0, 1, 0, 0, .null), (.getfield 19, 3, 0, 1, .ref 3)] (pc' := 190) (ls' := [some (.ref 0), some (.int p1)]) (st' := [.ref 3, .ref 48]) (g' := g) (by decide +kernel) rfl ?_
                            refine xcallV A (ix := 152) (nxt := 193) hrm hz [] [.ref 48] 894 (c_X4_capital_3 hS _ rfl) ok_X4_capital (by decide +kernel) rfl (fun r g1 hq => ?_)
                            rw [hq.1, hq.2]
                            show xW k S 0 0 193 [some (.ref 0), some (.int p1)] [.int (f_X4_capital_3 g), .ref 48] g
                            refine xb A [(.aload_n 0, 1, 0, 0, .null), (.getfield 19, 3, 0, 1, .ref 3)] (pc' := 197) (ls' := [some (.ref 0), some (.int p1)]) (st' := [.ref 3, .int (f_X4_capital_3 g), .ref 48]) (g' := g) (by decide +kernel) rfl ?_
                            refine xcallV A (ix := 158) (nxt := 200) hrm hz [] [.int (f_X4_capital_3 g), .ref 48] 912 (c_X4_people_3 hS _ rfl) ok_X4_people (by decide +kernel) rfl (fun r g1 hq => ?_)
                            rw [hq.1, hq.2]
                            show xW k S 0 0 200 [some (.ref 0), some (.int p1)] [.int (f_X4_people_3 g), .int (f_X4_capital_3 g), .ref 48] g
                            obtain ⟨w1, e1, H⟩ := xbind H
                            refine xcallV A (ix := 161) (nxt := 203) hrm hz [.int (f_X4_capital_3 g), .int (f_X4_people_3 g)] [] 913 (c_X6_peopleIn_48 hS _ e1) ok_X6_peopleIn (by decide +kernel) rfl (fun r g1 hq => ?_)
                            rw [hq.1, hq.2]
                            show xW k S 0 0 203 [some (.ref 0), some (.int p1)] [.int w1] g
                            obtain rfl := Option.some.inj H
                            exact xret_i A hR hz (by decide +kernel) rfl ⟨rfl, rfl⟩
                          · rw [if_neg h13] at H
                            by_cases h14 : p1 = 13
                            · rw [if_pos h14] at H
                              refine xtabIn A (dflt := 260) (lo := 0) (hi := 16) (off := 203) (offs := #[(83), (91), (99), (107), (116), (125), (134), (143), (152), (160), (165), (173), (181), (203), (220), (237), (252)]) (len := 83) (tgt := 204) (13) (by rw [h14]; rfl) (by decide +kernel) ?_
                              refine xb A [(.aload_n 0, 1, 0, 0, .null), (.getfield 66, 3, 0, 8, .ref 48), (.bipush 23, 2, 0, 0, .int 23), (.aload_n 0, 1, 0, 0, .null), (.getfield 19, 3, 0, 1, .ref 3)] (pc' := 214) (ls' := [some (.ref 0), some (.int p1)]) (st' := [.ref 3, .int 23, .ref 48]) (g' := g) (by decide +kernel) rfl ?_
                              refine xcallV A (ix := 158) (nxt := 217) hrm hz [] [.int 23, .ref 48] 912 (c_X4_people_3 hS _ rfl) ok_X4_people (by decide +kernel) rfl (fun r g1 hq => ?_)
                              rw [hq.1, hq.2]
                              show xW k S 0 0 217 [some (.ref 0), some (.int p1)] [.int (f_X4_people_3 g), .int 23, .ref 48] g
                              obtain ⟨w2, e2, H⟩ := xbind H
                              refine xcallV A (ix := 331) (nxt := 220) hrm hz [.int 23, .int (f_X4_people_3 g)] [] 1340 (c_X6_sumOf_48 hS _ e2) ok_X6_sumOf (by decide +kernel) rfl (fun r g1 hq => ?_)
                              rw [hq.1, hq.2]
                              show xW k S 0 0 220 [some (.ref 0), some (.int p1)] [.int w2] g
                              obtain rfl := Option.some.inj H
                              exact xret_i A hR hz (by decide +kernel) rfl ⟨rfl, rfl⟩
                            · rw [if_neg h14] at H
                              by_cases h15 : p1 = 14
                              · rw [if_pos h15] at H
                                refine xtabIn A (dflt := 260) (lo := 0) (hi := 16) (off := 220) (offs := #[(83), (91), (99), (107), (116), (125), (134), (143), (152), (160), (165), (173), (181), (203), (220), (237), (252)]) (len := 83) (tgt := 221) (14) (by rw [h15]; rfl) (by decide +kernel) ?_
                                refine xb A [(.aload_n 0, 1, 0, 0, .null), (.getfield 66, 3, 0, 8, .ref 48), (.bipush 29, 2, 0, 0, .int 29), (.aload_n 0, 1, 0, 0, .null), (.getfield 19, 3, 0, 1, .ref 3)] (pc' := 231) (ls' := [some (.ref 0), some (.int p1)]) (st' := [.ref 3, .int 29, .ref 48]) (g' := g) (by decide +kernel) rfl ?_
                                refine xcallV A (ix := 158) (nxt := 234) hrm hz [] [.int 29, .ref 48] 912 (c_X4_people_3 hS _ rfl) ok_X4_people (by decide +kernel) rfl (fun r g1 hq => ?_)
                                rw [hq.1, hq.2]
                                show xW k S 0 0 234 [some (.ref 0), some (.int p1)] [.int (f_X4_people_3 g), .int 29, .ref 48] g
                                obtain ⟨w3, e3, H⟩ := xbind H
                                refine xcallV A (ix := 331) (nxt := 237) hrm hz [.int 29, .int (f_X4_people_3 g)] [] 1340 (c_X6_sumOf_48 hS _ e3) ok_X6_sumOf (by decide +kernel) rfl (fun r g1 hq => ?_)
                                rw [hq.1, hq.2]
                                show xW k S 0 0 237 [some (.ref 0), some (.int p1)] [.int w3] g
                                obtain rfl := Option.some.inj H
                                exact xret_i A hR hz (by decide +kernel) rfl ⟨rfl, rfl⟩
                              · rw [if_neg h15] at H
                                by_cases h16 : p1 = 15
                                · rw [if_pos h16] at H
                                  refine xtabIn A (dflt := 260) (lo := 0) (hi := 16) (off := 237) (offs := #[(83), (91), (99), (107), (116), (125), (134), (143), (152), (160), (165), (173), (181), (203), (220), (237), (252)]) (len := 83) (tgt := 238) (15) (by rw [h16]; rfl) (by decide +kernel) ?_
                                  refine xb A [(.aload_n 0, 1, 0, 0, .null), (.getfield 66, 3, 0, 8, .ref 48), (.aload_n 0, 1, 0, 0, .null), (.getfield 19, 3, 0, 1, .ref 3)] (pc' := 246) (ls' := [some (.ref 0), some (.int p1)]) (st' := [.ref 3, .ref 48]) (g' := g) (by decide +kernel) rfl ?_
                                  refine xcallV A (ix := 158) (nxt := 249) hrm hz [] [.ref 48] 912 (c_X4_people_3 hS _ rfl) ok_X4_people (by decide +kernel) rfl (fun r g1 hq => ?_)
                                  rw [hq.1, hq.2]
                                  show xW k S 0 0 249 [some (.ref 0), some (.int p1)] [.int (f_X4_people_3 g), .ref 48] g
                                  obtain ⟨w4, e4, H⟩ := xbind H
                                  refine xcallV A (ix := 334) (nxt := 252) hrm hz [.int (f_X4_people_3 g)] [] 1345 (c_X6_goers_48 hS _ e4) ok_X6_goers (by decide +kernel) rfl (fun r g1 hq => ?_)
                                  rw [hq.1, hq.2]
                                  show xW k S 0 0 252 [some (.ref 0), some (.int p1)] [.int w4] g
                                  obtain rfl := Option.some.inj H
                                  exact xret_i A hR hz (by decide +kernel) rfl ⟨rfl, rfl⟩
                                · rw [if_neg h16] at H
                                  by_cases h17 : p1 = 16
                                  · rw [if_pos h17] at H
                                    refine xtabIn A (dflt := 260) (lo := 0) (hi := 16) (off := 252) (offs := #[(83), (91), (99), (107), (116), (125), (134), (143), (152), (160), (165), (173), (181), (203), (220), (237), (252)]) (len := 83) (tgt := 253) (16) (by rw [h17]; rfl) (by decide +kernel) ?_
                                    refine xb A [(.aload_n 0, 1, 0, 0, .null), (.getfield 49, 3, 0, 5, .ref 42)] (pc' := 257) (ls' := [some (.ref 0), some (.int p1)]) (st' := [.ref 42]) (g' := g) (by decide +kernel) rfl ?_
                                    obtain ⟨w5, e5, H⟩ := xbind H
                                    refine xcallV A (ix := 337) (nxt := 260) hrm hz [] [] 1349 (c_X7_openMiles_42 hS _ e5) ok_X7_openMiles (by decide +kernel) rfl (fun r g1 hq => ?_)
                                    rw [hq.1, hq.2]
                                    show xW k S 0 0 260 [some (.ref 0), some (.int p1)] [.int w5] g
                                    obtain rfl := Option.some.inj H
                                    exact xret_i A hR hz (by decide +kernel) rfl ⟨rfl, rfl⟩
                                  · rw [if_neg h17] at H
                                    refine xtabOut A (dflt := 260) (lo := 0) (hi := 16) (offs := #[(83), (91), (99), (107), (116), (125), (134), (143), (152), (160), (165), (173), (181), (203), (220), (237), (252)]) (len := 83) (tgt := 261) (by decide +kernel) ?_ ?_
                                    · have e0 := lv_neT (a := 0) h1 rfl; have e1 := lv_neT (a := 1) h2 rfl; have e2 := lv_neT (a := 2) h3 rfl; have e3 := lv_neT (a := 3) h4 rfl; have e4 := lv_neT (a := 4) h5 rfl; have e5 := lv_neT (a := 5) h6 rfl; have e6 := lv_neT (a := 6) h7 rfl; have e7 := lv_neT (a := 7) h8 rfl; have e8 := lv_neT (a := 8) h9 rfl; have e9 := lv_neT (a := 9) h10 rfl; have e10 := lv_neT (a := 10) h11 rfl; have e11 := lv_neT (a := 11) h12 rfl; have e12 := lv_neT (a := 12) h13 rfl; have e13 := lv_neT (a := 13) h14 rfl; have e14 := lv_neT (a := 14) h15 rfl; have e15 := lv_neT (a := 15) h16 rfl; have e16 := lv_neT (a := 16) h17 rfl; omega
                                    · skip
                                      refine xb A [(.iconst (-1), 1, 0, 0, .int (-1))] (pc' := 262) (ls' := [some (.ref 0), some (.int p1)]) (st' := [.int (-1)]) (g' := g) (by decide +kernel) rfl ?_
                                      obtain rfl := Option.some.inj H
                                      exact xret_i A hR hz (by decide +kernel) rfl ⟨rfl, rfl⟩
def fp_X12_lays_60 : List (Nat × Option Nat) := [(60, some 2), (61, none)]
def f_X12_lays_60_3  : Nat → Int32 → Int32 → xG → Option (xG)
  | 0, _, _, _ => none
  | n + 1, l1, l2, g =>
    if l2 < 0 then
      some g
    else
      xg (¬ ((g.1 60 2) < 0 ∨ 2000 ≤ (g.1 60 2).toNatClampNeg)) (
        f_X12_lays_60_3 n l1 (l2 + (-8)) (xupd (xupd g.1 61 (g.1 60 2).toNatClampNeg (((l1 >>> (l2 &&& 31)).toInt8.toInt32).toInt8.toInt32)) 60 2 ((g.1 60 2) + 1), g.2))
def f_X12_lays_60 (p1 : Int32) (g : xG) : Option (xG) :=
  f_X12_lays_60_3 xN p1 24 g
set_option maxRecDepth 20000 in
theorem t_X12_lays_60_3 {k : xK} {S : List xSh} {out : xG} (hS : xpf SH2 S) (A : xAt k mX12_lays.2.1 12 SH2 S) (hR : xRet k 0 0 S (fun r g' => r = none ∧ g' = out) mX12_lays.2.2.2) (hrm : xrm k = { frames := 0, cells := 0, slots := 0, locals := 0 }) (hz : xhs k = xb0 k + S.length)   : ∀ (n : Nat) (l1 : Int32) (l2 : Int32) (g : xG), f_X12_lays_60_3 n l1 l2 g = some out → xW k S 0 0 3 [some (.ref 60), some (.int l1), some (.int l2)] [] g := by
  intro n
  induction n with
  | zero => intro l1 l2 g H; exact absurd H (by simp [f_X12_lays_60_3])
  | succ n ih =>
    intro l1 l2 g H
    have H : (if l2 < 0 then
  some g
else
  xg (¬ ((g.1 60 2) < 0 ∨ 2000 ≤ (g.1 60 2).toNatClampNeg)) (
    f_X12_lays_60_3 n l1 (l2 + (-8)) (xupd (xupd g.1 61 (g.1 60 2).toNatClampNeg (((l1 >>> (l2 &&& 31)).toInt8.toInt32).toInt8.toInt32)) 60 2 ((g.1 60 2) + 1), g.2))) = some out := H
    refine xb A [(.iload_n 2, 1, 0, 0, .null)] (pc' := 4) (ls' := [some (.ref 60), some (.int l1), some (.int l2)]) (st' := [.int l2]) (g' := g) (by decide +kernel) rfl ?_
    refine xif_lt A (32) 36 7 (by decide +kernel) (fun h1 => ?_) (fun h1 => ?_)
    · rw [if_pos h1] at H
      obtain rfl := Option.some.inj H
      exact xret_v A hR hz (by decide +kernel) ⟨rfl, rfl⟩
    · rw [if_neg h1] at H
      refine xb A [(.aload_n 0, 1, 0, 0, .null), (.getfield 13, 3, 60, 1, .ref 61), (.aload_n 0, 1, 0, 0, .null), (.getfield 160, 3, 60, 2, .int 0), (.iload_n 1, 1, 0, 0, .null), (.iload_n 2, 1, 0, 0, .null), (.ishr, 1, 0, 0, .null), (.i2b, 1, 0, 0, .null)] (pc' := 19) (ls' := [some (.ref 60), some (.int l1), some (.int l2)]) (st' := [.int ((l1 >>> (l2 &&& 31)).toInt8.toInt32), .int (g.1 60 2), .ref 61]) (g' := g) (by decide +kernel) rfl ?_
      obtain ⟨h2, H⟩ := xg_elim H
      refine xbast A (nxt := 20) (by decide +kernel) (hS _ _ sh_61) h2 ?_
      show xW k S 0 0 20 [some (.ref 60), some (.int l1), some (.int l2)] [] (xupd g.1 61 (g.1 60 2).toNatClampNeg (((l1 >>> (l2 &&& 31)).toInt8.toInt32).toInt8.toInt32), g.2)
      refine xb A [(.aload_n 0, 1, 0, 0, .null), (.dup, 1, 0, 0, .null), (.getfield 160, 3, 60, 2, .int 0), (.iconst 1, 1, 0, 0, .int 1), (.iadd, 1, 0, 0, .null), (.putfield 160, 3, 60, 2, .int 0), (.iinc 2 (-8), 3, 0, 0, .null)] (pc' := 33) (ls' := [some (.ref 60), some (.int l1), some (.int (l2 + (-8)))]) (st' := []) (g' := (xupd (xupd g.1 61 (g.1 60 2).toNatClampNeg (((l1 >>> (l2 &&& 31)).toInt8.toInt32).toInt8.toInt32)) 60 2 ((g.1 60 2) + 1), g.2)) (by decide +kernel) rfl ?_
      refine xgoto A (-30) 3 (by decide +kernel) ?_
      exact ih _ _ _ H
theorem fr_X12_lays_60_3   : ∀ (n : Nat) (l1 : Int32) (l2 : Int32) (g : xG) (out : xG), f_X12_lays_60_3 n l1 l2 g = some out → xfrm fp_X12_lays_60 g (out) := by
  intro n
  induction n with
  | zero => intro l1 l2 g out H; exact absurd H (by simp [f_X12_lays_60_3])
  | succ n ih =>
    intro l1 l2 g out H
    have H : (if l2 < 0 then
  some g
else
  xg (¬ ((g.1 60 2) < 0 ∨ 2000 ≤ (g.1 60 2).toNatClampNeg)) (
    f_X12_lays_60_3 n l1 (l2 + (-8)) (xupd (xupd g.1 61 (g.1 60 2).toNatClampNeg (((l1 >>> (l2 &&& 31)).toInt8.toInt32).toInt8.toInt32)) 60 2 ((g.1 60 2) + 1), g.2))) = some out := H
    by_cases h1 : l2 < 0
    · rw [if_pos h1] at H
      obtain rfl := Option.some.inj H
      exact xfrm.rf
    · rw [if_neg h1] at H
      obtain ⟨h2, H⟩ := xg_elim H
      have hf1 : xfrm fp_X12_lays_60 g ((xupd g.1 61 (g.1 60 2).toNatClampNeg (((l1 >>> (l2 &&& 31)).toInt8.toInt32).toInt8.toInt32), g.2)) := xfrm.ua xfrm.rf rfl
      have hf2 : xfrm fp_X12_lays_60 g ((xupd (xupd g.1 61 (g.1 60 2).toNatClampNeg (((l1 >>> (l2 &&& 31)).toInt8.toInt32).toInt8.toInt32)) 60 2 ((g.1 60 2) + 1), g.2)) := xfrm.up hf1 rfl
      exact xfrm.tr hf2 (ih _ _ _ _ H) rfl
set_option maxRecDepth 20000 in
theorem c_X12_lays_60 {S : List xSh} (hS : xpf SH2 S) {g : xG} {p1 : Int32} (out : xG) (H : f_X12_lays_60 p1 g = some out) : xC mX12_lays 0 0 0 0 S [.ref 60, .int p1] g S (fun r g' => r = none ∧ g' = out) := by
  have H : (f_X12_lays_60_3 xN p1 24 g) = some out := H
  refine xC.of 12 SH2 [some (.ref 60), some (.int p1), none] hS (by decide +kernel) rfl (fun _ _ => Nat.le_of_ble_eq_true rfl) (fun _ _ => rfl) ?_
  intro k A hR hrm hz
  refine xb A [(.bipush 24, 2, 0, 0, .int 24), (.istore_n 2, 1, 0, 0, .null)] (pc' := 3) (ls' := [some (.ref 60), some (.int p1), some (.int 24)]) (st' := []) (g' := g) (by decide +kernel) rfl ?_
  exact t_X12_lays_60_3 hS A hR hrm hz _ _ _ _ H
theorem fr_X12_lays_60 {p1 : Int32} {g : xG} (out : xG) (H : f_X12_lays_60 p1 g = some out) : xfrm fp_X12_lays_60 g (out) := by
  have H : (f_X12_lays_60_3 xN p1 24 g) = some out := H
  exact xfrm.tr xfrm.rf (fr_X12_lays_60_3 _ _ _ _ _ H) rfl
def fp_X12_feed_60 : List (Nat × Option Nat) := [(60, some 2), (61, none)]
def f_X12_feed_60 (p1 : Int32) (p2 : Int32) (p3 : Int32) (p4 : Int32) (p5 : Int32) (g : xG) : Option (Int32 × xG) :=
  if ((g.1 60 2) + 20) ≤ 2000 then
    (f_X12_lays_60 p1 g).bind fun w1 =>
    (f_X12_lays_60 p2 w1).bind fun w2 =>
    (f_X12_lays_60 p3 w2).bind fun w3 =>
    (f_X12_lays_60 p4 w3).bind fun w4 =>
    (f_X12_lays_60 p5 w4).bind fun w5 =>
    some (w5.1 60 2, w5)
  else
    some ((-1), g)
set_option maxRecDepth 20000 in
theorem c_X12_feed_60 {S : List xSh} (hS : xpf SH2 S) {g : xG} {p1 : Int32} {p2 : Int32} {p3 : Int32} {p4 : Int32} {p5 : Int32} (out : Int32 × xG) (H : f_X12_feed_60 p1 p2 p3 p4 p5 g = some out) : xC mX12_feed 1 22 0 0 S [.ref 60, .int p1, .int p2, .int p3, .int p4, .int p5] g S (fun r g' => r = some (.int out.1) ∧ g' = out.2) := by
  have H : (if ((g.1 60 2) + 20) ≤ 2000 then
  (f_X12_lays_60 p1 g).bind fun w1 =>
  (f_X12_lays_60 p2 w1).bind fun w2 =>
  (f_X12_lays_60 p3 w2).bind fun w3 =>
  (f_X12_lays_60 p4 w3).bind fun w4 =>
  (f_X12_lays_60 p5 w4).bind fun w5 =>
  some (w5.1 60 2, w5)
else
  some ((-1), g)) = some out := H
  refine xC.of 12 SH2 [some (.ref 60), some (.int p1), some (.int p2), some (.int p3), some (.int p4), some (.int p5)] hS (by decide +kernel) rfl (fun _ _ => Nat.le_of_ble_eq_true rfl) (fun _ _ => rfl) ?_
  intro k A hR hrm hz
  refine xb A [(.aload_n 0, 1, 0, 0, .null), (.getfield 160, 3, 60, 2, .int 0), (.bipush 20, 2, 0, 0, .int 20), (.iadd, 1, 0, 0, .null), (.sipush 2000, 3, 0, 0, .int 2000)] (pc' := 10) (ls' := [some (.ref 60), some (.int p1), some (.int p2), some (.int p3), some (.int p4), some (.int p5)]) (st' := [.int 2000, .int ((g.1 60 2) + 20)]) (g' := g) (by decide +kernel) rfl ?_
  refine xic_le A (5) 15 13 (by decide +kernel) (fun h1 => ?_) (fun h1 => ?_)
  · rw [if_pos h1] at H
    refine xb A [(.aload_n 0, 1, 0, 0, .null), (.iload_n 1, 1, 0, 0, .null)] (pc' := 17) (ls' := [some (.ref 60), some (.int p1), some (.int p2), some (.int p3), some (.int p4), some (.int p5)]) (st' := [.int p1, .ref 60]) (g' := g) (by decide +kernel) rfl ?_
    obtain ⟨w1, e1, H⟩ := xbind H
    refine xcallV A (ix := 163) (nxt := 20) hrm hz [.int p1] [] 1574 (c_X12_lays_60 hS _ e1) ok_X12_lays (by decide +kernel) rfl (fun r g1 hq => ?_)
    rw [hq.1, hq.2]
    show xW k S 0 0 20 [some (.ref 60), some (.int p1), some (.int p2), some (.int p3), some (.int p4), some (.int p5)] [] w1
    refine xb A [(.aload_n 0, 1, 0, 0, .null), (.iload_n 2, 1, 0, 0, .null)] (pc' := 22) (ls' := [some (.ref 60), some (.int p1), some (.int p2), some (.int p3), some (.int p4), some (.int p5)]) (st' := [.int p2, .ref 60]) (g' := w1) (by decide +kernel) rfl ?_
    obtain ⟨w2, e2, H⟩ := xbind H
    refine xcallV A (ix := 163) (nxt := 25) hrm hz [.int p2] [] 1574 (c_X12_lays_60 hS _ e2) ok_X12_lays (by decide +kernel) rfl (fun r g1 hq => ?_)
    rw [hq.1, hq.2]
    show xW k S 0 0 25 [some (.ref 60), some (.int p1), some (.int p2), some (.int p3), some (.int p4), some (.int p5)] [] w2
    refine xb A [(.aload_n 0, 1, 0, 0, .null), (.iload_n 3, 1, 0, 0, .null)] (pc' := 27) (ls' := [some (.ref 60), some (.int p1), some (.int p2), some (.int p3), some (.int p4), some (.int p5)]) (st' := [.int p3, .ref 60]) (g' := w2) (by decide +kernel) rfl ?_
    obtain ⟨w3, e3, H⟩ := xbind H
    refine xcallV A (ix := 163) (nxt := 30) hrm hz [.int p3] [] 1574 (c_X12_lays_60 hS _ e3) ok_X12_lays (by decide +kernel) rfl (fun r g1 hq => ?_)
    rw [hq.1, hq.2]
    show xW k S 0 0 30 [some (.ref 60), some (.int p1), some (.int p2), some (.int p3), some (.int p4), some (.int p5)] [] w3
    refine xb A [(.aload_n 0, 1, 0, 0, .null), (.iload 4, 2, 0, 0, .null)] (pc' := 33) (ls' := [some (.ref 60), some (.int p1), some (.int p2), some (.int p3), some (.int p4), some (.int p5)]) (st' := [.int p4, .ref 60]) (g' := w3) (by decide +kernel) rfl ?_
    obtain ⟨w4, e4, H⟩ := xbind H
    refine xcallV A (ix := 163) (nxt := 36) hrm hz [.int p4] [] 1574 (c_X12_lays_60 hS _ e4) ok_X12_lays (by decide +kernel) rfl (fun r g1 hq => ?_)
    rw [hq.1, hq.2]
    show xW k S 0 0 36 [some (.ref 60), some (.int p1), some (.int p2), some (.int p3), some (.int p4), some (.int p5)] [] w4
    refine xb A [(.aload_n 0, 1, 0, 0, .null), (.iload 5, 2, 0, 0, .null)] (pc' := 39) (ls' := [some (.ref 60), some (.int p1), some (.int p2), some (.int p3), some (.int p4), some (.int p5)]) (st' := [.int p5, .ref 60]) (g' := w4) (by decide +kernel) rfl ?_
    obtain ⟨w5, e5, H⟩ := xbind H
    refine xcallV A (ix := 163) (nxt := 42) hrm hz [.int p5] [] 1574 (c_X12_lays_60 hS _ e5) ok_X12_lays (by decide +kernel) rfl (fun r g1 hq => ?_)
    rw [hq.1, hq.2]
    show xW k S 0 0 42 [some (.ref 60), some (.int p1), some (.int p2), some (.int p3), some (.int p4), some (.int p5)] [] w5
    refine xb A [(.aload_n 0, 1, 0, 0, .null), (.getfield 160, 3, 60, 2, .int 0)] (pc' := 46) (ls' := [some (.ref 60), some (.int p1), some (.int p2), some (.int p3), some (.int p4), some (.int p5)]) (st' := [.int (w5.1 60 2)]) (g' := w5) (by decide +kernel) rfl ?_
    obtain rfl := Option.some.inj H
    exact xret_i A hR hz (by decide +kernel) rfl ⟨rfl, rfl⟩
  · rw [if_neg h1] at H
    refine xb A [(.iconst (-1), 1, 0, 0, .int (-1))] (pc' := 14) (ls' := [some (.ref 60), some (.int p1), some (.int p2), some (.int p3), some (.int p4), some (.int p5)]) (st' := [.int (-1)]) (g' := g) (by decide +kernel) rfl ?_
    obtain rfl := Option.some.inj H
    exact xret_i A hR hz (by decide +kernel) rfl ⟨rfl, rfl⟩
theorem fr_X12_feed_60 {p1 : Int32} {p2 : Int32} {p3 : Int32} {p4 : Int32} {p5 : Int32} {g : xG} (out : Int32 × xG) (H : f_X12_feed_60 p1 p2 p3 p4 p5 g = some out) : xfrm fp_X12_feed_60 g (out.2) := by
  have H : (if ((g.1 60 2) + 20) ≤ 2000 then
  (f_X12_lays_60 p1 g).bind fun w1 =>
  (f_X12_lays_60 p2 w1).bind fun w2 =>
  (f_X12_lays_60 p3 w2).bind fun w3 =>
  (f_X12_lays_60 p4 w3).bind fun w4 =>
  (f_X12_lays_60 p5 w4).bind fun w5 =>
  some (w5.1 60 2, w5)
else
  some ((-1), g)) = some out := H
  by_cases h1 : ((g.1 60 2) + 20) ≤ 2000
  · rw [if_pos h1] at H
    obtain ⟨w1, e1, H⟩ := xbind H
    have hf1 : xfrm fp_X12_feed_60 g (w1) := xfrm.tr xfrm.rf (fr_X12_lays_60 _ e1) rfl
    obtain ⟨w2, e2, H⟩ := xbind H
    have hf2 : xfrm fp_X12_feed_60 g (w2) := xfrm.tr hf1 (fr_X12_lays_60 _ e2) rfl
    obtain ⟨w3, e3, H⟩ := xbind H
    have hf3 : xfrm fp_X12_feed_60 g (w3) := xfrm.tr hf2 (fr_X12_lays_60 _ e3) rfl
    obtain ⟨w4, e4, H⟩ := xbind H
    have hf4 : xfrm fp_X12_feed_60 g (w4) := xfrm.tr hf3 (fr_X12_lays_60 _ e4) rfl
    obtain ⟨w5, e5, H⟩ := xbind H
    have hf5 : xfrm fp_X12_feed_60 g (w5) := xfrm.tr hf4 (fr_X12_lays_60 _ e5) rfl
    obtain rfl := Option.some.inj H
    exact hf5
  · rw [if_neg h1] at H
    obtain rfl := Option.some.inj H
    exact xfrm.rf
def fp_X12_back_60 : List (Nat × Option Nat) := [(60, some 2)]
def f_X12_back_60 (p1 : Int32) (g : xG) : Int32 × xG :=
  if p1 < 0 then
    ((-1), g)
  else
    if p1 ≤ (g.1 60 2) then
      ((g.1 60 2) - p1, (xupd g.1 60 2 ((g.1 60 2) - p1), g.2))
    else
      ((-1), g)
set_option maxRecDepth 20000 in
theorem c_X12_back_60 {S : List xSh} (hS : xpf SH2 S) {g : xG} {p1 : Int32} (out : Int32 × xG) (H : f_X12_back_60 p1 g = out) : xC mX12_back 0 0 0 0 S [.ref 60, .int p1] g S (fun r g' => r = some (.int out.1) ∧ g' = out.2) := by
  have H : (if p1 < 0 then
  ((-1), g)
else
  if p1 ≤ (g.1 60 2) then
    ((g.1 60 2) - p1, (xupd g.1 60 2 ((g.1 60 2) - p1), g.2))
  else
    ((-1), g)) = out := H
  refine xC.of 12 SH2 [some (.ref 60), some (.int p1)] hS (by decide +kernel) rfl (fun _ _ => Nat.le_of_ble_eq_true rfl) (fun _ _ => rfl) ?_
  intro k A hR hrm hz
  refine xb A [(.iload_n 1, 1, 0, 0, .null)] (pc' := 1) (ls' := [some (.ref 60), some (.int p1)]) (st' := [.int p1]) (g' := g) (by decide +kernel) rfl ?_
  refine xif_lt A (11) 12 4 (by decide +kernel) (fun h1 => ?_) (fun h1 => ?_)
  · rw [if_pos h1] at H
    refine xb A [(.iconst (-1), 1, 0, 0, .int (-1))] (pc' := 13) (ls' := [some (.ref 60), some (.int p1)]) (st' := [.int (-1)]) (g' := g) (by decide +kernel) rfl ?_
    subst H
    exact xret_i A hR hz (by decide +kernel) rfl ⟨rfl, rfl⟩
  · rw [if_neg h1] at H
    refine xb A [(.iload_n 1, 1, 0, 0, .null), (.aload_n 0, 1, 0, 0, .null), (.getfield 160, 3, 60, 2, .int 0)] (pc' := 9) (ls' := [some (.ref 60), some (.int p1)]) (st' := [.int (g.1 60 2), .int p1]) (g' := g) (by decide +kernel) rfl ?_
    refine xic_le A (5) 14 12 (by decide +kernel) (fun h2 => ?_) (fun h2 => ?_)
    · rw [if_pos h2] at H
      refine xb A [(.aload_n 0, 1, 0, 0, .null), (.dup, 1, 0, 0, .null), (.getfield 160, 3, 60, 2, .int 0), (.iload_n 1, 1, 0, 0, .null), (.isub, 1, 0, 0, .null), (.putfield 160, 3, 60, 2, .int 0), (.aload_n 0, 1, 0, 0, .null), (.getfield 160, 3, 60, 2, .int 0)] (pc' := 28) (ls' := [some (.ref 60), some (.int p1)]) (st' := [.int ((g.1 60 2) - p1)]) (g' := (xupd g.1 60 2 ((g.1 60 2) - p1), g.2)) (by decide +kernel) rfl ?_
      subst H
      exact xret_i A hR hz (by decide +kernel) rfl ⟨rfl, rfl⟩
    · rw [if_neg h2] at H
      refine xb A [(.iconst (-1), 1, 0, 0, .int (-1))] (pc' := 13) (ls' := [some (.ref 60), some (.int p1)]) (st' := [.int (-1)]) (g' := g) (by decide +kernel) rfl ?_
      subst H
      exact xret_i A hR hz (by decide +kernel) rfl ⟨rfl, rfl⟩
theorem fr_X12_back_60 {p1 : Int32} {g : xG} (out : Int32 × xG) (H : f_X12_back_60 p1 g = out) : xfrm fp_X12_back_60 g (out.2) := by
  have H : (if p1 < 0 then
  ((-1), g)
else
  if p1 ≤ (g.1 60 2) then
    ((g.1 60 2) - p1, (xupd g.1 60 2 ((g.1 60 2) - p1), g.2))
  else
    ((-1), g)) = out := H
  by_cases h1 : p1 < 0
  · rw [if_pos h1] at H
    subst H
    exact xfrm.rf
  · rw [if_neg h1] at H
    by_cases h2 : p1 ≤ (g.1 60 2)
    · rw [if_pos h2] at H
      have hf1 : xfrm fp_X12_back_60 g ((xupd g.1 60 2 ((g.1 60 2) - p1), g.2)) := xfrm.up xfrm.rf rfl
      subst H
      exact hf1
    · rw [if_neg h2] at H
      subst H
      exact xfrm.rf
def f_X12_byteAt_60 (p1 : Int32) (g : xG) : Option (Int32) :=
  if (g.1 60 4) ≤ p1 then
    some 0
  else
    xg (¬ (p1 < 0 ∨ 2000 ≤ p1.toNatClampNeg)) (
      some ((g.1 62 p1.toNatClampNeg) &&& 255))
set_option maxRecDepth 20000 in
theorem c_X12_byteAt_60 {S : List xSh} (hS : xpf SH2 S) {g : xG} {p1 : Int32} (out : Int32) (H : f_X12_byteAt_60 p1 g = some out) : xC mX12_byteAt 0 0 0 0 S [.ref 60, .int p1] g S (fun r g' => r = some (.int out) ∧ g' = g) := by
  have H : (if (g.1 60 4) ≤ p1 then
  some 0
else
  xg (¬ (p1 < 0 ∨ 2000 ≤ p1.toNatClampNeg)) (
    some ((g.1 62 p1.toNatClampNeg) &&& 255))) = some out := H
  refine xC.of 12 SH2 [some (.ref 60), some (.int p1)] hS (by decide +kernel) rfl (fun _ _ => Nat.le_of_ble_eq_true rfl) (fun _ _ => rfl) ?_
  intro k A hR hrm hz
  refine xb A [(.iload_n 1, 1, 0, 0, .null), (.aload_n 0, 1, 0, 0, .null), (.getfield 166, 3, 60, 4, .int 0)] (pc' := 5) (ls' := [some (.ref 60), some (.int p1)]) (st' := [.int (g.1 60 4), .int p1]) (g' := g) (by decide +kernel) rfl ?_
  refine xic_ge A (16) 21 8 (by decide +kernel) (fun h1 => ?_) (fun h1 => ?_)
  · rw [if_pos h1] at H
    refine xb A [(.iconst 0, 1, 0, 0, .int 0)] (pc' := 22) (ls' := [some (.ref 60), some (.int p1)]) (st' := [.int 0]) (g' := g) (by decide +kernel) rfl ?_
    obtain rfl := Option.some.inj H
    exact xret_i A hR hz (by decide +kernel) rfl ⟨rfl, rfl⟩
  · rw [if_neg h1] at H
    refine xb A [(.aload_n 0, 1, 0, 0, .null), (.getfield 17, 3, 60, 3, .ref 62), (.iload_n 1, 1, 0, 0, .null)] (pc' := 13) (ls' := [some (.ref 60), some (.int p1)]) (st' := [.int p1, .ref 62]) (g' := g) (by decide +kernel) rfl ?_
    obtain ⟨h2, H⟩ := xg_elim H
    refine xbald A (nxt := 14) (by decide +kernel) (hS _ _ sh_62) h2 ?_
    show xW k S 0 0 14 [some (.ref 60), some (.int p1)] [.int (g.1 62 p1.toNatClampNeg)] g
    refine xb A [(.sipush 255, 3, 0, 0, .int 255), (.iand, 1, 0, 0, .null)] (pc' := 18) (ls' := [some (.ref 60), some (.int p1)]) (st' := [.int ((g.1 62 p1.toNatClampNeg) &&& 255)]) (g' := g) (by decide +kernel) rfl ?_
    refine xgoto A (4) 22 (by decide +kernel) ?_
    obtain rfl := Option.some.inj H
    exact xret_i A hR hz (by decide +kernel) rfl ⟨rfl, rfl⟩
