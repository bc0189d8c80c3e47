/-! methods, walked by program -/
def f_X12_sumNow_60_4  (g : xG) : Nat → Int32 → Int32 → Int32 → Option (Int32)
  | 0, _, _, _ => none
  | n + 1, l1, l2, l3 =>
    if (l1 + 6) ≤ l3 then
      some l2
    else
      xg (¬ (l3 < 0 ∨ 40 ≤ l3.toNatClampNeg)) (
        f_X12_sumNow_60_4 g n l1 (l2 + (g.1 93 l3.toNatClampNeg)) (l3 + 1))
def f_X12_sumNow_60 (p1 : Int32) (g : xG) : Option (Int32) :=
  f_X12_sumNow_60_4 g xN p1 0 p1
set_option maxRecDepth 20000 in
theorem t_X12_sumNow_60_4 {k : xK} {S : List xSh} {g : xG} {out : Int32} (hS : xpf SH2 S) (A : xAt k mX12_sumNow.2.1 12 SH2 S) (hR : xRet k 0 0 S (fun r g' => r = some (.int out) ∧ g' = g) mX12_sumNow.2.2.2) (hrm : xrm k = { frames := 0, cells := 0, slots := 0, locals := 0 }) (hz : xhs k = xb0 k + S.length)   : ∀ (n : Nat) (l1 : Int32) (l2 : Int32) (l3 : Int32), f_X12_sumNow_60_4 g n l1 l2 l3 = some out → xW k S 0 0 4 [some (.ref 60), some (.int l1), some (.int l2), some (.int l3)] [] g := by
  intro n
  induction n with
  | zero => intro l1 l2 l3 H; exact absurd H (by simp [f_X12_sumNow_60_4])
  | succ n ih =>
    intro l1 l2 l3 H
    have H : (if (l1 + 6) ≤ l3 then
  some l2
else
  xg (¬ (l3 < 0 ∨ 40 ≤ l3.toNatClampNeg)) (
    f_X12_sumNow_60_4 g n l1 (l2 + (g.1 93 l3.toNatClampNeg)) (l3 + 1))) = some out := H
    refine xb A [(.iload_n 3, 1, 0, 0, .null), (.iload_n 1, 1, 0, 0, .null), (.bipush 6, 2, 0, 0, .int 6), (.iadd, 1, 0, 0, .null)] (pc' := 9) (ls' := [some (.ref 60), some (.int l1), some (.int l2), some (.int l3)]) (st' := [.int (l1 + 6), .int l3]) (g' := g) (by decide +kernel) rfl ?_
    refine xic_ge A (18) 27 12 (by decide +kernel) (fun h1 => ?_) (fun h1 => ?_)
    · rw [if_pos h1] at H
      refine xb A [(.iload_n 2, 1, 0, 0, .null)] (pc' := 28) (ls' := [some (.ref 60), some (.int l1), some (.int l2), some (.int l3)]) (st' := [.int l2]) (g' := g) (by decide +kernel) rfl ?_
      obtain rfl := Option.some.inj H
      exact xret_i A hR hz (by decide +kernel) rfl ⟨rfl, rfl⟩
    · rw [if_neg h1] at H
      refine xb A [(.iload_n 2, 1, 0, 0, .null), (.aload_n 0, 1, 0, 0, .null), (.getfield 116, 3, 60, 50, .ref 93), (.iload_n 3, 1, 0, 0, .null)] (pc' := 18) (ls' := [some (.ref 60), some (.int l1), some (.int l2), some (.int l3)]) (st' := [.int l3, .ref 93, .int l2]) (g' := g) (by decide +kernel) rfl ?_
      obtain ⟨h2, H⟩ := xg_elim H
      refine xiald A (nxt := 19) (by decide +kernel) (hS _ _ sh_93) h2 ?_
      show xW k S 0 0 19 [some (.ref 60), some (.int l1), some (.int l2), some (.int l3)] [.int (g.1 93 l3.toNatClampNeg), .int l2] g
      refine xb A [(.iadd, 1, 0, 0, .null), (.istore_n 2, 1, 0, 0, .null), (.iinc 3 1, 3, 0, 0, .null)] (pc' := 24) (ls' := [some (.ref 60), some (.int l1), some (.int (l2 + (g.1 93 l3.toNatClampNeg))), some (.int (l3 + 1))]) (st' := []) (g' := g) (by decide +kernel) rfl ?_
      refine xgoto A (-20) 4 (by decide +kernel) ?_
      exact ih _ _ _ H
set_option maxRecDepth 20000 in
theorem c_X12_sumNow_60 {S : List xSh} (hS : xpf SH2 S) {g : xG} {p1 : Int32} (out : Int32) (H : f_X12_sumNow_60 p1 g = some out) : xC mX12_sumNow 0 0 0 0 S [.ref 60, .int p1] g S (fun r g' => r = some (.int out) ∧ g' = g) := by
  have H : (f_X12_sumNow_60_4 g xN p1 0 p1) = some out := H
  refine xC.of 12 SH2 [some (.ref 60), some (.int p1), none, none] hS (by decide +kernel) rfl (fun _ _ => Nat.le_of_ble_eq_true rfl) (fun _ _ => rfl) ?_
  intro k A hR hrm hz
  refine xb A [(.iconst 0, 1, 0, 0, .int 0), (.istore_n 2, 1, 0, 0, .null), (.iload_n 1, 1, 0, 0, .null), (.istore_n 3, 1, 0, 0, .null)] (pc' := 4) (ls' := [some (.ref 60), some (.int p1), some (.int 0), some (.int p1)]) (st' := []) (g' := g) (by decide +kernel) rfl ?_
  exact t_X12_sumNow_60_4 hS A hR hrm hz _ _ _ _ H
def fp_X12_count_60 : List (Nat × Option Nat) := [(60, some 52), (60, some 53), (94, none), (95, none)]
def f_X12_count_60_198  (s0 : Int32) (s1 : Int32) (g : xG) : Option (Int32 × xG) :=
  xg (¬ ((2 : Int32) < 0 ∨ 3 ≤ (2 : Int32).toNatClampNeg)) (
    if (g.1 101 (2 : Int32).toNatClampNeg) = 0 then
      some ((s1 + s0) + 0, g)
    else
      some ((s1 + s0) + 1, g))
def f_X12_count_60_184  (s0 : Int32) (g : xG) : Option (Int32 × xG) :=
  xg (¬ ((1 : Int32) < 0 ∨ 3 ≤ (1 : Int32).toNatClampNeg)) (
    if (g.1 101 (1 : Int32).toNatClampNeg) = 0 then
      f_X12_count_60_198 0 s0 g
    else
      f_X12_count_60_198 1 s0 g)
def f_X12_count_60_236  : Nat → Int32 → Int32 → xG → Option (Int32 × xG)
  | 0, _, _, _ => none
  | n + 1, l2, l3, g =>
    xg (¬ ((g.1 60 18) < 0 ∨ 2 ≤ (g.1 60 18).toNatClampNeg)) (
      if (g.1 75 (g.1 60 18).toNatClampNeg) ≤ l3 then
        some (l2, g)
      else
        xg (¬ ((6 + l3) < 0 ∨ 40 ≤ (6 + l3).toNatClampNeg)) (
          if (g.1 94 (6 + l3).toNatClampNeg) < 0 then
            f_X12_count_60_236 n l2 (l3 + 1) g
          else
            f_X12_count_60_236 n (l2 ||| ((1 : Int32) <<< (l3 &&& 31))) (l3 + 1) g))
def f_X12_count_60_277  : Nat → Int32 → Int32 → xG → Option (Int32 × xG)
  | 0, _, _, _ => none
  | n + 1, l2, l3, g =>
    xg (¬ ((g.1 60 18) < 0 ∨ 2 ≤ (g.1 60 18).toNatClampNeg)) (
      if (g.1 71 (g.1 60 18).toNatClampNeg) ≤ l3 then
        some (l2, g)
      else
        (f_X12_isOpen_60 l3 g).bind fun w6 =>
        if w6 = 0 then
          f_X12_count_60_277 n l2 (l3 + 1) g
        else
          xg (¬ (((10 * (g.1 60 18)) + l3) < 0 ∨ 20 ≤ ((10 * (g.1 60 18)) + l3).toNatClampNeg)) (
            f_X12_count_60_277 n (l2 + (g.1 74 ((10 * (g.1 60 18)) + l3).toNatClampNeg)) (l3 + 1) g))
def f_X12_count_60 (p1 : Int32) (g : xG) : Option (Int32 × xG) :=
  (f_X12_copies_60 g).bind fun w1 =>
  if p1 = 0 then
    xg (¬ ((w1.1 60 18) < 0 ∨ 2 ≤ (w1.1 60 18).toNatClampNeg)) (
      some (w1.1 70 (w1.1 60 18).toNatClampNeg, w1))
  else
    if p1 = 1 then
      xg (¬ ((w1.1 60 18) < 0 ∨ 2 ≤ (w1.1 60 18).toNatClampNeg)) (
        some (w1.1 71 (w1.1 60 18).toNatClampNeg, w1))
    else
      if p1 = 2 then
        xg (¬ ((w1.1 60 18) < 0 ∨ 2 ≤ (w1.1 60 18).toNatClampNeg)) (
          some (w1.1 75 (w1.1 60 18).toNatClampNeg, w1))
      else
        if p1 = 3 then
          xg (¬ ((37 : Int32) < 0 ∨ 40 ≤ (37 : Int32).toNatClampNeg)) (
            some (w1.1 94 (37 : Int32).toNatClampNeg, w1))
        else
          if p1 = 4 then
            xg (¬ ((38 : Int32) < 0 ∨ 40 ≤ (38 : Int32).toNatClampNeg)) (
              some (w1.1 94 (38 : Int32).toNatClampNeg, w1))
          else
            if p1 = 5 then
              xg (¬ ((39 : Int32) < 0 ∨ 40 ≤ (39 : Int32).toNatClampNeg)) (
                some (w1.1 94 (39 : Int32).toNatClampNeg, w1))
            else
              if p1 = 6 then
                (f_X12_barredBits_60 w1).bind fun w2 =>
                some (w2, w1)
              else
                if p1 = 7 then
                  xg (¬ ((36 : Int32) < 0 ∨ 40 ≤ (36 : Int32).toNatClampNeg)) (
                    some (w1.1 94 (36 : Int32).toNatClampNeg, w1))
                else
                  if p1 = 8 then
                    some (w1.1 60 2, w1)
                  else
                    if p1 = 9 then
                      some (w1.1 60 55, w1)
                    else
                      if p1 = 10 then
                        some (w1.1 60 58, w1)
                      else
                        if p1 = 11 then
                          xg (¬ ((0 : Int32) < 0 ∨ 3 ≤ (0 : Int32).toNatClampNeg)) (
                            if (w1.1 101 (0 : Int32).toNatClampNeg) = 0 then
                              f_X12_count_60_184 0 w1
                            else
                              f_X12_count_60_184 1 w1)
                        else
                          if p1 = 12 then
                            (f_X12_thereBits_60 w1).bind fun w3 =>
                            some (w3, w1)
                          else
                            if p1 = 13 then
                              (f_X12_sumNow_60 18 w1).bind fun w4 =>
                              some (w4, w1)
                            else
                              if p1 = 14 then
                                (f_X12_sumNow_60 24 w1).bind fun w5 =>
                                some (w5, w1)
                              else
                                if p1 = 15 then
                                  f_X12_count_60_236 xN 0 0 w1
                                else
                                  if p1 = 16 then
                                    f_X12_count_60_277 xN 0 0 w1
                                  else
                                    some ((-1), w1)
set_option maxRecDepth 20000 in
theorem t_X12_count_60_198 {k : xK} {S : List xSh} {out : Int32 × xG} (hS : xpf SH2 S) (A : xAt k mX12_count.2.1 12 SH2 S) (hR : xRet k 0 0 S (fun r g' => r = some (.int out.1) ∧ g' = out.2) mX12_count.2.2.2) (hrm : xrm k = { frames := 2, cells := 0, slots := 0, locals := 44 }) (hz : xhs k = xb0 k + S.length)   : ∀ (s0 : Int32) (s1 : Int32) (g : xG), f_X12_count_60_198 s0 s1 g = some out → xW k S 0 0 198 [some (.ref 60), none, none, none] [.int s0, .int s1] g := by
  intro s0 s1 g H
  have H : (xg (¬ ((2 : Int32) < 0 ∨ 3 ≤ (2 : Int32).toNatClampNeg)) (
  if (g.1 101 (2 : Int32).toNatClampNeg) = 0 then
    some ((s1 + s0) + 0, g)
  else
    some ((s1 + s0) + 1, g))) = some out := H
  refine xb A [(.iadd, 1, 0, 0, .null), (.aload_n 0, 1, 0, 0, .null), (.getfield 140, 3, 60, 62, .ref 101), (.iconst 2, 1, 0, 0, .int 2)] (pc' := 204) (ls' := [some (.ref 60), none, none, none]) (st' := [.int 2, .ref 101, .int (s1 + s0)]) (g' := g) (by decide +kernel) rfl ?_
  obtain ⟨h24, H⟩ := xg_elim H
  refine xzald A (nxt := 205) (by decide +kernel) (hS _ _ sh_101) h24 ?_
  show xW k S 0 0 205 [some (.ref 60), none, none, none] [.int (g.1 101 (2 : Int32).toNatClampNeg), .int (s1 + s0)] g
  refine xif_eq A (7) 212 208 (by decide +kernel) (fun h25 => ?_) (fun h25 => ?_)
  · rw [if_pos h25] at H
    refine xb A [(.iconst 0, 1, 0, 0, .int 0), (.iadd, 1, 0, 0, .null)] (pc' := 214) (ls' := [some (.ref 60), none, none, none]) (st' := [.int ((s1 + s0) + 0)]) (g' := g) (by decide +kernel) rfl ?_
    obtain rfl := Option.some.inj H
    exact xret_i A hR hz (by decide +kernel) rfl ⟨rfl, rfl⟩
  · rw [if_neg h25] at H
    refine xb A [(.iconst 1, 1, 0, 0, .int 1)] (pc' := 209) (ls' := [some (.ref 60), none, none, none]) (st' := [.int 1, .int (s1 + s0)]) (g' := g) (by decide +kernel) rfl ?_
    refine xgoto A (4) 213 (by decide +kernel) ?_
    refine xb A [(.iadd, 1, 0, 0, .null)] (pc' := 214) (ls' := [some (.ref 60), none, none, none]) (st' := [.int ((s1 + s0) + 1)]) (g' := g) (by decide +kernel) rfl ?_
    obtain rfl := Option.some.inj H
    exact xret_i A hR hz (by decide +kernel) rfl ⟨rfl, rfl⟩
theorem fr_X12_count_60_198   : ∀ (s0 : Int32) (s1 : Int32) (g : xG) (out : Int32 × xG), f_X12_count_60_198 s0 s1 g = some out → xfrm fp_X12_count_60 g (out.2) := by
  intro s0 s1 g out H
  have H : (xg (¬ ((2 : Int32) < 0 ∨ 3 ≤ (2 : Int32).toNatClampNeg)) (
  if (g.1 101 (2 : Int32).toNatClampNeg) = 0 then
    some ((s1 + s0) + 0, g)
  else
    some ((s1 + s0) + 1, g))) = some out := H
  obtain ⟨h24, H⟩ := xg_elim H
  by_cases h25 : (g.1 101 (2 : Int32).toNatClampNeg) = 0
  · rw [if_pos h25] at H
    obtain rfl := Option.some.inj H
    exact xfrm.rf
  · rw [if_neg h25] at H
    obtain rfl := Option.some.inj H
    exact xfrm.rf
set_option maxRecDepth 20000 in
theorem t_X12_count_60_184 {k : xK} {S : List xSh} {out : Int32 × xG} (hS : xpf SH2 S) (A : xAt k mX12_count.2.1 12 SH2 S) (hR : xRet k 0 0 S (fun r g' => r = some (.int out.1) ∧ g' = out.2) mX12_count.2.2.2) (hrm : xrm k = { frames := 2, cells := 0, slots := 0, locals := 44 }) (hz : xhs k = xb0 k + S.length)   : ∀ (s0 : Int32) (g : xG), f_X12_count_60_184 s0 g = some out → xW k S 0 0 184 [some (.ref 60), none, none, none] [.int s0] g := by
  intro s0 g H
  have H : (xg (¬ ((1 : Int32) < 0 ∨ 3 ≤ (1 : Int32).toNatClampNeg)) (
  if (g.1 101 (1 : Int32).toNatClampNeg) = 0 then
    f_X12_count_60_198 0 s0 g
  else
    f_X12_count_60_198 1 s0 g)) = some out := H
  refine xb A [(.aload_n 0, 1, 0, 0, .null), (.getfield 140, 3, 60, 62, .ref 101), (.iconst 1, 1, 0, 0, .int 1)] (pc' := 189) (ls' := [some (.ref 60), none, none, none]) (st' := [.int 1, .ref 101, .int s0]) (g' := g) (by decide +kernel) rfl ?_
  obtain ⟨h22, H⟩ := xg_elim H
  refine xzald A (nxt := 190) (by decide +kernel) (hS _ _ sh_101) h22 ?_
  show xW k S 0 0 190 [some (.ref 60), none, none, none] [.int (g.1 101 (1 : Int32).toNatClampNeg), .int s0] g
  refine xif_eq A (7) 197 193 (by decide +kernel) (fun h23 => ?_) (fun h23 => ?_)
  · rw [if_pos h23] at H
    refine xb A [(.iconst 0, 1, 0, 0, .int 0)] (pc' := 198) (ls' := [some (.ref 60), none, none, none]) (st' := [.int 0, .int s0]) (g' := g) (by decide +kernel) rfl ?_
    exact t_X12_count_60_198 hS A hR hrm hz _ _ _ H
  · rw [if_neg h23] at H
    refine xb A [(.iconst 1, 1, 0, 0, .int 1)] (pc' := 194) (ls' := [some (.ref 60), none, none, none]) (st' := [.int 1, .int s0]) (g' := g) (by decide +kernel) rfl ?_
    refine xgoto A (4) 198 (by decide +kernel) ?_
    exact t_X12_count_60_198 hS A hR hrm hz _ _ _ H
theorem fr_X12_count_60_184   : ∀ (s0 : Int32) (g : xG) (out : Int32 × xG), f_X12_count_60_184 s0 g = some out → xfrm fp_X12_count_60 g (out.2) := by
  intro s0 g out H
  have H : (xg (¬ ((1 : Int32) < 0 ∨ 3 ≤ (1 : Int32).toNatClampNeg)) (
  if (g.1 101 (1 : Int32).toNatClampNeg) = 0 then
    f_X12_count_60_198 0 s0 g
  else
    f_X12_count_60_198 1 s0 g)) = some out := H
  obtain ⟨h22, H⟩ := xg_elim H
  by_cases h23 : (g.1 101 (1 : Int32).toNatClampNeg) = 0
  · rw [if_pos h23] at H
    exact xfrm.tr xfrm.rf (fr_X12_count_60_198 _ _ _ _ H) rfl
  · rw [if_neg h23] at H
    exact xfrm.tr xfrm.rf (fr_X12_count_60_198 _ _ _ _ H) rfl
set_option maxRecDepth 20000 in
theorem t_X12_count_60_236 {k : xK} {S : List xSh} {out : Int32 × xG} (hS : xpf SH2 S) (A : xAt k mX12_count.2.1 12 SH2 S) (hR : xRet k 0 0 S (fun r g' => r = some (.int out.1) ∧ g' = out.2) mX12_count.2.2.2) (hrm : xrm k = { frames := 2, cells := 0, slots := 0, locals := 44 }) (hz : xhs k = xb0 k + S.length)   : ∀ (n : Nat) (l2 : Int32) (l3 : Int32) (g : xG), f_X12_count_60_236 n l2 l3 g = some out → xW k S 0 0 236 [some (.ref 60), none, some (.int l2), some (.int l3)] [] g := by
  intro n
  induction n with
  | zero => intro l2 l3 g H; exact absurd H (by simp [f_X12_count_60_236])
  | succ n ih =>
    intro l2 l3 g H
    have H : (xg (¬ ((g.1 60 18) < 0 ∨ 2 ≤ (g.1 60 18).toNatClampNeg)) (
  if (g.1 75 (g.1 60 18).toNatClampNeg) ≤ l3 then
    some (l2, g)
  else
    xg (¬ ((6 + l3) < 0 ∨ 40 ≤ (6 + l3).toNatClampNeg)) (
      if (g.1 94 (6 + l3).toNatClampNeg) < 0 then
        f_X12_count_60_236 n l2 (l3 + 1) g
      else
        f_X12_count_60_236 n (l2 ||| ((1 : Int32) <<< (l3 &&& 31))) (l3 + 1) g))) = some out := H
    refine xb A [(.iload_n 3, 1, 0, 0, .null), (.aload_n 0, 1, 0, 0, .null), (.getfield 61, 3, 60, 28, .ref 75), (.aload_n 0, 1, 0, 0, .null), (.getfield 227, 3, 60, 18, .int 0)] (pc' := 245) (ls' := [some (.ref 60), none, some (.int l2), some (.int l3)]) (st' := [.int (g.1 60 18), .ref 75, .int l3]) (g' := g) (by decide +kernel) rfl ?_
    obtain ⟨h30, H⟩ := xg_elim H
    refine xiald A (nxt := 246) (by decide +kernel) (hS _ _ sh_75) h30 ?_
    show xW k S 0 0 246 [some (.ref 60), none, some (.int l2), some (.int l3)] [.int (g.1 75 (g.1 60 18).toNatClampNeg), .int l3] g
    refine xic_ge A (27) 273 249 (by decide +kernel) (fun h31 => ?_) (fun h31 => ?_)
    · rw [if_pos h31] at H
      refine xb A [(.iload_n 2, 1, 0, 0, .null)] (pc' := 274) (ls' := [some (.ref 60), none, some (.int l2), some (.int l3)]) (st' := [.int l2]) (g' := g) (by decide +kernel) rfl ?_
      obtain rfl := Option.some.inj H
      exact xret_i A hR hz (by decide +kernel) rfl ⟨rfl, rfl⟩
    · rw [if_neg h31] at H
      refine xb A [(.aload_n 0, 1, 0, 0, .null), (.getfield 119, 3, 60, 51, .ref 94), (.bipush 6, 2, 0, 0, .int 6), (.iload_n 3, 1, 0, 0, .null), (.iadd, 1, 0, 0, .null)] (pc' := 257) (ls' := [some (.ref 60), none, some (.int l2), some (.int l3)]) (st' := [.int (6 + l3), .ref 94]) (g' := g) (by decide +kernel) rfl ?_
      obtain ⟨h32, H⟩ := xg_elim H
      refine xiald A (nxt := 258) (by decide +kernel) (hS _ _ sh_94) h32 ?_
      show xW k S 0 0 258 [some (.ref 60), none, some (.int l2), some (.int l3)] [.int (g.1 94 (6 + l3).toNatClampNeg)] g
      refine xif_lt A (9) 267 261 (by decide +kernel) (fun h33 => ?_) (fun h33 => ?_)
      · rw [if_pos h33] at H
        refine xb A [(.iinc 3 1, 3, 0, 0, .null)] (pc' := 270) (ls' := [some (.ref 60), none, some (.int l2), some (.int (l3 + 1))]) (st' := []) (g' := g) (by decide +kernel) rfl ?_
        refine xgoto A (-34) 236 (by decide +kernel) ?_
        exact ih _ _ _ H
      · rw [if_neg h33] at H
        refine xb A [(.iload_n 2, 1, 0, 0, .null), (.iconst 1, 1, 0, 0, .int 1), (.iload_n 3, 1, 0, 0, .null), (.ishl, 1, 0, 0, .null), (.ior, 1, 0, 0, .null), (.istore_n 2, 1, 0, 0, .null), (.iinc 3 1, 3, 0, 0, .null)] (pc' := 270) (ls' := [some (.ref 60), none, some (.int (l2 ||| ((1 : Int32) <<< (l3 &&& 31)))), some (.int (l3 + 1))]) (st' := []) (g' := g) (by decide +kernel) rfl ?_
        refine xgoto A (-34) 236 (by decide +kernel) ?_
        exact ih _ _ _ H
theorem fr_X12_count_60_236   : ∀ (n : Nat) (l2 : Int32) (l3 : Int32) (g : xG) (out : Int32 × xG), f_X12_count_60_236 n l2 l3 g = some out → xfrm fp_X12_count_60 g (out.2) := by
  intro n
  induction n with
  | zero => intro l2 l3 g out H; exact absurd H (by simp [f_X12_count_60_236])
  | succ n ih =>
    intro l2 l3 g out H
    have H : (xg (¬ ((g.1 60 18) < 0 ∨ 2 ≤ (g.1 60 18).toNatClampNeg)) (
  if (g.1 75 (g.1 60 18).toNatClampNeg) ≤ l3 then
    some (l2, g)
  else
    xg (¬ ((6 + l3) < 0 ∨ 40 ≤ (6 + l3).toNatClampNeg)) (
      if (g.1 94 (6 + l3).toNatClampNeg) < 0 then
        f_X12_count_60_236 n l2 (l3 + 1) g
      else
        f_X12_count_60_236 n (l2 ||| ((1 : Int32) <<< (l3 &&& 31))) (l3 + 1) g))) = some out := H
    obtain ⟨h30, H⟩ := xg_elim H
    by_cases h31 : (g.1 75 (g.1 60 18).toNatClampNeg) ≤ l3
    · rw [if_pos h31] at H
      obtain rfl := Option.some.inj H
      exact xfrm.rf
    · rw [if_neg h31] at H
      obtain ⟨h32, H⟩ := xg_elim H
      by_cases h33 : (g.1 94 (6 + l3).toNatClampNeg) < 0
      · rw [if_pos h33] at H
        exact xfrm.tr xfrm.rf (ih _ _ _ _ H) rfl
      · rw [if_neg h33] at H
        exact xfrm.tr xfrm.rf (ih _ _ _ _ H) rfl
set_option maxRecDepth 20000 in
theorem t_X12_count_60_277 {k : xK} {S : List xSh} {out : Int32 × xG} (hS : xpf SH2 S) (A : xAt k mX12_count.2.1 12 SH2 S) (hR : xRet k 0 0 S (fun r g' => r = some (.int out.1) ∧ g' = out.2) mX12_count.2.2.2) (hrm : xrm k = { frames := 2, cells := 0, slots := 0, locals := 44 }) (hz : xhs k = xb0 k + S.length)   : ∀ (n : Nat) (l2 : Int32) (l3 : Int32) (g : xG), f_X12_count_60_277 n l2 l3 g = some out → xW k S 0 0 277 [some (.ref 60), none, some (.int l2), some (.int l3)] [] g := by
  intro n
  induction n with
  | zero => intro l2 l3 g H; exact absurd H (by simp [f_X12_count_60_277])
  | succ n ih =>
    intro l2 l3 g H
    have H : (xg (¬ ((g.1 60 18) < 0 ∨ 2 ≤ (g.1 60 18).toNatClampNeg)) (
  if (g.1 71 (g.1 60 18).toNatClampNeg) ≤ l3 then
    some (l2, g)
  else
    (f_X12_isOpen_60 l3 g).bind fun w6 =>
    if w6 = 0 then
      f_X12_count_60_277 n l2 (l3 + 1) g
    else
      xg (¬ (((10 * (g.1 60 18)) + l3) < 0 ∨ 20 ≤ ((10 * (g.1 60 18)) + l3).toNatClampNeg)) (
        f_X12_count_60_277 n (l2 + (g.1 74 ((10 * (g.1 60 18)) + l3).toNatClampNeg)) (l3 + 1) g))) = some out := H
    refine xb A [(.iload_n 3, 1, 0, 0, .null), (.aload_n 0, 1, 0, 0, .null), (.getfield 49, 3, 60, 24, .ref 71), (.aload_n 0, 1, 0, 0, .null), (.getfield 227, 3, 60, 18, .int 0)] (pc' := 286) (ls' := [some (.ref 60), none, some (.int l2), some (.int l3)]) (st' := [.int (g.1 60 18), .ref 71, .int l3]) (g' := g) (by decide +kernel) rfl ?_
    obtain ⟨h35, H⟩ := xg_elim H
    refine xiald A (nxt := 287) (by decide +kernel) (hS _ _ sh_71) h35 ?_
    show xW k S 0 0 287 [some (.ref 60), none, some (.int l2), some (.int l3)] [.int (g.1 71 (g.1 60 18).toNatClampNeg), .int l3] g
    refine xic_ge A (34) 321 290 (by decide +kernel) (fun h36 => ?_) (fun h36 => ?_)
    · rw [if_pos h36] at H
      refine xb A [(.iload_n 2, 1, 0, 0, .null)] (pc' := 322) (ls' := [some (.ref 60), none, some (.int l2), some (.int l3)]) (st' := [.int l2]) (g' := g) (by decide +kernel) rfl ?_
      obtain rfl := Option.some.inj H
      exact xret_i A hR hz (by decide +kernel) rfl ⟨rfl, rfl⟩
    · rw [if_neg h36] at H
      refine xb A [(.aload_n 0, 1, 0, 0, .null), (.iload_n 3, 1, 0, 0, .null)] (pc' := 292) (ls' := [some (.ref 60), none, some (.int l2), some (.int l3)]) (st' := [.int l3, .ref 60]) (g' := g) (by decide +kernel) rfl ?_
      obtain ⟨w6, e6, H⟩ := xbind H
      refine xcallV A (ix := 372) (nxt := 295) hrm hz [.int l3] [] 1711 (c_X12_isOpen_60 hS _ e6) ok_X12_isOpen (by decide +kernel) rfl (fun r g1 hq => ?_)
      rw [hq.1, hq.2]
      show xW k S 0 0 295 [some (.ref 60), none, some (.int l2), some (.int l3)] [.int w6] g
      refine xif_eq A (20) 315 298 (by decide +kernel) (fun h37 => ?_) (fun h37 => ?_)
      · rw [if_pos h37] at H
        refine xb A [(.iinc 3 1, 3, 0, 0, .null)] (pc' := 318) (ls' := [some (.ref 60), none, some (.int l2), some (.int (l3 + 1))]) (st' := []) (g' := g) (by decide +kernel) rfl ?_
        refine xgoto A (-41) 277 (by decide +kernel) ?_
        exact ih _ _ _ H
      · rw [if_neg h37] at H
        refine xb A [(.iload_n 2, 1, 0, 0, .null), (.aload_n 0, 1, 0, 0, .null), (.getfield 58, 3, 60, 27, .ref 74), (.bipush 10, 2, 0, 0, .int 10), (.aload_n 0, 1, 0, 0, .null), (.getfield 227, 3, 60, 18, .int 0), (.imul, 1, 0, 0, .null), (.iload_n 3, 1, 0, 0, .null), (.iadd, 1, 0, 0, .null)] (pc' := 312) (ls' := [some (.ref 60), none, some (.int l2), some (.int l3)]) (st' := [.int ((10 * (g.1 60 18)) + l3), .ref 74, .int l2]) (g' := g) (by decide +kernel) rfl ?_
        obtain ⟨h38, H⟩ := xg_elim H
        refine xiald A (nxt := 313) (by decide +kernel) (hS _ _ sh_74) h38 ?_
        show xW k S 0 0 313 [some (.ref 60), none, some (.int l2), some (.int l3)] [.int (g.1 74 ((10 * (g.1 60 18)) + l3).toNatClampNeg), .int l2] g
        refine xb A [(.iadd, 1, 0, 0, .null), (.istore_n 2, 1, 0, 0, .null), (.iinc 3 1, 3, 0, 0, .null)] (pc' := 318) (ls' := [some (.ref 60), none, some (.int (l2 + (g.1 74 ((10 * (g.1 60 18)) + l3).toNatClampNeg))), some (.int (l3 + 1))]) (st' := []) (g' := g) (by decide +kernel) rfl ?_
        refine xgoto A (-41) 277 (by decide +kernel) ?_
        exact ih _ _ _ H
theorem fr_X12_count_60_277   : ∀ (n : Nat) (l2 : Int32) (l3 : Int32) (g : xG) (out : Int32 × xG), f_X12_count_60_277 n l2 l3 g = some out → xfrm fp_X12_count_60 g (out.2) := by
  intro n
  induction n with
  | zero => intro l2 l3 g out H; exact absurd H (by simp [f_X12_count_60_277])
  | succ n ih =>
    intro l2 l3 g out H
    have H : (xg (¬ ((g.1 60 18) < 0 ∨ 2 ≤ (g.1 60 18).toNatClampNeg)) (
  if (g.1 71 (g.1 60 18).toNatClampNeg) ≤ l3 then
    some (l2, g)
  else
    (f_X12_isOpen_60 l3 g).bind fun w6 =>
    if w6 = 0 then
      f_X12_count_60_277 n l2 (l3 + 1) g
    else
      xg (¬ (((10 * (g.1 60 18)) + l3) < 0 ∨ 20 ≤ ((10 * (g.1 60 18)) + l3).toNatClampNeg)) (
        f_X12_count_60_277 n (l2 + (g.1 74 ((10 * (g.1 60 18)) + l3).toNatClampNeg)) (l3 + 1) g))) = some out := H
    obtain ⟨h35, H⟩ := xg_elim H
    by_cases h36 : (g.1 71 (g.1 60 18).toNatClampNeg) ≤ l3
    · rw [if_pos h36] at H
      obtain rfl := Option.some.inj H
      exact xfrm.rf
    · rw [if_neg h36] at H
      obtain ⟨w6, e6, H⟩ := xbind H
      by_cases h37 : w6 = 0
      · rw [if_pos h37] at H
        exact xfrm.tr xfrm.rf (ih _ _ _ _ H) rfl
      · rw [if_neg h37] at H
        obtain ⟨h38, H⟩ := xg_elim H
        exact xfrm.tr xfrm.rf (ih _ _ _ _ H) rfl
set_option maxRecDepth 20000 in
theorem c_X12_count_60 {S : List xSh} (hS : xpf SH2 S) {g : xG} {p1 : Int32} (out : Int32 × xG) (H : f_X12_count_60 p1 g = some out) : xC mX12_count 2 44 0 0 S [.ref 60, .int p1] g S (fun r g' => r = some (.int out.1) ∧ g' = out.2) := by
  have H : ((f_X12_copies_60 g).bind fun w1 =>
if p1 = 0 then
  xg (¬ ((w1.1 60 18) < 0 ∨ 2 ≤ (w1.1 60 18).toNatClampNeg)) (
    some (w1.1 70 (w1.1 60 18).toNatClampNeg, w1))
else
  if p1 = 1 then
    xg (¬ ((w1.1 60 18) < 0 ∨ 2 ≤ (w1.1 60 18).toNatClampNeg)) (
      some (w1.1 71 (w1.1 60 18).toNatClampNeg, w1))
  else
    if p1 = 2 then
      xg (¬ ((w1.1 60 18) < 0 ∨ 2 ≤ (w1.1 60 18).toNatClampNeg)) (
        some (w1.1 75 (w1.1 60 18).toNatClampNeg, w1))
    else
      if p1 = 3 then
        xg (¬ ((37 : Int32) < 0 ∨ 40 ≤ (37 : Int32).toNatClampNeg)) (
          some (w1.1 94 (37 : Int32).toNatClampNeg, w1))
      else
        if p1 = 4 then
          xg (¬ ((38 : Int32) < 0 ∨ 40 ≤ (38 : Int32).toNatClampNeg)) (
            some (w1.1 94 (38 : Int32).toNatClampNeg, w1))
        else
          if p1 = 5 then
            xg (¬ ((39 : Int32) < 0 ∨ 40 ≤ (39 : Int32).toNatClampNeg)) (
              some (w1.1 94 (39 : Int32).toNatClampNeg, w1))
          else
            if p1 = 6 then
              (f_X12_barredBits_60 w1).bind fun w2 =>
              some (w2, w1)
            else
              if p1 = 7 then
                xg (¬ ((36 : Int32) < 0 ∨ 40 ≤ (36 : Int32).toNatClampNeg)) (
                  some (w1.1 94 (36 : Int32).toNatClampNeg, w1))
              else
                if p1 = 8 then
                  some (w1.1 60 2, w1)
                else
                  if p1 = 9 then
                    some (w1.1 60 55, w1)
                  else
                    if p1 = 10 then
                      some (w1.1 60 58, w1)
                    else
                      if p1 = 11 then
                        xg (¬ ((0 : Int32) < 0 ∨ 3 ≤ (0 : Int32).toNatClampNeg)) (
                          if (w1.1 101 (0 : Int32).toNatClampNeg) = 0 then
                            f_X12_count_60_184 0 w1
                          else
                            f_X12_count_60_184 1 w1)
                      else
                        if p1 = 12 then
                          (f_X12_thereBits_60 w1).bind fun w3 =>
                          some (w3, w1)
                        else
                          if p1 = 13 then
                            (f_X12_sumNow_60 18 w1).bind fun w4 =>
                            some (w4, w1)
                          else
                            if p1 = 14 then
                              (f_X12_sumNow_60 24 w1).bind fun w5 =>
                              some (w5, w1)
                            else
                              if p1 = 15 then
                                f_X12_count_60_236 xN 0 0 w1
                              else
                                if p1 = 16 then
                                  f_X12_count_60_277 xN 0 0 w1
                                else
                                  some ((-1), w1)) = some out := H
  refine xC.of 12 SH2 [some (.ref 60), some (.int p1), none, none] hS (by decide +kernel) rfl (fun _ _ => Nat.le_of_ble_eq_true rfl) (fun _ _ => rfl) ?_
  intro k A hR hrm hz
  refine xb A [(.aload_n 0, 1, 0, 0, .null)] (pc' := 1) (ls' := [some (.ref 60), some (.int p1), none, none]) (st' := [.ref 60]) (g' := g) (by decide +kernel) rfl ?_
  obtain ⟨w1, e1, H⟩ := xbind H
  refine xcallV A (ix := 320) (nxt := 4) hrm hz [] [] 1699 (c_X12_copies_60 hS _ e1) ok_X12_copies (by decide +kernel) rfl (fun r g1 hq => ?_)
  rw [hq.1, hq.2]
  show xW k S 0 0 4 [some (.ref 60), some (.int p1), none, none] [] w1
  refine xb A [(.iconst 0, 1, 0, 0, .int 0), (.istore_n 2, 1, 0, 0, .null), (.iload_n 1, 1, 0, 0, .null)] (pc' := 7) (ls' := [some (.ref 60), some (.int p1), some (.int 0), none]) (st' := [.int p1]) (g' := w1) (by decide +kernel) rfl ?_
  by_cases h1 : p1 = 0
  · rw [if_pos h1] at H
    refine xtabIn A (dflt := 316) (lo := 0) (hi := 16) (off := 81) (offs := #[(81), (91), (101), (111), (119), (127), (135), (140), (148), (153), (158), (163), (208), (213), (220), (227), (268)]) (len := 81) (tgt := 88) (0) (by rw [h1]; rfl) (by decide +kernel) ?_
    refine xb A [(.aload_n 0, 1, 0, 0, .null), (.getfield 46, 3, 60, 23, .ref 70), (.aload_n 0, 1, 0, 0, .null), (.getfield 227, 3, 60, 18, .int 0)] (pc' := 96) (ls' := [some (.ref 60), some (.int p1), some (.int 0), none]) (st' := [.int (w1.1 60 18), .ref 70]) (g' := w1) (by decide +kernel) rfl ?_
    obtain ⟨h2, H⟩ := xg_elim H
    refine xiald A (nxt := 97) (by decide +kernel) (hS _ _ sh_70) h2 ?_
    show xW k S 0 0 97 [some (.ref 60), some (.int p1), some (.int 0), none] [.int (w1.1 70 (w1.1 60 18).toNatClampNeg)] w1
    obtain rfl := Option.some.inj H
    exact xret_i A hR hz (by decide +kernel) rfl ⟨rfl, rfl⟩
  · rw [if_neg h1] at H
    by_cases h3 : p1 = 1
    · rw [if_pos h3] at H
      refine xtabIn A (dflt := 316) (lo := 0) (hi := 16) (off := 91) (offs := #[(81), (91), (101), (111), (119), (127), (135), (140), (148), (153), (158), (163), (208), (213), (220), (227), (268)]) (len := 81) (tgt := 98) (1) (by rw [h3]; rfl) (by decide +kernel) ?_
      refine xb A [(.aload_n 0, 1, 0, 0, .null), (.getfield 49, 3, 60, 24, .ref 71), (.aload_n 0, 1, 0, 0, .null), (.getfield 227, 3, 60, 18, .int 0)] (pc' := 106) (ls' := [some (.ref 60), some (.int p1), some (.int 0), none]) (st' := [.int (w1.1 60 18), .ref 71]) (g' := w1) (by decide +kernel) rfl ?_
      obtain ⟨h4, H⟩ := xg_elim H
      refine xiald A (nxt := 107) (by decide +kernel) (hS _ _ sh_71) h4 ?_
      show xW k S 0 0 107 [some (.ref 60), some (.int p1), some (.int 0), none] [.int (w1.1 71 (w1.1 60 18).toNatClampNeg)] w1
      obtain rfl := Option.some.inj H
      exact xret_i A hR hz (by decide +kernel) rfl ⟨rfl, rfl⟩
    · rw [if_neg h3] at H
      by_cases h5 : p1 = 2
      · rw [if_pos h5] at H
        refine xtabIn A (dflt := 316) (lo := 0) (hi := 16) (off := 101) (offs := #[(81), (91), (101), (111), (119), (127), (135), (140), (148), (153), (158), (163), (208), (213), (220), (227), (268)]) (len := 81) (tgt := 108) (2) (by rw [h5]; rfl) (by decide +kernel) ?_
        refine xb A [(.aload_n 0, 1, 0, 0, .null), (.getfield 61, 3, 60, 28, .ref 75), (.aload_n 0, 1, 0, 0, .null), (.getfield 227, 3, 60, 18, .int 0)] (pc' := 116) (ls' := [some (.ref 60), some (.int p1), some (.int 0), none]) (st' := [.int (w1.1 60 18), .ref 75]) (g' := w1) (by decide +kernel) rfl ?_
        obtain ⟨h6, H⟩ := xg_elim H
        refine xiald A (nxt := 117) (by decide +kernel) (hS _ _ sh_75) h6 ?_
        show xW k S 0 0 117 [some (.ref 60), some (.int p1), some (.int 0), none] [.int (w1.1 75 (w1.1 60 18).toNatClampNeg)] w1
        obtain rfl := Option.some.inj H
        exact xret_i A hR hz (by decide +kernel) rfl ⟨rfl, rfl⟩
      · rw [if_neg h5] at H
        by_cases h7 : p1 = 3
        · rw [if_pos h7] at H
          refine xtabIn A (dflt := 316) (lo := 0) (hi := 16) (off := 111) (offs := #[(81), (91), (101), (111), (119), (127), (135), (140), (148), (153), (158), (163), (208), (213), (220), (227), (268)]) (len := 81) (tgt := 118) (3) (by rw [h7]; rfl) (by decide +kernel) ?_
          refine xb A [(.aload_n 0, 1, 0, 0, .null), (.getfield 119, 3, 60, 51, .ref 94), (.bipush 37, 2, 0, 0, .int 37)] (pc' := 124) (ls' := [some (.ref 60), some (.int p1), some (.int 0), none]) (st' := [.int 37, .ref 94]) (g' := w1) (by decide +kernel) rfl ?_
          obtain ⟨h8, H⟩ := xg_elim H
          refine xiald A (nxt := 125) (by decide +kernel) (hS _ _ sh_94) h8 ?_
          show xW k S 0 0 125 [some (.ref 60), some (.int p1), some (.int 0), none] [.int (w1.1 94 (37 : Int32).toNatClampNeg)] w1
          obtain rfl := Option.some.inj H
          exact xret_i A hR hz (by decide +kernel) rfl ⟨rfl, rfl⟩
        · rw [if_neg h7] at H
          by_cases h9 : p1 = 4
          · rw [if_pos h9] at H
            refine xtabIn A (dflt := 316) (lo := 0) (hi := 16) (off := 119) (offs := #[(81), (91), (101), (111), (119), (127), (135), (140), (148), (153), (158), (163), (208), (213), (220), (227), (268)]) (len := 81) (tgt := 126) (4) (by rw [h9]; rfl) (by decide +kernel) ?_
            refine xb A [(.aload_n 0, 1, 0, 0, .null), (.getfield 119, 3, 60, 51, .ref 94), (.bipush 38, 2, 0, 0, .int 38)] (pc' := 132) (ls' := [some (.ref 60), some (.int p1), some (.int 0), none]) (st' := [.int 38, .ref 94]) (g' := w1) (by decide +kernel) rfl ?_
            obtain ⟨h10, H⟩ := xg_elim H
            refine xiald A (nxt := 133) (by decide +kernel) (hS _ _ sh_94) h10 ?_
            show xW k S 0 0 133 [some (.ref 60), some (.int p1), some (.int 0), none] [.int (w1.1 94 (38 : Int32).toNatClampNeg)] w1
            obtain rfl := Option.some.inj H
            exact xret_i A hR hz (by decide +kernel) rfl ⟨rfl, rfl⟩
          · rw [if_neg h9] at H
            by_cases h11 : p1 = 5
            · rw [if_pos h11] at H
              refine xtabIn A (dflt := 316) (lo := 0) (hi := 16) (off := 127) (offs := #[(81), (91), (101), (111), (119), (127), (135), (140), (148), (153), (158), (163), (208), (213), (220), (227), (268)]) (len := 81) (tgt := 134) (5) (by rw [h11]; rfl) (by decide +kernel) ?_
              refine xb A [(.aload_n 0, 1, 0, 0, .null), (.getfield 119, 3, 60, 51, .ref 94), (.bipush 39, 2, 0, 0, .int 39)] (pc' := 140) (ls' := [some (.ref 60), some (.int p1), some (.int 0), none]) (st' := [.int 39, .ref 94]) (g' := w1) (by decide +kernel) rfl ?_
              obtain ⟨h12, H⟩ := xg_elim H
              refine xiald A (nxt := 141) (by decide +kernel) (hS _ _ sh_94) h12 ?_
              show xW k S 0 0 141 [some (.ref 60), some (.int p1), some (.int 0), none] [.int (w1.1 94 (39 : Int32).toNatClampNeg)] w1
              obtain rfl := Option.some.inj H
              exact xret_i A hR hz (by decide +kernel) rfl ⟨rfl, rfl⟩
            · rw [if_neg h11] at H
              by_cases h13 : p1 = 6
              · rw [if_pos h13] at H
                refine xtabIn A (dflt := 316) (lo := 0) (hi := 16) (off := 135) (offs := #[(81), (91), (101), (111), (119), (127), (135), (140), (148), (153), (158), (163), (208), (213), (220), (227), (268)]) (len := 81) (tgt := 142) (6) (by rw [h13]; rfl) (by decide +kernel) ?_
                refine xb A [(.aload_n 0, 1, 0, 0, .null)] (pc' := 143) (ls' := [some (.ref 60), some (.int p1), some (.int 0), none]) (st' := [.ref 60]) (g' := w1) (by decide +kernel) rfl ?_
                obtain ⟨w2, e2, H⟩ := xbind H
                refine xcallV A (ix := 465) (nxt := 146) hrm hz [] [] 2001 (c_X12_barredBits_60 hS _ e2) ok_X12_barredBits (by decide +kernel) rfl (fun r g1 hq => ?_)
                rw [hq.1, hq.2]
                show xW k S 0 0 146 [some (.ref 60), some (.int p1), some (.int 0), none] [.int w2] w1
                obtain rfl := Option.some.inj H
                exact xret_i A hR hz (by decide +kernel) rfl ⟨rfl, rfl⟩
              · rw [if_neg h13] at H
                by_cases h14 : p1 = 7
                · rw [if_pos h14] at H
                  refine xtabIn A (dflt := 316) (lo := 0) (hi := 16) (off := 140) (offs := #[(81), (91), (101), (111), (119), (127), (135), (140), (148), (153), (158), (163), (208), (213), (220), (227), (268)]) (len := 81) (tgt := 147) (7) (by rw [h14]; rfl) (by decide +kernel) ?_
                  refine xb A [(.aload_n 0, 1, 0, 0, .null), (.getfield 119, 3, 60, 51, .ref 94), (.bipush 36, 2, 0, 0, .int 36)] (pc' := 153) (ls' := [some (.ref 60), some (.int p1), some (.int 0), none]) (st' := [.int 36, .ref 94]) (g' := w1) (by decide +kernel) rfl ?_
                  obtain ⟨h15, H⟩ := xg_elim H
                  refine xiald A (nxt := 154) (by decide +kernel) (hS _ _ sh_94) h15 ?_
                  show xW k S 0 0 154 [some (.ref 60), some (.int p1), some (.int 0), none] [.int (w1.1 94 (36 : Int32).toNatClampNeg)] w1
                  obtain rfl := Option.some.inj H
                  exact xret_i A hR hz (by decide +kernel) rfl ⟨rfl, rfl⟩
                · rw [if_neg h14] at H
                  by_cases h16 : p1 = 8
                  · rw [if_pos h16] at H
                    refine xtabIn A (dflt := 316) (lo := 0) (hi := 16) (off := 148) (offs := #[(81), (91), (101), (111), (119), (127), (135), (140), (148), (153), (158), (163), (208), (213), (220), (227), (268)]) (len := 81) (tgt := 155) (8) (by rw [h16]; rfl) (by decide +kernel) ?_
                    refine xb A [(.aload_n 0, 1, 0, 0, .null), (.getfield 160, 3, 60, 2, .int 0)] (pc' := 159) (ls' := [some (.ref 60), some (.int p1), some (.int 0), none]) (st' := [.int (w1.1 60 2)]) (g' := w1) (by decide +kernel) rfl ?_
                    obtain rfl := Option.some.inj H
                    exact xret_i A hR hz (by decide +kernel) rfl ⟨rfl, rfl⟩
                  · rw [if_neg h16] at H
                    by_cases h17 : p1 = 9
                    · rw [if_pos h17] at H
                      refine xtabIn A (dflt := 316) (lo := 0) (hi := 16) (off := 153) (offs := #[(81), (91), (101), (111), (119), (127), (135), (140), (148), (153), (158), (163), (208), (213), (220), (227), (268)]) (len := 81) (tgt := 160) (9) (by rw [h17]; rfl) (by decide +kernel) ?_
                      refine xb A [(.aload_n 0, 1, 0, 0, .null), (.getfield 245, 3, 60, 55, .int 0)] (pc' := 164) (ls' := [some (.ref 60), some (.int p1), some (.int 0), none]) (st' := [.int (w1.1 60 55)]) (g' := w1) (by decide +kernel) rfl ?_
                      obtain rfl := Option.some.inj H
                      exact xret_i A hR hz (by decide +kernel) rfl ⟨rfl, rfl⟩
                    · rw [if_neg h17] at H
                      by_cases h18 : p1 = 10
                      · rw [if_pos h18] at H
                        refine xtabIn A (dflt := 316) (lo := 0) (hi := 16) (off := 158) (offs := #[(81), (91), (101), (111), (119), (127), (135), (140), (148), (153), (158), (163), (208), (213), (220), (227), (268)]) (len := 81) (tgt := 165) (10) (by rw [h18]; rfl) (by decide +kernel) ?_
                        refine xb A [(.aload_n 0, 1, 0, 0, .null), (.getfield 248, 3, 60, 58, .int 0)] (pc' := 169) (ls' := [some (.ref 60), some (.int p1), some (.int 0), none]) (st' := [.int (w1.1 60 58)]) (g' := w1) (by decide +kernel) rfl ?_
                        obtain rfl := Option.some.inj H
                        exact xret_i A hR hz (by decide +kernel) rfl ⟨rfl, rfl⟩
                      · rw [if_neg h18] at H
                        by_cases h19 : p1 = 11
                        · rw [if_pos h19] at H
                          refine xtabIn A (dflt := 316) (lo := 0) (hi := 16) (off := 163) (offs := #[(81), (91), (101), (111), (119), (127), (135), (140), (148), (153), (158), (163), (208), (213), (220), (227), (268)]) (len := 81) (tgt := 170) (11) (by rw [h19]; rfl) (by decide +kernel) ?_
                          refine xb A [(.aload_n 0, 1, 0, 0, .null), (.getfield 140, 3, 60, 62, .ref 101), (.iconst 0, 1, 0, 0, .int 0)] (pc' := 175) (ls' := [some (.ref 60), some (.int p1), some (.int 0), none]) (st' := [.int 0, .ref 101]) (g' := w1) (by decide +kernel) rfl ?_
                          obtain ⟨h20, H⟩ := xg_elim H
                          refine xzald A (nxt := 176) (by decide +kernel) (hS _ _ sh_101) h20 ?_
                          show xW k S 0 0 176 [some (.ref 60), some (.int p1), some (.int 0), none] [.int (w1.1 101 (0 : Int32).toNatClampNeg)] w1
                          refine xif_eq A (7) 183 179 (by decide +kernel) (fun h21 => ?_) (fun h21 => ?_)
                          · rw [if_pos h21] at H
                            refine xb A [(.iconst 0, 1, 0, 0, .int 0)] (pc' := 184) (ls' := [some (.ref 60), some (.int p1), some (.int 0), none]) (st' := [.int 0]) (g' := w1) (by decide +kernel) rfl ?_
                            refine xweak (ls' := [some (.ref 60), none, none, none]) (by exact ⟨rfl, trivial⟩) ?_
                            exact t_X12_count_60_184 hS A hR hrm hz _ _ H
                          · rw [if_neg h21] at H
                            refine xb A [(.iconst 1, 1, 0, 0, .int 1)] (pc' := 180) (ls' := [some (.ref 60), some (.int p1), some (.int 0), none]) (st' := [.int 1]) (g' := w1) (by decide +kernel) rfl ?_
                            refine xgoto A (4) 184 (by decide +kernel) ?_
                            refine xweak (ls' := [some (.ref 60), none, none, none]) (by exact ⟨rfl, trivial⟩) ?_
                            exact t_X12_count_60_184 hS A hR hrm hz _ _ H
                        · rw [if_neg h19] at H
                          by_cases h26 : p1 = 12
                          · rw [if_pos h26] at H
                            refine xtabIn A (dflt := 316) (lo := 0) (hi := 16) (off := 208) (offs := #[(81), (91), (101), (111), (119), (127), (135), (140), (148), (153), (158), (163), (208), (213), (220), (227), (268)]) (len := 81) (tgt := 215) (12) (by rw [h26]; rfl) (by decide +kernel) ?_
                            refine xb A [(.aload_n 0, 1, 0, 0, .null)] (pc' := 216) (ls' := [some (.ref 60), some (.int p1), some (.int 0), none]) (st' := [.ref 60]) (g' := w1) (by decide +kernel) rfl ?_
                            obtain ⟨w3, e3, H⟩ := xbind H
                            refine xcallV A (ix := 333) (nxt := 219) hrm hz [] [] 1763 (c_X12_thereBits_60 hS _ e3) ok_X12_thereBits (by decide +kernel) rfl (fun r g1 hq => ?_)
                            rw [hq.1, hq.2]
                            show xW k S 0 0 219 [some (.ref 60), some (.int p1), some (.int 0), none] [.int w3] w1
                            obtain rfl := Option.some.inj H
                            exact xret_i A hR hz (by decide +kernel) rfl ⟨rfl, rfl⟩
                          · rw [if_neg h26] at H
                            by_cases h27 : p1 = 13
                            · rw [if_pos h27] at H
                              refine xtabIn A (dflt := 316) (lo := 0) (hi := 16) (off := 213) (offs := #[(81), (91), (101), (111), (119), (127), (135), (140), (148), (153), (158), (163), (208), (213), (220), (227), (268)]) (len := 81) (tgt := 220) (13) (by rw [h27]; rfl) (by decide +kernel) ?_
                              refine xb A [(.aload_n 0, 1, 0, 0, .null), (.bipush 18, 2, 0, 0, .int 18)] (pc' := 223) (ls' := [some (.ref 60), some (.int p1), some (.int 0), none]) (st' := [.int 18, .ref 60]) (g' := w1) (by decide +kernel) rfl ?_
                              obtain ⟨w4, e4, H⟩ := xbind H
                              refine xcallV A (ix := 474) (nxt := 226) hrm hz [.int 18] [] 2044 (c_X12_sumNow_60 hS _ e4) ok_X12_sumNow (by decide +kernel) rfl (fun r g1 hq => ?_)
                              rw [hq.1, hq.2]
                              show xW k S 0 0 226 [some (.ref 60), some (.int p1), some (.int 0), none] [.int w4] w1
                              obtain rfl := Option.some.inj H
                              exact xret_i A hR hz (by decide +kernel) rfl ⟨rfl, rfl⟩
                            · rw [if_neg h27] at H
                              by_cases h28 : p1 = 14
                              · rw [if_pos h28] at H
                                refine xtabIn A (dflt := 316) (lo := 0) (hi := 16) (off := 220) (offs := #[(81), (91), (101), (111), (119), (127), (135), (140), (148), (153), (158), (163), (208), (213), (220), (227), (268)]) (len := 81) (tgt := 227) (14) (by rw [h28]; rfl) (by decide +kernel) ?_
                                refine xb A [(.aload_n 0, 1, 0, 0, .null), (.bipush 24, 2, 0, 0, .int 24)] (pc' := 230) (ls' := [some (.ref 60), some (.int p1), some (.int 0), none]) (st' := [.int 24, .ref 60]) (g' := w1) (by decide +kernel) rfl ?_
                                obtain ⟨w5, e5, H⟩ := xbind H
                                refine xcallV A (ix := 474) (nxt := 233) hrm hz [.int 24] [] 2044 (c_X12_sumNow_60 hS _ e5) ok_X12_sumNow (by decide +kernel) rfl (fun r g1 hq => ?_)
                                rw [hq.1, hq.2]
                                show xW k S 0 0 233 [some (.ref 60), some (.int p1), some (.int 0), none] [.int w5] w1
                                obtain rfl := Option.some.inj H
                                exact xret_i A hR hz (by decide +kernel) rfl ⟨rfl, rfl⟩
                              · rw [if_neg h28] at H
                                by_cases h29 : p1 = 15
                                · rw [if_pos h29] at H
                                  refine xtabIn A (dflt := 316) (lo := 0) (hi := 16) (off := 227) (offs := #[(81), (91), (101), (111), (119), (127), (135), (140), (148), (153), (158), (163), (208), (213), (220), (227), (268)]) (len := 81) (tgt := 234) (15) (by rw [h29]; rfl) (by decide +kernel) ?_
                                  refine xb A [(.iconst 0, 1, 0, 0, .int 0), (.istore_n 3, 1, 0, 0, .null)] (pc' := 236) (ls' := [some (.ref 60), some (.int p1), some (.int 0), some (.int 0)]) (st' := []) (g' := w1) (by decide +kernel) rfl ?_
                                  refine xweak (ls' := [some (.ref 60), none, some (.int 0), some (.int 0)]) (by exact ⟨rfl, ⟨rfl, ⟨rfl, trivial⟩⟩⟩) ?_
                                  exact t_X12_count_60_236 hS A hR hrm hz _ _ _ _ H
                                · rw [if_neg h29] at H
                                  by_cases h34 : p1 = 16
                                  · rw [if_pos h34] at H
                                    refine xtabIn A (dflt := 316) (lo := 0) (hi := 16) (off := 268) (offs := #[(81), (91), (101), (111), (119), (127), (135), (140), (148), (153), (158), (163), (208), (213), (220), (227), (268)]) (len := 81) (tgt := 275) (16) (by rw [h34]; rfl) (by decide +kernel) ?_
                                    refine xb A [(.iconst 0, 1, 0, 0, .int 0), (.istore_n 3, 1, 0, 0, .null)] (pc' := 277) (ls' := [some (.ref 60), some (.int p1), some (.int 0), some (.int 0)]) (st' := []) (g' := w1) (by decide +kernel) rfl ?_
                                    refine xweak (ls' := [some (.ref 60), none, some (.int 0), some (.int 0)]) (by exact ⟨rfl, ⟨rfl, ⟨rfl, trivial⟩⟩⟩) ?_
                                    exact t_X12_count_60_277 hS A hR hrm hz _ _ _ _ H
                                  · rw [if_neg h34] at H
                                    refine xtabOut A (dflt := 316) (lo := 0) (hi := 16) (offs := #[(81), (91), (101), (111), (119), (127), (135), (140), (148), (153), (158), (163), (208), (213), (220), (227), (268)]) (len := 81) (tgt := 323) (by decide +kernel) ?_ ?_
                                    · have e0 := lv_neT (a := 0) h1 rfl; have e1 := lv_neT (a := 1) h3 rfl; have e2 := lv_neT (a := 2) h5 rfl; have e3 := lv_neT (a := 3) h7 rfl; have e4 := lv_neT (a := 4) h9 rfl; have e5 := lv_neT (a := 5) h11 rfl; have e6 := lv_neT (a := 6) h13 rfl; have e7 := lv_neT (a := 7) h14 rfl; have e8 := lv_neT (a := 8) h16 rfl; have e9 := lv_neT (a := 9) h17 rfl; have e10 := lv_neT (a := 10) h18 rfl; have e11 := lv_neT (a := 11) h19 rfl; have e12 := lv_neT (a := 12) h26 rfl; have e13 := lv_neT (a := 13) h27 rfl; have e14 := lv_neT (a := 14) h28 rfl; have e15 := lv_neT (a := 15) h29 rfl; have e16 := lv_neT (a := 16) h34 rfl; omega
                                    · skip
                                      refine xb A [(.iconst (-1), 1, 0, 0, .int (-1))] (pc' := 324) (ls' := [some (.ref 60), some (.int p1), some (.int 0), none]) (st' := [.int (-1)]) (g' := w1) (by decide +kernel) rfl ?_
                                      obtain rfl := Option.some.inj H
                                      exact xret_i A hR hz (by decide +kernel) rfl ⟨rfl, rfl⟩
theorem fr_X12_count_60 {p1 : Int32} {g : xG} (out : Int32 × xG) (H : f_X12_count_60 p1 g = some out) : xfrm fp_X12_count_60 g (out.2) := by
  have H : ((f_X12_copies_60 g).bind fun w1 =>
if p1 = 0 then
  xg (¬ ((w1.1 60 18) < 0 ∨ 2 ≤ (w1.1 60 18).toNatClampNeg)) (
    some (w1.1 70 (w1.1 60 18).toNatClampNeg, w1))
else
  if p1 = 1 then
    xg (¬ ((w1.1 60 18) < 0 ∨ 2 ≤ (w1.1 60 18).toNatClampNeg)) (
      some (w1.1 71 (w1.1 60 18).toNatClampNeg, w1))
  else
    if p1 = 2 then
      xg (¬ ((w1.1 60 18) < 0 ∨ 2 ≤ (w1.1 60 18).toNatClampNeg)) (
        some (w1.1 75 (w1.1 60 18).toNatClampNeg, w1))
    else
      if p1 = 3 then
        xg (¬ ((37 : Int32) < 0 ∨ 40 ≤ (37 : Int32).toNatClampNeg)) (
          some (w1.1 94 (37 : Int32).toNatClampNeg, w1))
      else
        if p1 = 4 then
          xg (¬ ((38 : Int32) < 0 ∨ 40 ≤ (38 : Int32).toNatClampNeg)) (
            some (w1.1 94 (38 : Int32).toNatClampNeg, w1))
        else
          if p1 = 5 then
            xg (¬ ((39 : Int32) < 0 ∨ 40 ≤ (39 : Int32).toNatClampNeg)) (
              some (w1.1 94 (39 : Int32).toNatClampNeg, w1))
          else
            if p1 = 6 then
              (f_X12_barredBits_60 w1).bind fun w2 =>
              some (w2, w1)
            else
              if p1 = 7 then
                xg (¬ ((36 : Int32) < 0 ∨ 40 ≤ (36 : Int32).toNatClampNeg)) (
                  some (w1.1 94 (36 : Int32).toNatClampNeg, w1))
              else
                if p1 = 8 then
                  some (w1.1 60 2, w1)
                else
                  if p1 = 9 then
                    some (w1.1 60 55, w1)
                  else
                    if p1 = 10 then
                      some (w1.1 60 58, w1)
                    else
                      if p1 = 11 then
                        xg (¬ ((0 : Int32) < 0 ∨ 3 ≤ (0 : Int32).toNatClampNeg)) (
                          if (w1.1 101 (0 : Int32).toNatClampNeg) = 0 then
                            f_X12_count_60_184 0 w1
                          else
                            f_X12_count_60_184 1 w1)
                      else
                        if p1 = 12 then
                          (f_X12_thereBits_60 w1).bind fun w3 =>
                          some (w3, w1)
                        else
                          if p1 = 13 then
                            (f_X12_sumNow_60 18 w1).bind fun w4 =>
                            some (w4, w1)
                          else
                            if p1 = 14 then
                              (f_X12_sumNow_60 24 w1).bind fun w5 =>
                              some (w5, w1)
                            else
                              if p1 = 15 then
                                f_X12_count_60_236 xN 0 0 w1
                              else
                                if p1 = 16 then
                                  f_X12_count_60_277 xN 0 0 w1
                                else
                                  some ((-1), w1)) = some out := H
  obtain ⟨w1, e1, H⟩ := xbind H
  have hf1 : xfrm fp_X12_count_60 g (w1) := xfrm.tr xfrm.rf (fr_X12_copies_60 _ e1) rfl
  by_cases h1 : p1 = 0
  · rw [if_pos h1] at H
    obtain ⟨h2, H⟩ := xg_elim H
    obtain rfl := Option.some.inj H
    exact hf1
  · rw [if_neg h1] at H
    by_cases h3 : p1 = 1
    · rw [if_pos h3] at H
      obtain ⟨h4, H⟩ := xg_elim H
      obtain rfl := Option.some.inj H
      exact hf1
    · rw [if_neg h3] at H
      by_cases h5 : p1 = 2
      · rw [if_pos h5] at H
        obtain ⟨h6, H⟩ := xg_elim H
        obtain rfl := Option.some.inj H
        exact hf1
      · rw [if_neg h5] at H
        by_cases h7 : p1 = 3
        · rw [if_pos h7] at H
          obtain ⟨h8, H⟩ := xg_elim H
          obtain rfl := Option.some.inj H
          exact hf1
        · rw [if_neg h7] at H
          by_cases h9 : p1 = 4
          · rw [if_pos h9] at H
            obtain ⟨h10, H⟩ := xg_elim H
            obtain rfl := Option.some.inj H
            exact hf1
          · rw [if_neg h9] at H
            by_cases h11 : p1 = 5
            · rw [if_pos h11] at H
              obtain ⟨h12, H⟩ := xg_elim H
              obtain rfl := Option.some.inj H
              exact hf1
            · rw [if_neg h11] at H
              by_cases h13 : p1 = 6
              · rw [if_pos h13] at H
                obtain ⟨w2, e2, H⟩ := xbind H
                obtain rfl := Option.some.inj H
                exact hf1
              · rw [if_neg h13] at H
                by_cases h14 : p1 = 7
                · rw [if_pos h14] at H
                  obtain ⟨h15, H⟩ := xg_elim H
                  obtain rfl := Option.some.inj H
                  exact hf1
                · rw [if_neg h14] at H
                  by_cases h16 : p1 = 8
                  · rw [if_pos h16] at H
                    obtain rfl := Option.some.inj H
                    exact hf1
                  · rw [if_neg h16] at H
                    by_cases h17 : p1 = 9
                    · rw [if_pos h17] at H
                      obtain rfl := Option.some.inj H
                      exact hf1
                    · rw [if_neg h17] at H
                      by_cases h18 : p1 = 10
                      · rw [if_pos h18] at H
                        obtain rfl := Option.some.inj H
                        exact hf1
                      · rw [if_neg h18] at H
                        by_cases h19 : p1 = 11
                        · rw [if_pos h19] at H
                          obtain ⟨h20, H⟩ := xg_elim H
                          by_cases h21 : (w1.1 101 (0 : Int32).toNatClampNeg) = 0
                          · rw [if_pos h21] at H
                            exact xfrm.tr hf1 (fr_X12_count_60_184 _ _ _ H) rfl
                          · rw [if_neg h21] at H
                            exact xfrm.tr hf1 (fr_X12_count_60_184 _ _ _ H) rfl
                        · rw [if_neg h19] at H
                          by_cases h26 : p1 = 12
                          · rw [if_pos h26] at H
                            obtain ⟨w3, e3, H⟩ := xbind H
                            obtain rfl := Option.some.inj H
                            exact hf1
                          · rw [if_neg h26] at H
                            by_cases h27 : p1 = 13
                            · rw [if_pos h27] at H
                              obtain ⟨w4, e4, H⟩ := xbind H
                              obtain rfl := Option.some.inj H
                              exact hf1
                            · rw [if_neg h27] at H
                              by_cases h28 : p1 = 14
                              · rw [if_pos h28] at H
                                obtain ⟨w5, e5, H⟩ := xbind H
                                obtain rfl := Option.some.inj H
                                exact hf1
                              · rw [if_neg h28] at H
                                by_cases h29 : p1 = 15
                                · rw [if_pos h29] at H
                                  exact xfrm.tr hf1 (fr_X12_count_60_236 _ _ _ _ _ H) rfl
                                · rw [if_neg h29] at H
                                  by_cases h34 : p1 = 16
                                  · rw [if_pos h34] at H
                                    exact xfrm.tr hf1 (fr_X12_count_60_277 _ _ _ _ _ H) rfl
                                  · rw [if_neg h34] at H
                                    obtain rfl := Option.some.inj H
                                    exact hf1
def fp_X2_begin_12 : List (Nat × Option Nat) := [(15, none)]
def f_X2_begin_12 (p1 : Int32) (g : xG) : xG :=
  xl (xput g 15 4 p1 (g.1 12 4)) fun w1 =>
  w1
set_option maxRecDepth 20000 in
theorem c_X2_begin_12 {S : List xSh} (hS : xpf SH1 S) {g : xG} {p1 : Int32} (out : xG) (H : f_X2_begin_12 p1 g = out) : xC mX2_begin 1 22 0 0 S [.ref 12, .int p1] g S (fun r g' => r = none ∧ g' = out) := by
  have H : (xl (xput g 15 4 p1 (g.1 12 4)) fun w1 =>
w1) = out := H
  refine xC.of 2 SH1 [some (.ref 12), some (.int p1)] hS (by decide +kernel) rfl (fun _ _ => Nat.le_of_ble_eq_true rfl) (fun _ _ => rfl) ?_
  intro k A hR hrm hz
  refine xb A [(.aload_n 0, 1, 0, 0, .null), (.getfield 20, 3, 12, 2, .ref 15), (.iload_n 1, 1, 0, 0, .null), (.aload_n 0, 1, 0, 0, .null), (.getfield 26, 3, 12, 4, .int 0)] (pc' := 9) (ls' := [some (.ref 12), some (.int p1)]) (st' := [.int (g.1 12 4), .int p1, .ref 15]) (g' := g) (by decide +kernel) rfl ?_
  obtain ⟨w1, e1, H⟩ := xl_elim H
  refine xcallSN A (ix := 42) (nxt := 12) (host := "NoonRinger") hrm hz [.ref 15, .int p1, .int (g.1 12 4)] [] 6 (c_X11_put (hS _ _ sh_15) (by decide)) ok_X11_put (by decide +kernel) rfl (fun r g1 hq => ?_)
  rw [hq.1, hq.2]
  rw [e1]
  show xW k S 0 0 12 [some (.ref 12), some (.int p1)] [] w1
  subst H
  exact xret_v A hR hz (by decide +kernel) ⟨rfl, rfl⟩
theorem fr_X2_begin_12 {p1 : Int32} {g : xG} (out : xG) (H : f_X2_begin_12 p1 g = out) : xfrm fp_X2_begin_12 g (out) := by
  have H : (xl (xput g 15 4 p1 (g.1 12 4)) fun w1 =>
w1) = out := H
  obtain ⟨w1, e1, H⟩ := xl_elim H
  have hf1 : xfrm fp_X2_begin_12 g (w1) := xfrm_xput xfrm.rf rfl e1
  subst H
  exact hf1
def fp_X2_add_12 : List (Nat × Option Nat) := [(12, some 4), (13, none), (14, none)]
def f_X2_add_12 (p1 : Int32) (p2 : Int32) (g : xG) : xG :=
  xl (xput g 13 408 (g.1 12 4) p1) fun w1 =>
  xl (xput w1 14 408 (w1.1 12 4) p2) fun w2 =>
  (xupd w2.1 12 4 ((w2.1 12 4) + 1), w2.2)
set_option maxRecDepth 20000 in
theorem c_X2_add_12 {S : List xSh} (hS : xpf SH1 S) {g : xG} {p1 : Int32} {p2 : Int32} (out : xG) (H : f_X2_add_12 p1 p2 g = out) : xC mX2_add 1 22 0 0 S [.ref 12, .int p1, .int p2] g S (fun r g' => r = none ∧ g' = out) := by
  have H : (xl (xput g 13 408 (g.1 12 4) p1) fun w1 =>
xl (xput w1 14 408 (w1.1 12 4) p2) fun w2 =>
(xupd w2.1 12 4 ((w2.1 12 4) + 1), w2.2)) = out := H
  refine xC.of 2 SH1 [some (.ref 12), some (.int p1), some (.int p2)] hS (by decide +kernel) rfl (fun _ _ => Nat.le_of_ble_eq_true rfl) (fun _ _ => rfl) ?_
  intro k A hR hrm hz
  refine xb A [(.aload_n 0, 1, 0, 0, .null), (.getfield 13, 3, 12, 0, .ref 13), (.aload_n 0, 1, 0, 0, .null), (.getfield 26, 3, 12, 4, .int 0), (.iload_n 1, 1, 0, 0, .null)] (pc' := 9) (ls' := [some (.ref 12), some (.int p1), some (.int p2)]) (st' := [.int p1, .int (g.1 12 4), .ref 13]) (g' := g) (by decide +kernel) rfl ?_
  obtain ⟨w1, e1, H⟩ := xl_elim H
  refine xcallSN A (ix := 42) (nxt := 12) (host := "NoonRinger") hrm hz [.ref 13, .int (g.1 12 4), .int p1] [] 6 (c_X11_put (hS _ _ sh_13) (by decide)) ok_X11_put (by decide +kernel) rfl (fun r g1 hq => ?_)
  rw [hq.1, hq.2]
  rw [e1]
  show xW k S 0 0 12 [some (.ref 12), some (.int p1), some (.int p2)] [] w1
  refine xb A [(.aload_n 0, 1, 0, 0, .null), (.getfield 17, 3, 12, 1, .ref 14), (.aload_n 0, 1, 0, 0, .null), (.getfield 26, 3, 12, 4, .int 0), (.iload_n 2, 1, 0, 0, .null)] (pc' := 21) (ls' := [some (.ref 12), some (.int p1), some (.int p2)]) (st' := [.int p2, .int (w1.1 12 4), .ref 14]) (g' := w1) (by decide +kernel) rfl ?_
  obtain ⟨w2, e2, H⟩ := xl_elim H
  refine xcallSN A (ix := 42) (nxt := 24) (host := "NoonRinger") hrm hz [.ref 14, .int (w1.1 12 4), .int p2] [] 6 (c_X11_put (hS _ _ sh_14) (by decide)) ok_X11_put (by decide +kernel) rfl (fun r g1 hq => ?_)
  rw [hq.1, hq.2]
  rw [e2]
  show xW k S 0 0 24 [some (.ref 12), some (.int p1), some (.int p2)] [] w2
  refine xb A [(.aload_n 0, 1, 0, 0, .null), (.dup, 1, 0, 0, .null), (.getfield 26, 3, 12, 4, .int 0), (.iconst 1, 1, 0, 0, .int 1), (.iadd, 1, 0, 0, .null), (.putfield 26, 3, 12, 4, .int 0)] (pc' := 34) (ls' := [some (.ref 12), some (.int p1), some (.int p2)]) (st' := []) (g' := (xupd w2.1 12 4 ((w2.1 12 4) + 1), w2.2)) (by decide +kernel) rfl ?_
  subst H
  exact xret_v A hR hz (by decide +kernel) ⟨rfl, rfl⟩
theorem fr_X2_add_12 {p1 : Int32} {p2 : Int32} {g : xG} (out : xG) (H : f_X2_add_12 p1 p2 g = out) : xfrm fp_X2_add_12 g (out) := by
  have H : (xl (xput g 13 408 (g.1 12 4) p1) fun w1 =>
xl (xput w1 14 408 (w1.1 12 4) p2) fun w2 =>
(xupd w2.1 12 4 ((w2.1 12 4) + 1), w2.2)) = out := H
  obtain ⟨w1, e1, H⟩ := xl_elim H
  have hf1 : xfrm fp_X2_add_12 g (w1) := xfrm_xput xfrm.rf rfl e1
  obtain ⟨w2, e2, H⟩ := xl_elim H
  have hf2 : xfrm fp_X2_add_12 g (w2) := xfrm_xput hf1 rfl e2
  have hf3 : xfrm fp_X2_add_12 g ((xupd w2.1 12 4 ((w2.1 12 4) + 1), w2.2)) := xfrm.up hf2 rfl
  subst H
  exact hf3
def fp_X2_clear_12 : List (Nat × Option Nat) := [(12, some 4), (13, none), (14, none), (15, none)]
def f_X2_clear_12  (g : xG) : xG :=
  xl (f_X2_begin_12 0 (xupd g.1 12 4 0, g.2)) fun w1 =>
  xl (f_X2_add_12 2 0 w1) fun w2 =>
  xl (f_X2_add_12 0 0 w2) fun w3 =>
  xl (f_X2_begin_12 1 w3) fun w4 =>
  xl (f_X2_add_12 2 0 w4) fun w5 =>
  xl (f_X2_add_12 0 0 w5) fun w6 =>
  xl (f_X2_begin_12 2 w6) fun w7 =>
  xl (f_X2_add_12 1 1 w7) fun w8 =>
  xl (f_X2_add_12 0 0 w8) fun w9 =>
  xl (f_X2_begin_12 3 w9) fun w10 =>
  xl (f_X2_add_12 1 0 w10) fun w11 =>
  xl (f_X2_add_12 0 0 w11) fun w12 =>
  w12
set_option maxRecDepth 20000 in
theorem c_X2_clear_12 {S : List xSh} (hS : xpf SH1 S) {g : xG}  (out : xG) (H : f_X2_clear_12  g = out) : xC mX2_clear 2 44 0 0 S [.ref 12] g S (fun r g' => r = none ∧ g' = out) := by
  have H : (xl (f_X2_begin_12 0 (xupd g.1 12 4 0, g.2)) fun w1 =>
xl (f_X2_add_12 2 0 w1) fun w2 =>
xl (f_X2_add_12 0 0 w2) fun w3 =>
xl (f_X2_begin_12 1 w3) fun w4 =>
xl (f_X2_add_12 2 0 w4) fun w5 =>
xl (f_X2_add_12 0 0 w5) fun w6 =>
xl (f_X2_begin_12 2 w6) fun w7 =>
xl (f_X2_add_12 1 1 w7) fun w8 =>
xl (f_X2_add_12 0 0 w8) fun w9 =>
xl (f_X2_begin_12 3 w9) fun w10 =>
xl (f_X2_add_12 1 0 w10) fun w11 =>
xl (f_X2_add_12 0 0 w11) fun w12 =>
w12) = out := H
  refine xC.of 2 SH1 [some (.ref 12)] hS (by decide +kernel) rfl (fun _ _ => Nat.le_of_ble_eq_true rfl) (fun _ _ => rfl) ?_
  intro k A hR hrm hz
  refine xb A [(.aload_n 0, 1, 0, 0, .null), (.iconst 0, 1, 0, 0, .int 0), (.putfield 26, 3, 12, 4, .int 0), (.aload_n 0, 1, 0, 0, .null), (.iconst 0, 1, 0, 0, .int 0)] (pc' := 7) (ls' := [some (.ref 12)]) (st' := [.int 0, .ref 12]) (g' := (xupd g.1 12 4 0, g.2)) (by decide +kernel) rfl ?_
  obtain ⟨w1, e1, H⟩ := xl_elim H
  refine xcallV A (ix := 30) (nxt := 10) hrm hz [.int 0] [] 450 (c_X2_begin_12 hS _ e1) ok_X2_begin (by decide +kernel) rfl (fun r g1 hq => ?_)
  rw [hq.1, hq.2]
  show xW k S 0 0 10 [some (.ref 12)] [] w1
  refine xb A [(.aload_n 0, 1, 0, 0, .null), (.iconst 2, 1, 0, 0, .int 2), (.iconst 0, 1, 0, 0, .int 0)] (pc' := 13) (ls' := [some (.ref 12)]) (st' := [.int 0, .int 2, .ref 12]) (g' := w1) (by decide +kernel) rfl ?_
  obtain ⟨w2, e2, H⟩ := xl_elim H
  refine xcallV A (ix := 34) (nxt := 16) hrm hz [.int 2, .int 0] [] 457 (c_X2_add_12 hS _ e2) ok_X2_add (by decide +kernel) rfl (fun r g1 hq => ?_)
  rw [hq.1, hq.2]
  show xW k S 0 0 16 [some (.ref 12)] [] w2
  refine xb A [(.aload_n 0, 1, 0, 0, .null), (.iconst 0, 1, 0, 0, .int 0), (.iconst 0, 1, 0, 0, .int 0)] (pc' := 19) (ls' := [some (.ref 12)]) (st' := [.int 0, .int 0, .ref 12]) (g' := w2) (by decide +kernel) rfl ?_
  obtain ⟨w3, e3, H⟩ := xl_elim H
  refine xcallV A (ix := 34) (nxt := 22) hrm hz [.int 0, .int 0] [] 457 (c_X2_add_12 hS _ e3) ok_X2_add (by decide +kernel) rfl (fun r g1 hq => ?_)
  rw [hq.1, hq.2]
  show xW k S 0 0 22 [some (.ref 12)] [] w3
  refine xb A [(.aload_n 0, 1, 0, 0, .null), (.iconst 1, 1, 0, 0, .int 1)] (pc' := 24) (ls' := [some (.ref 12)]) (st' := [.int 1, .ref 12]) (g' := w3) (by decide +kernel) rfl ?_
  obtain ⟨w4, e4, H⟩ := xl_elim H
  refine xcallV A (ix := 30) (nxt := 27) hrm hz [.int 1] [] 450 (c_X2_begin_12 hS _ e4) ok_X2_begin (by decide +kernel) rfl (fun r g1 hq => ?_)
  rw [hq.1, hq.2]
  show xW k S 0 0 27 [some (.ref 12)] [] w4
  refine xb A [(.aload_n 0, 1, 0, 0, .null), (.iconst 2, 1, 0, 0, .int 2), (.iconst 0, 1, 0, 0, .int 0)] (pc' := 30) (ls' := [some (.ref 12)]) (st' := [.int 0, .int 2, .ref 12]) (g' := w4) (by decide +kernel) rfl ?_
  obtain ⟨w5, e5, H⟩ := xl_elim H
  refine xcallV A (ix := 34) (nxt := 33) hrm hz [.int 2, .int 0] [] 457 (c_X2_add_12 hS _ e5) ok_X2_add (by decide +kernel) rfl (fun r g1 hq => ?_)
  rw [hq.1, hq.2]
  show xW k S 0 0 33 [some (.ref 12)] [] w5
  refine xb A [(.aload_n 0, 1, 0, 0, .null), (.iconst 0, 1, 0, 0, .int 0), (.iconst 0, 1, 0, 0, .int 0)] (pc' := 36) (ls' := [some (.ref 12)]) (st' := [.int 0, .int 0, .ref 12]) (g' := w5) (by decide +kernel) rfl ?_
  obtain ⟨w6, e6, H⟩ := xl_elim H
  refine xcallV A (ix := 34) (nxt := 39) hrm hz [.int 0, .int 0] [] 457 (c_X2_add_12 hS _ e6) ok_X2_add (by decide +kernel) rfl (fun r g1 hq => ?_)
  rw [hq.1, hq.2]
  show xW k S 0 0 39 [some (.ref 12)] [] w6
  refine xb A [(.aload_n 0, 1, 0, 0, .null), (.iconst 2, 1, 0, 0, .int 2)] (pc' := 41) (ls' := [some (.ref 12)]) (st' := [.int 2, .ref 12]) (g' := w6) (by decide +kernel) rfl ?_
  obtain ⟨w7, e7, H⟩ := xl_elim H
  refine xcallV A (ix := 30) (nxt := 44) hrm hz [.int 2] [] 450 (c_X2_begin_12 hS _ e7) ok_X2_begin (by decide +kernel) rfl (fun r g1 hq => ?_)
  rw [hq.1, hq.2]
  show xW k S 0 0 44 [some (.ref 12)] [] w7
  refine xb A [(.aload_n 0, 1, 0, 0, .null), (.iconst 1, 1, 0, 0, .int 1), (.iconst 1, 1, 0, 0, .int 1)] (pc' := 47) (ls' := [some (.ref 12)]) (st' := [.int 1, .int 1, .ref 12]) (g' := w7) (by decide +kernel) rfl ?_
  obtain ⟨w8, e8, H⟩ := xl_elim H
  refine xcallV A (ix := 34) (nxt := 50) hrm hz [.int 1, .int 1] [] 457 (c_X2_add_12 hS _ e8) ok_X2_add (by decide +kernel) rfl (fun r g1 hq => ?_)
  rw [hq.1, hq.2]
  show xW k S 0 0 50 [some (.ref 12)] [] w8
  refine xb A [(.aload_n 0, 1, 0, 0, .null), (.iconst 0, 1, 0, 0, .int 0), (.iconst 0, 1, 0, 0, .int 0)] (pc' := 53) (ls' := [some (.ref 12)]) (st' := [.int 0, .int 0, .ref 12]) (g' := w8) (by decide +kernel) rfl ?_
  obtain ⟨w9, e9, H⟩ := xl_elim H
  refine xcallV A (ix := 34) (nxt := 56) hrm hz [.int 0, .int 0] [] 457 (c_X2_add_12 hS _ e9) ok_X2_add (by decide +kernel) rfl (fun r g1 hq => ?_)
  rw [hq.1, hq.2]
  show xW k S 0 0 56 [some (.ref 12)] [] w9
  refine xb A [(.aload_n 0, 1, 0, 0, .null), (.iconst 3, 1, 0, 0, .int 3)] (pc' := 58) (ls' := [some (.ref 12)]) (st' := [.int 3, .ref 12]) (g' := w9) (by decide +kernel) rfl ?_
  obtain ⟨w10, e10, H⟩ := xl_elim H
  refine xcallV A (ix := 30) (nxt := 61) hrm hz [.int 3] [] 450 (c_X2_begin_12 hS _ e10) ok_X2_begin (by decide +kernel) rfl (fun r g1 hq => ?_)
  rw [hq.1, hq.2]
  show xW k S 0 0 61 [some (.ref 12)] [] w10
  refine xb A [(.aload_n 0, 1, 0, 0, .null), (.iconst 1, 1, 0, 0, .int 1), (.iconst 0, 1, 0, 0, .int 0)] (pc' := 64) (ls' := [some (.ref 12)]) (st' := [.int 0, .int 1, .ref 12]) (g' := w10) (by decide +kernel) rfl ?_
  obtain ⟨w11, e11, H⟩ := xl_elim H
  refine xcallV A (ix := 34) (nxt := 67) hrm hz [.int 1, .int 0] [] 457 (c_X2_add_12 hS _ e11) ok_X2_add (by decide +kernel) rfl (fun r g1 hq => ?_)
  rw [hq.1, hq.2]
  show xW k S 0 0 67 [some (.ref 12)] [] w11
  refine xb A [(.aload_n 0, 1, 0, 0, .null), (.iconst 0, 1, 0, 0, .int 0), (.iconst 0, 1, 0, 0, .int 0)] (pc' := 70) (ls' := [some (.ref 12)]) (st' := [.int 0, .int 0, .ref 12]) (g' := w11) (by decide +kernel) rfl ?_
  obtain ⟨w12, e12, H⟩ := xl_elim H
  refine xcallV A (ix := 34) (nxt := 73) hrm hz [.int 0, .int 0] [] 457 (c_X2_add_12 hS _ e12) ok_X2_add (by decide +kernel) rfl (fun r g1 hq => ?_)
  rw [hq.1, hq.2]
  show xW k S 0 0 73 [some (.ref 12)] [] w12
  subst H
  exact xret_v A hR hz (by decide +kernel) ⟨rfl, rfl⟩
theorem fr_X2_clear_12  {g : xG} (out : xG) (H : f_X2_clear_12  g = out) : xfrm fp_X2_clear_12 g (out) := by
  have H : (xl (f_X2_begin_12 0 (xupd g.1 12 4 0, g.2)) fun w1 =>
xl (f_X2_add_12 2 0 w1) fun w2 =>
xl (f_X2_add_12 0 0 w2) fun w3 =>
xl (f_X2_begin_12 1 w3) fun w4 =>
xl (f_X2_add_12 2 0 w4) fun w5 =>
xl (f_X2_add_12 0 0 w5) fun w6 =>
xl (f_X2_begin_12 2 w6) fun w7 =>
xl (f_X2_add_12 1 1 w7) fun w8 =>
xl (f_X2_add_12 0 0 w8) fun w9 =>
xl (f_X2_begin_12 3 w9) fun w10 =>
xl (f_X2_add_12 1 0 w10) fun w11 =>
xl (f_X2_add_12 0 0 w11) fun w12 =>
w12) = out := H
  have hf1 : xfrm fp_X2_clear_12 g ((xupd g.1 12 4 0, g.2)) := xfrm.up xfrm.rf rfl
  obtain ⟨w1, e1, H⟩ := xl_elim H
  have hf2 : xfrm fp_X2_clear_12 g (w1) := xfrm.tr hf1 (fr_X2_begin_12 _ e1) rfl
  obtain ⟨w2, e2, H⟩ := xl_elim H
  have hf3 : xfrm fp_X2_clear_12 g (w2) := xfrm.tr hf2 (fr_X2_add_12 _ e2) rfl
  obtain ⟨w3, e3, H⟩ := xl_elim H
  have hf4 : xfrm fp_X2_clear_12 g (w3) := xfrm.tr hf3 (fr_X2_add_12 _ e3) rfl
  obtain ⟨w4, e4, H⟩ := xl_elim H
  have hf5 : xfrm fp_X2_clear_12 g (w4) := xfrm.tr hf4 (fr_X2_begin_12 _ e4) rfl
  obtain ⟨w5, e5, H⟩ := xl_elim H
  have hf6 : xfrm fp_X2_clear_12 g (w5) := xfrm.tr hf5 (fr_X2_add_12 _ e5) rfl
  obtain ⟨w6, e6, H⟩ := xl_elim H
  have hf7 : xfrm fp_X2_clear_12 g (w6) := xfrm.tr hf6 (fr_X2_add_12 _ e6) rfl
  obtain ⟨w7, e7, H⟩ := xl_elim H
  have hf8 : xfrm fp_X2_clear_12 g (w7) := xfrm.tr hf7 (fr_X2_begin_12 _ e7) rfl
  obtain ⟨w8, e8, H⟩ := xl_elim H
  have hf9 : xfrm fp_X2_clear_12 g (w8) := xfrm.tr hf8 (fr_X2_add_12 _ e8) rfl
  obtain ⟨w9, e9, H⟩ := xl_elim H
  have hf10 : xfrm fp_X2_clear_12 g (w9) := xfrm.tr hf9 (fr_X2_add_12 _ e9) rfl
  obtain ⟨w10, e10, H⟩ := xl_elim H
  have hf11 : xfrm fp_X2_clear_12 g (w10) := xfrm.tr hf10 (fr_X2_begin_12 _ e10) rfl
  obtain ⟨w11, e11, H⟩ := xl_elim H
  have hf12 : xfrm fp_X2_clear_12 g (w11) := xfrm.tr hf11 (fr_X2_add_12 _ e11) rfl
  obtain ⟨w12, e12, H⟩ := xl_elim H
  have hf13 : xfrm fp_X2_clear_12 g (w12) := xfrm.tr hf12 (fr_X2_add_12 _ e12) rfl
  subst H
  exact hf13
def fp_X4_clear_3 : List (Nat × Option Nat) := [(3, some 9), (3, some 10), (3, some 11), (3, some 12), (3, some 13), (12, some 4), (13, none), (14, none), (15, none)]
def f_X4_clear_3  (g : xG) : xG :=
  xl (f_X2_clear_12 (xupd (xupd (xupd (xupd (xupd g.1 3 9 0) 3 10 0) 3 11 0) 3 12 0) 3 13 0, g.2)) fun w1 =>
  w1
set_option maxRecDepth 20000 in
theorem c_X4_clear_3 {S : List xSh} (hS : xpf SH1 S) {g : xG}  (out : xG) (H : f_X4_clear_3  g = out) : xC mX4_clear 3 64 0 0 S [.ref 3] g S (fun r g' => r = none ∧ g' = out) := by
  have H : (xl (f_X2_clear_12 (xupd (xupd (xupd (xupd (xupd g.1 3 9 0) 3 10 0) 3 11 0) 3 12 0) 3 13 0, g.2)) fun w1 =>
w1) = out := H
  refine xC.of 4 SH1 [some (.ref 3)] hS (by decide +kernel) rfl (fun _ _ => Nat.le_of_ble_eq_true rfl) (fun _ _ => rfl) ?_
  intro k A hR hrm hz
  refine xb A [(.aload_n 0, 1, 0, 0, .null), (.iconst 0, 1, 0, 0, .int 0), (.putfield 44, 3, 3, 9, .int 0), (.aload_n 0, 1, 0, 0, .null), (.iconst 0, 1, 0, 0, .int 0), (.putfield 48, 3, 3, 10, .int 0), (.aload_n 0, 1, 0, 0, .null), (.iconst 0, 1, 0, 0, .int 0), (.putfield 51, 3, 3, 11, .int 0), (.aload_n 0, 1, 0, 0, .null), (.iconst 0, 1, 0, 0, .int 0), (.putfield 54, 3, 3, 12, .int 0), (.aload_n 0, 1, 0, 0, .null), (.iconst 0, 1, 0, 0, .int 0), (.putfield 57, 3, 3, 13, .int 0), (.aload_n 0, 1, 0, 0, .null), (.getfield 40, 3, 3, 8, .ref 12)] (pc' := 29) (ls' := [some (.ref 3)]) (st' := [.ref 12]) (g' := (xupd (xupd (xupd (xupd (xupd g.1 3 9 0) 3 10 0) 3 11 0) 3 12 0) 3 13 0, g.2)) (by decide +kernel) rfl ?_
  obtain ⟨w1, e1, H⟩ := xl_elim H
  refine xcallV A (ix := 60) (nxt := 32) hrm hz [] [] 446 (c_X2_clear_12 hS _ e1) ok_X2_clear (by decide +kernel) rfl (fun r g1 hq => ?_)
  rw [hq.1, hq.2]
  show xW k S 0 0 32 [some (.ref 3)] [] w1
  subst H
  exact xret_v A hR hz (by decide +kernel) ⟨rfl, rfl⟩
theorem fr_X4_clear_3  {g : xG} (out : xG) (H : f_X4_clear_3  g = out) : xfrm fp_X4_clear_3 g (out) := by
  have H : (xl (f_X2_clear_12 (xupd (xupd (xupd (xupd (xupd g.1 3 9 0) 3 10 0) 3 11 0) 3 12 0) 3 13 0, g.2)) fun w1 =>
w1) = out := H
  have hf1 : xfrm fp_X4_clear_3 g ((xupd g.1 3 9 0, g.2)) := xfrm.up xfrm.rf rfl
  have hf2 : xfrm fp_X4_clear_3 g ((xupd (xupd g.1 3 9 0) 3 10 0, g.2)) := xfrm.up hf1 rfl
  have hf3 : xfrm fp_X4_clear_3 g ((xupd (xupd (xupd g.1 3 9 0) 3 10 0) 3 11 0, g.2)) := xfrm.up hf2 rfl
  have hf4 : xfrm fp_X4_clear_3 g ((xupd (xupd (xupd (xupd g.1 3 9 0) 3 10 0) 3 11 0) 3 12 0, g.2)) := xfrm.up hf3 rfl
  have hf5 : xfrm fp_X4_clear_3 g ((xupd (xupd (xupd (xupd (xupd g.1 3 9 0) 3 10 0) 3 11 0) 3 12 0) 3 13 0, g.2)) := xfrm.up hf4 rfl
  obtain ⟨w1, e1, H⟩ := xl_elim H
  have hf6 : xfrm fp_X4_clear_3 g (w1) := xfrm.tr hf5 (fr_X2_clear_12 _ e1) rfl
  subst H
  exact hf6
def f_X12_letters (p0 : Int32) (p1 : Int32) (p2 : Int32) (p3 : Int32) (p4 : Int32) (p5 : Int32) (p6 : Int32) : Int64 :=
  f_X12_appends (f_X12_appends (f_X12_appends (f_X12_appends (f_X12_appends (f_X12_appends (f_X12_appends 0 p0) p1) p2) p3) p4) p5) p6
set_option maxRecDepth 20000 in
theorem c_X12_letters {S : List xSh} (hS : xpf SH2 S) {g : xG} {p0 : Int32} {p1 : Int32} {p2 : Int32} {p3 : Int32} {p4 : Int32} {p5 : Int32} {p6 : Int32} (out : Int64) (H : f_X12_letters p0 p1 p2 p3 p4 p5 p6 = out) : xC mX12_letters 1 22 0 0 S [.int p0, .int p1, .int p2, .int p3, .int p4, .int p5, .int p6] g S (fun r g' => r = some (.long out) ∧ g' = g) := by
  have H : (f_X12_appends (f_X12_appends (f_X12_appends (f_X12_appends (f_X12_appends (f_X12_appends (f_X12_appends 0 p0) p1) p2) p3) p4) p5) p6) = out := H
  refine xC.of 12 SH2 [some (.int p0), some (.int p1), some (.int p2), some (.int p3), some (.int p4), some (.int p5), some (.int p6)] hS (by decide +kernel) rfl (fun _ _ => Nat.le_of_ble_eq_true rfl) (fun _ _ => rfl) ?_
  intro k A hR hrm hz
  refine xb A [(.lconst 0, 1, 0, 0, .long 0), (.iload_n 0, 1, 0, 0, .null)] (pc' := 2) (ls' := [some (.int p0), some (.int p1), some (.int p2), some (.int p3), some (.int p4), some (.int p5), some (.int p6)]) (st' := [.int p0, .long 0]) (g' := g) (by decide +kernel) rfl ?_
  refine xcallS A (ix := 171) (nxt := 5) hrm hz [.long 0, .int p0] [] 1366 (c_X12_appends hS _ rfl) ok_X12_appends (by decide +kernel) rfl (fun r g1 hq => ?_)
  rw [hq.1, hq.2]
  show xW k S 0 0 5 [some (.int p0), some (.int p1), some (.int p2), some (.int p3), some (.int p4), some (.int p5), some (.int p6)] [.long (f_X12_appends 0 p0)] g
  refine xb A [(.iload_n 1, 1, 0, 0, .null)] (pc' := 6) (ls' := [some (.int p0), some (.int p1), some (.int p2), some (.int p3), some (.int p4), some (.int p5), some (.int p6)]) (st' := [.int p1, .long (f_X12_appends 0 p0)]) (g' := g) (by decide +kernel) rfl ?_
  refine xcallS A (ix := 171) (nxt := 9) hrm hz [.long (f_X12_appends 0 p0), .int p1] [] 1366 (c_X12_appends hS _ rfl) ok_X12_appends (by decide +kernel) rfl (fun r g1 hq => ?_)
  rw [hq.1, hq.2]
  show xW k S 0 0 9 [some (.int p0), some (.int p1), some (.int p2), some (.int p3), some (.int p4), some (.int p5), some (.int p6)] [.long (f_X12_appends (f_X12_appends 0 p0) p1)] g
  refine xb A [(.iload_n 2, 1, 0, 0, .null)] (pc' := 10) (ls' := [some (.int p0), some (.int p1), some (.int p2), some (.int p3), some (.int p4), some (.int p5), some (.int p6)]) (st' := [.int p2, .long (f_X12_appends (f_X12_appends 0 p0) p1)]) (g' := g) (by decide +kernel) rfl ?_
  refine xcallS A (ix := 171) (nxt := 13) hrm hz [.long (f_X12_appends (f_X12_appends 0 p0) p1), .int p2] [] 1366 (c_X12_appends hS _ rfl) ok_X12_appends (by decide +kernel) rfl (fun r g1 hq => ?_)
  rw [hq.1, hq.2]
  show xW k S 0 0 13 [some (.int p0), some (.int p1), some (.int p2), some (.int p3), some (.int p4), some (.int p5), some (.int p6)] [.long (f_X12_appends (f_X12_appends (f_X12_appends 0 p0) p1) p2)] g
  refine xb A [(.iload_n 3, 1, 0, 0, .null)] (pc' := 14) (ls' := [some (.int p0), some (.int p1), some (.int p2), some (.int p3), some (.int p4), some (.int p5), some (.int p6)]) (st' := [.int p3, .long (f_X12_appends (f_X12_appends (f_X12_appends 0 p0) p1) p2)]) (g' := g) (by decide +kernel) rfl ?_
  refine xcallS A (ix := 171) (nxt := 17) hrm hz [.long (f_X12_appends (f_X12_appends (f_X12_appends 0 p0) p1) p2), .int p3] [] 1366 (c_X12_appends hS _ rfl) ok_X12_appends (by decide +kernel) rfl (fun r g1 hq => ?_)
  rw [hq.1, hq.2]
  show xW k S 0 0 17 [some (.int p0), some (.int p1), some (.int p2), some (.int p3), some (.int p4), some (.int p5), some (.int p6)] [.long (f_X12_appends (f_X12_appends (f_X12_appends (f_X12_appends 0 p0) p1) p2) p3)] g
  refine xb A [(.iload 4, 2, 0, 0, .null)] (pc' := 19) (ls' := [some (.int p0), some (.int p1), some (.int p2), some (.int p3), some (.int p4), some (.int p5), some (.int p6)]) (st' := [.int p4, .long (f_X12_appends (f_X12_appends (f_X12_appends (f_X12_appends 0 p0) p1) p2) p3)]) (g' := g) (by decide +kernel) rfl ?_
  refine xcallS A (ix := 171) (nxt := 22) hrm hz [.long (f_X12_appends (f_X12_appends (f_X12_appends (f_X12_appends 0 p0) p1) p2) p3), .int p4] [] 1366 (c_X12_appends hS _ rfl) ok_X12_appends (by decide +kernel) rfl (fun r g1 hq => ?_)
  rw [hq.1, hq.2]
  show xW k S 0 0 22 [some (.int p0), some (.int p1), some (.int p2), some (.int p3), some (.int p4), some (.int p5), some (.int p6)] [.long (f_X12_appends (f_X12_appends (f_X12_appends (f_X12_appends (f_X12_appends 0 p0) p1) p2) p3) p4)] g
  refine xb A [(.iload 5, 2, 0, 0, .null)] (pc' := 24) (ls' := [some (.int p0), some (.int p1), some (.int p2), some (.int p3), some (.int p4), some (.int p5), some (.int p6)]) (st' := [.int p5, .long (f_X12_appends (f_X12_appends (f_X12_appends (f_X12_appends (f_X12_appends 0 p0) p1) p2) p3) p4)]) (g' := g) (by decide +kernel) rfl ?_
  refine xcallS A (ix := 171) (nxt := 27) hrm hz [.long (f_X12_appends (f_X12_appends (f_X12_appends (f_X12_appends (f_X12_appends 0 p0) p1) p2) p3) p4), .int p5] [] 1366 (c_X12_appends hS _ rfl) ok_X12_appends (by decide +kernel) rfl (fun r g1 hq => ?_)
  rw [hq.1, hq.2]
  show xW k S 0 0 27 [some (.int p0), some (.int p1), some (.int p2), some (.int p3), some (.int p4), some (.int p5), some (.int p6)] [.long (f_X12_appends (f_X12_appends (f_X12_appends (f_X12_appends (f_X12_appends (f_X12_appends 0 p0) p1) p2) p3) p4) p5)] g
  refine xb A [(.iload 6, 2, 0, 0, .null)] (pc' := 29) (ls' := [some (.int p0), some (.int p1), some (.int p2), some (.int p3), some (.int p4), some (.int p5), some (.int p6)]) (st' := [.int p6, .long (f_X12_appends (f_X12_appends (f_X12_appends (f_X12_appends (f_X12_appends (f_X12_appends 0 p0) p1) p2) p3) p4) p5)]) (g' := g) (by decide +kernel) rfl ?_
  refine xcallS A (ix := 171) (nxt := 32) hrm hz [.long (f_X12_appends (f_X12_appends (f_X12_appends (f_X12_appends (f_X12_appends (f_X12_appends 0 p0) p1) p2) p3) p4) p5), .int p6] [] 1366 (c_X12_appends hS _ rfl) ok_X12_appends (by decide +kernel) rfl (fun r g1 hq => ?_)
  rw [hq.1, hq.2]
  show xW k S 0 0 32 [some (.int p0), some (.int p1), some (.int p2), some (.int p3), some (.int p4), some (.int p5), some (.int p6)] [.long (f_X12_appends (f_X12_appends (f_X12_appends (f_X12_appends (f_X12_appends (f_X12_appends (f_X12_appends 0 p0) p1) p2) p3) p4) p5) p6)] g
  subst H
  exact xret_l A hR hz (by decide +kernel) ⟨rfl, rfl⟩
