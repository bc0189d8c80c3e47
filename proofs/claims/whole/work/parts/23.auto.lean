/-! methods, walked by program -/
def f_X2_joined (p0 : Int32) (p1 : Int32) (p2 : Int32) : Option (Int32) :=
  if p0 = 4 then
    some (p1 + p2)
  else
    if p0 = 5 then
      some (p1 - p2)
    else
      if p0 = 6 then
        some (p1 * p2)
      else
        if p0 = 7 then
          if p2 = 0 then
            some 0
          else
            xg (¬ p2 = 0) (
              some (p1 / p2))
        else
          some 0
set_option maxRecDepth 20000 in
theorem c_X2_joined {S : List xSh} (hS : xpf SH1 S) {g : xG} {p0 : Int32} {p1 : Int32} {p2 : Int32} (out : Int32) (H : f_X2_joined p0 p1 p2 = some out) : xC mX2_joined 0 0 0 0 S [.int p0, .int p1, .int p2] g S (fun r g' => r = some (.int out) ∧ g' = g) := by
  have H : (if p0 = 4 then
  some (p1 + p2)
else
  if p0 = 5 then
    some (p1 - p2)
  else
    if p0 = 6 then
      some (p1 * p2)
    else
      if p0 = 7 then
        if p2 = 0 then
          some 0
        else
          xg (¬ p2 = 0) (
            some (p1 / p2))
      else
        some 0) = some out := H
  refine xC.of 2 SH1 [some (.int p0), some (.int p1), some (.int p2)] hS (by decide +kernel) rfl (fun _ _ => Nat.le_of_ble_eq_true rfl) (fun _ _ => rfl) ?_
  intro k A hR hrm hz
  refine xb A [(.iload_n 0, 1, 0, 0, .null)] (pc' := 1) (ls' := [some (.int p0), some (.int p1), some (.int p2)]) (st' := [.int p0]) (g' := g) (by decide +kernel) rfl ?_
  by_cases h1 : p0 = 4
  · rw [if_pos h1] at H
    refine xtabIn A (dflt := 55) (lo := 4) (hi := 7) (off := 31) (offs := #[(31), (35), (39), (43)]) (len := 31) (tgt := 32) (4) (by rw [h1]; rfl) (by decide +kernel) ?_
    refine xb A [(.iload_n 1, 1, 0, 0, .null), (.iload_n 2, 1, 0, 0, .null), (.iadd, 1, 0, 0, .null)] (pc' := 35) (ls' := [some (.int p0), some (.int p1), some (.int p2)]) (st' := [.int (p1 + p2)]) (g' := g) (by decide +kernel) rfl ?_
    obtain rfl := Option.some.inj H
    exact xret_i A hR hz (by decide +kernel) rfl ⟨rfl, rfl⟩
  · rw [if_neg h1] at H
    by_cases h2 : p0 = 5
    · rw [if_pos h2] at H
      refine xtabIn A (dflt := 55) (lo := 4) (hi := 7) (off := 35) (offs := #[(31), (35), (39), (43)]) (len := 31) (tgt := 36) (5) (by rw [h2]; rfl) (by decide +kernel) ?_
      refine xb A [(.iload_n 1, 1, 0, 0, .null), (.iload_n 2, 1, 0, 0, .null), (.isub, 1, 0, 0, .null)] (pc' := 39) (ls' := [some (.int p0), some (.int p1), some (.int p2)]) (st' := [.int (p1 - p2)]) (g' := g) (by decide +kernel) rfl ?_
      obtain rfl := Option.some.inj H
      exact xret_i A hR hz (by decide +kernel) rfl ⟨rfl, rfl⟩
    · rw [if_neg h2] at H
      by_cases h3 : p0 = 6
      · rw [if_pos h3] at H
        refine xtabIn A (dflt := 55) (lo := 4) (hi := 7) (off := 39) (offs := #[(31), (35), (39), (43)]) (len := 31) (tgt := 40) (6) (by rw [h3]; rfl) (by decide +kernel) ?_
        refine xb A [(.iload_n 1, 1, 0, 0, .null), (.iload_n 2, 1, 0, 0, .null), (.imul, 1, 0, 0, .null)] (pc' := 43) (ls' := [some (.int p0), some (.int p1), some (.int p2)]) (st' := [.int (p1 * p2)]) (g' := g) (by decide +kernel) rfl ?_
        obtain rfl := Option.some.inj H
        exact xret_i A hR hz (by decide +kernel) rfl ⟨rfl, rfl⟩
      · rw [if_neg h3] at H
        by_cases h4 : p0 = 7
        · rw [if_pos h4] at H
          refine xtabIn A (dflt := 55) (lo := 4) (hi := 7) (off := 43) (offs := #[(31), (35), (39), (43)]) (len := 31) (tgt := 44) (7) (by rw [h4]; rfl) (by decide +kernel) ?_
          refine xb A [(.iload_n 2, 1, 0, 0, .null)] (pc' := 45) (ls' := [some (.int p0), some (.int p1), some (.int p2)]) (st' := [.int p2]) (g' := g) (by decide +kernel) rfl ?_
          refine xif_eq A (9) 54 48 (by decide +kernel) (fun h5 => ?_) (fun h5 => ?_)
          · rw [if_pos h5] at H
            refine xb A [(.iconst 0, 1, 0, 0, .int 0)] (pc' := 55) (ls' := [some (.int p0), some (.int p1), some (.int p2)]) (st' := [.int 0]) (g' := g) (by decide +kernel) rfl ?_
            obtain rfl := Option.some.inj H
            exact xret_i A hR hz (by decide +kernel) rfl ⟨rfl, rfl⟩
          · rw [if_neg h5] at H
            refine xb A [(.iload_n 1, 1, 0, 0, .null), (.iload_n 2, 1, 0, 0, .null)] (pc' := 50) (ls' := [some (.int p0), some (.int p1), some (.int p2)]) (st' := [.int p2, .int p1]) (g' := g) (by decide +kernel) rfl ?_
            obtain ⟨h6, H⟩ := xg_elim H
            refine xidiv A (nxt := 51) (by decide +kernel) h6 ?_
            refine xgoto A (4) 55 (by decide +kernel) ?_
            obtain rfl := Option.some.inj H
            exact xret_i A hR hz (by decide +kernel) rfl ⟨rfl, rfl⟩
        · rw [if_neg h4] at H
          refine xtabOut A (dflt := 55) (lo := 4) (hi := 7) (offs := #[(31), (35), (39), (43)]) (len := 31) (tgt := 56) (by decide +kernel) ?_ ?_
          · have e0 := lv_neT (a := 4) h1 rfl; have e1 := lv_neT (a := 5) h2 rfl; have e2 := lv_neT (a := 6) h3 rfl; have e3 := lv_neT (a := 7) h4 rfl; omega
          · skip
            refine xb A [(.iconst 0, 1, 0, 0, .int 0)] (pc' := 57) (ls' := [some (.int p0), some (.int p1), some (.int p2)]) (st' := [.int 0]) (g' := g) (by decide +kernel) rfl ?_
            obtain rfl := Option.some.inj H
            exact xret_i A hR hz (by decide +kernel) rfl ⟨rfl, rfl⟩
def fp_X2_answer_12_45 : List (Nat × Option Nat) := [(16, none)]
def f_X2_answer_12_45_58 (k15 : Int32 → Int32 → Int32 → xG → Option (Int32 × xG)) (l3 : Int32) (l4 : Int32) (l5 : Int32) (l6 : Int32) (l7 : Int32) (g : xG) : Option (Int32 × xG) :=
  if l6 = 1 then
    xl (xput g 16 24 l4 l7) fun w2 =>
    k15 l3 (l4 + 1) (l5 + 1) w2
  else
    xl (xput g 16 24 l4 (xat g 45 9 l7)) fun w1 =>
    k15 l3 (l4 + 1) (l5 + 1) w1
def f_X2_answer_12_45_156 (k15 : Int32 → Int32 → Int32 → xG → Option (Int32 × xG)) (l3 : Int32) (l4 : Int32) (l5 : Int32) (l6 : Int32) (l8 : Int32) (l9 : Int32) (g : xG) : Option (Int32 × xG) :=
  (f_X2_joined l6 l9 l8).bind fun w3 =>
  xl (xput g 16 24 l4 w3) fun w4 =>
  k15 l3 (l4 + 1) (l5 + 1) w4
def f_X2_answer_12_45_15  : Nat → Int32 → Int32 → Int32 → xG → Option (Int32 × xG)
  | 0, _, _, _, _ => none
  | n + 1, l3, l4, l5, g =>
    if 408 ≤ l5 then
      some (0, g)
    else
      if (xat g 13 408 l3) = 1 then
        f_X2_answer_12_45_58 (f_X2_answer_12_45_15 n) (l3 + 1) l4 l5 (xat g 13 408 l3) (xat g 14 408 l3) g
      else
        if (xat g 13 408 l3) = 2 then
          f_X2_answer_12_45_58 (f_X2_answer_12_45_15 n) (l3 + 1) l4 l5 (xat g 13 408 l3) (xat g 14 408 l3) g
        else
          if (xat g 13 408 l3) = 0 then
            some (xat g 16 24 (l4 - 1), g)
          else
            if (xat g 13 408 l3) = 3 then
              if (xat g 16 24 (l4 - 2)) < (xat g 16 24 (l4 - 1)) then
                f_X2_answer_12_45_15 n (l3 + 1) (l4 + (-2)) (l5 + 1) g
              else
                f_X2_answer_12_45_15 n (xat g 14 408 l3) (l4 + (-2)) (l5 + 1) g
            else
              if (xat g 13 408 l3) = 7 then
                if (xat g 16 24 (l4 - 1)) = 0 then
                  some (0, g)
                else
                  f_X2_answer_12_45_156 (f_X2_answer_12_45_15 n) (l3 + 1) (l4 + (-2)) l5 (xat g 13 408 l3) (xat g 16 24 (l4 - 1)) (xat g 16 24 (l4 - 2)) g
              else
                f_X2_answer_12_45_156 (f_X2_answer_12_45_15 n) (l3 + 1) (l4 + (-2)) l5 (xat g 13 408 l3) (xat g 16 24 (l4 - 1)) (xat g 16 24 (l4 - 2)) g
def f_X2_answer_12_45 (p1 : Int32) (g : xG) : Option (Int32 × xG) :=
  f_X2_answer_12_45_15 xN (xat g 15 4 p1) 0 0 g
set_option maxRecDepth 20000 in
theorem t_X2_answer_12_45_58 {k : xK} {S : List xSh} {out : Int32 × xG} (hS : xpf SH1 S) (A : xAt k mX2_answer.2.1 2 SH1 S) (hR : xRet k 0 0 S (fun r g' => r = some (.int out.1) ∧ g' = out.2) mX2_answer.2.2.2) (hrm : xrm k = { frames := 1, cells := 0, slots := 0, locals := 22 }) (hz : xhs k = xb0 k + S.length) {k15 : Int32 → Int32 → Int32 → xG → Option (Int32 × xG)} (hk15 : ∀ (l3 : Int32) (l4 : Int32) (l5 : Int32) (g : xG), k15 l3 l4 l5 g = some out → xW k S 0 0 15 [some (.ref 12), none, some (.ref 45), some (.int l3), some (.int l4), some (.int l5), none, none, none, none] [] g) : ∀ (l3 : Int32) (l4 : Int32) (l5 : Int32) (l6 : Int32) (l7 : Int32) (g : xG), f_X2_answer_12_45_58 k15 l3 l4 l5 l6 l7 g = some out → xW k S 0 0 58 [some (.ref 12), none, some (.ref 45), some (.int l3), some (.int l4), some (.int l5), some (.int l6), some (.int l7), none, none] [] g := by
  intro l3 l4 l5 l6 l7 g H
  have H : (if l6 = 1 then
  xl (xput g 16 24 l4 l7) fun w2 =>
  k15 l3 (l4 + 1) (l5 + 1) w2
else
  xl (xput g 16 24 l4 (xat g 45 9 l7)) fun w1 =>
  k15 l3 (l4 + 1) (l5 + 1) w1) = some out := H
  refine xb A [(.aload_n 0, 1, 0, 0, .null), (.getfield 23, 3, 12, 3, .ref 16), (.iload 4, 2, 0, 0, .null), (.iload 6, 2, 0, 0, .null), (.iconst 1, 1, 0, 0, .int 1)] (pc' := 67) (ls' := [some (.ref 12), none, some (.ref 45), some (.int l3), some (.int l4), some (.int l5), some (.int l6), some (.int l7), none, none]) (st' := [.int 1, .int l6, .int l4, .ref 16]) (g' := g) (by decide +kernel) rfl ?_
  refine xic_ne A (8) 75 70 (by decide +kernel) (fun h3 => ?_) (fun h3 => ?_)
  · rw [if_neg h3] at H
    refine xb A [(.aload_n 2, 1, 0, 0, .null), (.iload 7, 2, 0, 0, .null)] (pc' := 78) (ls' := [some (.ref 12), none, some (.ref 45), some (.int l3), some (.int l4), some (.int l5), some (.int l6), some (.int l7), none, none]) (st' := [.int l7, .ref 45, .int l4, .ref 16]) (g' := g) (by decide +kernel) rfl ?_
    refine xcallSN A (ix := 46) (nxt := 81) (host := "NoonRinger") hrm hz [.ref 45, .int l7] [.int l4, .ref 16] 26 (c_X11_at (hS _ _ sh_45) (by decide)) ok_X11_at (by decide +kernel) rfl (fun r g1 hq => ?_)
    rw [hq.1, hq.2]
    show xW k S 0 0 81 [some (.ref 12), none, some (.ref 45), some (.int l3), some (.int l4), some (.int l5), some (.int l6), some (.int l7), none, none] [.int (xat g 45 9 l7), .int l4, .ref 16] g
    obtain ⟨w1, e1, H⟩ := xl_elim H
    refine xcallSN A (ix := 42) (nxt := 84) (host := "NoonRinger") hrm hz [.ref 16, .int l4, .int (xat g 45 9 l7)] [] 6 (c_X11_put (hS _ _ sh_16) (by decide)) ok_X11_put (by decide +kernel) rfl (fun r g1 hq => ?_)
    rw [hq.1, hq.2]
    rw [e1]
    show xW k S 0 0 84 [some (.ref 12), none, some (.ref 45), some (.int l3), some (.int l4), some (.int l5), some (.int l6), some (.int l7), none, none] [] w1
    refine xb A [(.iinc 4 1, 3, 0, 0, .null)] (pc' := 87) (ls' := [some (.ref 12), none, some (.ref 45), some (.int l3), some (.int (l4 + 1)), some (.int l5), some (.int l6), some (.int l7), none, none]) (st' := []) (g' := w1) (by decide +kernel) rfl ?_
    refine xgoto A (103) 190 (by decide +kernel) ?_
    refine xb A [(.iinc 5 1, 3, 0, 0, .null)] (pc' := 193) (ls' := [some (.ref 12), none, some (.ref 45), some (.int l3), some (.int (l4 + 1)), some (.int (l5 + 1)), some (.int l6), some (.int l7), none, none]) (st' := []) (g' := w1) (by decide +kernel) rfl ?_
    refine xgoto A (-178) 15 (by decide +kernel) ?_
    refine xweak (ls' := [some (.ref 12), none, some (.ref 45), some (.int l3), some (.int (l4 + 1)), some (.int (l5 + 1)), none, none, none, none]) (by exact ⟨rfl, ⟨rfl, ⟨rfl, ⟨rfl, ⟨rfl, trivial⟩⟩⟩⟩⟩) ?_
    exact hk15 _ _ _ _ H
  · rw [if_pos h3] at H
    refine xb A [(.iload 7, 2, 0, 0, .null)] (pc' := 72) (ls' := [some (.ref 12), none, some (.ref 45), some (.int l3), some (.int l4), some (.int l5), some (.int l6), some (.int l7), none, none]) (st' := [.int l7, .int l4, .ref 16]) (g' := g) (by decide +kernel) rfl ?_
    refine xgoto A (9) 81 (by decide +kernel) ?_
    obtain ⟨w2, e2, H⟩ := xl_elim H
    refine xcallSN A (ix := 42) (nxt := 84) (host := "NoonRinger") hrm hz [.ref 16, .int l4, .int l7] [] 6 (c_X11_put (hS _ _ sh_16) (by decide)) ok_X11_put (by decide +kernel) rfl (fun r g1 hq => ?_)
    rw [hq.1, hq.2]
    rw [e2]
    show xW k S 0 0 84 [some (.ref 12), none, some (.ref 45), some (.int l3), some (.int l4), some (.int l5), some (.int l6), some (.int l7), none, none] [] w2
    refine xb A [(.iinc 4 1, 3, 0, 0, .null)] (pc' := 87) (ls' := [some (.ref 12), none, some (.ref 45), some (.int l3), some (.int (l4 + 1)), some (.int l5), some (.int l6), some (.int l7), none, none]) (st' := []) (g' := w2) (by decide +kernel) rfl ?_
    refine xgoto A (103) 190 (by decide +kernel) ?_
    refine xb A [(.iinc 5 1, 3, 0, 0, .null)] (pc' := 193) (ls' := [some (.ref 12), none, some (.ref 45), some (.int l3), some (.int (l4 + 1)), some (.int (l5 + 1)), some (.int l6), some (.int l7), none, none]) (st' := []) (g' := w2) (by decide +kernel) rfl ?_
    refine xgoto A (-178) 15 (by decide +kernel) ?_
    refine xweak (ls' := [some (.ref 12), none, some (.ref 45), some (.int l3), some (.int (l4 + 1)), some (.int (l5 + 1)), none, none, none, none]) (by exact ⟨rfl, ⟨rfl, ⟨rfl, ⟨rfl, ⟨rfl, trivial⟩⟩⟩⟩⟩) ?_
    exact hk15 _ _ _ _ H
theorem fr_X2_answer_12_45_58 {k15 : Int32 → Int32 → Int32 → xG → Option (Int32 × xG)} (hk15 : ∀ (l3 : Int32) (l4 : Int32) (l5 : Int32) (g : xG) (out : Int32 × xG), k15 l3 l4 l5 g = some out → xfrm fp_X2_answer_12_45 g (out.2)) : ∀ (l3 : Int32) (l4 : Int32) (l5 : Int32) (l6 : Int32) (l7 : Int32) (g : xG) (out : Int32 × xG), f_X2_answer_12_45_58 k15 l3 l4 l5 l6 l7 g = some out → xfrm fp_X2_answer_12_45 g (out.2) := by
  intro l3 l4 l5 l6 l7 g out H
  have H : (if l6 = 1 then
  xl (xput g 16 24 l4 l7) fun w2 =>
  k15 l3 (l4 + 1) (l5 + 1) w2
else
  xl (xput g 16 24 l4 (xat g 45 9 l7)) fun w1 =>
  k15 l3 (l4 + 1) (l5 + 1) w1) = some out := H
  by_cases h3 : l6 = 1
  · rw [if_pos h3] at H
    obtain ⟨w2, e2, H⟩ := xl_elim H
    have hf2 : xfrm fp_X2_answer_12_45 g (w2) := xfrm_xput xfrm.rf rfl e2
    exact xfrm.tr hf2 (hk15 _ _ _ _ _ H) rfl
  · rw [if_neg h3] at H
    obtain ⟨w1, e1, H⟩ := xl_elim H
    have hf1 : xfrm fp_X2_answer_12_45 g (w1) := xfrm_xput xfrm.rf rfl e1
    exact xfrm.tr hf1 (hk15 _ _ _ _ _ H) rfl
set_option maxRecDepth 20000 in
theorem t_X2_answer_12_45_156 {k : xK} {S : List xSh} {out : Int32 × xG} (hS : xpf SH1 S) (A : xAt k mX2_answer.2.1 2 SH1 S) (hR : xRet k 0 0 S (fun r g' => r = some (.int out.1) ∧ g' = out.2) mX2_answer.2.2.2) (hrm : xrm k = { frames := 1, cells := 0, slots := 0, locals := 22 }) (hz : xhs k = xb0 k + S.length) {k15 : Int32 → Int32 → Int32 → xG → Option (Int32 × xG)} (hk15 : ∀ (l3 : Int32) (l4 : Int32) (l5 : Int32) (g : xG), k15 l3 l4 l5 g = some out → xW k S 0 0 15 [some (.ref 12), none, some (.ref 45), some (.int l3), some (.int l4), some (.int l5), none, none, none, none] [] g) : ∀ (l3 : Int32) (l4 : Int32) (l5 : Int32) (l6 : Int32) (l8 : Int32) (l9 : Int32) (g : xG), f_X2_answer_12_45_156 k15 l3 l4 l5 l6 l8 l9 g = some out → xW k S 0 0 156 [some (.ref 12), none, some (.ref 45), some (.int l3), some (.int l4), some (.int l5), some (.int l6), none, some (.int l8), some (.int l9)] [] g := by
  intro l3 l4 l5 l6 l8 l9 g H
  have H : ((f_X2_joined l6 l9 l8).bind fun w3 =>
xl (xput g 16 24 l4 w3) fun w4 =>
k15 l3 (l4 + 1) (l5 + 1) w4) = some out := H
  refine xb A [(.aload_n 0, 1, 0, 0, .null), (.getfield 23, 3, 12, 3, .ref 16), (.iload 4, 2, 0, 0, .null), (.iload 6, 2, 0, 0, .null), (.iload 9, 2, 0, 0, .null), (.iload 8, 2, 0, 0, .null)] (pc' := 168) (ls' := [some (.ref 12), none, some (.ref 45), some (.int l3), some (.int l4), some (.int l5), some (.int l6), none, some (.int l8), some (.int l9)]) (st' := [.int l8, .int l9, .int l6, .int l4, .ref 16]) (g' := g) (by decide +kernel) rfl ?_
  obtain ⟨w3, e3, H⟩ := xbind H
  refine xcallS A (ix := 50) (nxt := 171) hrm hz [.int l6, .int l9, .int l8] [.int l4, .ref 16] 989 (c_X2_joined hS _ e3) ok_X2_joined (by decide +kernel) rfl (fun r g1 hq => ?_)
  rw [hq.1, hq.2]
  show xW k S 0 0 171 [some (.ref 12), none, some (.ref 45), some (.int l3), some (.int l4), some (.int l5), some (.int l6), none, some (.int l8), some (.int l9)] [.int w3, .int l4, .ref 16] g
  obtain ⟨w4, e4, H⟩ := xl_elim H
  refine xcallSN A (ix := 42) (nxt := 174) (host := "NoonRinger") hrm hz [.ref 16, .int l4, .int w3] [] 6 (c_X11_put (hS _ _ sh_16) (by decide)) ok_X11_put (by decide +kernel) rfl (fun r g1 hq => ?_)
  rw [hq.1, hq.2]
  rw [e4]
  show xW k S 0 0 174 [some (.ref 12), none, some (.ref 45), some (.int l3), some (.int l4), some (.int l5), some (.int l6), none, some (.int l8), some (.int l9)] [] w4
  refine xb A [(.iinc 4 1, 3, 0, 0, .null)] (pc' := 177) (ls' := [some (.ref 12), none, some (.ref 45), some (.int l3), some (.int (l4 + 1)), some (.int l5), some (.int l6), none, some (.int l8), some (.int l9)]) (st' := []) (g' := w4) (by decide +kernel) rfl ?_
  refine xgoto A (13) 190 (by decide +kernel) ?_
  refine xb A [(.iinc 5 1, 3, 0, 0, .null)] (pc' := 193) (ls' := [some (.ref 12), none, some (.ref 45), some (.int l3), some (.int (l4 + 1)), some (.int (l5 + 1)), some (.int l6), none, some (.int l8), some (.int l9)]) (st' := []) (g' := w4) (by decide +kernel) rfl ?_
  refine xgoto A (-178) 15 (by decide +kernel) ?_
  refine xweak (ls' := [some (.ref 12), none, some (.ref 45), some (.int l3), some (.int (l4 + 1)), some (.int (l5 + 1)), none, none, none, none]) (by exact ⟨rfl, ⟨rfl, ⟨rfl, ⟨rfl, ⟨rfl, trivial⟩⟩⟩⟩⟩) ?_
  exact hk15 _ _ _ _ H
theorem fr_X2_answer_12_45_156 {k15 : Int32 → Int32 → Int32 → xG → Option (Int32 × xG)} (hk15 : ∀ (l3 : Int32) (l4 : Int32) (l5 : Int32) (g : xG) (out : Int32 × xG), k15 l3 l4 l5 g = some out → xfrm fp_X2_answer_12_45 g (out.2)) : ∀ (l3 : Int32) (l4 : Int32) (l5 : Int32) (l6 : Int32) (l8 : Int32) (l9 : Int32) (g : xG) (out : Int32 × xG), f_X2_answer_12_45_156 k15 l3 l4 l5 l6 l8 l9 g = some out → xfrm fp_X2_answer_12_45 g (out.2) := by
  intro l3 l4 l5 l6 l8 l9 g out H
  have H : ((f_X2_joined l6 l9 l8).bind fun w3 =>
xl (xput g 16 24 l4 w3) fun w4 =>
k15 l3 (l4 + 1) (l5 + 1) w4) = some out := H
  obtain ⟨w3, e3, H⟩ := xbind H
  obtain ⟨w4, e4, H⟩ := xl_elim H
  have hf3 : xfrm fp_X2_answer_12_45 g (w4) := xfrm_xput xfrm.rf rfl e4
  exact xfrm.tr hf3 (hk15 _ _ _ _ _ H) rfl
set_option maxRecDepth 20000 in
theorem t_X2_answer_12_45_15 {k : xK} {S : List xSh} {out : Int32 × xG} (hS : xpf SH1 S) (A : xAt k mX2_answer.2.1 2 SH1 S) (hR : xRet k 0 0 S (fun r g' => r = some (.int out.1) ∧ g' = out.2) mX2_answer.2.2.2) (hrm : xrm k = { frames := 1, cells := 0, slots := 0, locals := 22 }) (hz : xhs k = xb0 k + S.length)   : ∀ (n : Nat) (l3 : Int32) (l4 : Int32) (l5 : Int32) (g : xG), f_X2_answer_12_45_15 n l3 l4 l5 g = some out → xW k S 0 0 15 [some (.ref 12), none, some (.ref 45), some (.int l3), some (.int l4), some (.int l5), none, none, none, none] [] g := by
  intro n
  induction n with
  | zero => intro l3 l4 l5 g H; exact absurd H (by simp [f_X2_answer_12_45_15])
  | succ n ih =>
    intro l3 l4 l5 g H
    have H : (if 408 ≤ l5 then
  some (0, g)
else
  if (xat g 13 408 l3) = 1 then
    f_X2_answer_12_45_58 (f_X2_answer_12_45_15 n) (l3 + 1) l4 l5 (xat g 13 408 l3) (xat g 14 408 l3) g
  else
    if (xat g 13 408 l3) = 2 then
      f_X2_answer_12_45_58 (f_X2_answer_12_45_15 n) (l3 + 1) l4 l5 (xat g 13 408 l3) (xat g 14 408 l3) g
    else
      if (xat g 13 408 l3) = 0 then
        some (xat g 16 24 (l4 - 1), g)
      else
        if (xat g 13 408 l3) = 3 then
          if (xat g 16 24 (l4 - 2)) < (xat g 16 24 (l4 - 1)) then
            f_X2_answer_12_45_15 n (l3 + 1) (l4 + (-2)) (l5 + 1) g
          else
            f_X2_answer_12_45_15 n (xat g 14 408 l3) (l4 + (-2)) (l5 + 1) g
        else
          if (xat g 13 408 l3) = 7 then
            if (xat g 16 24 (l4 - 1)) = 0 then
              some (0, g)
            else
              f_X2_answer_12_45_156 (f_X2_answer_12_45_15 n) (l3 + 1) (l4 + (-2)) l5 (xat g 13 408 l3) (xat g 16 24 (l4 - 1)) (xat g 16 24 (l4 - 2)) g
          else
            f_X2_answer_12_45_156 (f_X2_answer_12_45_15 n) (l3 + 1) (l4 + (-2)) l5 (xat g 13 408 l3) (xat g 16 24 (l4 - 1)) (xat g 16 24 (l4 - 2)) g) = some out := H
    refine xb A [(.iload 5, 2, 0, 0, .null), (.sipush 408, 3, 0, 0, .int 408)] (pc' := 20) (ls' := [some (.ref 12), none, some (.ref 45), some (.int l3), some (.int l4), some (.int l5), none, none, none, none]) (st' := [.int 408, .int l5]) (g' := g) (by decide +kernel) rfl ?_
    refine xic_ge A (176) 196 23 (by decide +kernel) (fun h1 => ?_) (fun h1 => ?_)
    · rw [if_pos h1] at H
      refine xb A [(.iconst 0, 1, 0, 0, .int 0)] (pc' := 197) (ls' := [some (.ref 12), none, some (.ref 45), some (.int l3), some (.int l4), some (.int l5), none, none, none, none]) (st' := [.int 0]) (g' := g) (by decide +kernel) rfl ?_
      obtain rfl := Option.some.inj H
      exact xret_i A hR hz (by decide +kernel) rfl ⟨rfl, rfl⟩
    · rw [if_neg h1] at H
      refine xb A [(.aload_n 0, 1, 0, 0, .null), (.getfield 13, 3, 12, 0, .ref 13), (.iload_n 3, 1, 0, 0, .null)] (pc' := 28) (ls' := [some (.ref 12), none, some (.ref 45), some (.int l3), some (.int l4), some (.int l5), none, none, none, none]) (st' := [.int l3, .ref 13]) (g' := g) (by decide +kernel) rfl ?_
      refine xcallSN A (ix := 46) (nxt := 31) (host := "NoonRinger") hrm hz [.ref 13, .int l3] [] 26 (c_X11_at (hS _ _ sh_13) (by decide)) ok_X11_at (by decide +kernel) rfl (fun r g1 hq => ?_)
      rw [hq.1, hq.2]
      show xW k S 0 0 31 [some (.ref 12), none, some (.ref 45), some (.int l3), some (.int l4), some (.int l5), none, none, none, none] [.int (xat g 13 408 l3)] g
      refine xb A [(.istore 6, 2, 0, 0, .null), (.aload_n 0, 1, 0, 0, .null), (.getfield 17, 3, 12, 1, .ref 14), (.iload_n 3, 1, 0, 0, .null)] (pc' := 38) (ls' := [some (.ref 12), none, some (.ref 45), some (.int l3), some (.int l4), some (.int l5), some (.int (xat g 13 408 l3)), none, none, none]) (st' := [.int l3, .ref 14]) (g' := g) (by decide +kernel) rfl ?_
      refine xcallSN A (ix := 46) (nxt := 41) (host := "NoonRinger") hrm hz [.ref 14, .int l3] [] 26 (c_X11_at (hS _ _ sh_14) (by decide)) ok_X11_at (by decide +kernel) rfl (fun r g1 hq => ?_)
      rw [hq.1, hq.2]
      show xW k S 0 0 41 [some (.ref 12), none, some (.ref 45), some (.int l3), some (.int l4), some (.int l5), some (.int (xat g 13 408 l3)), none, none, none] [.int (xat g 14 408 l3)] g
      refine xb A [(.istore 7, 2, 0, 0, .null), (.iinc 3 1, 3, 0, 0, .null), (.iload 6, 2, 0, 0, .null), (.iconst 1, 1, 0, 0, .int 1)] (pc' := 49) (ls' := [some (.ref 12), none, some (.ref 45), some (.int (l3 + 1)), some (.int l4), some (.int l5), some (.int (xat g 13 408 l3)), some (.int (xat g 14 408 l3)), none, none]) (st' := [.int 1, .int (xat g 13 408 l3)]) (g' := g) (by decide +kernel) rfl ?_
      refine xic_eq A (9) 58 52 (by decide +kernel) (fun h2 => ?_) (fun h2 => ?_)
      · rw [if_pos h2] at H
        exact t_X2_answer_12_45_58 hS A hR hrm hz ih _ _ _ _ _ _ H
      · rw [if_neg h2] at H
        refine xb A [(.iload 6, 2, 0, 0, .null), (.iconst 2, 1, 0, 0, .int 2)] (pc' := 55) (ls' := [some (.ref 12), none, some (.ref 45), some (.int (l3 + 1)), some (.int l4), some (.int l5), some (.int (xat g 13 408 l3)), some (.int (xat g 14 408 l3)), none, none]) (st' := [.int 2, .int (xat g 13 408 l3)]) (g' := g) (by decide +kernel) rfl ?_
        refine xic_ne A (35) 90 58 (by decide +kernel) (fun h4 => ?_) (fun h4 => ?_)
        · rw [if_neg h4] at H
          refine xb A [(.iload 6, 2, 0, 0, .null)] (pc' := 92) (ls' := [some (.ref 12), none, some (.ref 45), some (.int (l3 + 1)), some (.int l4), some (.int l5), some (.int (xat g 13 408 l3)), some (.int (xat g 14 408 l3)), none, none]) (st' := [.int (xat g 13 408 l3)]) (g' := g) (by decide +kernel) rfl ?_
          refine xif_ne A (15) 107 95 (by decide +kernel) (fun h5 => ?_) (fun h5 => ?_)
          · rw [if_neg h5] at H
            refine xb A [(.aload_n 0, 1, 0, 0, .null), (.getfield 23, 3, 12, 3, .ref 16), (.iload 4, 2, 0, 0, .null), (.iconst 1, 1, 0, 0, .int 1), (.isub, 1, 0, 0, .null)] (pc' := 115) (ls' := [some (.ref 12), none, some (.ref 45), some (.int (l3 + 1)), some (.int l4), some (.int l5), some (.int (xat g 13 408 l3)), some (.int (xat g 14 408 l3)), none, none]) (st' := [.int (l4 - 1), .ref 16]) (g' := g) (by decide +kernel) rfl ?_
            refine xcallSN A (ix := 46) (nxt := 118) (host := "NoonRinger") hrm hz [.ref 16, .int (l4 - 1)] [] 26 (c_X11_at (hS _ _ sh_16) (by decide)) ok_X11_at (by decide +kernel) rfl (fun r g1 hq => ?_)
            rw [hq.1, hq.2]
            show xW k S 0 0 118 [some (.ref 12), none, some (.ref 45), some (.int (l3 + 1)), some (.int l4), some (.int l5), some (.int (xat g 13 408 l3)), some (.int (xat g 14 408 l3)), none, none] [.int (xat g 16 24 (l4 - 1))] g
            refine xb A [(.istore 8, 2, 0, 0, .null), (.aload_n 0, 1, 0, 0, .null), (.getfield 23, 3, 12, 3, .ref 16), (.iload 4, 2, 0, 0, .null), (.iconst 2, 1, 0, 0, .int 2), (.isub, 1, 0, 0, .null)] (pc' := 128) (ls' := [some (.ref 12), none, some (.ref 45), some (.int (l3 + 1)), some (.int l4), some (.int l5), some (.int (xat g 13 408 l3)), some (.int (xat g 14 408 l3)), some (.int (xat g 16 24 (l4 - 1))), none]) (st' := [.int (l4 - 2), .ref 16]) (g' := g) (by decide +kernel) rfl ?_
            refine xcallSN A (ix := 46) (nxt := 131) (host := "NoonRinger") hrm hz [.ref 16, .int (l4 - 2)] [] 26 (c_X11_at (hS _ _ sh_16) (by decide)) ok_X11_at (by decide +kernel) rfl (fun r g1 hq => ?_)
            rw [hq.1, hq.2]
            show xW k S 0 0 131 [some (.ref 12), none, some (.ref 45), some (.int (l3 + 1)), some (.int l4), some (.int l5), some (.int (xat g 13 408 l3)), some (.int (xat g 14 408 l3)), some (.int (xat g 16 24 (l4 - 1))), none] [.int (xat g 16 24 (l4 - 2))] g
            refine xb A [(.istore 9, 2, 0, 0, .null), (.iinc 4 (-2), 3, 0, 0, .null), (.iload 6, 2, 0, 0, .null), (.iconst 3, 1, 0, 0, .int 3)] (pc' := 139) (ls' := [some (.ref 12), none, some (.ref 45), some (.int (l3 + 1)), some (.int (l4 + (-2))), some (.int l5), some (.int (xat g 13 408 l3)), some (.int (xat g 14 408 l3)), some (.int (xat g 16 24 (l4 - 1))), some (.int (xat g 16 24 (l4 - 2)))]) (st' := [.int 3, .int (xat g 13 408 l3)]) (g' := g) (by decide +kernel) rfl ?_
            refine xic_eq A (41) 180 142 (by decide +kernel) (fun h6 => ?_) (fun h6 => ?_)
            · rw [if_pos h6] at H
              refine xb A [(.iload 9, 2, 0, 0, .null), (.iload 8, 2, 0, 0, .null)] (pc' := 184) (ls' := [some (.ref 12), none, some (.ref 45), some (.int (l3 + 1)), some (.int (l4 + (-2))), some (.int l5), some (.int (xat g 13 408 l3)), some (.int (xat g 14 408 l3)), some (.int (xat g 16 24 (l4 - 1))), some (.int (xat g 16 24 (l4 - 2)))]) (st' := [.int (xat g 16 24 (l4 - 1)), .int (xat g 16 24 (l4 - 2))]) (g' := g) (by decide +kernel) rfl ?_
              refine xic_lt A (6) 190 187 (by decide +kernel) (fun h7 => ?_) (fun h7 => ?_)
              · rw [if_pos h7] at H
                refine xb A [(.iinc 5 1, 3, 0, 0, .null)] (pc' := 193) (ls' := [some (.ref 12), none, some (.ref 45), some (.int (l3 + 1)), some (.int (l4 + (-2))), some (.int (l5 + 1)), some (.int (xat g 13 408 l3)), some (.int (xat g 14 408 l3)), some (.int (xat g 16 24 (l4 - 1))), some (.int (xat g 16 24 (l4 - 2)))]) (st' := []) (g' := g) (by decide +kernel) rfl ?_
                refine xgoto A (-178) 15 (by decide +kernel) ?_
                refine xweak (ls' := [some (.ref 12), none, some (.ref 45), some (.int (l3 + 1)), some (.int (l4 + (-2))), some (.int (l5 + 1)), none, none, none, none]) (by exact ⟨rfl, ⟨rfl, ⟨rfl, ⟨rfl, ⟨rfl, trivial⟩⟩⟩⟩⟩) ?_
                exact ih _ _ _ _ H
              · rw [if_neg h7] at H
                refine xb A [(.iload 7, 2, 0, 0, .null), (.istore_n 3, 1, 0, 0, .null), (.iinc 5 1, 3, 0, 0, .null)] (pc' := 193) (ls' := [some (.ref 12), none, some (.ref 45), some (.int (xat g 14 408 l3)), some (.int (l4 + (-2))), some (.int (l5 + 1)), some (.int (xat g 13 408 l3)), some (.int (xat g 14 408 l3)), some (.int (xat g 16 24 (l4 - 1))), some (.int (xat g 16 24 (l4 - 2)))]) (st' := []) (g' := g) (by decide +kernel) rfl ?_
                refine xgoto A (-178) 15 (by decide +kernel) ?_
                refine xweak (ls' := [some (.ref 12), none, some (.ref 45), some (.int (xat g 14 408 l3)), some (.int (l4 + (-2))), some (.int (l5 + 1)), none, none, none, none]) (by exact ⟨rfl, ⟨rfl, ⟨rfl, ⟨rfl, ⟨rfl, trivial⟩⟩⟩⟩⟩) ?_
                exact ih _ _ _ _ H
            · rw [if_neg h6] at H
              refine xb A [(.iload 6, 2, 0, 0, .null), (.bipush 7, 2, 0, 0, .int 7)] (pc' := 146) (ls' := [some (.ref 12), none, some (.ref 45), some (.int (l3 + 1)), some (.int (l4 + (-2))), some (.int l5), some (.int (xat g 13 408 l3)), some (.int (xat g 14 408 l3)), some (.int (xat g 16 24 (l4 - 1))), some (.int (xat g 16 24 (l4 - 2)))]) (st' := [.int 7, .int (xat g 13 408 l3)]) (g' := g) (by decide +kernel) rfl ?_
              refine xic_ne A (10) 156 149 (by decide +kernel) (fun h8 => ?_) (fun h8 => ?_)
              · rw [if_neg h8] at H
                refine xweak (ls' := [some (.ref 12), none, some (.ref 45), some (.int (l3 + 1)), some (.int (l4 + (-2))), some (.int l5), some (.int (xat g 13 408 l3)), none, some (.int (xat g 16 24 (l4 - 1))), some (.int (xat g 16 24 (l4 - 2)))]) (by exact ⟨rfl, ⟨rfl, ⟨rfl, ⟨rfl, ⟨rfl, ⟨rfl, ⟨rfl, ⟨rfl, trivial⟩⟩⟩⟩⟩⟩⟩⟩) ?_
                exact t_X2_answer_12_45_156 hS A hR hrm hz ih _ _ _ _ _ _ _ H
              · rw [if_pos h8] at H
                refine xb A [(.iload 8, 2, 0, 0, .null)] (pc' := 151) (ls' := [some (.ref 12), none, some (.ref 45), some (.int (l3 + 1)), some (.int (l4 + (-2))), some (.int l5), some (.int (xat g 13 408 l3)), some (.int (xat g 14 408 l3)), some (.int (xat g 16 24 (l4 - 1))), some (.int (xat g 16 24 (l4 - 2)))]) (st' := [.int (xat g 16 24 (l4 - 1))]) (g' := g) (by decide +kernel) rfl ?_
                refine xif_ne A (5) 156 154 (by decide +kernel) (fun h9 => ?_) (fun h9 => ?_)
                · rw [if_neg h9] at H
                  refine xweak (ls' := [some (.ref 12), none, some (.ref 45), some (.int (l3 + 1)), some (.int (l4 + (-2))), some (.int l5), some (.int (xat g 13 408 l3)), none, some (.int (xat g 16 24 (l4 - 1))), some (.int (xat g 16 24 (l4 - 2)))]) (by exact ⟨rfl, ⟨rfl, ⟨rfl, ⟨rfl, ⟨rfl, ⟨rfl, ⟨rfl, ⟨rfl, trivial⟩⟩⟩⟩⟩⟩⟩⟩) ?_
                  exact t_X2_answer_12_45_156 hS A hR hrm hz ih _ _ _ _ _ _ _ H
                · rw [if_pos h9] at H
                  refine xb A [(.iconst 0, 1, 0, 0, .int 0)] (pc' := 155) (ls' := [some (.ref 12), none, some (.ref 45), some (.int (l3 + 1)), some (.int (l4 + (-2))), some (.int l5), some (.int (xat g 13 408 l3)), some (.int (xat g 14 408 l3)), some (.int (xat g 16 24 (l4 - 1))), some (.int (xat g 16 24 (l4 - 2)))]) (st' := [.int 0]) (g' := g) (by decide +kernel) rfl ?_
                  obtain rfl := Option.some.inj H
                  exact xret_i A hR hz (by decide +kernel) rfl ⟨rfl, rfl⟩
          · rw [if_pos h5] at H
            refine xb A [(.aload_n 0, 1, 0, 0, .null), (.getfield 23, 3, 12, 3, .ref 16), (.iload 4, 2, 0, 0, .null), (.iconst 1, 1, 0, 0, .int 1), (.isub, 1, 0, 0, .null)] (pc' := 103) (ls' := [some (.ref 12), none, some (.ref 45), some (.int (l3 + 1)), some (.int l4), some (.int l5), some (.int (xat g 13 408 l3)), some (.int (xat g 14 408 l3)), none, none]) (st' := [.int (l4 - 1), .ref 16]) (g' := g) (by decide +kernel) rfl ?_
            refine xcallSN A (ix := 46) (nxt := 106) (host := "NoonRinger") hrm hz [.ref 16, .int (l4 - 1)] [] 26 (c_X11_at (hS _ _ sh_16) (by decide)) ok_X11_at (by decide +kernel) rfl (fun r g1 hq => ?_)
            rw [hq.1, hq.2]
            show xW k S 0 0 106 [some (.ref 12), none, some (.ref 45), some (.int (l3 + 1)), some (.int l4), some (.int l5), some (.int (xat g 13 408 l3)), some (.int (xat g 14 408 l3)), none, none] [.int (xat g 16 24 (l4 - 1))] g
            obtain rfl := Option.some.inj H
            exact xret_i A hR hz (by decide +kernel) rfl ⟨rfl, rfl⟩
        · rw [if_pos h4] at H
          exact t_X2_answer_12_45_58 hS A hR hrm hz ih _ _ _ _ _ _ H
theorem fr_X2_answer_12_45_15   : ∀ (n : Nat) (l3 : Int32) (l4 : Int32) (l5 : Int32) (g : xG) (out : Int32 × xG), f_X2_answer_12_45_15 n l3 l4 l5 g = some out → xfrm fp_X2_answer_12_45 g (out.2) := by
  intro n
  induction n with
  | zero => intro l3 l4 l5 g out H; exact absurd H (by simp [f_X2_answer_12_45_15])
  | succ n ih =>
    intro l3 l4 l5 g out H
    have H : (if 408 ≤ l5 then
  some (0, g)
else
  if (xat g 13 408 l3) = 1 then
    f_X2_answer_12_45_58 (f_X2_answer_12_45_15 n) (l3 + 1) l4 l5 (xat g 13 408 l3) (xat g 14 408 l3) g
  else
    if (xat g 13 408 l3) = 2 then
      f_X2_answer_12_45_58 (f_X2_answer_12_45_15 n) (l3 + 1) l4 l5 (xat g 13 408 l3) (xat g 14 408 l3) g
    else
      if (xat g 13 408 l3) = 0 then
        some (xat g 16 24 (l4 - 1), g)
      else
        if (xat g 13 408 l3) = 3 then
          if (xat g 16 24 (l4 - 2)) < (xat g 16 24 (l4 - 1)) then
            f_X2_answer_12_45_15 n (l3 + 1) (l4 + (-2)) (l5 + 1) g
          else
            f_X2_answer_12_45_15 n (xat g 14 408 l3) (l4 + (-2)) (l5 + 1) g
        else
          if (xat g 13 408 l3) = 7 then
            if (xat g 16 24 (l4 - 1)) = 0 then
              some (0, g)
            else
              f_X2_answer_12_45_156 (f_X2_answer_12_45_15 n) (l3 + 1) (l4 + (-2)) l5 (xat g 13 408 l3) (xat g 16 24 (l4 - 1)) (xat g 16 24 (l4 - 2)) g
          else
            f_X2_answer_12_45_156 (f_X2_answer_12_45_15 n) (l3 + 1) (l4 + (-2)) l5 (xat g 13 408 l3) (xat g 16 24 (l4 - 1)) (xat g 16 24 (l4 - 2)) g) = some out := H
    by_cases h1 : 408 ≤ l5
    · rw [if_pos h1] at H
      obtain rfl := Option.some.inj H
      exact xfrm.rf
    · rw [if_neg h1] at H
      by_cases h2 : (xat g 13 408 l3) = 1
      · rw [if_pos h2] at H
        exact xfrm.tr xfrm.rf (fr_X2_answer_12_45_58 ih _ _ _ _ _ _ _ H) rfl
      · rw [if_neg h2] at H
        by_cases h4 : (xat g 13 408 l3) = 2
        · rw [if_pos h4] at H
          exact xfrm.tr xfrm.rf (fr_X2_answer_12_45_58 ih _ _ _ _ _ _ _ H) rfl
        · rw [if_neg h4] at H
          by_cases h5 : (xat g 13 408 l3) = 0
          · rw [if_pos h5] at H
            obtain rfl := Option.some.inj H
            exact xfrm.rf
          · rw [if_neg h5] at H
            by_cases h6 : (xat g 13 408 l3) = 3
            · rw [if_pos h6] at H
              by_cases h7 : (xat g 16 24 (l4 - 2)) < (xat g 16 24 (l4 - 1))
              · rw [if_pos h7] at H
                exact xfrm.tr xfrm.rf (ih _ _ _ _ _ H) rfl
              · rw [if_neg h7] at H
                exact xfrm.tr xfrm.rf (ih _ _ _ _ _ H) rfl
            · rw [if_neg h6] at H
              by_cases h8 : (xat g 13 408 l3) = 7
              · rw [if_pos h8] at H
                by_cases h9 : (xat g 16 24 (l4 - 1)) = 0
                · rw [if_pos h9] at H
                  obtain rfl := Option.some.inj H
                  exact xfrm.rf
                · rw [if_neg h9] at H
                  exact xfrm.tr xfrm.rf (fr_X2_answer_12_45_156 ih _ _ _ _ _ _ _ _ H) rfl
              · rw [if_neg h8] at H
                exact xfrm.tr xfrm.rf (fr_X2_answer_12_45_156 ih _ _ _ _ _ _ _ _ H) rfl
set_option maxRecDepth 20000 in
theorem c_X2_answer_12_45 {S : List xSh} (hS : xpf SH1 S) {g : xG} {p1 : Int32} (out : Int32 × xG) (H : f_X2_answer_12_45 p1 g = some out) : xC mX2_answer 1 22 0 0 S [.ref 12, .int p1, .ref 45] g S (fun r g' => r = some (.int out.1) ∧ g' = out.2) := by
  have H : (f_X2_answer_12_45_15 xN (xat g 15 4 p1) 0 0 g) = some out := H
  refine xC.of 2 SH1 [some (.ref 12), some (.int p1), some (.ref 45), none, none, none, none, none, none, none] hS (by decide +kernel) rfl (fun _ _ => Nat.le_of_ble_eq_true rfl) (fun _ _ => rfl) ?_
  intro k A hR hrm hz
  refine xb A [(.aload_n 0, 1, 0, 0, .null), (.getfield 20, 3, 12, 2, .ref 15), (.iload_n 1, 1, 0, 0, .null)] (pc' := 5) (ls' := [some (.ref 12), some (.int p1), some (.ref 45), none, none, none, none, none, none, none]) (st' := [.int p1, .ref 15]) (g' := g) (by decide +kernel) rfl ?_
  refine xcallSN A (ix := 46) (nxt := 8) (host := "NoonRinger") hrm hz [.ref 15, .int p1] [] 26 (c_X11_at (hS _ _ sh_15) (by decide)) ok_X11_at (by decide +kernel) rfl (fun r g1 hq => ?_)
  rw [hq.1, hq.2]
  show xW k S 0 0 8 [some (.ref 12), some (.int p1), some (.ref 45), none, none, none, none, none, none, none] [.int (xat g 15 4 p1)] g
  refine xb A [(.istore_n 3, 1, 0, 0, .null), (.iconst 0, 1, 0, 0, .int 0), (.istore 4, 2, 0, 0, .null), (.iconst 0, 1, 0, 0, .int 0), (.istore 5, 2, 0, 0, .null)] (pc' := 15) (ls' := [some (.ref 12), some (.int p1), some (.ref 45), some (.int (xat g 15 4 p1)), some (.int 0), some (.int 0), none, none, none, none]) (st' := []) (g' := g) (by decide +kernel) rfl ?_
  refine xweak (ls' := [some (.ref 12), none, some (.ref 45), some (.int (xat g 15 4 p1)), some (.int 0), some (.int 0), none, none, none, none]) (by exact ⟨rfl, ⟨rfl, ⟨rfl, ⟨rfl, ⟨rfl, trivial⟩⟩⟩⟩⟩) ?_
  exact t_X2_answer_12_45_15 hS A hR hrm hz _ _ _ _ _ H
theorem fr_X2_answer_12_45 {p1 : Int32} {g : xG} (out : Int32 × xG) (H : f_X2_answer_12_45 p1 g = some out) : xfrm fp_X2_answer_12_45 g (out.2) := by
  have H : (f_X2_answer_12_45_15 xN (xat g 15 4 p1) 0 0 g) = some out := H
  exact xfrm.tr xfrm.rf (fr_X2_answer_12_45_15 _ _ _ _ _ _ H) rfl
def f_X1_heldTo (p0 : Int32) (p1 : Int32) : Int32 :=
  xmax 0 (xmin p0 p1)
set_option maxRecDepth 20000 in
theorem c_X1_heldTo {S : List xSh} (hS : xpf SH1 S) {g : xG} {p0 : Int32} {p1 : Int32} (out : Int32) (H : f_X1_heldTo p0 p1 = out) : xC mX1_heldTo 1 21 0 0 S [.int p0, .int p1] g S (fun r g' => r = some (.int out) ∧ g' = g) := by
  have H : (xmax 0 (xmin p0 p1)) = out := H
  refine xC.of 1 SH1 [some (.int p0), some (.int p1)] hS (by decide +kernel) rfl (fun _ _ => Nat.le_of_ble_eq_true rfl) (fun _ _ => rfl) ?_
  intro k A hR hrm hz
  refine xb A [(.iconst 0, 1, 0, 0, .int 0), (.iload_n 0, 1, 0, 0, .null), (.iload_n 1, 1, 0, 0, .null)] (pc' := 3) (ls' := [some (.int p0), some (.int p1)]) (st' := [.int p1, .int p0, .int 0]) (g' := g) (by decide +kernel) rfl ?_
  refine xmmin A (ix := 85) (nxt := 6) hrm [.int 0] 995 (by decide +kernel) rfl ?_
  refine xmmax A (ix := 90) (nxt := 9) hrm [] 996 (by decide +kernel) rfl ?_
  subst H
  exact xret_i A hR hz (by decide +kernel) rfl ⟨rfl, rfl⟩
def fp_X1_lawFrom_44_48 : List (Nat × Option Nat) := [(16, none), (45, none)]
def f_X1_lawFrom_44_48 (p2 : Int32) (p3 : Int32) (p4 : Int32) (g : xG) : Option (Int32 × xG) :=
  xl (xput g 45 9 0 (f_X10_between_38 p3 (f_X4_capital_3 g) g)) fun w1 =>
  xl (xput w1 45 9 1 (f_X6_of_48 p2 17 w1)) fun w2 =>
  xl (xput w2 45 9 2 (f_X4_honestyOf_3 p2 w2)) fun w3 =>
  xl (xput w3 45 9 3 (f_X6_of_48 p2 23 w3)) fun w4 =>
  xl (xput w4 45 9 4 (f_X6_get_48 0 w4)) fun w5 =>
  xl (xput w5 45 9 5 p2) fun w6 =>
  xl (xput w6 45 9 6 0) fun w7 =>
  (f_X6_peopleIn_48 (f_X4_capital_3 w7) (f_X4_people_3 w7) w7).bind fun w8 =>
  xl (xput w7 45 9 7 (f_J6_bitCount_0f7a4 w8)) fun w9 =>
  xl (xput w9 45 9 8 (f_X6_of_48 p2 29 w9)) fun w10 =>
  (f_X2_answer_12_45 0 w10).bind fun w11 =>
  if p4 = 0 then
    some (f_X1_heldTo (f_X2_mostOf 0) w11.1, w11.2)
  else
    xl (xput w11.2 45 9 6 (f_X1_heldTo (f_X2_mostOf 0) w11.1)) fun w12 =>
    (f_X2_answer_12_45 p4 w12).bind fun w13 =>
    some (f_X1_heldTo (f_X2_mostOf p4) w13.1, w13.2)
set_option maxRecDepth 20000 in
theorem c_X1_lawFrom_44_48 {S : List xSh} (hS : xpf SH1 S) {g : xG} {p2 : Int32} {p3 : Int32} {p4 : Int32} (out : Int32 × xG) (H : f_X1_lawFrom_44_48 p2 p3 p4 g = some out) : xC mX1_lawFrom 2 51 0 0 S [.ref 44, .ref 48, .int p2, .int p3, .int p4] g S (fun r g' => r = some (.int out.1) ∧ g' = out.2) := by
  have H : (xl (xput g 45 9 0 (f_X10_between_38 p3 (f_X4_capital_3 g) g)) fun w1 =>
xl (xput w1 45 9 1 (f_X6_of_48 p2 17 w1)) fun w2 =>
xl (xput w2 45 9 2 (f_X4_honestyOf_3 p2 w2)) fun w3 =>
xl (xput w3 45 9 3 (f_X6_of_48 p2 23 w3)) fun w4 =>
xl (xput w4 45 9 4 (f_X6_get_48 0 w4)) fun w5 =>
xl (xput w5 45 9 5 p2) fun w6 =>
xl (xput w6 45 9 6 0) fun w7 =>
(f_X6_peopleIn_48 (f_X4_capital_3 w7) (f_X4_people_3 w7) w7).bind fun w8 =>
xl (xput w7 45 9 7 (f_J6_bitCount_0f7a4 w8)) fun w9 =>
xl (xput w9 45 9 8 (f_X6_of_48 p2 29 w9)) fun w10 =>
(f_X2_answer_12_45 0 w10).bind fun w11 =>
if p4 = 0 then
  some (f_X1_heldTo (f_X2_mostOf 0) w11.1, w11.2)
else
  xl (xput w11.2 45 9 6 (f_X1_heldTo (f_X2_mostOf 0) w11.1)) fun w12 =>
  (f_X2_answer_12_45 p4 w12).bind fun w13 =>
  some (f_X1_heldTo (f_X2_mostOf p4) w13.1, w13.2)) = some out := H
  refine xC.of 1 SH1 [some (.ref 44), some (.ref 48), some (.int p2), some (.int p3), some (.int p4), none] hS (by decide +kernel) rfl (fun _ _ => Nat.le_of_ble_eq_true rfl) (fun _ _ => rfl) ?_
  intro k A hR hrm hz
  refine xb A [(.aload_n 0, 1, 0, 0, .null), (.getfield 11, 3, 44, 2, .ref 45), (.iconst 0, 1, 0, 0, .int 0), (.aload_n 0, 1, 0, 0, .null), (.getfield 21, 3, 44, 1, .ref 38), (.iload_n 3, 1, 0, 0, .null), (.aload_n 0, 1, 0, 0, .null), (.getfield 17, 3, 44, 0, .ref 3)] (pc' := 14) (ls' := [some (.ref 44), some (.ref 48), some (.int p2), some (.int p3), some (.int p4), none]) (st' := [.ref 3, .int p3, .ref 38, .int 0, .ref 45]) (g' := g) (by decide +kernel) rfl ?_
  refine xcallV A (ix := 31) (nxt := 17) hrm hz [] [.int p3, .ref 38, .int 0, .ref 45] 958 (c_X4_capital_3 hS _ rfl) ok_X4_capital (by decide +kernel) rfl (fun r g1 hq => ?_)
  rw [hq.1, hq.2]
  show xW k S 0 0 17 [some (.ref 44), some (.ref 48), some (.int p2), some (.int p3), some (.int p4), none] [.int (f_X4_capital_3 g), .int p3, .ref 38, .int 0, .ref 45] g
  refine xcallV A (ix := 35) (nxt := 20) hrm hz [.int p3, .int (f_X4_capital_3 g)] [.int 0, .ref 45] 959 (c_X10_between_38 hS _ rfl) ok_X10_between (by decide +kernel) rfl (fun r g1 hq => ?_)
  rw [hq.1, hq.2]
  show xW k S 0 0 20 [some (.ref 44), some (.ref 48), some (.int p2), some (.int p3), some (.int p4), none] [.int (f_X10_between_38 p3 (f_X4_capital_3 g) g), .int 0, .ref 45] g
  obtain ⟨w1, e1, H⟩ := xl_elim H
  refine xcallSN A (ix := 45) (nxt := 23) (host := "NoonRinger") hrm hz [.ref 45, .int 0, .int (f_X10_between_38 p3 (f_X4_capital_3 g) g)] [] 25 (c_X11_put (hS _ _ sh_45) (by decide)) ok_X11_put (by decide +kernel) rfl (fun r g1 hq => ?_)
  rw [hq.1, hq.2]
  rw [e1]
  show xW k S 0 0 23 [some (.ref 44), some (.ref 48), some (.int p2), some (.int p3), some (.int p4), none] [] w1
  refine xb A [(.aload_n 0, 1, 0, 0, .null), (.getfield 11, 3, 44, 2, .ref 45), (.iconst 1, 1, 0, 0, .int 1), (.aload_n 1, 1, 0, 0, .null), (.iload_n 2, 1, 0, 0, .null), (.bipush 17, 2, 0, 0, .int 17)] (pc' := 32) (ls' := [some (.ref 44), some (.ref 48), some (.int p2), some (.int p3), some (.int p4), none]) (st' := [.int 17, .int p2, .ref 48, .int 1, .ref 45]) (g' := w1) (by decide +kernel) rfl ?_
  refine xcallV A (ix := 51) (nxt := 35) hrm hz [.int p2, .int 17] [.int 1, .ref 45] 969 (c_X6_of_48 hS _ rfl) ok_X6_of (by decide +kernel) rfl (fun r g1 hq => ?_)
  rw [hq.1, hq.2]
  show xW k S 0 0 35 [some (.ref 44), some (.ref 48), some (.int p2), some (.int p3), some (.int p4), none] [.int (f_X6_of_48 p2 17 w1), .int 1, .ref 45] w1
  obtain ⟨w2, e2, H⟩ := xl_elim H
  refine xcallSN A (ix := 45) (nxt := 38) (host := "NoonRinger") hrm hz [.ref 45, .int 1, .int (f_X6_of_48 p2 17 w1)] [] 25 (c_X11_put (hS _ _ sh_45) (by decide)) ok_X11_put (by decide +kernel) rfl (fun r g1 hq => ?_)
  rw [hq.1, hq.2]
  rw [e2]
  show xW k S 0 0 38 [some (.ref 44), some (.ref 48), some (.int p2), some (.int p3), some (.int p4), none] [] w2
  refine xb A [(.aload_n 0, 1, 0, 0, .null), (.getfield 11, 3, 44, 2, .ref 45), (.iconst 2, 1, 0, 0, .int 2), (.aload_n 0, 1, 0, 0, .null), (.getfield 17, 3, 44, 0, .ref 3), (.iload_n 2, 1, 0, 0, .null)] (pc' := 48) (ls' := [some (.ref 44), some (.ref 48), some (.int p2), some (.int p3), some (.int p4), none]) (st' := [.int p2, .ref 3, .int 2, .ref 45]) (g' := w2) (by decide +kernel) rfl ?_
  refine xcallV A (ix := 54) (nxt := 51) hrm hz [.int p2] [.int 2, .ref 45] 970 (c_X4_honestyOf_3 hS _ rfl) ok_X4_honestyOf (by decide +kernel) rfl (fun r g1 hq => ?_)
  rw [hq.1, hq.2]
  show xW k S 0 0 51 [some (.ref 44), some (.ref 48), some (.int p2), some (.int p3), some (.int p4), none] [.int (f_X4_honestyOf_3 p2 w2), .int 2, .ref 45] w2
  obtain ⟨w3, e3, H⟩ := xl_elim H
  refine xcallSN A (ix := 45) (nxt := 54) (host := "NoonRinger") hrm hz [.ref 45, .int 2, .int (f_X4_honestyOf_3 p2 w2)] [] 25 (c_X11_put (hS _ _ sh_45) (by decide)) ok_X11_put (by decide +kernel) rfl (fun r g1 hq => ?_)
  rw [hq.1, hq.2]
  rw [e3]
  show xW k S 0 0 54 [some (.ref 44), some (.ref 48), some (.int p2), some (.int p3), some (.int p4), none] [] w3
  refine xb A [(.aload_n 0, 1, 0, 0, .null), (.getfield 11, 3, 44, 2, .ref 45), (.iconst 3, 1, 0, 0, .int 3), (.aload_n 1, 1, 0, 0, .null), (.iload_n 2, 1, 0, 0, .null), (.bipush 23, 2, 0, 0, .int 23)] (pc' := 63) (ls' := [some (.ref 44), some (.ref 48), some (.int p2), some (.int p3), some (.int p4), none]) (st' := [.int 23, .int p2, .ref 48, .int 3, .ref 45]) (g' := w3) (by decide +kernel) rfl ?_
  refine xcallV A (ix := 51) (nxt := 66) hrm hz [.int p2, .int 23] [.int 3, .ref 45] 969 (c_X6_of_48 hS _ rfl) ok_X6_of (by decide +kernel) rfl (fun r g1 hq => ?_)
  rw [hq.1, hq.2]
  show xW k S 0 0 66 [some (.ref 44), some (.ref 48), some (.int p2), some (.int p3), some (.int p4), none] [.int (f_X6_of_48 p2 23 w3), .int 3, .ref 45] w3
  obtain ⟨w4, e4, H⟩ := xl_elim H
  refine xcallSN A (ix := 45) (nxt := 69) (host := "NoonRinger") hrm hz [.ref 45, .int 3, .int (f_X6_of_48 p2 23 w3)] [] 25 (c_X11_put (hS _ _ sh_45) (by decide)) ok_X11_put (by decide +kernel) rfl (fun r g1 hq => ?_)
  rw [hq.1, hq.2]
  rw [e4]
  show xW k S 0 0 69 [some (.ref 44), some (.ref 48), some (.int p2), some (.int p3), some (.int p4), none] [] w4
  refine xb A [(.aload_n 0, 1, 0, 0, .null), (.getfield 11, 3, 44, 2, .ref 45), (.iconst 4, 1, 0, 0, .int 4), (.aload_n 1, 1, 0, 0, .null), (.iconst 0, 1, 0, 0, .int 0)] (pc' := 76) (ls' := [some (.ref 44), some (.ref 48), some (.int p2), some (.int p3), some (.int p4), none]) (st' := [.int 0, .ref 48, .int 4, .ref 45]) (g' := w4) (by decide +kernel) rfl ?_
  refine xcallV A (ix := 57) (nxt := 79) hrm hz [.int 0] [.int 4, .ref 45] 971 (c_X6_get_48 hS _ rfl) ok_X6_get (by decide +kernel) rfl (fun r g1 hq => ?_)
  rw [hq.1, hq.2]
  show xW k S 0 0 79 [some (.ref 44), some (.ref 48), some (.int p2), some (.int p3), some (.int p4), none] [.int (f_X6_get_48 0 w4), .int 4, .ref 45] w4
  obtain ⟨w5, e5, H⟩ := xl_elim H
  refine xcallSN A (ix := 45) (nxt := 82) (host := "NoonRinger") hrm hz [.ref 45, .int 4, .int (f_X6_get_48 0 w4)] [] 25 (c_X11_put (hS _ _ sh_45) (by decide)) ok_X11_put (by decide +kernel) rfl (fun r g1 hq => ?_)
  rw [hq.1, hq.2]
  rw [e5]
  show xW k S 0 0 82 [some (.ref 44), some (.ref 48), some (.int p2), some (.int p3), some (.int p4), none] [] w5
  refine xb A [(.aload_n 0, 1, 0, 0, .null), (.getfield 11, 3, 44, 2, .ref 45), (.iconst 5, 1, 0, 0, .int 5), (.iload_n 2, 1, 0, 0, .null)] (pc' := 88) (ls' := [some (.ref 44), some (.ref 48), some (.int p2), some (.int p3), some (.int p4), none]) (st' := [.int p2, .int 5, .ref 45]) (g' := w5) (by decide +kernel) rfl ?_
  obtain ⟨w6, e6, H⟩ := xl_elim H
  refine xcallSN A (ix := 45) (nxt := 91) (host := "NoonRinger") hrm hz [.ref 45, .int 5, .int p2] [] 25 (c_X11_put (hS _ _ sh_45) (by decide)) ok_X11_put (by decide +kernel) rfl (fun r g1 hq => ?_)
  rw [hq.1, hq.2]
  rw [e6]
  show xW k S 0 0 91 [some (.ref 44), some (.ref 48), some (.int p2), some (.int p3), some (.int p4), none] [] w6
  refine xb A [(.aload_n 0, 1, 0, 0, .null), (.getfield 11, 3, 44, 2, .ref 45), (.bipush 6, 2, 0, 0, .int 6), (.iconst 0, 1, 0, 0, .int 0)] (pc' := 98) (ls' := [some (.ref 44), some (.ref 48), some (.int p2), some (.int p3), some (.int p4), none]) (st' := [.int 0, .int 6, .ref 45]) (g' := w6) (by decide +kernel) rfl ?_
  obtain ⟨w7, e7, H⟩ := xl_elim H
  refine xcallSN A (ix := 45) (nxt := 101) (host := "NoonRinger") hrm hz [.ref 45, .int 6, .int 0] [] 25 (c_X11_put (hS _ _ sh_45) (by decide)) ok_X11_put (by decide +kernel) rfl (fun r g1 hq => ?_)
  rw [hq.1, hq.2]
  rw [e7]
  show xW k S 0 0 101 [some (.ref 44), some (.ref 48), some (.int p2), some (.int p3), some (.int p4), none] [] w7
  refine xb A [(.aload_n 0, 1, 0, 0, .null), (.getfield 11, 3, 44, 2, .ref 45), (.bipush 7, 2, 0, 0, .int 7), (.aload_n 1, 1, 0, 0, .null), (.aload_n 0, 1, 0, 0, .null), (.getfield 17, 3, 44, 0, .ref 3)] (pc' := 112) (ls' := [some (.ref 44), some (.ref 48), some (.int p2), some (.int p3), some (.int p4), none]) (st' := [.ref 3, .ref 48, .int 7, .ref 45]) (g' := w7) (by decide +kernel) rfl ?_
  refine xcallV A (ix := 31) (nxt := 115) hrm hz [] [.ref 48, .int 7, .ref 45] 958 (c_X4_capital_3 hS _ rfl) ok_X4_capital (by decide +kernel) rfl (fun r g1 hq => ?_)
  rw [hq.1, hq.2]
  show xW k S 0 0 115 [some (.ref 44), some (.ref 48), some (.int p2), some (.int p3), some (.int p4), none] [.int (f_X4_capital_3 w7), .ref 48, .int 7, .ref 45] w7
  refine xb A [(.aload_n 0, 1, 0, 0, .null), (.getfield 17, 3, 44, 0, .ref 3)] (pc' := 119) (ls' := [some (.ref 44), some (.ref 48), some (.int p2), some (.int p3), some (.int p4), none]) (st' := [.ref 3, .int (f_X4_capital_3 w7), .ref 48, .int 7, .ref 45]) (g' := w7) (by decide +kernel) rfl ?_
  refine xcallV A (ix := 60) (nxt := 122) hrm hz [] [.int (f_X4_capital_3 w7), .ref 48, .int 7, .ref 45] 972 (c_X4_people_3 hS _ rfl) ok_X4_people (by decide +kernel) rfl (fun r g1 hq => ?_)
  rw [hq.1, hq.2]
  show xW k S 0 0 122 [some (.ref 44), some (.ref 48), some (.int p2), some (.int p3), some (.int p4), none] [.int (f_X4_people_3 w7), .int (f_X4_capital_3 w7), .ref 48, .int 7, .ref 45] w7
  obtain ⟨w8, e8, H⟩ := xbind H
  refine xcallV A (ix := 63) (nxt := 125) hrm hz [.int (f_X4_capital_3 w7), .int (f_X4_people_3 w7)] [.int 7, .ref 45] 973 (c_X6_peopleIn_48 hS _ e8) ok_X6_peopleIn (by decide +kernel) rfl (fun r g1 hq => ?_)
  rw [hq.1, hq.2]
  show xW k S 0 0 125 [some (.ref 44), some (.ref 48), some (.int p2), some (.int p3), some (.int p4), none] [.int w8, .int 7, .ref 45] w7
  refine xcallS A (ix := 66) (nxt := 128) hrm hz [.int w8] [.int 7, .ref 45] 974 (c_J6_bitCount_0f7a4 hS _ rfl) ok_J6_bitCount_0f7a4 (by decide +kernel) rfl (fun r g1 hq => ?_)
  rw [hq.1, hq.2]
  show xW k S 0 0 128 [some (.ref 44), some (.ref 48), some (.int p2), some (.int p3), some (.int p4), none] [.int (f_J6_bitCount_0f7a4 w8), .int 7, .ref 45] w7
  obtain ⟨w9, e9, H⟩ := xl_elim H
  refine xcallSN A (ix := 45) (nxt := 131) (host := "NoonRinger") hrm hz [.ref 45, .int 7, .int (f_J6_bitCount_0f7a4 w8)] [] 25 (c_X11_put (hS _ _ sh_45) (by decide)) ok_X11_put (by decide +kernel) rfl (fun r g1 hq => ?_)
  rw [hq.1, hq.2]
  rw [e9]
  show xW k S 0 0 131 [some (.ref 44), some (.ref 48), some (.int p2), some (.int p3), some (.int p4), none] [] w9
  refine xb A [(.aload_n 0, 1, 0, 0, .null), (.getfield 11, 3, 44, 2, .ref 45), (.bipush 8, 2, 0, 0, .int 8), (.aload_n 1, 1, 0, 0, .null), (.iload_n 2, 1, 0, 0, .null), (.bipush 29, 2, 0, 0, .int 29)] (pc' := 141) (ls' := [some (.ref 44), some (.ref 48), some (.int p2), some (.int p3), some (.int p4), none]) (st' := [.int 29, .int p2, .ref 48, .int 8, .ref 45]) (g' := w9) (by decide +kernel) rfl ?_
  refine xcallV A (ix := 51) (nxt := 144) hrm hz [.int p2, .int 29] [.int 8, .ref 45] 969 (c_X6_of_48 hS _ rfl) ok_X6_of (by decide +kernel) rfl (fun r g1 hq => ?_)
  rw [hq.1, hq.2]
  show xW k S 0 0 144 [some (.ref 44), some (.ref 48), some (.int p2), some (.int p3), some (.int p4), none] [.int (f_X6_of_48 p2 29 w9), .int 8, .ref 45] w9
  obtain ⟨w10, e10, H⟩ := xl_elim H
  refine xcallSN A (ix := 45) (nxt := 147) (host := "NoonRinger") hrm hz [.ref 45, .int 8, .int (f_X6_of_48 p2 29 w9)] [] 25 (c_X11_put (hS _ _ sh_45) (by decide)) ok_X11_put (by decide +kernel) rfl (fun r g1 hq => ?_)
  rw [hq.1, hq.2]
  rw [e10]
  show xW k S 0 0 147 [some (.ref 44), some (.ref 48), some (.int p2), some (.int p3), some (.int p4), none] [] w10
  refine xb A [(.iconst 0, 1, 0, 0, .int 0)] (pc' := 148) (ls' := [some (.ref 44), some (.ref 48), some (.int p2), some (.int p3), some (.int p4), none]) (st' := [.int 0]) (g' := w10) (by decide +kernel) rfl ?_
  refine xcallS A (ix := 71) (nxt := 151) hrm hz [.int 0] [] 980 (c_X2_mostOf hS _ rfl) ok_X2_mostOf (by decide +kernel) rfl (fun r g1 hq => ?_)
  rw [hq.1, hq.2]
  show xW k S 0 0 151 [some (.ref 44), some (.ref 48), some (.int p2), some (.int p3), some (.int p4), none] [.int (f_X2_mostOf 0)] w10
  refine xb A [(.aload_n 0, 1, 0, 0, .null), (.getfield 17, 3, 44, 0, .ref 3)] (pc' := 155) (ls' := [some (.ref 44), some (.ref 48), some (.int p2), some (.int p3), some (.int p4), none]) (st' := [.ref 3, .int (f_X2_mostOf 0)]) (g' := w10) (by decide +kernel) rfl ?_
  refine xcallV A (ix := 74) (nxt := 158) hrm hz [] [.int (f_X2_mostOf 0)] 983 (c_X4_laws_3 hS) ok_X4_laws (by decide +kernel) rfl (fun r g1 hq => ?_)
  rw [hq.1, hq.2]
  show xW k S 0 0 158 [some (.ref 44), some (.ref 48), some (.int p2), some (.int p3), some (.int p4), none] [.ref 12, .int (f_X2_mostOf 0)] w10
  refine xb A [(.iconst 0, 1, 0, 0, .int 0), (.aload_n 0, 1, 0, 0, .null), (.getfield 11, 3, 44, 2, .ref 45)] (pc' := 163) (ls' := [some (.ref 44), some (.ref 48), some (.int p2), some (.int p3), some (.int p4), none]) (st' := [.ref 45, .int 0, .ref 12, .int (f_X2_mostOf 0)]) (g' := w10) (by decide +kernel) rfl ?_
  obtain ⟨w11, e11, H⟩ := xbind H
  refine xcallV A (ix := 78) (nxt := 166) hrm hz [.int 0, .ref 45] [.int (f_X2_mostOf 0)] 984 (c_X2_answer_12_45 hS _ e11) ok_X2_answer (by decide +kernel) rfl (fun r g1 hq => ?_)
  rw [hq.1, hq.2]
  show xW k S 0 0 166 [some (.ref 44), some (.ref 48), some (.int p2), some (.int p3), some (.int p4), none] [.int w11.1, .int (f_X2_mostOf 0)] w11.2
  refine xcallS A (ix := 82) (nxt := 169) hrm hz [.int (f_X2_mostOf 0), .int w11.1] [] 992 (c_X1_heldTo hS _ rfl) ok_X1_heldTo (by decide +kernel) rfl (fun r g1 hq => ?_)
  rw [hq.1, hq.2]
  show xW k S 0 0 169 [some (.ref 44), some (.ref 48), some (.int p2), some (.int p3), some (.int p4), none] [.int (f_X1_heldTo (f_X2_mostOf 0) w11.1)] w11.2
  refine xb A [(.istore 5, 2, 0, 0, .null), (.iload 4, 2, 0, 0, .null)] (pc' := 173) (ls' := [some (.ref 44), some (.ref 48), some (.int p2), some (.int p3), some (.int p4), some (.int (f_X1_heldTo (f_X2_mostOf 0) w11.1))]) (st' := [.int p4]) (g' := w11.2) (by decide +kernel) rfl ?_
  refine xif_ne A (6) 179 176 (by decide +kernel) (fun h1 => ?_) (fun h1 => ?_)
  · rw [if_neg h1] at H
    refine xb A [(.aload_n 0, 1, 0, 0, .null), (.getfield 11, 3, 44, 2, .ref 45), (.bipush 6, 2, 0, 0, .int 6), (.iload 5, 2, 0, 0, .null)] (pc' := 187) (ls' := [some (.ref 44), some (.ref 48), some (.int p2), some (.int p3), some (.int p4), some (.int (f_X1_heldTo (f_X2_mostOf 0) w11.1))]) (st' := [.int (f_X1_heldTo (f_X2_mostOf 0) w11.1), .int 6, .ref 45]) (g' := w11.2) (by decide +kernel) rfl ?_
    obtain ⟨w12, e12, H⟩ := xl_elim H
    refine xcallSN A (ix := 45) (nxt := 190) (host := "NoonRinger") hrm hz [.ref 45, .int 6, .int (f_X1_heldTo (f_X2_mostOf 0) w11.1)] [] 25 (c_X11_put (hS _ _ sh_45) (by decide)) ok_X11_put (by decide +kernel) rfl (fun r g1 hq => ?_)
    rw [hq.1, hq.2]
    rw [e12]
    show xW k S 0 0 190 [some (.ref 44), some (.ref 48), some (.int p2), some (.int p3), some (.int p4), some (.int (f_X1_heldTo (f_X2_mostOf 0) w11.1))] [] w12
    refine xb A [(.iload 4, 2, 0, 0, .null)] (pc' := 192) (ls' := [some (.ref 44), some (.ref 48), some (.int p2), some (.int p3), some (.int p4), some (.int (f_X1_heldTo (f_X2_mostOf 0) w11.1))]) (st' := [.int p4]) (g' := w12) (by decide +kernel) rfl ?_
    refine xcallS A (ix := 71) (nxt := 195) hrm hz [.int p4] [] 980 (c_X2_mostOf hS _ rfl) ok_X2_mostOf (by decide +kernel) rfl (fun r g1 hq => ?_)
    rw [hq.1, hq.2]
    show xW k S 0 0 195 [some (.ref 44), some (.ref 48), some (.int p2), some (.int p3), some (.int p4), some (.int (f_X1_heldTo (f_X2_mostOf 0) w11.1))] [.int (f_X2_mostOf p4)] w12
    refine xb A [(.aload_n 0, 1, 0, 0, .null), (.getfield 17, 3, 44, 0, .ref 3)] (pc' := 199) (ls' := [some (.ref 44), some (.ref 48), some (.int p2), some (.int p3), some (.int p4), some (.int (f_X1_heldTo (f_X2_mostOf 0) w11.1))]) (st' := [.ref 3, .int (f_X2_mostOf p4)]) (g' := w12) (by decide +kernel) rfl ?_
    refine xcallV A (ix := 74) (nxt := 202) hrm hz [] [.int (f_X2_mostOf p4)] 983 (c_X4_laws_3 hS) ok_X4_laws (by decide +kernel) rfl (fun r g1 hq => ?_)
    rw [hq.1, hq.2]
    show xW k S 0 0 202 [some (.ref 44), some (.ref 48), some (.int p2), some (.int p3), some (.int p4), some (.int (f_X1_heldTo (f_X2_mostOf 0) w11.1))] [.ref 12, .int (f_X2_mostOf p4)] w12
    refine xb A [(.iload 4, 2, 0, 0, .null), (.aload_n 0, 1, 0, 0, .null), (.getfield 11, 3, 44, 2, .ref 45)] (pc' := 208) (ls' := [some (.ref 44), some (.ref 48), some (.int p2), some (.int p3), some (.int p4), some (.int (f_X1_heldTo (f_X2_mostOf 0) w11.1))]) (st' := [.ref 45, .int p4, .ref 12, .int (f_X2_mostOf p4)]) (g' := w12) (by decide +kernel) rfl ?_
    obtain ⟨w13, e13, H⟩ := xbind H
    refine xcallV A (ix := 78) (nxt := 211) hrm hz [.int p4, .ref 45] [.int (f_X2_mostOf p4)] 984 (c_X2_answer_12_45 hS _ e13) ok_X2_answer (by decide +kernel) rfl (fun r g1 hq => ?_)
    rw [hq.1, hq.2]
    show xW k S 0 0 211 [some (.ref 44), some (.ref 48), some (.int p2), some (.int p3), some (.int p4), some (.int (f_X1_heldTo (f_X2_mostOf 0) w11.1))] [.int w13.1, .int (f_X2_mostOf p4)] w13.2
    refine xcallS A (ix := 82) (nxt := 214) hrm hz [.int (f_X2_mostOf p4), .int w13.1] [] 992 (c_X1_heldTo hS _ rfl) ok_X1_heldTo (by decide +kernel) rfl (fun r g1 hq => ?_)
    rw [hq.1, hq.2]
    show xW k S 0 0 214 [some (.ref 44), some (.ref 48), some (.int p2), some (.int p3), some (.int p4), some (.int (f_X1_heldTo (f_X2_mostOf 0) w11.1))] [.int (f_X1_heldTo (f_X2_mostOf p4) w13.1)] w13.2
    obtain rfl := Option.some.inj H
    exact xret_i A hR hz (by decide +kernel) rfl ⟨rfl, rfl⟩
  · rw [if_pos h1] at H
    refine xb A [(.iload 5, 2, 0, 0, .null)] (pc' := 178) (ls' := [some (.ref 44), some (.ref 48), some (.int p2), some (.int p3), some (.int p4), some (.int (f_X1_heldTo (f_X2_mostOf 0) w11.1))]) (st' := [.int (f_X1_heldTo (f_X2_mostOf 0) w11.1)]) (g' := w11.2) (by decide +kernel) rfl ?_
    obtain rfl := Option.some.inj H
    exact xret_i A hR hz (by decide +kernel) rfl ⟨rfl, rfl⟩
theorem fr_X1_lawFrom_44_48 {p2 : Int32} {p3 : Int32} {p4 : Int32} {g : xG} (out : Int32 × xG) (H : f_X1_lawFrom_44_48 p2 p3 p4 g = some out) : xfrm fp_X1_lawFrom_44_48 g (out.2) := by
  have H : (xl (xput g 45 9 0 (f_X10_between_38 p3 (f_X4_capital_3 g) g)) fun w1 =>
xl (xput w1 45 9 1 (f_X6_of_48 p2 17 w1)) fun w2 =>
xl (xput w2 45 9 2 (f_X4_honestyOf_3 p2 w2)) fun w3 =>
xl (xput w3 45 9 3 (f_X6_of_48 p2 23 w3)) fun w4 =>
xl (xput w4 45 9 4 (f_X6_get_48 0 w4)) fun w5 =>
xl (xput w5 45 9 5 p2) fun w6 =>
xl (xput w6 45 9 6 0) fun w7 =>
(f_X6_peopleIn_48 (f_X4_capital_3 w7) (f_X4_people_3 w7) w7).bind fun w8 =>
xl (xput w7 45 9 7 (f_J6_bitCount_0f7a4 w8)) fun w9 =>
xl (xput w9 45 9 8 (f_X6_of_48 p2 29 w9)) fun w10 =>
(f_X2_answer_12_45 0 w10).bind fun w11 =>
if p4 = 0 then
  some (f_X1_heldTo (f_X2_mostOf 0) w11.1, w11.2)
else
  xl (xput w11.2 45 9 6 (f_X1_heldTo (f_X2_mostOf 0) w11.1)) fun w12 =>
  (f_X2_answer_12_45 p4 w12).bind fun w13 =>
  some (f_X1_heldTo (f_X2_mostOf p4) w13.1, w13.2)) = some out := H
  obtain ⟨w1, e1, H⟩ := xl_elim H
  have hf1 : xfrm fp_X1_lawFrom_44_48 g (w1) := xfrm_xput xfrm.rf rfl e1
  obtain ⟨w2, e2, H⟩ := xl_elim H
  have hf2 : xfrm fp_X1_lawFrom_44_48 g (w2) := xfrm_xput hf1 rfl e2
  obtain ⟨w3, e3, H⟩ := xl_elim H
  have hf3 : xfrm fp_X1_lawFrom_44_48 g (w3) := xfrm_xput hf2 rfl e3
  obtain ⟨w4, e4, H⟩ := xl_elim H
  have hf4 : xfrm fp_X1_lawFrom_44_48 g (w4) := xfrm_xput hf3 rfl e4
  obtain ⟨w5, e5, H⟩ := xl_elim H
  have hf5 : xfrm fp_X1_lawFrom_44_48 g (w5) := xfrm_xput hf4 rfl e5
  obtain ⟨w6, e6, H⟩ := xl_elim H
  have hf6 : xfrm fp_X1_lawFrom_44_48 g (w6) := xfrm_xput hf5 rfl e6
  obtain ⟨w7, e7, H⟩ := xl_elim H
  have hf7 : xfrm fp_X1_lawFrom_44_48 g (w7) := xfrm_xput hf6 rfl e7
  obtain ⟨w8, e8, H⟩ := xbind H
  obtain ⟨w9, e9, H⟩ := xl_elim H
  have hf8 : xfrm fp_X1_lawFrom_44_48 g (w9) := xfrm_xput hf7 rfl e9
  obtain ⟨w10, e10, H⟩ := xl_elim H
  have hf9 : xfrm fp_X1_lawFrom_44_48 g (w10) := xfrm_xput hf8 rfl e10
  obtain ⟨w11, e11, H⟩ := xbind H
  have hf10 : xfrm fp_X1_lawFrom_44_48 g (w11.2) := xfrm.tr hf9 (fr_X2_answer_12_45 _ e11) rfl
  by_cases h1 : p4 = 0
  · rw [if_pos h1] at H
    obtain rfl := Option.some.inj H
    exact hf10
  · rw [if_neg h1] at H
    obtain ⟨w12, e12, H⟩ := xl_elim H
    have hf11 : xfrm fp_X1_lawFrom_44_48 g (w12) := xfrm_xput hf10 rfl e12
    obtain ⟨w13, e13, H⟩ := xbind H
    have hf12 : xfrm fp_X1_lawFrom_44_48 g (w13.2) := xfrm.tr hf11 (fr_X2_answer_12_45 _ e13) rfl
    obtain rfl := Option.some.inj H
    exact hf12
def fp_X1_lawNow_44_48 : List (Nat × Option Nat) := [(16, none), (45, none)]
def f_X1_lawNow_44_48 (p2 : Int32) (p3 : Int32) (g : xG) : Option (Int32 × xG) :=
  (f_X1_lawFrom_44_48 p2 (f_X4_homeOf_3 p2 g) p3 g).bind fun w1 =>
  some (w1.1, w1.2)
set_option maxRecDepth 20000 in
theorem c_X1_lawNow_44_48 {S : List xSh} (hS : xpf SH1 S) {g : xG} {p2 : Int32} {p3 : Int32} (out : Int32 × xG) (H : f_X1_lawNow_44_48 p2 p3 g = some out) : xC mX1_lawNow 3 76 0 0 S [.ref 44, .ref 48, .int p2, .int p3] g S (fun r g' => r = some (.int out.1) ∧ g' = out.2) := by
  have H : ((f_X1_lawFrom_44_48 p2 (f_X4_homeOf_3 p2 g) p3 g).bind fun w1 =>
some (w1.1, w1.2)) = some out := H
  refine xC.of 1 SH1 [some (.ref 44), some (.ref 48), some (.int p2), some (.int p3)] hS (by decide +kernel) rfl (fun _ _ => Nat.le_of_ble_eq_true rfl) (fun _ _ => rfl) ?_
  intro k A hR hrm hz
  refine xb A [(.aload_n 0, 1, 0, 0, .null), (.aload_n 1, 1, 0, 0, .null), (.iload_n 2, 1, 0, 0, .null), (.aload_n 0, 1, 0, 0, .null), (.getfield 17, 3, 44, 0, .ref 3), (.iload_n 2, 1, 0, 0, .null)] (pc' := 8) (ls' := [some (.ref 44), some (.ref 48), some (.int p2), some (.int p3)]) (st' := [.int p2, .ref 3, .int p2, .ref 48, .ref 44]) (g' := g) (by decide +kernel) rfl ?_
  refine xcallV A (ix := 25) (nxt := 11) hrm hz [.int p2] [.int p2, .ref 48, .ref 44] 957 (c_X4_homeOf_3 hS _ rfl) ok_X4_homeOf (by decide +kernel) rfl (fun r g1 hq => ?_)
  rw [hq.1, hq.2]
  show xW k S 0 0 11 [some (.ref 44), some (.ref 48), some (.int p2), some (.int p3)] [.int (f_X4_homeOf_3 p2 g), .int p2, .ref 48, .ref 44] g
  refine xb A [(.iload_n 3, 1, 0, 0, .null)] (pc' := 12) (ls' := [some (.ref 44), some (.ref 48), some (.int p2), some (.int p3)]) (st' := [.int p3, .int (f_X4_homeOf_3 p2 g), .int p2, .ref 48, .ref 44]) (g' := g) (by decide +kernel) rfl ?_
  obtain ⟨w1, e1, H⟩ := xbind H
  refine xcallV A (ix := 41) (nxt := 15) hrm hz [.ref 48, .int p2, .int (f_X4_homeOf_3 p2 g), .int p3] [] 964 (c_X1_lawFrom_44_48 hS _ e1) ok_X1_lawFrom (by decide +kernel) rfl (fun r g1 hq => ?_)
  rw [hq.1, hq.2]
  show xW k S 0 0 15 [some (.ref 44), some (.ref 48), some (.int p2), some (.int p3)] [.int w1.1] w1.2
  obtain rfl := Option.some.inj H
  exact xret_i A hR hz (by decide +kernel) rfl ⟨rfl, rfl⟩
theorem fr_X1_lawNow_44_48 {p2 : Int32} {p3 : Int32} {g : xG} (out : Int32 × xG) (H : f_X1_lawNow_44_48 p2 p3 g = some out) : xfrm fp_X1_lawNow_44_48 g (out.2) := by
  have H : ((f_X1_lawFrom_44_48 p2 (f_X4_homeOf_3 p2 g) p3 g).bind fun w1 =>
some (w1.1, w1.2)) = some out := H
  obtain ⟨w1, e1, H⟩ := xbind H
  have hf1 : xfrm fp_X1_lawNow_44_48 g (w1.2) := xfrm.tr xfrm.rf (fr_X1_lawFrom_44_48 _ e1) rfl
  obtain rfl := Option.some.inj H
  exact hf1
def f_X1_trueFarOf_44 (p1 : Int32) (g : xG) : Int32 :=
  f_X10_between_38 (f_X4_homeOf_3 p1 g) (f_X4_capital_3 g) g
set_option maxRecDepth 20000 in
theorem c_X1_trueFarOf_44 {S : List xSh} (hS : xpf SH1 S) {g : xG} {p1 : Int32} (out : Int32) (H : f_X1_trueFarOf_44 p1 g = out) : xC mX1_trueFarOf 2 43 0 0 S [.ref 44, .int p1] g S (fun r g' => r = some (.int out) ∧ g' = g) := by
  have H : (f_X10_between_38 (f_X4_homeOf_3 p1 g) (f_X4_capital_3 g) g) = out := H
  refine xC.of 1 SH1 [some (.ref 44), some (.int p1)] hS (by decide +kernel) rfl (fun _ _ => Nat.le_of_ble_eq_true rfl) (fun _ _ => rfl) ?_
  intro k A hR hrm hz
  refine xb A [(.aload_n 0, 1, 0, 0, .null), (.getfield 21, 3, 44, 1, .ref 38), (.aload_n 0, 1, 0, 0, .null), (.getfield 17, 3, 44, 0, .ref 3), (.iload_n 1, 1, 0, 0, .null)] (pc' := 9) (ls' := [some (.ref 44), some (.int p1)]) (st' := [.int p1, .ref 3, .ref 38]) (g' := g) (by decide +kernel) rfl ?_
  refine xcallV A (ix := 25) (nxt := 12) hrm hz [.int p1] [.ref 38] 957 (c_X4_homeOf_3 hS _ rfl) ok_X4_homeOf (by decide +kernel) rfl (fun r g1 hq => ?_)
  rw [hq.1, hq.2]
  show xW k S 0 0 12 [some (.ref 44), some (.int p1)] [.int (f_X4_homeOf_3 p1 g), .ref 38] g
  refine xb A [(.aload_n 0, 1, 0, 0, .null), (.getfield 17, 3, 44, 0, .ref 3)] (pc' := 16) (ls' := [some (.ref 44), some (.int p1)]) (st' := [.ref 3, .int (f_X4_homeOf_3 p1 g), .ref 38]) (g' := g) (by decide +kernel) rfl ?_
  refine xcallV A (ix := 31) (nxt := 19) hrm hz [] [.int (f_X4_homeOf_3 p1 g), .ref 38] 958 (c_X4_capital_3 hS _ rfl) ok_X4_capital (by decide +kernel) rfl (fun r g1 hq => ?_)
  rw [hq.1, hq.2]
  show xW k S 0 0 19 [some (.ref 44), some (.int p1)] [.int (f_X4_capital_3 g), .int (f_X4_homeOf_3 p1 g), .ref 38] g
  refine xcallV A (ix := 35) (nxt := 22) hrm hz [.int (f_X4_homeOf_3 p1 g), .int (f_X4_capital_3 g)] [] 959 (c_X10_between_38 hS _ rfl) ok_X10_between (by decide +kernel) rfl (fun r g1 hq => ?_)
  rw [hq.1, hq.2]
  show xW k S 0 0 22 [some (.ref 44), some (.int p1)] [.int (f_X10_between_38 (f_X4_homeOf_3 p1 g) (f_X4_capital_3 g) g)] g
  subst H
  exact xret_i A hR hz (by decide +kernel) rfl ⟨rfl, rfl⟩
def f_X6_isBarred_48 (p1 : Int32) (g : xG) : Int32 :=
  if ((f_X6_get_48 3 g) &&& (f_X11_bit p1)) = 0 then
    0
  else
    1
set_option maxRecDepth 20000 in
theorem c_X6_isBarred_48 {S : List xSh} (hS : xpf SH1 S) {g : xG} {p1 : Int32} (out : Int32) (H : f_X6_isBarred_48 p1 g = out) : xC mX6_isBarred 2 42 0 0 S [.ref 48, .int p1] g S (fun r g' => r = some (.int out) ∧ g' = g) := by
  have H : (if ((f_X6_get_48 3 g) &&& (f_X11_bit p1)) = 0 then
  0
else
  1) = out := H
  refine xC.of 6 SH1 [some (.ref 48), some (.int p1)] hS (by decide +kernel) rfl (fun _ _ => Nat.le_of_ble_eq_true rfl) (fun _ _ => rfl) ?_
  intro k A hR hrm hz
  refine xb A [(.aload_n 0, 1, 0, 0, .null), (.iconst 3, 1, 0, 0, .int 3)] (pc' := 2) (ls' := [some (.ref 48), some (.int p1)]) (st' := [.int 3, .ref 48]) (g' := g) (by decide +kernel) rfl ?_
  refine xcallV A (ix := 45) (nxt := 5) hrm hz [.int 3] [] 952 (c_X6_get_48 hS _ rfl) ok_X6_get (by decide +kernel) rfl (fun r g1 hq => ?_)
  rw [hq.1, hq.2]
  show xW k S 0 0 5 [some (.ref 48), some (.int p1)] [.int (f_X6_get_48 3 g)] g
  refine xb A [(.iload_n 1, 1, 0, 0, .null)] (pc' := 6) (ls' := [some (.ref 48), some (.int p1)]) (st' := [.int p1, .int (f_X6_get_48 3 g)]) (g' := g) (by decide +kernel) rfl ?_
  refine xcallSN A (ix := 48) (nxt := 9) (host := "NoonRinger") hrm hz [.int p1] [.int (f_X6_get_48 3 g)] 24 (c_X11_bit hS _ rfl) ok_X11_bit (by decide +kernel) rfl (fun r g1 hq => ?_)
  rw [hq.1, hq.2]
  show xW k S 0 0 9 [some (.ref 48), some (.int p1)] [.int (f_X11_bit p1), .int (f_X6_get_48 3 g)] g
  refine xb A [(.iand, 1, 0, 0, .null)] (pc' := 10) (ls' := [some (.ref 48), some (.int p1)]) (st' := [.int ((f_X6_get_48 3 g) &&& (f_X11_bit p1))]) (g' := g) (by decide +kernel) rfl ?_
  refine xif_eq A (7) 17 13 (by decide +kernel) (fun h1 => ?_) (fun h1 => ?_)
  · rw [if_pos h1] at H
    refine xb A [(.iconst 0, 1, 0, 0, .int 0)] (pc' := 18) (ls' := [some (.ref 48), some (.int p1)]) (st' := [.int 0]) (g' := g) (by decide +kernel) rfl ?_
    subst H
    exact xret_i A hR hz (by decide +kernel) rfl ⟨rfl, rfl⟩
  · rw [if_neg h1] at H
    refine xb A [(.iconst 1, 1, 0, 0, .int 1)] (pc' := 14) (ls' := [some (.ref 48), some (.int p1)]) (st' := [.int 1]) (g' := g) (by decide +kernel) rfl ?_
    refine xgoto A (4) 18 (by decide +kernel) ?_
    subst H
    exact xret_i A hR hz (by decide +kernel) rfl ⟨rfl, rfl⟩
def fp_X11_person_0 : List (Nat × Option Nat) := [(16, none), (45, none)]
def f_X11_person_0 (p1 : Int32) (p2 : Int32) (g : xG) : Option (Int32 × xG) :=
  if (f_X4_isPerson_3 p1 g) = 0 then
    some ((-1), g)
  else
    if p2 = 0 then
      some (f_X4_honestyOf_3 p1 g, g)
    else
      if p2 = 1 then
        some (f_X4_homeOf_3 p1 g, g)
      else
        if p2 = 2 then
          some (f_X6_of_48 p1 5 g, g)
        else
          if p2 = 3 then
            some (f_X6_of_48 p1 11 g, g)
          else
            if p2 = 4 then
              some (f_X6_of_48 p1 17 g, g)
            else
              if p2 = 5 then
                some (f_X6_of_48 p1 23 g, g)
              else
                if p2 = 6 then
                  some (f_X6_of_48 p1 29 g, g)
                else
                  if p2 = 7 then
                    if (f_X6_isBarred_48 p1 g) = 0 then
                      some (0, g)
                    else
                      some (1, g)
                  else
                    if p2 = 8 then
                      some (f_X1_trueFarOf_44 p1 g, g)
                    else
                      if p2 = 9 then
                        (f_X1_lawNow_44_48 p1 0 g).bind fun w1 =>
                        some (w1.1, w1.2)
                      else
                        if p2 = 10 then
                          (f_X1_lawNow_44_48 p1 1 g).bind fun w2 =>
                          some (w2.1, w2.2)
                        else
                          if p2 = 11 then
                            (f_X1_lawNow_44_48 p1 2 g).bind fun w3 =>
                            some (w3.1, w3.2)
                          else
                            if p2 = 12 then
                              (f_X1_lawNow_44_48 p1 3 g).bind fun w4 =>
                              some (w4.1, w4.2)
                            else
                              some ((-1), g)
set_option maxRecDepth 20000 in
theorem c_X11_person_0 {S : List xSh} (hS : xpf SH1 S) {g : xG} {p1 : Int32} {p2 : Int32} (out : Int32 × xG) (H : f_X11_person_0 p1 p2 g = some out) : xC mX11_person 4 99 0 0 S [.ref 0, .int p1, .int p2] g S (fun r g' => r = some (.int out.1) ∧ g' = out.2) := by
  have H : (if (f_X4_isPerson_3 p1 g) = 0 then
  some ((-1), g)
else
  if p2 = 0 then
    some (f_X4_honestyOf_3 p1 g, g)
  else
    if p2 = 1 then
      some (f_X4_homeOf_3 p1 g, g)
    else
      if p2 = 2 then
        some (f_X6_of_48 p1 5 g, g)
      else
        if p2 = 3 then
          some (f_X6_of_48 p1 11 g, g)
        else
          if p2 = 4 then
            some (f_X6_of_48 p1 17 g, g)
          else
            if p2 = 5 then
              some (f_X6_of_48 p1 23 g, g)
            else
              if p2 = 6 then
                some (f_X6_of_48 p1 29 g, g)
              else
                if p2 = 7 then
                  if (f_X6_isBarred_48 p1 g) = 0 then
                    some (0, g)
                  else
                    some (1, g)
                else
                  if p2 = 8 then
                    some (f_X1_trueFarOf_44 p1 g, g)
                  else
                    if p2 = 9 then
                      (f_X1_lawNow_44_48 p1 0 g).bind fun w1 =>
                      some (w1.1, w1.2)
                    else
                      if p2 = 10 then
                        (f_X1_lawNow_44_48 p1 1 g).bind fun w2 =>
                        some (w2.1, w2.2)
                      else
                        if p2 = 11 then
                          (f_X1_lawNow_44_48 p1 2 g).bind fun w3 =>
                          some (w3.1, w3.2)
                        else
                          if p2 = 12 then
                            (f_X1_lawNow_44_48 p1 3 g).bind fun w4 =>
                            some (w4.1, w4.2)
                          else
                            some ((-1), g)) = some out := H
  refine xC.of 11 SH1 [some (.ref 0), some (.int p1), some (.int p2)] hS (by decide +kernel) rfl (fun _ _ => Nat.le_of_ble_eq_true rfl) (fun _ _ => rfl) ?_
  intro k A hR hrm hz
  refine xb A [(.aload_n 0, 1, 0, 0, .null), (.getfield 19, 3, 0, 1, .ref 3), (.iload_n 1, 1, 0, 0, .null)] (pc' := 5) (ls' := [some (.ref 0), some (.int p1), some (.int p2)]) (st' := [.int p1, .ref 3]) (g' := g) (by decide +kernel) rfl ?_
  refine xcallV A (ix := 183) (nxt := 8) hrm hz [.int p1] [] 932 (c_X4_isPerson_3 hS _ rfl) ok_X4_isPerson (by decide +kernel) rfl (fun r g1 hq => ?_)
  rw [hq.1, hq.2]
  show xW k S 0 0 8 [some (.ref 0), some (.int p1), some (.int p2)] [.int (f_X4_isPerson_3 p1 g)] g
  refine xif_ne A (5) 13 11 (by decide +kernel) (fun h1 => ?_) (fun h1 => ?_)
  · rw [if_neg h1] at H
    refine xb A [(.iload_n 2, 1, 0, 0, .null)] (pc' := 14) (ls' := [some (.ref 0), some (.int p1), some (.int p2)]) (st' := [.int p2]) (g' := g) (by decide +kernel) rfl ?_
    by_cases h2 : p2 = 0
    · rw [if_pos h2] at H
      refine xtabIn A (dflt := 220) (lo := 0) (hi := 12) (off := 66) (offs := #[(66), (75), (84), (94), (105), (116), (127), (138), (155), (164), (178), (192), (206)]) (len := 66) (tgt := 80) (0) (by rw [h2]; rfl) (by decide +kernel) ?_
      refine xb A [(.aload_n 0, 1, 0, 0, .null), (.getfield 19, 3, 0, 1, .ref 3), (.iload_n 1, 1, 0, 0, .null)] (pc' := 85) (ls' := [some (.ref 0), some (.int p1), some (.int p2)]) (st' := [.int p1, .ref 3]) (g' := g) (by decide +kernel) rfl ?_
      refine xcallV A (ix := 186) (nxt := 88) hrm hz [.int p1] [] 936 (c_X4_honestyOf_3 hS _ rfl) ok_X4_honestyOf (by decide +kernel) rfl (fun r g1 hq => ?_)
      rw [hq.1, hq.2]
      show xW k S 0 0 88 [some (.ref 0), some (.int p1), some (.int p2)] [.int (f_X4_honestyOf_3 p1 g)] g
      obtain rfl := Option.some.inj H
      exact xret_i A hR hz (by decide +kernel) rfl ⟨rfl, rfl⟩
    · rw [if_neg h2] at H
      by_cases h3 : p2 = 1
      · rw [if_pos h3] at H
        refine xtabIn A (dflt := 220) (lo := 0) (hi := 12) (off := 75) (offs := #[(66), (75), (84), (94), (105), (116), (127), (138), (155), (164), (178), (192), (206)]) (len := 66) (tgt := 89) (1) (by rw [h3]; rfl) (by decide +kernel) ?_
        refine xb A [(.aload_n 0, 1, 0, 0, .null), (.getfield 19, 3, 0, 1, .ref 3), (.iload_n 1, 1, 0, 0, .null)] (pc' := 94) (ls' := [some (.ref 0), some (.int p1), some (.int p2)]) (st' := [.int p1, .ref 3]) (g' := g) (by decide +kernel) rfl ?_
        refine xcallV A (ix := 189) (nxt := 97) hrm hz [.int p1] [] 940 (c_X4_homeOf_3 hS _ rfl) ok_X4_homeOf (by decide +kernel) rfl (fun r g1 hq => ?_)
        rw [hq.1, hq.2]
        show xW k S 0 0 97 [some (.ref 0), some (.int p1), some (.int p2)] [.int (f_X4_homeOf_3 p1 g)] g
        obtain rfl := Option.some.inj H
        exact xret_i A hR hz (by decide +kernel) rfl ⟨rfl, rfl⟩
      · rw [if_neg h3] at H
        by_cases h4 : p2 = 2
        · rw [if_pos h4] at H
          refine xtabIn A (dflt := 220) (lo := 0) (hi := 12) (off := 84) (offs := #[(66), (75), (84), (94), (105), (116), (127), (138), (155), (164), (178), (192), (206)]) (len := 66) (tgt := 98) (2) (by rw [h4]; rfl) (by decide +kernel) ?_
          refine xb A [(.aload_n 0, 1, 0, 0, .null), (.getfield 66, 3, 0, 8, .ref 48), (.iload_n 1, 1, 0, 0, .null), (.iconst 5, 1, 0, 0, .int 5)] (pc' := 104) (ls' := [some (.ref 0), some (.int p1), some (.int p2)]) (st' := [.int 5, .int p1, .ref 48]) (g' := g) (by decide +kernel) rfl ?_
          refine xcallV A (ix := 192) (nxt := 107) hrm hz [.int p1, .int 5] [] 944 (c_X6_of_48 hS _ rfl) ok_X6_of (by decide +kernel) rfl (fun r g1 hq => ?_)
          rw [hq.1, hq.2]
          show xW k S 0 0 107 [some (.ref 0), some (.int p1), some (.int p2)] [.int (f_X6_of_48 p1 5 g)] g
          obtain rfl := Option.some.inj H
          exact xret_i A hR hz (by decide +kernel) rfl ⟨rfl, rfl⟩
        · rw [if_neg h4] at H
          by_cases h5 : p2 = 3
          · rw [if_pos h5] at H
            refine xtabIn A (dflt := 220) (lo := 0) (hi := 12) (off := 94) (offs := #[(66), (75), (84), (94), (105), (116), (127), (138), (155), (164), (178), (192), (206)]) (len := 66) (tgt := 108) (3) (by rw [h5]; rfl) (by decide +kernel) ?_
            refine xb A [(.aload_n 0, 1, 0, 0, .null), (.getfield 66, 3, 0, 8, .ref 48), (.iload_n 1, 1, 0, 0, .null), (.bipush 11, 2, 0, 0, .int 11)] (pc' := 115) (ls' := [some (.ref 0), some (.int p1), some (.int p2)]) (st' := [.int 11, .int p1, .ref 48]) (g' := g) (by decide +kernel) rfl ?_
            refine xcallV A (ix := 192) (nxt := 118) hrm hz [.int p1, .int 11] [] 944 (c_X6_of_48 hS _ rfl) ok_X6_of (by decide +kernel) rfl (fun r g1 hq => ?_)
            rw [hq.1, hq.2]
            show xW k S 0 0 118 [some (.ref 0), some (.int p1), some (.int p2)] [.int (f_X6_of_48 p1 11 g)] g
            obtain rfl := Option.some.inj H
            exact xret_i A hR hz (by decide +kernel) rfl ⟨rfl, rfl⟩
          · rw [if_neg h5] at H
            by_cases h6 : p2 = 4
            · rw [if_pos h6] at H
              refine xtabIn A (dflt := 220) (lo := 0) (hi := 12) (off := 105) (offs := #[(66), (75), (84), (94), (105), (116), (127), (138), (155), (164), (178), (192), (206)]) (len := 66) (tgt := 119) (4) (by rw [h6]; rfl) (by decide +kernel) ?_
              refine xb A [(.aload_n 0, 1, 0, 0, .null), (.getfield 66, 3, 0, 8, .ref 48), (.iload_n 1, 1, 0, 0, .null), (.bipush 17, 2, 0, 0, .int 17)] (pc' := 126) (ls' := [some (.ref 0), some (.int p1), some (.int p2)]) (st' := [.int 17, .int p1, .ref 48]) (g' := g) (by decide +kernel) rfl ?_
              refine xcallV A (ix := 192) (nxt := 129) hrm hz [.int p1, .int 17] [] 944 (c_X6_of_48 hS _ rfl) ok_X6_of (by decide +kernel) rfl (fun r g1 hq => ?_)
              rw [hq.1, hq.2]
              show xW k S 0 0 129 [some (.ref 0), some (.int p1), some (.int p2)] [.int (f_X6_of_48 p1 17 g)] g
              obtain rfl := Option.some.inj H
              exact xret_i A hR hz (by decide +kernel) rfl ⟨rfl, rfl⟩
            · rw [if_neg h6] at H
              by_cases h7 : p2 = 5
              · rw [if_pos h7] at H
                refine xtabIn A (dflt := 220) (lo := 0) (hi := 12) (off := 116) (offs := #[(66), (75), (84), (94), (105), (116), (127), (138), (155), (164), (178), (192), (206)]) (len := 66) (tgt := 130) (5) (by rw [h7]; rfl) (by decide +kernel) ?_
                refine xb A [(.aload_n 0, 1, 0, 0, .null), (.getfield 66, 3, 0, 8, .ref 48), (.iload_n 1, 1, 0, 0, .null), (.bipush 23, 2, 0, 0, .int 23)] (pc' := 137) (ls' := [some (.ref 0), some (.int p1), some (.int p2)]) (st' := [.int 23, .int p1, .ref 48]) (g' := g) (by decide +kernel) rfl ?_
                refine xcallV A (ix := 192) (nxt := 140) hrm hz [.int p1, .int 23] [] 944 (c_X6_of_48 hS _ rfl) ok_X6_of (by decide +kernel) rfl (fun r g1 hq => ?_)
                rw [hq.1, hq.2]
                show xW k S 0 0 140 [some (.ref 0), some (.int p1), some (.int p2)] [.int (f_X6_of_48 p1 23 g)] g
                obtain rfl := Option.some.inj H
                exact xret_i A hR hz (by decide +kernel) rfl ⟨rfl, rfl⟩
              · rw [if_neg h7] at H
                by_cases h8 : p2 = 6
                · rw [if_pos h8] at H
                  refine xtabIn A (dflt := 220) (lo := 0) (hi := 12) (off := 127) (offs := #[(66), (75), (84), (94), (105), (116), (127), (138), (155), (164), (178), (192), (206)]) (len := 66) (tgt := 141) (6) (by rw [h8]; rfl) (by decide +kernel) ?_
                  refine xb A [(.aload_n 0, 1, 0, 0, .null), (.getfield 66, 3, 0, 8, .ref 48), (.iload_n 1, 1, 0, 0, .null), (.bipush 29, 2, 0, 0, .int 29)] (pc' := 148) (ls' := [some (.ref 0), some (.int p1), some (.int p2)]) (st' := [.int 29, .int p1, .ref 48]) (g' := g) (by decide +kernel) rfl ?_
                  refine xcallV A (ix := 192) (nxt := 151) hrm hz [.int p1, .int 29] [] 944 (c_X6_of_48 hS _ rfl) ok_X6_of (by decide +kernel) rfl (fun r g1 hq => ?_)
                  rw [hq.1, hq.2]
                  show xW k S 0 0 151 [some (.ref 0), some (.int p1), some (.int p2)] [.int (f_X6_of_48 p1 29 g)] g
                  obtain rfl := Option.some.inj H
                  exact xret_i A hR hz (by decide +kernel) rfl ⟨rfl, rfl⟩
                · rw [if_neg h8] at H
                  by_cases h9 : p2 = 7
                  · rw [if_pos h9] at H
                    refine xtabIn A (dflt := 220) (lo := 0) (hi := 12) (off := 138) (offs := #[(66), (75), (84), (94), (105), (116), (127), (138), (155), (164), (178), (192), (206)]) (len := 66) (tgt := 152) (7) (by rw [h9]; rfl) (by decide +kernel) ?_
                    refine xb A [(.aload_n 0, 1, 0, 0, .null), (.getfield 66, 3, 0, 8, .ref 48), (.iload_n 1, 1, 0, 0, .null)] (pc' := 157) (ls' := [some (.ref 0), some (.int p1), some (.int p2)]) (st' := [.int p1, .ref 48]) (g' := g) (by decide +kernel) rfl ?_
                    refine xcallV A (ix := 195) (nxt := 160) hrm hz [.int p1] [] 948 (c_X6_isBarred_48 hS _ rfl) ok_X6_isBarred (by decide +kernel) rfl (fun r g1 hq => ?_)
                    rw [hq.1, hq.2]
                    show xW k S 0 0 160 [some (.ref 0), some (.int p1), some (.int p2)] [.int (f_X6_isBarred_48 p1 g)] g
                    refine xif_eq A (7) 167 163 (by decide +kernel) (fun h10 => ?_) (fun h10 => ?_)
                    · rw [if_pos h10] at H
                      refine xb A [(.iconst 0, 1, 0, 0, .int 0)] (pc' := 168) (ls' := [some (.ref 0), some (.int p1), some (.int p2)]) (st' := [.int 0]) (g' := g) (by decide +kernel) rfl ?_
                      obtain rfl := Option.some.inj H
                      exact xret_i A hR hz (by decide +kernel) rfl ⟨rfl, rfl⟩
                    · rw [if_neg h10] at H
                      refine xb A [(.iconst 1, 1, 0, 0, .int 1)] (pc' := 164) (ls' := [some (.ref 0), some (.int p1), some (.int p2)]) (st' := [.int 1]) (g' := g) (by decide +kernel) rfl ?_
                      refine xgoto A (4) 168 (by decide +kernel) ?_
                      obtain rfl := Option.some.inj H
                      exact xret_i A hR hz (by decide +kernel) rfl ⟨rfl, rfl⟩
                  · rw [if_neg h9] at H
                    by_cases h11 : p2 = 8
                    · rw [if_pos h11] at H
                      refine xtabIn A (dflt := 220) (lo := 0) (hi := 12) (off := 155) (offs := #[(66), (75), (84), (94), (105), (116), (127), (138), (155), (164), (178), (192), (206)]) (len := 66) (tgt := 169) (8) (by rw [h11]; rfl) (by decide +kernel) ?_
                      refine xb A [(.aload_n 0, 1, 0, 0, .null), (.getfield 56, 3, 0, 6, .ref 44), (.iload_n 1, 1, 0, 0, .null)] (pc' := 174) (ls' := [some (.ref 0), some (.int p1), some (.int p2)]) (st' := [.int p1, .ref 44]) (g' := g) (by decide +kernel) rfl ?_
                      refine xcallV A (ix := 198) (nxt := 177) hrm hz [.int p1] [] 953 (c_X1_trueFarOf_44 hS _ rfl) ok_X1_trueFarOf (by decide +kernel) rfl (fun r g1 hq => ?_)
                      rw [hq.1, hq.2]
                      show xW k S 0 0 177 [some (.ref 0), some (.int p1), some (.int p2)] [.int (f_X1_trueFarOf_44 p1 g)] g
                      obtain rfl := Option.some.inj H
                      exact xret_i A hR hz (by decide +kernel) rfl ⟨rfl, rfl⟩
                    · rw [if_neg h11] at H
                      by_cases h12 : p2 = 9
                      · rw [if_pos h12] at H
                        refine xtabIn A (dflt := 220) (lo := 0) (hi := 12) (off := 164) (offs := #[(66), (75), (84), (94), (105), (116), (127), (138), (155), (164), (178), (192), (206)]) (len := 66) (tgt := 178) (9) (by rw [h12]; rfl) (by decide +kernel) ?_
                        refine xb A [(.aload_n 0, 1, 0, 0, .null), (.getfield 56, 3, 0, 6, .ref 44), (.aload_n 0, 1, 0, 0, .null), (.getfield 66, 3, 0, 8, .ref 48), (.iload_n 1, 1, 0, 0, .null), (.iconst 0, 1, 0, 0, .int 0)] (pc' := 188) (ls' := [some (.ref 0), some (.int p1), some (.int p2)]) (st' := [.int 0, .int p1, .ref 48, .ref 44]) (g' := g) (by decide +kernel) rfl ?_
                        obtain ⟨w1, e1, H⟩ := xbind H
                        refine xcallV A (ix := 203) (nxt := 191) hrm hz [.ref 48, .int p1, .int 0] [] 960 (c_X1_lawNow_44_48 hS _ e1) ok_X1_lawNow (by decide +kernel) rfl (fun r g1 hq => ?_)
                        rw [hq.1, hq.2]
                        show xW k S 0 0 191 [some (.ref 0), some (.int p1), some (.int p2)] [.int w1.1] w1.2
                        obtain rfl := Option.some.inj H
                        exact xret_i A hR hz (by decide +kernel) rfl ⟨rfl, rfl⟩
                      · rw [if_neg h12] at H
                        by_cases h13 : p2 = 10
                        · rw [if_pos h13] at H
                          refine xtabIn A (dflt := 220) (lo := 0) (hi := 12) (off := 178) (offs := #[(66), (75), (84), (94), (105), (116), (127), (138), (155), (164), (178), (192), (206)]) (len := 66) (tgt := 192) (10) (by rw [h13]; rfl) (by decide +kernel) ?_
                          refine xb A [(.aload_n 0, 1, 0, 0, .null), (.getfield 56, 3, 0, 6, .ref 44), (.aload_n 0, 1, 0, 0, .null), (.getfield 66, 3, 0, 8, .ref 48), (.iload_n 1, 1, 0, 0, .null), (.iconst 1, 1, 0, 0, .int 1)] (pc' := 202) (ls' := [some (.ref 0), some (.int p1), some (.int p2)]) (st' := [.int 1, .int p1, .ref 48, .ref 44]) (g' := g) (by decide +kernel) rfl ?_
                          obtain ⟨w2, e2, H⟩ := xbind H
                          refine xcallV A (ix := 203) (nxt := 205) hrm hz [.ref 48, .int p1, .int 1] [] 960 (c_X1_lawNow_44_48 hS _ e2) ok_X1_lawNow (by decide +kernel) rfl (fun r g1 hq => ?_)
                          rw [hq.1, hq.2]
                          show xW k S 0 0 205 [some (.ref 0), some (.int p1), some (.int p2)] [.int w2.1] w2.2
                          obtain rfl := Option.some.inj H
                          exact xret_i A hR hz (by decide +kernel) rfl ⟨rfl, rfl⟩
                        · rw [if_neg h13] at H
                          by_cases h14 : p2 = 11
                          · rw [if_pos h14] at H
                            refine xtabIn A (dflt := 220) (lo := 0) (hi := 12) (off := 192) (offs := #[(66), (75), (84), (94), (105), (116), (127), (138), (155), (164), (178), (192), (206)]) (len := 66) (tgt := 206) (11) (by rw [h14]; rfl) (by decide +kernel) ?_
                            refine xb A [(.aload_n 0, 1, 0, 0, .null), (.getfield 56, 3, 0, 6, .ref 44), (.aload_n 0, 1, 0, 0, .null), (.getfield 66, 3, 0, 8, .ref 48), (.iload_n 1, 1, 0, 0, .null), (.iconst 2, 1, 0, 0, .int 2)] (pc' := 216) (ls' := [some (.ref 0), some (.int p1), some (.int p2)]) (st' := [.int 2, .int p1, .ref 48, .ref 44]) (g' := g) (by decide +kernel) rfl ?_
                            obtain ⟨w3, e3, H⟩ := xbind H
                            refine xcallV A (ix := 203) (nxt := 219) hrm hz [.ref 48, .int p1, .int 2] [] 960 (c_X1_lawNow_44_48 hS _ e3) ok_X1_lawNow (by decide +kernel) rfl (fun r g1 hq => ?_)
                            rw [hq.1, hq.2]
                            show xW k S 0 0 219 [some (.ref 0), some (.int p1), some (.int p2)] [.int w3.1] w3.2
                            obtain rfl := Option.some.inj H
                            exact xret_i A hR hz (by decide +kernel) rfl ⟨rfl, rfl⟩
                          · rw [if_neg h14] at H
                            by_cases h15 : p2 = 12
                            · rw [if_pos h15] at H
                              refine xtabIn A (dflt := 220) (lo := 0) (hi := 12) (off := 206) (offs := #[(66), (75), (84), (94), (105), (116), (127), (138), (155), (164), (178), (192), (206)]) (len := 66) (tgt := 220) (12) (by rw [h15]; rfl) (by decide +kernel) ?_
                              refine xb A [(.aload_n 0, 1, 0, 0, .null), (.getfield 56, 3, 0, 6, .ref 44), (.aload_n 0, 1, 0, 0, .null), (.getfield 66, 3, 0, 8, .ref 48), (.iload_n 1, 1, 0, 0, .null), (.iconst 3, 1, 0, 0, .int 3)] (pc' := 230) (ls' := [some (.ref 0), some (.int p1), some (.int p2)]) (st' := [.int 3, .int p1, .ref 48, .ref 44]) (g' := g) (by decide +kernel) rfl ?_
                              obtain ⟨w4, e4, H⟩ := xbind H
                              refine xcallV A (ix := 203) (nxt := 233) hrm hz [.ref 48, .int p1, .int 3] [] 960 (c_X1_lawNow_44_48 hS _ e4) ok_X1_lawNow (by decide +kernel) rfl (fun r g1 hq => ?_)
                              rw [hq.1, hq.2]
                              show xW k S 0 0 233 [some (.ref 0), some (.int p1), some (.int p2)] [.int w4.1] w4.2
                              obtain rfl := Option.some.inj H
                              exact xret_i A hR hz (by decide +kernel) rfl ⟨rfl, rfl⟩
                            · rw [if_neg h15] at H
                              refine xtabOut A (dflt := 220) (lo := 0) (hi := 12) (offs := #[(66), (75), (84), (94), (105), (116), (127), (138), (155), (164), (178), (192), (206)]) (len := 66) (tgt := 234) (by decide +kernel) ?_ ?_
                              · have e0 := lv_neT (a := 0) h2 rfl; have e1 := lv_neT (a := 1) h3 rfl; have e2 := lv_neT (a := 2) h4 rfl; have e3 := lv_neT (a := 3) h5 rfl; have e4 := lv_neT (a := 4) h6 rfl; have e5 := lv_neT (a := 5) h7 rfl; have e6 := lv_neT (a := 6) h8 rfl; have e7 := lv_neT (a := 7) h9 rfl; have e8 := lv_neT (a := 8) h11 rfl; have e9 := lv_neT (a := 9) h12 rfl; have e10 := lv_neT (a := 10) h13 rfl; have e11 := lv_neT (a := 11) h14 rfl; have e12 := lv_neT (a := 12) h15 rfl; omega
                              · skip
                                refine xb A [(.iconst (-1), 1, 0, 0, .int (-1))] (pc' := 235) (ls' := [some (.ref 0), some (.int p1), some (.int p2)]) (st' := [.int (-1)]) (g' := g) (by decide +kernel) rfl ?_
                                obtain rfl := Option.some.inj H
                                exact xret_i A hR hz (by decide +kernel) rfl ⟨rfl, rfl⟩
  · rw [if_pos h1] at H
    refine xb A [(.iconst (-1), 1, 0, 0, .int (-1))] (pc' := 12) (ls' := [some (.ref 0), some (.int p1), some (.int p2)]) (st' := [.int (-1)]) (g' := g) (by decide +kernel) rfl ?_
    obtain rfl := Option.some.inj H
    exact xret_i A hR hz (by decide +kernel) rfl ⟨rfl, rfl⟩
theorem fr_X11_person_0 {p1 : Int32} {p2 : Int32} {g : xG} (out : Int32 × xG) (H : f_X11_person_0 p1 p2 g = some out) : xfrm fp_X11_person_0 g (out.2) := by
  have H : (if (f_X4_isPerson_3 p1 g) = 0 then
  some ((-1), g)
else
  if p2 = 0 then
    some (f_X4_honestyOf_3 p1 g, g)
  else
    if p2 = 1 then
      some (f_X4_homeOf_3 p1 g, g)
    else
      if p2 = 2 then
        some (f_X6_of_48 p1 5 g, g)
      else
        if p2 = 3 then
          some (f_X6_of_48 p1 11 g, g)
        else
          if p2 = 4 then
            some (f_X6_of_48 p1 17 g, g)
          else
            if p2 = 5 then
              some (f_X6_of_48 p1 23 g, g)
            else
              if p2 = 6 then
                some (f_X6_of_48 p1 29 g, g)
              else
                if p2 = 7 then
                  if (f_X6_isBarred_48 p1 g) = 0 then
                    some (0, g)
                  else
                    some (1, g)
                else
                  if p2 = 8 then
                    some (f_X1_trueFarOf_44 p1 g, g)
                  else
                    if p2 = 9 then
                      (f_X1_lawNow_44_48 p1 0 g).bind fun w1 =>
                      some (w1.1, w1.2)
                    else
                      if p2 = 10 then
                        (f_X1_lawNow_44_48 p1 1 g).bind fun w2 =>
                        some (w2.1, w2.2)
                      else
                        if p2 = 11 then
                          (f_X1_lawNow_44_48 p1 2 g).bind fun w3 =>
                          some (w3.1, w3.2)
                        else
                          if p2 = 12 then
                            (f_X1_lawNow_44_48 p1 3 g).bind fun w4 =>
                            some (w4.1, w4.2)
                          else
                            some ((-1), g)) = some out := H
  by_cases h1 : (f_X4_isPerson_3 p1 g) = 0
  · rw [if_pos h1] at H
    obtain rfl := Option.some.inj H
    exact xfrm.rf
  · rw [if_neg h1] at H
    by_cases h2 : p2 = 0
    · rw [if_pos h2] at H
      obtain rfl := Option.some.inj H
      exact xfrm.rf
    · rw [if_neg h2] at H
      by_cases h3 : p2 = 1
      · rw [if_pos h3] at H
        obtain rfl := Option.some.inj H
        exact xfrm.rf
      · rw [if_neg h3] at H
        by_cases h4 : p2 = 2
        · rw [if_pos h4] at H
          obtain rfl := Option.some.inj H
          exact xfrm.rf
        · rw [if_neg h4] at H
          by_cases h5 : p2 = 3
          · rw [if_pos h5] at H
            obtain rfl := Option.some.inj H
            exact xfrm.rf
          · rw [if_neg h5] at H
            by_cases h6 : p2 = 4
            · rw [if_pos h6] at H
              obtain rfl := Option.some.inj H
              exact xfrm.rf
            · rw [if_neg h6] at H
              by_cases h7 : p2 = 5
              · rw [if_pos h7] at H
                obtain rfl := Option.some.inj H
                exact xfrm.rf
              · rw [if_neg h7] at H
                by_cases h8 : p2 = 6
                · rw [if_pos h8] at H
                  obtain rfl := Option.some.inj H
                  exact xfrm.rf
                · rw [if_neg h8] at H
                  by_cases h9 : p2 = 7
                  · rw [if_pos h9] at H
                    by_cases h10 : (f_X6_isBarred_48 p1 g) = 0
                    · rw [if_pos h10] at H
                      obtain rfl := Option.some.inj H
                      exact xfrm.rf
                    · rw [if_neg h10] at H
                      obtain rfl := Option.some.inj H
                      exact xfrm.rf
                  · rw [if_neg h9] at H
                    by_cases h11 : p2 = 8
                    · rw [if_pos h11] at H
                      obtain rfl := Option.some.inj H
                      exact xfrm.rf
                    · rw [if_neg h11] at H
                      by_cases h12 : p2 = 9
                      · rw [if_pos h12] at H
                        obtain ⟨w1, e1, H⟩ := xbind H
                        have hf1 : xfrm fp_X11_person_0 g (w1.2) := xfrm.tr xfrm.rf (fr_X1_lawNow_44_48 _ e1) rfl
                        obtain rfl := Option.some.inj H
                        exact hf1
                      · rw [if_neg h12] at H
                        by_cases h13 : p2 = 10
                        · rw [if_pos h13] at H
                          obtain ⟨w2, e2, H⟩ := xbind H
                          have hf2 : xfrm fp_X11_person_0 g (w2.2) := xfrm.tr xfrm.rf (fr_X1_lawNow_44_48 _ e2) rfl
                          obtain rfl := Option.some.inj H
                          exact hf2
                        · rw [if_neg h13] at H
                          by_cases h14 : p2 = 11
                          · rw [if_pos h14] at H
                            obtain ⟨w3, e3, H⟩ := xbind H
                            have hf3 : xfrm fp_X11_person_0 g (w3.2) := xfrm.tr xfrm.rf (fr_X1_lawNow_44_48 _ e3) rfl
                            obtain rfl := Option.some.inj H
                            exact hf3
                          · rw [if_neg h14] at H
                            by_cases h15 : p2 = 12
                            · rw [if_pos h15] at H
                              obtain ⟨w4, e4, H⟩ := xbind H
                              have hf4 : xfrm fp_X11_person_0 g (w4.2) := xfrm.tr xfrm.rf (fr_X1_lawNow_44_48 _ e4) rfl
                              obtain rfl := Option.some.inj H
                              exact hf4
                            · rw [if_neg h15] at H
                              obtain rfl := Option.some.inj H
                              exact xfrm.rf
def fp_X5_keep_52_48 : List (Nat × Option Nat) := [(53, none)]
def f_X5_keep_52_48_2  : Nat → Int32 → Int32 → xG → Option (xG)
  | 0, _, _, _ => none
  | n + 1, l1, l3, g =>
    if 35 ≤ l3 then
      some g
    else
      xl (xput g 53 1400 ((l1 * 35) + l3) (f_X6_get_48 l3 g)) fun w1 =>
      f_X5_keep_52_48_2 n l1 (l3 + 1) w1
def f_X5_keep_52_48 (p1 : Int32) (g : xG) : Option (xG) :=
  f_X5_keep_52_48_2 xN p1 0 g
set_option maxRecDepth 20000 in
theorem t_X5_keep_52_48_2 {k : xK} {S : List xSh} {out : xG} (hS : xpf SH1 S) (A : xAt k mX5_keep.2.1 5 SH1 S) (hR : xRet k 0 0 S (fun r g' => r = none ∧ g' = out) mX5_keep.2.2.2) (hrm : xrm k = { frames := 2, cells := 0, slots := 0, locals := 42 }) (hz : xhs k = xb0 k + S.length)   : ∀ (n : Nat) (l1 : Int32) (l3 : Int32) (g : xG), f_X5_keep_52_48_2 n l1 l3 g = some out → xW k S 0 0 2 [some (.ref 52), some (.int l1), some (.ref 48), some (.int l3)] [] g := by
  intro n
  induction n with
  | zero => intro l1 l3 g H; exact absurd H (by simp [f_X5_keep_52_48_2])
  | succ n ih =>
    intro l1 l3 g H
    have H : (if 35 ≤ l3 then
  some g
else
  xl (xput g 53 1400 ((l1 * 35) + l3) (f_X6_get_48 l3 g)) fun w1 =>
  f_X5_keep_52_48_2 n l1 (l3 + 1) w1) = some out := H
    refine xb A [(.iload_n 3, 1, 0, 0, .null), (.bipush 35, 2, 0, 0, .int 35)] (pc' := 5) (ls' := [some (.ref 52), some (.int l1), some (.ref 48), some (.int l3)]) (st' := [.int 35, .int l3]) (g' := g) (by decide +kernel) rfl ?_
    refine xic_ge A (27) 32 8 (by decide +kernel) (fun h1 => ?_) (fun h1 => ?_)
    · rw [if_pos h1] at H
      obtain rfl := Option.some.inj H
      exact xret_v A hR hz (by decide +kernel) ⟨rfl, rfl⟩
    · rw [if_neg h1] at H
      refine xb A [(.aload_n 0, 1, 0, 0, .null), (.getfield 15, 3, 52, 0, .ref 53), (.iload_n 1, 1, 0, 0, .null), (.bipush 35, 2, 0, 0, .int 35), (.imul, 1, 0, 0, .null), (.iload_n 3, 1, 0, 0, .null), (.iadd, 1, 0, 0, .null), (.aload_n 2, 1, 0, 0, .null), (.iload_n 3, 1, 0, 0, .null)] (pc' := 20) (ls' := [some (.ref 52), some (.int l1), some (.ref 48), some (.int l3)]) (st' := [.int l3, .ref 48, .int ((l1 * 35) + l3), .ref 53]) (g' := g) (by decide +kernel) rfl ?_
      refine xcallV A (ix := 21) (nxt := 23) hrm hz [.int l3] [.int ((l1 * 35) + l3), .ref 53] 1009 (c_X6_get_48 hS _ rfl) ok_X6_get (by decide +kernel) rfl (fun r g1 hq => ?_)
      rw [hq.1, hq.2]
      show xW k S 0 0 23 [some (.ref 52), some (.int l1), some (.ref 48), some (.int l3)] [.int (f_X6_get_48 l3 g), .int ((l1 * 35) + l3), .ref 53] g
      obtain ⟨w1, e1, H⟩ := xl_elim H
      refine xcallSN A (ix := 25) (nxt := 26) (host := "NoonRinger") hrm hz [.ref 53, .int ((l1 * 35) + l3), .int (f_X6_get_48 l3 g)] [] 27 (c_X11_put (hS _ _ sh_53) (by decide)) ok_X11_put (by decide +kernel) rfl (fun r g1 hq => ?_)
      rw [hq.1, hq.2]
      rw [e1]
      show xW k S 0 0 26 [some (.ref 52), some (.int l1), some (.ref 48), some (.int l3)] [] w1
      refine xb A [(.iinc 3 1, 3, 0, 0, .null)] (pc' := 29) (ls' := [some (.ref 52), some (.int l1), some (.ref 48), some (.int (l3 + 1))]) (st' := []) (g' := w1) (by decide +kernel) rfl ?_
      refine xgoto A (-27) 2 (by decide +kernel) ?_
      exact ih _ _ _ H
theorem fr_X5_keep_52_48_2   : ∀ (n : Nat) (l1 : Int32) (l3 : Int32) (g : xG) (out : xG), f_X5_keep_52_48_2 n l1 l3 g = some out → xfrm fp_X5_keep_52_48 g (out) := by
  intro n
  induction n with
  | zero => intro l1 l3 g out H; exact absurd H (by simp [f_X5_keep_52_48_2])
  | succ n ih =>
    intro l1 l3 g out H
    have H : (if 35 ≤ l3 then
  some g
else
  xl (xput g 53 1400 ((l1 * 35) + l3) (f_X6_get_48 l3 g)) fun w1 =>
  f_X5_keep_52_48_2 n l1 (l3 + 1) w1) = some out := H
    by_cases h1 : 35 ≤ l3
    · rw [if_pos h1] at H
      obtain rfl := Option.some.inj H
      exact xfrm.rf
    · rw [if_neg h1] at H
      obtain ⟨w1, e1, H⟩ := xl_elim H
      have hf1 : xfrm fp_X5_keep_52_48 g (w1) := xfrm_xput xfrm.rf rfl e1
      exact xfrm.tr hf1 (ih _ _ _ _ H) rfl
set_option maxRecDepth 20000 in
theorem c_X5_keep_52_48 {S : List xSh} (hS : xpf SH1 S) {g : xG} {p1 : Int32} (out : xG) (H : f_X5_keep_52_48 p1 g = some out) : xC mX5_keep 2 42 0 0 S [.ref 52, .int p1, .ref 48] g S (fun r g' => r = none ∧ g' = out) := by
  have H : (f_X5_keep_52_48_2 xN p1 0 g) = some out := H
  refine xC.of 5 SH1 [some (.ref 52), some (.int p1), some (.ref 48), none] hS (by decide +kernel) rfl (fun _ _ => Nat.le_of_ble_eq_true rfl) (fun _ _ => rfl) ?_
  intro k A hR hrm hz
  refine xb A [(.iconst 0, 1, 0, 0, .int 0), (.istore_n 3, 1, 0, 0, .null)] (pc' := 2) (ls' := [some (.ref 52), some (.int p1), some (.ref 48), some (.int 0)]) (st' := []) (g' := g) (by decide +kernel) rfl ?_
  exact t_X5_keep_52_48_2 hS A hR hrm hz _ _ _ _ H
theorem fr_X5_keep_52_48 {p1 : Int32} {g : xG} (out : xG) (H : f_X5_keep_52_48 p1 g = some out) : xfrm fp_X5_keep_52_48 g (out) := by
  have H : (f_X5_keep_52_48_2 xN p1 0 g) = some out := H
  exact xfrm.tr xfrm.rf (fr_X5_keep_52_48_2 _ _ _ _ _ H) rfl
def fp_X11_remember_0 : List (Nat × Option Nat) := [(0, some 13), (0, some 14), (53, none)]
def f_X11_remember_0  (g : xG) : Option (xG) :=
  xg (¬ (40 : Int32) = 0) (
    (f_X5_keep_52_48 (((g.1 0 14) + 1) - ((g.1 0 14) + 1) / 40 * 40) (xupd g.1 0 14 (((g.1 0 14) + 1) - ((g.1 0 14) + 1) / 40 * 40), g.2)).bind fun w1 =>
    some (xupd w1.1 0 13 (xmin ((w1.1 0 13) + 1) 40), w1.2))
set_option maxRecDepth 20000 in
theorem c_X11_remember_0 {S : List xSh} (hS : xpf SH1 S) {g : xG}  (out : xG) (H : f_X11_remember_0  g = some out) : xC mX11_remember 3 65 0 0 S [.ref 0] g S (fun r g' => r = none ∧ g' = out) := by
  have H : (xg (¬ (40 : Int32) = 0) (
  (f_X5_keep_52_48 (((g.1 0 14) + 1) - ((g.1 0 14) + 1) / 40 * 40) (xupd g.1 0 14 (((g.1 0 14) + 1) - ((g.1 0 14) + 1) / 40 * 40), g.2)).bind fun w1 =>
  some (xupd w1.1 0 13 (xmin ((w1.1 0 13) + 1) 40), w1.2))) = some out := H
  refine xC.of 11 SH1 [some (.ref 0)] hS (by decide +kernel) rfl (fun _ _ => Nat.le_of_ble_eq_true rfl) (fun _ _ => rfl) ?_
  intro k A hR hrm hz
  refine xb A [(.aload_n 0, 1, 0, 0, .null), (.aload_n 0, 1, 0, 0, .null), (.getfield 231, 3, 0, 14, .int 0), (.iconst 1, 1, 0, 0, .int 1), (.iadd, 1, 0, 0, .null), (.bipush 40, 2, 0, 0, .int 40)] (pc' := 9) (ls' := [some (.ref 0)]) (st' := [.int 40, .int ((g.1 0 14) + 1), .ref 0]) (g' := g) (by decide +kernel) rfl ?_
  obtain ⟨h1, H⟩ := xg_elim H
  refine xirem A (nxt := 10) (by decide +kernel) h1 ?_
  refine xb A [(.putfield 231, 3, 0, 14, .int 0), (.aload_n 0, 1, 0, 0, .null), (.getfield 78, 3, 0, 10, .ref 52), (.aload_n 0, 1, 0, 0, .null), (.getfield 231, 3, 0, 14, .int 0), (.aload_n 0, 1, 0, 0, .null), (.getfield 66, 3, 0, 8, .ref 48)] (pc' := 25) (ls' := [some (.ref 0)]) (st' := [.ref 48, .int (((g.1 0 14) + 1) - ((g.1 0 14) + 1) / 40 * 40), .ref 52]) (g' := (xupd g.1 0 14 (((g.1 0 14) + 1) - ((g.1 0 14) + 1) / 40 * 40), g.2)) (by decide +kernel) rfl ?_
  obtain ⟨w1, e1, H⟩ := xbind H
  refine xcallV A (ix := 238) (nxt := 28) hrm hz [.int (((g.1 0 14) + 1) - ((g.1 0 14) + 1) / 40 * 40), .ref 48] [] 1005 (c_X5_keep_52_48 hS _ e1) ok_X5_keep (by decide +kernel) rfl (fun r g1 hq => ?_)
  rw [hq.1, hq.2]
  show xW k S 0 0 28 [some (.ref 0)] [] w1
  refine xb A [(.aload_n 0, 1, 0, 0, .null), (.aload_n 0, 1, 0, 0, .null), (.getfield 143, 3, 0, 13, .int 0), (.iconst 1, 1, 0, 0, .int 1), (.iadd, 1, 0, 0, .null), (.bipush 40, 2, 0, 0, .int 40)] (pc' := 37) (ls' := [some (.ref 0)]) (st' := [.int 40, .int ((w1.1 0 13) + 1), .ref 0]) (g' := w1) (by decide +kernel) rfl ?_
  refine xmmin A (ix := 241) (nxt := 40) hrm [.ref 0] 1011 (by decide +kernel) rfl ?_
  refine xb A [(.putfield 143, 3, 0, 13, .int 0)] (pc' := 43) (ls' := [some (.ref 0)]) (st' := []) (g' := (xupd w1.1 0 13 (xmin ((w1.1 0 13) + 1) 40), w1.2)) (by decide +kernel) rfl ?_
  obtain rfl := Option.some.inj H
  exact xret_v A hR hz (by decide +kernel) ⟨rfl, rfl⟩
theorem fr_X11_remember_0  {g : xG} (out : xG) (H : f_X11_remember_0  g = some out) : xfrm fp_X11_remember_0 g (out) := by
  have H : (xg (¬ (40 : Int32) = 0) (
  (f_X5_keep_52_48 (((g.1 0 14) + 1) - ((g.1 0 14) + 1) / 40 * 40) (xupd g.1 0 14 (((g.1 0 14) + 1) - ((g.1 0 14) + 1) / 40 * 40), g.2)).bind fun w1 =>
  some (xupd w1.1 0 13 (xmin ((w1.1 0 13) + 1) 40), w1.2))) = some out := H
  obtain ⟨h1, H⟩ := xg_elim H
  have hf1 : xfrm fp_X11_remember_0 g ((xupd g.1 0 14 (((g.1 0 14) + 1) - ((g.1 0 14) + 1) / 40 * 40), g.2)) := xfrm.up xfrm.rf rfl
  obtain ⟨w1, e1, H⟩ := xbind H
  have hf2 : xfrm fp_X11_remember_0 g (w1) := xfrm.tr hf1 (fr_X5_keep_52_48 _ e1) rfl
  have hf3 : xfrm fp_X11_remember_0 g ((xupd w1.1 0 13 (xmin ((w1.1 0 13) + 1) 40), w1.2)) := xfrm.up hf2 rfl
  obtain rfl := Option.some.inj H
  exact hf3
def fp_X11_send_0 : List (Nat × Option Nat) := [(0, some 13), (0, some 14), (49, none), (53, none)]
def f_X11_send_0_40  (l1 : Int32) (s0 : Int32) (g : xG) : Option (Int32 × xG) :=
  if s0 = (f_X6_of_48 l1 11 g) then
    some (0, g)
  else
    if s0 = (f_X6_of_48 l1 5 g) then
      some (0, g)
    else
      (f_X11_remember_0 g).bind fun w1 =>
      xl (f_X6_setOf_48 l1 11 s0 w1) fun w2 =>
      some (1, w2)
def f_X11_send_0_29  (l1 : Int32) (l2 : Int32) (g : xG) : Option (Int32 × xG) :=
  if l2 = (-1) then
    f_X11_send_0_40 l1 (-2) g
  else
    f_X11_send_0_40 l1 l2 g
def f_X11_send_0 (p1 : Int32) (p2 : Int32) (g : xG) : Option (Int32 × xG) :=
  if (f_X4_isPerson_3 p1 g) = 0 then
    some (0, g)
  else
    if p2 = (-1) then
      f_X11_send_0_29 p1 p2 g
    else
      if (f_X4_isTown_3 p2 g) = 0 then
        some (0, g)
      else
        f_X11_send_0_29 p1 p2 g
set_option maxRecDepth 20000 in
theorem t_X11_send_0_40 {k : xK} {S : List xSh} {out : Int32 × xG} (hS : xpf SH1 S) (A : xAt k mX11_send.2.1 11 SH1 S) (hR : xRet k 0 0 S (fun r g' => r = some (.int out.1) ∧ g' = out.2) mX11_send.2.2.2) (hrm : xrm k = { frames := 4, cells := 0, slots := 0, locals := 85 }) (hz : xhs k = xb0 k + S.length)   : ∀ (l1 : Int32) (s0 : Int32) (g : xG), f_X11_send_0_40 l1 s0 g = some out → xW k S 0 0 40 [some (.ref 0), some (.int l1), none, none] [.int s0] g := by
  intro l1 s0 g H
  have H : (if s0 = (f_X6_of_48 l1 11 g) then
  some (0, g)
else
  if s0 = (f_X6_of_48 l1 5 g) then
    some (0, g)
  else
    (f_X11_remember_0 g).bind fun w1 =>
    xl (f_X6_setOf_48 l1 11 s0 w1) fun w2 =>
    some (1, w2)) = some out := H
  refine xb A [(.istore_n 3, 1, 0, 0, .null), (.iload_n 3, 1, 0, 0, .null), (.aload_n 0, 1, 0, 0, .null), (.getfield 66, 3, 0, 8, .ref 48), (.iload_n 1, 1, 0, 0, .null), (.bipush 11, 2, 0, 0, .int 11)] (pc' := 49) (ls' := [some (.ref 0), some (.int l1), none, some (.int s0)]) (st' := [.int 11, .int l1, .ref 48, .int s0]) (g' := g) (by decide +kernel) rfl ?_
  refine xcallV A (ix := 192) (nxt := 52) hrm hz [.int l1, .int 11] [.int s0] 944 (c_X6_of_48 hS _ rfl) ok_X6_of (by decide +kernel) rfl (fun r g1 hq => ?_)
  rw [hq.1, hq.2]
  show xW k S 0 0 52 [some (.ref 0), some (.int l1), none, some (.int s0)] [.int (f_X6_of_48 l1 11 g), .int s0] g
  refine xic_eq A (16) 68 55 (by decide +kernel) (fun h4 => ?_) (fun h4 => ?_)
  · rw [if_pos h4] at H
    refine xb A [(.iconst 0, 1, 0, 0, .int 0)] (pc' := 69) (ls' := [some (.ref 0), some (.int l1), none, some (.int s0)]) (st' := [.int 0]) (g' := g) (by decide +kernel) rfl ?_
    obtain rfl := Option.some.inj H
    exact xret_i A hR hz (by decide +kernel) rfl ⟨rfl, rfl⟩
  · rw [if_neg h4] at H
    refine xb A [(.iload_n 3, 1, 0, 0, .null), (.aload_n 0, 1, 0, 0, .null), (.getfield 66, 3, 0, 8, .ref 48), (.iload_n 1, 1, 0, 0, .null), (.iconst 5, 1, 0, 0, .int 5)] (pc' := 62) (ls' := [some (.ref 0), some (.int l1), none, some (.int s0)]) (st' := [.int 5, .int l1, .ref 48, .int s0]) (g' := g) (by decide +kernel) rfl ?_
    refine xcallV A (ix := 192) (nxt := 65) hrm hz [.int l1, .int 5] [.int s0] 944 (c_X6_of_48 hS _ rfl) ok_X6_of (by decide +kernel) rfl (fun r g1 hq => ?_)
    rw [hq.1, hq.2]
    show xW k S 0 0 65 [some (.ref 0), some (.int l1), none, some (.int s0)] [.int (f_X6_of_48 l1 5 g), .int s0] g
    refine xic_ne A (5) 70 68 (by decide +kernel) (fun h5 => ?_) (fun h5 => ?_)
    · rw [if_neg h5] at H
      refine xb A [(.aload_n 0, 1, 0, 0, .null)] (pc' := 71) (ls' := [some (.ref 0), some (.int l1), none, some (.int s0)]) (st' := [.ref 0]) (g' := g) (by decide +kernel) rfl ?_
      obtain ⟨w1, e1, H⟩ := xbind H
      refine xcallV A (ix := 207) (nxt := 74) hrm hz [] [] 1001 (c_X11_remember_0 hS _ e1) ok_X11_remember (by decide +kernel) rfl (fun r g1 hq => ?_)
      rw [hq.1, hq.2]
      show xW k S 0 0 74 [some (.ref 0), some (.int l1), none, some (.int s0)] [] w1
      refine xb A [(.aload_n 0, 1, 0, 0, .null), (.getfield 66, 3, 0, 8, .ref 48), (.iload_n 1, 1, 0, 0, .null), (.bipush 11, 2, 0, 0, .int 11), (.iload_n 3, 1, 0, 0, .null)] (pc' := 82) (ls' := [some (.ref 0), some (.int l1), none, some (.int s0)]) (st' := [.int s0, .int 11, .int l1, .ref 48]) (g' := w1) (by decide +kernel) rfl ?_
      obtain ⟨w2, e2, H⟩ := xl_elim H
      refine xcallV A (ix := 210) (nxt := 85) hrm hz [.int l1, .int 11, .int s0] [] 1012 (c_X6_setOf_48 hS _ e2) ok_X6_setOf (by decide +kernel) rfl (fun r g1 hq => ?_)
      rw [hq.1, hq.2]
      show xW k S 0 0 85 [some (.ref 0), some (.int l1), none, some (.int s0)] [] w2
      refine xb A [(.iconst 1, 1, 0, 0, .int 1)] (pc' := 86) (ls' := [some (.ref 0), some (.int l1), none, some (.int s0)]) (st' := [.int 1]) (g' := w2) (by decide +kernel) rfl ?_
      obtain rfl := Option.some.inj H
      exact xret_i A hR hz (by decide +kernel) rfl ⟨rfl, rfl⟩
    · rw [if_pos h5] at H
      refine xb A [(.iconst 0, 1, 0, 0, .int 0)] (pc' := 69) (ls' := [some (.ref 0), some (.int l1), none, some (.int s0)]) (st' := [.int 0]) (g' := g) (by decide +kernel) rfl ?_
      obtain rfl := Option.some.inj H
      exact xret_i A hR hz (by decide +kernel) rfl ⟨rfl, rfl⟩
theorem fr_X11_send_0_40   : ∀ (l1 : Int32) (s0 : Int32) (g : xG) (out : Int32 × xG), f_X11_send_0_40 l1 s0 g = some out → xfrm fp_X11_send_0 g (out.2) := by
  intro l1 s0 g out H
  have H : (if s0 = (f_X6_of_48 l1 11 g) then
  some (0, g)
else
  if s0 = (f_X6_of_48 l1 5 g) then
    some (0, g)
  else
    (f_X11_remember_0 g).bind fun w1 =>
    xl (f_X6_setOf_48 l1 11 s0 w1) fun w2 =>
    some (1, w2)) = some out := H
  by_cases h4 : s0 = (f_X6_of_48 l1 11 g)
  · rw [if_pos h4] at H
    obtain rfl := Option.some.inj H
    exact xfrm.rf
  · rw [if_neg h4] at H
    by_cases h5 : s0 = (f_X6_of_48 l1 5 g)
    · rw [if_pos h5] at H
      obtain rfl := Option.some.inj H
      exact xfrm.rf
    · rw [if_neg h5] at H
      obtain ⟨w1, e1, H⟩ := xbind H
      have hf1 : xfrm fp_X11_send_0 g (w1) := xfrm.tr xfrm.rf (fr_X11_remember_0 _ e1) rfl
      obtain ⟨w2, e2, H⟩ := xl_elim H
      have hf2 : xfrm fp_X11_send_0 g (w2) := xfrm.tr hf1 (fr_X6_setOf_48 _ e2) rfl
      obtain rfl := Option.some.inj H
      exact hf2
set_option maxRecDepth 20000 in
theorem t_X11_send_0_29 {k : xK} {S : List xSh} {out : Int32 × xG} (hS : xpf SH1 S) (A : xAt k mX11_send.2.1 11 SH1 S) (hR : xRet k 0 0 S (fun r g' => r = some (.int out.1) ∧ g' = out.2) mX11_send.2.2.2) (hrm : xrm k = { frames := 4, cells := 0, slots := 0, locals := 85 }) (hz : xhs k = xb0 k + S.length)   : ∀ (l1 : Int32) (l2 : Int32) (g : xG), f_X11_send_0_29 l1 l2 g = some out → xW k S 0 0 29 [some (.ref 0), some (.int l1), some (.int l2), none] [] g := by
  intro l1 l2 g H
  have H : (if l2 = (-1) then
  f_X11_send_0_40 l1 (-2) g
else
  f_X11_send_0_40 l1 l2 g) = some out := H
  refine xb A [(.iload_n 2, 1, 0, 0, .null), (.iconst (-1), 1, 0, 0, .int (-1))] (pc' := 31) (ls' := [some (.ref 0), some (.int l1), some (.int l2), none]) (st' := [.int (-1), .int l2]) (g' := g) (by decide +kernel) rfl ?_
  refine xic_ne A (8) 39 34 (by decide +kernel) (fun h3 => ?_) (fun h3 => ?_)
  · rw [if_neg h3] at H
    refine xb A [(.iload_n 2, 1, 0, 0, .null)] (pc' := 40) (ls' := [some (.ref 0), some (.int l1), some (.int l2), none]) (st' := [.int l2]) (g' := g) (by decide +kernel) rfl ?_
    refine xweak (ls' := [some (.ref 0), some (.int l1), none, none]) (by exact ⟨rfl, ⟨rfl, trivial⟩⟩) ?_
    exact t_X11_send_0_40 hS A hR hrm hz _ _ _ H
  · rw [if_pos h3] at H
    refine xb A [(.bipush (-2), 2, 0, 0, .int (-2))] (pc' := 36) (ls' := [some (.ref 0), some (.int l1), some (.int l2), none]) (st' := [.int (-2)]) (g' := g) (by decide +kernel) rfl ?_
    refine xgoto A (4) 40 (by decide +kernel) ?_
    refine xweak (ls' := [some (.ref 0), some (.int l1), none, none]) (by exact ⟨rfl, ⟨rfl, trivial⟩⟩) ?_
    exact t_X11_send_0_40 hS A hR hrm hz _ _ _ H
theorem fr_X11_send_0_29   : ∀ (l1 : Int32) (l2 : Int32) (g : xG) (out : Int32 × xG), f_X11_send_0_29 l1 l2 g = some out → xfrm fp_X11_send_0 g (out.2) := by
  intro l1 l2 g out H
  have H : (if l2 = (-1) then
  f_X11_send_0_40 l1 (-2) g
else
  f_X11_send_0_40 l1 l2 g) = some out := H
  by_cases h3 : l2 = (-1)
  · rw [if_pos h3] at H
    exact xfrm.tr xfrm.rf (fr_X11_send_0_40 _ _ _ _ H) rfl
  · rw [if_neg h3] at H
    exact xfrm.tr xfrm.rf (fr_X11_send_0_40 _ _ _ _ H) rfl
set_option maxRecDepth 20000 in
theorem c_X11_send_0 {S : List xSh} (hS : xpf SH1 S) {g : xG} {p1 : Int32} {p2 : Int32} (out : Int32 × xG) (H : f_X11_send_0 p1 p2 g = some out) : xC mX11_send 4 85 0 0 S [.ref 0, .int p1, .int p2] g S (fun r g' => r = some (.int out.1) ∧ g' = out.2) := by
  have H : (if (f_X4_isPerson_3 p1 g) = 0 then
  some (0, g)
else
  if p2 = (-1) then
    f_X11_send_0_29 p1 p2 g
  else
    if (f_X4_isTown_3 p2 g) = 0 then
      some (0, g)
    else
      f_X11_send_0_29 p1 p2 g) = some out := H
  refine xC.of 11 SH1 [some (.ref 0), some (.int p1), some (.int p2), none] hS (by decide +kernel) rfl (fun _ _ => Nat.le_of_ble_eq_true rfl) (fun _ _ => rfl) ?_
  intro k A hR hrm hz
  refine xb A [(.aload_n 0, 1, 0, 0, .null), (.getfield 19, 3, 0, 1, .ref 3), (.iload_n 1, 1, 0, 0, .null)] (pc' := 5) (ls' := [some (.ref 0), some (.int p1), some (.int p2), none]) (st' := [.int p1, .ref 3]) (g' := g) (by decide +kernel) rfl ?_
  refine xcallV A (ix := 183) (nxt := 8) hrm hz [.int p1] [] 932 (c_X4_isPerson_3 hS _ rfl) ok_X4_isPerson (by decide +kernel) rfl (fun r g1 hq => ?_)
  rw [hq.1, hq.2]
  show xW k S 0 0 8 [some (.ref 0), some (.int p1), some (.int p2), none] [.int (f_X4_isPerson_3 p1 g)] g
  refine xif_eq A (19) 27 11 (by decide +kernel) (fun h1 => ?_) (fun h1 => ?_)
  · rw [if_pos h1] at H
    refine xb A [(.iconst 0, 1, 0, 0, .int 0)] (pc' := 28) (ls' := [some (.ref 0), some (.int p1), some (.int p2), none]) (st' := [.int 0]) (g' := g) (by decide +kernel) rfl ?_
    obtain rfl := Option.some.inj H
    exact xret_i A hR hz (by decide +kernel) rfl ⟨rfl, rfl⟩
  · rw [if_neg h1] at H
    refine xb A [(.iload_n 2, 1, 0, 0, .null), (.iconst (-1), 1, 0, 0, .int (-1))] (pc' := 13) (ls' := [some (.ref 0), some (.int p1), some (.int p2), none]) (st' := [.int (-1), .int p2]) (g' := g) (by decide +kernel) rfl ?_
    refine xic_eq A (16) 29 16 (by decide +kernel) (fun h2 => ?_) (fun h2 => ?_)
    · rw [if_pos h2] at H
      exact t_X11_send_0_29 hS A hR hrm hz _ _ _ H
    · rw [if_neg h2] at H
      refine xb A [(.aload_n 0, 1, 0, 0, .null), (.getfield 19, 3, 0, 1, .ref 3), (.iload_n 2, 1, 0, 0, .null)] (pc' := 21) (ls' := [some (.ref 0), some (.int p1), some (.int p2), none]) (st' := [.int p2, .ref 3]) (g' := g) (by decide +kernel) rfl ?_
      refine xcallV A (ix := 149) (nxt := 24) hrm hz [.int p2] [] 893 (c_X4_isTown_3 hS _ rfl) ok_X4_isTown (by decide +kernel) rfl (fun r g1 hq => ?_)
      rw [hq.1, hq.2]
      show xW k S 0 0 24 [some (.ref 0), some (.int p1), some (.int p2), none] [.int (f_X4_isTown_3 p2 g)] g
      refine xif_ne A (5) 29 27 (by decide +kernel) (fun h6 => ?_) (fun h6 => ?_)
      · rw [if_neg h6] at H
        exact t_X11_send_0_29 hS A hR hrm hz _ _ _ H
      · rw [if_pos h6] at H
        refine xb A [(.iconst 0, 1, 0, 0, .int 0)] (pc' := 28) (ls' := [some (.ref 0), some (.int p1), some (.int p2), none]) (st' := [.int 0]) (g' := g) (by decide +kernel) rfl ?_
        obtain rfl := Option.some.inj H
        exact xret_i A hR hz (by decide +kernel) rfl ⟨rfl, rfl⟩
theorem fr_X11_send_0 {p1 : Int32} {p2 : Int32} {g : xG} (out : Int32 × xG) (H : f_X11_send_0 p1 p2 g = some out) : xfrm fp_X11_send_0 g (out.2) := by
  have H : (if (f_X4_isPerson_3 p1 g) = 0 then
  some (0, g)
else
  if p2 = (-1) then
    f_X11_send_0_29 p1 p2 g
  else
    if (f_X4_isTown_3 p2 g) = 0 then
      some (0, g)
    else
      f_X11_send_0_29 p1 p2 g) = some out := H
  by_cases h1 : (f_X4_isPerson_3 p1 g) = 0
  · rw [if_pos h1] at H
    obtain rfl := Option.some.inj H
    exact xfrm.rf
  · rw [if_neg h1] at H
    by_cases h2 : p2 = (-1)
    · rw [if_pos h2] at H
      exact xfrm.tr xfrm.rf (fr_X11_send_0_29 _ _ _ _ H) rfl
    · rw [if_neg h2] at H
      by_cases h6 : (f_X4_isTown_3 p2 g) = 0
      · rw [if_pos h6] at H
        obtain rfl := Option.some.inj H
        exact xfrm.rf
      · rw [if_neg h6] at H
        exact xfrm.tr xfrm.rf (fr_X11_send_0_29 _ _ _ _ H) rfl
def fp_X11_close_0 : List (Nat × Option Nat) := [(0, some 13), (0, some 14), (38, some 2), (39, none), (49, none), (53, none)]
def f_X11_close_0 (p1 : Int32) (p2 : Int32) (g : xG) : Option (Int32 × xG) :=
  if (f_X4_isRoad_3 p1 g) = 0 then
    some (0, g)
  else
    if p2 = (f_X10_isOpen_38 p1 g) then
      (f_X11_remember_0 g).bind fun w1 =>
      xl (f_X6_set_48 4 ((f_X6_get_48 4 w1) ^^^ (f_X11_bit p1)) w1) fun w2 =>
      (f_X10_measure_38 (f_X6_get_48 4 w2) w2).bind fun w3 =>
      some (1, w3)
    else
      some (0, g)
set_option maxRecDepth 20000 in
theorem c_X11_close_0 {S : List xSh} (hS : xpf SH1 S) {g : xG} {p1 : Int32} {p2 : Int32} (out : Int32 × xG) (H : f_X11_close_0 p1 p2 g = some out) : xC mX11_close 4 90 0 0 S [.ref 0, .int p1, .int p2] g S (fun r g' => r = some (.int out.1) ∧ g' = out.2) := by
  have H : (if (f_X4_isRoad_3 p1 g) = 0 then
  some (0, g)
else
  if p2 = (f_X10_isOpen_38 p1 g) then
    (f_X11_remember_0 g).bind fun w1 =>
    xl (f_X6_set_48 4 ((f_X6_get_48 4 w1) ^^^ (f_X11_bit p1)) w1) fun w2 =>
    (f_X10_measure_38 (f_X6_get_48 4 w2) w2).bind fun w3 =>
    some (1, w3)
  else
    some (0, g)) = some out := H
  refine xC.of 11 SH1 [some (.ref 0), some (.int p1), some (.int p2)] hS (by decide +kernel) rfl (fun _ _ => Nat.le_of_ble_eq_true rfl) (fun _ _ => rfl) ?_
  intro k A hR hrm hz
  refine xb A [(.aload_n 0, 1, 0, 0, .null), (.getfield 19, 3, 0, 1, .ref 3), (.iload_n 1, 1, 0, 0, .null)] (pc' := 5) (ls' := [some (.ref 0), some (.int p1), some (.int p2)]) (st' := [.int p1, .ref 3]) (g' := g) (by decide +kernel) rfl ?_
  refine xcallV A (ix := 168) (nxt := 8) hrm hz [.int p1] [] 923 (c_X4_isRoad_3 hS _ rfl) ok_X4_isRoad (by decide +kernel) rfl (fun r g1 hq => ?_)
  rw [hq.1, hq.2]
  show xW k S 0 0 8 [some (.ref 0), some (.int p1), some (.int p2)] [.int (f_X4_isRoad_3 p1 g)] g
  refine xif_eq A (15) 23 11 (by decide +kernel) (fun h1 => ?_) (fun h1 => ?_)
  · rw [if_pos h1] at H
    refine xb A [(.iconst 0, 1, 0, 0, .int 0)] (pc' := 24) (ls' := [some (.ref 0), some (.int p1), some (.int p2)]) (st' := [.int 0]) (g' := g) (by decide +kernel) rfl ?_
    obtain rfl := Option.some.inj H
    exact xret_i A hR hz (by decide +kernel) rfl ⟨rfl, rfl⟩
  · rw [if_neg h1] at H
    refine xb A [(.iload_n 2, 1, 0, 0, .null), (.aload_n 0, 1, 0, 0, .null), (.getfield 37, 3, 0, 3, .ref 38), (.iload_n 1, 1, 0, 0, .null)] (pc' := 17) (ls' := [some (.ref 0), some (.int p1), some (.int p2)]) (st' := [.int p1, .ref 38, .int p2]) (g' := g) (by decide +kernel) rfl ?_
    refine xcallV A (ix := 180) (nxt := 20) hrm hz [.int p1] [.int p2] 927 (c_X10_isOpen_38 hS _ rfl) ok_X10_isOpen (by decide +kernel) rfl (fun r g1 hq => ?_)
    rw [hq.1, hq.2]
    show xW k S 0 0 20 [some (.ref 0), some (.int p1), some (.int p2)] [.int (f_X10_isOpen_38 p1 g), .int p2] g
    refine xic_eq A (5) 25 23 (by decide +kernel) (fun h2 => ?_) (fun h2 => ?_)
    · rw [if_pos h2] at H
      refine xb A [(.aload_n 0, 1, 0, 0, .null)] (pc' := 26) (ls' := [some (.ref 0), some (.int p1), some (.int p2)]) (st' := [.ref 0]) (g' := g) (by decide +kernel) rfl ?_
      obtain ⟨w1, e1, H⟩ := xbind H
      refine xcallV A (ix := 207) (nxt := 29) hrm hz [] [] 1001 (c_X11_remember_0 hS _ e1) ok_X11_remember (by decide +kernel) rfl (fun r g1 hq => ?_)
      rw [hq.1, hq.2]
      show xW k S 0 0 29 [some (.ref 0), some (.int p1), some (.int p2)] [] w1
      refine xb A [(.aload_n 0, 1, 0, 0, .null), (.getfield 66, 3, 0, 8, .ref 48), (.iconst 4, 1, 0, 0, .int 4), (.aload_n 0, 1, 0, 0, .null), (.getfield 66, 3, 0, 8, .ref 48), (.iconst 4, 1, 0, 0, .int 4)] (pc' := 39) (ls' := [some (.ref 0), some (.int p1), some (.int p2)]) (st' := [.int 4, .ref 48, .int 4, .ref 48]) (g' := w1) (by decide +kernel) rfl ?_
      refine xcallV A (ix := 135) (nxt := 42) hrm hz [.int 4] [.int 4, .ref 48] 489 (c_X6_get_48 hS _ rfl) ok_X6_get (by decide +kernel) rfl (fun r g1 hq => ?_)
      rw [hq.1, hq.2]
      show xW k S 0 0 42 [some (.ref 0), some (.int p1), some (.int p2)] [.int (f_X6_get_48 4 w1), .int 4, .ref 48] w1
      refine xb A [(.iload_n 1, 1, 0, 0, .null)] (pc' := 43) (ls' := [some (.ref 0), some (.int p1), some (.int p2)]) (st' := [.int p1, .int (f_X6_get_48 4 w1), .int 4, .ref 48]) (g' := w1) (by decide +kernel) rfl ?_
      refine xcallS A (ix := 214) (nxt := 46) hrm hz [.int p1] [.int (f_X6_get_48 4 w1), .int 4, .ref 48] 1017 (c_X11_bit hS _ rfl) ok_X11_bit (by decide +kernel) rfl (fun r g1 hq => ?_)
      rw [hq.1, hq.2]
      show xW k S 0 0 46 [some (.ref 0), some (.int p1), some (.int p2)] [.int (f_X11_bit p1), .int (f_X6_get_48 4 w1), .int 4, .ref 48] w1
      refine xb A [(.ixor, 1, 0, 0, .null)] (pc' := 47) (ls' := [some (.ref 0), some (.int p1), some (.int p2)]) (st' := [.int ((f_X6_get_48 4 w1) ^^^ (f_X11_bit p1)), .int 4, .ref 48]) (g' := w1) (by decide +kernel) rfl ?_
      obtain ⟨w2, e2, H⟩ := xl_elim H
      refine xcallV A (ix := 217) (nxt := 50) hrm hz [.int 4, .int ((f_X6_get_48 4 w1) ^^^ (f_X11_bit p1))] [] 1018 (c_X6_set_48 hS _ e2) ok_X6_set (by decide +kernel) rfl (fun r g1 hq => ?_)
      rw [hq.1, hq.2]
      show xW k S 0 0 50 [some (.ref 0), some (.int p1), some (.int p2)] [] w2
      refine xb A [(.aload_n 0, 1, 0, 0, .null), (.getfield 37, 3, 0, 3, .ref 38), (.aload_n 0, 1, 0, 0, .null), (.getfield 66, 3, 0, 8, .ref 48), (.iconst 4, 1, 0, 0, .int 4)] (pc' := 59) (ls' := [some (.ref 0), some (.int p1), some (.int p2)]) (st' := [.int 4, .ref 48, .ref 38]) (g' := w2) (by decide +kernel) rfl ?_
      refine xcallV A (ix := 135) (nxt := 62) hrm hz [.int 4] [.ref 38] 489 (c_X6_get_48 hS _ rfl) ok_X6_get (by decide +kernel) rfl (fun r g1 hq => ?_)
      rw [hq.1, hq.2]
      show xW k S 0 0 62 [some (.ref 0), some (.int p1), some (.int p2)] [.int (f_X6_get_48 4 w2), .ref 38] w2
      obtain ⟨w3, e3, H⟩ := xbind H
      refine xcallV A (ix := 139) (nxt := 65) hrm hz [.int (f_X6_get_48 4 w2)] [] 494 (c_X10_measure_38 hS _ e3) ok_X10_measure (by decide +kernel) rfl (fun r g1 hq => ?_)
      rw [hq.1, hq.2]
      show xW k S 0 0 65 [some (.ref 0), some (.int p1), some (.int p2)] [] w3
      refine xb A [(.iconst 1, 1, 0, 0, .int 1)] (pc' := 66) (ls' := [some (.ref 0), some (.int p1), some (.int p2)]) (st' := [.int 1]) (g' := w3) (by decide +kernel) rfl ?_
      obtain rfl := Option.some.inj H
      exact xret_i A hR hz (by decide +kernel) rfl ⟨rfl, rfl⟩
    · rw [if_neg h2] at H
      refine xb A [(.iconst 0, 1, 0, 0, .int 0)] (pc' := 24) (ls' := [some (.ref 0), some (.int p1), some (.int p2)]) (st' := [.int 0]) (g' := g) (by decide +kernel) rfl ?_
      obtain rfl := Option.some.inj H
      exact xret_i A hR hz (by decide +kernel) rfl ⟨rfl, rfl⟩
theorem fr_X11_close_0 {p1 : Int32} {p2 : Int32} {g : xG} (out : Int32 × xG) (H : f_X11_close_0 p1 p2 g = some out) : xfrm fp_X11_close_0 g (out.2) := by
  have H : (if (f_X4_isRoad_3 p1 g) = 0 then
  some (0, g)
else
  if p2 = (f_X10_isOpen_38 p1 g) then
    (f_X11_remember_0 g).bind fun w1 =>
    xl (f_X6_set_48 4 ((f_X6_get_48 4 w1) ^^^ (f_X11_bit p1)) w1) fun w2 =>
    (f_X10_measure_38 (f_X6_get_48 4 w2) w2).bind fun w3 =>
    some (1, w3)
  else
    some (0, g)) = some out := H
  by_cases h1 : (f_X4_isRoad_3 p1 g) = 0
  · rw [if_pos h1] at H
    obtain rfl := Option.some.inj H
    exact xfrm.rf
  · rw [if_neg h1] at H
    by_cases h2 : p2 = (f_X10_isOpen_38 p1 g)
    · rw [if_pos h2] at H
      obtain ⟨w1, e1, H⟩ := xbind H
      have hf1 : xfrm fp_X11_close_0 g (w1) := xfrm.tr xfrm.rf (fr_X11_remember_0 _ e1) rfl
      obtain ⟨w2, e2, H⟩ := xl_elim H
      have hf2 : xfrm fp_X11_close_0 g (w2) := xfrm.tr hf1 (fr_X6_set_48 _ e2) rfl
      obtain ⟨w3, e3, H⟩ := xbind H
      have hf3 : xfrm fp_X11_close_0 g (w3) := xfrm.tr hf2 (fr_X10_measure_38 _ e3) rfl
      obtain rfl := Option.some.inj H
      exact hf3
    · rw [if_neg h2] at H
      obtain rfl := Option.some.inj H
      exact xfrm.rf
def fp_X11_admit_0 : List (Nat × Option Nat) := [(0, some 13), (0, some 14), (49, none), (53, none)]
def f_X11_admit_0 (p1 : Int32) (g : xG) : Option (Int32 × xG) :=
  if (f_X4_isPerson_3 p1 g) = 0 then
    some (0, g)
  else
    if (f_X6_isBarred_48 p1 g) = 0 then
      some (0, g)
    else
      (f_X11_remember_0 g).bind fun w1 =>
      xl (f_X6_set_48 3 ((f_X6_get_48 3 w1) &&& ((f_X11_bit p1) ^^^ (-1))) w1) fun w2 =>
      some (1, w2)
set_option maxRecDepth 20000 in
theorem c_X11_admit_0 {S : List xSh} (hS : xpf SH1 S) {g : xG} {p1 : Int32} (out : Int32 × xG) (H : f_X11_admit_0 p1 g = some out) : xC mX11_admit 4 85 0 0 S [.ref 0, .int p1] g S (fun r g' => r = some (.int out.1) ∧ g' = out.2) := by
  have H : (if (f_X4_isPerson_3 p1 g) = 0 then
  some (0, g)
else
  if (f_X6_isBarred_48 p1 g) = 0 then
    some (0, g)
  else
    (f_X11_remember_0 g).bind fun w1 =>
    xl (f_X6_set_48 3 ((f_X6_get_48 3 w1) &&& ((f_X11_bit p1) ^^^ (-1))) w1) fun w2 =>
    some (1, w2)) = some out := H
  refine xC.of 11 SH1 [some (.ref 0), some (.int p1)] hS (by decide +kernel) rfl (fun _ _ => Nat.le_of_ble_eq_true rfl) (fun _ _ => rfl) ?_
  intro k A hR hrm hz
  refine xb A [(.aload_n 0, 1, 0, 0, .null), (.getfield 19, 3, 0, 1, .ref 3), (.iload_n 1, 1, 0, 0, .null)] (pc' := 5) (ls' := [some (.ref 0), some (.int p1)]) (st' := [.int p1, .ref 3]) (g' := g) (by decide +kernel) rfl ?_
  refine xcallV A (ix := 183) (nxt := 8) hrm hz [.int p1] [] 932 (c_X4_isPerson_3 hS _ rfl) ok_X4_isPerson (by decide +kernel) rfl (fun r g1 hq => ?_)
  rw [hq.1, hq.2]
  show xW k S 0 0 8 [some (.ref 0), some (.int p1)] [.int (f_X4_isPerson_3 p1 g)] g
  refine xif_eq A (14) 22 11 (by decide +kernel) (fun h1 => ?_) (fun h1 => ?_)
  · rw [if_pos h1] at H
    refine xb A [(.iconst 0, 1, 0, 0, .int 0)] (pc' := 23) (ls' := [some (.ref 0), some (.int p1)]) (st' := [.int 0]) (g' := g) (by decide +kernel) rfl ?_
    obtain rfl := Option.some.inj H
    exact xret_i A hR hz (by decide +kernel) rfl ⟨rfl, rfl⟩
  · rw [if_neg h1] at H
    refine xb A [(.aload_n 0, 1, 0, 0, .null), (.getfield 66, 3, 0, 8, .ref 48), (.iload_n 1, 1, 0, 0, .null)] (pc' := 16) (ls' := [some (.ref 0), some (.int p1)]) (st' := [.int p1, .ref 48]) (g' := g) (by decide +kernel) rfl ?_
    refine xcallV A (ix := 195) (nxt := 19) hrm hz [.int p1] [] 948 (c_X6_isBarred_48 hS _ rfl) ok_X6_isBarred (by decide +kernel) rfl (fun r g1 hq => ?_)
    rw [hq.1, hq.2]
    show xW k S 0 0 19 [some (.ref 0), some (.int p1)] [.int (f_X6_isBarred_48 p1 g)] g
    refine xif_ne A (5) 24 22 (by decide +kernel) (fun h2 => ?_) (fun h2 => ?_)
    · rw [if_neg h2] at H
      refine xb A [(.aload_n 0, 1, 0, 0, .null)] (pc' := 25) (ls' := [some (.ref 0), some (.int p1)]) (st' := [.ref 0]) (g' := g) (by decide +kernel) rfl ?_
      obtain ⟨w1, e1, H⟩ := xbind H
      refine xcallV A (ix := 207) (nxt := 28) hrm hz [] [] 1001 (c_X11_remember_0 hS _ e1) ok_X11_remember (by decide +kernel) rfl (fun r g1 hq => ?_)
      rw [hq.1, hq.2]
      show xW k S 0 0 28 [some (.ref 0), some (.int p1)] [] w1
      refine xb A [(.aload_n 0, 1, 0, 0, .null), (.getfield 66, 3, 0, 8, .ref 48), (.iconst 3, 1, 0, 0, .int 3), (.aload_n 0, 1, 0, 0, .null), (.getfield 66, 3, 0, 8, .ref 48), (.iconst 3, 1, 0, 0, .int 3)] (pc' := 38) (ls' := [some (.ref 0), some (.int p1)]) (st' := [.int 3, .ref 48, .int 3, .ref 48]) (g' := w1) (by decide +kernel) rfl ?_
      refine xcallV A (ix := 135) (nxt := 41) hrm hz [.int 3] [.int 3, .ref 48] 489 (c_X6_get_48 hS _ rfl) ok_X6_get (by decide +kernel) rfl (fun r g1 hq => ?_)
      rw [hq.1, hq.2]
      show xW k S 0 0 41 [some (.ref 0), some (.int p1)] [.int (f_X6_get_48 3 w1), .int 3, .ref 48] w1
      refine xb A [(.iload_n 1, 1, 0, 0, .null)] (pc' := 42) (ls' := [some (.ref 0), some (.int p1)]) (st' := [.int p1, .int (f_X6_get_48 3 w1), .int 3, .ref 48]) (g' := w1) (by decide +kernel) rfl ?_
      refine xcallS A (ix := 214) (nxt := 45) hrm hz [.int p1] [.int (f_X6_get_48 3 w1), .int 3, .ref 48] 1017 (c_X11_bit hS _ rfl) ok_X11_bit (by decide +kernel) rfl (fun r g1 hq => ?_)
      rw [hq.1, hq.2]
      show xW k S 0 0 45 [some (.ref 0), some (.int p1)] [.int (f_X11_bit p1), .int (f_X6_get_48 3 w1), .int 3, .ref 48] w1
      refine xb A [(.iconst (-1), 1, 0, 0, .int (-1)), (.ixor, 1, 0, 0, .null), (.iand, 1, 0, 0, .null)] (pc' := 48) (ls' := [some (.ref 0), some (.int p1)]) (st' := [.int ((f_X6_get_48 3 w1) &&& ((f_X11_bit p1) ^^^ (-1))), .int 3, .ref 48]) (g' := w1) (by decide +kernel) rfl ?_
      obtain ⟨w2, e2, H⟩ := xl_elim H
      refine xcallV A (ix := 217) (nxt := 51) hrm hz [.int 3, .int ((f_X6_get_48 3 w1) &&& ((f_X11_bit p1) ^^^ (-1)))] [] 1018 (c_X6_set_48 hS _ e2) ok_X6_set (by decide +kernel) rfl (fun r g1 hq => ?_)
      rw [hq.1, hq.2]
      show xW k S 0 0 51 [some (.ref 0), some (.int p1)] [] w2
      refine xb A [(.iconst 1, 1, 0, 0, .int 1)] (pc' := 52) (ls' := [some (.ref 0), some (.int p1)]) (st' := [.int 1]) (g' := w2) (by decide +kernel) rfl ?_
      obtain rfl := Option.some.inj H
      exact xret_i A hR hz (by decide +kernel) rfl ⟨rfl, rfl⟩
    · rw [if_pos h2] at H
      refine xb A [(.iconst 0, 1, 0, 0, .int 0)] (pc' := 23) (ls' := [some (.ref 0), some (.int p1)]) (st' := [.int 0]) (g' := g) (by decide +kernel) rfl ?_
      obtain rfl := Option.some.inj H
      exact xret_i A hR hz (by decide +kernel) rfl ⟨rfl, rfl⟩
theorem fr_X11_admit_0 {p1 : Int32} {g : xG} (out : Int32 × xG) (H : f_X11_admit_0 p1 g = some out) : xfrm fp_X11_admit_0 g (out.2) := by
  have H : (if (f_X4_isPerson_3 p1 g) = 0 then
  some (0, g)
else
  if (f_X6_isBarred_48 p1 g) = 0 then
    some (0, g)
  else
    (f_X11_remember_0 g).bind fun w1 =>
    xl (f_X6_set_48 3 ((f_X6_get_48 3 w1) &&& ((f_X11_bit p1) ^^^ (-1))) w1) fun w2 =>
    some (1, w2)) = some out := H
  by_cases h1 : (f_X4_isPerson_3 p1 g) = 0
  · rw [if_pos h1] at H
    obtain rfl := Option.some.inj H
    exact xfrm.rf
  · rw [if_neg h1] at H
    by_cases h2 : (f_X6_isBarred_48 p1 g) = 0
    · rw [if_pos h2] at H
      obtain rfl := Option.some.inj H
      exact xfrm.rf
    · rw [if_neg h2] at H
      obtain ⟨w1, e1, H⟩ := xbind H
      have hf1 : xfrm fp_X11_admit_0 g (w1) := xfrm.tr xfrm.rf (fr_X11_remember_0 _ e1) rfl
      obtain ⟨w2, e2, H⟩ := xl_elim H
      have hf2 : xfrm fp_X11_admit_0 g (w2) := xfrm.tr hf1 (fr_X6_set_48 _ e2) rfl
      obtain rfl := Option.some.inj H
      exact hf2
def f_X11_isSpan (p0 : Int32) : Int32 :=
  if p0 < 0 then
    0
  else
    if 60 < p0 then
      0
    else
      1
set_option maxRecDepth 20000 in
theorem c_X11_isSpan {S : List xSh} (hS : xpf SH1 S) {g : xG} {p0 : Int32} (out : Int32) (H : f_X11_isSpan p0 = out) : xC mX11_isSpan 0 0 0 0 S [.int p0] g S (fun r g' => r = some (.int out) ∧ g' = g) := by
  have H : (if p0 < 0 then
  0
else
  if 60 < p0 then
    0
  else
    1) = out := H
  refine xC.of 11 SH1 [some (.int p0)] hS (by decide +kernel) rfl (fun _ _ => Nat.le_of_ble_eq_true rfl) (fun _ _ => rfl) ?_
  intro k A hR hrm hz
  refine xb A [(.iload_n 0, 1, 0, 0, .null)] (pc' := 1) (ls' := [some (.int p0)]) (st' := [.int p0]) (g' := g) (by decide +kernel) rfl ?_
  refine xif_lt A (13) 14 4 (by decide +kernel) (fun h1 => ?_) (fun h1 => ?_)
  · rw [if_pos h1] at H
    refine xb A [(.iconst 0, 1, 0, 0, .int 0)] (pc' := 15) (ls' := [some (.int p0)]) (st' := [.int 0]) (g' := g) (by decide +kernel) rfl ?_
    subst H
    exact xret_i A hR hz (by decide +kernel) rfl ⟨rfl, rfl⟩
  · rw [if_neg h1] at H
    refine xb A [(.iload_n 0, 1, 0, 0, .null), (.bipush 60, 2, 0, 0, .int 60)] (pc' := 7) (ls' := [some (.int p0)]) (st' := [.int 60, .int p0]) (g' := g) (by decide +kernel) rfl ?_
    refine xic_gt A (7) 14 10 (by decide +kernel) (fun h2 => ?_) (fun h2 => ?_)
    · rw [if_pos h2] at H
      refine xb A [(.iconst 0, 1, 0, 0, .int 0)] (pc' := 15) (ls' := [some (.int p0)]) (st' := [.int 0]) (g' := g) (by decide +kernel) rfl ?_
      subst H
      exact xret_i A hR hz (by decide +kernel) rfl ⟨rfl, rfl⟩
    · rw [if_neg h2] at H
      refine xb A [(.iconst 1, 1, 0, 0, .int 1)] (pc' := 11) (ls' := [some (.int p0)]) (st' := [.int 1]) (g' := g) (by decide +kernel) rfl ?_
      refine xgoto A (4) 15 (by decide +kernel) ?_
      subst H
      exact xret_i A hR hz (by decide +kernel) rfl ⟨rfl, rfl⟩
def f_X4_seed_3  (g : xG) : Int32 :=
  g.1 3 13
set_option maxRecDepth 20000 in
theorem c_X4_seed_3 {S : List xSh} (hS : xpf SH1 S) {g : xG}  (out : Int32) (H : f_X4_seed_3  g = out) : xC mX4_seed 0 0 0 0 S [.ref 3] g S (fun r g' => r = some (.int out) ∧ g' = g) := by
  have H : (g.1 3 13) = out := H
  refine xC.of 4 SH1 [some (.ref 3)] hS (by decide +kernel) rfl (fun _ _ => Nat.le_of_ble_eq_true rfl) (fun _ _ => rfl) ?_
  intro k A hR hrm hz
  refine xb A [(.aload_n 0, 1, 0, 0, .null), (.getfield 57, 3, 3, 13, .int 0)] (pc' := 4) (ls' := [some (.ref 3)]) (st' := [.int (g.1 3 13)]) (g' := g) (by decide +kernel) rfl ?_
  subst H
  exact xret_i A hR hz (by decide +kernel) rfl ⟨rfl, rfl⟩
def f_X1_mayRing_44_48 (p2 : Int32) (g : xG) : Int32 :=
  if (f_X6_of_48 p2 5 g) = (f_X4_capital_3 g) then
    if (f_X6_isBarred_48 p2 g) = 0 then
      1
    else
      0
  else
    0
set_option maxRecDepth 20000 in
theorem c_X1_mayRing_44_48 {S : List xSh} (hS : xpf SH1 S) {g : xG} {p2 : Int32} (out : Int32) (H : f_X1_mayRing_44_48 p2 g = out) : xC mX1_mayRing 3 63 0 0 S [.ref 44, .ref 48, .int p2] g S (fun r g' => r = some (.int out) ∧ g' = g) := by
  have H : (if (f_X6_of_48 p2 5 g) = (f_X4_capital_3 g) then
  if (f_X6_isBarred_48 p2 g) = 0 then
    1
  else
    0
else
  0) = out := H
  refine xC.of 1 SH1 [some (.ref 44), some (.ref 48), some (.int p2)] hS (by decide +kernel) rfl (fun _ _ => Nat.le_of_ble_eq_true rfl) (fun _ _ => rfl) ?_
  intro k A hR hrm hz
  refine xb A [(.aload_n 1, 1, 0, 0, .null), (.iload_n 2, 1, 0, 0, .null), (.iconst 5, 1, 0, 0, .int 5)] (pc' := 3) (ls' := [some (.ref 44), some (.ref 48), some (.int p2)]) (st' := [.int 5, .int p2, .ref 48]) (g' := g) (by decide +kernel) rfl ?_
  refine xcallV A (ix := 51) (nxt := 6) hrm hz [.int p2, .int 5] [] 969 (c_X6_of_48 hS _ rfl) ok_X6_of (by decide +kernel) rfl (fun r g1 hq => ?_)
  rw [hq.1, hq.2]
  show xW k S 0 0 6 [some (.ref 44), some (.ref 48), some (.int p2)] [.int (f_X6_of_48 p2 5 g)] g
  refine xb A [(.aload_n 0, 1, 0, 0, .null), (.getfield 17, 3, 44, 0, .ref 3)] (pc' := 10) (ls' := [some (.ref 44), some (.ref 48), some (.int p2)]) (st' := [.ref 3, .int (f_X6_of_48 p2 5 g)]) (g' := g) (by decide +kernel) rfl ?_
  refine xcallV A (ix := 31) (nxt := 13) hrm hz [] [.int (f_X6_of_48 p2 5 g)] 958 (c_X4_capital_3 hS _ rfl) ok_X4_capital (by decide +kernel) rfl (fun r g1 hq => ?_)
  rw [hq.1, hq.2]
  show xW k S 0 0 13 [some (.ref 44), some (.ref 48), some (.int p2)] [.int (f_X4_capital_3 g), .int (f_X6_of_48 p2 5 g)] g
  refine xic_ne A (15) 28 16 (by decide +kernel) (fun h1 => ?_) (fun h1 => ?_)
  · rw [if_neg h1] at H
    refine xb A [(.iconst 0, 1, 0, 0, .int 0)] (pc' := 29) (ls' := [some (.ref 44), some (.ref 48), some (.int p2)]) (st' := [.int 0]) (g' := g) (by decide +kernel) rfl ?_
    subst H
    exact xret_i A hR hz (by decide +kernel) rfl ⟨rfl, rfl⟩
  · rw [if_pos h1] at H
    refine xb A [(.aload_n 1, 1, 0, 0, .null), (.iload_n 2, 1, 0, 0, .null)] (pc' := 18) (ls' := [some (.ref 44), some (.ref 48), some (.int p2)]) (st' := [.int p2, .ref 48]) (g' := g) (by decide +kernel) rfl ?_
    refine xcallV A (ix := 104) (nxt := 21) hrm hz [.int p2] [] 1046 (c_X6_isBarred_48 hS _ rfl) ok_X6_isBarred (by decide +kernel) rfl (fun r g1 hq => ?_)
    rw [hq.1, hq.2]
    show xW k S 0 0 21 [some (.ref 44), some (.ref 48), some (.int p2)] [.int (f_X6_isBarred_48 p2 g)] g
    refine xif_ne A (7) 28 24 (by decide +kernel) (fun h2 => ?_) (fun h2 => ?_)
    · rw [if_neg h2] at H
      refine xb A [(.iconst 0, 1, 0, 0, .int 0)] (pc' := 29) (ls' := [some (.ref 44), some (.ref 48), some (.int p2)]) (st' := [.int 0]) (g' := g) (by decide +kernel) rfl ?_
      subst H
      exact xret_i A hR hz (by decide +kernel) rfl ⟨rfl, rfl⟩
    · rw [if_pos h2] at H
      refine xb A [(.iconst 1, 1, 0, 0, .int 1)] (pc' := 25) (ls' := [some (.ref 44), some (.ref 48), some (.int p2)]) (st' := [.int 1]) (g' := g) (by decide +kernel) rfl ?_
      refine xgoto A (4) 29 (by decide +kernel) ?_
      subst H
      exact xret_i A hR hz (by decide +kernel) rfl ⟨rfl, rfl⟩
def fp_X1_ringerOf_44_48 : List (Nat × Option Nat) := [(16, none), (45, none)]
def f_X1_ringerOf_44_48_8  : Nat → Int32 → Int32 → Int32 → xG → Option (Int32 × xG)
  | 0, _, _, _, _ => none
  | n + 1, l2, l3, l4, g =>
    if (f_X4_people_3 g) ≤ l4 then
      some (l2, g)
    else
      if (f_X1_mayRing_44_48 l4 g) = 0 then
        f_X1_ringerOf_44_48_8 n l2 l3 (l4 + 1) g
      else
        (f_X1_lawNow_44_48 l4 0 g).bind fun w1 =>
        if l2 < 0 then
          f_X1_ringerOf_44_48_8 n l4 w1.1 (l4 + 1) w1.2
        else
          if w1.1 ≤ l3 then
            f_X1_ringerOf_44_48_8 n l2 l3 (l4 + 1) w1.2
          else
            f_X1_ringerOf_44_48_8 n l4 w1.1 (l4 + 1) w1.2
def f_X1_ringerOf_44_48  (g : xG) : Option (Int32 × xG) :=
  f_X1_ringerOf_44_48_8 xN (-2) 0 0 g
set_option maxRecDepth 20000 in
theorem t_X1_ringerOf_44_48_8 {k : xK} {S : List xSh} {out : Int32 × xG} (hS : xpf SH1 S) (A : xAt k mX1_ringerOf.2.1 1 SH1 S) (hR : xRet k 0 0 S (fun r g' => r = some (.int out.1) ∧ g' = out.2) mX1_ringerOf.2.2.2) (hrm : xrm k = { frames := 4, cells := 0, slots := 0, locals := 99 }) (hz : xhs k = xb0 k + S.length)   : ∀ (n : Nat) (l2 : Int32) (l3 : Int32) (l4 : Int32) (g : xG), f_X1_ringerOf_44_48_8 n l2 l3 l4 g = some out → xW k S 0 0 8 [some (.ref 44), some (.ref 48), some (.int l2), some (.int l3), some (.int l4), none] [] g := by
  intro n
  induction n with
  | zero => intro l2 l3 l4 g H; exact absurd H (by simp [f_X1_ringerOf_44_48_8])
  | succ n ih =>
    intro l2 l3 l4 g H
    have H : (if (f_X4_people_3 g) ≤ l4 then
  some (l2, g)
else
  if (f_X1_mayRing_44_48 l4 g) = 0 then
    f_X1_ringerOf_44_48_8 n l2 l3 (l4 + 1) g
  else
    (f_X1_lawNow_44_48 l4 0 g).bind fun w1 =>
    if l2 < 0 then
      f_X1_ringerOf_44_48_8 n l4 w1.1 (l4 + 1) w1.2
    else
      if w1.1 ≤ l3 then
        f_X1_ringerOf_44_48_8 n l2 l3 (l4 + 1) w1.2
      else
        f_X1_ringerOf_44_48_8 n l4 w1.1 (l4 + 1) w1.2) = some out := H
    refine xb A [(.iload 4, 2, 0, 0, .null), (.aload_n 0, 1, 0, 0, .null), (.getfield 17, 3, 44, 0, .ref 3)] (pc' := 14) (ls' := [some (.ref 44), some (.ref 48), some (.int l2), some (.int l3), some (.int l4), none]) (st' := [.ref 3, .int l4]) (g' := g) (by decide +kernel) rfl ?_
    refine xcallV A (ix := 60) (nxt := 17) hrm hz [] [.int l4] 972 (c_X4_people_3 hS _ rfl) ok_X4_people (by decide +kernel) rfl (fun r g1 hq => ?_)
    rw [hq.1, hq.2]
    show xW k S 0 0 17 [some (.ref 44), some (.ref 48), some (.int l2), some (.int l3), some (.int l4), none] [.int (f_X4_people_3 g), .int l4] g
    refine xic_ge A (45) 62 20 (by decide +kernel) (fun h1 => ?_) (fun h1 => ?_)
    · rw [if_pos h1] at H
      refine xb A [(.iload_n 2, 1, 0, 0, .null)] (pc' := 63) (ls' := [some (.ref 44), some (.ref 48), some (.int l2), some (.int l3), some (.int l4), none]) (st' := [.int l2]) (g' := g) (by decide +kernel) rfl ?_
      obtain rfl := Option.some.inj H
      exact xret_i A hR hz (by decide +kernel) rfl ⟨rfl, rfl⟩
    · rw [if_neg h1] at H
      refine xb A [(.aload_n 0, 1, 0, 0, .null), (.aload_n 1, 1, 0, 0, .null), (.iload 4, 2, 0, 0, .null)] (pc' := 24) (ls' := [some (.ref 44), some (.ref 48), some (.int l2), some (.int l3), some (.int l4), none]) (st' := [.int l4, .ref 48, .ref 44]) (g' := g) (by decide +kernel) rfl ?_
      refine xcallV A (ix := 96) (nxt := 27) hrm hz [.ref 48, .int l4] [] 1042 (c_X1_mayRing_44_48 hS _ rfl) ok_X1_mayRing (by decide +kernel) rfl (fun r g1 hq => ?_)
      rw [hq.1, hq.2]
      show xW k S 0 0 27 [some (.ref 44), some (.ref 48), some (.int l2), some (.int l3), some (.int l4), none] [.int (f_X1_mayRing_44_48 l4 g)] g
      refine xif_eq A (29) 56 30 (by decide +kernel) (fun h2 => ?_) (fun h2 => ?_)
      · rw [if_pos h2] at H
        refine xb A [(.iinc 4 1, 3, 0, 0, .null)] (pc' := 59) (ls' := [some (.ref 44), some (.ref 48), some (.int l2), some (.int l3), some (.int (l4 + 1)), none]) (st' := []) (g' := g) (by decide +kernel) rfl ?_
        refine xgoto A (-51) 8 (by decide +kernel) ?_
        exact ih _ _ _ _ H
      · rw [if_neg h2] at H
        refine xb A [(.aload_n 0, 1, 0, 0, .null), (.aload_n 1, 1, 0, 0, .null), (.iload 4, 2, 0, 0, .null), (.iconst 0, 1, 0, 0, .int 0)] (pc' := 35) (ls' := [some (.ref 44), some (.ref 48), some (.int l2), some (.int l3), some (.int l4), none]) (st' := [.int 0, .int l4, .ref 48, .ref 44]) (g' := g) (by decide +kernel) rfl ?_
        obtain ⟨w1, e1, H⟩ := xbind H
        refine xcallV A (ix := 100) (nxt := 38) hrm hz [.ref 48, .int l4, .int 0] [] 1047 (c_X1_lawNow_44_48 hS _ e1) ok_X1_lawNow (by decide +kernel) rfl (fun r g1 hq => ?_)
        rw [hq.1, hq.2]
        show xW k S 0 0 38 [some (.ref 44), some (.ref 48), some (.int l2), some (.int l3), some (.int l4), none] [.int w1.1] w1.2
        refine xb A [(.istore 5, 2, 0, 0, .null), (.iload_n 2, 1, 0, 0, .null)] (pc' := 41) (ls' := [some (.ref 44), some (.ref 48), some (.int l2), some (.int l3), some (.int l4), some (.int w1.1)]) (st' := [.int l2]) (g' := w1.2) (by decide +kernel) rfl ?_
        refine xif_lt A (9) 50 44 (by decide +kernel) (fun h3 => ?_) (fun h3 => ?_)
        · rw [if_pos h3] at H
          refine xb A [(.iload 4, 2, 0, 0, .null), (.istore_n 2, 1, 0, 0, .null), (.iload 5, 2, 0, 0, .null), (.istore_n 3, 1, 0, 0, .null), (.iinc 4 1, 3, 0, 0, .null)] (pc' := 59) (ls' := [some (.ref 44), some (.ref 48), some (.int l4), some (.int w1.1), some (.int (l4 + 1)), some (.int w1.1)]) (st' := []) (g' := w1.2) (by decide +kernel) rfl ?_
          refine xgoto A (-51) 8 (by decide +kernel) ?_
          refine xweak (ls' := [some (.ref 44), some (.ref 48), some (.int l4), some (.int w1.1), some (.int (l4 + 1)), none]) (by exact ⟨rfl, ⟨rfl, ⟨rfl, ⟨rfl, ⟨rfl, trivial⟩⟩⟩⟩⟩) ?_
          exact ih _ _ _ _ H
        · rw [if_neg h3] at H
          refine xb A [(.iload 5, 2, 0, 0, .null), (.iload_n 3, 1, 0, 0, .null)] (pc' := 47) (ls' := [some (.ref 44), some (.ref 48), some (.int l2), some (.int l3), some (.int l4), some (.int w1.1)]) (st' := [.int l3, .int w1.1]) (g' := w1.2) (by decide +kernel) rfl ?_
          refine xic_le A (9) 56 50 (by decide +kernel) (fun h4 => ?_) (fun h4 => ?_)
          · rw [if_pos h4] at H
            refine xb A [(.iinc 4 1, 3, 0, 0, .null)] (pc' := 59) (ls' := [some (.ref 44), some (.ref 48), some (.int l2), some (.int l3), some (.int (l4 + 1)), some (.int w1.1)]) (st' := []) (g' := w1.2) (by decide +kernel) rfl ?_
            refine xgoto A (-51) 8 (by decide +kernel) ?_
            refine xweak (ls' := [some (.ref 44), some (.ref 48), some (.int l2), some (.int l3), some (.int (l4 + 1)), none]) (by exact ⟨rfl, ⟨rfl, ⟨rfl, ⟨rfl, ⟨rfl, trivial⟩⟩⟩⟩⟩) ?_
            exact ih _ _ _ _ H
          · rw [if_neg h4] at H
            refine xb A [(.iload 4, 2, 0, 0, .null), (.istore_n 2, 1, 0, 0, .null), (.iload 5, 2, 0, 0, .null), (.istore_n 3, 1, 0, 0, .null), (.iinc 4 1, 3, 0, 0, .null)] (pc' := 59) (ls' := [some (.ref 44), some (.ref 48), some (.int l4), some (.int w1.1), some (.int (l4 + 1)), some (.int w1.1)]) (st' := []) (g' := w1.2) (by decide +kernel) rfl ?_
            refine xgoto A (-51) 8 (by decide +kernel) ?_
            refine xweak (ls' := [some (.ref 44), some (.ref 48), some (.int l4), some (.int w1.1), some (.int (l4 + 1)), none]) (by exact ⟨rfl, ⟨rfl, ⟨rfl, ⟨rfl, ⟨rfl, trivial⟩⟩⟩⟩⟩) ?_
            exact ih _ _ _ _ H
theorem fr_X1_ringerOf_44_48_8   : ∀ (n : Nat) (l2 : Int32) (l3 : Int32) (l4 : Int32) (g : xG) (out : Int32 × xG), f_X1_ringerOf_44_48_8 n l2 l3 l4 g = some out → xfrm fp_X1_ringerOf_44_48 g (out.2) := by
  intro n
  induction n with
  | zero => intro l2 l3 l4 g out H; exact absurd H (by simp [f_X1_ringerOf_44_48_8])
  | succ n ih =>
    intro l2 l3 l4 g out H
    have H : (if (f_X4_people_3 g) ≤ l4 then
  some (l2, g)
else
  if (f_X1_mayRing_44_48 l4 g) = 0 then
    f_X1_ringerOf_44_48_8 n l2 l3 (l4 + 1) g
  else
    (f_X1_lawNow_44_48 l4 0 g).bind fun w1 =>
    if l2 < 0 then
      f_X1_ringerOf_44_48_8 n l4 w1.1 (l4 + 1) w1.2
    else
      if w1.1 ≤ l3 then
        f_X1_ringerOf_44_48_8 n l2 l3 (l4 + 1) w1.2
      else
        f_X1_ringerOf_44_48_8 n l4 w1.1 (l4 + 1) w1.2) = some out := H
    by_cases h1 : (f_X4_people_3 g) ≤ l4
    · rw [if_pos h1] at H
      obtain rfl := Option.some.inj H
      exact xfrm.rf
    · rw [if_neg h1] at H
      by_cases h2 : (f_X1_mayRing_44_48 l4 g) = 0
      · rw [if_pos h2] at H
        exact xfrm.tr xfrm.rf (ih _ _ _ _ _ H) rfl
      · rw [if_neg h2] at H
        obtain ⟨w1, e1, H⟩ := xbind H
        have hf1 : xfrm fp_X1_ringerOf_44_48 g (w1.2) := xfrm.tr xfrm.rf (fr_X1_lawNow_44_48 _ e1) rfl
        by_cases h3 : l2 < 0
        · rw [if_pos h3] at H
          exact xfrm.tr hf1 (ih _ _ _ _ _ H) rfl
        · rw [if_neg h3] at H
          by_cases h4 : w1.1 ≤ l3
          · rw [if_pos h4] at H
            exact xfrm.tr hf1 (ih _ _ _ _ _ H) rfl
          · rw [if_neg h4] at H
            exact xfrm.tr hf1 (ih _ _ _ _ _ H) rfl
set_option maxRecDepth 20000 in
theorem c_X1_ringerOf_44_48 {S : List xSh} (hS : xpf SH1 S) {g : xG}  (out : Int32 × xG) (H : f_X1_ringerOf_44_48  g = some out) : xC mX1_ringerOf 4 99 0 0 S [.ref 44, .ref 48] g S (fun r g' => r = some (.int out.1) ∧ g' = out.2) := by
  have H : (f_X1_ringerOf_44_48_8 xN (-2) 0 0 g) = some out := H
  refine xC.of 1 SH1 [some (.ref 44), some (.ref 48), none, none, none, none] hS (by decide +kernel) rfl (fun _ _ => Nat.le_of_ble_eq_true rfl) (fun _ _ => rfl) ?_
  intro k A hR hrm hz
  refine xb A [(.bipush (-2), 2, 0, 0, .int (-2)), (.istore_n 2, 1, 0, 0, .null), (.iconst 0, 1, 0, 0, .int 0), (.istore_n 3, 1, 0, 0, .null), (.iconst 0, 1, 0, 0, .int 0), (.istore 4, 2, 0, 0, .null)] (pc' := 8) (ls' := [some (.ref 44), some (.ref 48), some (.int (-2)), some (.int 0), some (.int 0), none]) (st' := []) (g' := g) (by decide +kernel) rfl ?_
  exact t_X1_ringerOf_44_48_8 hS A hR hrm hz _ _ _ _ _ H
theorem fr_X1_ringerOf_44_48  {g : xG} (out : Int32 × xG) (H : f_X1_ringerOf_44_48  g = some out) : xfrm fp_X1_ringerOf_44_48 g (out.2) := by
  have H : (f_X1_ringerOf_44_48_8 xN (-2) 0 0 g) = some out := H
  exact xfrm.tr xfrm.rf (fr_X1_ringerOf_44_48_8 _ _ _ _ _ _ H) rfl
