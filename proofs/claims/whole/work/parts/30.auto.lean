/-! methods, walked by program -/
def fp_X12_expression_60 : List (Nat × Option Nat) := [(60, some 11), (60, some 12), (60, some 13), (60, some 14), (60, some 42), (60, some 46), (88, none), (89, none), (90, none)]
def f_X12_expression_60_234 (k12 : Int32 → Int32 → xG → Option (xG)) (l1 : Int32) (l2 : Int32) (s0 : Int32) (g : xG) : Option (xG) :=
  (f_X12_comesOut_60 s0 g).bind fun w6 =>
  xg (¬ ((w6.1 60 11) < 0 ∨ 403 ≤ (w6.1 60 11).toNatClampNeg)) (
    xg (¬ ((w6.1 60 46) < 0 ∨ 64 ≤ (w6.1 60 46).toNatClampNeg)) (
      (f_X12_goesOn_60 (xupd (xupd w6.1 90 (w6.1 60 46).toNatClampNeg (w6.1 63 (w6.1 60 11).toNatClampNeg)) 60 46 ((w6.1 60 46) + 1), w6.2)).bind fun w7 =>
      k12 l1 l2 w7))
def f_X12_expression_60_229 (k12 : Int32 → Int32 → xG → Option (xG)) (l1 : Int32) (l2 : Int32) (g : xG) : Option (xG) :=
  f_X12_expression_60_234 k12 l1 l2 1 g
def f_X12_expression_60_186 (k12 : Int32 → Int32 → xG → Option (xG)) (l1 : Int32) (s0 : Int32) (g : xG) : Option (xG) :=
  if s0 = 0 then
    if (g.1 60 12) ≤ l1 then
      (f_X12_comesOut_60 0 g).bind fun w9 =>
      some w9
    else
      (f_X12_fail_60 1 g).bind fun w10 =>
      (f_X12_comesOut_60 0 w10).bind fun w11 =>
      some w11
  else
    (f_X12_is_60 10 g).bind fun w5 =>
    if w5 = 0 then
      (f_X12_is_60 15 g).bind fun w8 =>
      if w8 = 0 then
        f_X12_expression_60_234 k12 l1 s0 0 g
      else
        f_X12_expression_60_229 k12 l1 s0 g
    else
      f_X12_expression_60_229 k12 l1 s0 g
def f_X12_expression_60_181 (k12 : Int32 → Int32 → xG → Option (xG)) (l1 : Int32) (g : xG) : Option (xG) :=
  f_X12_expression_60_186 k12 l1 1 g
def f_X12_expression_60_145 (k12 : Int32 → Int32 → xG → Option (xG)) (l1 : Int32) (g : xG) : Option (xG) :=
  (f_X12_is_60 8 g).bind fun w4 =>
  if w4 = 0 then
    (f_X12_is_60 9 g).bind fun w12 =>
    if w12 = 0 then
      (f_X12_is_60 10 g).bind fun w13 =>
      if w13 = 0 then
        (f_X12_is_60 15 g).bind fun w14 =>
        if w14 = 0 then
          f_X12_expression_60_186 k12 l1 0 g
        else
          f_X12_expression_60_181 k12 l1 g
      else
        f_X12_expression_60_181 k12 l1 g
    else
      f_X12_expression_60_181 k12 l1 g
  else
    f_X12_expression_60_181 k12 l1 g
def f_X12_expression_60_96 (k12 : Int32 → Int32 → xG → Option (xG)) : Nat → Int32 → xG → Option (xG)
  | 0, _, _ => none
  | n + 1, l1, g =>
    (f_X12_is_60 7 g).bind fun w3 =>
    if w3 = 0 then
      f_X12_expression_60_145 k12 l1 g
    else
      if (g.1 60 12) ≤ l1 then
        f_X12_expression_60_145 k12 l1 g
      else
        (f_X12_comesOut_60 0 g).bind fun w15 =>
        (f_X12_goesOn_60 (xupd (xupd w15.1 60 46 ((w15.1 60 46) - 1)) 60 12 ((w15.1 60 12) - 1), w15.2)).bind fun w16 =>
        f_X12_expression_60_96 k12 n l1 w16
def f_X12_expression_60_46 (k12 : Int32 → Int32 → xG → Option (xG)) (k23 : Int32 → xG → Option (xG)) (l1 : Int32) (g : xG) : Option (xG) :=
  (f_X12_goesOn_60 (xupd g.1 60 12 ((g.1 60 12) + 1), g.2)).bind fun w17 =>
  xg (¬ ((w17.1 60 46) < 0 ∨ 64 ≤ (w17.1 60 46).toNatClampNeg)) (
    k23 l1 (xupd (xupd w17.1 90 (w17.1 60 46).toNatClampNeg 6) 60 46 ((w17.1 60 46) + 1), w17.2))
def f_X12_expression_60_23 (k12 : Int32 → Int32 → xG → Option (xG)) : Nat → Int32 → xG → Option (xG)
  | 0, _, _ => none
  | n + 1, l1, g =>
    (f_X12_is_60 6 g).bind fun w1 =>
    if w1 = 0 then
      (f_X12_unit_60 g).bind fun w2 =>
      if (w2.1 60 13) ≤ 0 then
        f_X12_expression_60_96 k12 xN l1 w2
      else
        some w2
    else
      if (g.1 60 12) = 6 then
        (f_X12_fail_60 2 g).bind fun w18 =>
        f_X12_expression_60_46 k12 (f_X12_expression_60_23 k12 n) l1 w18
      else
        f_X12_expression_60_46 k12 (f_X12_expression_60_23 k12 n) l1 g
def f_X12_expression_60_12  : Nat → Int32 → Int32 → xG → Option (xG)
  | 0, _, _, _ => none
  | n + 1, l1, l2, g =>
    if l2 = 0 then
      some g
    else
      if (g.1 60 13) = 0 then
        f_X12_expression_60_23 (f_X12_expression_60_12 n) xN l1 g
      else
        some g
def f_X12_expression_60  (g : xG) : Option (xG) :=
  f_X12_expression_60_12 xN (g.1 60 12) 1 (xupd g.1 60 46 0, g.2)
set_option maxRecDepth 20000 in
theorem t_X12_expression_60_234 {k : xK} {S : List xSh} {out : xG} (hS : xpf SH2 S) (A : xAt k mX12_expression.2.1 12 SH2 S) (hR : xRet k 0 0 S (fun r g' => r = none ∧ g' = out) mX12_expression.2.2.2) (hrm : xrm k = { frames := 3, cells := 0, slots := 0, locals := 61 }) (hz : xhs k = xb0 k + S.length) {k12 : Int32 → Int32 → xG → Option (xG)} (hk12 : ∀ (l1 : Int32) (l2 : Int32) (g : xG), k12 l1 l2 g = some out → xW k S 0 0 12 [some (.ref 60), some (.int l1), some (.int l2)] [] g) : ∀ (l1 : Int32) (l2 : Int32) (s0 : Int32) (g : xG), f_X12_expression_60_234 k12 l1 l2 s0 g = some out → xW k S 0 0 234 [some (.ref 60), some (.int l1), some (.int l2)] [.int s0, .ref 60] g := by
  intro l1 l2 s0 g H
  have H : ((f_X12_comesOut_60 s0 g).bind fun w6 =>
xg (¬ ((w6.1 60 11) < 0 ∨ 403 ≤ (w6.1 60 11).toNatClampNeg)) (
  xg (¬ ((w6.1 60 46) < 0 ∨ 64 ≤ (w6.1 60 46).toNatClampNeg)) (
    (f_X12_goesOn_60 (xupd (xupd w6.1 90 (w6.1 60 46).toNatClampNeg (w6.1 63 (w6.1 60 11).toNatClampNeg)) 60 46 ((w6.1 60 46) + 1), w6.2)).bind fun w7 =>
    k12 l1 l2 w7))) = some out := H
  obtain ⟨w6, e6, H⟩ := xbind H
  refine xcallV A (ix := 299) (nxt := 237) hrm hz [.int s0] [] 1676 (c_X12_comesOut_60 hS _ e6) ok_X12_comesOut (by decide +kernel) rfl (fun r g1 hq => ?_)
  rw [hq.1, hq.2]
  show xW k S 0 0 237 [some (.ref 60), some (.int l1), some (.int l2)] [] w6
  refine xb A [(.aload_n 0, 1, 0, 0, .null), (.getfield 107, 3, 60, 45, .ref 90), (.aload_n 0, 1, 0, 0, .null), (.getfield 290, 3, 60, 46, .int 0), (.aload_n 0, 1, 0, 0, .null), (.getfield 20, 3, 60, 5, .ref 63), (.aload_n 0, 1, 0, 0, .null), (.getfield 200, 3, 60, 11, .int 0)] (pc' := 253) (ls' := [some (.ref 60), some (.int l1), some (.int l2)]) (st' := [.int (w6.1 60 11), .ref 63, .int (w6.1 60 46), .ref 90]) (g' := w6) (by decide +kernel) rfl ?_
  obtain ⟨h9, H⟩ := xg_elim H
  refine xiald A (nxt := 254) (by decide +kernel) (hS _ _ sh_63) h9 ?_
  show xW k S 0 0 254 [some (.ref 60), some (.int l1), some (.int l2)] [.int (w6.1 63 (w6.1 60 11).toNatClampNeg), .int (w6.1 60 46), .ref 90] w6
  obtain ⟨h10, H⟩ := xg_elim H
  refine xiast A (nxt := 255) (by decide +kernel) (hS _ _ sh_90) h10 ?_
  show xW k S 0 0 255 [some (.ref 60), some (.int l1), some (.int l2)] [] (xupd w6.1 90 (w6.1 60 46).toNatClampNeg (w6.1 63 (w6.1 60 11).toNatClampNeg), w6.2)
  refine xb A [(.aload_n 0, 1, 0, 0, .null), (.dup, 1, 0, 0, .null), (.getfield 290, 3, 60, 46, .int 0), (.iconst 1, 1, 0, 0, .int 1), (.iadd, 1, 0, 0, .null), (.putfield 290, 3, 60, 46, .int 0), (.aload_n 0, 1, 0, 0, .null)] (pc' := 266) (ls' := [some (.ref 60), some (.int l1), some (.int l2)]) (st' := [.ref 60]) (g' := (xupd (xupd w6.1 90 (w6.1 60 46).toNatClampNeg (w6.1 63 (w6.1 60 11).toNatClampNeg)) 60 46 ((w6.1 60 46) + 1), w6.2)) (by decide +kernel) rfl ?_
  obtain ⟨w7, e7, H⟩ := xbind H
  refine xcallV A (ix := 218) (nxt := 269) hrm hz [] [] 1624 (c_X12_goesOn_60 hS _ e7) ok_X12_goesOn (by decide +kernel) rfl (fun r g1 hq => ?_)
  rw [hq.1, hq.2]
  show xW k S 0 0 269 [some (.ref 60), some (.int l1), some (.int l2)] [] w7
  refine xgoto A (-257) 12 (by decide +kernel) ?_
  exact hk12 _ _ _ H
theorem fr_X12_expression_60_234 {k12 : Int32 → Int32 → xG → Option (xG)} (hk12 : ∀ (l1 : Int32) (l2 : Int32) (g : xG) (out : xG), k12 l1 l2 g = some out → xfrm fp_X12_expression_60 g (out)) : ∀ (l1 : Int32) (l2 : Int32) (s0 : Int32) (g : xG) (out : xG), f_X12_expression_60_234 k12 l1 l2 s0 g = some out → xfrm fp_X12_expression_60 g (out) := by
  intro l1 l2 s0 g out H
  have H : ((f_X12_comesOut_60 s0 g).bind fun w6 =>
xg (¬ ((w6.1 60 11) < 0 ∨ 403 ≤ (w6.1 60 11).toNatClampNeg)) (
  xg (¬ ((w6.1 60 46) < 0 ∨ 64 ≤ (w6.1 60 46).toNatClampNeg)) (
    (f_X12_goesOn_60 (xupd (xupd w6.1 90 (w6.1 60 46).toNatClampNeg (w6.1 63 (w6.1 60 11).toNatClampNeg)) 60 46 ((w6.1 60 46) + 1), w6.2)).bind fun w7 =>
    k12 l1 l2 w7))) = some out := H
  obtain ⟨w6, e6, H⟩ := xbind H
  have hf3 : xfrm fp_X12_expression_60 g (w6) := xfrm.tr xfrm.rf (fr_X12_comesOut_60 _ e6) rfl
  obtain ⟨h9, H⟩ := xg_elim H
  obtain ⟨h10, H⟩ := xg_elim H
  have hf4 : xfrm fp_X12_expression_60 g ((xupd w6.1 90 (w6.1 60 46).toNatClampNeg (w6.1 63 (w6.1 60 11).toNatClampNeg), w6.2)) := xfrm.ua hf3 rfl
  have hf5 : xfrm fp_X12_expression_60 g ((xupd (xupd w6.1 90 (w6.1 60 46).toNatClampNeg (w6.1 63 (w6.1 60 11).toNatClampNeg)) 60 46 ((w6.1 60 46) + 1), w6.2)) := xfrm.up hf4 rfl
  obtain ⟨w7, e7, H⟩ := xbind H
  have hf6 : xfrm fp_X12_expression_60 g (w7) := xfrm.tr hf5 (fr_X12_goesOn_60 _ e7) rfl
  exact xfrm.tr hf6 (hk12 _ _ _ _ H) rfl
set_option maxRecDepth 20000 in
theorem t_X12_expression_60_229 {k : xK} {S : List xSh} {out : xG} (hS : xpf SH2 S) (A : xAt k mX12_expression.2.1 12 SH2 S) (hR : xRet k 0 0 S (fun r g' => r = none ∧ g' = out) mX12_expression.2.2.2) (hrm : xrm k = { frames := 3, cells := 0, slots := 0, locals := 61 }) (hz : xhs k = xb0 k + S.length) {k12 : Int32 → Int32 → xG → Option (xG)} (hk12 : ∀ (l1 : Int32) (l2 : Int32) (g : xG), k12 l1 l2 g = some out → xW k S 0 0 12 [some (.ref 60), some (.int l1), some (.int l2)] [] g) : ∀ (l1 : Int32) (l2 : Int32) (g : xG), f_X12_expression_60_229 k12 l1 l2 g = some out → xW k S 0 0 229 [some (.ref 60), some (.int l1), some (.int l2)] [.ref 60] g := by
  intro l1 l2 g H
  have H : (f_X12_expression_60_234 k12 l1 l2 1 g) = some out := H
  refine xb A [(.iconst 1, 1, 0, 0, .int 1)] (pc' := 230) (ls' := [some (.ref 60), some (.int l1), some (.int l2)]) (st' := [.int 1, .ref 60]) (g' := g) (by decide +kernel) rfl ?_
  refine xgoto A (4) 234 (by decide +kernel) ?_
  exact t_X12_expression_60_234 hS A hR hrm hz hk12 _ _ _ _ H
theorem fr_X12_expression_60_229 {k12 : Int32 → Int32 → xG → Option (xG)} (hk12 : ∀ (l1 : Int32) (l2 : Int32) (g : xG) (out : xG), k12 l1 l2 g = some out → xfrm fp_X12_expression_60 g (out)) : ∀ (l1 : Int32) (l2 : Int32) (g : xG) (out : xG), f_X12_expression_60_229 k12 l1 l2 g = some out → xfrm fp_X12_expression_60 g (out) := by
  intro l1 l2 g out H
  have H : (f_X12_expression_60_234 k12 l1 l2 1 g) = some out := H
  exact xfrm.tr xfrm.rf (fr_X12_expression_60_234 hk12 _ _ _ _ _ H) rfl
set_option maxRecDepth 20000 in
theorem t_X12_expression_60_186 {k : xK} {S : List xSh} {out : xG} (hS : xpf SH2 S) (A : xAt k mX12_expression.2.1 12 SH2 S) (hR : xRet k 0 0 S (fun r g' => r = none ∧ g' = out) mX12_expression.2.2.2) (hrm : xrm k = { frames := 3, cells := 0, slots := 0, locals := 61 }) (hz : xhs k = xb0 k + S.length) {k12 : Int32 → Int32 → xG → Option (xG)} (hk12 : ∀ (l1 : Int32) (l2 : Int32) (g : xG), k12 l1 l2 g = some out → xW k S 0 0 12 [some (.ref 60), some (.int l1), some (.int l2)] [] g) : ∀ (l1 : Int32) (s0 : Int32) (g : xG), f_X12_expression_60_186 k12 l1 s0 g = some out → xW k S 0 0 186 [some (.ref 60), some (.int l1), none] [.int s0] g := by
  intro l1 s0 g H
  have H : (if s0 = 0 then
  if (g.1 60 12) ≤ l1 then
    (f_X12_comesOut_60 0 g).bind fun w9 =>
    some w9
  else
    (f_X12_fail_60 1 g).bind fun w10 =>
    (f_X12_comesOut_60 0 w10).bind fun w11 =>
    some w11
else
  (f_X12_is_60 10 g).bind fun w5 =>
  if w5 = 0 then
    (f_X12_is_60 15 g).bind fun w8 =>
    if w8 = 0 then
      f_X12_expression_60_234 k12 l1 s0 0 g
    else
      f_X12_expression_60_229 k12 l1 s0 g
  else
    f_X12_expression_60_229 k12 l1 s0 g) = some out := H
  refine xb A [(.istore_n 2, 1, 0, 0, .null), (.iload_n 2, 1, 0, 0, .null)] (pc' := 188) (ls' := [some (.ref 60), some (.int l1), some (.int s0)]) (st' := [.int s0]) (g' := g) (by decide +kernel) rfl ?_
  refine xif_ne A (22) 210 191 (by decide +kernel) (fun h7 => ?_) (fun h7 => ?_)
  · rw [if_neg h7] at H
    refine xb A [(.aload_n 0, 1, 0, 0, .null), (.aload_n 0, 1, 0, 0, .null), (.bipush 10, 2, 0, 0, .int 10)] (pc' := 214) (ls' := [some (.ref 60), some (.int l1), some (.int s0)]) (st' := [.int 10, .ref 60, .ref 60]) (g' := g) (by decide +kernel) rfl ?_
    obtain ⟨w5, e5, H⟩ := xbind H
    refine xcallV A (ix := 215) (nxt := 217) hrm hz [.int 10] [.ref 60] 1608 (c_X12_is_60 hS _ e5) ok_X12_is (by decide +kernel) rfl (fun r g1 hq => ?_)
    rw [hq.1, hq.2]
    show xW k S 0 0 217 [some (.ref 60), some (.int l1), some (.int s0)] [.int w5, .ref 60] g
    refine xif_ne A (12) 229 220 (by decide +kernel) (fun h8 => ?_) (fun h8 => ?_)
    · rw [if_neg h8] at H
      exact t_X12_expression_60_229 hS A hR hrm hz hk12 _ _ _ H
    · rw [if_pos h8] at H
      refine xb A [(.aload_n 0, 1, 0, 0, .null), (.bipush 15, 2, 0, 0, .int 15)] (pc' := 223) (ls' := [some (.ref 60), some (.int l1), some (.int s0)]) (st' := [.int 15, .ref 60, .ref 60]) (g' := g) (by decide +kernel) rfl ?_
      obtain ⟨w8, e8, H⟩ := xbind H
      refine xcallV A (ix := 215) (nxt := 226) hrm hz [.int 15] [.ref 60] 1608 (c_X12_is_60 hS _ e8) ok_X12_is (by decide +kernel) rfl (fun r g1 hq => ?_)
      rw [hq.1, hq.2]
      show xW k S 0 0 226 [some (.ref 60), some (.int l1), some (.int s0)] [.int w8, .ref 60] g
      refine xif_eq A (7) 233 229 (by decide +kernel) (fun h11 => ?_) (fun h11 => ?_)
      · rw [if_pos h11] at H
        refine xb A [(.iconst 0, 1, 0, 0, .int 0)] (pc' := 234) (ls' := [some (.ref 60), some (.int l1), some (.int s0)]) (st' := [.int 0, .ref 60]) (g' := g) (by decide +kernel) rfl ?_
        exact t_X12_expression_60_234 hS A hR hrm hz hk12 _ _ _ _ H
      · rw [if_neg h11] at H
        exact t_X12_expression_60_229 hS A hR hrm hz hk12 _ _ _ H
  · rw [if_pos h7] at H
    refine xb A [(.aload_n 0, 1, 0, 0, .null), (.getfield 224, 3, 60, 12, .int 0), (.iload_n 1, 1, 0, 0, .null)] (pc' := 196) (ls' := [some (.ref 60), some (.int l1), some (.int s0)]) (st' := [.int l1, .int (g.1 60 12)]) (g' := g) (by decide +kernel) rfl ?_
    refine xic_le A (8) 204 199 (by decide +kernel) (fun h12 => ?_) (fun h12 => ?_)
    · rw [if_pos h12] at H
      refine xb A [(.aload_n 0, 1, 0, 0, .null), (.iconst 0, 1, 0, 0, .int 0)] (pc' := 206) (ls' := [some (.ref 60), some (.int l1), some (.int s0)]) (st' := [.int 0, .ref 60]) (g' := g) (by decide +kernel) rfl ?_
      obtain ⟨w9, e9, H⟩ := xbind H
      refine xcallV A (ix := 299) (nxt := 209) hrm hz [.int 0] [] 1676 (c_X12_comesOut_60 hS _ e9) ok_X12_comesOut (by decide +kernel) rfl (fun r g1 hq => ?_)
      rw [hq.1, hq.2]
      show xW k S 0 0 209 [some (.ref 60), some (.int l1), some (.int s0)] [] w9
      obtain rfl := Option.some.inj H
      exact xret_v A hR hz (by decide +kernel) ⟨rfl, rfl⟩
    · rw [if_neg h12] at H
      refine xb A [(.aload_n 0, 1, 0, 0, .null), (.iconst 1, 1, 0, 0, .int 1)] (pc' := 201) (ls' := [some (.ref 60), some (.int l1), some (.int s0)]) (st' := [.int 1, .ref 60]) (g' := g) (by decide +kernel) rfl ?_
      obtain ⟨w10, e10, H⟩ := xbind H
      refine xcallV A (ix := 212) (nxt := 204) hrm hz [.int 1] [] 1620 (c_X12_fail_60 hS _ e10) ok_X12_fail (by decide +kernel) rfl (fun r g1 hq => ?_)
      rw [hq.1, hq.2]
      show xW k S 0 0 204 [some (.ref 60), some (.int l1), some (.int s0)] [] w10
      refine xb A [(.aload_n 0, 1, 0, 0, .null), (.iconst 0, 1, 0, 0, .int 0)] (pc' := 206) (ls' := [some (.ref 60), some (.int l1), some (.int s0)]) (st' := [.int 0, .ref 60]) (g' := w10) (by decide +kernel) rfl ?_
      obtain ⟨w11, e11, H⟩ := xbind H
      refine xcallV A (ix := 299) (nxt := 209) hrm hz [.int 0] [] 1676 (c_X12_comesOut_60 hS _ e11) ok_X12_comesOut (by decide +kernel) rfl (fun r g1 hq => ?_)
      rw [hq.1, hq.2]
      show xW k S 0 0 209 [some (.ref 60), some (.int l1), some (.int s0)] [] w11
      obtain rfl := Option.some.inj H
      exact xret_v A hR hz (by decide +kernel) ⟨rfl, rfl⟩
theorem fr_X12_expression_60_186 {k12 : Int32 → Int32 → xG → Option (xG)} (hk12 : ∀ (l1 : Int32) (l2 : Int32) (g : xG) (out : xG), k12 l1 l2 g = some out → xfrm fp_X12_expression_60 g (out)) : ∀ (l1 : Int32) (s0 : Int32) (g : xG) (out : xG), f_X12_expression_60_186 k12 l1 s0 g = some out → xfrm fp_X12_expression_60 g (out) := by
  intro l1 s0 g out H
  have H : (if s0 = 0 then
  if (g.1 60 12) ≤ l1 then
    (f_X12_comesOut_60 0 g).bind fun w9 =>
    some w9
  else
    (f_X12_fail_60 1 g).bind fun w10 =>
    (f_X12_comesOut_60 0 w10).bind fun w11 =>
    some w11
else
  (f_X12_is_60 10 g).bind fun w5 =>
  if w5 = 0 then
    (f_X12_is_60 15 g).bind fun w8 =>
    if w8 = 0 then
      f_X12_expression_60_234 k12 l1 s0 0 g
    else
      f_X12_expression_60_229 k12 l1 s0 g
  else
    f_X12_expression_60_229 k12 l1 s0 g) = some out := H
  by_cases h7 : s0 = 0
  · rw [if_pos h7] at H
    by_cases h12 : (g.1 60 12) ≤ l1
    · rw [if_pos h12] at H
      obtain ⟨w9, e9, H⟩ := xbind H
      have hf7 : xfrm fp_X12_expression_60 g (w9) := xfrm.tr xfrm.rf (fr_X12_comesOut_60 _ e9) rfl
      obtain rfl := Option.some.inj H
      exact hf7
    · rw [if_neg h12] at H
      obtain ⟨w10, e10, H⟩ := xbind H
      have hf8 : xfrm fp_X12_expression_60 g (w10) := xfrm.tr xfrm.rf (fr_X12_fail_60 _ e10) rfl
      obtain ⟨w11, e11, H⟩ := xbind H
      have hf9 : xfrm fp_X12_expression_60 g (w11) := xfrm.tr hf8 (fr_X12_comesOut_60 _ e11) rfl
      obtain rfl := Option.some.inj H
      exact hf9
  · rw [if_neg h7] at H
    obtain ⟨w5, e5, H⟩ := xbind H
    by_cases h8 : w5 = 0
    · rw [if_pos h8] at H
      obtain ⟨w8, e8, H⟩ := xbind H
      by_cases h11 : w8 = 0
      · rw [if_pos h11] at H
        exact xfrm.tr xfrm.rf (fr_X12_expression_60_234 hk12 _ _ _ _ _ H) rfl
      · rw [if_neg h11] at H
        exact xfrm.tr xfrm.rf (fr_X12_expression_60_229 hk12 _ _ _ _ H) rfl
    · rw [if_neg h8] at H
      exact xfrm.tr xfrm.rf (fr_X12_expression_60_229 hk12 _ _ _ _ H) rfl
set_option maxRecDepth 20000 in
theorem t_X12_expression_60_181 {k : xK} {S : List xSh} {out : xG} (hS : xpf SH2 S) (A : xAt k mX12_expression.2.1 12 SH2 S) (hR : xRet k 0 0 S (fun r g' => r = none ∧ g' = out) mX12_expression.2.2.2) (hrm : xrm k = { frames := 3, cells := 0, slots := 0, locals := 61 }) (hz : xhs k = xb0 k + S.length) {k12 : Int32 → Int32 → xG → Option (xG)} (hk12 : ∀ (l1 : Int32) (l2 : Int32) (g : xG), k12 l1 l2 g = some out → xW k S 0 0 12 [some (.ref 60), some (.int l1), some (.int l2)] [] g) : ∀ (l1 : Int32) (g : xG), f_X12_expression_60_181 k12 l1 g = some out → xW k S 0 0 181 [some (.ref 60), some (.int l1), none] [] g := by
  intro l1 g H
  have H : (f_X12_expression_60_186 k12 l1 1 g) = some out := H
  refine xb A [(.iconst 1, 1, 0, 0, .int 1)] (pc' := 182) (ls' := [some (.ref 60), some (.int l1), none]) (st' := [.int 1]) (g' := g) (by decide +kernel) rfl ?_
  refine xgoto A (4) 186 (by decide +kernel) ?_
  exact t_X12_expression_60_186 hS A hR hrm hz hk12 _ _ _ H
theorem fr_X12_expression_60_181 {k12 : Int32 → Int32 → xG → Option (xG)} (hk12 : ∀ (l1 : Int32) (l2 : Int32) (g : xG) (out : xG), k12 l1 l2 g = some out → xfrm fp_X12_expression_60 g (out)) : ∀ (l1 : Int32) (g : xG) (out : xG), f_X12_expression_60_181 k12 l1 g = some out → xfrm fp_X12_expression_60 g (out) := by
  intro l1 g out H
  have H : (f_X12_expression_60_186 k12 l1 1 g) = some out := H
  exact xfrm.tr xfrm.rf (fr_X12_expression_60_186 hk12 _ _ _ _ H) rfl
set_option maxRecDepth 20000 in
theorem t_X12_expression_60_145 {k : xK} {S : List xSh} {out : xG} (hS : xpf SH2 S) (A : xAt k mX12_expression.2.1 12 SH2 S) (hR : xRet k 0 0 S (fun r g' => r = none ∧ g' = out) mX12_expression.2.2.2) (hrm : xrm k = { frames := 3, cells := 0, slots := 0, locals := 61 }) (hz : xhs k = xb0 k + S.length) {k12 : Int32 → Int32 → xG → Option (xG)} (hk12 : ∀ (l1 : Int32) (l2 : Int32) (g : xG), k12 l1 l2 g = some out → xW k S 0 0 12 [some (.ref 60), some (.int l1), some (.int l2)] [] g) : ∀ (l1 : Int32) (g : xG), f_X12_expression_60_145 k12 l1 g = some out → xW k S 0 0 145 [some (.ref 60), some (.int l1), none] [] g := by
  intro l1 g H
  have H : ((f_X12_is_60 8 g).bind fun w4 =>
if w4 = 0 then
  (f_X12_is_60 9 g).bind fun w12 =>
  if w12 = 0 then
    (f_X12_is_60 10 g).bind fun w13 =>
    if w13 = 0 then
      (f_X12_is_60 15 g).bind fun w14 =>
      if w14 = 0 then
        f_X12_expression_60_186 k12 l1 0 g
      else
        f_X12_expression_60_181 k12 l1 g
    else
      f_X12_expression_60_181 k12 l1 g
  else
    f_X12_expression_60_181 k12 l1 g
else
  f_X12_expression_60_181 k12 l1 g) = some out := H
  refine xb A [(.aload_n 0, 1, 0, 0, .null), (.bipush 8, 2, 0, 0, .int 8)] (pc' := 148) (ls' := [some (.ref 60), some (.int l1), none]) (st' := [.int 8, .ref 60]) (g' := g) (by decide +kernel) rfl ?_
  obtain ⟨w4, e4, H⟩ := xbind H
  refine xcallV A (ix := 215) (nxt := 151) hrm hz [.int 8] [] 1608 (c_X12_is_60 hS _ e4) ok_X12_is (by decide +kernel) rfl (fun r g1 hq => ?_)
  rw [hq.1, hq.2]
  show xW k S 0 0 151 [some (.ref 60), some (.int l1), none] [.int w4] g
  refine xif_ne A (30) 181 154 (by decide +kernel) (fun h6 => ?_) (fun h6 => ?_)
  · rw [if_neg h6] at H
    exact t_X12_expression_60_181 hS A hR hrm hz hk12 _ _ H
  · rw [if_pos h6] at H
    refine xb A [(.aload_n 0, 1, 0, 0, .null), (.bipush 9, 2, 0, 0, .int 9)] (pc' := 157) (ls' := [some (.ref 60), some (.int l1), none]) (st' := [.int 9, .ref 60]) (g' := g) (by decide +kernel) rfl ?_
    obtain ⟨w12, e12, H⟩ := xbind H
    refine xcallV A (ix := 215) (nxt := 160) hrm hz [.int 9] [] 1608 (c_X12_is_60 hS _ e12) ok_X12_is (by decide +kernel) rfl (fun r g1 hq => ?_)
    rw [hq.1, hq.2]
    show xW k S 0 0 160 [some (.ref 60), some (.int l1), none] [.int w12] g
    refine xif_ne A (21) 181 163 (by decide +kernel) (fun h13 => ?_) (fun h13 => ?_)
    · rw [if_neg h13] at H
      exact t_X12_expression_60_181 hS A hR hrm hz hk12 _ _ H
    · rw [if_pos h13] at H
      refine xb A [(.aload_n 0, 1, 0, 0, .null), (.bipush 10, 2, 0, 0, .int 10)] (pc' := 166) (ls' := [some (.ref 60), some (.int l1), none]) (st' := [.int 10, .ref 60]) (g' := g) (by decide +kernel) rfl ?_
      obtain ⟨w13, e13, H⟩ := xbind H
      refine xcallV A (ix := 215) (nxt := 169) hrm hz [.int 10] [] 1608 (c_X12_is_60 hS _ e13) ok_X12_is (by decide +kernel) rfl (fun r g1 hq => ?_)
      rw [hq.1, hq.2]
      show xW k S 0 0 169 [some (.ref 60), some (.int l1), none] [.int w13] g
      refine xif_ne A (12) 181 172 (by decide +kernel) (fun h14 => ?_) (fun h14 => ?_)
      · rw [if_neg h14] at H
        exact t_X12_expression_60_181 hS A hR hrm hz hk12 _ _ H
      · rw [if_pos h14] at H
        refine xb A [(.aload_n 0, 1, 0, 0, .null), (.bipush 15, 2, 0, 0, .int 15)] (pc' := 175) (ls' := [some (.ref 60), some (.int l1), none]) (st' := [.int 15, .ref 60]) (g' := g) (by decide +kernel) rfl ?_
        obtain ⟨w14, e14, H⟩ := xbind H
        refine xcallV A (ix := 215) (nxt := 178) hrm hz [.int 15] [] 1608 (c_X12_is_60 hS _ e14) ok_X12_is (by decide +kernel) rfl (fun r g1 hq => ?_)
        rw [hq.1, hq.2]
        show xW k S 0 0 178 [some (.ref 60), some (.int l1), none] [.int w14] g
        refine xif_eq A (7) 185 181 (by decide +kernel) (fun h15 => ?_) (fun h15 => ?_)
        · rw [if_pos h15] at H
          refine xb A [(.iconst 0, 1, 0, 0, .int 0)] (pc' := 186) (ls' := [some (.ref 60), some (.int l1), none]) (st' := [.int 0]) (g' := g) (by decide +kernel) rfl ?_
          exact t_X12_expression_60_186 hS A hR hrm hz hk12 _ _ _ H
        · rw [if_neg h15] at H
          exact t_X12_expression_60_181 hS A hR hrm hz hk12 _ _ H
theorem fr_X12_expression_60_145 {k12 : Int32 → Int32 → xG → Option (xG)} (hk12 : ∀ (l1 : Int32) (l2 : Int32) (g : xG) (out : xG), k12 l1 l2 g = some out → xfrm fp_X12_expression_60 g (out)) : ∀ (l1 : Int32) (g : xG) (out : xG), f_X12_expression_60_145 k12 l1 g = some out → xfrm fp_X12_expression_60 g (out) := by
  intro l1 g out H
  have H : ((f_X12_is_60 8 g).bind fun w4 =>
if w4 = 0 then
  (f_X12_is_60 9 g).bind fun w12 =>
  if w12 = 0 then
    (f_X12_is_60 10 g).bind fun w13 =>
    if w13 = 0 then
      (f_X12_is_60 15 g).bind fun w14 =>
      if w14 = 0 then
        f_X12_expression_60_186 k12 l1 0 g
      else
        f_X12_expression_60_181 k12 l1 g
    else
      f_X12_expression_60_181 k12 l1 g
  else
    f_X12_expression_60_181 k12 l1 g
else
  f_X12_expression_60_181 k12 l1 g) = some out := H
  obtain ⟨w4, e4, H⟩ := xbind H
  by_cases h6 : w4 = 0
  · rw [if_pos h6] at H
    obtain ⟨w12, e12, H⟩ := xbind H
    by_cases h13 : w12 = 0
    · rw [if_pos h13] at H
      obtain ⟨w13, e13, H⟩ := xbind H
      by_cases h14 : w13 = 0
      · rw [if_pos h14] at H
        obtain ⟨w14, e14, H⟩ := xbind H
        by_cases h15 : w14 = 0
        · rw [if_pos h15] at H
          exact xfrm.tr xfrm.rf (fr_X12_expression_60_186 hk12 _ _ _ _ H) rfl
        · rw [if_neg h15] at H
          exact xfrm.tr xfrm.rf (fr_X12_expression_60_181 hk12 _ _ _ H) rfl
      · rw [if_neg h14] at H
        exact xfrm.tr xfrm.rf (fr_X12_expression_60_181 hk12 _ _ _ H) rfl
    · rw [if_neg h13] at H
      exact xfrm.tr xfrm.rf (fr_X12_expression_60_181 hk12 _ _ _ H) rfl
  · rw [if_neg h6] at H
    exact xfrm.tr xfrm.rf (fr_X12_expression_60_181 hk12 _ _ _ H) rfl
set_option maxRecDepth 20000 in
theorem t_X12_expression_60_96 {k : xK} {S : List xSh} {out : xG} (hS : xpf SH2 S) (A : xAt k mX12_expression.2.1 12 SH2 S) (hR : xRet k 0 0 S (fun r g' => r = none ∧ g' = out) mX12_expression.2.2.2) (hrm : xrm k = { frames := 3, cells := 0, slots := 0, locals := 61 }) (hz : xhs k = xb0 k + S.length) {k12 : Int32 → Int32 → xG → Option (xG)} (hk12 : ∀ (l1 : Int32) (l2 : Int32) (g : xG), k12 l1 l2 g = some out → xW k S 0 0 12 [some (.ref 60), some (.int l1), some (.int l2)] [] g) : ∀ (n : Nat) (l1 : Int32) (g : xG), f_X12_expression_60_96 k12 n l1 g = some out → xW k S 0 0 96 [some (.ref 60), some (.int l1), none] [] g := by
  intro n
  induction n with
  | zero => intro l1 g H; exact absurd H (by simp [f_X12_expression_60_96])
  | succ n ih =>
    intro l1 g H
    have H : ((f_X12_is_60 7 g).bind fun w3 =>
if w3 = 0 then
  f_X12_expression_60_145 k12 l1 g
else
  if (g.1 60 12) ≤ l1 then
    f_X12_expression_60_145 k12 l1 g
  else
    (f_X12_comesOut_60 0 g).bind fun w15 =>
    (f_X12_goesOn_60 (xupd (xupd w15.1 60 46 ((w15.1 60 46) - 1)) 60 12 ((w15.1 60 12) - 1), w15.2)).bind fun w16 =>
    f_X12_expression_60_96 k12 n l1 w16) = some out := H
    refine xb A [(.aload_n 0, 1, 0, 0, .null), (.bipush 7, 2, 0, 0, .int 7)] (pc' := 99) (ls' := [some (.ref 60), some (.int l1), none]) (st' := [.int 7, .ref 60]) (g' := g) (by decide +kernel) rfl ?_
    obtain ⟨w3, e3, H⟩ := xbind H
    refine xcallV A (ix := 215) (nxt := 102) hrm hz [.int 7] [] 1608 (c_X12_is_60 hS _ e3) ok_X12_is (by decide +kernel) rfl (fun r g1 hq => ?_)
    rw [hq.1, hq.2]
    show xW k S 0 0 102 [some (.ref 60), some (.int l1), none] [.int w3] g
    refine xif_eq A (43) 145 105 (by decide +kernel) (fun h5 => ?_) (fun h5 => ?_)
    · rw [if_pos h5] at H
      exact t_X12_expression_60_145 hS A hR hrm hz hk12 _ _ H
    · rw [if_neg h5] at H
      refine xb A [(.aload_n 0, 1, 0, 0, .null), (.getfield 224, 3, 60, 12, .int 0), (.iload_n 1, 1, 0, 0, .null)] (pc' := 110) (ls' := [some (.ref 60), some (.int l1), none]) (st' := [.int l1, .int (g.1 60 12)]) (g' := g) (by decide +kernel) rfl ?_
      refine xic_le A (35) 145 113 (by decide +kernel) (fun h16 => ?_) (fun h16 => ?_)
      · rw [if_pos h16] at H
        exact t_X12_expression_60_145 hS A hR hrm hz hk12 _ _ H
      · rw [if_neg h16] at H
        refine xb A [(.aload_n 0, 1, 0, 0, .null), (.iconst 0, 1, 0, 0, .int 0)] (pc' := 115) (ls' := [some (.ref 60), some (.int l1), none]) (st' := [.int 0, .ref 60]) (g' := g) (by decide +kernel) rfl ?_
        obtain ⟨w15, e15, H⟩ := xbind H
        refine xcallV A (ix := 299) (nxt := 118) hrm hz [.int 0] [] 1676 (c_X12_comesOut_60 hS _ e15) ok_X12_comesOut (by decide +kernel) rfl (fun r g1 hq => ?_)
        rw [hq.1, hq.2]
        show xW k S 0 0 118 [some (.ref 60), some (.int l1), none] [] w15
        refine xb A [(.aload_n 0, 1, 0, 0, .null), (.dup, 1, 0, 0, .null), (.getfield 290, 3, 60, 46, .int 0), (.iconst 1, 1, 0, 0, .int 1), (.isub, 1, 0, 0, .null), (.putfield 290, 3, 60, 46, .int 0), (.aload_n 0, 1, 0, 0, .null), (.dup, 1, 0, 0, .null), (.getfield 224, 3, 60, 12, .int 0), (.iconst 1, 1, 0, 0, .int 1), (.isub, 1, 0, 0, .null), (.putfield 224, 3, 60, 12, .int 0), (.aload_n 0, 1, 0, 0, .null)] (pc' := 139) (ls' := [some (.ref 60), some (.int l1), none]) (st' := [.ref 60]) (g' := (xupd (xupd w15.1 60 46 ((w15.1 60 46) - 1)) 60 12 ((w15.1 60 12) - 1), w15.2)) (by decide +kernel) rfl ?_
        obtain ⟨w16, e16, H⟩ := xbind H
        refine xcallV A (ix := 218) (nxt := 142) hrm hz [] [] 1624 (c_X12_goesOn_60 hS _ e16) ok_X12_goesOn (by decide +kernel) rfl (fun r g1 hq => ?_)
        rw [hq.1, hq.2]
        show xW k S 0 0 142 [some (.ref 60), some (.int l1), none] [] w16
        refine xgoto A (-46) 96 (by decide +kernel) ?_
        exact ih _ _ H
theorem fr_X12_expression_60_96 {k12 : Int32 → Int32 → xG → Option (xG)} (hk12 : ∀ (l1 : Int32) (l2 : Int32) (g : xG) (out : xG), k12 l1 l2 g = some out → xfrm fp_X12_expression_60 g (out)) : ∀ (n : Nat) (l1 : Int32) (g : xG) (out : xG), f_X12_expression_60_96 k12 n l1 g = some out → xfrm fp_X12_expression_60 g (out) := by
  intro n
  induction n with
  | zero => intro l1 g out H; exact absurd H (by simp [f_X12_expression_60_96])
  | succ n ih =>
    intro l1 g out H
    have H : ((f_X12_is_60 7 g).bind fun w3 =>
if w3 = 0 then
  f_X12_expression_60_145 k12 l1 g
else
  if (g.1 60 12) ≤ l1 then
    f_X12_expression_60_145 k12 l1 g
  else
    (f_X12_comesOut_60 0 g).bind fun w15 =>
    (f_X12_goesOn_60 (xupd (xupd w15.1 60 46 ((w15.1 60 46) - 1)) 60 12 ((w15.1 60 12) - 1), w15.2)).bind fun w16 =>
    f_X12_expression_60_96 k12 n l1 w16) = some out := H
    obtain ⟨w3, e3, H⟩ := xbind H
    by_cases h5 : w3 = 0
    · rw [if_pos h5] at H
      exact xfrm.tr xfrm.rf (fr_X12_expression_60_145 hk12 _ _ _ H) rfl
    · rw [if_neg h5] at H
      by_cases h16 : (g.1 60 12) ≤ l1
      · rw [if_pos h16] at H
        exact xfrm.tr xfrm.rf (fr_X12_expression_60_145 hk12 _ _ _ H) rfl
      · rw [if_neg h16] at H
        obtain ⟨w15, e15, H⟩ := xbind H
        have hf10 : xfrm fp_X12_expression_60 g (w15) := xfrm.tr xfrm.rf (fr_X12_comesOut_60 _ e15) rfl
        have hf11 : xfrm fp_X12_expression_60 g ((xupd w15.1 60 46 ((w15.1 60 46) - 1), w15.2)) := xfrm.up hf10 rfl
        have hf12 : xfrm fp_X12_expression_60 g ((xupd (xupd w15.1 60 46 ((w15.1 60 46) - 1)) 60 12 ((w15.1 60 12) - 1), w15.2)) := xfrm.up hf11 rfl
        obtain ⟨w16, e16, H⟩ := xbind H
        have hf13 : xfrm fp_X12_expression_60 g (w16) := xfrm.tr hf12 (fr_X12_goesOn_60 _ e16) rfl
        exact xfrm.tr hf13 (ih _ _ _ H) rfl
set_option maxRecDepth 20000 in
theorem t_X12_expression_60_46 {k : xK} {S : List xSh} {out : xG} (hS : xpf SH2 S) (A : xAt k mX12_expression.2.1 12 SH2 S) (hR : xRet k 0 0 S (fun r g' => r = none ∧ g' = out) mX12_expression.2.2.2) (hrm : xrm k = { frames := 3, cells := 0, slots := 0, locals := 61 }) (hz : xhs k = xb0 k + S.length) {k12 : Int32 → Int32 → xG → Option (xG)} {k23 : Int32 → xG → Option (xG)} (hk12 : ∀ (l1 : Int32) (l2 : Int32) (g : xG), k12 l1 l2 g = some out → xW k S 0 0 12 [some (.ref 60), some (.int l1), some (.int l2)] [] g) (hk23 : ∀ (l1 : Int32) (g : xG), k23 l1 g = some out → xW k S 0 0 23 [some (.ref 60), some (.int l1), none] [] g) : ∀ (l1 : Int32) (g : xG), f_X12_expression_60_46 k12 k23 l1 g = some out → xW k S 0 0 46 [some (.ref 60), some (.int l1), none] [] g := by
  intro l1 g H
  have H : ((f_X12_goesOn_60 (xupd g.1 60 12 ((g.1 60 12) + 1), g.2)).bind fun w17 =>
xg (¬ ((w17.1 60 46) < 0 ∨ 64 ≤ (w17.1 60 46).toNatClampNeg)) (
  k23 l1 (xupd (xupd w17.1 90 (w17.1 60 46).toNatClampNeg 6) 60 46 ((w17.1 60 46) + 1), w17.2))) = some out := H
  refine xb A [(.aload_n 0, 1, 0, 0, .null), (.dup, 1, 0, 0, .null), (.getfield 224, 3, 60, 12, .int 0), (.iconst 1, 1, 0, 0, .int 1), (.iadd, 1, 0, 0, .null), (.putfield 224, 3, 60, 12, .int 0), (.aload_n 0, 1, 0, 0, .null)] (pc' := 57) (ls' := [some (.ref 60), some (.int l1), none]) (st' := [.ref 60]) (g' := (xupd g.1 60 12 ((g.1 60 12) + 1), g.2)) (by decide +kernel) rfl ?_
  obtain ⟨w17, e17, H⟩ := xbind H
  refine xcallV A (ix := 218) (nxt := 60) hrm hz [] [] 1624 (c_X12_goesOn_60 hS _ e17) ok_X12_goesOn (by decide +kernel) rfl (fun r g1 hq => ?_)
  rw [hq.1, hq.2]
  show xW k S 0 0 60 [some (.ref 60), some (.int l1), none] [] w17
  refine xb A [(.aload_n 0, 1, 0, 0, .null), (.getfield 107, 3, 60, 45, .ref 90), (.aload_n 0, 1, 0, 0, .null), (.getfield 290, 3, 60, 46, .int 0), (.bipush 6, 2, 0, 0, .int 6)] (pc' := 70) (ls' := [some (.ref 60), some (.int l1), none]) (st' := [.int 6, .int (w17.1 60 46), .ref 90]) (g' := w17) (by decide +kernel) rfl ?_
  obtain ⟨h18, H⟩ := xg_elim H
  refine xiast A (nxt := 71) (by decide +kernel) (hS _ _ sh_90) h18 ?_
  show xW k S 0 0 71 [some (.ref 60), some (.int l1), none] [] (xupd w17.1 90 (w17.1 60 46).toNatClampNeg 6, w17.2)
  refine xb A [(.aload_n 0, 1, 0, 0, .null), (.dup, 1, 0, 0, .null), (.getfield 290, 3, 60, 46, .int 0), (.iconst 1, 1, 0, 0, .int 1), (.iadd, 1, 0, 0, .null), (.putfield 290, 3, 60, 46, .int 0)] (pc' := 81) (ls' := [some (.ref 60), some (.int l1), none]) (st' := []) (g' := (xupd (xupd w17.1 90 (w17.1 60 46).toNatClampNeg 6) 60 46 ((w17.1 60 46) + 1), w17.2)) (by decide +kernel) rfl ?_
  refine xgoto A (-58) 23 (by decide +kernel) ?_
  exact hk23 _ _ H
theorem fr_X12_expression_60_46 {k12 : Int32 → Int32 → xG → Option (xG)} {k23 : Int32 → xG → Option (xG)} (hk12 : ∀ (l1 : Int32) (l2 : Int32) (g : xG) (out : xG), k12 l1 l2 g = some out → xfrm fp_X12_expression_60 g (out)) (hk23 : ∀ (l1 : Int32) (g : xG) (out : xG), k23 l1 g = some out → xfrm fp_X12_expression_60 g (out)) : ∀ (l1 : Int32) (g : xG) (out : xG), f_X12_expression_60_46 k12 k23 l1 g = some out → xfrm fp_X12_expression_60 g (out) := by
  intro l1 g out H
  have H : ((f_X12_goesOn_60 (xupd g.1 60 12 ((g.1 60 12) + 1), g.2)).bind fun w17 =>
xg (¬ ((w17.1 60 46) < 0 ∨ 64 ≤ (w17.1 60 46).toNatClampNeg)) (
  k23 l1 (xupd (xupd w17.1 90 (w17.1 60 46).toNatClampNeg 6) 60 46 ((w17.1 60 46) + 1), w17.2))) = some out := H
  have hf14 : xfrm fp_X12_expression_60 g ((xupd g.1 60 12 ((g.1 60 12) + 1), g.2)) := xfrm.up xfrm.rf rfl
  obtain ⟨w17, e17, H⟩ := xbind H
  have hf15 : xfrm fp_X12_expression_60 g (w17) := xfrm.tr hf14 (fr_X12_goesOn_60 _ e17) rfl
  obtain ⟨h18, H⟩ := xg_elim H
  have hf16 : xfrm fp_X12_expression_60 g ((xupd w17.1 90 (w17.1 60 46).toNatClampNeg 6, w17.2)) := xfrm.ua hf15 rfl
  have hf17 : xfrm fp_X12_expression_60 g ((xupd (xupd w17.1 90 (w17.1 60 46).toNatClampNeg 6) 60 46 ((w17.1 60 46) + 1), w17.2)) := xfrm.up hf16 rfl
  exact xfrm.tr hf17 (hk23 _ _ _ H) rfl
set_option maxRecDepth 20000 in
theorem t_X12_expression_60_23 {k : xK} {S : List xSh} {out : xG} (hS : xpf SH2 S) (A : xAt k mX12_expression.2.1 12 SH2 S) (hR : xRet k 0 0 S (fun r g' => r = none ∧ g' = out) mX12_expression.2.2.2) (hrm : xrm k = { frames := 3, cells := 0, slots := 0, locals := 61 }) (hz : xhs k = xb0 k + S.length) {k12 : Int32 → Int32 → xG → Option (xG)} (hk12 : ∀ (l1 : Int32) (l2 : Int32) (g : xG), k12 l1 l2 g = some out → xW k S 0 0 12 [some (.ref 60), some (.int l1), some (.int l2)] [] g) : ∀ (n : Nat) (l1 : Int32) (g : xG), f_X12_expression_60_23 k12 n l1 g = some out → xW k S 0 0 23 [some (.ref 60), some (.int l1), none] [] g := by
  intro n
  induction n with
  | zero => intro l1 g H; exact absurd H (by simp [f_X12_expression_60_23])
  | succ n ih =>
    intro l1 g H
    have H : ((f_X12_is_60 6 g).bind fun w1 =>
if w1 = 0 then
  (f_X12_unit_60 g).bind fun w2 =>
  if (w2.1 60 13) ≤ 0 then
    f_X12_expression_60_96 k12 xN l1 w2
  else
    some w2
else
  if (g.1 60 12) = 6 then
    (f_X12_fail_60 2 g).bind fun w18 =>
    f_X12_expression_60_46 k12 (f_X12_expression_60_23 k12 n) l1 w18
  else
    f_X12_expression_60_46 k12 (f_X12_expression_60_23 k12 n) l1 g) = some out := H
    refine xb A [(.aload_n 0, 1, 0, 0, .null), (.bipush 6, 2, 0, 0, .int 6)] (pc' := 26) (ls' := [some (.ref 60), some (.int l1), none]) (st' := [.int 6, .ref 60]) (g' := g) (by decide +kernel) rfl ?_
    obtain ⟨w1, e1, H⟩ := xbind H
    refine xcallV A (ix := 215) (nxt := 29) hrm hz [.int 6] [] 1608 (c_X12_is_60 hS _ e1) ok_X12_is (by decide +kernel) rfl (fun r g1 hq => ?_)
    rw [hq.1, hq.2]
    show xW k S 0 0 29 [some (.ref 60), some (.int l1), none] [.int w1] g
    refine xif_eq A (55) 84 32 (by decide +kernel) (fun h3 => ?_) (fun h3 => ?_)
    · rw [if_pos h3] at H
      refine xb A [(.aload_n 0, 1, 0, 0, .null)] (pc' := 85) (ls' := [some (.ref 60), some (.int l1), none]) (st' := [.ref 60]) (g' := g) (by decide +kernel) rfl ?_
      obtain ⟨w2, e2, H⟩ := xbind H
      refine xcallV A (ix := 296) (nxt := 88) hrm hz [] [] 1668 (c_X12_unit_60 hS _ e2) ok_X12_unit (by decide +kernel) rfl (fun r g1 hq => ?_)
      rw [hq.1, hq.2]
      show xW k S 0 0 88 [some (.ref 60), some (.int l1), none] [] w2
      refine xb A [(.aload_n 0, 1, 0, 0, .null), (.getfield 197, 3, 60, 13, .int 0)] (pc' := 92) (ls' := [some (.ref 60), some (.int l1), none]) (st' := [.int (w2.1 60 13)]) (g' := w2) (by decide +kernel) rfl ?_
      refine xif_le A (4) 96 95 (by decide +kernel) (fun h4 => ?_) (fun h4 => ?_)
      · rw [if_pos h4] at H
        exact t_X12_expression_60_96 hS A hR hrm hz hk12 _ _ _ H
      · rw [if_neg h4] at H
        obtain rfl := Option.some.inj H
        exact xret_v A hR hz (by decide +kernel) ⟨rfl, rfl⟩
    · rw [if_neg h3] at H
      refine xb A [(.aload_n 0, 1, 0, 0, .null), (.getfield 224, 3, 60, 12, .int 0), (.bipush 6, 2, 0, 0, .int 6)] (pc' := 38) (ls' := [some (.ref 60), some (.int l1), none]) (st' := [.int 6, .int (g.1 60 12)]) (g' := g) (by decide +kernel) rfl ?_
      refine xic_ne A (8) 46 41 (by decide +kernel) (fun h17 => ?_) (fun h17 => ?_)
      · rw [if_neg h17] at H
        exact t_X12_expression_60_46 hS A hR hrm hz hk12 ih _ _ H
      · rw [if_pos h17] at H
        refine xb A [(.aload_n 0, 1, 0, 0, .null), (.iconst 2, 1, 0, 0, .int 2)] (pc' := 43) (ls' := [some (.ref 60), some (.int l1), none]) (st' := [.int 2, .ref 60]) (g' := g) (by decide +kernel) rfl ?_
        obtain ⟨w18, e18, H⟩ := xbind H
        refine xcallV A (ix := 212) (nxt := 46) hrm hz [.int 2] [] 1620 (c_X12_fail_60 hS _ e18) ok_X12_fail (by decide +kernel) rfl (fun r g1 hq => ?_)
        rw [hq.1, hq.2]
        show xW k S 0 0 46 [some (.ref 60), some (.int l1), none] [] w18
        exact t_X12_expression_60_46 hS A hR hrm hz hk12 ih _ _ H
theorem fr_X12_expression_60_23 {k12 : Int32 → Int32 → xG → Option (xG)} (hk12 : ∀ (l1 : Int32) (l2 : Int32) (g : xG) (out : xG), k12 l1 l2 g = some out → xfrm fp_X12_expression_60 g (out)) : ∀ (n : Nat) (l1 : Int32) (g : xG) (out : xG), f_X12_expression_60_23 k12 n l1 g = some out → xfrm fp_X12_expression_60 g (out) := by
  intro n
  induction n with
  | zero => intro l1 g out H; exact absurd H (by simp [f_X12_expression_60_23])
  | succ n ih =>
    intro l1 g out H
    have H : ((f_X12_is_60 6 g).bind fun w1 =>
if w1 = 0 then
  (f_X12_unit_60 g).bind fun w2 =>
  if (w2.1 60 13) ≤ 0 then
    f_X12_expression_60_96 k12 xN l1 w2
  else
    some w2
else
  if (g.1 60 12) = 6 then
    (f_X12_fail_60 2 g).bind fun w18 =>
    f_X12_expression_60_46 k12 (f_X12_expression_60_23 k12 n) l1 w18
  else
    f_X12_expression_60_46 k12 (f_X12_expression_60_23 k12 n) l1 g) = some out := H
    obtain ⟨w1, e1, H⟩ := xbind H
    by_cases h3 : w1 = 0
    · rw [if_pos h3] at H
      obtain ⟨w2, e2, H⟩ := xbind H
      have hf2 : xfrm fp_X12_expression_60 g (w2) := xfrm.tr xfrm.rf (fr_X12_unit_60 _ e2) rfl
      by_cases h4 : (w2.1 60 13) ≤ 0
      · rw [if_pos h4] at H
        exact xfrm.tr hf2 (fr_X12_expression_60_96 hk12 _ _ _ _ H) rfl
      · rw [if_neg h4] at H
        obtain rfl := Option.some.inj H
        exact hf2
    · rw [if_neg h3] at H
      by_cases h17 : (g.1 60 12) = 6
      · rw [if_pos h17] at H
        obtain ⟨w18, e18, H⟩ := xbind H
        have hf18 : xfrm fp_X12_expression_60 g (w18) := xfrm.tr xfrm.rf (fr_X12_fail_60 _ e18) rfl
        exact xfrm.tr hf18 (fr_X12_expression_60_46 hk12 ih _ _ _ H) rfl
      · rw [if_neg h17] at H
        exact xfrm.tr xfrm.rf (fr_X12_expression_60_46 hk12 ih _ _ _ H) rfl
set_option maxRecDepth 20000 in
theorem t_X12_expression_60_12 {k : xK} {S : List xSh} {out : xG} (hS : xpf SH2 S) (A : xAt k mX12_expression.2.1 12 SH2 S) (hR : xRet k 0 0 S (fun r g' => r = none ∧ g' = out) mX12_expression.2.2.2) (hrm : xrm k = { frames := 3, cells := 0, slots := 0, locals := 61 }) (hz : xhs k = xb0 k + S.length)   : ∀ (n : Nat) (l1 : Int32) (l2 : Int32) (g : xG), f_X12_expression_60_12 n l1 l2 g = some out → xW k S 0 0 12 [some (.ref 60), some (.int l1), some (.int l2)] [] g := by
  intro n
  induction n with
  | zero => intro l1 l2 g H; exact absurd H (by simp [f_X12_expression_60_12])
  | succ n ih =>
    intro l1 l2 g H
    have H : (if l2 = 0 then
  some g
else
  if (g.1 60 13) = 0 then
    f_X12_expression_60_23 (f_X12_expression_60_12 n) xN l1 g
  else
    some g) = some out := H
    refine xb A [(.iload_n 2, 1, 0, 0, .null)] (pc' := 13) (ls' := [some (.ref 60), some (.int l1), some (.int l2)]) (st' := [.int l2]) (g' := g) (by decide +kernel) rfl ?_
    refine xif_eq A (259) 272 16 (by decide +kernel) (fun h1 => ?_) (fun h1 => ?_)
    · rw [if_pos h1] at H
      obtain rfl := Option.some.inj H
      exact xret_v A hR hz (by decide +kernel) ⟨rfl, rfl⟩
    · rw [if_neg h1] at H
      refine xb A [(.aload_n 0, 1, 0, 0, .null), (.getfield 197, 3, 60, 13, .int 0)] (pc' := 20) (ls' := [some (.ref 60), some (.int l1), some (.int l2)]) (st' := [.int (g.1 60 13)]) (g' := g) (by decide +kernel) rfl ?_
      refine xif_ne A (252) 272 23 (by decide +kernel) (fun h2 => ?_) (fun h2 => ?_)
      · rw [if_neg h2] at H
        obtain rfl := Option.some.inj H
        exact xret_v A hR hz (by decide +kernel) ⟨rfl, rfl⟩
      · rw [if_pos h2] at H
        refine xweak (ls' := [some (.ref 60), some (.int l1), none]) (by exact ⟨rfl, ⟨rfl, trivial⟩⟩) ?_
        exact t_X12_expression_60_23 hS A hR hrm hz ih _ _ _ H
theorem fr_X12_expression_60_12   : ∀ (n : Nat) (l1 : Int32) (l2 : Int32) (g : xG) (out : xG), f_X12_expression_60_12 n l1 l2 g = some out → xfrm fp_X12_expression_60 g (out) := by
  intro n
  induction n with
  | zero => intro l1 l2 g out H; exact absurd H (by simp [f_X12_expression_60_12])
  | succ n ih =>
    intro l1 l2 g out H
    have H : (if l2 = 0 then
  some g
else
  if (g.1 60 13) = 0 then
    f_X12_expression_60_23 (f_X12_expression_60_12 n) xN l1 g
  else
    some g) = some out := H
    by_cases h1 : l2 = 0
    · rw [if_pos h1] at H
      obtain rfl := Option.some.inj H
      exact xfrm.rf
    · rw [if_neg h1] at H
      by_cases h2 : (g.1 60 13) = 0
      · rw [if_pos h2] at H
        exact xfrm.tr xfrm.rf (fr_X12_expression_60_23 ih _ _ _ _ H) rfl
      · rw [if_neg h2] at H
        obtain rfl := Option.some.inj H
        exact xfrm.rf
set_option maxRecDepth 20000 in
theorem c_X12_expression_60 {S : List xSh} (hS : xpf SH2 S) {g : xG}  (out : xG) (H : f_X12_expression_60  g = some out) : xC mX12_expression 3 61 0 0 S [.ref 60] g S (fun r g' => r = none ∧ g' = out) := by
  have H : (f_X12_expression_60_12 xN (g.1 60 12) 1 (xupd g.1 60 46 0, g.2)) = some out := H
  refine xC.of 12 SH2 [some (.ref 60), none, none] hS (by decide +kernel) rfl (fun _ _ => Nat.le_of_ble_eq_true rfl) (fun _ _ => rfl) ?_
  intro k A hR hrm hz
  refine xb A [(.aload_n 0, 1, 0, 0, .null), (.iconst 0, 1, 0, 0, .int 0), (.putfield 290, 3, 60, 46, .int 0), (.aload_n 0, 1, 0, 0, .null), (.getfield 224, 3, 60, 12, .int 0), (.istore_n 1, 1, 0, 0, .null), (.iconst 1, 1, 0, 0, .int 1), (.istore_n 2, 1, 0, 0, .null)] (pc' := 12) (ls' := [some (.ref 60), some (.int (g.1 60 12)), some (.int 1)]) (st' := []) (g' := (xupd g.1 60 46 0, g.2)) (by decide +kernel) rfl ?_
  exact t_X12_expression_60_12 hS A hR hrm hz _ _ _ _ H
theorem fr_X12_expression_60  {g : xG} (out : xG) (H : f_X12_expression_60  g = some out) : xfrm fp_X12_expression_60 g (out) := by
  have H : (f_X12_expression_60_12 xN (g.1 60 12) 1 (xupd g.1 60 46 0, g.2)) = some out := H
  have hf1 : xfrm fp_X12_expression_60 g ((xupd g.1 60 46 0, g.2)) := xfrm.up xfrm.rf rfl
  exact xfrm.tr hf1 (fr_X12_expression_60_12 _ _ _ _ _ H) rfl
def fp_X12_term_60 : List (Nat × Option Nat) := [(60, some 11), (60, some 12), (60, some 13), (60, some 14), (60, some 36), (60, some 42), (60, some 46), (86, none), (87, none), (88, none), (89, none), (90, none)]
def f_X12_term_60_24   (g : xG) : Option (xG) :=
  xg (¬ ((g.1 60 36) < 0 ∨ 260 ≤ (g.1 60 36).toNatClampNeg)) (
    some (xupd (xupd g.1 87 (g.1 60 36).toNatClampNeg (g.1 60 42)) 60 36 ((g.1 60 36) + 1), g.2))
def f_X12_term_60  (g : xG) : Option (xG) :=
  xg (¬ ((g.1 60 36) < 0 ∨ 260 ≤ (g.1 60 36).toNatClampNeg)) (
    if (g.1 60 13) = 0 then
      (f_X12_expression_60 (xupd g.1 86 (g.1 60 36).toNatClampNeg (g.1 60 42), g.2)).bind fun w1 =>
      f_X12_term_60_24 w1
    else
      f_X12_term_60_24 (xupd g.1 86 (g.1 60 36).toNatClampNeg (g.1 60 42), g.2))
set_option maxRecDepth 20000 in
theorem t_X12_term_60_24 {k : xK} {S : List xSh} {out : xG} (hS : xpf SH2 S) (A : xAt k mX12_term.2.1 12 SH2 S) (hR : xRet k 0 0 S (fun r g' => r = none ∧ g' = out) mX12_term.2.2.2) (hrm : xrm k = { frames := 4, cells := 0, slots := 0, locals := 83 }) (hz : xhs k = xb0 k + S.length)   : ∀ (g : xG), f_X12_term_60_24 g = some out → xW k S 0 0 24 [some (.ref 60)] [] g := by
  intro g H
  have H : (xg (¬ ((g.1 60 36) < 0 ∨ 260 ≤ (g.1 60 36).toNatClampNeg)) (
  some (xupd (xupd g.1 87 (g.1 60 36).toNatClampNeg (g.1 60 42)) 60 36 ((g.1 60 36) + 1), g.2))) = some out := H
  refine xb A [(.aload_n 0, 1, 0, 0, .null), (.getfield 98, 3, 60, 41, .ref 87), (.aload_n 0, 1, 0, 0, .null), (.getfield 236, 3, 60, 36, .int 0), (.aload_n 0, 1, 0, 0, .null), (.getfield 239, 3, 60, 42, .int 0)] (pc' := 36) (ls' := [some (.ref 60)]) (st' := [.int (g.1 60 42), .int (g.1 60 36), .ref 87]) (g' := g) (by decide +kernel) rfl ?_
  obtain ⟨h3, H⟩ := xg_elim H
  refine xiast A (nxt := 37) (by decide +kernel) (hS _ _ sh_87) h3 ?_
  show xW k S 0 0 37 [some (.ref 60)] [] (xupd g.1 87 (g.1 60 36).toNatClampNeg (g.1 60 42), g.2)
  refine xb A [(.aload_n 0, 1, 0, 0, .null), (.dup, 1, 0, 0, .null), (.getfield 236, 3, 60, 36, .int 0), (.iconst 1, 1, 0, 0, .int 1), (.iadd, 1, 0, 0, .null), (.putfield 236, 3, 60, 36, .int 0)] (pc' := 47) (ls' := [some (.ref 60)]) (st' := []) (g' := (xupd (xupd g.1 87 (g.1 60 36).toNatClampNeg (g.1 60 42)) 60 36 ((g.1 60 36) + 1), g.2)) (by decide +kernel) rfl ?_
  obtain rfl := Option.some.inj H
  exact xret_v A hR hz (by decide +kernel) ⟨rfl, rfl⟩
theorem fr_X12_term_60_24   : ∀ (g : xG) (out : xG), f_X12_term_60_24 g = some out → xfrm fp_X12_term_60 g (out) := by
  intro g out H
  have H : (xg (¬ ((g.1 60 36) < 0 ∨ 260 ≤ (g.1 60 36).toNatClampNeg)) (
  some (xupd (xupd g.1 87 (g.1 60 36).toNatClampNeg (g.1 60 42)) 60 36 ((g.1 60 36) + 1), g.2))) = some out := H
  obtain ⟨h3, H⟩ := xg_elim H
  have hf2 : xfrm fp_X12_term_60 g ((xupd g.1 87 (g.1 60 36).toNatClampNeg (g.1 60 42), g.2)) := xfrm.ua xfrm.rf rfl
  have hf3 : xfrm fp_X12_term_60 g ((xupd (xupd g.1 87 (g.1 60 36).toNatClampNeg (g.1 60 42)) 60 36 ((g.1 60 36) + 1), g.2)) := xfrm.up hf2 rfl
  obtain rfl := Option.some.inj H
  exact hf3
set_option maxRecDepth 20000 in
theorem c_X12_term_60 {S : List xSh} (hS : xpf SH2 S) {g : xG}  (out : xG) (H : f_X12_term_60  g = some out) : xC mX12_term 4 83 0 0 S [.ref 60] g S (fun r g' => r = none ∧ g' = out) := by
  have H : (xg (¬ ((g.1 60 36) < 0 ∨ 260 ≤ (g.1 60 36).toNatClampNeg)) (
  if (g.1 60 13) = 0 then
    (f_X12_expression_60 (xupd g.1 86 (g.1 60 36).toNatClampNeg (g.1 60 42), g.2)).bind fun w1 =>
    f_X12_term_60_24 w1
  else
    f_X12_term_60_24 (xupd g.1 86 (g.1 60 36).toNatClampNeg (g.1 60 42), g.2))) = some out := H
  refine xC.of 12 SH2 [some (.ref 60)] hS (by decide +kernel) rfl (fun _ _ => Nat.le_of_ble_eq_true rfl) (fun _ _ => rfl) ?_
  intro k A hR hrm hz
  refine xb A [(.aload_n 0, 1, 0, 0, .null), (.getfield 95, 3, 60, 40, .ref 86), (.aload_n 0, 1, 0, 0, .null), (.getfield 236, 3, 60, 36, .int 0), (.aload_n 0, 1, 0, 0, .null), (.getfield 239, 3, 60, 42, .int 0)] (pc' := 12) (ls' := [some (.ref 60)]) (st' := [.int (g.1 60 42), .int (g.1 60 36), .ref 86]) (g' := g) (by decide +kernel) rfl ?_
  obtain ⟨h1, H⟩ := xg_elim H
  refine xiast A (nxt := 13) (by decide +kernel) (hS _ _ sh_86) h1 ?_
  show xW k S 0 0 13 [some (.ref 60)] [] (xupd g.1 86 (g.1 60 36).toNatClampNeg (g.1 60 42), g.2)
  refine xb A [(.aload_n 0, 1, 0, 0, .null), (.getfield 197, 3, 60, 13, .int 0)] (pc' := 17) (ls' := [some (.ref 60)]) (st' := [.int (g.1 60 13)]) (g' := (xupd g.1 86 (g.1 60 36).toNatClampNeg (g.1 60 42), g.2)) (by decide +kernel) rfl ?_
  refine xif_ne A (7) 24 20 (by decide +kernel) (fun h2 => ?_) (fun h2 => ?_)
  · rw [if_neg h2] at H
    exact t_X12_term_60_24 hS A hR hrm hz _ H
  · rw [if_pos h2] at H
    refine xb A [(.aload_n 0, 1, 0, 0, .null)] (pc' := 21) (ls' := [some (.ref 60)]) (st' := [.ref 60]) (g' := (xupd g.1 86 (g.1 60 36).toNatClampNeg (g.1 60 42), g.2)) (by decide +kernel) rfl ?_
    obtain ⟨w1, e1, H⟩ := xbind H
    refine xcallV A (ix := 284) (nxt := 24) hrm hz [] [] 1664 (c_X12_expression_60 hS _ e1) ok_X12_expression (by decide +kernel) rfl (fun r g1 hq => ?_)
    rw [hq.1, hq.2]
    show xW k S 0 0 24 [some (.ref 60)] [] w1
    exact t_X12_term_60_24 hS A hR hrm hz _ H
theorem fr_X12_term_60  {g : xG} (out : xG) (H : f_X12_term_60  g = some out) : xfrm fp_X12_term_60 g (out) := by
  have H : (xg (¬ ((g.1 60 36) < 0 ∨ 260 ≤ (g.1 60 36).toNatClampNeg)) (
  if (g.1 60 13) = 0 then
    (f_X12_expression_60 (xupd g.1 86 (g.1 60 36).toNatClampNeg (g.1 60 42), g.2)).bind fun w1 =>
    f_X12_term_60_24 w1
  else
    f_X12_term_60_24 (xupd g.1 86 (g.1 60 36).toNatClampNeg (g.1 60 42), g.2))) = some out := H
  obtain ⟨h1, H⟩ := xg_elim H
  have hf1 : xfrm fp_X12_term_60 g ((xupd g.1 86 (g.1 60 36).toNatClampNeg (g.1 60 42), g.2)) := xfrm.ua xfrm.rf rfl
  by_cases h2 : (g.1 60 13) = 0
  · rw [if_pos h2] at H
    obtain ⟨w1, e1, H⟩ := xbind H
    have hf4 : xfrm fp_X12_term_60 g (w1) := xfrm.tr hf1 (fr_X12_expression_60 _ e1) rfl
    exact xfrm.tr hf4 (fr_X12_term_60_24 _ _ H) rfl
  · rw [if_neg h2] at H
    exact xfrm.tr hf1 (fr_X12_term_60_24 _ _ H) rfl
def fp_X12_tellLaw_60 : List (Nat × Option Nat) := [(60, some 11), (60, some 12), (60, some 13), (60, some 14), (60, some 36), (60, some 42), (60, some 46), (81, none), (82, none), (83, none), (84, none), (85, none), (86, none), (87, none), (88, none), (89, none), (90, none)]
def f_X12_tellLaw_60_129  (l1 : Int32) (l2 : Int32) (g : xG) : Option (xG) :=
  xg (¬ ((g.1 60 36) < 0 ∨ 260 ≤ (g.1 60 36).toNatClampNeg)) (
    (f_X12_term_60 (xupd g.1 83 (g.1 60 36).toNatClampNeg (0 &&& 1), g.2)).bind fun w2 =>
    (f_X12_must_60 4 w2).bind fun w3 =>
    if (w3.1 60 13) ≤ 0 then
      xg (¬ (((4 * (w3.1 60 19)) + l1) < 0 ∨ 8 ≤ ((4 * (w3.1 60 19)) + l1).toNatClampNeg)) (
        xg (¬ (((4 * (w3.1 60 19)) + l1) < 0 ∨ 8 ≤ ((4 * (w3.1 60 19)) + l1).toNatClampNeg)) (
          some (xupd (xupd w3.1 81 ((4 * (w3.1 60 19)) + l1).toNatClampNeg l2) 82 ((4 * (w3.1 60 19)) + l1).toNatClampNeg (w3.1 60 36), w3.2)))
    else
      some w3)
def f_X12_tellLaw_60_38 (k12 : Int32 → Int32 → Int32 → xG → Option (xG)) (l1 : Int32) (l2 : Int32) (l3 : Int32) (g : xG) : Option (xG) :=
  if (g.1 60 13) ≤ 0 then
    (f_X12_goesOn_60 g).bind fun w5 =>
    xg (¬ ((w5.1 60 36) < 0 ∨ 260 ≤ (w5.1 60 36).toNatClampNeg)) (
      xg (¬ ((w5.1 60 36) < 0 ∨ 260 ≤ (w5.1 60 36).toNatClampNeg)) (
        (f_X12_expression_60 (xupd (xupd w5.1 83 (w5.1 60 36).toNatClampNeg (1 &&& 1)) 84 (w5.1 60 36).toNatClampNeg (w5.1 60 42), w5.2)).bind fun w6 =>
        (f_X12_must_60 13 w6).bind fun w7 =>
        xg (¬ ((w7.1 60 36) < 0 ∨ 260 ≤ (w7.1 60 36).toNatClampNeg)) (
          if (w7.1 60 13) = 0 then
            (f_X12_expression_60 (xupd w7.1 85 (w7.1 60 36).toNatClampNeg (w7.1 60 42), w7.2)).bind fun w11 =>
            (f_X12_must_60 30 w11).bind fun w12 =>
            (f_X12_term_60 w12).bind fun w13 =>
            (f_X12_must_60 31 w13).bind fun w14 =>
            k12 l1 l2 (l3 + 1) w14
          else
            (f_X12_must_60 30 (xupd w7.1 85 (w7.1 60 36).toNatClampNeg (w7.1 60 42), w7.2)).bind fun w8 =>
            (f_X12_term_60 w8).bind fun w9 =>
            (f_X12_must_60 31 w9).bind fun w10 =>
            k12 l1 l2 (l3 + 1) w10)))
  else
    some g
def f_X12_tellLaw_60_12  : Nat → Int32 → Int32 → Int32 → xG → Option (xG)
  | 0, _, _, _, _ => none
  | n + 1, l1, l2, l3, g =>
    if (g.1 60 13) = 0 then
      (f_X12_is_60 29 g).bind fun w4 =>
      if w4 = 0 then
        f_X12_tellLaw_60_129 l1 l2 g
      else
        if l3 = 4 then
          (f_X12_fail_60 2 g).bind fun w15 =>
          f_X12_tellLaw_60_38 (f_X12_tellLaw_60_12 n) l1 l2 l3 w15
        else
          f_X12_tellLaw_60_38 (f_X12_tellLaw_60_12 n) l1 l2 l3 g
    else
      f_X12_tellLaw_60_129 l1 l2 g
def f_X12_tellLaw_60 (p1 : Int32) (g : xG) : Option (xG) :=
  (f_X12_must_60 5 g).bind fun w1 =>
  f_X12_tellLaw_60_12 xN p1 (w1.1 60 36) 0 w1
set_option maxRecDepth 20000 in
theorem t_X12_tellLaw_60_129 {k : xK} {S : List xSh} {out : xG} (hS : xpf SH2 S) (A : xAt k mX12_tellLaw.2.1 12 SH2 S) (hR : xRet k 0 0 S (fun r g' => r = none ∧ g' = out) mX12_tellLaw.2.2.2) (hrm : xrm k = { frames := 5, cells := 0, slots := 0, locals := 103 }) (hz : xhs k = xb0 k + S.length)   : ∀ (l1 : Int32) (l2 : Int32) (g : xG), f_X12_tellLaw_60_129 l1 l2 g = some out → xW k S 0 0 129 [some (.ref 60), some (.int l1), some (.int l2), none] [] g := by
  intro l1 l2 g H
  have H : (xg (¬ ((g.1 60 36) < 0 ∨ 260 ≤ (g.1 60 36).toNatClampNeg)) (
  (f_X12_term_60 (xupd g.1 83 (g.1 60 36).toNatClampNeg (0 &&& 1), g.2)).bind fun w2 =>
  (f_X12_must_60 4 w2).bind fun w3 =>
  if (w3.1 60 13) ≤ 0 then
    xg (¬ (((4 * (w3.1 60 19)) + l1) < 0 ∨ 8 ≤ ((4 * (w3.1 60 19)) + l1).toNatClampNeg)) (
      xg (¬ (((4 * (w3.1 60 19)) + l1) < 0 ∨ 8 ≤ ((4 * (w3.1 60 19)) + l1).toNatClampNeg)) (
        some (xupd (xupd w3.1 81 ((4 * (w3.1 60 19)) + l1).toNatClampNeg l2) 82 ((4 * (w3.1 60 19)) + l1).toNatClampNeg (w3.1 60 36), w3.2)))
  else
    some w3)) = some out := H
  refine xb A [(.aload_n 0, 1, 0, 0, .null), (.getfield 85, 3, 60, 37, .ref 83), (.aload_n 0, 1, 0, 0, .null), (.getfield 236, 3, 60, 36, .int 0), (.iconst 0, 1, 0, 0, .int 0)] (pc' := 138) (ls' := [some (.ref 60), some (.int l1), some (.int l2), none]) (st' := [.int 0, .int (g.1 60 36), .ref 83]) (g' := g) (by decide +kernel) rfl ?_
  obtain ⟨h2, H⟩ := xg_elim H
  refine xzast A (nxt := 139) (by decide +kernel) (hS _ _ sh_83) h2 ?_
  show xW k S 0 0 139 [some (.ref 60), some (.int l1), some (.int l2), none] [] (xupd g.1 83 (g.1 60 36).toNatClampNeg (0 &&& 1), g.2)
  refine xb A [(.aload_n 0, 1, 0, 0, .null)] (pc' := 140) (ls' := [some (.ref 60), some (.int l1), some (.int l2), none]) (st' := [.ref 60]) (g' := (xupd g.1 83 (g.1 60 36).toNatClampNeg (0 &&& 1), g.2)) (by decide +kernel) rfl ?_
  obtain ⟨w2, e2, H⟩ := xbind H
  refine xcallV A (ix := 287) (nxt := 143) hrm hz [] [] 1680 (c_X12_term_60 hS _ e2) ok_X12_term (by decide +kernel) rfl (fun r g1 hq => ?_)
  rw [hq.1, hq.2]
  show xW k S 0 0 143 [some (.ref 60), some (.int l1), some (.int l2), none] [] w2
  refine xb A [(.aload_n 0, 1, 0, 0, .null), (.iconst 4, 1, 0, 0, .int 4)] (pc' := 145) (ls' := [some (.ref 60), some (.int l1), some (.int l2), none]) (st' := [.int 4, .ref 60]) (g' := w2) (by decide +kernel) rfl ?_
  obtain ⟨w3, e3, H⟩ := xbind H
  refine xcallV A (ix := 271) (nxt := 148) hrm hz [.int 4] [] 1632 (c_X12_must_60 hS _ e3) ok_X12_must (by decide +kernel) rfl (fun r g1 hq => ?_)
  rw [hq.1, hq.2]
  show xW k S 0 0 148 [some (.ref 60), some (.int l1), some (.int l2), none] [] w3
  refine xb A [(.aload_n 0, 1, 0, 0, .null), (.getfield 197, 3, 60, 13, .int 0)] (pc' := 152) (ls' := [some (.ref 60), some (.int l1), some (.int l2), none]) (st' := [.int (w3.1 60 13)]) (g' := w3) (by decide +kernel) rfl ?_
  refine xif_le A (4) 156 155 (by decide +kernel) (fun h3 => ?_) (fun h3 => ?_)
  · rw [if_pos h3] at H
    refine xb A [(.aload_n 0, 1, 0, 0, .null), (.getfield 79, 3, 60, 34, .ref 81), (.iconst 4, 1, 0, 0, .int 4), (.aload_n 0, 1, 0, 0, .null), (.getfield 230, 3, 60, 19, .int 0), (.imul, 1, 0, 0, .null), (.iload_n 1, 1, 0, 0, .null), (.iadd, 1, 0, 0, .null), (.iload_n 2, 1, 0, 0, .null)] (pc' := 169) (ls' := [some (.ref 60), some (.int l1), some (.int l2), none]) (st' := [.int l2, .int ((4 * (w3.1 60 19)) + l1), .ref 81]) (g' := w3) (by decide +kernel) rfl ?_
    obtain ⟨h4, H⟩ := xg_elim H
    refine xiast A (nxt := 170) (by decide +kernel) (hS _ _ sh_81) h4 ?_
    show xW k S 0 0 170 [some (.ref 60), some (.int l1), some (.int l2), none] [] (xupd w3.1 81 ((4 * (w3.1 60 19)) + l1).toNatClampNeg l2, w3.2)
    refine xb A [(.aload_n 0, 1, 0, 0, .null), (.getfield 82, 3, 60, 35, .ref 82), (.iconst 4, 1, 0, 0, .int 4), (.aload_n 0, 1, 0, 0, .null), (.getfield 230, 3, 60, 19, .int 0), (.imul, 1, 0, 0, .null), (.iload_n 1, 1, 0, 0, .null), (.iadd, 1, 0, 0, .null), (.aload_n 0, 1, 0, 0, .null), (.getfield 236, 3, 60, 36, .int 0)] (pc' := 186) (ls' := [some (.ref 60), some (.int l1), some (.int l2), none]) (st' := [.int (w3.1 60 36), .int ((4 * (w3.1 60 19)) + l1), .ref 82]) (g' := (xupd w3.1 81 ((4 * (w3.1 60 19)) + l1).toNatClampNeg l2, w3.2)) (by decide +kernel) rfl ?_
    obtain ⟨h5, H⟩ := xg_elim H
    refine xiast A (nxt := 187) (by decide +kernel) (hS _ _ sh_82) h5 ?_
    show xW k S 0 0 187 [some (.ref 60), some (.int l1), some (.int l2), none] [] (xupd (xupd w3.1 81 ((4 * (w3.1 60 19)) + l1).toNatClampNeg l2) 82 ((4 * (w3.1 60 19)) + l1).toNatClampNeg (w3.1 60 36), w3.2)
    obtain rfl := Option.some.inj H
    exact xret_v A hR hz (by decide +kernel) ⟨rfl, rfl⟩
  · rw [if_neg h3] at H
    obtain rfl := Option.some.inj H
    exact xret_v A hR hz (by decide +kernel) ⟨rfl, rfl⟩
theorem fr_X12_tellLaw_60_129   : ∀ (l1 : Int32) (l2 : Int32) (g : xG) (out : xG), f_X12_tellLaw_60_129 l1 l2 g = some out → xfrm fp_X12_tellLaw_60 g (out) := by
  intro l1 l2 g out H
  have H : (xg (¬ ((g.1 60 36) < 0 ∨ 260 ≤ (g.1 60 36).toNatClampNeg)) (
  (f_X12_term_60 (xupd g.1 83 (g.1 60 36).toNatClampNeg (0 &&& 1), g.2)).bind fun w2 =>
  (f_X12_must_60 4 w2).bind fun w3 =>
  if (w3.1 60 13) ≤ 0 then
    xg (¬ (((4 * (w3.1 60 19)) + l1) < 0 ∨ 8 ≤ ((4 * (w3.1 60 19)) + l1).toNatClampNeg)) (
      xg (¬ (((4 * (w3.1 60 19)) + l1) < 0 ∨ 8 ≤ ((4 * (w3.1 60 19)) + l1).toNatClampNeg)) (
        some (xupd (xupd w3.1 81 ((4 * (w3.1 60 19)) + l1).toNatClampNeg l2) 82 ((4 * (w3.1 60 19)) + l1).toNatClampNeg (w3.1 60 36), w3.2)))
  else
    some w3)) = some out := H
  obtain ⟨h2, H⟩ := xg_elim H
  have hf2 : xfrm fp_X12_tellLaw_60 g ((xupd g.1 83 (g.1 60 36).toNatClampNeg (0 &&& 1), g.2)) := xfrm.ua xfrm.rf rfl
  obtain ⟨w2, e2, H⟩ := xbind H
  have hf3 : xfrm fp_X12_tellLaw_60 g (w2) := xfrm.tr hf2 (fr_X12_term_60 _ e2) rfl
  obtain ⟨w3, e3, H⟩ := xbind H
  have hf4 : xfrm fp_X12_tellLaw_60 g (w3) := xfrm.tr hf3 (fr_X12_must_60 _ e3) rfl
  by_cases h3 : (w3.1 60 13) ≤ 0
  · rw [if_pos h3] at H
    obtain ⟨h4, H⟩ := xg_elim H
    have hf5 : xfrm fp_X12_tellLaw_60 g ((xupd w3.1 81 ((4 * (w3.1 60 19)) + l1).toNatClampNeg l2, w3.2)) := xfrm.ua hf4 rfl
    obtain ⟨h5, H⟩ := xg_elim H
    have hf6 : xfrm fp_X12_tellLaw_60 g ((xupd (xupd w3.1 81 ((4 * (w3.1 60 19)) + l1).toNatClampNeg l2) 82 ((4 * (w3.1 60 19)) + l1).toNatClampNeg (w3.1 60 36), w3.2)) := xfrm.ua hf5 rfl
    obtain rfl := Option.some.inj H
    exact hf6
  · rw [if_neg h3] at H
    obtain rfl := Option.some.inj H
    exact hf4
set_option maxRecDepth 20000 in
theorem t_X12_tellLaw_60_38 {k : xK} {S : List xSh} {out : xG} (hS : xpf SH2 S) (A : xAt k mX12_tellLaw.2.1 12 SH2 S) (hR : xRet k 0 0 S (fun r g' => r = none ∧ g' = out) mX12_tellLaw.2.2.2) (hrm : xrm k = { frames := 5, cells := 0, slots := 0, locals := 103 }) (hz : xhs k = xb0 k + S.length) {k12 : Int32 → Int32 → Int32 → xG → Option (xG)} (hk12 : ∀ (l1 : Int32) (l2 : Int32) (l3 : Int32) (g : xG), k12 l1 l2 l3 g = some out → xW k S 0 0 12 [some (.ref 60), some (.int l1), some (.int l2), some (.int l3)] [] g) : ∀ (l1 : Int32) (l2 : Int32) (l3 : Int32) (g : xG), f_X12_tellLaw_60_38 k12 l1 l2 l3 g = some out → xW k S 0 0 38 [some (.ref 60), some (.int l1), some (.int l2), some (.int l3)] [] g := by
  intro l1 l2 l3 g H
  have H : (if (g.1 60 13) ≤ 0 then
  (f_X12_goesOn_60 g).bind fun w5 =>
  xg (¬ ((w5.1 60 36) < 0 ∨ 260 ≤ (w5.1 60 36).toNatClampNeg)) (
    xg (¬ ((w5.1 60 36) < 0 ∨ 260 ≤ (w5.1 60 36).toNatClampNeg)) (
      (f_X12_expression_60 (xupd (xupd w5.1 83 (w5.1 60 36).toNatClampNeg (1 &&& 1)) 84 (w5.1 60 36).toNatClampNeg (w5.1 60 42), w5.2)).bind fun w6 =>
      (f_X12_must_60 13 w6).bind fun w7 =>
      xg (¬ ((w7.1 60 36) < 0 ∨ 260 ≤ (w7.1 60 36).toNatClampNeg)) (
        if (w7.1 60 13) = 0 then
          (f_X12_expression_60 (xupd w7.1 85 (w7.1 60 36).toNatClampNeg (w7.1 60 42), w7.2)).bind fun w11 =>
          (f_X12_must_60 30 w11).bind fun w12 =>
          (f_X12_term_60 w12).bind fun w13 =>
          (f_X12_must_60 31 w13).bind fun w14 =>
          k12 l1 l2 (l3 + 1) w14
        else
          (f_X12_must_60 30 (xupd w7.1 85 (w7.1 60 36).toNatClampNeg (w7.1 60 42), w7.2)).bind fun w8 =>
          (f_X12_term_60 w8).bind fun w9 =>
          (f_X12_must_60 31 w9).bind fun w10 =>
          k12 l1 l2 (l3 + 1) w10)))
else
  some g) = some out := H
  refine xb A [(.aload_n 0, 1, 0, 0, .null), (.getfield 197, 3, 60, 13, .int 0)] (pc' := 42) (ls' := [some (.ref 60), some (.int l1), some (.int l2), some (.int l3)]) (st' := [.int (g.1 60 13)]) (g' := g) (by decide +kernel) rfl ?_
  refine xif_le A (4) 46 45 (by decide +kernel) (fun h8 => ?_) (fun h8 => ?_)
  · rw [if_pos h8] at H
    refine xb A [(.iinc 3 1, 3, 0, 0, .null), (.aload_n 0, 1, 0, 0, .null)] (pc' := 50) (ls' := [some (.ref 60), some (.int l1), some (.int l2), some (.int (l3 + 1))]) (st' := [.ref 60]) (g' := g) (by decide +kernel) rfl ?_
    obtain ⟨w5, e5, H⟩ := xbind H
    refine xcallV A (ix := 218) (nxt := 53) hrm hz [] [] 1624 (c_X12_goesOn_60 hS _ e5) ok_X12_goesOn (by decide +kernel) rfl (fun r g1 hq => ?_)
    rw [hq.1, hq.2]
    show xW k S 0 0 53 [some (.ref 60), some (.int l1), some (.int l2), some (.int (l3 + 1))] [] w5
    refine xb A [(.aload_n 0, 1, 0, 0, .null), (.getfield 85, 3, 60, 37, .ref 83), (.aload_n 0, 1, 0, 0, .null), (.getfield 236, 3, 60, 36, .int 0), (.iconst 1, 1, 0, 0, .int 1)] (pc' := 62) (ls' := [some (.ref 60), some (.int l1), some (.int l2), some (.int (l3 + 1))]) (st' := [.int 1, .int (w5.1 60 36), .ref 83]) (g' := w5) (by decide +kernel) rfl ?_
    obtain ⟨h9, H⟩ := xg_elim H
    refine xzast A (nxt := 63) (by decide +kernel) (hS _ _ sh_83) h9 ?_
    show xW k S 0 0 63 [some (.ref 60), some (.int l1), some (.int l2), some (.int (l3 + 1))] [] (xupd w5.1 83 (w5.1 60 36).toNatClampNeg (1 &&& 1), w5.2)
    refine xb A [(.aload_n 0, 1, 0, 0, .null), (.getfield 89, 3, 60, 38, .ref 84), (.aload_n 0, 1, 0, 0, .null), (.getfield 236, 3, 60, 36, .int 0), (.aload_n 0, 1, 0, 0, .null), (.getfield 239, 3, 60, 42, .int 0)] (pc' := 75) (ls' := [some (.ref 60), some (.int l1), some (.int l2), some (.int (l3 + 1))]) (st' := [.int (w5.1 60 42), .int (w5.1 60 36), .ref 84]) (g' := (xupd w5.1 83 (w5.1 60 36).toNatClampNeg (1 &&& 1), w5.2)) (by decide +kernel) rfl ?_
    obtain ⟨h10, H⟩ := xg_elim H
    refine xiast A (nxt := 76) (by decide +kernel) (hS _ _ sh_84) h10 ?_
    show xW k S 0 0 76 [some (.ref 60), some (.int l1), some (.int l2), some (.int (l3 + 1))] [] (xupd (xupd w5.1 83 (w5.1 60 36).toNatClampNeg (1 &&& 1)) 84 (w5.1 60 36).toNatClampNeg (w5.1 60 42), w5.2)
    refine xb A [(.aload_n 0, 1, 0, 0, .null)] (pc' := 77) (ls' := [some (.ref 60), some (.int l1), some (.int l2), some (.int (l3 + 1))]) (st' := [.ref 60]) (g' := (xupd (xupd w5.1 83 (w5.1 60 36).toNatClampNeg (1 &&& 1)) 84 (w5.1 60 36).toNatClampNeg (w5.1 60 42), w5.2)) (by decide +kernel) rfl ?_
    obtain ⟨w6, e6, H⟩ := xbind H
    refine xcallV A (ix := 284) (nxt := 80) hrm hz [] [] 1664 (c_X12_expression_60 hS _ e6) ok_X12_expression (by decide +kernel) rfl (fun r g1 hq => ?_)
    rw [hq.1, hq.2]
    show xW k S 0 0 80 [some (.ref 60), some (.int l1), some (.int l2), some (.int (l3 + 1))] [] w6
    refine xb A [(.aload_n 0, 1, 0, 0, .null), (.bipush 13, 2, 0, 0, .int 13)] (pc' := 83) (ls' := [some (.ref 60), some (.int l1), some (.int l2), some (.int (l3 + 1))]) (st' := [.int 13, .ref 60]) (g' := w6) (by decide +kernel) rfl ?_
    obtain ⟨w7, e7, H⟩ := xbind H
    refine xcallV A (ix := 271) (nxt := 86) hrm hz [.int 13] [] 1632 (c_X12_must_60 hS _ e7) ok_X12_must (by decide +kernel) rfl (fun r g1 hq => ?_)
    rw [hq.1, hq.2]
    show xW k S 0 0 86 [some (.ref 60), some (.int l1), some (.int l2), some (.int (l3 + 1))] [] w7
    refine xb A [(.aload_n 0, 1, 0, 0, .null), (.getfield 92, 3, 60, 39, .ref 85), (.aload_n 0, 1, 0, 0, .null), (.getfield 236, 3, 60, 36, .int 0), (.aload_n 0, 1, 0, 0, .null), (.getfield 239, 3, 60, 42, .int 0)] (pc' := 98) (ls' := [some (.ref 60), some (.int l1), some (.int l2), some (.int (l3 + 1))]) (st' := [.int (w7.1 60 42), .int (w7.1 60 36), .ref 85]) (g' := w7) (by decide +kernel) rfl ?_
    obtain ⟨h11, H⟩ := xg_elim H
    refine xiast A (nxt := 99) (by decide +kernel) (hS _ _ sh_85) h11 ?_
    show xW k S 0 0 99 [some (.ref 60), some (.int l1), some (.int l2), some (.int (l3 + 1))] [] (xupd w7.1 85 (w7.1 60 36).toNatClampNeg (w7.1 60 42), w7.2)
    refine xb A [(.aload_n 0, 1, 0, 0, .null), (.getfield 197, 3, 60, 13, .int 0)] (pc' := 103) (ls' := [some (.ref 60), some (.int l1), some (.int l2), some (.int (l3 + 1))]) (st' := [.int (w7.1 60 13)]) (g' := (xupd w7.1 85 (w7.1 60 36).toNatClampNeg (w7.1 60 42), w7.2)) (by decide +kernel) rfl ?_
    refine xif_ne A (7) 110 106 (by decide +kernel) (fun h12 => ?_) (fun h12 => ?_)
    · rw [if_neg h12] at H
      refine xb A [(.aload_n 0, 1, 0, 0, .null), (.bipush 30, 2, 0, 0, .int 30)] (pc' := 113) (ls' := [some (.ref 60), some (.int l1), some (.int l2), some (.int (l3 + 1))]) (st' := [.int 30, .ref 60]) (g' := (xupd w7.1 85 (w7.1 60 36).toNatClampNeg (w7.1 60 42), w7.2)) (by decide +kernel) rfl ?_
      obtain ⟨w8, e8, H⟩ := xbind H
      refine xcallV A (ix := 271) (nxt := 116) hrm hz [.int 30] [] 1632 (c_X12_must_60 hS _ e8) ok_X12_must (by decide +kernel) rfl (fun r g1 hq => ?_)
      rw [hq.1, hq.2]
      show xW k S 0 0 116 [some (.ref 60), some (.int l1), some (.int l2), some (.int (l3 + 1))] [] w8
      refine xb A [(.aload_n 0, 1, 0, 0, .null)] (pc' := 117) (ls' := [some (.ref 60), some (.int l1), some (.int l2), some (.int (l3 + 1))]) (st' := [.ref 60]) (g' := w8) (by decide +kernel) rfl ?_
      obtain ⟨w9, e9, H⟩ := xbind H
      refine xcallV A (ix := 287) (nxt := 120) hrm hz [] [] 1680 (c_X12_term_60 hS _ e9) ok_X12_term (by decide +kernel) rfl (fun r g1 hq => ?_)
      rw [hq.1, hq.2]
      show xW k S 0 0 120 [some (.ref 60), some (.int l1), some (.int l2), some (.int (l3 + 1))] [] w9
      refine xb A [(.aload_n 0, 1, 0, 0, .null), (.bipush 31, 2, 0, 0, .int 31)] (pc' := 123) (ls' := [some (.ref 60), some (.int l1), some (.int l2), some (.int (l3 + 1))]) (st' := [.int 31, .ref 60]) (g' := w9) (by decide +kernel) rfl ?_
      obtain ⟨w10, e10, H⟩ := xbind H
      refine xcallV A (ix := 271) (nxt := 126) hrm hz [.int 31] [] 1632 (c_X12_must_60 hS _ e10) ok_X12_must (by decide +kernel) rfl (fun r g1 hq => ?_)
      rw [hq.1, hq.2]
      show xW k S 0 0 126 [some (.ref 60), some (.int l1), some (.int l2), some (.int (l3 + 1))] [] w10
      refine xgoto A (-114) 12 (by decide +kernel) ?_
      exact hk12 _ _ _ _ H
    · rw [if_pos h12] at H
      refine xb A [(.aload_n 0, 1, 0, 0, .null)] (pc' := 107) (ls' := [some (.ref 60), some (.int l1), some (.int l2), some (.int (l3 + 1))]) (st' := [.ref 60]) (g' := (xupd w7.1 85 (w7.1 60 36).toNatClampNeg (w7.1 60 42), w7.2)) (by decide +kernel) rfl ?_
      obtain ⟨w11, e11, H⟩ := xbind H
      refine xcallV A (ix := 284) (nxt := 110) hrm hz [] [] 1664 (c_X12_expression_60 hS _ e11) ok_X12_expression (by decide +kernel) rfl (fun r g1 hq => ?_)
      rw [hq.1, hq.2]
      show xW k S 0 0 110 [some (.ref 60), some (.int l1), some (.int l2), some (.int (l3 + 1))] [] w11
      refine xb A [(.aload_n 0, 1, 0, 0, .null), (.bipush 30, 2, 0, 0, .int 30)] (pc' := 113) (ls' := [some (.ref 60), some (.int l1), some (.int l2), some (.int (l3 + 1))]) (st' := [.int 30, .ref 60]) (g' := w11) (by decide +kernel) rfl ?_
      obtain ⟨w12, e12, H⟩ := xbind H
      refine xcallV A (ix := 271) (nxt := 116) hrm hz [.int 30] [] 1632 (c_X12_must_60 hS _ e12) ok_X12_must (by decide +kernel) rfl (fun r g1 hq => ?_)
      rw [hq.1, hq.2]
      show xW k S 0 0 116 [some (.ref 60), some (.int l1), some (.int l2), some (.int (l3 + 1))] [] w12
      refine xb A [(.aload_n 0, 1, 0, 0, .null)] (pc' := 117) (ls' := [some (.ref 60), some (.int l1), some (.int l2), some (.int (l3 + 1))]) (st' := [.ref 60]) (g' := w12) (by decide +kernel) rfl ?_
      obtain ⟨w13, e13, H⟩ := xbind H
      refine xcallV A (ix := 287) (nxt := 120) hrm hz [] [] 1680 (c_X12_term_60 hS _ e13) ok_X12_term (by decide +kernel) rfl (fun r g1 hq => ?_)
      rw [hq.1, hq.2]
      show xW k S 0 0 120 [some (.ref 60), some (.int l1), some (.int l2), some (.int (l3 + 1))] [] w13
      refine xb A [(.aload_n 0, 1, 0, 0, .null), (.bipush 31, 2, 0, 0, .int 31)] (pc' := 123) (ls' := [some (.ref 60), some (.int l1), some (.int l2), some (.int (l3 + 1))]) (st' := [.int 31, .ref 60]) (g' := w13) (by decide +kernel) rfl ?_
      obtain ⟨w14, e14, H⟩ := xbind H
      refine xcallV A (ix := 271) (nxt := 126) hrm hz [.int 31] [] 1632 (c_X12_must_60 hS _ e14) ok_X12_must (by decide +kernel) rfl (fun r g1 hq => ?_)
      rw [hq.1, hq.2]
      show xW k S 0 0 126 [some (.ref 60), some (.int l1), some (.int l2), some (.int (l3 + 1))] [] w14
      refine xgoto A (-114) 12 (by decide +kernel) ?_
      exact hk12 _ _ _ _ H
  · rw [if_neg h8] at H
    obtain rfl := Option.some.inj H
    exact xret_v A hR hz (by decide +kernel) ⟨rfl, rfl⟩
theorem fr_X12_tellLaw_60_38 {k12 : Int32 → Int32 → Int32 → xG → Option (xG)} (hk12 : ∀ (l1 : Int32) (l2 : Int32) (l3 : Int32) (g : xG) (out : xG), k12 l1 l2 l3 g = some out → xfrm fp_X12_tellLaw_60 g (out)) : ∀ (l1 : Int32) (l2 : Int32) (l3 : Int32) (g : xG) (out : xG), f_X12_tellLaw_60_38 k12 l1 l2 l3 g = some out → xfrm fp_X12_tellLaw_60 g (out) := by
  intro l1 l2 l3 g out H
  have H : (if (g.1 60 13) ≤ 0 then
  (f_X12_goesOn_60 g).bind fun w5 =>
  xg (¬ ((w5.1 60 36) < 0 ∨ 260 ≤ (w5.1 60 36).toNatClampNeg)) (
    xg (¬ ((w5.1 60 36) < 0 ∨ 260 ≤ (w5.1 60 36).toNatClampNeg)) (
      (f_X12_expression_60 (xupd (xupd w5.1 83 (w5.1 60 36).toNatClampNeg (1 &&& 1)) 84 (w5.1 60 36).toNatClampNeg (w5.1 60 42), w5.2)).bind fun w6 =>
      (f_X12_must_60 13 w6).bind fun w7 =>
      xg (¬ ((w7.1 60 36) < 0 ∨ 260 ≤ (w7.1 60 36).toNatClampNeg)) (
        if (w7.1 60 13) = 0 then
          (f_X12_expression_60 (xupd w7.1 85 (w7.1 60 36).toNatClampNeg (w7.1 60 42), w7.2)).bind fun w11 =>
          (f_X12_must_60 30 w11).bind fun w12 =>
          (f_X12_term_60 w12).bind fun w13 =>
          (f_X12_must_60 31 w13).bind fun w14 =>
          k12 l1 l2 (l3 + 1) w14
        else
          (f_X12_must_60 30 (xupd w7.1 85 (w7.1 60 36).toNatClampNeg (w7.1 60 42), w7.2)).bind fun w8 =>
          (f_X12_term_60 w8).bind fun w9 =>
          (f_X12_must_60 31 w9).bind fun w10 =>
          k12 l1 l2 (l3 + 1) w10)))
else
  some g) = some out := H
  by_cases h8 : (g.1 60 13) ≤ 0
  · rw [if_pos h8] at H
    obtain ⟨w5, e5, H⟩ := xbind H
    have hf7 : xfrm fp_X12_tellLaw_60 g (w5) := xfrm.tr xfrm.rf (fr_X12_goesOn_60 _ e5) rfl
    obtain ⟨h9, H⟩ := xg_elim H
    have hf8 : xfrm fp_X12_tellLaw_60 g ((xupd w5.1 83 (w5.1 60 36).toNatClampNeg (1 &&& 1), w5.2)) := xfrm.ua hf7 rfl
    obtain ⟨h10, H⟩ := xg_elim H
    have hf9 : xfrm fp_X12_tellLaw_60 g ((xupd (xupd w5.1 83 (w5.1 60 36).toNatClampNeg (1 &&& 1)) 84 (w5.1 60 36).toNatClampNeg (w5.1 60 42), w5.2)) := xfrm.ua hf8 rfl
    obtain ⟨w6, e6, H⟩ := xbind H
    have hf10 : xfrm fp_X12_tellLaw_60 g (w6) := xfrm.tr hf9 (fr_X12_expression_60 _ e6) rfl
    obtain ⟨w7, e7, H⟩ := xbind H
    have hf11 : xfrm fp_X12_tellLaw_60 g (w7) := xfrm.tr hf10 (fr_X12_must_60 _ e7) rfl
    obtain ⟨h11, H⟩ := xg_elim H
    have hf12 : xfrm fp_X12_tellLaw_60 g ((xupd w7.1 85 (w7.1 60 36).toNatClampNeg (w7.1 60 42), w7.2)) := xfrm.ua hf11 rfl
    by_cases h12 : (w7.1 60 13) = 0
    · rw [if_pos h12] at H
      obtain ⟨w11, e11, H⟩ := xbind H
      have hf16 : xfrm fp_X12_tellLaw_60 g (w11) := xfrm.tr hf12 (fr_X12_expression_60 _ e11) rfl
      obtain ⟨w12, e12, H⟩ := xbind H
      have hf17 : xfrm fp_X12_tellLaw_60 g (w12) := xfrm.tr hf16 (fr_X12_must_60 _ e12) rfl
      obtain ⟨w13, e13, H⟩ := xbind H
      have hf18 : xfrm fp_X12_tellLaw_60 g (w13) := xfrm.tr hf17 (fr_X12_term_60 _ e13) rfl
      obtain ⟨w14, e14, H⟩ := xbind H
      have hf19 : xfrm fp_X12_tellLaw_60 g (w14) := xfrm.tr hf18 (fr_X12_must_60 _ e14) rfl
      exact xfrm.tr hf19 (hk12 _ _ _ _ _ H) rfl
    · rw [if_neg h12] at H
      obtain ⟨w8, e8, H⟩ := xbind H
      have hf13 : xfrm fp_X12_tellLaw_60 g (w8) := xfrm.tr hf12 (fr_X12_must_60 _ e8) rfl
      obtain ⟨w9, e9, H⟩ := xbind H
      have hf14 : xfrm fp_X12_tellLaw_60 g (w9) := xfrm.tr hf13 (fr_X12_term_60 _ e9) rfl
      obtain ⟨w10, e10, H⟩ := xbind H
      have hf15 : xfrm fp_X12_tellLaw_60 g (w10) := xfrm.tr hf14 (fr_X12_must_60 _ e10) rfl
      exact xfrm.tr hf15 (hk12 _ _ _ _ _ H) rfl
  · rw [if_neg h8] at H
    obtain rfl := Option.some.inj H
    exact xfrm.rf
set_option maxRecDepth 20000 in
theorem t_X12_tellLaw_60_12 {k : xK} {S : List xSh} {out : xG} (hS : xpf SH2 S) (A : xAt k mX12_tellLaw.2.1 12 SH2 S) (hR : xRet k 0 0 S (fun r g' => r = none ∧ g' = out) mX12_tellLaw.2.2.2) (hrm : xrm k = { frames := 5, cells := 0, slots := 0, locals := 103 }) (hz : xhs k = xb0 k + S.length)   : ∀ (n : Nat) (l1 : Int32) (l2 : Int32) (l3 : Int32) (g : xG), f_X12_tellLaw_60_12 n l1 l2 l3 g = some out → xW k S 0 0 12 [some (.ref 60), some (.int l1), some (.int l2), some (.int l3)] [] g := by
  intro n
  induction n with
  | zero => intro l1 l2 l3 g H; exact absurd H (by simp [f_X12_tellLaw_60_12])
  | succ n ih =>
    intro l1 l2 l3 g H
    have H : (if (g.1 60 13) = 0 then
  (f_X12_is_60 29 g).bind fun w4 =>
  if w4 = 0 then
    f_X12_tellLaw_60_129 l1 l2 g
  else
    if l3 = 4 then
      (f_X12_fail_60 2 g).bind fun w15 =>
      f_X12_tellLaw_60_38 (f_X12_tellLaw_60_12 n) l1 l2 l3 w15
    else
      f_X12_tellLaw_60_38 (f_X12_tellLaw_60_12 n) l1 l2 l3 g
else
  f_X12_tellLaw_60_129 l1 l2 g) = some out := H
    refine xb A [(.aload_n 0, 1, 0, 0, .null), (.getfield 197, 3, 60, 13, .int 0)] (pc' := 16) (ls' := [some (.ref 60), some (.int l1), some (.int l2), some (.int l3)]) (st' := [.int (g.1 60 13)]) (g' := g) (by decide +kernel) rfl ?_
    refine xif_ne A (113) 129 19 (by decide +kernel) (fun h1 => ?_) (fun h1 => ?_)
    · rw [if_neg h1] at H
      refine xweak (ls' := [some (.ref 60), some (.int l1), some (.int l2), none]) (by exact ⟨rfl, ⟨rfl, ⟨rfl, trivial⟩⟩⟩) ?_
      exact t_X12_tellLaw_60_129 hS A hR hrm hz _ _ _ H
    · rw [if_pos h1] at H
      refine xb A [(.aload_n 0, 1, 0, 0, .null), (.bipush 29, 2, 0, 0, .int 29)] (pc' := 22) (ls' := [some (.ref 60), some (.int l1), some (.int l2), some (.int l3)]) (st' := [.int 29, .ref 60]) (g' := g) (by decide +kernel) rfl ?_
      obtain ⟨w4, e4, H⟩ := xbind H
      refine xcallV A (ix := 215) (nxt := 25) hrm hz [.int 29] [] 1608 (c_X12_is_60 hS _ e4) ok_X12_is (by decide +kernel) rfl (fun r g1 hq => ?_)
      rw [hq.1, hq.2]
      show xW k S 0 0 25 [some (.ref 60), some (.int l1), some (.int l2), some (.int l3)] [.int w4] g
      refine xif_eq A (104) 129 28 (by decide +kernel) (fun h6 => ?_) (fun h6 => ?_)
      · rw [if_pos h6] at H
        refine xweak (ls' := [some (.ref 60), some (.int l1), some (.int l2), none]) (by exact ⟨rfl, ⟨rfl, ⟨rfl, trivial⟩⟩⟩) ?_
        exact t_X12_tellLaw_60_129 hS A hR hrm hz _ _ _ H
      · rw [if_neg h6] at H
        refine xb A [(.iload_n 3, 1, 0, 0, .null), (.iconst 4, 1, 0, 0, .int 4)] (pc' := 30) (ls' := [some (.ref 60), some (.int l1), some (.int l2), some (.int l3)]) (st' := [.int 4, .int l3]) (g' := g) (by decide +kernel) rfl ?_
        refine xic_ne A (8) 38 33 (by decide +kernel) (fun h7 => ?_) (fun h7 => ?_)
        · rw [if_neg h7] at H
          exact t_X12_tellLaw_60_38 hS A hR hrm hz ih _ _ _ _ H
        · rw [if_pos h7] at H
          refine xb A [(.aload_n 0, 1, 0, 0, .null), (.iconst 2, 1, 0, 0, .int 2)] (pc' := 35) (ls' := [some (.ref 60), some (.int l1), some (.int l2), some (.int l3)]) (st' := [.int 2, .ref 60]) (g' := g) (by decide +kernel) rfl ?_
          obtain ⟨w15, e15, H⟩ := xbind H
          refine xcallV A (ix := 212) (nxt := 38) hrm hz [.int 2] [] 1620 (c_X12_fail_60 hS _ e15) ok_X12_fail (by decide +kernel) rfl (fun r g1 hq => ?_)
          rw [hq.1, hq.2]
          show xW k S 0 0 38 [some (.ref 60), some (.int l1), some (.int l2), some (.int l3)] [] w15
          exact t_X12_tellLaw_60_38 hS A hR hrm hz ih _ _ _ _ H
theorem fr_X12_tellLaw_60_12   : ∀ (n : Nat) (l1 : Int32) (l2 : Int32) (l3 : Int32) (g : xG) (out : xG), f_X12_tellLaw_60_12 n l1 l2 l3 g = some out → xfrm fp_X12_tellLaw_60 g (out) := by
  intro n
  induction n with
  | zero => intro l1 l2 l3 g out H; exact absurd H (by simp [f_X12_tellLaw_60_12])
  | succ n ih =>
    intro l1 l2 l3 g out H
    have H : (if (g.1 60 13) = 0 then
  (f_X12_is_60 29 g).bind fun w4 =>
  if w4 = 0 then
    f_X12_tellLaw_60_129 l1 l2 g
  else
    if l3 = 4 then
      (f_X12_fail_60 2 g).bind fun w15 =>
      f_X12_tellLaw_60_38 (f_X12_tellLaw_60_12 n) l1 l2 l3 w15
    else
      f_X12_tellLaw_60_38 (f_X12_tellLaw_60_12 n) l1 l2 l3 g
else
  f_X12_tellLaw_60_129 l1 l2 g) = some out := H
    by_cases h1 : (g.1 60 13) = 0
    · rw [if_pos h1] at H
      obtain ⟨w4, e4, H⟩ := xbind H
      by_cases h6 : w4 = 0
      · rw [if_pos h6] at H
        exact xfrm.tr xfrm.rf (fr_X12_tellLaw_60_129 _ _ _ _ H) rfl
      · rw [if_neg h6] at H
        by_cases h7 : l3 = 4
        · rw [if_pos h7] at H
          obtain ⟨w15, e15, H⟩ := xbind H
          have hf20 : xfrm fp_X12_tellLaw_60 g (w15) := xfrm.tr xfrm.rf (fr_X12_fail_60 _ e15) rfl
          exact xfrm.tr hf20 (fr_X12_tellLaw_60_38 ih _ _ _ _ _ H) rfl
        · rw [if_neg h7] at H
          exact xfrm.tr xfrm.rf (fr_X12_tellLaw_60_38 ih _ _ _ _ _ H) rfl
    · rw [if_neg h1] at H
      exact xfrm.tr xfrm.rf (fr_X12_tellLaw_60_129 _ _ _ _ H) rfl
set_option maxRecDepth 20000 in
theorem c_X12_tellLaw_60 {S : List xSh} (hS : xpf SH2 S) {g : xG} {p1 : Int32} (out : xG) (H : f_X12_tellLaw_60 p1 g = some out) : xC mX12_tellLaw 5 103 0 0 S [.ref 60, .int p1] g S (fun r g' => r = none ∧ g' = out) := by
  have H : ((f_X12_must_60 5 g).bind fun w1 =>
f_X12_tellLaw_60_12 xN p1 (w1.1 60 36) 0 w1) = some out := H
  refine xC.of 12 SH2 [some (.ref 60), some (.int p1), none, none] hS (by decide +kernel) rfl (fun _ _ => Nat.le_of_ble_eq_true rfl) (fun _ _ => rfl) ?_
  intro k A hR hrm hz
  refine xb A [(.aload_n 0, 1, 0, 0, .null), (.iconst 5, 1, 0, 0, .int 5)] (pc' := 2) (ls' := [some (.ref 60), some (.int p1), none, none]) (st' := [.int 5, .ref 60]) (g' := g) (by decide +kernel) rfl ?_
  obtain ⟨w1, e1, H⟩ := xbind H
  refine xcallV A (ix := 271) (nxt := 5) hrm hz [.int 5] [] 1632 (c_X12_must_60 hS _ e1) ok_X12_must (by decide +kernel) rfl (fun r g1 hq => ?_)
  rw [hq.1, hq.2]
  show xW k S 0 0 5 [some (.ref 60), some (.int p1), none, none] [] w1
  refine xb A [(.aload_n 0, 1, 0, 0, .null), (.getfield 236, 3, 60, 36, .int 0), (.istore_n 2, 1, 0, 0, .null), (.iconst 0, 1, 0, 0, .int 0), (.istore_n 3, 1, 0, 0, .null)] (pc' := 12) (ls' := [some (.ref 60), some (.int p1), some (.int (w1.1 60 36)), some (.int 0)]) (st' := []) (g' := w1) (by decide +kernel) rfl ?_
  exact t_X12_tellLaw_60_12 hS A hR hrm hz _ _ _ _ _ H
theorem fr_X12_tellLaw_60 {p1 : Int32} {g : xG} (out : xG) (H : f_X12_tellLaw_60 p1 g = some out) : xfrm fp_X12_tellLaw_60 g (out) := by
  have H : ((f_X12_must_60 5 g).bind fun w1 =>
f_X12_tellLaw_60_12 xN p1 (w1.1 60 36) 0 w1) = some out := H
  obtain ⟨w1, e1, H⟩ := xbind H
  have hf1 : xfrm fp_X12_tellLaw_60 g (w1) := xfrm.tr xfrm.rf (fr_X12_must_60 _ e1) rfl
  exact xfrm.tr hf1 (fr_X12_tellLaw_60_12 _ _ _ _ _ _ H) rfl
def fp_X12_known_60 : List (Nat × Option Nat) := [(60, some 11), (60, some 13), (60, some 14), (60, some 15), (60, some 16)]
def f_X12_known_60_21  : Nat → Int32 → Int32 → xG → Option (Int32 × xG)
  | 0, _, _, _ => none
  | n + 1, l1, l2, g =>
    if (g.1 60 20) ≤ l2 then
      (f_X12_wrong_60 4 l1 g).bind fun w2 =>
      some ((-1), w2)
    else
      xg (¬ (l2 < 0 ∨ 13 ≤ l2.toNatClampNeg)) (
        xg (¬ (l1 < 0 ∨ 403 ≤ l1.toNatClampNeg)) (
          if (lg_cmp (g.2 68 l2.toNatClampNeg) (g.2 66 l1.toNatClampNeg)) = 0 then
            xg (¬ (l2 < 0 ∨ 13 ≤ l2.toNatClampNeg)) (
              if 10 ≤ (g.1 69 l2.toNatClampNeg) then
                f_X12_known_60_21 n l1 (l2 + 1) g
              else
                xg (¬ (l2 < 0 ∨ 13 ≤ l2.toNatClampNeg)) (
                  some (g.1 69 l2.toNatClampNeg, g)))
          else
            f_X12_known_60_21 n l1 (l2 + 1) g))
def f_X12_known_60  (g : xG) : Option (Int32 × xG) :=
  (f_X12_must_60 1 g).bind fun w1 =>
  if (w1.1 60 13) ≤ 0 then
    f_X12_known_60_21 xN (g.1 60 11) 0 w1
  else
    some ((-1), w1)
set_option maxRecDepth 20000 in
theorem t_X12_known_60_21 {k : xK} {S : List xSh} {out : Int32 × xG} (hS : xpf SH2 S) (A : xAt k mX12_known.2.1 12 SH2 S) (hR : xRet k 0 0 S (fun r g' => r = some (.int out.1) ∧ g' = out.2) mX12_known.2.2.2) (hrm : xrm k = { frames := 3, cells := 0, slots := 0, locals := 62 }) (hz : xhs k = xb0 k + S.length)   : ∀ (n : Nat) (l1 : Int32) (l2 : Int32) (g : xG), f_X12_known_60_21 n l1 l2 g = some out → xW k S 0 0 21 [some (.ref 60), some (.int l1), some (.int l2)] [] g := by
  intro n
  induction n with
  | zero => intro l1 l2 g H; exact absurd H (by simp [f_X12_known_60_21])
  | succ n ih =>
    intro l1 l2 g H
    have H : (if (g.1 60 20) ≤ l2 then
  (f_X12_wrong_60 4 l1 g).bind fun w2 =>
  some ((-1), w2)
else
  xg (¬ (l2 < 0 ∨ 13 ≤ l2.toNatClampNeg)) (
    xg (¬ (l1 < 0 ∨ 403 ≤ l1.toNatClampNeg)) (
      if (lg_cmp (g.2 68 l2.toNatClampNeg) (g.2 66 l1.toNatClampNeg)) = 0 then
        xg (¬ (l2 < 0 ∨ 13 ≤ l2.toNatClampNeg)) (
          if 10 ≤ (g.1 69 l2.toNatClampNeg) then
            f_X12_known_60_21 n l1 (l2 + 1) g
          else
            xg (¬ (l2 < 0 ∨ 13 ≤ l2.toNatClampNeg)) (
              some (g.1 69 l2.toNatClampNeg, g)))
      else
        f_X12_known_60_21 n l1 (l2 + 1) g))) = some out := H
    refine xb A [(.iload_n 2, 1, 0, 0, .null), (.aload_n 0, 1, 0, 0, .null), (.getfield 233, 3, 60, 20, .int 0)] (pc' := 26) (ls' := [some (.ref 60), some (.int l1), some (.int l2)]) (st' := [.int (g.1 60 20), .int l2]) (g' := g) (by decide +kernel) rfl ?_
    refine xic_ge A (43) 69 29 (by decide +kernel) (fun h2 => ?_) (fun h2 => ?_)
    · rw [if_pos h2] at H
      refine xb A [(.aload_n 0, 1, 0, 0, .null), (.iconst 4, 1, 0, 0, .int 4), (.iload_n 1, 1, 0, 0, .null)] (pc' := 72) (ls' := [some (.ref 60), some (.int l1), some (.int l2)]) (st' := [.int l1, .int 4, .ref 60]) (g' := g) (by decide +kernel) rfl ?_
      obtain ⟨w2, e2, H⟩ := xbind H
      refine xcallV A (ix := 281) (nxt := 75) hrm hz [.int 4, .int l1] [] 1636 (c_X12_wrong_60 hS _ e2) ok_X12_wrong (by decide +kernel) rfl (fun r g1 hq => ?_)
      rw [hq.1, hq.2]
      show xW k S 0 0 75 [some (.ref 60), some (.int l1), some (.int l2)] [] w2
      refine xb A [(.iconst (-1), 1, 0, 0, .int (-1))] (pc' := 76) (ls' := [some (.ref 60), some (.int l1), some (.int l2)]) (st' := [.int (-1)]) (g' := w2) (by decide +kernel) rfl ?_
      obtain rfl := Option.some.inj H
      exact xret_i A hR hz (by decide +kernel) rfl ⟨rfl, rfl⟩
    · rw [if_neg h2] at H
      refine xb A [(.aload_n 0, 1, 0, 0, .null), (.getfield 40, 3, 60, 21, .ref 68), (.iload_n 2, 1, 0, 0, .null)] (pc' := 34) (ls' := [some (.ref 60), some (.int l1), some (.int l2)]) (st' := [.int l2, .ref 68]) (g' := g) (by decide +kernel) rfl ?_
      obtain ⟨h3, H⟩ := xg_elim H
      refine xlald A (nxt := 35) (by decide +kernel) (hS _ _ sh_68) h3 ?_
      show xW k S 0 0 35 [some (.ref 60), some (.int l1), some (.int l2)] [.long (g.2 68 l2.toNatClampNeg)] g
      refine xb A [(.aload_n 0, 1, 0, 0, .null), (.getfield 30, 3, 60, 8, .ref 66), (.iload_n 1, 1, 0, 0, .null)] (pc' := 40) (ls' := [some (.ref 60), some (.int l1), some (.int l2)]) (st' := [.int l1, .ref 66, .long (g.2 68 l2.toNatClampNeg)]) (g' := g) (by decide +kernel) rfl ?_
      obtain ⟨h4, H⟩ := xg_elim H
      refine xlald A (nxt := 41) (by decide +kernel) (hS _ _ sh_66) h4 ?_
      show xW k S 0 0 41 [some (.ref 60), some (.int l1), some (.int l2)] [.long (g.2 66 l1.toNatClampNeg), .long (g.2 68 l2.toNatClampNeg)] g
      refine xb A [(.lcmp, 1, 0, 0, .null)] (pc' := 42) (ls' := [some (.ref 60), some (.int l1), some (.int l2)]) (st' := [.int (lg_cmp (g.2 68 l2.toNatClampNeg) (g.2 66 l1.toNatClampNeg))]) (g' := g) (by decide +kernel) rfl ?_
      refine xif_ne A (21) 63 45 (by decide +kernel) (fun h5 => ?_) (fun h5 => ?_)
      · rw [if_neg h5] at H
        refine xb A [(.iinc 2 1, 3, 0, 0, .null)] (pc' := 66) (ls' := [some (.ref 60), some (.int l1), some (.int (l2 + 1))]) (st' := []) (g' := g) (by decide +kernel) rfl ?_
        refine xgoto A (-45) 21 (by decide +kernel) ?_
        exact ih _ _ _ H
      · rw [if_pos h5] at H
        refine xb A [(.aload_n 0, 1, 0, 0, .null), (.getfield 43, 3, 60, 22, .ref 69), (.iload_n 2, 1, 0, 0, .null)] (pc' := 50) (ls' := [some (.ref 60), some (.int l1), some (.int l2)]) (st' := [.int l2, .ref 69]) (g' := g) (by decide +kernel) rfl ?_
        obtain ⟨h6, H⟩ := xg_elim H
        refine xiald A (nxt := 51) (by decide +kernel) (hS _ _ sh_69) h6 ?_
        show xW k S 0 0 51 [some (.ref 60), some (.int l1), some (.int l2)] [.int (g.1 69 l2.toNatClampNeg)] g
        refine xb A [(.bipush 10, 2, 0, 0, .int 10)] (pc' := 53) (ls' := [some (.ref 60), some (.int l1), some (.int l2)]) (st' := [.int 10, .int (g.1 69 l2.toNatClampNeg)]) (g' := g) (by decide +kernel) rfl ?_
        refine xic_ge A (10) 63 56 (by decide +kernel) (fun h7 => ?_) (fun h7 => ?_)
        · rw [if_pos h7] at H
          refine xb A [(.iinc 2 1, 3, 0, 0, .null)] (pc' := 66) (ls' := [some (.ref 60), some (.int l1), some (.int (l2 + 1))]) (st' := []) (g' := g) (by decide +kernel) rfl ?_
          refine xgoto A (-45) 21 (by decide +kernel) ?_
          exact ih _ _ _ H
        · rw [if_neg h7] at H
          refine xb A [(.aload_n 0, 1, 0, 0, .null), (.getfield 43, 3, 60, 22, .ref 69), (.iload_n 2, 1, 0, 0, .null)] (pc' := 61) (ls' := [some (.ref 60), some (.int l1), some (.int l2)]) (st' := [.int l2, .ref 69]) (g' := g) (by decide +kernel) rfl ?_
          obtain ⟨h8, H⟩ := xg_elim H
          refine xiald A (nxt := 62) (by decide +kernel) (hS _ _ sh_69) h8 ?_
          show xW k S 0 0 62 [some (.ref 60), some (.int l1), some (.int l2)] [.int (g.1 69 l2.toNatClampNeg)] g
          obtain rfl := Option.some.inj H
          exact xret_i A hR hz (by decide +kernel) rfl ⟨rfl, rfl⟩
theorem fr_X12_known_60_21   : ∀ (n : Nat) (l1 : Int32) (l2 : Int32) (g : xG) (out : Int32 × xG), f_X12_known_60_21 n l1 l2 g = some out → xfrm fp_X12_known_60 g (out.2) := by
  intro n
  induction n with
  | zero => intro l1 l2 g out H; exact absurd H (by simp [f_X12_known_60_21])
  | succ n ih =>
    intro l1 l2 g out H
    have H : (if (g.1 60 20) ≤ l2 then
  (f_X12_wrong_60 4 l1 g).bind fun w2 =>
  some ((-1), w2)
else
  xg (¬ (l2 < 0 ∨ 13 ≤ l2.toNatClampNeg)) (
    xg (¬ (l1 < 0 ∨ 403 ≤ l1.toNatClampNeg)) (
      if (lg_cmp (g.2 68 l2.toNatClampNeg) (g.2 66 l1.toNatClampNeg)) = 0 then
        xg (¬ (l2 < 0 ∨ 13 ≤ l2.toNatClampNeg)) (
          if 10 ≤ (g.1 69 l2.toNatClampNeg) then
            f_X12_known_60_21 n l1 (l2 + 1) g
          else
            xg (¬ (l2 < 0 ∨ 13 ≤ l2.toNatClampNeg)) (
              some (g.1 69 l2.toNatClampNeg, g)))
      else
        f_X12_known_60_21 n l1 (l2 + 1) g))) = some out := H
    by_cases h2 : (g.1 60 20) ≤ l2
    · rw [if_pos h2] at H
      obtain ⟨w2, e2, H⟩ := xbind H
      have hf2 : xfrm fp_X12_known_60 g (w2) := xfrm.tr xfrm.rf (fr_X12_wrong_60 _ e2) rfl
      obtain rfl := Option.some.inj H
      exact hf2
    · rw [if_neg h2] at H
      obtain ⟨h3, H⟩ := xg_elim H
      obtain ⟨h4, H⟩ := xg_elim H
      by_cases h5 : (lg_cmp (g.2 68 l2.toNatClampNeg) (g.2 66 l1.toNatClampNeg)) = 0
      · rw [if_pos h5] at H
        obtain ⟨h6, H⟩ := xg_elim H
        by_cases h7 : 10 ≤ (g.1 69 l2.toNatClampNeg)
        · rw [if_pos h7] at H
          exact xfrm.tr xfrm.rf (ih _ _ _ _ H) rfl
        · rw [if_neg h7] at H
          obtain ⟨h8, H⟩ := xg_elim H
          obtain rfl := Option.some.inj H
          exact xfrm.rf
      · rw [if_neg h5] at H
        exact xfrm.tr xfrm.rf (ih _ _ _ _ H) rfl
set_option maxRecDepth 20000 in
theorem c_X12_known_60 {S : List xSh} (hS : xpf SH2 S) {g : xG}  (out : Int32 × xG) (H : f_X12_known_60  g = some out) : xC mX12_known 3 62 0 0 S [.ref 60] g S (fun r g' => r = some (.int out.1) ∧ g' = out.2) := by
  have H : ((f_X12_must_60 1 g).bind fun w1 =>
if (w1.1 60 13) ≤ 0 then
  f_X12_known_60_21 xN (g.1 60 11) 0 w1
else
  some ((-1), w1)) = some out := H
  refine xC.of 12 SH2 [some (.ref 60), none, none] hS (by decide +kernel) rfl (fun _ _ => Nat.le_of_ble_eq_true rfl) (fun _ _ => rfl) ?_
  intro k A hR hrm hz
  refine xb A [(.aload_n 0, 1, 0, 0, .null), (.getfield 200, 3, 60, 11, .int 0), (.istore_n 1, 1, 0, 0, .null), (.aload_n 0, 1, 0, 0, .null), (.iconst 1, 1, 0, 0, .int 1)] (pc' := 7) (ls' := [some (.ref 60), some (.int (g.1 60 11)), none]) (st' := [.int 1, .ref 60]) (g' := g) (by decide +kernel) rfl ?_
  obtain ⟨w1, e1, H⟩ := xbind H
  refine xcallV A (ix := 271) (nxt := 10) hrm hz [.int 1] [] 1632 (c_X12_must_60 hS _ e1) ok_X12_must (by decide +kernel) rfl (fun r g1 hq => ?_)
  rw [hq.1, hq.2]
  show xW k S 0 0 10 [some (.ref 60), some (.int (g.1 60 11)), none] [] w1
  refine xb A [(.aload_n 0, 1, 0, 0, .null), (.getfield 197, 3, 60, 13, .int 0)] (pc' := 14) (ls' := [some (.ref 60), some (.int (g.1 60 11)), none]) (st' := [.int (w1.1 60 13)]) (g' := w1) (by decide +kernel) rfl ?_
  refine xif_le A (5) 19 17 (by decide +kernel) (fun h1 => ?_) (fun h1 => ?_)
  · rw [if_pos h1] at H
    refine xb A [(.iconst 0, 1, 0, 0, .int 0), (.istore_n 2, 1, 0, 0, .null)] (pc' := 21) (ls' := [some (.ref 60), some (.int (g.1 60 11)), some (.int 0)]) (st' := []) (g' := w1) (by decide +kernel) rfl ?_
    exact t_X12_known_60_21 hS A hR hrm hz _ _ _ _ H
  · rw [if_neg h1] at H
    refine xb A [(.iconst (-1), 1, 0, 0, .int (-1))] (pc' := 18) (ls' := [some (.ref 60), some (.int (g.1 60 11)), none]) (st' := [.int (-1)]) (g' := w1) (by decide +kernel) rfl ?_
    obtain rfl := Option.some.inj H
    exact xret_i A hR hz (by decide +kernel) rfl ⟨rfl, rfl⟩
theorem fr_X12_known_60  {g : xG} (out : Int32 × xG) (H : f_X12_known_60  g = some out) : xfrm fp_X12_known_60 g (out.2) := by
  have H : ((f_X12_must_60 1 g).bind fun w1 =>
if (w1.1 60 13) ≤ 0 then
  f_X12_known_60_21 xN (g.1 60 11) 0 w1
else
  some ((-1), w1)) = some out := H
  obtain ⟨w1, e1, H⟩ := xbind H
  have hf1 : xfrm fp_X12_known_60 g (w1) := xfrm.tr xfrm.rf (fr_X12_must_60 _ e1) rfl
  by_cases h1 : (w1.1 60 13) ≤ 0
  · rw [if_pos h1] at H
    exact xfrm.tr hf1 (fr_X12_known_60_21 _ _ _ _ _ H) rfl
  · rw [if_neg h1] at H
    obtain rfl := Option.some.inj H
    exact hf1
def fp_X12_roomFor_60 : List (Nat × Option Nat) := [(60, some 11), (60, some 13), (60, some 14)]
def f_X12_roomFor_60 (p1 : Int32) (p2 : Int32) (g : xG) : Option (xG) :=
  if p1 = p2 then
    (f_X12_fail_60 2 g).bind fun w2 =>
    if (w2.1 60 13) = 0 then
      (f_X12_goesOn_60 w2).bind fun w3 =>
      some w3
    else
      some w2
  else
    if (g.1 60 13) = 0 then
      (f_X12_goesOn_60 g).bind fun w1 =>
      some w1
    else
      some g
set_option maxRecDepth 20000 in
theorem c_X12_roomFor_60 {S : List xSh} (hS : xpf SH2 S) {g : xG} {p1 : Int32} {p2 : Int32} (out : xG) (H : f_X12_roomFor_60 p1 p2 g = some out) : xC mX12_roomFor 2 41 0 0 S [.ref 60, .int p1, .int p2] g S (fun r g' => r = none ∧ g' = out) := by
  have H : (if p1 = p2 then
  (f_X12_fail_60 2 g).bind fun w2 =>
  if (w2.1 60 13) = 0 then
    (f_X12_goesOn_60 w2).bind fun w3 =>
    some w3
  else
    some w2
else
  if (g.1 60 13) = 0 then
    (f_X12_goesOn_60 g).bind fun w1 =>
    some w1
  else
    some g) = some out := H
  refine xC.of 12 SH2 [some (.ref 60), some (.int p1), some (.int p2)] hS (by decide +kernel) rfl (fun _ _ => Nat.le_of_ble_eq_true rfl) (fun _ _ => rfl) ?_
  intro k A hR hrm hz
  refine xb A [(.iload_n 1, 1, 0, 0, .null), (.iload_n 2, 1, 0, 0, .null)] (pc' := 2) (ls' := [some (.ref 60), some (.int p1), some (.int p2)]) (st' := [.int p2, .int p1]) (g' := g) (by decide +kernel) rfl ?_
  refine xic_ne A (8) 10 5 (by decide +kernel) (fun h1 => ?_) (fun h1 => ?_)
  · rw [if_neg h1] at H
    refine xb A [(.aload_n 0, 1, 0, 0, .null), (.getfield 197, 3, 60, 13, .int 0)] (pc' := 14) (ls' := [some (.ref 60), some (.int p1), some (.int p2)]) (st' := [.int (g.1 60 13)]) (g' := g) (by decide +kernel) rfl ?_
    refine xif_ne A (7) 21 17 (by decide +kernel) (fun h2 => ?_) (fun h2 => ?_)
    · rw [if_neg h2] at H
      obtain rfl := Option.some.inj H
      exact xret_v A hR hz (by decide +kernel) ⟨rfl, rfl⟩
    · rw [if_pos h2] at H
      refine xb A [(.aload_n 0, 1, 0, 0, .null)] (pc' := 18) (ls' := [some (.ref 60), some (.int p1), some (.int p2)]) (st' := [.ref 60]) (g' := g) (by decide +kernel) rfl ?_
      obtain ⟨w1, e1, H⟩ := xbind H
      refine xcallV A (ix := 218) (nxt := 21) hrm hz [] [] 1624 (c_X12_goesOn_60 hS _ e1) ok_X12_goesOn (by decide +kernel) rfl (fun r g1 hq => ?_)
      rw [hq.1, hq.2]
      show xW k S 0 0 21 [some (.ref 60), some (.int p1), some (.int p2)] [] w1
      obtain rfl := Option.some.inj H
      exact xret_v A hR hz (by decide +kernel) ⟨rfl, rfl⟩
  · rw [if_pos h1] at H
    refine xb A [(.aload_n 0, 1, 0, 0, .null), (.iconst 2, 1, 0, 0, .int 2)] (pc' := 7) (ls' := [some (.ref 60), some (.int p1), some (.int p2)]) (st' := [.int 2, .ref 60]) (g' := g) (by decide +kernel) rfl ?_
    obtain ⟨w2, e2, H⟩ := xbind H
    refine xcallV A (ix := 212) (nxt := 10) hrm hz [.int 2] [] 1620 (c_X12_fail_60 hS _ e2) ok_X12_fail (by decide +kernel) rfl (fun r g1 hq => ?_)
    rw [hq.1, hq.2]
    show xW k S 0 0 10 [some (.ref 60), some (.int p1), some (.int p2)] [] w2
    refine xb A [(.aload_n 0, 1, 0, 0, .null), (.getfield 197, 3, 60, 13, .int 0)] (pc' := 14) (ls' := [some (.ref 60), some (.int p1), some (.int p2)]) (st' := [.int (w2.1 60 13)]) (g' := w2) (by decide +kernel) rfl ?_
    refine xif_ne A (7) 21 17 (by decide +kernel) (fun h3 => ?_) (fun h3 => ?_)
    · rw [if_neg h3] at H
      obtain rfl := Option.some.inj H
      exact xret_v A hR hz (by decide +kernel) ⟨rfl, rfl⟩
    · rw [if_pos h3] at H
      refine xb A [(.aload_n 0, 1, 0, 0, .null)] (pc' := 18) (ls' := [some (.ref 60), some (.int p1), some (.int p2)]) (st' := [.ref 60]) (g' := w2) (by decide +kernel) rfl ?_
      obtain ⟨w3, e3, H⟩ := xbind H
      refine xcallV A (ix := 218) (nxt := 21) hrm hz [] [] 1624 (c_X12_goesOn_60 hS _ e3) ok_X12_goesOn (by decide +kernel) rfl (fun r g1 hq => ?_)
      rw [hq.1, hq.2]
      show xW k S 0 0 21 [some (.ref 60), some (.int p1), some (.int p2)] [] w3
      obtain rfl := Option.some.inj H
      exact xret_v A hR hz (by decide +kernel) ⟨rfl, rfl⟩
theorem fr_X12_roomFor_60 {p1 : Int32} {p2 : Int32} {g : xG} (out : xG) (H : f_X12_roomFor_60 p1 p2 g = some out) : xfrm fp_X12_roomFor_60 g (out) := by
  have H : (if p1 = p2 then
  (f_X12_fail_60 2 g).bind fun w2 =>
  if (w2.1 60 13) = 0 then
    (f_X12_goesOn_60 w2).bind fun w3 =>
    some w3
  else
    some w2
else
  if (g.1 60 13) = 0 then
    (f_X12_goesOn_60 g).bind fun w1 =>
    some w1
  else
    some g) = some out := H
  by_cases h1 : p1 = p2
  · rw [if_pos h1] at H
    obtain ⟨w2, e2, H⟩ := xbind H
    have hf2 : xfrm fp_X12_roomFor_60 g (w2) := xfrm.tr xfrm.rf (fr_X12_fail_60 _ e2) rfl
    by_cases h3 : (w2.1 60 13) = 0
    · rw [if_pos h3] at H
      obtain ⟨w3, e3, H⟩ := xbind H
      have hf3 : xfrm fp_X12_roomFor_60 g (w3) := xfrm.tr hf2 (fr_X12_goesOn_60 _ e3) rfl
      obtain rfl := Option.some.inj H
      exact hf3
    · rw [if_neg h3] at H
      obtain rfl := Option.some.inj H
      exact hf2
  · rw [if_neg h1] at H
    by_cases h2 : (g.1 60 13) = 0
    · rw [if_pos h2] at H
      obtain ⟨w1, e1, H⟩ := xbind H
      have hf1 : xfrm fp_X12_roomFor_60 g (w1) := xfrm.tr xfrm.rf (fr_X12_goesOn_60 _ e1) rfl
      obtain rfl := Option.some.inj H
      exact hf1
    · rw [if_neg h2] at H
      obtain rfl := Option.some.inj H
      exact xfrm.rf
def fp_X12_named_60 : List (Nat × Option Nat) := [(60, some 11), (60, some 13), (60, some 14), (60, some 15), (60, some 16)]
def f_X12_named_60_12  : Nat → Int32 → Int32 → xG → Option (Int32 × xG)
  | 0, _, _, _ => none
  | n + 1, l1, l2, g =>
    if (g.1 60 20) ≤ l2 then
      some (l1, g)
    else
      if (g.1 60 13) = 0 then
        xg (¬ (l2 < 0 ∨ 13 ≤ l2.toNatClampNeg)) (
          xg (¬ (l1 < 0 ∨ 403 ≤ l1.toNatClampNeg)) (
            if (lg_cmp (g.2 68 l2.toNatClampNeg) (g.2 66 l1.toNatClampNeg)) = 0 then
              (f_X12_wrong_60 3 l1 g).bind fun w2 =>
              f_X12_named_60_12 n l1 (l2 + 1) w2
            else
              f_X12_named_60_12 n l1 (l2 + 1) g))
      else
        some (l1, g)
def f_X12_named_60  (g : xG) : Option (Int32 × xG) :=
  (f_X12_must_60 1 g).bind fun w1 =>
  f_X12_named_60_12 xN (g.1 60 11) 0 w1
set_option maxRecDepth 20000 in
theorem t_X12_named_60_12 {k : xK} {S : List xSh} {out : Int32 × xG} (hS : xpf SH2 S) (A : xAt k mX12_named.2.1 12 SH2 S) (hR : xRet k 0 0 S (fun r g' => r = some (.int out.1) ∧ g' = out.2) mX12_named.2.2.2) (hrm : xrm k = { frames := 3, cells := 0, slots := 0, locals := 62 }) (hz : xhs k = xb0 k + S.length)   : ∀ (n : Nat) (l1 : Int32) (l2 : Int32) (g : xG), f_X12_named_60_12 n l1 l2 g = some out → xW k S 0 0 12 [some (.ref 60), some (.int l1), some (.int l2)] [] g := by
  intro n
  induction n with
  | zero => intro l1 l2 g H; exact absurd H (by simp [f_X12_named_60_12])
  | succ n ih =>
    intro l1 l2 g H
    have H : (if (g.1 60 20) ≤ l2 then
  some (l1, g)
else
  if (g.1 60 13) = 0 then
    xg (¬ (l2 < 0 ∨ 13 ≤ l2.toNatClampNeg)) (
      xg (¬ (l1 < 0 ∨ 403 ≤ l1.toNatClampNeg)) (
        if (lg_cmp (g.2 68 l2.toNatClampNeg) (g.2 66 l1.toNatClampNeg)) = 0 then
          (f_X12_wrong_60 3 l1 g).bind fun w2 =>
          f_X12_named_60_12 n l1 (l2 + 1) w2
        else
          f_X12_named_60_12 n l1 (l2 + 1) g))
  else
    some (l1, g)) = some out := H
    refine xb A [(.iload_n 2, 1, 0, 0, .null), (.aload_n 0, 1, 0, 0, .null), (.getfield 233, 3, 60, 20, .int 0)] (pc' := 17) (ls' := [some (.ref 60), some (.int l1), some (.int l2)]) (st' := [.int (g.1 60 20), .int l2]) (g' := g) (by decide +kernel) rfl ?_
    refine xic_ge A (38) 55 20 (by decide +kernel) (fun h1 => ?_) (fun h1 => ?_)
    · rw [if_pos h1] at H
      refine xb A [(.iload_n 1, 1, 0, 0, .null)] (pc' := 56) (ls' := [some (.ref 60), some (.int l1), some (.int l2)]) (st' := [.int l1]) (g' := g) (by decide +kernel) rfl ?_
      obtain rfl := Option.some.inj H
      exact xret_i A hR hz (by decide +kernel) rfl ⟨rfl, rfl⟩
    · rw [if_neg h1] at H
      refine xb A [(.aload_n 0, 1, 0, 0, .null), (.getfield 197, 3, 60, 13, .int 0)] (pc' := 24) (ls' := [some (.ref 60), some (.int l1), some (.int l2)]) (st' := [.int (g.1 60 13)]) (g' := g) (by decide +kernel) rfl ?_
      refine xif_ne A (31) 55 27 (by decide +kernel) (fun h2 => ?_) (fun h2 => ?_)
      · rw [if_neg h2] at H
        refine xb A [(.iload_n 1, 1, 0, 0, .null)] (pc' := 56) (ls' := [some (.ref 60), some (.int l1), some (.int l2)]) (st' := [.int l1]) (g' := g) (by decide +kernel) rfl ?_
        obtain rfl := Option.some.inj H
        exact xret_i A hR hz (by decide +kernel) rfl ⟨rfl, rfl⟩
      · rw [if_pos h2] at H
        refine xb A [(.aload_n 0, 1, 0, 0, .null), (.getfield 40, 3, 60, 21, .ref 68), (.iload_n 2, 1, 0, 0, .null)] (pc' := 32) (ls' := [some (.ref 60), some (.int l1), some (.int l2)]) (st' := [.int l2, .ref 68]) (g' := g) (by decide +kernel) rfl ?_
        obtain ⟨h3, H⟩ := xg_elim H
        refine xlald A (nxt := 33) (by decide +kernel) (hS _ _ sh_68) h3 ?_
        show xW k S 0 0 33 [some (.ref 60), some (.int l1), some (.int l2)] [.long (g.2 68 l2.toNatClampNeg)] g
        refine xb A [(.aload_n 0, 1, 0, 0, .null), (.getfield 30, 3, 60, 8, .ref 66), (.iload_n 1, 1, 0, 0, .null)] (pc' := 38) (ls' := [some (.ref 60), some (.int l1), some (.int l2)]) (st' := [.int l1, .ref 66, .long (g.2 68 l2.toNatClampNeg)]) (g' := g) (by decide +kernel) rfl ?_
        obtain ⟨h4, H⟩ := xg_elim H
        refine xlald A (nxt := 39) (by decide +kernel) (hS _ _ sh_66) h4 ?_
        show xW k S 0 0 39 [some (.ref 60), some (.int l1), some (.int l2)] [.long (g.2 66 l1.toNatClampNeg), .long (g.2 68 l2.toNatClampNeg)] g
        refine xb A [(.lcmp, 1, 0, 0, .null)] (pc' := 40) (ls' := [some (.ref 60), some (.int l1), some (.int l2)]) (st' := [.int (lg_cmp (g.2 68 l2.toNatClampNeg) (g.2 66 l1.toNatClampNeg))]) (g' := g) (by decide +kernel) rfl ?_
        refine xif_ne A (9) 49 43 (by decide +kernel) (fun h5 => ?_) (fun h5 => ?_)
        · rw [if_neg h5] at H
          refine xb A [(.iinc 2 1, 3, 0, 0, .null)] (pc' := 52) (ls' := [some (.ref 60), some (.int l1), some (.int (l2 + 1))]) (st' := []) (g' := g) (by decide +kernel) rfl ?_
          refine xgoto A (-40) 12 (by decide +kernel) ?_
          exact ih _ _ _ H
        · rw [if_pos h5] at H
          refine xb A [(.aload_n 0, 1, 0, 0, .null), (.iconst 3, 1, 0, 0, .int 3), (.iload_n 1, 1, 0, 0, .null)] (pc' := 46) (ls' := [some (.ref 60), some (.int l1), some (.int l2)]) (st' := [.int l1, .int 3, .ref 60]) (g' := g) (by decide +kernel) rfl ?_
          obtain ⟨w2, e2, H⟩ := xbind H
          refine xcallV A (ix := 281) (nxt := 49) hrm hz [.int 3, .int l1] [] 1636 (c_X12_wrong_60 hS _ e2) ok_X12_wrong (by decide +kernel) rfl (fun r g1 hq => ?_)
          rw [hq.1, hq.2]
          show xW k S 0 0 49 [some (.ref 60), some (.int l1), some (.int l2)] [] w2
          refine xb A [(.iinc 2 1, 3, 0, 0, .null)] (pc' := 52) (ls' := [some (.ref 60), some (.int l1), some (.int (l2 + 1))]) (st' := []) (g' := w2) (by decide +kernel) rfl ?_
          refine xgoto A (-40) 12 (by decide +kernel) ?_
          exact ih _ _ _ H
theorem fr_X12_named_60_12   : ∀ (n : Nat) (l1 : Int32) (l2 : Int32) (g : xG) (out : Int32 × xG), f_X12_named_60_12 n l1 l2 g = some out → xfrm fp_X12_named_60 g (out.2) := by
  intro n
  induction n with
  | zero => intro l1 l2 g out H; exact absurd H (by simp [f_X12_named_60_12])
  | succ n ih =>
    intro l1 l2 g out H
    have H : (if (g.1 60 20) ≤ l2 then
  some (l1, g)
else
  if (g.1 60 13) = 0 then
    xg (¬ (l2 < 0 ∨ 13 ≤ l2.toNatClampNeg)) (
      xg (¬ (l1 < 0 ∨ 403 ≤ l1.toNatClampNeg)) (
        if (lg_cmp (g.2 68 l2.toNatClampNeg) (g.2 66 l1.toNatClampNeg)) = 0 then
          (f_X12_wrong_60 3 l1 g).bind fun w2 =>
          f_X12_named_60_12 n l1 (l2 + 1) w2
        else
          f_X12_named_60_12 n l1 (l2 + 1) g))
  else
    some (l1, g)) = some out := H
    by_cases h1 : (g.1 60 20) ≤ l2
    · rw [if_pos h1] at H
      obtain rfl := Option.some.inj H
      exact xfrm.rf
    · rw [if_neg h1] at H
      by_cases h2 : (g.1 60 13) = 0
      · rw [if_pos h2] at H
        obtain ⟨h3, H⟩ := xg_elim H
        obtain ⟨h4, H⟩ := xg_elim H
        by_cases h5 : (lg_cmp (g.2 68 l2.toNatClampNeg) (g.2 66 l1.toNatClampNeg)) = 0
        · rw [if_pos h5] at H
          obtain ⟨w2, e2, H⟩ := xbind H
          have hf2 : xfrm fp_X12_named_60 g (w2) := xfrm.tr xfrm.rf (fr_X12_wrong_60 _ e2) rfl
          exact xfrm.tr hf2 (ih _ _ _ _ H) rfl
        · rw [if_neg h5] at H
          exact xfrm.tr xfrm.rf (ih _ _ _ _ H) rfl
      · rw [if_neg h2] at H
        obtain rfl := Option.some.inj H
        exact xfrm.rf
set_option maxRecDepth 20000 in
theorem c_X12_named_60 {S : List xSh} (hS : xpf SH2 S) {g : xG}  (out : Int32 × xG) (H : f_X12_named_60  g = some out) : xC mX12_named 3 62 0 0 S [.ref 60] g S (fun r g' => r = some (.int out.1) ∧ g' = out.2) := by
  have H : ((f_X12_must_60 1 g).bind fun w1 =>
f_X12_named_60_12 xN (g.1 60 11) 0 w1) = some out := H
  refine xC.of 12 SH2 [some (.ref 60), none, none] hS (by decide +kernel) rfl (fun _ _ => Nat.le_of_ble_eq_true rfl) (fun _ _ => rfl) ?_
  intro k A hR hrm hz
  refine xb A [(.aload_n 0, 1, 0, 0, .null), (.getfield 200, 3, 60, 11, .int 0), (.istore_n 1, 1, 0, 0, .null), (.aload_n 0, 1, 0, 0, .null), (.iconst 1, 1, 0, 0, .int 1)] (pc' := 7) (ls' := [some (.ref 60), some (.int (g.1 60 11)), none]) (st' := [.int 1, .ref 60]) (g' := g) (by decide +kernel) rfl ?_
  obtain ⟨w1, e1, H⟩ := xbind H
  refine xcallV A (ix := 271) (nxt := 10) hrm hz [.int 1] [] 1632 (c_X12_must_60 hS _ e1) ok_X12_must (by decide +kernel) rfl (fun r g1 hq => ?_)
  rw [hq.1, hq.2]
  show xW k S 0 0 10 [some (.ref 60), some (.int (g.1 60 11)), none] [] w1
  refine xb A [(.iconst 0, 1, 0, 0, .int 0), (.istore_n 2, 1, 0, 0, .null)] (pc' := 12) (ls' := [some (.ref 60), some (.int (g.1 60 11)), some (.int 0)]) (st' := []) (g' := w1) (by decide +kernel) rfl ?_
  exact t_X12_named_60_12 hS A hR hrm hz _ _ _ _ H
theorem fr_X12_named_60  {g : xG} (out : Int32 × xG) (H : f_X12_named_60  g = some out) : xfrm fp_X12_named_60 g (out.2) := by
  have H : ((f_X12_must_60 1 g).bind fun w1 =>
f_X12_named_60_12 xN (g.1 60 11) 0 w1) = some out := H
  obtain ⟨w1, e1, H⟩ := xbind H
  have hf1 : xfrm fp_X12_named_60 g (w1) := xfrm.tr xfrm.rf (fr_X12_must_60 _ e1) rfl
  exact xfrm.tr hf1 (fr_X12_named_60_12 _ _ _ _ _ H) rfl
def fp_X12_endsName_60 : List (Nat × Option Nat) := [(60, some 11), (60, some 13), (60, some 14), (60, some 20), (68, none), (69, none)]
def f_X12_endsName_60 (p1 : Int32) (p2 : Int32) (g : xG) : Option (xG) :=
  (f_X12_must_60 4 g).bind fun w1 =>
  if (w1.1 60 13) ≤ 0 then
    xg (¬ (p1 < 0 ∨ 403 ≤ p1.toNatClampNeg)) (
      xg (¬ ((w1.1 60 20) < 0 ∨ 13 ≤ (w1.1 60 20).toNatClampNeg)) (
        xg (¬ ((w1.1 60 20) < 0 ∨ 13 ≤ (w1.1 60 20).toNatClampNeg)) (
          some (xupd (xupd w1.1 69 (w1.1 60 20).toNatClampNeg p2) 60 20 ((w1.1 60 20) + 1), xupdL w1.2 68 (w1.1 60 20).toNatClampNeg (w1.2 66 p1.toNatClampNeg)))))
  else
    some w1
set_option maxRecDepth 20000 in
theorem c_X12_endsName_60 {S : List xSh} (hS : xpf SH2 S) {g : xG} {p1 : Int32} {p2 : Int32} (out : xG) (H : f_X12_endsName_60 p1 p2 g = some out) : xC mX12_endsName 3 62 0 0 S [.ref 60, .int p1, .int p2] g S (fun r g' => r = none ∧ g' = out) := by
  have H : ((f_X12_must_60 4 g).bind fun w1 =>
if (w1.1 60 13) ≤ 0 then
  xg (¬ (p1 < 0 ∨ 403 ≤ p1.toNatClampNeg)) (
    xg (¬ ((w1.1 60 20) < 0 ∨ 13 ≤ (w1.1 60 20).toNatClampNeg)) (
      xg (¬ ((w1.1 60 20) < 0 ∨ 13 ≤ (w1.1 60 20).toNatClampNeg)) (
        some (xupd (xupd w1.1 69 (w1.1 60 20).toNatClampNeg p2) 60 20 ((w1.1 60 20) + 1), xupdL w1.2 68 (w1.1 60 20).toNatClampNeg (w1.2 66 p1.toNatClampNeg)))))
else
  some w1) = some out := H
  refine xC.of 12 SH2 [some (.ref 60), some (.int p1), some (.int p2)] hS (by decide +kernel) rfl (fun _ _ => Nat.le_of_ble_eq_true rfl) (fun _ _ => rfl) ?_
  intro k A hR hrm hz
  refine xb A [(.aload_n 0, 1, 0, 0, .null), (.iconst 4, 1, 0, 0, .int 4)] (pc' := 2) (ls' := [some (.ref 60), some (.int p1), some (.int p2)]) (st' := [.int 4, .ref 60]) (g' := g) (by decide +kernel) rfl ?_
  obtain ⟨w1, e1, H⟩ := xbind H
  refine xcallV A (ix := 271) (nxt := 5) hrm hz [.int 4] [] 1632 (c_X12_must_60 hS _ e1) ok_X12_must (by decide +kernel) rfl (fun r g1 hq => ?_)
  rw [hq.1, hq.2]
  show xW k S 0 0 5 [some (.ref 60), some (.int p1), some (.int p2)] [] w1
  refine xb A [(.aload_n 0, 1, 0, 0, .null), (.getfield 197, 3, 60, 13, .int 0)] (pc' := 9) (ls' := [some (.ref 60), some (.int p1), some (.int p2)]) (st' := [.int (w1.1 60 13)]) (g' := w1) (by decide +kernel) rfl ?_
  refine xif_le A (4) 13 12 (by decide +kernel) (fun h1 => ?_) (fun h1 => ?_)
  · rw [if_pos h1] at H
    refine xb A [(.aload_n 0, 1, 0, 0, .null), (.getfield 40, 3, 60, 21, .ref 68), (.aload_n 0, 1, 0, 0, .null), (.getfield 233, 3, 60, 20, .int 0), (.aload_n 0, 1, 0, 0, .null), (.getfield 30, 3, 60, 8, .ref 66), (.iload_n 1, 1, 0, 0, .null)] (pc' := 26) (ls' := [some (.ref 60), some (.int p1), some (.int p2)]) (st' := [.int p1, .ref 66, .int (w1.1 60 20), .ref 68]) (g' := w1) (by decide +kernel) rfl ?_
    obtain ⟨h2, H⟩ := xg_elim H
    refine xlald A (nxt := 27) (by decide +kernel) (hS _ _ sh_66) h2 ?_
    show xW k S 0 0 27 [some (.ref 60), some (.int p1), some (.int p2)] [.long (w1.2 66 p1.toNatClampNeg), .int (w1.1 60 20), .ref 68] w1
    obtain ⟨h3, H⟩ := xg_elim H
    refine xlast A (nxt := 28) (by decide +kernel) (hS _ _ sh_68) h3 ?_
    show xW k S 0 0 28 [some (.ref 60), some (.int p1), some (.int p2)] [] (w1.1, xupdL w1.2 68 (w1.1 60 20).toNatClampNeg (w1.2 66 p1.toNatClampNeg))
    refine xb A [(.aload_n 0, 1, 0, 0, .null), (.getfield 43, 3, 60, 22, .ref 69), (.aload_n 0, 1, 0, 0, .null), (.getfield 233, 3, 60, 20, .int 0), (.iload_n 2, 1, 0, 0, .null)] (pc' := 37) (ls' := [some (.ref 60), some (.int p1), some (.int p2)]) (st' := [.int p2, .int (w1.1 60 20), .ref 69]) (g' := (w1.1, xupdL w1.2 68 (w1.1 60 20).toNatClampNeg (w1.2 66 p1.toNatClampNeg))) (by decide +kernel) rfl ?_
    obtain ⟨h4, H⟩ := xg_elim H
    refine xiast A (nxt := 38) (by decide +kernel) (hS _ _ sh_69) h4 ?_
    show xW k S 0 0 38 [some (.ref 60), some (.int p1), some (.int p2)] [] (xupd w1.1 69 (w1.1 60 20).toNatClampNeg p2, xupdL w1.2 68 (w1.1 60 20).toNatClampNeg (w1.2 66 p1.toNatClampNeg))
    refine xb A [(.aload_n 0, 1, 0, 0, .null), (.dup, 1, 0, 0, .null), (.getfield 233, 3, 60, 20, .int 0), (.iconst 1, 1, 0, 0, .int 1), (.iadd, 1, 0, 0, .null), (.putfield 233, 3, 60, 20, .int 0)] (pc' := 48) (ls' := [some (.ref 60), some (.int p1), some (.int p2)]) (st' := []) (g' := (xupd (xupd w1.1 69 (w1.1 60 20).toNatClampNeg p2) 60 20 ((w1.1 60 20) + 1), xupdL w1.2 68 (w1.1 60 20).toNatClampNeg (w1.2 66 p1.toNatClampNeg))) (by decide +kernel) rfl ?_
    obtain rfl := Option.some.inj H
    exact xret_v A hR hz (by decide +kernel) ⟨rfl, rfl⟩
  · rw [if_neg h1] at H
    obtain rfl := Option.some.inj H
    exact xret_v A hR hz (by decide +kernel) ⟨rfl, rfl⟩
theorem fr_X12_endsName_60 {p1 : Int32} {p2 : Int32} {g : xG} (out : xG) (H : f_X12_endsName_60 p1 p2 g = some out) : xfrm fp_X12_endsName_60 g (out) := by
  have H : ((f_X12_must_60 4 g).bind fun w1 =>
if (w1.1 60 13) ≤ 0 then
  xg (¬ (p1 < 0 ∨ 403 ≤ p1.toNatClampNeg)) (
    xg (¬ ((w1.1 60 20) < 0 ∨ 13 ≤ (w1.1 60 20).toNatClampNeg)) (
      xg (¬ ((w1.1 60 20) < 0 ∨ 13 ≤ (w1.1 60 20).toNatClampNeg)) (
        some (xupd (xupd w1.1 69 (w1.1 60 20).toNatClampNeg p2) 60 20 ((w1.1 60 20) + 1), xupdL w1.2 68 (w1.1 60 20).toNatClampNeg (w1.2 66 p1.toNatClampNeg)))))
else
  some w1) = some out := H
  obtain ⟨w1, e1, H⟩ := xbind H
  have hf1 : xfrm fp_X12_endsName_60 g (w1) := xfrm.tr xfrm.rf (fr_X12_must_60 _ e1) rfl
  by_cases h1 : (w1.1 60 13) ≤ 0
  · rw [if_pos h1] at H
    obtain ⟨h2, H⟩ := xg_elim H
    obtain ⟨h3, H⟩ := xg_elim H
    have hf2 : xfrm fp_X12_endsName_60 g ((w1.1, xupdL w1.2 68 (w1.1 60 20).toNatClampNeg (w1.2 66 p1.toNatClampNeg))) := xfrm.ul hf1 rfl
    obtain ⟨h4, H⟩ := xg_elim H
    have hf3 : xfrm fp_X12_endsName_60 g ((xupd w1.1 69 (w1.1 60 20).toNatClampNeg p2, xupdL w1.2 68 (w1.1 60 20).toNatClampNeg (w1.2 66 p1.toNatClampNeg))) := xfrm.ua hf2 rfl
    have hf4 : xfrm fp_X12_endsName_60 g ((xupd (xupd w1.1 69 (w1.1 60 20).toNatClampNeg p2) 60 20 ((w1.1 60 20) + 1), xupdL w1.2 68 (w1.1 60 20).toNatClampNeg (w1.2 66 p1.toNatClampNeg))) := xfrm.up hf3 rfl
    obtain rfl := Option.some.inj H
    exact hf4
  · rw [if_neg h1] at H
    obtain rfl := Option.some.inj H
    exact hf1
def fp_X12_tellPerson_60 : List (Nat × Option Nat) := [(60, some 11), (60, some 13), (60, some 14), (60, some 15), (60, some 16), (60, some 20), (68, none), (69, none), (75, none), (76, none), (77, none), (78, none)]
def f_X12_tellPerson_60  (g : xG) : Option (xG) :=
  xg (¬ ((g.1 60 19) < 0 ∨ 2 ≤ (g.1 60 19).toNatClampNeg)) (
    (f_X12_named_60 g).bind fun w1 =>
    (f_X12_bounded_60 0 9 w1.2).bind fun w2 =>
    xg (¬ (((6 * (g.1 60 19)) + (g.1 75 (g.1 60 19).toNatClampNeg)) < 0 ∨ 12 ≤ ((6 * (g.1 60 19)) + (g.1 75 (g.1 60 19).toNatClampNeg)).toNatClampNeg)) (
      (f_X12_known_60 (xupd w2.2.1 76 ((6 * (g.1 60 19)) + (g.1 75 (g.1 60 19).toNatClampNeg)).toNatClampNeg w2.1, w2.2.2)).bind fun w3 =>
      xg (¬ (((6 * (g.1 60 19)) + (g.1 75 (g.1 60 19).toNatClampNeg)) < 0 ∨ 12 ≤ ((6 * (g.1 60 19)) + (g.1 75 (g.1 60 19).toNatClampNeg)).toNatClampNeg)) (
        (f_X12_known_60 (xupd w3.2.1 77 ((6 * (g.1 60 19)) + (g.1 75 (g.1 60 19).toNatClampNeg)).toNatClampNeg w3.1, w3.2.2)).bind fun w4 =>
        xg (¬ (((6 * (g.1 60 19)) + (g.1 75 (g.1 60 19).toNatClampNeg)) < 0 ∨ 12 ≤ ((6 * (g.1 60 19)) + (g.1 75 (g.1 60 19).toNatClampNeg)).toNatClampNeg)) (
          (f_X12_endsName_60 w1.1 10 (xupd w4.2.1 78 ((6 * (g.1 60 19)) + (g.1 75 (g.1 60 19).toNatClampNeg)).toNatClampNeg w4.1, w4.2.2)).bind fun w5 =>
          if (w5.1 60 13) = 0 then
            xg (¬ ((w5.1 60 19) < 0 ∨ 2 ≤ (w5.1 60 19).toNatClampNeg)) (
              xg (¬ ((w5.1 60 19) < 0 ∨ 2 ≤ (w5.1 60 19).toNatClampNeg)) (
                some (xupd w5.1 75 (w5.1 60 19).toNatClampNeg ((w5.1 75 (w5.1 60 19).toNatClampNeg) + 1), w5.2)))
          else
            some w5))))
set_option maxRecDepth 20000 in
theorem c_X12_tellPerson_60 {S : List xSh} (hS : xpf SH2 S) {g : xG}  (out : xG) (H : f_X12_tellPerson_60  g = some out) : xC mX12_tellPerson 4 84 0 0 S [.ref 60] g S (fun r g' => r = none ∧ g' = out) := by
  have H : (xg (¬ ((g.1 60 19) < 0 ∨ 2 ≤ (g.1 60 19).toNatClampNeg)) (
  (f_X12_named_60 g).bind fun w1 =>
  (f_X12_bounded_60 0 9 w1.2).bind fun w2 =>
  xg (¬ (((6 * (g.1 60 19)) + (g.1 75 (g.1 60 19).toNatClampNeg)) < 0 ∨ 12 ≤ ((6 * (g.1 60 19)) + (g.1 75 (g.1 60 19).toNatClampNeg)).toNatClampNeg)) (
    (f_X12_known_60 (xupd w2.2.1 76 ((6 * (g.1 60 19)) + (g.1 75 (g.1 60 19).toNatClampNeg)).toNatClampNeg w2.1, w2.2.2)).bind fun w3 =>
    xg (¬ (((6 * (g.1 60 19)) + (g.1 75 (g.1 60 19).toNatClampNeg)) < 0 ∨ 12 ≤ ((6 * (g.1 60 19)) + (g.1 75 (g.1 60 19).toNatClampNeg)).toNatClampNeg)) (
      (f_X12_known_60 (xupd w3.2.1 77 ((6 * (g.1 60 19)) + (g.1 75 (g.1 60 19).toNatClampNeg)).toNatClampNeg w3.1, w3.2.2)).bind fun w4 =>
      xg (¬ (((6 * (g.1 60 19)) + (g.1 75 (g.1 60 19).toNatClampNeg)) < 0 ∨ 12 ≤ ((6 * (g.1 60 19)) + (g.1 75 (g.1 60 19).toNatClampNeg)).toNatClampNeg)) (
        (f_X12_endsName_60 w1.1 10 (xupd w4.2.1 78 ((6 * (g.1 60 19)) + (g.1 75 (g.1 60 19).toNatClampNeg)).toNatClampNeg w4.1, w4.2.2)).bind fun w5 =>
        if (w5.1 60 13) = 0 then
          xg (¬ ((w5.1 60 19) < 0 ∨ 2 ≤ (w5.1 60 19).toNatClampNeg)) (
            xg (¬ ((w5.1 60 19) < 0 ∨ 2 ≤ (w5.1 60 19).toNatClampNeg)) (
              some (xupd w5.1 75 (w5.1 60 19).toNatClampNeg ((w5.1 75 (w5.1 60 19).toNatClampNeg) + 1), w5.2)))
        else
          some w5))))) = some out := H
  refine xC.of 12 SH2 [some (.ref 60), none, none] hS (by decide +kernel) rfl (fun _ _ => Nat.le_of_ble_eq_true rfl) (fun _ _ => rfl) ?_
  intro k A hR hrm hz
  refine xb A [(.bipush 6, 2, 0, 0, .int 6), (.aload_n 0, 1, 0, 0, .null), (.getfield 230, 3, 60, 19, .int 0), (.imul, 1, 0, 0, .null), (.aload_n 0, 1, 0, 0, .null), (.getfield 61, 3, 60, 28, .ref 75), (.aload_n 0, 1, 0, 0, .null), (.getfield 230, 3, 60, 19, .int 0)] (pc' := 15) (ls' := [some (.ref 60), none, none]) (st' := [.int (g.1 60 19), .ref 75, .int (6 * (g.1 60 19))]) (g' := g) (by decide +kernel) rfl ?_
  obtain ⟨h1, H⟩ := xg_elim H
  refine xiald A (nxt := 16) (by decide +kernel) (hS _ _ sh_75) h1 ?_
  show xW k S 0 0 16 [some (.ref 60), none, none] [.int (g.1 75 (g.1 60 19).toNatClampNeg), .int (6 * (g.1 60 19))] g
  refine xb A [(.iadd, 1, 0, 0, .null), (.istore_n 1, 1, 0, 0, .null), (.aload_n 0, 1, 0, 0, .null)] (pc' := 19) (ls' := [some (.ref 60), some (.int ((6 * (g.1 60 19)) + (g.1 75 (g.1 60 19).toNatClampNeg))), none]) (st' := [.ref 60]) (g' := g) (by decide +kernel) rfl ?_
  obtain ⟨w1, e1, H⟩ := xbind H
  refine xcallV A (ix := 255) (nxt := 22) hrm hz [] [] 1628 (c_X12_named_60 hS _ e1) ok_X12_named (by decide +kernel) rfl (fun r g1 hq => ?_)
  rw [hq.1, hq.2]
  show xW k S 0 0 22 [some (.ref 60), some (.int ((6 * (g.1 60 19)) + (g.1 75 (g.1 60 19).toNatClampNeg))), none] [.int w1.1] w1.2
  refine xb A [(.istore_n 2, 1, 0, 0, .null), (.aload_n 0, 1, 0, 0, .null), (.getfield 64, 3, 60, 29, .ref 76), (.iload_n 1, 1, 0, 0, .null), (.aload_n 0, 1, 0, 0, .null), (.iconst 0, 1, 0, 0, .int 0), (.bipush 9, 2, 0, 0, .int 9)] (pc' := 32) (ls' := [some (.ref 60), some (.int ((6 * (g.1 60 19)) + (g.1 75 (g.1 60 19).toNatClampNeg))), some (.int w1.1)]) (st' := [.int 9, .int 0, .ref 60, .int ((6 * (g.1 60 19)) + (g.1 75 (g.1 60 19).toNatClampNeg)), .ref 76]) (g' := w1.2) (by decide +kernel) rfl ?_
  obtain ⟨w2, e2, H⟩ := xbind H
  refine xcallV A (ix := 274) (nxt := 35) hrm hz [.int 0, .int 9] [.int ((6 * (g.1 60 19)) + (g.1 75 (g.1 60 19).toNatClampNeg)), .ref 76] 1652 (c_X12_bounded_60 hS _ e2) ok_X12_bounded (by decide +kernel) rfl (fun r g1 hq => ?_)
  rw [hq.1, hq.2]
  show xW k S 0 0 35 [some (.ref 60), some (.int ((6 * (g.1 60 19)) + (g.1 75 (g.1 60 19).toNatClampNeg))), some (.int w1.1)] [.int w2.1, .int ((6 * (g.1 60 19)) + (g.1 75 (g.1 60 19).toNatClampNeg)), .ref 76] w2.2
  obtain ⟨h2, H⟩ := xg_elim H
  refine xiast A (nxt := 36) (by decide +kernel) (hS _ _ sh_76) h2 ?_
  show xW k S 0 0 36 [some (.ref 60), some (.int ((6 * (g.1 60 19)) + (g.1 75 (g.1 60 19).toNatClampNeg))), some (.int w1.1)] [] (xupd w2.2.1 76 ((6 * (g.1 60 19)) + (g.1 75 (g.1 60 19).toNatClampNeg)).toNatClampNeg w2.1, w2.2.2)
  refine xb A [(.aload_n 0, 1, 0, 0, .null), (.getfield 67, 3, 60, 30, .ref 77), (.iload_n 1, 1, 0, 0, .null), (.aload_n 0, 1, 0, 0, .null)] (pc' := 42) (ls' := [some (.ref 60), some (.int ((6 * (g.1 60 19)) + (g.1 75 (g.1 60 19).toNatClampNeg))), some (.int w1.1)]) (st' := [.ref 60, .int ((6 * (g.1 60 19)) + (g.1 75 (g.1 60 19).toNatClampNeg)), .ref 77]) (g' := (xupd w2.2.1 76 ((6 * (g.1 60 19)) + (g.1 75 (g.1 60 19).toNatClampNeg)).toNatClampNeg w2.1, w2.2.2)) (by decide +kernel) rfl ?_
  obtain ⟨w3, e3, H⟩ := xbind H
  refine xcallV A (ix := 268) (nxt := 45) hrm hz [] [.int ((6 * (g.1 60 19)) + (g.1 75 (g.1 60 19).toNatClampNeg)), .ref 77] 1648 (c_X12_known_60 hS _ e3) ok_X12_known (by decide +kernel) rfl (fun r g1 hq => ?_)
  rw [hq.1, hq.2]
  show xW k S 0 0 45 [some (.ref 60), some (.int ((6 * (g.1 60 19)) + (g.1 75 (g.1 60 19).toNatClampNeg))), some (.int w1.1)] [.int w3.1, .int ((6 * (g.1 60 19)) + (g.1 75 (g.1 60 19).toNatClampNeg)), .ref 77] w3.2
  obtain ⟨h3, H⟩ := xg_elim H
  refine xiast A (nxt := 46) (by decide +kernel) (hS _ _ sh_77) h3 ?_
  show xW k S 0 0 46 [some (.ref 60), some (.int ((6 * (g.1 60 19)) + (g.1 75 (g.1 60 19).toNatClampNeg))), some (.int w1.1)] [] (xupd w3.2.1 77 ((6 * (g.1 60 19)) + (g.1 75 (g.1 60 19).toNatClampNeg)).toNatClampNeg w3.1, w3.2.2)
  refine xb A [(.aload_n 0, 1, 0, 0, .null), (.getfield 70, 3, 60, 31, .ref 78), (.iload_n 1, 1, 0, 0, .null), (.aload_n 0, 1, 0, 0, .null)] (pc' := 52) (ls' := [some (.ref 60), some (.int ((6 * (g.1 60 19)) + (g.1 75 (g.1 60 19).toNatClampNeg))), some (.int w1.1)]) (st' := [.ref 60, .int ((6 * (g.1 60 19)) + (g.1 75 (g.1 60 19).toNatClampNeg)), .ref 78]) (g' := (xupd w3.2.1 77 ((6 * (g.1 60 19)) + (g.1 75 (g.1 60 19).toNatClampNeg)).toNatClampNeg w3.1, w3.2.2)) (by decide +kernel) rfl ?_
  obtain ⟨w4, e4, H⟩ := xbind H
  refine xcallV A (ix := 268) (nxt := 55) hrm hz [] [.int ((6 * (g.1 60 19)) + (g.1 75 (g.1 60 19).toNatClampNeg)), .ref 78] 1648 (c_X12_known_60 hS _ e4) ok_X12_known (by decide +kernel) rfl (fun r g1 hq => ?_)
  rw [hq.1, hq.2]
  show xW k S 0 0 55 [some (.ref 60), some (.int ((6 * (g.1 60 19)) + (g.1 75 (g.1 60 19).toNatClampNeg))), some (.int w1.1)] [.int w4.1, .int ((6 * (g.1 60 19)) + (g.1 75 (g.1 60 19).toNatClampNeg)), .ref 78] w4.2
  obtain ⟨h4, H⟩ := xg_elim H
  refine xiast A (nxt := 56) (by decide +kernel) (hS _ _ sh_78) h4 ?_
  show xW k S 0 0 56 [some (.ref 60), some (.int ((6 * (g.1 60 19)) + (g.1 75 (g.1 60 19).toNatClampNeg))), some (.int w1.1)] [] (xupd w4.2.1 78 ((6 * (g.1 60 19)) + (g.1 75 (g.1 60 19).toNatClampNeg)).toNatClampNeg w4.1, w4.2.2)
  refine xb A [(.aload_n 0, 1, 0, 0, .null), (.iload_n 2, 1, 0, 0, .null), (.bipush 10, 2, 0, 0, .int 10)] (pc' := 60) (ls' := [some (.ref 60), some (.int ((6 * (g.1 60 19)) + (g.1 75 (g.1 60 19).toNatClampNeg))), some (.int w1.1)]) (st' := [.int 10, .int w1.1, .ref 60]) (g' := (xupd w4.2.1 78 ((6 * (g.1 60 19)) + (g.1 75 (g.1 60 19).toNatClampNeg)).toNatClampNeg w4.1, w4.2.2)) (by decide +kernel) rfl ?_
  obtain ⟨w5, e5, H⟩ := xbind H
  refine xcallV A (ix := 259) (nxt := 63) hrm hz [.int w1.1, .int 10] [] 1640 (c_X12_endsName_60 hS _ e5) ok_X12_endsName (by decide +kernel) rfl (fun r g1 hq => ?_)
  rw [hq.1, hq.2]
  show xW k S 0 0 63 [some (.ref 60), some (.int ((6 * (g.1 60 19)) + (g.1 75 (g.1 60 19).toNatClampNeg))), some (.int w1.1)] [] w5
  refine xb A [(.aload_n 0, 1, 0, 0, .null), (.getfield 197, 3, 60, 13, .int 0)] (pc' := 67) (ls' := [some (.ref 60), some (.int ((6 * (g.1 60 19)) + (g.1 75 (g.1 60 19).toNatClampNeg))), some (.int w1.1)]) (st' := [.int (w5.1 60 13)]) (g' := w5) (by decide +kernel) rfl ?_
  refine xif_ne A (16) 83 70 (by decide +kernel) (fun h5 => ?_) (fun h5 => ?_)
  · rw [if_neg h5] at H
    obtain rfl := Option.some.inj H
    exact xret_v A hR hz (by decide +kernel) ⟨rfl, rfl⟩
  · rw [if_pos h5] at H
    refine xb A [(.aload_n 0, 1, 0, 0, .null), (.getfield 61, 3, 60, 28, .ref 75), (.aload_n 0, 1, 0, 0, .null), (.getfield 230, 3, 60, 19, .int 0), (.dup2, 1, 0, 0, .null)] (pc' := 79) (ls' := [some (.ref 60), some (.int ((6 * (g.1 60 19)) + (g.1 75 (g.1 60 19).toNatClampNeg))), some (.int w1.1)]) (st' := [.int (w5.1 60 19), .ref 75, .int (w5.1 60 19), .ref 75]) (g' := w5) (by decide +kernel) rfl ?_
    obtain ⟨h6, H⟩ := xg_elim H
    refine xiald A (nxt := 80) (by decide +kernel) (hS _ _ sh_75) h6 ?_
    show xW k S 0 0 80 [some (.ref 60), some (.int ((6 * (g.1 60 19)) + (g.1 75 (g.1 60 19).toNatClampNeg))), some (.int w1.1)] [.int (w5.1 75 (w5.1 60 19).toNatClampNeg), .int (w5.1 60 19), .ref 75] w5
    refine xb A [(.iconst 1, 1, 0, 0, .int 1), (.iadd, 1, 0, 0, .null)] (pc' := 82) (ls' := [some (.ref 60), some (.int ((6 * (g.1 60 19)) + (g.1 75 (g.1 60 19).toNatClampNeg))), some (.int w1.1)]) (st' := [.int ((w5.1 75 (w5.1 60 19).toNatClampNeg) + 1), .int (w5.1 60 19), .ref 75]) (g' := w5) (by decide +kernel) rfl ?_
    obtain ⟨h7, H⟩ := xg_elim H
    refine xiast A (nxt := 83) (by decide +kernel) (hS _ _ sh_75) h7 ?_
    show xW k S 0 0 83 [some (.ref 60), some (.int ((6 * (g.1 60 19)) + (g.1 75 (g.1 60 19).toNatClampNeg))), some (.int w1.1)] [] (xupd w5.1 75 (w5.1 60 19).toNatClampNeg ((w5.1 75 (w5.1 60 19).toNatClampNeg) + 1), w5.2)
    obtain rfl := Option.some.inj H
    exact xret_v A hR hz (by decide +kernel) ⟨rfl, rfl⟩
theorem fr_X12_tellPerson_60  {g : xG} (out : xG) (H : f_X12_tellPerson_60  g = some out) : xfrm fp_X12_tellPerson_60 g (out) := by
  have H : (xg (¬ ((g.1 60 19) < 0 ∨ 2 ≤ (g.1 60 19).toNatClampNeg)) (
  (f_X12_named_60 g).bind fun w1 =>
  (f_X12_bounded_60 0 9 w1.2).bind fun w2 =>
  xg (¬ (((6 * (g.1 60 19)) + (g.1 75 (g.1 60 19).toNatClampNeg)) < 0 ∨ 12 ≤ ((6 * (g.1 60 19)) + (g.1 75 (g.1 60 19).toNatClampNeg)).toNatClampNeg)) (
    (f_X12_known_60 (xupd w2.2.1 76 ((6 * (g.1 60 19)) + (g.1 75 (g.1 60 19).toNatClampNeg)).toNatClampNeg w2.1, w2.2.2)).bind fun w3 =>
    xg (¬ (((6 * (g.1 60 19)) + (g.1 75 (g.1 60 19).toNatClampNeg)) < 0 ∨ 12 ≤ ((6 * (g.1 60 19)) + (g.1 75 (g.1 60 19).toNatClampNeg)).toNatClampNeg)) (
      (f_X12_known_60 (xupd w3.2.1 77 ((6 * (g.1 60 19)) + (g.1 75 (g.1 60 19).toNatClampNeg)).toNatClampNeg w3.1, w3.2.2)).bind fun w4 =>
      xg (¬ (((6 * (g.1 60 19)) + (g.1 75 (g.1 60 19).toNatClampNeg)) < 0 ∨ 12 ≤ ((6 * (g.1 60 19)) + (g.1 75 (g.1 60 19).toNatClampNeg)).toNatClampNeg)) (
        (f_X12_endsName_60 w1.1 10 (xupd w4.2.1 78 ((6 * (g.1 60 19)) + (g.1 75 (g.1 60 19).toNatClampNeg)).toNatClampNeg w4.1, w4.2.2)).bind fun w5 =>
        if (w5.1 60 13) = 0 then
          xg (¬ ((w5.1 60 19) < 0 ∨ 2 ≤ (w5.1 60 19).toNatClampNeg)) (
            xg (¬ ((w5.1 60 19) < 0 ∨ 2 ≤ (w5.1 60 19).toNatClampNeg)) (
              some (xupd w5.1 75 (w5.1 60 19).toNatClampNeg ((w5.1 75 (w5.1 60 19).toNatClampNeg) + 1), w5.2)))
        else
          some w5))))) = some out := H
  obtain ⟨h1, H⟩ := xg_elim H
  obtain ⟨w1, e1, H⟩ := xbind H
  have hf1 : xfrm fp_X12_tellPerson_60 g (w1.2) := xfrm.tr xfrm.rf (fr_X12_named_60 _ e1) rfl
  obtain ⟨w2, e2, H⟩ := xbind H
  have hf2 : xfrm fp_X12_tellPerson_60 g (w2.2) := xfrm.tr hf1 (fr_X12_bounded_60 _ e2) rfl
  obtain ⟨h2, H⟩ := xg_elim H
  have hf3 : xfrm fp_X12_tellPerson_60 g ((xupd w2.2.1 76 ((6 * (g.1 60 19)) + (g.1 75 (g.1 60 19).toNatClampNeg)).toNatClampNeg w2.1, w2.2.2)) := xfrm.ua hf2 rfl
  obtain ⟨w3, e3, H⟩ := xbind H
  have hf4 : xfrm fp_X12_tellPerson_60 g (w3.2) := xfrm.tr hf3 (fr_X12_known_60 _ e3) rfl
  obtain ⟨h3, H⟩ := xg_elim H
  have hf5 : xfrm fp_X12_tellPerson_60 g ((xupd w3.2.1 77 ((6 * (g.1 60 19)) + (g.1 75 (g.1 60 19).toNatClampNeg)).toNatClampNeg w3.1, w3.2.2)) := xfrm.ua hf4 rfl
  obtain ⟨w4, e4, H⟩ := xbind H
  have hf6 : xfrm fp_X12_tellPerson_60 g (w4.2) := xfrm.tr hf5 (fr_X12_known_60 _ e4) rfl
  obtain ⟨h4, H⟩ := xg_elim H
  have hf7 : xfrm fp_X12_tellPerson_60 g ((xupd w4.2.1 78 ((6 * (g.1 60 19)) + (g.1 75 (g.1 60 19).toNatClampNeg)).toNatClampNeg w4.1, w4.2.2)) := xfrm.ua hf6 rfl
  obtain ⟨w5, e5, H⟩ := xbind H
  have hf8 : xfrm fp_X12_tellPerson_60 g (w5) := xfrm.tr hf7 (fr_X12_endsName_60 _ e5) rfl
  by_cases h5 : (w5.1 60 13) = 0
  · rw [if_pos h5] at H
    obtain ⟨h6, H⟩ := xg_elim H
    obtain ⟨h7, H⟩ := xg_elim H
    have hf9 : xfrm fp_X12_tellPerson_60 g ((xupd w5.1 75 (w5.1 60 19).toNatClampNeg ((w5.1 75 (w5.1 60 19).toNatClampNeg) + 1), w5.2)) := xfrm.ua hf8 rfl
    obtain rfl := Option.some.inj H
    exact hf9
  · rw [if_neg h5] at H
    obtain rfl := Option.some.inj H
    exact hf8
def fp_X12_tellRoad_60 : List (Nat × Option Nat) := [(60, some 11), (60, some 13), (60, some 14), (60, some 15), (60, some 16), (71, none), (72, none), (73, none), (74, none)]
def f_X12_tellRoad_60_80  (l1 : Int32) (g : xG) : Option (xG) :=
  (f_X12_bounded_60 1 99 g).bind fun w3 =>
  xg (¬ (l1 < 0 ∨ 20 ≤ l1.toNatClampNeg)) (
    (f_X12_must_60 4 (xupd w3.2.1 74 l1.toNatClampNeg w3.1, w3.2.2)).bind fun w4 =>
    if (w4.1 60 13) = 0 then
      xg (¬ ((w4.1 60 19) < 0 ∨ 2 ≤ (w4.1 60 19).toNatClampNeg)) (
        xg (¬ ((w4.1 60 19) < 0 ∨ 2 ≤ (w4.1 60 19).toNatClampNeg)) (
          some (xupd w4.1 71 (w4.1 60 19).toNatClampNeg ((w4.1 71 (w4.1 60 19).toNatClampNeg) + 1), w4.2)))
    else
      some w4)
def f_X12_tellRoad_60  (g : xG) : Option (xG) :=
  xg (¬ ((g.1 60 19) < 0 ∨ 2 ≤ (g.1 60 19).toNatClampNeg)) (
    (f_X12_known_60 g).bind fun w1 =>
    xg (¬ (((10 * (g.1 60 19)) + (g.1 71 (g.1 60 19).toNatClampNeg)) < 0 ∨ 20 ≤ ((10 * (g.1 60 19)) + (g.1 71 (g.1 60 19).toNatClampNeg)).toNatClampNeg)) (
      (f_X12_known_60 (xupd w1.2.1 72 ((10 * (g.1 60 19)) + (g.1 71 (g.1 60 19).toNatClampNeg)).toNatClampNeg w1.1, w1.2.2)).bind fun w2 =>
      xg (¬ (((10 * (g.1 60 19)) + (g.1 71 (g.1 60 19).toNatClampNeg)) < 0 ∨ 20 ≤ ((10 * (g.1 60 19)) + (g.1 71 (g.1 60 19).toNatClampNeg)).toNatClampNeg)) (
        if (w2.2.1 60 13) = 0 then
          xg (¬ (((10 * (g.1 60 19)) + (g.1 71 (g.1 60 19).toNatClampNeg)) < 0 ∨ 20 ≤ ((10 * (g.1 60 19)) + (g.1 71 (g.1 60 19).toNatClampNeg)).toNatClampNeg)) (
            if (w2.2.1 72 ((10 * (g.1 60 19)) + (g.1 71 (g.1 60 19).toNatClampNeg)).toNatClampNeg) < 0 then
              f_X12_tellRoad_60_80 ((10 * (g.1 60 19)) + (g.1 71 (g.1 60 19).toNatClampNeg)) (xupd w2.2.1 73 ((10 * (g.1 60 19)) + (g.1 71 (g.1 60 19).toNatClampNeg)).toNatClampNeg w2.1, w2.2.2)
            else
              xg (¬ (((10 * (g.1 60 19)) + (g.1 71 (g.1 60 19).toNatClampNeg)) < 0 ∨ 20 ≤ ((10 * (g.1 60 19)) + (g.1 71 (g.1 60 19).toNatClampNeg)).toNatClampNeg)) (
                xg (¬ (((10 * (g.1 60 19)) + (g.1 71 (g.1 60 19).toNatClampNeg)) < 0 ∨ 20 ≤ ((10 * (g.1 60 19)) + (g.1 71 (g.1 60 19).toNatClampNeg)).toNatClampNeg)) (
                  if (w2.2.1 72 ((10 * (g.1 60 19)) + (g.1 71 (g.1 60 19).toNatClampNeg)).toNatClampNeg) = ((xupd w2.2.1 73 ((10 * (g.1 60 19)) + (g.1 71 (g.1 60 19).toNatClampNeg)).toNatClampNeg w2.1) 73 ((10 * (g.1 60 19)) + (g.1 71 (g.1 60 19).toNatClampNeg)).toNatClampNeg) then
                    (f_X12_wrong_60 3 (w1.2.1 60 11) (xupd w2.2.1 73 ((10 * (g.1 60 19)) + (g.1 71 (g.1 60 19).toNatClampNeg)).toNatClampNeg w2.1, w2.2.2)).bind fun w5 =>
                    f_X12_tellRoad_60_80 ((10 * (g.1 60 19)) + (g.1 71 (g.1 60 19).toNatClampNeg)) w5
                  else
                    f_X12_tellRoad_60_80 ((10 * (g.1 60 19)) + (g.1 71 (g.1 60 19).toNatClampNeg)) (xupd w2.2.1 73 ((10 * (g.1 60 19)) + (g.1 71 (g.1 60 19).toNatClampNeg)).toNatClampNeg w2.1, w2.2.2))))
        else
          f_X12_tellRoad_60_80 ((10 * (g.1 60 19)) + (g.1 71 (g.1 60 19).toNatClampNeg)) (xupd w2.2.1 73 ((10 * (g.1 60 19)) + (g.1 71 (g.1 60 19).toNatClampNeg)).toNatClampNeg w2.1, w2.2.2))))
set_option maxRecDepth 20000 in
theorem t_X12_tellRoad_60_80 {k : xK} {S : List xSh} {out : xG} (hS : xpf SH2 S) (A : xAt k mX12_tellRoad.2.1 12 SH2 S) (hR : xRet k 0 0 S (fun r g' => r = none ∧ g' = out) mX12_tellRoad.2.2.2) (hrm : xrm k = { frames := 4, cells := 0, slots := 0, locals := 84 }) (hz : xhs k = xb0 k + S.length)   : ∀ (l1 : Int32) (g : xG), f_X12_tellRoad_60_80 l1 g = some out → xW k S 0 0 80 [some (.ref 60), some (.int l1), none] [] g := by
  intro l1 g H
  have H : ((f_X12_bounded_60 1 99 g).bind fun w3 =>
xg (¬ (l1 < 0 ∨ 20 ≤ l1.toNatClampNeg)) (
  (f_X12_must_60 4 (xupd w3.2.1 74 l1.toNatClampNeg w3.1, w3.2.2)).bind fun w4 =>
  if (w4.1 60 13) = 0 then
    xg (¬ ((w4.1 60 19) < 0 ∨ 2 ≤ (w4.1 60 19).toNatClampNeg)) (
      xg (¬ ((w4.1 60 19) < 0 ∨ 2 ≤ (w4.1 60 19).toNatClampNeg)) (
        some (xupd w4.1 71 (w4.1 60 19).toNatClampNeg ((w4.1 71 (w4.1 60 19).toNatClampNeg) + 1), w4.2)))
  else
    some w4)) = some out := H
  refine xb A [(.aload_n 0, 1, 0, 0, .null), (.getfield 58, 3, 60, 27, .ref 74), (.iload_n 1, 1, 0, 0, .null), (.aload_n 0, 1, 0, 0, .null), (.iconst 1, 1, 0, 0, .int 1), (.bipush 99, 2, 0, 0, .int 99)] (pc' := 89) (ls' := [some (.ref 60), some (.int l1), none]) (st' := [.int 99, .int 1, .ref 60, .int l1, .ref 74]) (g' := g) (by decide +kernel) rfl ?_
  obtain ⟨w3, e3, H⟩ := xbind H
  refine xcallV A (ix := 274) (nxt := 92) hrm hz [.int 1, .int 99] [.int l1, .ref 74] 1652 (c_X12_bounded_60 hS _ e3) ok_X12_bounded (by decide +kernel) rfl (fun r g1 hq => ?_)
  rw [hq.1, hq.2]
  show xW k S 0 0 92 [some (.ref 60), some (.int l1), none] [.int w3.1, .int l1, .ref 74] w3.2
  obtain ⟨h5, H⟩ := xg_elim H
  refine xiast A (nxt := 93) (by decide +kernel) (hS _ _ sh_74) h5 ?_
  show xW k S 0 0 93 [some (.ref 60), some (.int l1), none] [] (xupd w3.2.1 74 l1.toNatClampNeg w3.1, w3.2.2)
  refine xb A [(.aload_n 0, 1, 0, 0, .null), (.iconst 4, 1, 0, 0, .int 4)] (pc' := 95) (ls' := [some (.ref 60), some (.int l1), none]) (st' := [.int 4, .ref 60]) (g' := (xupd w3.2.1 74 l1.toNatClampNeg w3.1, w3.2.2)) (by decide +kernel) rfl ?_
  obtain ⟨w4, e4, H⟩ := xbind H
  refine xcallV A (ix := 271) (nxt := 98) hrm hz [.int 4] [] 1632 (c_X12_must_60 hS _ e4) ok_X12_must (by decide +kernel) rfl (fun r g1 hq => ?_)
  rw [hq.1, hq.2]
  show xW k S 0 0 98 [some (.ref 60), some (.int l1), none] [] w4
  refine xb A [(.aload_n 0, 1, 0, 0, .null), (.getfield 197, 3, 60, 13, .int 0)] (pc' := 102) (ls' := [some (.ref 60), some (.int l1), none]) (st' := [.int (w4.1 60 13)]) (g' := w4) (by decide +kernel) rfl ?_
  refine xif_ne A (16) 118 105 (by decide +kernel) (fun h6 => ?_) (fun h6 => ?_)
  · rw [if_neg h6] at H
    obtain rfl := Option.some.inj H
    exact xret_v A hR hz (by decide +kernel) ⟨rfl, rfl⟩
  · rw [if_pos h6] at H
    refine xb A [(.aload_n 0, 1, 0, 0, .null), (.getfield 49, 3, 60, 24, .ref 71), (.aload_n 0, 1, 0, 0, .null), (.getfield 230, 3, 60, 19, .int 0), (.dup2, 1, 0, 0, .null)] (pc' := 114) (ls' := [some (.ref 60), some (.int l1), none]) (st' := [.int (w4.1 60 19), .ref 71, .int (w4.1 60 19), .ref 71]) (g' := w4) (by decide +kernel) rfl ?_
    obtain ⟨h7, H⟩ := xg_elim H
    refine xiald A (nxt := 115) (by decide +kernel) (hS _ _ sh_71) h7 ?_
    show xW k S 0 0 115 [some (.ref 60), some (.int l1), none] [.int (w4.1 71 (w4.1 60 19).toNatClampNeg), .int (w4.1 60 19), .ref 71] w4
    refine xb A [(.iconst 1, 1, 0, 0, .int 1), (.iadd, 1, 0, 0, .null)] (pc' := 117) (ls' := [some (.ref 60), some (.int l1), none]) (st' := [.int ((w4.1 71 (w4.1 60 19).toNatClampNeg) + 1), .int (w4.1 60 19), .ref 71]) (g' := w4) (by decide +kernel) rfl ?_
    obtain ⟨h8, H⟩ := xg_elim H
    refine xiast A (nxt := 118) (by decide +kernel) (hS _ _ sh_71) h8 ?_
    show xW k S 0 0 118 [some (.ref 60), some (.int l1), none] [] (xupd w4.1 71 (w4.1 60 19).toNatClampNeg ((w4.1 71 (w4.1 60 19).toNatClampNeg) + 1), w4.2)
    obtain rfl := Option.some.inj H
    exact xret_v A hR hz (by decide +kernel) ⟨rfl, rfl⟩
theorem fr_X12_tellRoad_60_80   : ∀ (l1 : Int32) (g : xG) (out : xG), f_X12_tellRoad_60_80 l1 g = some out → xfrm fp_X12_tellRoad_60 g (out) := by
  intro l1 g out H
  have H : ((f_X12_bounded_60 1 99 g).bind fun w3 =>
xg (¬ (l1 < 0 ∨ 20 ≤ l1.toNatClampNeg)) (
  (f_X12_must_60 4 (xupd w3.2.1 74 l1.toNatClampNeg w3.1, w3.2.2)).bind fun w4 =>
  if (w4.1 60 13) = 0 then
    xg (¬ ((w4.1 60 19) < 0 ∨ 2 ≤ (w4.1 60 19).toNatClampNeg)) (
      xg (¬ ((w4.1 60 19) < 0 ∨ 2 ≤ (w4.1 60 19).toNatClampNeg)) (
        some (xupd w4.1 71 (w4.1 60 19).toNatClampNeg ((w4.1 71 (w4.1 60 19).toNatClampNeg) + 1), w4.2)))
  else
    some w4)) = some out := H
  obtain ⟨w3, e3, H⟩ := xbind H
  have hf5 : xfrm fp_X12_tellRoad_60 g (w3.2) := xfrm.tr xfrm.rf (fr_X12_bounded_60 _ e3) rfl
  obtain ⟨h5, H⟩ := xg_elim H
  have hf6 : xfrm fp_X12_tellRoad_60 g ((xupd w3.2.1 74 l1.toNatClampNeg w3.1, w3.2.2)) := xfrm.ua hf5 rfl
  obtain ⟨w4, e4, H⟩ := xbind H
  have hf7 : xfrm fp_X12_tellRoad_60 g (w4) := xfrm.tr hf6 (fr_X12_must_60 _ e4) rfl
  by_cases h6 : (w4.1 60 13) = 0
  · rw [if_pos h6] at H
    obtain ⟨h7, H⟩ := xg_elim H
    obtain ⟨h8, H⟩ := xg_elim H
    have hf8 : xfrm fp_X12_tellRoad_60 g ((xupd w4.1 71 (w4.1 60 19).toNatClampNeg ((w4.1 71 (w4.1 60 19).toNatClampNeg) + 1), w4.2)) := xfrm.ua hf7 rfl
    obtain rfl := Option.some.inj H
    exact hf8
  · rw [if_neg h6] at H
    obtain rfl := Option.some.inj H
    exact hf7
set_option maxRecDepth 20000 in
theorem c_X12_tellRoad_60 {S : List xSh} (hS : xpf SH2 S) {g : xG}  (out : xG) (H : f_X12_tellRoad_60  g = some out) : xC mX12_tellRoad 4 84 0 0 S [.ref 60] g S (fun r g' => r = none ∧ g' = out) := by
  have H : (xg (¬ ((g.1 60 19) < 0 ∨ 2 ≤ (g.1 60 19).toNatClampNeg)) (
  (f_X12_known_60 g).bind fun w1 =>
  xg (¬ (((10 * (g.1 60 19)) + (g.1 71 (g.1 60 19).toNatClampNeg)) < 0 ∨ 20 ≤ ((10 * (g.1 60 19)) + (g.1 71 (g.1 60 19).toNatClampNeg)).toNatClampNeg)) (
    (f_X12_known_60 (xupd w1.2.1 72 ((10 * (g.1 60 19)) + (g.1 71 (g.1 60 19).toNatClampNeg)).toNatClampNeg w1.1, w1.2.2)).bind fun w2 =>
    xg (¬ (((10 * (g.1 60 19)) + (g.1 71 (g.1 60 19).toNatClampNeg)) < 0 ∨ 20 ≤ ((10 * (g.1 60 19)) + (g.1 71 (g.1 60 19).toNatClampNeg)).toNatClampNeg)) (
      if (w2.2.1 60 13) = 0 then
        xg (¬ (((10 * (g.1 60 19)) + (g.1 71 (g.1 60 19).toNatClampNeg)) < 0 ∨ 20 ≤ ((10 * (g.1 60 19)) + (g.1 71 (g.1 60 19).toNatClampNeg)).toNatClampNeg)) (
          if (w2.2.1 72 ((10 * (g.1 60 19)) + (g.1 71 (g.1 60 19).toNatClampNeg)).toNatClampNeg) < 0 then
            f_X12_tellRoad_60_80 ((10 * (g.1 60 19)) + (g.1 71 (g.1 60 19).toNatClampNeg)) (xupd w2.2.1 73 ((10 * (g.1 60 19)) + (g.1 71 (g.1 60 19).toNatClampNeg)).toNatClampNeg w2.1, w2.2.2)
          else
            xg (¬ (((10 * (g.1 60 19)) + (g.1 71 (g.1 60 19).toNatClampNeg)) < 0 ∨ 20 ≤ ((10 * (g.1 60 19)) + (g.1 71 (g.1 60 19).toNatClampNeg)).toNatClampNeg)) (
              xg (¬ (((10 * (g.1 60 19)) + (g.1 71 (g.1 60 19).toNatClampNeg)) < 0 ∨ 20 ≤ ((10 * (g.1 60 19)) + (g.1 71 (g.1 60 19).toNatClampNeg)).toNatClampNeg)) (
                if (w2.2.1 72 ((10 * (g.1 60 19)) + (g.1 71 (g.1 60 19).toNatClampNeg)).toNatClampNeg) = ((xupd w2.2.1 73 ((10 * (g.1 60 19)) + (g.1 71 (g.1 60 19).toNatClampNeg)).toNatClampNeg w2.1) 73 ((10 * (g.1 60 19)) + (g.1 71 (g.1 60 19).toNatClampNeg)).toNatClampNeg) then
                  (f_X12_wrong_60 3 (w1.2.1 60 11) (xupd w2.2.1 73 ((10 * (g.1 60 19)) + (g.1 71 (g.1 60 19).toNatClampNeg)).toNatClampNeg w2.1, w2.2.2)).bind fun w5 =>
                  f_X12_tellRoad_60_80 ((10 * (g.1 60 19)) + (g.1 71 (g.1 60 19).toNatClampNeg)) w5
                else
                  f_X12_tellRoad_60_80 ((10 * (g.1 60 19)) + (g.1 71 (g.1 60 19).toNatClampNeg)) (xupd w2.2.1 73 ((10 * (g.1 60 19)) + (g.1 71 (g.1 60 19).toNatClampNeg)).toNatClampNeg w2.1, w2.2.2))))
      else
        f_X12_tellRoad_60_80 ((10 * (g.1 60 19)) + (g.1 71 (g.1 60 19).toNatClampNeg)) (xupd w2.2.1 73 ((10 * (g.1 60 19)) + (g.1 71 (g.1 60 19).toNatClampNeg)).toNatClampNeg w2.1, w2.2.2))))) = some out := H
  refine xC.of 12 SH2 [some (.ref 60), none, none] hS (by decide +kernel) rfl (fun _ _ => Nat.le_of_ble_eq_true rfl) (fun _ _ => rfl) ?_
  intro k A hR hrm hz
  refine xb A [(.bipush 10, 2, 0, 0, .int 10), (.aload_n 0, 1, 0, 0, .null), (.getfield 230, 3, 60, 19, .int 0), (.imul, 1, 0, 0, .null), (.aload_n 0, 1, 0, 0, .null), (.getfield 49, 3, 60, 24, .ref 71), (.aload_n 0, 1, 0, 0, .null), (.getfield 230, 3, 60, 19, .int 0)] (pc' := 15) (ls' := [some (.ref 60), none, none]) (st' := [.int (g.1 60 19), .ref 71, .int (10 * (g.1 60 19))]) (g' := g) (by decide +kernel) rfl ?_
  obtain ⟨h1, H⟩ := xg_elim H
  refine xiald A (nxt := 16) (by decide +kernel) (hS _ _ sh_71) h1 ?_
  show xW k S 0 0 16 [some (.ref 60), none, none] [.int (g.1 71 (g.1 60 19).toNatClampNeg), .int (10 * (g.1 60 19))] g
  refine xb A [(.iadd, 1, 0, 0, .null), (.istore_n 1, 1, 0, 0, .null), (.aload_n 0, 1, 0, 0, .null), (.getfield 52, 3, 60, 25, .ref 72), (.iload_n 1, 1, 0, 0, .null), (.aload_n 0, 1, 0, 0, .null)] (pc' := 24) (ls' := [some (.ref 60), some (.int ((10 * (g.1 60 19)) + (g.1 71 (g.1 60 19).toNatClampNeg))), none]) (st' := [.ref 60, .int ((10 * (g.1 60 19)) + (g.1 71 (g.1 60 19).toNatClampNeg)), .ref 72]) (g' := g) (by decide +kernel) rfl ?_
  obtain ⟨w1, e1, H⟩ := xbind H
  refine xcallV A (ix := 268) (nxt := 27) hrm hz [] [.int ((10 * (g.1 60 19)) + (g.1 71 (g.1 60 19).toNatClampNeg)), .ref 72] 1648 (c_X12_known_60 hS _ e1) ok_X12_known (by decide +kernel) rfl (fun r g1 hq => ?_)
  rw [hq.1, hq.2]
  show xW k S 0 0 27 [some (.ref 60), some (.int ((10 * (g.1 60 19)) + (g.1 71 (g.1 60 19).toNatClampNeg))), none] [.int w1.1, .int ((10 * (g.1 60 19)) + (g.1 71 (g.1 60 19).toNatClampNeg)), .ref 72] w1.2
  obtain ⟨h2, H⟩ := xg_elim H
  refine xiast A (nxt := 28) (by decide +kernel) (hS _ _ sh_72) h2 ?_
  show xW k S 0 0 28 [some (.ref 60), some (.int ((10 * (g.1 60 19)) + (g.1 71 (g.1 60 19).toNatClampNeg))), none] [] (xupd w1.2.1 72 ((10 * (g.1 60 19)) + (g.1 71 (g.1 60 19).toNatClampNeg)).toNatClampNeg w1.1, w1.2.2)
  refine xb A [(.aload_n 0, 1, 0, 0, .null), (.getfield 200, 3, 60, 11, .int 0), (.istore_n 2, 1, 0, 0, .null), (.aload_n 0, 1, 0, 0, .null), (.getfield 55, 3, 60, 26, .ref 73), (.iload_n 1, 1, 0, 0, .null), (.aload_n 0, 1, 0, 0, .null)] (pc' := 39) (ls' := [some (.ref 60), some (.int ((10 * (g.1 60 19)) + (g.1 71 (g.1 60 19).toNatClampNeg))), some (.int (w1.2.1 60 11))]) (st' := [.ref 60, .int ((10 * (g.1 60 19)) + (g.1 71 (g.1 60 19).toNatClampNeg)), .ref 73]) (g' := (xupd w1.2.1 72 ((10 * (g.1 60 19)) + (g.1 71 (g.1 60 19).toNatClampNeg)).toNatClampNeg w1.1, w1.2.2)) (by decide +kernel) rfl ?_
  obtain ⟨w2, e2, H⟩ := xbind H
  refine xcallV A (ix := 268) (nxt := 42) hrm hz [] [.int ((10 * (g.1 60 19)) + (g.1 71 (g.1 60 19).toNatClampNeg)), .ref 73] 1648 (c_X12_known_60 hS _ e2) ok_X12_known (by decide +kernel) rfl (fun r g1 hq => ?_)
  rw [hq.1, hq.2]
  show xW k S 0 0 42 [some (.ref 60), some (.int ((10 * (g.1 60 19)) + (g.1 71 (g.1 60 19).toNatClampNeg))), some (.int (w1.2.1 60 11))] [.int w2.1, .int ((10 * (g.1 60 19)) + (g.1 71 (g.1 60 19).toNatClampNeg)), .ref 73] w2.2
  obtain ⟨h3, H⟩ := xg_elim H
  refine xiast A (nxt := 43) (by decide +kernel) (hS _ _ sh_73) h3 ?_
  show xW k S 0 0 43 [some (.ref 60), some (.int ((10 * (g.1 60 19)) + (g.1 71 (g.1 60 19).toNatClampNeg))), some (.int (w1.2.1 60 11))] [] (xupd w2.2.1 73 ((10 * (g.1 60 19)) + (g.1 71 (g.1 60 19).toNatClampNeg)).toNatClampNeg w2.1, w2.2.2)
  refine xb A [(.aload_n 0, 1, 0, 0, .null), (.getfield 197, 3, 60, 13, .int 0)] (pc' := 47) (ls' := [some (.ref 60), some (.int ((10 * (g.1 60 19)) + (g.1 71 (g.1 60 19).toNatClampNeg))), some (.int (w1.2.1 60 11))]) (st' := [.int (w2.2.1 60 13)]) (g' := (xupd w2.2.1 73 ((10 * (g.1 60 19)) + (g.1 71 (g.1 60 19).toNatClampNeg)).toNatClampNeg w2.1, w2.2.2)) (by decide +kernel) rfl ?_
  refine xif_ne A (33) 80 50 (by decide +kernel) (fun h4 => ?_) (fun h4 => ?_)
  · rw [if_neg h4] at H
    refine xweak (ls' := [some (.ref 60), some (.int ((10 * (g.1 60 19)) + (g.1 71 (g.1 60 19).toNatClampNeg))), none]) (by exact ⟨rfl, ⟨rfl, trivial⟩⟩) ?_
    exact t_X12_tellRoad_60_80 hS A hR hrm hz _ _ H
  · rw [if_pos h4] at H
    refine xb A [(.aload_n 0, 1, 0, 0, .null), (.getfield 52, 3, 60, 25, .ref 72), (.iload_n 1, 1, 0, 0, .null)] (pc' := 55) (ls' := [some (.ref 60), some (.int ((10 * (g.1 60 19)) + (g.1 71 (g.1 60 19).toNatClampNeg))), some (.int (w1.2.1 60 11))]) (st' := [.int ((10 * (g.1 60 19)) + (g.1 71 (g.1 60 19).toNatClampNeg)), .ref 72]) (g' := (xupd w2.2.1 73 ((10 * (g.1 60 19)) + (g.1 71 (g.1 60 19).toNatClampNeg)).toNatClampNeg w2.1, w2.2.2)) (by decide +kernel) rfl ?_
    obtain ⟨h9, H⟩ := xg_elim H
    refine xiald A (nxt := 56) (by decide +kernel) (hS _ _ sh_72) h9 ?_
    show xW k S 0 0 56 [some (.ref 60), some (.int ((10 * (g.1 60 19)) + (g.1 71 (g.1 60 19).toNatClampNeg))), some (.int (w1.2.1 60 11))] [.int (w2.2.1 72 ((10 * (g.1 60 19)) + (g.1 71 (g.1 60 19).toNatClampNeg)).toNatClampNeg)] (xupd w2.2.1 73 ((10 * (g.1 60 19)) + (g.1 71 (g.1 60 19).toNatClampNeg)).toNatClampNeg w2.1, w2.2.2)
    refine xif_lt A (24) 80 59 (by decide +kernel) (fun h10 => ?_) (fun h10 => ?_)
    · rw [if_pos h10] at H
      refine xweak (ls' := [some (.ref 60), some (.int ((10 * (g.1 60 19)) + (g.1 71 (g.1 60 19).toNatClampNeg))), none]) (by exact ⟨rfl, ⟨rfl, trivial⟩⟩) ?_
      exact t_X12_tellRoad_60_80 hS A hR hrm hz _ _ H
    · rw [if_neg h10] at H
      refine xb A [(.aload_n 0, 1, 0, 0, .null), (.getfield 52, 3, 60, 25, .ref 72), (.iload_n 1, 1, 0, 0, .null)] (pc' := 64) (ls' := [some (.ref 60), some (.int ((10 * (g.1 60 19)) + (g.1 71 (g.1 60 19).toNatClampNeg))), some (.int (w1.2.1 60 11))]) (st' := [.int ((10 * (g.1 60 19)) + (g.1 71 (g.1 60 19).toNatClampNeg)), .ref 72]) (g' := (xupd w2.2.1 73 ((10 * (g.1 60 19)) + (g.1 71 (g.1 60 19).toNatClampNeg)).toNatClampNeg w2.1, w2.2.2)) (by decide +kernel) rfl ?_
      obtain ⟨h11, H⟩ := xg_elim H
      refine xiald A (nxt := 65) (by decide +kernel) (hS _ _ sh_72) h11 ?_
      show xW k S 0 0 65 [some (.ref 60), some (.int ((10 * (g.1 60 19)) + (g.1 71 (g.1 60 19).toNatClampNeg))), some (.int (w1.2.1 60 11))] [.int (w2.2.1 72 ((10 * (g.1 60 19)) + (g.1 71 (g.1 60 19).toNatClampNeg)).toNatClampNeg)] (xupd w2.2.1 73 ((10 * (g.1 60 19)) + (g.1 71 (g.1 60 19).toNatClampNeg)).toNatClampNeg w2.1, w2.2.2)
      refine xb A [(.aload_n 0, 1, 0, 0, .null), (.getfield 55, 3, 60, 26, .ref 73), (.iload_n 1, 1, 0, 0, .null)] (pc' := 70) (ls' := [some (.ref 60), some (.int ((10 * (g.1 60 19)) + (g.1 71 (g.1 60 19).toNatClampNeg))), some (.int (w1.2.1 60 11))]) (st' := [.int ((10 * (g.1 60 19)) + (g.1 71 (g.1 60 19).toNatClampNeg)), .ref 73, .int (w2.2.1 72 ((10 * (g.1 60 19)) + (g.1 71 (g.1 60 19).toNatClampNeg)).toNatClampNeg)]) (g' := (xupd w2.2.1 73 ((10 * (g.1 60 19)) + (g.1 71 (g.1 60 19).toNatClampNeg)).toNatClampNeg w2.1, w2.2.2)) (by decide +kernel) rfl ?_
      obtain ⟨h12, H⟩ := xg_elim H
      refine xiald A (nxt := 71) (by decide +kernel) (hS _ _ sh_73) h12 ?_
      show xW k S 0 0 71 [some (.ref 60), some (.int ((10 * (g.1 60 19)) + (g.1 71 (g.1 60 19).toNatClampNeg))), some (.int (w1.2.1 60 11))] [.int ((xupd w2.2.1 73 ((10 * (g.1 60 19)) + (g.1 71 (g.1 60 19).toNatClampNeg)).toNatClampNeg w2.1) 73 ((10 * (g.1 60 19)) + (g.1 71 (g.1 60 19).toNatClampNeg)).toNatClampNeg), .int (w2.2.1 72 ((10 * (g.1 60 19)) + (g.1 71 (g.1 60 19).toNatClampNeg)).toNatClampNeg)] (xupd w2.2.1 73 ((10 * (g.1 60 19)) + (g.1 71 (g.1 60 19).toNatClampNeg)).toNatClampNeg w2.1, w2.2.2)
      refine xic_ne A (9) 80 74 (by decide +kernel) (fun h13 => ?_) (fun h13 => ?_)
      · rw [if_neg h13] at H
        refine xweak (ls' := [some (.ref 60), some (.int ((10 * (g.1 60 19)) + (g.1 71 (g.1 60 19).toNatClampNeg))), none]) (by exact ⟨rfl, ⟨rfl, trivial⟩⟩) ?_
        exact t_X12_tellRoad_60_80 hS A hR hrm hz _ _ H
      · rw [if_pos h13] at H
        refine xb A [(.aload_n 0, 1, 0, 0, .null), (.iconst 3, 1, 0, 0, .int 3), (.iload_n 2, 1, 0, 0, .null)] (pc' := 77) (ls' := [some (.ref 60), some (.int ((10 * (g.1 60 19)) + (g.1 71 (g.1 60 19).toNatClampNeg))), some (.int (w1.2.1 60 11))]) (st' := [.int (w1.2.1 60 11), .int 3, .ref 60]) (g' := (xupd w2.2.1 73 ((10 * (g.1 60 19)) + (g.1 71 (g.1 60 19).toNatClampNeg)).toNatClampNeg w2.1, w2.2.2)) (by decide +kernel) rfl ?_
        obtain ⟨w5, e5, H⟩ := xbind H
        refine xcallV A (ix := 281) (nxt := 80) hrm hz [.int 3, .int (w1.2.1 60 11)] [] 1636 (c_X12_wrong_60 hS _ e5) ok_X12_wrong (by decide +kernel) rfl (fun r g1 hq => ?_)
        rw [hq.1, hq.2]
        show xW k S 0 0 80 [some (.ref 60), some (.int ((10 * (g.1 60 19)) + (g.1 71 (g.1 60 19).toNatClampNeg))), some (.int (w1.2.1 60 11))] [] w5
        refine xweak (ls' := [some (.ref 60), some (.int ((10 * (g.1 60 19)) + (g.1 71 (g.1 60 19).toNatClampNeg))), none]) (by exact ⟨rfl, ⟨rfl, trivial⟩⟩) ?_
        exact t_X12_tellRoad_60_80 hS A hR hrm hz _ _ H
theorem fr_X12_tellRoad_60  {g : xG} (out : xG) (H : f_X12_tellRoad_60  g = some out) : xfrm fp_X12_tellRoad_60 g (out) := by
  have H : (xg (¬ ((g.1 60 19) < 0 ∨ 2 ≤ (g.1 60 19).toNatClampNeg)) (
  (f_X12_known_60 g).bind fun w1 =>
  xg (¬ (((10 * (g.1 60 19)) + (g.1 71 (g.1 60 19).toNatClampNeg)) < 0 ∨ 20 ≤ ((10 * (g.1 60 19)) + (g.1 71 (g.1 60 19).toNatClampNeg)).toNatClampNeg)) (
    (f_X12_known_60 (xupd w1.2.1 72 ((10 * (g.1 60 19)) + (g.1 71 (g.1 60 19).toNatClampNeg)).toNatClampNeg w1.1, w1.2.2)).bind fun w2 =>
    xg (¬ (((10 * (g.1 60 19)) + (g.1 71 (g.1 60 19).toNatClampNeg)) < 0 ∨ 20 ≤ ((10 * (g.1 60 19)) + (g.1 71 (g.1 60 19).toNatClampNeg)).toNatClampNeg)) (
      if (w2.2.1 60 13) = 0 then
        xg (¬ (((10 * (g.1 60 19)) + (g.1 71 (g.1 60 19).toNatClampNeg)) < 0 ∨ 20 ≤ ((10 * (g.1 60 19)) + (g.1 71 (g.1 60 19).toNatClampNeg)).toNatClampNeg)) (
          if (w2.2.1 72 ((10 * (g.1 60 19)) + (g.1 71 (g.1 60 19).toNatClampNeg)).toNatClampNeg) < 0 then
            f_X12_tellRoad_60_80 ((10 * (g.1 60 19)) + (g.1 71 (g.1 60 19).toNatClampNeg)) (xupd w2.2.1 73 ((10 * (g.1 60 19)) + (g.1 71 (g.1 60 19).toNatClampNeg)).toNatClampNeg w2.1, w2.2.2)
          else
            xg (¬ (((10 * (g.1 60 19)) + (g.1 71 (g.1 60 19).toNatClampNeg)) < 0 ∨ 20 ≤ ((10 * (g.1 60 19)) + (g.1 71 (g.1 60 19).toNatClampNeg)).toNatClampNeg)) (
              xg (¬ (((10 * (g.1 60 19)) + (g.1 71 (g.1 60 19).toNatClampNeg)) < 0 ∨ 20 ≤ ((10 * (g.1 60 19)) + (g.1 71 (g.1 60 19).toNatClampNeg)).toNatClampNeg)) (
                if (w2.2.1 72 ((10 * (g.1 60 19)) + (g.1 71 (g.1 60 19).toNatClampNeg)).toNatClampNeg) = ((xupd w2.2.1 73 ((10 * (g.1 60 19)) + (g.1 71 (g.1 60 19).toNatClampNeg)).toNatClampNeg w2.1) 73 ((10 * (g.1 60 19)) + (g.1 71 (g.1 60 19).toNatClampNeg)).toNatClampNeg) then
                  (f_X12_wrong_60 3 (w1.2.1 60 11) (xupd w2.2.1 73 ((10 * (g.1 60 19)) + (g.1 71 (g.1 60 19).toNatClampNeg)).toNatClampNeg w2.1, w2.2.2)).bind fun w5 =>
                  f_X12_tellRoad_60_80 ((10 * (g.1 60 19)) + (g.1 71 (g.1 60 19).toNatClampNeg)) w5
                else
                  f_X12_tellRoad_60_80 ((10 * (g.1 60 19)) + (g.1 71 (g.1 60 19).toNatClampNeg)) (xupd w2.2.1 73 ((10 * (g.1 60 19)) + (g.1 71 (g.1 60 19).toNatClampNeg)).toNatClampNeg w2.1, w2.2.2))))
      else
        f_X12_tellRoad_60_80 ((10 * (g.1 60 19)) + (g.1 71 (g.1 60 19).toNatClampNeg)) (xupd w2.2.1 73 ((10 * (g.1 60 19)) + (g.1 71 (g.1 60 19).toNatClampNeg)).toNatClampNeg w2.1, w2.2.2))))) = some out := H
  obtain ⟨h1, H⟩ := xg_elim H
  obtain ⟨w1, e1, H⟩ := xbind H
  have hf1 : xfrm fp_X12_tellRoad_60 g (w1.2) := xfrm.tr xfrm.rf (fr_X12_known_60 _ e1) rfl
  obtain ⟨h2, H⟩ := xg_elim H
  have hf2 : xfrm fp_X12_tellRoad_60 g ((xupd w1.2.1 72 ((10 * (g.1 60 19)) + (g.1 71 (g.1 60 19).toNatClampNeg)).toNatClampNeg w1.1, w1.2.2)) := xfrm.ua hf1 rfl
  obtain ⟨w2, e2, H⟩ := xbind H
  have hf3 : xfrm fp_X12_tellRoad_60 g (w2.2) := xfrm.tr hf2 (fr_X12_known_60 _ e2) rfl
  obtain ⟨h3, H⟩ := xg_elim H
  have hf4 : xfrm fp_X12_tellRoad_60 g ((xupd w2.2.1 73 ((10 * (g.1 60 19)) + (g.1 71 (g.1 60 19).toNatClampNeg)).toNatClampNeg w2.1, w2.2.2)) := xfrm.ua hf3 rfl
  by_cases h4 : (w2.2.1 60 13) = 0
  · rw [if_pos h4] at H
    obtain ⟨h9, H⟩ := xg_elim H
    by_cases h10 : (w2.2.1 72 ((10 * (g.1 60 19)) + (g.1 71 (g.1 60 19).toNatClampNeg)).toNatClampNeg) < 0
    · rw [if_pos h10] at H
      exact xfrm.tr hf4 (fr_X12_tellRoad_60_80 _ _ _ H) rfl
    · rw [if_neg h10] at H
      obtain ⟨h11, H⟩ := xg_elim H
      obtain ⟨h12, H⟩ := xg_elim H
      by_cases h13 : (w2.2.1 72 ((10 * (g.1 60 19)) + (g.1 71 (g.1 60 19).toNatClampNeg)).toNatClampNeg) = ((xupd w2.2.1 73 ((10 * (g.1 60 19)) + (g.1 71 (g.1 60 19).toNatClampNeg)).toNatClampNeg w2.1) 73 ((10 * (g.1 60 19)) + (g.1 71 (g.1 60 19).toNatClampNeg)).toNatClampNeg)
      · rw [if_pos h13] at H
        obtain ⟨w5, e5, H⟩ := xbind H
        have hf9 : xfrm fp_X12_tellRoad_60 g (w5) := xfrm.tr hf4 (fr_X12_wrong_60 _ e5) rfl
        exact xfrm.tr hf9 (fr_X12_tellRoad_60_80 _ _ _ H) rfl
      · rw [if_neg h13] at H
        exact xfrm.tr hf4 (fr_X12_tellRoad_60_80 _ _ _ H) rfl
  · rw [if_neg h4] at H
    exact xfrm.tr hf4 (fr_X12_tellRoad_60_80 _ _ _ H) rfl
