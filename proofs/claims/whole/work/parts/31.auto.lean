/-! methods, walked by program -/
def fp_X12_tellOne_60 : List (Nat × Option Nat) := [(60, some 11), (60, some 12), (60, some 13), (60, some 14), (60, some 15), (60, some 16), (60, some 20), (60, some 36), (60, some 42), (60, some 46), (68, none), (69, none), (70, none), (71, none), (72, none), (73, none), (74, none), (75, none), (76, none), (77, none), (78, none), (79, none), (80, none), (81, none), (82, none), (83, none), (84, none), (85, none), (86, none), (87, none), (88, none), (89, none), (90, none)]
def f_X12_tellOne_60_266  (l1 : Int32) (g : xG) : Option (xG) :=
  (f_X12_fail_60 1 g).bind fun w11 =>
  if (w11.1 60 13) ≤ 0 then
    (f_X12_goesOn_60 w11).bind fun w12 =>
    (f_X12_tellLaw_60 l1 w12).bind fun w13 =>
    some w13
  else
    some w11
def f_X12_tellOne_60_235   (g : xG) : Option (xG) :=
  xg (¬ ((g.1 60 11) < 0 ∨ 403 ≤ (g.1 60 11).toNatClampNeg)) (
    if ((g.1 63 (g.1 60 11).toNatClampNeg) - 24) < 0 then
      f_X12_tellOne_60_266 ((g.1 63 (g.1 60 11).toNatClampNeg) - 24) g
    else
      xg (¬ ((g.1 60 11) < 0 ∨ 403 ≤ (g.1 60 11).toNatClampNeg)) (
        if (g.1 63 (g.1 60 11).toNatClampNeg) ≤ 27 then
          if (g.1 60 13) ≤ 0 then
            (f_X12_goesOn_60 g).bind fun w14 =>
            (f_X12_tellLaw_60 ((g.1 63 (g.1 60 11).toNatClampNeg) - 24) w14).bind fun w15 =>
            some w15
          else
            some g
        else
          f_X12_tellOne_60_266 ((g.1 63 (g.1 60 11).toNatClampNeg) - 24) g))
def f_X12_tellOne_60  (g : xG) : Option (xG) :=
  xg (¬ ((g.1 60 11) < 0 ∨ 403 ≤ (g.1 60 11).toNatClampNeg)) (
    if (g.1 63 (g.1 60 11).toNatClampNeg) = 20 then
      xg (¬ ((g.1 60 19) < 0 ∨ 2 ≤ (g.1 60 19).toNatClampNeg)) (
        (f_X12_roomFor_60 (g.1 70 (g.1 60 19).toNatClampNeg) 7 g).bind fun w1 =>
        if (w1.1 60 13) ≤ 0 then
          (f_X12_named_60 w1).bind fun w2 =>
          xg (¬ ((w2.2.1 60 19) < 0 ∨ 2 ≤ (w2.2.1 60 19).toNatClampNeg)) (
            (f_X12_endsName_60 w2.1 (w2.2.1 70 (w2.2.1 60 19).toNatClampNeg) w2.2).bind fun w3 =>
            if (w3.1 60 13) = 0 then
              xg (¬ ((w3.1 60 19) < 0 ∨ 2 ≤ (w3.1 60 19).toNatClampNeg)) (
                xg (¬ ((w3.1 60 19) < 0 ∨ 2 ≤ (w3.1 60 19).toNatClampNeg)) (
                  some (xupd w3.1 70 (w3.1 60 19).toNatClampNeg ((w3.1 70 (w3.1 60 19).toNatClampNeg) + 1), w3.2)))
            else
              some w3)
        else
          some w1)
    else
      if (g.1 63 (g.1 60 11).toNatClampNeg) = 21 then
        xg (¬ ((g.1 60 19) < 0 ∨ 2 ≤ (g.1 60 19).toNatClampNeg)) (
          (f_X12_roomFor_60 (g.1 71 (g.1 60 19).toNatClampNeg) 10 g).bind fun w4 =>
          if (w4.1 60 13) = 0 then
            (f_X12_tellRoad_60 w4).bind fun w5 =>
            some w5
          else
            some w4)
      else
        if (g.1 63 (g.1 60 11).toNatClampNeg) = 22 then
          xg (¬ ((g.1 60 19) < 0 ∨ 2 ≤ (g.1 60 19).toNatClampNeg)) (
            (f_X12_roomFor_60 (g.1 75 (g.1 60 19).toNatClampNeg) 6 g).bind fun w6 =>
            if (w6.1 60 13) = 0 then
              (f_X12_tellPerson_60 w6).bind fun w7 =>
              some w7
            else
              some w6)
        else
          if (g.1 63 (g.1 60 11).toNatClampNeg) = 23 then
            (f_X12_goesOn_60 g).bind fun w8 =>
            (f_X12_known_60 w8).bind fun w9 =>
            xg (¬ ((w8.1 60 19) < 0 ∨ 2 ≤ (w8.1 60 19).toNatClampNeg)) (
              (f_X12_must_60 4 (xupd w9.2.1 79 (w8.1 60 19).toNatClampNeg w9.1, w9.2.2)).bind fun w10 =>
              some w10)
          else
            if (g.1 63 (g.1 60 11).toNatClampNeg) = 24 then
              f_X12_tellOne_60_235 g
            else
              if (g.1 63 (g.1 60 11).toNatClampNeg) = 25 then
                f_X12_tellOne_60_235 g
              else
                if (g.1 63 (g.1 60 11).toNatClampNeg) = 26 then
                  f_X12_tellOne_60_235 g
                else
                  if (g.1 63 (g.1 60 11).toNatClampNeg) = 27 then
                    f_X12_tellOne_60_235 g
                  else
                    if (g.1 63 (g.1 60 11).toNatClampNeg) = 28 then
                      (f_X12_goesOn_60 g).bind fun w16 =>
                      (f_X12_bounded_60 0 9999 w16).bind fun w17 =>
                      xg (¬ ((w16.1 60 19) < 0 ∨ 2 ≤ (w16.1 60 19).toNatClampNeg)) (
                        (f_X12_must_60 4 (xupd w17.2.1 80 (w16.1 60 19).toNatClampNeg w17.1, w17.2.2)).bind fun w18 =>
                        some w18)
                    else
                      f_X12_tellOne_60_235 g)
set_option maxRecDepth 20000 in
theorem t_X12_tellOne_60_266 {k : xK} {S : List xSh} {out : xG} (hS : xpf SH2 S) (A : xAt k mX12_tellOne.2.1 12 SH2 S) (hR : xRet k 0 0 S (fun r g' => r = none ∧ g' = out) mX12_tellOne.2.2.2) (hrm : xrm k = { frames := 6, cells := 0, slots := 0, locals := 126 }) (hz : xhs k = xb0 k + S.length)   : ∀ (l1 : Int32) (g : xG), f_X12_tellOne_60_266 l1 g = some out → xW k S 0 0 266 [some (.ref 60), some (.int l1)] [] g := by
  intro l1 g H
  have H : ((f_X12_fail_60 1 g).bind fun w11 =>
if (w11.1 60 13) ≤ 0 then
  (f_X12_goesOn_60 w11).bind fun w12 =>
  (f_X12_tellLaw_60 l1 w12).bind fun w13 =>
  some w13
else
  some w11) = some out := H
  refine xb A [(.aload_n 0, 1, 0, 0, .null), (.iconst 1, 1, 0, 0, .int 1)] (pc' := 268) (ls' := [some (.ref 60), some (.int l1)]) (st' := [.int 1, .ref 60]) (g' := g) (by decide +kernel) rfl ?_
  obtain ⟨w11, e11, H⟩ := xbind H
  refine xcallV A (ix := 212) (nxt := 271) hrm hz [.int 1] [] 1620 (c_X12_fail_60 hS _ e11) ok_X12_fail (by decide +kernel) rfl (fun r g1 hq => ?_)
  rw [hq.1, hq.2]
  show xW k S 0 0 271 [some (.ref 60), some (.int l1)] [] w11
  refine xb A [(.aload_n 0, 1, 0, 0, .null), (.getfield 197, 3, 60, 13, .int 0)] (pc' := 275) (ls' := [some (.ref 60), some (.int l1)]) (st' := [.int (w11.1 60 13)]) (g' := w11) (by decide +kernel) rfl ?_
  refine xif_le A (4) 279 278 (by decide +kernel) (fun h20 => ?_) (fun h20 => ?_)
  · rw [if_pos h20] at H
    refine xb A [(.aload_n 0, 1, 0, 0, .null)] (pc' := 280) (ls' := [some (.ref 60), some (.int l1)]) (st' := [.ref 60]) (g' := w11) (by decide +kernel) rfl ?_
    obtain ⟨w12, e12, H⟩ := xbind H
    refine xcallV A (ix := 218) (nxt := 283) hrm hz [] [] 1624 (c_X12_goesOn_60 hS _ e12) ok_X12_goesOn (by decide +kernel) rfl (fun r g1 hq => ?_)
    rw [hq.1, hq.2]
    show xW k S 0 0 283 [some (.ref 60), some (.int l1)] [] w12
    refine xb A [(.aload_n 0, 1, 0, 0, .null), (.iload_n 1, 1, 0, 0, .null)] (pc' := 285) (ls' := [some (.ref 60), some (.int l1)]) (st' := [.int l1, .ref 60]) (g' := w12) (by decide +kernel) rfl ?_
    obtain ⟨w13, e13, H⟩ := xbind H
    refine xcallV A (ix := 278) (nxt := 288) hrm hz [.int l1] [] 1660 (c_X12_tellLaw_60 hS _ e13) ok_X12_tellLaw (by decide +kernel) rfl (fun r g1 hq => ?_)
    rw [hq.1, hq.2]
    show xW k S 0 0 288 [some (.ref 60), some (.int l1)] [] w13
    obtain rfl := Option.some.inj H
    exact xret_v A hR hz (by decide +kernel) ⟨rfl, rfl⟩
  · rw [if_neg h20] at H
    obtain rfl := Option.some.inj H
    exact xret_v A hR hz (by decide +kernel) ⟨rfl, rfl⟩
theorem fr_X12_tellOne_60_266   : ∀ (l1 : Int32) (g : xG) (out : xG), f_X12_tellOne_60_266 l1 g = some out → xfrm fp_X12_tellOne_60 g (out) := by
  intro l1 g out H
  have H : ((f_X12_fail_60 1 g).bind fun w11 =>
if (w11.1 60 13) ≤ 0 then
  (f_X12_goesOn_60 w11).bind fun w12 =>
  (f_X12_tellLaw_60 l1 w12).bind fun w13 =>
  some w13
else
  some w11) = some out := H
  obtain ⟨w11, e11, H⟩ := xbind H
  have hf13 : xfrm fp_X12_tellOne_60 g (w11) := xfrm.tr xfrm.rf (fr_X12_fail_60 _ e11) rfl
  by_cases h20 : (w11.1 60 13) ≤ 0
  · rw [if_pos h20] at H
    obtain ⟨w12, e12, H⟩ := xbind H
    have hf14 : xfrm fp_X12_tellOne_60 g (w12) := xfrm.tr hf13 (fr_X12_goesOn_60 _ e12) rfl
    obtain ⟨w13, e13, H⟩ := xbind H
    have hf15 : xfrm fp_X12_tellOne_60 g (w13) := xfrm.tr hf14 (fr_X12_tellLaw_60 _ e13) rfl
    obtain rfl := Option.some.inj H
    exact hf15
  · rw [if_neg h20] at H
    obtain rfl := Option.some.inj H
    exact hf13
set_option maxRecDepth 20000 in
theorem t_X12_tellOne_60_235 {k : xK} {S : List xSh} {out : xG} (hS : xpf SH2 S) (A : xAt k mX12_tellOne.2.1 12 SH2 S) (hR : xRet k 0 0 S (fun r g' => r = none ∧ g' = out) mX12_tellOne.2.2.2) (hrm : xrm k = { frames := 6, cells := 0, slots := 0, locals := 126 }) (hz : xhs k = xb0 k + S.length)   : ∀ (g : xG), f_X12_tellOne_60_235 g = some out → xW k S 0 0 235 [some (.ref 60), none] [] g := by
  intro g H
  have H : (xg (¬ ((g.1 60 11) < 0 ∨ 403 ≤ (g.1 60 11).toNatClampNeg)) (
  if ((g.1 63 (g.1 60 11).toNatClampNeg) - 24) < 0 then
    f_X12_tellOne_60_266 ((g.1 63 (g.1 60 11).toNatClampNeg) - 24) g
  else
    xg (¬ ((g.1 60 11) < 0 ∨ 403 ≤ (g.1 60 11).toNatClampNeg)) (
      if (g.1 63 (g.1 60 11).toNatClampNeg) ≤ 27 then
        if (g.1 60 13) ≤ 0 then
          (f_X12_goesOn_60 g).bind fun w14 =>
          (f_X12_tellLaw_60 ((g.1 63 (g.1 60 11).toNatClampNeg) - 24) w14).bind fun w15 =>
          some w15
        else
          some g
      else
        f_X12_tellOne_60_266 ((g.1 63 (g.1 60 11).toNatClampNeg) - 24) g))) = some out := H
  refine xb A [(.aload_n 0, 1, 0, 0, .null), (.getfield 20, 3, 60, 5, .ref 63), (.aload_n 0, 1, 0, 0, .null), (.getfield 200, 3, 60, 11, .int 0)] (pc' := 243) (ls' := [some (.ref 60), none]) (st' := [.int (g.1 60 11), .ref 63]) (g' := g) (by decide +kernel) rfl ?_
  obtain ⟨h18, H⟩ := xg_elim H
  refine xiald A (nxt := 244) (by decide +kernel) (hS _ _ sh_63) h18 ?_
  show xW k S 0 0 244 [some (.ref 60), none] [.int (g.1 63 (g.1 60 11).toNatClampNeg)] g
  refine xb A [(.bipush 24, 2, 0, 0, .int 24), (.isub, 1, 0, 0, .null), (.istore_n 1, 1, 0, 0, .null), (.iload_n 1, 1, 0, 0, .null)] (pc' := 249) (ls' := [some (.ref 60), some (.int ((g.1 63 (g.1 60 11).toNatClampNeg) - 24))]) (st' := [.int ((g.1 63 (g.1 60 11).toNatClampNeg) - 24)]) (g' := g) (by decide +kernel) rfl ?_
  refine xif_lt A (17) 266 252 (by decide +kernel) (fun h19 => ?_) (fun h19 => ?_)
  · rw [if_pos h19] at H
    exact t_X12_tellOne_60_266 hS A hR hrm hz _ _ H
  · rw [if_neg h19] at H
    refine xb A [(.aload_n 0, 1, 0, 0, .null), (.getfield 20, 3, 60, 5, .ref 63), (.aload_n 0, 1, 0, 0, .null), (.getfield 200, 3, 60, 11, .int 0)] (pc' := 260) (ls' := [some (.ref 60), some (.int ((g.1 63 (g.1 60 11).toNatClampNeg) - 24))]) (st' := [.int (g.1 60 11), .ref 63]) (g' := g) (by decide +kernel) rfl ?_
    obtain ⟨h21, H⟩ := xg_elim H
    refine xiald A (nxt := 261) (by decide +kernel) (hS _ _ sh_63) h21 ?_
    show xW k S 0 0 261 [some (.ref 60), some (.int ((g.1 63 (g.1 60 11).toNatClampNeg) - 24))] [.int (g.1 63 (g.1 60 11).toNatClampNeg)] g
    refine xb A [(.bipush 27, 2, 0, 0, .int 27)] (pc' := 263) (ls' := [some (.ref 60), some (.int ((g.1 63 (g.1 60 11).toNatClampNeg) - 24))]) (st' := [.int 27, .int (g.1 63 (g.1 60 11).toNatClampNeg)]) (g' := g) (by decide +kernel) rfl ?_
    refine xic_le A (8) 271 266 (by decide +kernel) (fun h22 => ?_) (fun h22 => ?_)
    · rw [if_pos h22] at H
      refine xb A [(.aload_n 0, 1, 0, 0, .null), (.getfield 197, 3, 60, 13, .int 0)] (pc' := 275) (ls' := [some (.ref 60), some (.int ((g.1 63 (g.1 60 11).toNatClampNeg) - 24))]) (st' := [.int (g.1 60 13)]) (g' := g) (by decide +kernel) rfl ?_
      refine xif_le A (4) 279 278 (by decide +kernel) (fun h23 => ?_) (fun h23 => ?_)
      · rw [if_pos h23] at H
        refine xb A [(.aload_n 0, 1, 0, 0, .null)] (pc' := 280) (ls' := [some (.ref 60), some (.int ((g.1 63 (g.1 60 11).toNatClampNeg) - 24))]) (st' := [.ref 60]) (g' := g) (by decide +kernel) rfl ?_
        obtain ⟨w14, e14, H⟩ := xbind H
        refine xcallV A (ix := 218) (nxt := 283) hrm hz [] [] 1624 (c_X12_goesOn_60 hS _ e14) ok_X12_goesOn (by decide +kernel) rfl (fun r g1 hq => ?_)
        rw [hq.1, hq.2]
        show xW k S 0 0 283 [some (.ref 60), some (.int ((g.1 63 (g.1 60 11).toNatClampNeg) - 24))] [] w14
        refine xb A [(.aload_n 0, 1, 0, 0, .null), (.iload_n 1, 1, 0, 0, .null)] (pc' := 285) (ls' := [some (.ref 60), some (.int ((g.1 63 (g.1 60 11).toNatClampNeg) - 24))]) (st' := [.int ((g.1 63 (g.1 60 11).toNatClampNeg) - 24), .ref 60]) (g' := w14) (by decide +kernel) rfl ?_
        obtain ⟨w15, e15, H⟩ := xbind H
        refine xcallV A (ix := 278) (nxt := 288) hrm hz [.int ((g.1 63 (g.1 60 11).toNatClampNeg) - 24)] [] 1660 (c_X12_tellLaw_60 hS _ e15) ok_X12_tellLaw (by decide +kernel) rfl (fun r g1 hq => ?_)
        rw [hq.1, hq.2]
        show xW k S 0 0 288 [some (.ref 60), some (.int ((g.1 63 (g.1 60 11).toNatClampNeg) - 24))] [] w15
        obtain rfl := Option.some.inj H
        exact xret_v A hR hz (by decide +kernel) ⟨rfl, rfl⟩
      · rw [if_neg h23] at H
        obtain rfl := Option.some.inj H
        exact xret_v A hR hz (by decide +kernel) ⟨rfl, rfl⟩
    · rw [if_neg h22] at H
      exact t_X12_tellOne_60_266 hS A hR hrm hz _ _ H
theorem fr_X12_tellOne_60_235   : ∀ (g : xG) (out : xG), f_X12_tellOne_60_235 g = some out → xfrm fp_X12_tellOne_60 g (out) := by
  intro g out H
  have H : (xg (¬ ((g.1 60 11) < 0 ∨ 403 ≤ (g.1 60 11).toNatClampNeg)) (
  if ((g.1 63 (g.1 60 11).toNatClampNeg) - 24) < 0 then
    f_X12_tellOne_60_266 ((g.1 63 (g.1 60 11).toNatClampNeg) - 24) g
  else
    xg (¬ ((g.1 60 11) < 0 ∨ 403 ≤ (g.1 60 11).toNatClampNeg)) (
      if (g.1 63 (g.1 60 11).toNatClampNeg) ≤ 27 then
        if (g.1 60 13) ≤ 0 then
          (f_X12_goesOn_60 g).bind fun w14 =>
          (f_X12_tellLaw_60 ((g.1 63 (g.1 60 11).toNatClampNeg) - 24) w14).bind fun w15 =>
          some w15
        else
          some g
      else
        f_X12_tellOne_60_266 ((g.1 63 (g.1 60 11).toNatClampNeg) - 24) g))) = some out := H
  obtain ⟨h18, H⟩ := xg_elim H
  by_cases h19 : ((g.1 63 (g.1 60 11).toNatClampNeg) - 24) < 0
  · rw [if_pos h19] at H
    exact xfrm.tr xfrm.rf (fr_X12_tellOne_60_266 _ _ _ H) rfl
  · rw [if_neg h19] at H
    obtain ⟨h21, H⟩ := xg_elim H
    by_cases h22 : (g.1 63 (g.1 60 11).toNatClampNeg) ≤ 27
    · rw [if_pos h22] at H
      by_cases h23 : (g.1 60 13) ≤ 0
      · rw [if_pos h23] at H
        obtain ⟨w14, e14, H⟩ := xbind H
        have hf16 : xfrm fp_X12_tellOne_60 g (w14) := xfrm.tr xfrm.rf (fr_X12_goesOn_60 _ e14) rfl
        obtain ⟨w15, e15, H⟩ := xbind H
        have hf17 : xfrm fp_X12_tellOne_60 g (w15) := xfrm.tr hf16 (fr_X12_tellLaw_60 _ e15) rfl
        obtain rfl := Option.some.inj H
        exact hf17
      · rw [if_neg h23] at H
        obtain rfl := Option.some.inj H
        exact xfrm.rf
    · rw [if_neg h22] at H
      exact xfrm.tr xfrm.rf (fr_X12_tellOne_60_266 _ _ _ H) rfl
set_option maxRecDepth 20000 in
theorem c_X12_tellOne_60 {S : List xSh} (hS : xpf SH2 S) {g : xG}  (out : xG) (H : f_X12_tellOne_60  g = some out) : xC mX12_tellOne 6 126 0 0 S [.ref 60] g S (fun r g' => r = none ∧ g' = out) := by
  have H : (xg (¬ ((g.1 60 11) < 0 ∨ 403 ≤ (g.1 60 11).toNatClampNeg)) (
  if (g.1 63 (g.1 60 11).toNatClampNeg) = 20 then
    xg (¬ ((g.1 60 19) < 0 ∨ 2 ≤ (g.1 60 19).toNatClampNeg)) (
      (f_X12_roomFor_60 (g.1 70 (g.1 60 19).toNatClampNeg) 7 g).bind fun w1 =>
      if (w1.1 60 13) ≤ 0 then
        (f_X12_named_60 w1).bind fun w2 =>
        xg (¬ ((w2.2.1 60 19) < 0 ∨ 2 ≤ (w2.2.1 60 19).toNatClampNeg)) (
          (f_X12_endsName_60 w2.1 (w2.2.1 70 (w2.2.1 60 19).toNatClampNeg) w2.2).bind fun w3 =>
          if (w3.1 60 13) = 0 then
            xg (¬ ((w3.1 60 19) < 0 ∨ 2 ≤ (w3.1 60 19).toNatClampNeg)) (
              xg (¬ ((w3.1 60 19) < 0 ∨ 2 ≤ (w3.1 60 19).toNatClampNeg)) (
                some (xupd w3.1 70 (w3.1 60 19).toNatClampNeg ((w3.1 70 (w3.1 60 19).toNatClampNeg) + 1), w3.2)))
          else
            some w3)
      else
        some w1)
  else
    if (g.1 63 (g.1 60 11).toNatClampNeg) = 21 then
      xg (¬ ((g.1 60 19) < 0 ∨ 2 ≤ (g.1 60 19).toNatClampNeg)) (
        (f_X12_roomFor_60 (g.1 71 (g.1 60 19).toNatClampNeg) 10 g).bind fun w4 =>
        if (w4.1 60 13) = 0 then
          (f_X12_tellRoad_60 w4).bind fun w5 =>
          some w5
        else
          some w4)
    else
      if (g.1 63 (g.1 60 11).toNatClampNeg) = 22 then
        xg (¬ ((g.1 60 19) < 0 ∨ 2 ≤ (g.1 60 19).toNatClampNeg)) (
          (f_X12_roomFor_60 (g.1 75 (g.1 60 19).toNatClampNeg) 6 g).bind fun w6 =>
          if (w6.1 60 13) = 0 then
            (f_X12_tellPerson_60 w6).bind fun w7 =>
            some w7
          else
            some w6)
      else
        if (g.1 63 (g.1 60 11).toNatClampNeg) = 23 then
          (f_X12_goesOn_60 g).bind fun w8 =>
          (f_X12_known_60 w8).bind fun w9 =>
          xg (¬ ((w8.1 60 19) < 0 ∨ 2 ≤ (w8.1 60 19).toNatClampNeg)) (
            (f_X12_must_60 4 (xupd w9.2.1 79 (w8.1 60 19).toNatClampNeg w9.1, w9.2.2)).bind fun w10 =>
            some w10)
        else
          if (g.1 63 (g.1 60 11).toNatClampNeg) = 24 then
            f_X12_tellOne_60_235 g
          else
            if (g.1 63 (g.1 60 11).toNatClampNeg) = 25 then
              f_X12_tellOne_60_235 g
            else
              if (g.1 63 (g.1 60 11).toNatClampNeg) = 26 then
                f_X12_tellOne_60_235 g
              else
                if (g.1 63 (g.1 60 11).toNatClampNeg) = 27 then
                  f_X12_tellOne_60_235 g
                else
                  if (g.1 63 (g.1 60 11).toNatClampNeg) = 28 then
                    (f_X12_goesOn_60 g).bind fun w16 =>
                    (f_X12_bounded_60 0 9999 w16).bind fun w17 =>
                    xg (¬ ((w16.1 60 19) < 0 ∨ 2 ≤ (w16.1 60 19).toNatClampNeg)) (
                      (f_X12_must_60 4 (xupd w17.2.1 80 (w16.1 60 19).toNatClampNeg w17.1, w17.2.2)).bind fun w18 =>
                      some w18)
                  else
                    f_X12_tellOne_60_235 g)) = some out := H
  refine xC.of 12 SH2 [some (.ref 60), none] hS (by decide +kernel) rfl (fun _ _ => Nat.le_of_ble_eq_true rfl) (fun _ _ => rfl) ?_
  intro k A hR hrm hz
  refine xb A [(.aload_n 0, 1, 0, 0, .null), (.getfield 20, 3, 60, 5, .ref 63), (.aload_n 0, 1, 0, 0, .null), (.getfield 200, 3, 60, 11, .int 0)] (pc' := 8) (ls' := [some (.ref 60), none]) (st' := [.int (g.1 60 11), .ref 63]) (g' := g) (by decide +kernel) rfl ?_
  obtain ⟨h1, H⟩ := xg_elim H
  refine xiald A (nxt := 9) (by decide +kernel) (hS _ _ sh_63) h1 ?_
  show xW k S 0 0 9 [some (.ref 60), none] [.int (g.1 63 (g.1 60 11).toNatClampNeg)] g
  by_cases h2 : (g.1 63 (g.1 60 11).toNatClampNeg) = 20
  · rw [if_pos h2] at H
    refine xtabIn A (dflt := 226) (lo := 20) (hi := 28) (off := 51) (offs := #[(51), (114), (143), (172), (226), (226), (226), (226), (197)]) (len := 51) (tgt := 60) (20) (by rw [h2]; rfl) (by decide +kernel) ?_
    refine xb A [(.aload_n 0, 1, 0, 0, .null), (.aload_n 0, 1, 0, 0, .null), (.getfield 46, 3, 60, 23, .ref 70), (.aload_n 0, 1, 0, 0, .null), (.getfield 230, 3, 60, 19, .int 0)] (pc' := 69) (ls' := [some (.ref 60), none]) (st' := [.int (g.1 60 19), .ref 70, .ref 60]) (g' := g) (by decide +kernel) rfl ?_
    obtain ⟨h3, H⟩ := xg_elim H
    refine xiald A (nxt := 70) (by decide +kernel) (hS _ _ sh_70) h3 ?_
    show xW k S 0 0 70 [some (.ref 60), none] [.int (g.1 70 (g.1 60 19).toNatClampNeg), .ref 60] g
    refine xb A [(.bipush 7, 2, 0, 0, .int 7)] (pc' := 72) (ls' := [some (.ref 60), none]) (st' := [.int 7, .int (g.1 70 (g.1 60 19).toNatClampNeg), .ref 60]) (g' := g) (by decide +kernel) rfl ?_
    obtain ⟨w1, e1, H⟩ := xbind H
    refine xcallV A (ix := 251) (nxt := 75) hrm hz [.int (g.1 70 (g.1 60 19).toNatClampNeg), .int 7] [] 1616 (c_X12_roomFor_60 hS _ e1) ok_X12_roomFor (by decide +kernel) rfl (fun r g1 hq => ?_)
    rw [hq.1, hq.2]
    show xW k S 0 0 75 [some (.ref 60), none] [] w1
    refine xb A [(.aload_n 0, 1, 0, 0, .null), (.getfield 197, 3, 60, 13, .int 0)] (pc' := 79) (ls' := [some (.ref 60), none]) (st' := [.int (w1.1 60 13)]) (g' := w1) (by decide +kernel) rfl ?_
    refine xif_le A (4) 83 82 (by decide +kernel) (fun h4 => ?_) (fun h4 => ?_)
    · rw [if_pos h4] at H
      refine xb A [(.aload_n 0, 1, 0, 0, .null), (.aload_n 0, 1, 0, 0, .null)] (pc' := 85) (ls' := [some (.ref 60), none]) (st' := [.ref 60, .ref 60]) (g' := w1) (by decide +kernel) rfl ?_
      obtain ⟨w2, e2, H⟩ := xbind H
      refine xcallV A (ix := 255) (nxt := 88) hrm hz [] [.ref 60] 1628 (c_X12_named_60 hS _ e2) ok_X12_named (by decide +kernel) rfl (fun r g1 hq => ?_)
      rw [hq.1, hq.2]
      show xW k S 0 0 88 [some (.ref 60), none] [.int w2.1, .ref 60] w2.2
      refine xb A [(.aload_n 0, 1, 0, 0, .null), (.getfield 46, 3, 60, 23, .ref 70), (.aload_n 0, 1, 0, 0, .null), (.getfield 230, 3, 60, 19, .int 0)] (pc' := 96) (ls' := [some (.ref 60), none]) (st' := [.int (w2.2.1 60 19), .ref 70, .int w2.1, .ref 60]) (g' := w2.2) (by decide +kernel) rfl ?_
      obtain ⟨h5, H⟩ := xg_elim H
      refine xiald A (nxt := 97) (by decide +kernel) (hS _ _ sh_70) h5 ?_
      show xW k S 0 0 97 [some (.ref 60), none] [.int (w2.2.1 70 (w2.2.1 60 19).toNatClampNeg), .int w2.1, .ref 60] w2.2
      obtain ⟨w3, e3, H⟩ := xbind H
      refine xcallV A (ix := 259) (nxt := 100) hrm hz [.int w2.1, .int (w2.2.1 70 (w2.2.1 60 19).toNatClampNeg)] [] 1640 (c_X12_endsName_60 hS _ e3) ok_X12_endsName (by decide +kernel) rfl (fun r g1 hq => ?_)
      rw [hq.1, hq.2]
      show xW k S 0 0 100 [some (.ref 60), none] [] w3
      refine xb A [(.aload_n 0, 1, 0, 0, .null), (.getfield 197, 3, 60, 13, .int 0)] (pc' := 104) (ls' := [some (.ref 60), none]) (st' := [.int (w3.1 60 13)]) (g' := w3) (by decide +kernel) rfl ?_
      refine xif_ne A (184) 288 107 (by decide +kernel) (fun h6 => ?_) (fun h6 => ?_)
      · rw [if_neg h6] at H
        obtain rfl := Option.some.inj H
        exact xret_v A hR hz (by decide +kernel) ⟨rfl, rfl⟩
      · rw [if_pos h6] at H
        refine xb A [(.aload_n 0, 1, 0, 0, .null), (.getfield 46, 3, 60, 23, .ref 70), (.aload_n 0, 1, 0, 0, .null), (.getfield 230, 3, 60, 19, .int 0), (.dup2, 1, 0, 0, .null)] (pc' := 116) (ls' := [some (.ref 60), none]) (st' := [.int (w3.1 60 19), .ref 70, .int (w3.1 60 19), .ref 70]) (g' := w3) (by decide +kernel) rfl ?_
        obtain ⟨h7, H⟩ := xg_elim H
        refine xiald A (nxt := 117) (by decide +kernel) (hS _ _ sh_70) h7 ?_
        show xW k S 0 0 117 [some (.ref 60), none] [.int (w3.1 70 (w3.1 60 19).toNatClampNeg), .int (w3.1 60 19), .ref 70] w3
        refine xb A [(.iconst 1, 1, 0, 0, .int 1), (.iadd, 1, 0, 0, .null)] (pc' := 119) (ls' := [some (.ref 60), none]) (st' := [.int ((w3.1 70 (w3.1 60 19).toNatClampNeg) + 1), .int (w3.1 60 19), .ref 70]) (g' := w3) (by decide +kernel) rfl ?_
        obtain ⟨h8, H⟩ := xg_elim H
        refine xiast A (nxt := 120) (by decide +kernel) (hS _ _ sh_70) h8 ?_
        show xW k S 0 0 120 [some (.ref 60), none] [] (xupd w3.1 70 (w3.1 60 19).toNatClampNeg ((w3.1 70 (w3.1 60 19).toNatClampNeg) + 1), w3.2)
        refine xgoto A (168) 288 (by decide +kernel) ?_
        obtain rfl := Option.some.inj H
        exact xret_v A hR hz (by decide +kernel) ⟨rfl, rfl⟩
    · rw [if_neg h4] at H
      obtain rfl := Option.some.inj H
      exact xret_v A hR hz (by decide +kernel) ⟨rfl, rfl⟩
  · rw [if_neg h2] at H
    by_cases h9 : (g.1 63 (g.1 60 11).toNatClampNeg) = 21
    · rw [if_pos h9] at H
      refine xtabIn A (dflt := 226) (lo := 20) (hi := 28) (off := 114) (offs := #[(51), (114), (143), (172), (226), (226), (226), (226), (197)]) (len := 51) (tgt := 123) (21) (by rw [h9]; rfl) (by decide +kernel) ?_
      refine xb A [(.aload_n 0, 1, 0, 0, .null), (.aload_n 0, 1, 0, 0, .null), (.getfield 49, 3, 60, 24, .ref 71), (.aload_n 0, 1, 0, 0, .null), (.getfield 230, 3, 60, 19, .int 0)] (pc' := 132) (ls' := [some (.ref 60), none]) (st' := [.int (g.1 60 19), .ref 71, .ref 60]) (g' := g) (by decide +kernel) rfl ?_
      obtain ⟨h10, H⟩ := xg_elim H
      refine xiald A (nxt := 133) (by decide +kernel) (hS _ _ sh_71) h10 ?_
      show xW k S 0 0 133 [some (.ref 60), none] [.int (g.1 71 (g.1 60 19).toNatClampNeg), .ref 60] g
      refine xb A [(.bipush 10, 2, 0, 0, .int 10)] (pc' := 135) (ls' := [some (.ref 60), none]) (st' := [.int 10, .int (g.1 71 (g.1 60 19).toNatClampNeg), .ref 60]) (g' := g) (by decide +kernel) rfl ?_
      obtain ⟨w4, e4, H⟩ := xbind H
      refine xcallV A (ix := 251) (nxt := 138) hrm hz [.int (g.1 71 (g.1 60 19).toNatClampNeg), .int 10] [] 1616 (c_X12_roomFor_60 hS _ e4) ok_X12_roomFor (by decide +kernel) rfl (fun r g1 hq => ?_)
      rw [hq.1, hq.2]
      show xW k S 0 0 138 [some (.ref 60), none] [] w4
      refine xb A [(.aload_n 0, 1, 0, 0, .null), (.getfield 197, 3, 60, 13, .int 0)] (pc' := 142) (ls' := [some (.ref 60), none]) (st' := [.int (w4.1 60 13)]) (g' := w4) (by decide +kernel) rfl ?_
      refine xif_ne A (146) 288 145 (by decide +kernel) (fun h11 => ?_) (fun h11 => ?_)
      · rw [if_neg h11] at H
        obtain rfl := Option.some.inj H
        exact xret_v A hR hz (by decide +kernel) ⟨rfl, rfl⟩
      · rw [if_pos h11] at H
        refine xb A [(.aload_n 0, 1, 0, 0, .null)] (pc' := 146) (ls' := [some (.ref 60), none]) (st' := [.ref 60]) (g' := w4) (by decide +kernel) rfl ?_
        obtain ⟨w5, e5, H⟩ := xbind H
        refine xcallV A (ix := 262) (nxt := 149) hrm hz [] [] 1644 (c_X12_tellRoad_60 hS _ e5) ok_X12_tellRoad (by decide +kernel) rfl (fun r g1 hq => ?_)
        rw [hq.1, hq.2]
        show xW k S 0 0 149 [some (.ref 60), none] [] w5
        refine xgoto A (139) 288 (by decide +kernel) ?_
        obtain rfl := Option.some.inj H
        exact xret_v A hR hz (by decide +kernel) ⟨rfl, rfl⟩
    · rw [if_neg h9] at H
      by_cases h12 : (g.1 63 (g.1 60 11).toNatClampNeg) = 22
      · rw [if_pos h12] at H
        refine xtabIn A (dflt := 226) (lo := 20) (hi := 28) (off := 143) (offs := #[(51), (114), (143), (172), (226), (226), (226), (226), (197)]) (len := 51) (tgt := 152) (22) (by rw [h12]; rfl) (by decide +kernel) ?_
        refine xb A [(.aload_n 0, 1, 0, 0, .null), (.aload_n 0, 1, 0, 0, .null), (.getfield 61, 3, 60, 28, .ref 75), (.aload_n 0, 1, 0, 0, .null), (.getfield 230, 3, 60, 19, .int 0)] (pc' := 161) (ls' := [some (.ref 60), none]) (st' := [.int (g.1 60 19), .ref 75, .ref 60]) (g' := g) (by decide +kernel) rfl ?_
        obtain ⟨h13, H⟩ := xg_elim H
        refine xiald A (nxt := 162) (by decide +kernel) (hS _ _ sh_75) h13 ?_
        show xW k S 0 0 162 [some (.ref 60), none] [.int (g.1 75 (g.1 60 19).toNatClampNeg), .ref 60] g
        refine xb A [(.bipush 6, 2, 0, 0, .int 6)] (pc' := 164) (ls' := [some (.ref 60), none]) (st' := [.int 6, .int (g.1 75 (g.1 60 19).toNatClampNeg), .ref 60]) (g' := g) (by decide +kernel) rfl ?_
        obtain ⟨w6, e6, H⟩ := xbind H
        refine xcallV A (ix := 251) (nxt := 167) hrm hz [.int (g.1 75 (g.1 60 19).toNatClampNeg), .int 6] [] 1616 (c_X12_roomFor_60 hS _ e6) ok_X12_roomFor (by decide +kernel) rfl (fun r g1 hq => ?_)
        rw [hq.1, hq.2]
        show xW k S 0 0 167 [some (.ref 60), none] [] w6
        refine xb A [(.aload_n 0, 1, 0, 0, .null), (.getfield 197, 3, 60, 13, .int 0)] (pc' := 171) (ls' := [some (.ref 60), none]) (st' := [.int (w6.1 60 13)]) (g' := w6) (by decide +kernel) rfl ?_
        refine xif_ne A (117) 288 174 (by decide +kernel) (fun h14 => ?_) (fun h14 => ?_)
        · rw [if_neg h14] at H
          obtain rfl := Option.some.inj H
          exact xret_v A hR hz (by decide +kernel) ⟨rfl, rfl⟩
        · rw [if_pos h14] at H
          refine xb A [(.aload_n 0, 1, 0, 0, .null)] (pc' := 175) (ls' := [some (.ref 60), none]) (st' := [.ref 60]) (g' := w6) (by decide +kernel) rfl ?_
          obtain ⟨w7, e7, H⟩ := xbind H
          refine xcallV A (ix := 265) (nxt := 178) hrm hz [] [] 1656 (c_X12_tellPerson_60 hS _ e7) ok_X12_tellPerson (by decide +kernel) rfl (fun r g1 hq => ?_)
          rw [hq.1, hq.2]
          show xW k S 0 0 178 [some (.ref 60), none] [] w7
          refine xgoto A (110) 288 (by decide +kernel) ?_
          obtain rfl := Option.some.inj H
          exact xret_v A hR hz (by decide +kernel) ⟨rfl, rfl⟩
      · rw [if_neg h12] at H
        by_cases h15 : (g.1 63 (g.1 60 11).toNatClampNeg) = 23
        · rw [if_pos h15] at H
          refine xtabIn A (dflt := 226) (lo := 20) (hi := 28) (off := 172) (offs := #[(51), (114), (143), (172), (226), (226), (226), (226), (197)]) (len := 51) (tgt := 181) (23) (by rw [h15]; rfl) (by decide +kernel) ?_
          refine xb A [(.aload_n 0, 1, 0, 0, .null)] (pc' := 182) (ls' := [some (.ref 60), none]) (st' := [.ref 60]) (g' := g) (by decide +kernel) rfl ?_
          obtain ⟨w8, e8, H⟩ := xbind H
          refine xcallV A (ix := 218) (nxt := 185) hrm hz [] [] 1624 (c_X12_goesOn_60 hS _ e8) ok_X12_goesOn (by decide +kernel) rfl (fun r g1 hq => ?_)
          rw [hq.1, hq.2]
          show xW k S 0 0 185 [some (.ref 60), none] [] w8
          refine xb A [(.aload_n 0, 1, 0, 0, .null), (.getfield 73, 3, 60, 32, .ref 79), (.aload_n 0, 1, 0, 0, .null), (.getfield 230, 3, 60, 19, .int 0), (.aload_n 0, 1, 0, 0, .null)] (pc' := 194) (ls' := [some (.ref 60), none]) (st' := [.ref 60, .int (w8.1 60 19), .ref 79]) (g' := w8) (by decide +kernel) rfl ?_
          obtain ⟨w9, e9, H⟩ := xbind H
          refine xcallV A (ix := 268) (nxt := 197) hrm hz [] [.int (w8.1 60 19), .ref 79] 1648 (c_X12_known_60 hS _ e9) ok_X12_known (by decide +kernel) rfl (fun r g1 hq => ?_)
          rw [hq.1, hq.2]
          show xW k S 0 0 197 [some (.ref 60), none] [.int w9.1, .int (w8.1 60 19), .ref 79] w9.2
          obtain ⟨h16, H⟩ := xg_elim H
          refine xiast A (nxt := 198) (by decide +kernel) (hS _ _ sh_79) h16 ?_
          show xW k S 0 0 198 [some (.ref 60), none] [] (xupd w9.2.1 79 (w8.1 60 19).toNatClampNeg w9.1, w9.2.2)
          refine xb A [(.aload_n 0, 1, 0, 0, .null), (.iconst 4, 1, 0, 0, .int 4)] (pc' := 200) (ls' := [some (.ref 60), none]) (st' := [.int 4, .ref 60]) (g' := (xupd w9.2.1 79 (w8.1 60 19).toNatClampNeg w9.1, w9.2.2)) (by decide +kernel) rfl ?_
          obtain ⟨w10, e10, H⟩ := xbind H
          refine xcallV A (ix := 271) (nxt := 203) hrm hz [.int 4] [] 1632 (c_X12_must_60 hS _ e10) ok_X12_must (by decide +kernel) rfl (fun r g1 hq => ?_)
          rw [hq.1, hq.2]
          show xW k S 0 0 203 [some (.ref 60), none] [] w10
          refine xgoto A (85) 288 (by decide +kernel) ?_
          obtain rfl := Option.some.inj H
          exact xret_v A hR hz (by decide +kernel) ⟨rfl, rfl⟩
        · rw [if_neg h15] at H
          by_cases h17 : (g.1 63 (g.1 60 11).toNatClampNeg) = 24
          · rw [if_pos h17] at H
            refine xtabIn A (dflt := 226) (lo := 20) (hi := 28) (off := 226) (offs := #[(51), (114), (143), (172), (226), (226), (226), (226), (197)]) (len := 51) (tgt := 235) (24) (by rw [h17]; rfl) (by decide +kernel) ?_
            exact t_X12_tellOne_60_235 hS A hR hrm hz _ H
          · rw [if_neg h17] at H
            by_cases h24 : (g.1 63 (g.1 60 11).toNatClampNeg) = 25
            · rw [if_pos h24] at H
              refine xtabIn A (dflt := 226) (lo := 20) (hi := 28) (off := 226) (offs := #[(51), (114), (143), (172), (226), (226), (226), (226), (197)]) (len := 51) (tgt := 235) (25) (by rw [h24]; rfl) (by decide +kernel) ?_
              exact t_X12_tellOne_60_235 hS A hR hrm hz _ H
            · rw [if_neg h24] at H
              by_cases h25 : (g.1 63 (g.1 60 11).toNatClampNeg) = 26
              · rw [if_pos h25] at H
                refine xtabIn A (dflt := 226) (lo := 20) (hi := 28) (off := 226) (offs := #[(51), (114), (143), (172), (226), (226), (226), (226), (197)]) (len := 51) (tgt := 235) (26) (by rw [h25]; rfl) (by decide +kernel) ?_
                exact t_X12_tellOne_60_235 hS A hR hrm hz _ H
              · rw [if_neg h25] at H
                by_cases h26 : (g.1 63 (g.1 60 11).toNatClampNeg) = 27
                · rw [if_pos h26] at H
                  refine xtabIn A (dflt := 226) (lo := 20) (hi := 28) (off := 226) (offs := #[(51), (114), (143), (172), (226), (226), (226), (226), (197)]) (len := 51) (tgt := 235) (27) (by rw [h26]; rfl) (by decide +kernel) ?_
                  exact t_X12_tellOne_60_235 hS A hR hrm hz _ H
                · rw [if_neg h26] at H
                  by_cases h27 : (g.1 63 (g.1 60 11).toNatClampNeg) = 28
                  · rw [if_pos h27] at H
                    refine xtabIn A (dflt := 226) (lo := 20) (hi := 28) (off := 197) (offs := #[(51), (114), (143), (172), (226), (226), (226), (226), (197)]) (len := 51) (tgt := 206) (28) (by rw [h27]; rfl) (by decide +kernel) ?_
                    refine xb A [(.aload_n 0, 1, 0, 0, .null)] (pc' := 207) (ls' := [some (.ref 60), none]) (st' := [.ref 60]) (g' := g) (by decide +kernel) rfl ?_
                    obtain ⟨w16, e16, H⟩ := xbind H
                    refine xcallV A (ix := 218) (nxt := 210) hrm hz [] [] 1624 (c_X12_goesOn_60 hS _ e16) ok_X12_goesOn (by decide +kernel) rfl (fun r g1 hq => ?_)
                    rw [hq.1, hq.2]
                    show xW k S 0 0 210 [some (.ref 60), none] [] w16
                    refine xb A [(.aload_n 0, 1, 0, 0, .null), (.getfield 76, 3, 60, 33, .ref 80), (.aload_n 0, 1, 0, 0, .null), (.getfield 230, 3, 60, 19, .int 0), (.aload_n 0, 1, 0, 0, .null), (.iconst 0, 1, 0, 0, .int 0), (.sipush 9999, 3, 0, 0, .int 9999)] (pc' := 223) (ls' := [some (.ref 60), none]) (st' := [.int 9999, .int 0, .ref 60, .int (w16.1 60 19), .ref 80]) (g' := w16) (by decide +kernel) rfl ?_
                    obtain ⟨w17, e17, H⟩ := xbind H
                    refine xcallV A (ix := 274) (nxt := 226) hrm hz [.int 0, .int 9999] [.int (w16.1 60 19), .ref 80] 1652 (c_X12_bounded_60 hS _ e17) ok_X12_bounded (by decide +kernel) rfl (fun r g1 hq => ?_)
                    rw [hq.1, hq.2]
                    show xW k S 0 0 226 [some (.ref 60), none] [.int w17.1, .int (w16.1 60 19), .ref 80] w17.2
                    obtain ⟨h28, H⟩ := xg_elim H
                    refine xiast A (nxt := 227) (by decide +kernel) (hS _ _ sh_80) h28 ?_
                    show xW k S 0 0 227 [some (.ref 60), none] [] (xupd w17.2.1 80 (w16.1 60 19).toNatClampNeg w17.1, w17.2.2)
                    refine xb A [(.aload_n 0, 1, 0, 0, .null), (.iconst 4, 1, 0, 0, .int 4)] (pc' := 229) (ls' := [some (.ref 60), none]) (st' := [.int 4, .ref 60]) (g' := (xupd w17.2.1 80 (w16.1 60 19).toNatClampNeg w17.1, w17.2.2)) (by decide +kernel) rfl ?_
                    obtain ⟨w18, e18, H⟩ := xbind H
                    refine xcallV A (ix := 271) (nxt := 232) hrm hz [.int 4] [] 1632 (c_X12_must_60 hS _ e18) ok_X12_must (by decide +kernel) rfl (fun r g1 hq => ?_)
                    rw [hq.1, hq.2]
                    show xW k S 0 0 232 [some (.ref 60), none] [] w18
                    refine xgoto A (56) 288 (by decide +kernel) ?_
                    obtain rfl := Option.some.inj H
                    exact xret_v A hR hz (by decide +kernel) ⟨rfl, rfl⟩
                  · rw [if_neg h27] at H
                    refine xtabOut A (dflt := 226) (lo := 20) (hi := 28) (offs := #[(51), (114), (143), (172), (226), (226), (226), (226), (197)]) (len := 51) (tgt := 235) (by decide +kernel) ?_ ?_
                    · have e0 := lv_neT (a := 20) h2 rfl; have e1 := lv_neT (a := 21) h9 rfl; have e2 := lv_neT (a := 22) h12 rfl; have e3 := lv_neT (a := 23) h15 rfl; have e4 := lv_neT (a := 24) h17 rfl; have e5 := lv_neT (a := 25) h24 rfl; have e6 := lv_neT (a := 26) h25 rfl; have e7 := lv_neT (a := 27) h26 rfl; have e8 := lv_neT (a := 28) h27 rfl; omega
                    · skip
                      exact t_X12_tellOne_60_235 hS A hR hrm hz _ H
theorem fr_X12_tellOne_60  {g : xG} (out : xG) (H : f_X12_tellOne_60  g = some out) : xfrm fp_X12_tellOne_60 g (out) := by
  have H : (xg (¬ ((g.1 60 11) < 0 ∨ 403 ≤ (g.1 60 11).toNatClampNeg)) (
  if (g.1 63 (g.1 60 11).toNatClampNeg) = 20 then
    xg (¬ ((g.1 60 19) < 0 ∨ 2 ≤ (g.1 60 19).toNatClampNeg)) (
      (f_X12_roomFor_60 (g.1 70 (g.1 60 19).toNatClampNeg) 7 g).bind fun w1 =>
      if (w1.1 60 13) ≤ 0 then
        (f_X12_named_60 w1).bind fun w2 =>
        xg (¬ ((w2.2.1 60 19) < 0 ∨ 2 ≤ (w2.2.1 60 19).toNatClampNeg)) (
          (f_X12_endsName_60 w2.1 (w2.2.1 70 (w2.2.1 60 19).toNatClampNeg) w2.2).bind fun w3 =>
          if (w3.1 60 13) = 0 then
            xg (¬ ((w3.1 60 19) < 0 ∨ 2 ≤ (w3.1 60 19).toNatClampNeg)) (
              xg (¬ ((w3.1 60 19) < 0 ∨ 2 ≤ (w3.1 60 19).toNatClampNeg)) (
                some (xupd w3.1 70 (w3.1 60 19).toNatClampNeg ((w3.1 70 (w3.1 60 19).toNatClampNeg) + 1), w3.2)))
          else
            some w3)
      else
        some w1)
  else
    if (g.1 63 (g.1 60 11).toNatClampNeg) = 21 then
      xg (¬ ((g.1 60 19) < 0 ∨ 2 ≤ (g.1 60 19).toNatClampNeg)) (
        (f_X12_roomFor_60 (g.1 71 (g.1 60 19).toNatClampNeg) 10 g).bind fun w4 =>
        if (w4.1 60 13) = 0 then
          (f_X12_tellRoad_60 w4).bind fun w5 =>
          some w5
        else
          some w4)
    else
      if (g.1 63 (g.1 60 11).toNatClampNeg) = 22 then
        xg (¬ ((g.1 60 19) < 0 ∨ 2 ≤ (g.1 60 19).toNatClampNeg)) (
          (f_X12_roomFor_60 (g.1 75 (g.1 60 19).toNatClampNeg) 6 g).bind fun w6 =>
          if (w6.1 60 13) = 0 then
            (f_X12_tellPerson_60 w6).bind fun w7 =>
            some w7
          else
            some w6)
      else
        if (g.1 63 (g.1 60 11).toNatClampNeg) = 23 then
          (f_X12_goesOn_60 g).bind fun w8 =>
          (f_X12_known_60 w8).bind fun w9 =>
          xg (¬ ((w8.1 60 19) < 0 ∨ 2 ≤ (w8.1 60 19).toNatClampNeg)) (
            (f_X12_must_60 4 (xupd w9.2.1 79 (w8.1 60 19).toNatClampNeg w9.1, w9.2.2)).bind fun w10 =>
            some w10)
        else
          if (g.1 63 (g.1 60 11).toNatClampNeg) = 24 then
            f_X12_tellOne_60_235 g
          else
            if (g.1 63 (g.1 60 11).toNatClampNeg) = 25 then
              f_X12_tellOne_60_235 g
            else
              if (g.1 63 (g.1 60 11).toNatClampNeg) = 26 then
                f_X12_tellOne_60_235 g
              else
                if (g.1 63 (g.1 60 11).toNatClampNeg) = 27 then
                  f_X12_tellOne_60_235 g
                else
                  if (g.1 63 (g.1 60 11).toNatClampNeg) = 28 then
                    (f_X12_goesOn_60 g).bind fun w16 =>
                    (f_X12_bounded_60 0 9999 w16).bind fun w17 =>
                    xg (¬ ((w16.1 60 19) < 0 ∨ 2 ≤ (w16.1 60 19).toNatClampNeg)) (
                      (f_X12_must_60 4 (xupd w17.2.1 80 (w16.1 60 19).toNatClampNeg w17.1, w17.2.2)).bind fun w18 =>
                      some w18)
                  else
                    f_X12_tellOne_60_235 g)) = some out := H
  obtain ⟨h1, H⟩ := xg_elim H
  by_cases h2 : (g.1 63 (g.1 60 11).toNatClampNeg) = 20
  · rw [if_pos h2] at H
    obtain ⟨h3, H⟩ := xg_elim H
    obtain ⟨w1, e1, H⟩ := xbind H
    have hf1 : xfrm fp_X12_tellOne_60 g (w1) := xfrm.tr xfrm.rf (fr_X12_roomFor_60 _ e1) rfl
    by_cases h4 : (w1.1 60 13) ≤ 0
    · rw [if_pos h4] at H
      obtain ⟨w2, e2, H⟩ := xbind H
      have hf2 : xfrm fp_X12_tellOne_60 g (w2.2) := xfrm.tr hf1 (fr_X12_named_60 _ e2) rfl
      obtain ⟨h5, H⟩ := xg_elim H
      obtain ⟨w3, e3, H⟩ := xbind H
      have hf3 : xfrm fp_X12_tellOne_60 g (w3) := xfrm.tr hf2 (fr_X12_endsName_60 _ e3) rfl
      by_cases h6 : (w3.1 60 13) = 0
      · rw [if_pos h6] at H
        obtain ⟨h7, H⟩ := xg_elim H
        obtain ⟨h8, H⟩ := xg_elim H
        have hf4 : xfrm fp_X12_tellOne_60 g ((xupd w3.1 70 (w3.1 60 19).toNatClampNeg ((w3.1 70 (w3.1 60 19).toNatClampNeg) + 1), w3.2)) := xfrm.ua hf3 rfl
        obtain rfl := Option.some.inj H
        exact hf4
      · rw [if_neg h6] at H
        obtain rfl := Option.some.inj H
        exact hf3
    · rw [if_neg h4] at H
      obtain rfl := Option.some.inj H
      exact hf1
  · rw [if_neg h2] at H
    by_cases h9 : (g.1 63 (g.1 60 11).toNatClampNeg) = 21
    · rw [if_pos h9] at H
      obtain ⟨h10, H⟩ := xg_elim H
      obtain ⟨w4, e4, H⟩ := xbind H
      have hf5 : xfrm fp_X12_tellOne_60 g (w4) := xfrm.tr xfrm.rf (fr_X12_roomFor_60 _ e4) rfl
      by_cases h11 : (w4.1 60 13) = 0
      · rw [if_pos h11] at H
        obtain ⟨w5, e5, H⟩ := xbind H
        have hf6 : xfrm fp_X12_tellOne_60 g (w5) := xfrm.tr hf5 (fr_X12_tellRoad_60 _ e5) rfl
        obtain rfl := Option.some.inj H
        exact hf6
      · rw [if_neg h11] at H
        obtain rfl := Option.some.inj H
        exact hf5
    · rw [if_neg h9] at H
      by_cases h12 : (g.1 63 (g.1 60 11).toNatClampNeg) = 22
      · rw [if_pos h12] at H
        obtain ⟨h13, H⟩ := xg_elim H
        obtain ⟨w6, e6, H⟩ := xbind H
        have hf7 : xfrm fp_X12_tellOne_60 g (w6) := xfrm.tr xfrm.rf (fr_X12_roomFor_60 _ e6) rfl
        by_cases h14 : (w6.1 60 13) = 0
        · rw [if_pos h14] at H
          obtain ⟨w7, e7, H⟩ := xbind H
          have hf8 : xfrm fp_X12_tellOne_60 g (w7) := xfrm.tr hf7 (fr_X12_tellPerson_60 _ e7) rfl
          obtain rfl := Option.some.inj H
          exact hf8
        · rw [if_neg h14] at H
          obtain rfl := Option.some.inj H
          exact hf7
      · rw [if_neg h12] at H
        by_cases h15 : (g.1 63 (g.1 60 11).toNatClampNeg) = 23
        · rw [if_pos h15] at H
          obtain ⟨w8, e8, H⟩ := xbind H
          have hf9 : xfrm fp_X12_tellOne_60 g (w8) := xfrm.tr xfrm.rf (fr_X12_goesOn_60 _ e8) rfl
          obtain ⟨w9, e9, H⟩ := xbind H
          have hf10 : xfrm fp_X12_tellOne_60 g (w9.2) := xfrm.tr hf9 (fr_X12_known_60 _ e9) rfl
          obtain ⟨h16, H⟩ := xg_elim H
          have hf11 : xfrm fp_X12_tellOne_60 g ((xupd w9.2.1 79 (w8.1 60 19).toNatClampNeg w9.1, w9.2.2)) := xfrm.ua hf10 rfl
          obtain ⟨w10, e10, H⟩ := xbind H
          have hf12 : xfrm fp_X12_tellOne_60 g (w10) := xfrm.tr hf11 (fr_X12_must_60 _ e10) rfl
          obtain rfl := Option.some.inj H
          exact hf12
        · rw [if_neg h15] at H
          by_cases h17 : (g.1 63 (g.1 60 11).toNatClampNeg) = 24
          · rw [if_pos h17] at H
            exact xfrm.tr xfrm.rf (fr_X12_tellOne_60_235 _ _ H) rfl
          · rw [if_neg h17] at H
            by_cases h24 : (g.1 63 (g.1 60 11).toNatClampNeg) = 25
            · rw [if_pos h24] at H
              exact xfrm.tr xfrm.rf (fr_X12_tellOne_60_235 _ _ H) rfl
            · rw [if_neg h24] at H
              by_cases h25 : (g.1 63 (g.1 60 11).toNatClampNeg) = 26
              · rw [if_pos h25] at H
                exact xfrm.tr xfrm.rf (fr_X12_tellOne_60_235 _ _ H) rfl
              · rw [if_neg h25] at H
                by_cases h26 : (g.1 63 (g.1 60 11).toNatClampNeg) = 27
                · rw [if_pos h26] at H
                  exact xfrm.tr xfrm.rf (fr_X12_tellOne_60_235 _ _ H) rfl
                · rw [if_neg h26] at H
                  by_cases h27 : (g.1 63 (g.1 60 11).toNatClampNeg) = 28
                  · rw [if_pos h27] at H
                    obtain ⟨w16, e16, H⟩ := xbind H
                    have hf18 : xfrm fp_X12_tellOne_60 g (w16) := xfrm.tr xfrm.rf (fr_X12_goesOn_60 _ e16) rfl
                    obtain ⟨w17, e17, H⟩ := xbind H
                    have hf19 : xfrm fp_X12_tellOne_60 g (w17.2) := xfrm.tr hf18 (fr_X12_bounded_60 _ e17) rfl
                    obtain ⟨h28, H⟩ := xg_elim H
                    have hf20 : xfrm fp_X12_tellOne_60 g ((xupd w17.2.1 80 (w16.1 60 19).toNatClampNeg w17.1, w17.2.2)) := xfrm.ua hf19 rfl
                    obtain ⟨w18, e18, H⟩ := xbind H
                    have hf21 : xfrm fp_X12_tellOne_60 g (w18) := xfrm.tr hf20 (fr_X12_must_60 _ e18) rfl
                    obtain rfl := Option.some.inj H
                    exact hf21
                  · rw [if_neg h27] at H
                    exact xfrm.tr xfrm.rf (fr_X12_tellOne_60_235 _ _ H) rfl
def fp_X12_begins_60 : List (Nat × Option Nat) := [(60, some 52), (60, some 53), (94, none)]
def f_X12_begins_60_40  : Nat → Int32 → xG → Option (xG)
  | 0, _, _ => none
  | n + 1, l1, g =>
    xg (¬ ((g.1 60 18) < 0 ∨ 2 ≤ (g.1 60 18).toNatClampNeg)) (
      if (g.1 75 (g.1 60 18).toNatClampNeg) ≤ l1 then
        xg (¬ ((38 : Int32) < 0 ∨ 40 ≤ (38 : Int32).toNatClampNeg)) (
          xg (¬ ((g.1 60 18) < 0 ∨ 2 ≤ (g.1 60 18).toNatClampNeg)) (
            some (xupd (xupd (xupd g.1 94 (38 : Int32).toNatClampNeg (-2)) 60 52 (g.1 80 (g.1 60 18).toNatClampNeg)) 60 53 0, g.2)))
      else
        xg (¬ (((6 * (g.1 60 18)) + l1) < 0 ∨ 12 ≤ ((6 * (g.1 60 18)) + l1).toNatClampNeg)) (
          xg (¬ (l1 < 0 ∨ 40 ≤ l1.toNatClampNeg)) (
            f_X12_begins_60_40 n (l1 + 1) (xupd g.1 94 l1.toNatClampNeg (g.1 78 ((6 * (g.1 60 18)) + l1).toNatClampNeg), g.2))))
def f_X12_begins_60_2  : Nat → Int32 → xG → Option (xG)
  | 0, _, _ => none
  | n + 1, l1, g =>
    if 40 ≤ l1 then
      f_X12_begins_60_40 xN 0 g
    else
      if l1 < 6 then
        xg (¬ (l1 < 0 ∨ 40 ≤ l1.toNatClampNeg)) (
          f_X12_begins_60_2 n (l1 + 1) (xupd g.1 94 l1.toNatClampNeg 0, g.2))
      else
        if 12 ≤ l1 then
          xg (¬ (l1 < 0 ∨ 40 ≤ l1.toNatClampNeg)) (
            f_X12_begins_60_2 n (l1 + 1) (xupd g.1 94 l1.toNatClampNeg 0, g.2))
        else
          xg (¬ (l1 < 0 ∨ 40 ≤ l1.toNatClampNeg)) (
            f_X12_begins_60_2 n (l1 + 1) (xupd g.1 94 l1.toNatClampNeg (-2), g.2))
def f_X12_begins_60  (g : xG) : Option (xG) :=
  f_X12_begins_60_2 xN 0 g
set_option maxRecDepth 20000 in
theorem t_X12_begins_60_40 {k : xK} {S : List xSh} {out : xG} (hS : xpf SH2 S) (A : xAt k mX12_begins.2.1 12 SH2 S) (hR : xRet k 0 0 S (fun r g' => r = none ∧ g' = out) mX12_begins.2.2.2) (hrm : xrm k = { frames := 0, cells := 0, slots := 0, locals := 0 }) (hz : xhs k = xb0 k + S.length)   : ∀ (n : Nat) (l1 : Int32) (g : xG), f_X12_begins_60_40 n l1 g = some out → xW k S 0 0 40 [some (.ref 60), some (.int l1)] [] g := by
  intro n
  induction n with
  | zero => intro l1 g H; exact absurd H (by simp [f_X12_begins_60_40])
  | succ n ih =>
    intro l1 g H
    have H : (xg (¬ ((g.1 60 18) < 0 ∨ 2 ≤ (g.1 60 18).toNatClampNeg)) (
  if (g.1 75 (g.1 60 18).toNatClampNeg) ≤ l1 then
    xg (¬ ((38 : Int32) < 0 ∨ 40 ≤ (38 : Int32).toNatClampNeg)) (
      xg (¬ ((g.1 60 18) < 0 ∨ 2 ≤ (g.1 60 18).toNatClampNeg)) (
        some (xupd (xupd (xupd g.1 94 (38 : Int32).toNatClampNeg (-2)) 60 52 (g.1 80 (g.1 60 18).toNatClampNeg)) 60 53 0, g.2)))
  else
    xg (¬ (((6 * (g.1 60 18)) + l1) < 0 ∨ 12 ≤ ((6 * (g.1 60 18)) + l1).toNatClampNeg)) (
      xg (¬ (l1 < 0 ∨ 40 ≤ l1.toNatClampNeg)) (
        f_X12_begins_60_40 n (l1 + 1) (xupd g.1 94 l1.toNatClampNeg (g.1 78 ((6 * (g.1 60 18)) + l1).toNatClampNeg), g.2))))) = some out := H
    refine xb A [(.iload_n 1, 1, 0, 0, .null), (.aload_n 0, 1, 0, 0, .null), (.getfield 61, 3, 60, 28, .ref 75), (.aload_n 0, 1, 0, 0, .null), (.getfield 227, 3, 60, 18, .int 0)] (pc' := 49) (ls' := [some (.ref 60), some (.int l1)]) (st' := [.int (g.1 60 18), .ref 75, .int l1]) (g' := g) (by decide +kernel) rfl ?_
    obtain ⟨h2, H⟩ := xg_elim H
    refine xiald A (nxt := 50) (by decide +kernel) (hS _ _ sh_75) h2 ?_
    show xW k S 0 0 50 [some (.ref 60), some (.int l1)] [.int (g.1 75 (g.1 60 18).toNatClampNeg), .int l1] g
    refine xic_ge A (29) 79 53 (by decide +kernel) (fun h3 => ?_) (fun h3 => ?_)
    · rw [if_pos h3] at H
      refine xb A [(.aload_n 0, 1, 0, 0, .null), (.getfield 119, 3, 60, 51, .ref 94), (.bipush 38, 2, 0, 0, .int 38), (.bipush (-2), 2, 0, 0, .int (-2))] (pc' := 87) (ls' := [some (.ref 60), some (.int l1)]) (st' := [.int (-2), .int 38, .ref 94]) (g' := g) (by decide +kernel) rfl ?_
      obtain ⟨h4, H⟩ := xg_elim H
      refine xiast A (nxt := 88) (by decide +kernel) (hS _ _ sh_94) h4 ?_
      show xW k S 0 0 88 [some (.ref 60), some (.int l1)] [] (xupd g.1 94 (38 : Int32).toNatClampNeg (-2), g.2)
      refine xb A [(.aload_n 0, 1, 0, 0, .null), (.aload_n 0, 1, 0, 0, .null), (.getfield 76, 3, 60, 33, .ref 80), (.aload_n 0, 1, 0, 0, .null), (.getfield 227, 3, 60, 18, .int 0)] (pc' := 97) (ls' := [some (.ref 60), some (.int l1)]) (st' := [.int (g.1 60 18), .ref 80, .ref 60]) (g' := (xupd g.1 94 (38 : Int32).toNatClampNeg (-2), g.2)) (by decide +kernel) rfl ?_
      obtain ⟨h5, H⟩ := xg_elim H
      refine xiald A (nxt := 98) (by decide +kernel) (hS _ _ sh_80) h5 ?_
      show xW k S 0 0 98 [some (.ref 60), some (.int l1)] [.int (g.1 80 (g.1 60 18).toNatClampNeg), .ref 60] (xupd g.1 94 (38 : Int32).toNatClampNeg (-2), g.2)
      refine xb A [(.putfield 311, 3, 60, 52, .int 0), (.aload_n 0, 1, 0, 0, .null), (.iconst 0, 1, 0, 0, .int 0), (.putfield 314, 3, 60, 53, .int 1)] (pc' := 106) (ls' := [some (.ref 60), some (.int l1)]) (st' := []) (g' := (xupd (xupd (xupd g.1 94 (38 : Int32).toNatClampNeg (-2)) 60 52 (g.1 80 (g.1 60 18).toNatClampNeg)) 60 53 0, g.2)) (by decide +kernel) rfl ?_
      obtain rfl := Option.some.inj H
      exact xret_v A hR hz (by decide +kernel) ⟨rfl, rfl⟩
    · rw [if_neg h3] at H
      refine xb A [(.aload_n 0, 1, 0, 0, .null), (.getfield 119, 3, 60, 51, .ref 94), (.iload_n 1, 1, 0, 0, .null), (.aload_n 0, 1, 0, 0, .null), (.getfield 70, 3, 60, 31, .ref 78), (.bipush 6, 2, 0, 0, .int 6), (.aload_n 0, 1, 0, 0, .null), (.getfield 227, 3, 60, 18, .int 0), (.imul, 1, 0, 0, .null), (.iload_n 1, 1, 0, 0, .null), (.iadd, 1, 0, 0, .null)] (pc' := 71) (ls' := [some (.ref 60), some (.int l1)]) (st' := [.int ((6 * (g.1 60 18)) + l1), .ref 78, .int l1, .ref 94]) (g' := g) (by decide +kernel) rfl ?_
      obtain ⟨h6, H⟩ := xg_elim H
      refine xiald A (nxt := 72) (by decide +kernel) (hS _ _ sh_78) h6 ?_
      show xW k S 0 0 72 [some (.ref 60), some (.int l1)] [.int (g.1 78 ((6 * (g.1 60 18)) + l1).toNatClampNeg), .int l1, .ref 94] g
      obtain ⟨h7, H⟩ := xg_elim H
      refine xiast A (nxt := 73) (by decide +kernel) (hS _ _ sh_94) h7 ?_
      show xW k S 0 0 73 [some (.ref 60), some (.int l1)] [] (xupd g.1 94 l1.toNatClampNeg (g.1 78 ((6 * (g.1 60 18)) + l1).toNatClampNeg), g.2)
      refine xb A [(.iinc 1 1, 3, 0, 0, .null)] (pc' := 76) (ls' := [some (.ref 60), some (.int (l1 + 1))]) (st' := []) (g' := (xupd g.1 94 l1.toNatClampNeg (g.1 78 ((6 * (g.1 60 18)) + l1).toNatClampNeg), g.2)) (by decide +kernel) rfl ?_
      refine xgoto A (-36) 40 (by decide +kernel) ?_
      exact ih _ _ H
theorem fr_X12_begins_60_40   : ∀ (n : Nat) (l1 : Int32) (g : xG) (out : xG), f_X12_begins_60_40 n l1 g = some out → xfrm fp_X12_begins_60 g (out) := by
  intro n
  induction n with
  | zero => intro l1 g out H; exact absurd H (by simp [f_X12_begins_60_40])
  | succ n ih =>
    intro l1 g out H
    have H : (xg (¬ ((g.1 60 18) < 0 ∨ 2 ≤ (g.1 60 18).toNatClampNeg)) (
  if (g.1 75 (g.1 60 18).toNatClampNeg) ≤ l1 then
    xg (¬ ((38 : Int32) < 0 ∨ 40 ≤ (38 : Int32).toNatClampNeg)) (
      xg (¬ ((g.1 60 18) < 0 ∨ 2 ≤ (g.1 60 18).toNatClampNeg)) (
        some (xupd (xupd (xupd g.1 94 (38 : Int32).toNatClampNeg (-2)) 60 52 (g.1 80 (g.1 60 18).toNatClampNeg)) 60 53 0, g.2)))
  else
    xg (¬ (((6 * (g.1 60 18)) + l1) < 0 ∨ 12 ≤ ((6 * (g.1 60 18)) + l1).toNatClampNeg)) (
      xg (¬ (l1 < 0 ∨ 40 ≤ l1.toNatClampNeg)) (
        f_X12_begins_60_40 n (l1 + 1) (xupd g.1 94 l1.toNatClampNeg (g.1 78 ((6 * (g.1 60 18)) + l1).toNatClampNeg), g.2))))) = some out := H
    obtain ⟨h2, H⟩ := xg_elim H
    by_cases h3 : (g.1 75 (g.1 60 18).toNatClampNeg) ≤ l1
    · rw [if_pos h3] at H
      obtain ⟨h4, H⟩ := xg_elim H
      have hf1 : xfrm fp_X12_begins_60 g ((xupd g.1 94 (38 : Int32).toNatClampNeg (-2), g.2)) := xfrm.ua xfrm.rf rfl
      obtain ⟨h5, H⟩ := xg_elim H
      have hf2 : xfrm fp_X12_begins_60 g ((xupd (xupd g.1 94 (38 : Int32).toNatClampNeg (-2)) 60 52 (g.1 80 (g.1 60 18).toNatClampNeg), g.2)) := xfrm.up hf1 rfl
      have hf3 : xfrm fp_X12_begins_60 g ((xupd (xupd (xupd g.1 94 (38 : Int32).toNatClampNeg (-2)) 60 52 (g.1 80 (g.1 60 18).toNatClampNeg)) 60 53 0, g.2)) := xfrm.up hf2 rfl
      obtain rfl := Option.some.inj H
      exact hf3
    · rw [if_neg h3] at H
      obtain ⟨h6, H⟩ := xg_elim H
      obtain ⟨h7, H⟩ := xg_elim H
      have hf4 : xfrm fp_X12_begins_60 g ((xupd g.1 94 l1.toNatClampNeg (g.1 78 ((6 * (g.1 60 18)) + l1).toNatClampNeg), g.2)) := xfrm.ua xfrm.rf rfl
      exact xfrm.tr hf4 (ih _ _ _ H) rfl
set_option maxRecDepth 20000 in
theorem t_X12_begins_60_2 {k : xK} {S : List xSh} {out : xG} (hS : xpf SH2 S) (A : xAt k mX12_begins.2.1 12 SH2 S) (hR : xRet k 0 0 S (fun r g' => r = none ∧ g' = out) mX12_begins.2.2.2) (hrm : xrm k = { frames := 0, cells := 0, slots := 0, locals := 0 }) (hz : xhs k = xb0 k + S.length)   : ∀ (n : Nat) (l1 : Int32) (g : xG), f_X12_begins_60_2 n l1 g = some out → xW k S 0 0 2 [some (.ref 60), some (.int l1)] [] g := by
  intro n
  induction n with
  | zero => intro l1 g H; exact absurd H (by simp [f_X12_begins_60_2])
  | succ n ih =>
    intro l1 g H
    have H : (if 40 ≤ l1 then
  f_X12_begins_60_40 xN 0 g
else
  if l1 < 6 then
    xg (¬ (l1 < 0 ∨ 40 ≤ l1.toNatClampNeg)) (
      f_X12_begins_60_2 n (l1 + 1) (xupd g.1 94 l1.toNatClampNeg 0, g.2))
  else
    if 12 ≤ l1 then
      xg (¬ (l1 < 0 ∨ 40 ≤ l1.toNatClampNeg)) (
        f_X12_begins_60_2 n (l1 + 1) (xupd g.1 94 l1.toNatClampNeg 0, g.2))
    else
      xg (¬ (l1 < 0 ∨ 40 ≤ l1.toNatClampNeg)) (
        f_X12_begins_60_2 n (l1 + 1) (xupd g.1 94 l1.toNatClampNeg (-2), g.2))) = some out := H
    refine xb A [(.iload_n 1, 1, 0, 0, .null), (.bipush 40, 2, 0, 0, .int 40)] (pc' := 5) (ls' := [some (.ref 60), some (.int l1)]) (st' := [.int 40, .int l1]) (g' := g) (by decide +kernel) rfl ?_
    refine xic_ge A (33) 38 8 (by decide +kernel) (fun h1 => ?_) (fun h1 => ?_)
    · rw [if_pos h1] at H
      refine xb A [(.iconst 0, 1, 0, 0, .int 0), (.istore_n 1, 1, 0, 0, .null)] (pc' := 40) (ls' := [some (.ref 60), some (.int 0)]) (st' := []) (g' := g) (by decide +kernel) rfl ?_
      exact t_X12_begins_60_40 hS A hR hrm hz _ _ _ H
    · rw [if_neg h1] at H
      refine xb A [(.aload_n 0, 1, 0, 0, .null), (.getfield 119, 3, 60, 51, .ref 94), (.iload_n 1, 1, 0, 0, .null), (.iload_n 1, 1, 0, 0, .null), (.bipush 6, 2, 0, 0, .int 6)] (pc' := 16) (ls' := [some (.ref 60), some (.int l1)]) (st' := [.int 6, .int l1, .int l1, .ref 94]) (g' := g) (by decide +kernel) rfl ?_
      refine xic_lt A (14) 30 19 (by decide +kernel) (fun h8 => ?_) (fun h8 => ?_)
      · rw [if_pos h8] at H
        refine xb A [(.iconst 0, 1, 0, 0, .int 0)] (pc' := 31) (ls' := [some (.ref 60), some (.int l1)]) (st' := [.int 0, .int l1, .ref 94]) (g' := g) (by decide +kernel) rfl ?_
        obtain ⟨h9, H⟩ := xg_elim H
        refine xiast A (nxt := 32) (by decide +kernel) (hS _ _ sh_94) h9 ?_
        show xW k S 0 0 32 [some (.ref 60), some (.int l1)] [] (xupd g.1 94 l1.toNatClampNeg 0, g.2)
        refine xb A [(.iinc 1 1, 3, 0, 0, .null)] (pc' := 35) (ls' := [some (.ref 60), some (.int (l1 + 1))]) (st' := []) (g' := (xupd g.1 94 l1.toNatClampNeg 0, g.2)) (by decide +kernel) rfl ?_
        refine xgoto A (-33) 2 (by decide +kernel) ?_
        exact ih _ _ H
      · rw [if_neg h8] at H
        refine xb A [(.iload_n 1, 1, 0, 0, .null), (.bipush 12, 2, 0, 0, .int 12)] (pc' := 22) (ls' := [some (.ref 60), some (.int l1)]) (st' := [.int 12, .int l1, .int l1, .ref 94]) (g' := g) (by decide +kernel) rfl ?_
        refine xic_ge A (8) 30 25 (by decide +kernel) (fun h10 => ?_) (fun h10 => ?_)
        · rw [if_pos h10] at H
          refine xb A [(.iconst 0, 1, 0, 0, .int 0)] (pc' := 31) (ls' := [some (.ref 60), some (.int l1)]) (st' := [.int 0, .int l1, .ref 94]) (g' := g) (by decide +kernel) rfl ?_
          obtain ⟨h11, H⟩ := xg_elim H
          refine xiast A (nxt := 32) (by decide +kernel) (hS _ _ sh_94) h11 ?_
          show xW k S 0 0 32 [some (.ref 60), some (.int l1)] [] (xupd g.1 94 l1.toNatClampNeg 0, g.2)
          refine xb A [(.iinc 1 1, 3, 0, 0, .null)] (pc' := 35) (ls' := [some (.ref 60), some (.int (l1 + 1))]) (st' := []) (g' := (xupd g.1 94 l1.toNatClampNeg 0, g.2)) (by decide +kernel) rfl ?_
          refine xgoto A (-33) 2 (by decide +kernel) ?_
          exact ih _ _ H
        · rw [if_neg h10] at H
          refine xb A [(.bipush (-2), 2, 0, 0, .int (-2))] (pc' := 27) (ls' := [some (.ref 60), some (.int l1)]) (st' := [.int (-2), .int l1, .ref 94]) (g' := g) (by decide +kernel) rfl ?_
          refine xgoto A (4) 31 (by decide +kernel) ?_
          obtain ⟨h12, H⟩ := xg_elim H
          refine xiast A (nxt := 32) (by decide +kernel) (hS _ _ sh_94) h12 ?_
          show xW k S 0 0 32 [some (.ref 60), some (.int l1)] [] (xupd g.1 94 l1.toNatClampNeg (-2), g.2)
          refine xb A [(.iinc 1 1, 3, 0, 0, .null)] (pc' := 35) (ls' := [some (.ref 60), some (.int (l1 + 1))]) (st' := []) (g' := (xupd g.1 94 l1.toNatClampNeg (-2), g.2)) (by decide +kernel) rfl ?_
          refine xgoto A (-33) 2 (by decide +kernel) ?_
          exact ih _ _ H
theorem fr_X12_begins_60_2   : ∀ (n : Nat) (l1 : Int32) (g : xG) (out : xG), f_X12_begins_60_2 n l1 g = some out → xfrm fp_X12_begins_60 g (out) := by
  intro n
  induction n with
  | zero => intro l1 g out H; exact absurd H (by simp [f_X12_begins_60_2])
  | succ n ih =>
    intro l1 g out H
    have H : (if 40 ≤ l1 then
  f_X12_begins_60_40 xN 0 g
else
  if l1 < 6 then
    xg (¬ (l1 < 0 ∨ 40 ≤ l1.toNatClampNeg)) (
      f_X12_begins_60_2 n (l1 + 1) (xupd g.1 94 l1.toNatClampNeg 0, g.2))
  else
    if 12 ≤ l1 then
      xg (¬ (l1 < 0 ∨ 40 ≤ l1.toNatClampNeg)) (
        f_X12_begins_60_2 n (l1 + 1) (xupd g.1 94 l1.toNatClampNeg 0, g.2))
    else
      xg (¬ (l1 < 0 ∨ 40 ≤ l1.toNatClampNeg)) (
        f_X12_begins_60_2 n (l1 + 1) (xupd g.1 94 l1.toNatClampNeg (-2), g.2))) = some out := H
    by_cases h1 : 40 ≤ l1
    · rw [if_pos h1] at H
      exact xfrm.tr xfrm.rf (fr_X12_begins_60_40 _ _ _ _ H) rfl
    · rw [if_neg h1] at H
      by_cases h8 : l1 < 6
      · rw [if_pos h8] at H
        obtain ⟨h9, H⟩ := xg_elim H
        have hf5 : xfrm fp_X12_begins_60 g ((xupd g.1 94 l1.toNatClampNeg 0, g.2)) := xfrm.ua xfrm.rf rfl
        exact xfrm.tr hf5 (ih _ _ _ H) rfl
      · rw [if_neg h8] at H
        by_cases h10 : 12 ≤ l1
        · rw [if_pos h10] at H
          obtain ⟨h11, H⟩ := xg_elim H
          have hf6 : xfrm fp_X12_begins_60 g ((xupd g.1 94 l1.toNatClampNeg 0, g.2)) := xfrm.ua xfrm.rf rfl
          exact xfrm.tr hf6 (ih _ _ _ H) rfl
        · rw [if_neg h10] at H
          obtain ⟨h12, H⟩ := xg_elim H
          have hf7 : xfrm fp_X12_begins_60 g ((xupd g.1 94 l1.toNatClampNeg (-2), g.2)) := xfrm.ua xfrm.rf rfl
          exact xfrm.tr hf7 (ih _ _ _ H) rfl
set_option maxRecDepth 20000 in
theorem c_X12_begins_60 {S : List xSh} (hS : xpf SH2 S) {g : xG}  (out : xG) (H : f_X12_begins_60  g = some out) : xC mX12_begins 0 0 0 0 S [.ref 60] g S (fun r g' => r = none ∧ g' = out) := by
  have H : (f_X12_begins_60_2 xN 0 g) = some out := H
  refine xC.of 12 SH2 [some (.ref 60), none] hS (by decide +kernel) rfl (fun _ _ => Nat.le_of_ble_eq_true rfl) (fun _ _ => rfl) ?_
  intro k A hR hrm hz
  refine xb A [(.iconst 0, 1, 0, 0, .int 0), (.istore_n 1, 1, 0, 0, .null)] (pc' := 2) (ls' := [some (.ref 60), some (.int 0)]) (st' := []) (g' := g) (by decide +kernel) rfl ?_
  exact t_X12_begins_60_2 hS A hR hrm hz _ _ _ H
theorem fr_X12_begins_60  {g : xG} (out : xG) (H : f_X12_begins_60  g = some out) : xfrm fp_X12_begins_60 g (out) := by
  have H : (f_X12_begins_60_2 xN 0 g) = some out := H
  exact xfrm.tr xfrm.rf (fr_X12_begins_60_2 _ _ _ _ H) rfl
def fp_X12_keepsRow_60 : List (Nat × Option Nat) := [(93, none)]
def f_X12_keepsRow_60_2  : Nat → Int32 → xG → Option (xG)
  | 0, _, _ => none
  | n + 1, l1, g =>
    if 40 ≤ l1 then
      some g
    else
      xg (¬ (l1 < 0 ∨ 40 ≤ l1.toNatClampNeg)) (
        xg (¬ (l1 < 0 ∨ 40 ≤ l1.toNatClampNeg)) (
          f_X12_keepsRow_60_2 n (l1 + 1) (xupd g.1 93 l1.toNatClampNeg (g.1 94 l1.toNatClampNeg), g.2)))
def f_X12_keepsRow_60  (g : xG) : Option (xG) :=
  f_X12_keepsRow_60_2 xN 0 g
set_option maxRecDepth 20000 in
theorem t_X12_keepsRow_60_2 {k : xK} {S : List xSh} {out : xG} (hS : xpf SH2 S) (A : xAt k mX12_keepsRow.2.1 12 SH2 S) (hR : xRet k 0 0 S (fun r g' => r = none ∧ g' = out) mX12_keepsRow.2.2.2) (hrm : xrm k = { frames := 0, cells := 0, slots := 0, locals := 0 }) (hz : xhs k = xb0 k + S.length)   : ∀ (n : Nat) (l1 : Int32) (g : xG), f_X12_keepsRow_60_2 n l1 g = some out → xW k S 0 0 2 [some (.ref 60), some (.int l1)] [] g := by
  intro n
  induction n with
  | zero => intro l1 g H; exact absurd H (by simp [f_X12_keepsRow_60_2])
  | succ n ih =>
    intro l1 g H
    have H : (if 40 ≤ l1 then
  some g
else
  xg (¬ (l1 < 0 ∨ 40 ≤ l1.toNatClampNeg)) (
    xg (¬ (l1 < 0 ∨ 40 ≤ l1.toNatClampNeg)) (
      f_X12_keepsRow_60_2 n (l1 + 1) (xupd g.1 93 l1.toNatClampNeg (g.1 94 l1.toNatClampNeg), g.2)))) = some out := H
    refine xb A [(.iload_n 1, 1, 0, 0, .null), (.bipush 40, 2, 0, 0, .int 40)] (pc' := 5) (ls' := [some (.ref 60), some (.int l1)]) (st' := [.int 40, .int l1]) (g' := g) (by decide +kernel) rfl ?_
    refine xic_ge A (21) 26 8 (by decide +kernel) (fun h1 => ?_) (fun h1 => ?_)
    · rw [if_pos h1] at H
      obtain rfl := Option.some.inj H
      exact xret_v A hR hz (by decide +kernel) ⟨rfl, rfl⟩
    · rw [if_neg h1] at H
      refine xb A [(.aload_n 0, 1, 0, 0, .null), (.getfield 116, 3, 60, 50, .ref 93), (.iload_n 1, 1, 0, 0, .null), (.aload_n 0, 1, 0, 0, .null), (.getfield 119, 3, 60, 51, .ref 94), (.iload_n 1, 1, 0, 0, .null)] (pc' := 18) (ls' := [some (.ref 60), some (.int l1)]) (st' := [.int l1, .ref 94, .int l1, .ref 93]) (g' := g) (by decide +kernel) rfl ?_
      obtain ⟨h2, H⟩ := xg_elim H
      refine xiald A (nxt := 19) (by decide +kernel) (hS _ _ sh_94) h2 ?_
      show xW k S 0 0 19 [some (.ref 60), some (.int l1)] [.int (g.1 94 l1.toNatClampNeg), .int l1, .ref 93] g
      obtain ⟨h3, H⟩ := xg_elim H
      refine xiast A (nxt := 20) (by decide +kernel) (hS _ _ sh_93) h3 ?_
      show xW k S 0 0 20 [some (.ref 60), some (.int l1)] [] (xupd g.1 93 l1.toNatClampNeg (g.1 94 l1.toNatClampNeg), g.2)
      refine xb A [(.iinc 1 1, 3, 0, 0, .null)] (pc' := 23) (ls' := [some (.ref 60), some (.int (l1 + 1))]) (st' := []) (g' := (xupd g.1 93 l1.toNatClampNeg (g.1 94 l1.toNatClampNeg), g.2)) (by decide +kernel) rfl ?_
      refine xgoto A (-21) 2 (by decide +kernel) ?_
      exact ih _ _ H
theorem fr_X12_keepsRow_60_2   : ∀ (n : Nat) (l1 : Int32) (g : xG) (out : xG), f_X12_keepsRow_60_2 n l1 g = some out → xfrm fp_X12_keepsRow_60 g (out) := by
  intro n
  induction n with
  | zero => intro l1 g out H; exact absurd H (by simp [f_X12_keepsRow_60_2])
  | succ n ih =>
    intro l1 g out H
    have H : (if 40 ≤ l1 then
  some g
else
  xg (¬ (l1 < 0 ∨ 40 ≤ l1.toNatClampNeg)) (
    xg (¬ (l1 < 0 ∨ 40 ≤ l1.toNatClampNeg)) (
      f_X12_keepsRow_60_2 n (l1 + 1) (xupd g.1 93 l1.toNatClampNeg (g.1 94 l1.toNatClampNeg), g.2)))) = some out := H
    by_cases h1 : 40 ≤ l1
    · rw [if_pos h1] at H
      obtain rfl := Option.some.inj H
      exact xfrm.rf
    · rw [if_neg h1] at H
      obtain ⟨h2, H⟩ := xg_elim H
      obtain ⟨h3, H⟩ := xg_elim H
      have hf1 : xfrm fp_X12_keepsRow_60 g ((xupd g.1 93 l1.toNatClampNeg (g.1 94 l1.toNatClampNeg), g.2)) := xfrm.ua xfrm.rf rfl
      exact xfrm.tr hf1 (ih _ _ _ H) rfl
set_option maxRecDepth 20000 in
theorem c_X12_keepsRow_60 {S : List xSh} (hS : xpf SH2 S) {g : xG}  (out : xG) (H : f_X12_keepsRow_60  g = some out) : xC mX12_keepsRow 0 0 0 0 S [.ref 60] g S (fun r g' => r = none ∧ g' = out) := by
  have H : (f_X12_keepsRow_60_2 xN 0 g) = some out := H
  refine xC.of 12 SH2 [some (.ref 60), none] hS (by decide +kernel) rfl (fun _ _ => Nat.le_of_ble_eq_true rfl) (fun _ _ => rfl) ?_
  intro k A hR hrm hz
  refine xb A [(.iconst 0, 1, 0, 0, .int 0), (.istore_n 1, 1, 0, 0, .null)] (pc' := 2) (ls' := [some (.ref 60), some (.int 0)]) (st' := []) (g' := g) (by decide +kernel) rfl ?_
  exact t_X12_keepsRow_60_2 hS A hR hrm hz _ _ _ H
theorem fr_X12_keepsRow_60  {g : xG} (out : xG) (H : f_X12_keepsRow_60  g = some out) : xfrm fp_X12_keepsRow_60 g (out) := by
  have H : (f_X12_keepsRow_60_2 xN 0 g) = some out := H
  exact xfrm.tr xfrm.rf (fr_X12_keepsRow_60_2 _ _ _ _ H) rfl
def fp_X12_read_60 : List (Nat × Option Nat) := [(60, some 2), (60, some 4), (60, some 10), (60, some 11), (60, some 12), (60, some 13), (60, some 14), (60, some 15), (60, some 16), (60, some 17), (60, some 18), (60, some 19), (60, some 20), (60, some 36), (60, some 42), (60, some 46), (60, some 52), (60, some 53), (60, some 55), (60, some 58), (62, none), (63, none), (64, none), (65, none), (66, none), (68, none), (69, none), (70, none), (71, none), (72, none), (73, none), (74, none), (75, none), (76, none), (77, none), (78, none), (79, none), (80, none), (81, none), (82, none), (83, none), (84, none), (85, none), (86, none), (87, none), (88, none), (89, none), (90, none), (93, none), (94, none), (101, none)]
def f_X12_read_60_219  : Nat → Int32 → xG → Option (Int32 × xG)
  | 0, _, _ => none
  | n + 1, l1, g =>
    if 3 ≤ l1 then
      some (0, g)
    else
      xg (¬ (l1 < 0 ∨ 3 ≤ l1.toNatClampNeg)) (
        f_X12_read_60_219 n (l1 + 1) (xupd g.1 101 l1.toNatClampNeg (0 &&& 1), g.2))
def f_X12_read_60_164  (s0 : Int32) (g : xG) : Option (Int32 × xG) :=
  if (g.1 60 13) ≤ 0 then
    if (g.1 60 15) ≤ 0 then
      (f_X12_begins_60 (xupd (xupd g.1 60 17 s0) 60 18 (g.1 60 19), g.2)).bind fun w3 =>
      (f_X12_keepsRow_60 w3).bind fun w4 =>
      f_X12_read_60_219 xN 0 (xupd (xupd w4.1 60 55 0) 60 58 0, w4.2)
    else
      some (g.1 60 15, (xupd g.1 60 17 s0, g.2))
  else
    some (g.1 60 13, (xupd g.1 60 17 s0, g.2))
def f_X12_read_60_134   (g : xG) : Option (Int32 × xG) :=
  if (g.1 60 13) ≤ 0 then
    if (g.1 60 15) ≤ 0 then
      f_X12_read_60_164 (-1) g
    else
      f_X12_read_60_164 (g.1 60 16) g
  else
    f_X12_read_60_164 (g.1 60 14) g
def f_X12_read_60_112  : Nat → xG → Option (Int32 × xG)
  | 0, _ => none
  | n + 1, g =>
    if (g.1 60 13) = 0 then
      (f_X12_is_60 0 g).bind fun w5 =>
      if w5 = 0 then
        (f_X12_tellOne_60 g).bind fun w6 =>
        f_X12_read_60_112 n w6
      else
        f_X12_read_60_134 g
    else
      f_X12_read_60_134 g
def f_X12_read_60_10  : Nat → Int32 → xG → Option (Int32 × xG)
  | 0, _, _ => none
  | n + 1, l1, g =>
    if (g.1 60 4) ≤ l1 then
      (f_X12_cut_60 (xupd g.1 60 2 0, g.2)).bind fun w1 =>
      (f_X12_plain_60 (1 - (w1.1 60 18)) (xupd (xupd (xupd (xupd (xupd (xupd w1.1 60 11 0) 60 12 0) 60 13 0) 60 15 0) 60 19 (1 - (w1.1 60 18))) 60 20 0, w1.2)).bind fun w2 =>
      f_X12_read_60_112 xN (xupd (xupd w2.1 60 36 (130 * (w2.1 60 19))) 60 42 (420 * (w2.1 60 19)), w2.2)
    else
      xg (¬ (l1 < 0 ∨ 2000 ≤ l1.toNatClampNeg)) (
        xg (¬ (l1 < 0 ∨ 2000 ≤ l1.toNatClampNeg)) (
          f_X12_read_60_10 n (l1 + 1) (xupd g.1 62 l1.toNatClampNeg ((g.1 61 l1.toNatClampNeg).toInt8.toInt32), g.2)))
def f_X12_read_60  (g : xG) : Option (Int32 × xG) :=
  f_X12_read_60_10 xN 0 (xupd g.1 60 4 (g.1 60 2), g.2)
set_option maxRecDepth 20000 in
theorem t_X12_read_60_219 {k : xK} {S : List xSh} {out : Int32 × xG} (hS : xpf SH2 S) (A : xAt k mX12_read.2.1 12 SH2 S) (hR : xRet k 0 0 S (fun r g' => r = some (.int out.1) ∧ g' = out.2) mX12_read.2.2.2) (hrm : xrm k = { frames := 7, cells := 0, slots := 0, locals := 147 }) (hz : xhs k = xb0 k + S.length)   : ∀ (n : Nat) (l1 : Int32) (g : xG), f_X12_read_60_219 n l1 g = some out → xW k S 0 0 219 [some (.ref 60), some (.int l1)] [] g := by
  intro n
  induction n with
  | zero => intro l1 g H; exact absurd H (by simp [f_X12_read_60_219])
  | succ n ih =>
    intro l1 g H
    have H : (if 3 ≤ l1 then
  some (0, g)
else
  xg (¬ (l1 < 0 ∨ 3 ≤ l1.toNatClampNeg)) (
    f_X12_read_60_219 n (l1 + 1) (xupd g.1 101 l1.toNatClampNeg (0 &&& 1), g.2))) = some out := H
    refine xb A [(.iload_n 1, 1, 0, 0, .null), (.iconst 3, 1, 0, 0, .int 3)] (pc' := 221) (ls' := [some (.ref 60), some (.int l1)]) (st' := [.int 3, .int l1]) (g' := g) (by decide +kernel) rfl ?_
    refine xic_ge A (16) 237 224 (by decide +kernel) (fun h7 => ?_) (fun h7 => ?_)
    · rw [if_pos h7] at H
      refine xb A [(.iconst 0, 1, 0, 0, .int 0)] (pc' := 238) (ls' := [some (.ref 60), some (.int l1)]) (st' := [.int 0]) (g' := g) (by decide +kernel) rfl ?_
      obtain rfl := Option.some.inj H
      exact xret_i A hR hz (by decide +kernel) rfl ⟨rfl, rfl⟩
    · rw [if_neg h7] at H
      refine xb A [(.aload_n 0, 1, 0, 0, .null), (.getfield 140, 3, 60, 62, .ref 101), (.iload_n 1, 1, 0, 0, .null), (.iconst 0, 1, 0, 0, .int 0)] (pc' := 230) (ls' := [some (.ref 60), some (.int l1)]) (st' := [.int 0, .int l1, .ref 101]) (g' := g) (by decide +kernel) rfl ?_
      obtain ⟨h8, H⟩ := xg_elim H
      refine xzast A (nxt := 231) (by decide +kernel) (hS _ _ sh_101) h8 ?_
      show xW k S 0 0 231 [some (.ref 60), some (.int l1)] [] (xupd g.1 101 l1.toNatClampNeg (0 &&& 1), g.2)
      refine xb A [(.iinc 1 1, 3, 0, 0, .null)] (pc' := 234) (ls' := [some (.ref 60), some (.int (l1 + 1))]) (st' := []) (g' := (xupd g.1 101 l1.toNatClampNeg (0 &&& 1), g.2)) (by decide +kernel) rfl ?_
      refine xgoto A (-15) 219 (by decide +kernel) ?_
      exact ih _ _ H
theorem fr_X12_read_60_219   : ∀ (n : Nat) (l1 : Int32) (g : xG) (out : Int32 × xG), f_X12_read_60_219 n l1 g = some out → xfrm fp_X12_read_60 g (out.2) := by
  intro n
  induction n with
  | zero => intro l1 g out H; exact absurd H (by simp [f_X12_read_60_219])
  | succ n ih =>
    intro l1 g out H
    have H : (if 3 ≤ l1 then
  some (0, g)
else
  xg (¬ (l1 < 0 ∨ 3 ≤ l1.toNatClampNeg)) (
    f_X12_read_60_219 n (l1 + 1) (xupd g.1 101 l1.toNatClampNeg (0 &&& 1), g.2))) = some out := H
    by_cases h7 : 3 ≤ l1
    · rw [if_pos h7] at H
      obtain rfl := Option.some.inj H
      exact xfrm.rf
    · rw [if_neg h7] at H
      obtain ⟨h8, H⟩ := xg_elim H
      have hf19 : xfrm fp_X12_read_60 g ((xupd g.1 101 l1.toNatClampNeg (0 &&& 1), g.2)) := xfrm.ua xfrm.rf rfl
      exact xfrm.tr hf19 (ih _ _ _ H) rfl
set_option maxRecDepth 20000 in
theorem t_X12_read_60_164 {k : xK} {S : List xSh} {out : Int32 × xG} (hS : xpf SH2 S) (A : xAt k mX12_read.2.1 12 SH2 S) (hR : xRet k 0 0 S (fun r g' => r = some (.int out.1) ∧ g' = out.2) mX12_read.2.2.2) (hrm : xrm k = { frames := 7, cells := 0, slots := 0, locals := 147 }) (hz : xhs k = xb0 k + S.length)   : ∀ (s0 : Int32) (g : xG), f_X12_read_60_164 s0 g = some out → xW k S 0 0 164 [some (.ref 60), none] [.int s0, .ref 60] g := by
  intro s0 g H
  have H : (if (g.1 60 13) ≤ 0 then
  if (g.1 60 15) ≤ 0 then
    (f_X12_begins_60 (xupd (xupd g.1 60 17 s0) 60 18 (g.1 60 19), g.2)).bind fun w3 =>
    (f_X12_keepsRow_60 w3).bind fun w4 =>
    f_X12_read_60_219 xN 0 (xupd (xupd w4.1 60 55 0) 60 58 0, w4.2)
  else
    some (g.1 60 15, (xupd g.1 60 17 s0, g.2))
else
  some (g.1 60 13, (xupd g.1 60 17 s0, g.2))) = some out := H
  refine xb A [(.putfield 37, 3, 60, 17, .int 0), (.aload_n 0, 1, 0, 0, .null), (.getfield 197, 3, 60, 13, .int 0)] (pc' := 171) (ls' := [some (.ref 60), none]) (st' := [.int (g.1 60 13)]) (g' := (xupd g.1 60 17 s0, g.2)) (by decide +kernel) rfl ?_
  refine xif_le A (8) 179 174 (by decide +kernel) (fun h5 => ?_) (fun h5 => ?_)
  · rw [if_pos h5] at H
    refine xb A [(.aload_n 0, 1, 0, 0, .null), (.getfield 206, 3, 60, 15, .int 0)] (pc' := 183) (ls' := [some (.ref 60), none]) (st' := [.int (g.1 60 15)]) (g' := (xupd g.1 60 17 s0, g.2)) (by decide +kernel) rfl ?_
    refine xif_le A (8) 191 186 (by decide +kernel) (fun h6 => ?_) (fun h6 => ?_)
    · rw [if_pos h6] at H
      refine xb A [(.aload_n 0, 1, 0, 0, .null), (.aload_n 0, 1, 0, 0, .null), (.getfield 230, 3, 60, 19, .int 0), (.putfield 227, 3, 60, 18, .int 0), (.aload_n 0, 1, 0, 0, .null)] (pc' := 200) (ls' := [some (.ref 60), none]) (st' := [.ref 60]) (g' := (xupd (xupd g.1 60 17 s0) 60 18 (g.1 60 19), g.2)) (by decide +kernel) rfl ?_
      obtain ⟨w3, e3, H⟩ := xbind H
      refine xcallV A (ix := 154) (nxt := 203) hrm hz [] [] 1370 (c_X12_begins_60 hS _ e3) ok_X12_begins (by decide +kernel) rfl (fun r g1 hq => ?_)
      rw [hq.1, hq.2]
      show xW k S 0 0 203 [some (.ref 60), none] [] w3
      refine xb A [(.aload_n 0, 1, 0, 0, .null)] (pc' := 204) (ls' := [some (.ref 60), none]) (st' := [.ref 60]) (g' := w3) (by decide +kernel) rfl ?_
      obtain ⟨w4, e4, H⟩ := xbind H
      refine xcallV A (ix := 157) (nxt := 207) hrm hz [] [] 1374 (c_X12_keepsRow_60 hS _ e4) ok_X12_keepsRow (by decide +kernel) rfl (fun r g1 hq => ?_)
      rw [hq.1, hq.2]
      show xW k S 0 0 207 [some (.ref 60), none] [] w4
      refine xb A [(.aload_n 0, 1, 0, 0, .null), (.iconst 0, 1, 0, 0, .int 0), (.putfield 245, 3, 60, 55, .int 0), (.aload_n 0, 1, 0, 0, .null), (.iconst 0, 1, 0, 0, .int 0), (.putfield 248, 3, 60, 58, .int 0), (.iconst 0, 1, 0, 0, .int 0), (.istore_n 1, 1, 0, 0, .null)] (pc' := 219) (ls' := [some (.ref 60), some (.int 0)]) (st' := []) (g' := (xupd (xupd w4.1 60 55 0) 60 58 0, w4.2)) (by decide +kernel) rfl ?_
      exact t_X12_read_60_219 hS A hR hrm hz _ _ _ H
    · rw [if_neg h6] at H
      refine xb A [(.aload_n 0, 1, 0, 0, .null), (.getfield 206, 3, 60, 15, .int 0)] (pc' := 190) (ls' := [some (.ref 60), none]) (st' := [.int (g.1 60 15)]) (g' := (xupd g.1 60 17 s0, g.2)) (by decide +kernel) rfl ?_
      obtain rfl := Option.some.inj H
      exact xret_i A hR hz (by decide +kernel) rfl ⟨rfl, rfl⟩
  · rw [if_neg h5] at H
    refine xb A [(.aload_n 0, 1, 0, 0, .null), (.getfield 197, 3, 60, 13, .int 0)] (pc' := 178) (ls' := [some (.ref 60), none]) (st' := [.int (g.1 60 13)]) (g' := (xupd g.1 60 17 s0, g.2)) (by decide +kernel) rfl ?_
    obtain rfl := Option.some.inj H
    exact xret_i A hR hz (by decide +kernel) rfl ⟨rfl, rfl⟩
theorem fr_X12_read_60_164   : ∀ (s0 : Int32) (g : xG) (out : Int32 × xG), f_X12_read_60_164 s0 g = some out → xfrm fp_X12_read_60 g (out.2) := by
  intro s0 g out H
  have H : (if (g.1 60 13) ≤ 0 then
  if (g.1 60 15) ≤ 0 then
    (f_X12_begins_60 (xupd (xupd g.1 60 17 s0) 60 18 (g.1 60 19), g.2)).bind fun w3 =>
    (f_X12_keepsRow_60 w3).bind fun w4 =>
    f_X12_read_60_219 xN 0 (xupd (xupd w4.1 60 55 0) 60 58 0, w4.2)
  else
    some (g.1 60 15, (xupd g.1 60 17 s0, g.2))
else
  some (g.1 60 13, (xupd g.1 60 17 s0, g.2))) = some out := H
  have hf13 : xfrm fp_X12_read_60 g ((xupd g.1 60 17 s0, g.2)) := xfrm.up xfrm.rf rfl
  by_cases h5 : (g.1 60 13) ≤ 0
  · rw [if_pos h5] at H
    by_cases h6 : (g.1 60 15) ≤ 0
    · rw [if_pos h6] at H
      have hf14 : xfrm fp_X12_read_60 g ((xupd (xupd g.1 60 17 s0) 60 18 (g.1 60 19), g.2)) := xfrm.up hf13 rfl
      obtain ⟨w3, e3, H⟩ := xbind H
      have hf15 : xfrm fp_X12_read_60 g (w3) := xfrm.tr hf14 (fr_X12_begins_60 _ e3) rfl
      obtain ⟨w4, e4, H⟩ := xbind H
      have hf16 : xfrm fp_X12_read_60 g (w4) := xfrm.tr hf15 (fr_X12_keepsRow_60 _ e4) rfl
      have hf17 : xfrm fp_X12_read_60 g ((xupd w4.1 60 55 0, w4.2)) := xfrm.up hf16 rfl
      have hf18 : xfrm fp_X12_read_60 g ((xupd (xupd w4.1 60 55 0) 60 58 0, w4.2)) := xfrm.up hf17 rfl
      exact xfrm.tr hf18 (fr_X12_read_60_219 _ _ _ _ H) rfl
    · rw [if_neg h6] at H
      obtain rfl := Option.some.inj H
      exact hf13
  · rw [if_neg h5] at H
    obtain rfl := Option.some.inj H
    exact hf13
set_option maxRecDepth 20000 in
theorem t_X12_read_60_134 {k : xK} {S : List xSh} {out : Int32 × xG} (hS : xpf SH2 S) (A : xAt k mX12_read.2.1 12 SH2 S) (hR : xRet k 0 0 S (fun r g' => r = some (.int out.1) ∧ g' = out.2) mX12_read.2.2.2) (hrm : xrm k = { frames := 7, cells := 0, slots := 0, locals := 147 }) (hz : xhs k = xb0 k + S.length)   : ∀ (g : xG), f_X12_read_60_134 g = some out → xW k S 0 0 134 [some (.ref 60), none] [] g := by
  intro g H
  have H : (if (g.1 60 13) ≤ 0 then
  if (g.1 60 15) ≤ 0 then
    f_X12_read_60_164 (-1) g
  else
    f_X12_read_60_164 (g.1 60 16) g
else
  f_X12_read_60_164 (g.1 60 14) g) = some out := H
  refine xb A [(.aload_n 0, 1, 0, 0, .null), (.aload_n 0, 1, 0, 0, .null), (.getfield 197, 3, 60, 13, .int 0)] (pc' := 139) (ls' := [some (.ref 60), none]) (st' := [.int (g.1 60 13), .ref 60]) (g' := g) (by decide +kernel) rfl ?_
  refine xif_le A (10) 149 142 (by decide +kernel) (fun h3 => ?_) (fun h3 => ?_)
  · rw [if_pos h3] at H
    refine xb A [(.aload_n 0, 1, 0, 0, .null), (.getfield 206, 3, 60, 15, .int 0)] (pc' := 153) (ls' := [some (.ref 60), none]) (st' := [.int (g.1 60 15), .ref 60]) (g' := g) (by decide +kernel) rfl ?_
    refine xif_le A (10) 163 156 (by decide +kernel) (fun h4 => ?_) (fun h4 => ?_)
    · rw [if_pos h4] at H
      refine xb A [(.iconst (-1), 1, 0, 0, .int (-1))] (pc' := 164) (ls' := [some (.ref 60), none]) (st' := [.int (-1), .ref 60]) (g' := g) (by decide +kernel) rfl ?_
      exact t_X12_read_60_164 hS A hR hrm hz _ _ H
    · rw [if_neg h4] at H
      refine xb A [(.aload_n 0, 1, 0, 0, .null), (.getfield 209, 3, 60, 16, .int 0)] (pc' := 160) (ls' := [some (.ref 60), none]) (st' := [.int (g.1 60 16), .ref 60]) (g' := g) (by decide +kernel) rfl ?_
      refine xgoto A (4) 164 (by decide +kernel) ?_
      exact t_X12_read_60_164 hS A hR hrm hz _ _ H
  · rw [if_neg h3] at H
    refine xb A [(.aload_n 0, 1, 0, 0, .null), (.getfield 203, 3, 60, 14, .int 0)] (pc' := 146) (ls' := [some (.ref 60), none]) (st' := [.int (g.1 60 14), .ref 60]) (g' := g) (by decide +kernel) rfl ?_
    refine xgoto A (18) 164 (by decide +kernel) ?_
    exact t_X12_read_60_164 hS A hR hrm hz _ _ H
theorem fr_X12_read_60_134   : ∀ (g : xG) (out : Int32 × xG), f_X12_read_60_134 g = some out → xfrm fp_X12_read_60 g (out.2) := by
  intro g out H
  have H : (if (g.1 60 13) ≤ 0 then
  if (g.1 60 15) ≤ 0 then
    f_X12_read_60_164 (-1) g
  else
    f_X12_read_60_164 (g.1 60 16) g
else
  f_X12_read_60_164 (g.1 60 14) g) = some out := H
  by_cases h3 : (g.1 60 13) ≤ 0
  · rw [if_pos h3] at H
    by_cases h4 : (g.1 60 15) ≤ 0
    · rw [if_pos h4] at H
      exact xfrm.tr xfrm.rf (fr_X12_read_60_164 _ _ _ H) rfl
    · rw [if_neg h4] at H
      exact xfrm.tr xfrm.rf (fr_X12_read_60_164 _ _ _ H) rfl
  · rw [if_neg h3] at H
    exact xfrm.tr xfrm.rf (fr_X12_read_60_164 _ _ _ H) rfl
set_option maxRecDepth 20000 in
theorem t_X12_read_60_112 {k : xK} {S : List xSh} {out : Int32 × xG} (hS : xpf SH2 S) (A : xAt k mX12_read.2.1 12 SH2 S) (hR : xRet k 0 0 S (fun r g' => r = some (.int out.1) ∧ g' = out.2) mX12_read.2.2.2) (hrm : xrm k = { frames := 7, cells := 0, slots := 0, locals := 147 }) (hz : xhs k = xb0 k + S.length)   : ∀ (n : Nat) (g : xG), f_X12_read_60_112 n g = some out → xW k S 0 0 112 [some (.ref 60), none] [] g := by
  intro n
  induction n with
  | zero => intro g H; exact absurd H (by simp [f_X12_read_60_112])
  | succ n ih =>
    intro g H
    have H : (if (g.1 60 13) = 0 then
  (f_X12_is_60 0 g).bind fun w5 =>
  if w5 = 0 then
    (f_X12_tellOne_60 g).bind fun w6 =>
    f_X12_read_60_112 n w6
  else
    f_X12_read_60_134 g
else
  f_X12_read_60_134 g) = some out := H
    refine xb A [(.aload_n 0, 1, 0, 0, .null), (.getfield 197, 3, 60, 13, .int 0)] (pc' := 116) (ls' := [some (.ref 60), none]) (st' := [.int (g.1 60 13)]) (g' := g) (by decide +kernel) rfl ?_
    refine xif_ne A (18) 134 119 (by decide +kernel) (fun h2 => ?_) (fun h2 => ?_)
    · rw [if_neg h2] at H
      exact t_X12_read_60_134 hS A hR hrm hz _ H
    · rw [if_pos h2] at H
      refine xb A [(.aload_n 0, 1, 0, 0, .null), (.iconst 0, 1, 0, 0, .int 0)] (pc' := 121) (ls' := [some (.ref 60), none]) (st' := [.int 0, .ref 60]) (g' := g) (by decide +kernel) rfl ?_
      obtain ⟨w5, e5, H⟩ := xbind H
      refine xcallV A (ix := 215) (nxt := 124) hrm hz [.int 0] [] 1608 (c_X12_is_60 hS _ e5) ok_X12_is (by decide +kernel) rfl (fun r g1 hq => ?_)
      rw [hq.1, hq.2]
      show xW k S 0 0 124 [some (.ref 60), none] [.int w5] g
      refine xif_ne A (10) 134 127 (by decide +kernel) (fun h9 => ?_) (fun h9 => ?_)
      · rw [if_neg h9] at H
        exact t_X12_read_60_134 hS A hR hrm hz _ H
      · rw [if_pos h9] at H
        refine xb A [(.aload_n 0, 1, 0, 0, .null)] (pc' := 128) (ls' := [some (.ref 60), none]) (st' := [.ref 60]) (g' := g) (by decide +kernel) rfl ?_
        obtain ⟨w6, e6, H⟩ := xbind H
        refine xcallV A (ix := 242) (nxt := 131) hrm hz [] [] 1612 (c_X12_tellOne_60 hS _ e6) ok_X12_tellOne (by decide +kernel) rfl (fun r g1 hq => ?_)
        rw [hq.1, hq.2]
        show xW k S 0 0 131 [some (.ref 60), none] [] w6
        refine xgoto A (-19) 112 (by decide +kernel) ?_
        exact ih _ H
theorem fr_X12_read_60_112   : ∀ (n : Nat) (g : xG) (out : Int32 × xG), f_X12_read_60_112 n g = some out → xfrm fp_X12_read_60 g (out.2) := by
  intro n
  induction n with
  | zero => intro g out H; exact absurd H (by simp [f_X12_read_60_112])
  | succ n ih =>
    intro g out H
    have H : (if (g.1 60 13) = 0 then
  (f_X12_is_60 0 g).bind fun w5 =>
  if w5 = 0 then
    (f_X12_tellOne_60 g).bind fun w6 =>
    f_X12_read_60_112 n w6
  else
    f_X12_read_60_134 g
else
  f_X12_read_60_134 g) = some out := H
    by_cases h2 : (g.1 60 13) = 0
    · rw [if_pos h2] at H
      obtain ⟨w5, e5, H⟩ := xbind H
      by_cases h9 : w5 = 0
      · rw [if_pos h9] at H
        obtain ⟨w6, e6, H⟩ := xbind H
        have hf20 : xfrm fp_X12_read_60 g (w6) := xfrm.tr xfrm.rf (fr_X12_tellOne_60 _ e6) rfl
        exact xfrm.tr hf20 (ih _ _ H) rfl
      · rw [if_neg h9] at H
        exact xfrm.tr xfrm.rf (fr_X12_read_60_134 _ _ H) rfl
    · rw [if_neg h2] at H
      exact xfrm.tr xfrm.rf (fr_X12_read_60_134 _ _ H) rfl
set_option maxRecDepth 20000 in
theorem t_X12_read_60_10 {k : xK} {S : List xSh} {out : Int32 × xG} (hS : xpf SH2 S) (A : xAt k mX12_read.2.1 12 SH2 S) (hR : xRet k 0 0 S (fun r g' => r = some (.int out.1) ∧ g' = out.2) mX12_read.2.2.2) (hrm : xrm k = { frames := 7, cells := 0, slots := 0, locals := 147 }) (hz : xhs k = xb0 k + S.length)   : ∀ (n : Nat) (l1 : Int32) (g : xG), f_X12_read_60_10 n l1 g = some out → xW k S 0 0 10 [some (.ref 60), some (.int l1)] [] g := by
  intro n
  induction n with
  | zero => intro l1 g H; exact absurd H (by simp [f_X12_read_60_10])
  | succ n ih =>
    intro l1 g H
    have H : (if (g.1 60 4) ≤ l1 then
  (f_X12_cut_60 (xupd g.1 60 2 0, g.2)).bind fun w1 =>
  (f_X12_plain_60 (1 - (w1.1 60 18)) (xupd (xupd (xupd (xupd (xupd (xupd w1.1 60 11 0) 60 12 0) 60 13 0) 60 15 0) 60 19 (1 - (w1.1 60 18))) 60 20 0, w1.2)).bind fun w2 =>
  f_X12_read_60_112 xN (xupd (xupd w2.1 60 36 (130 * (w2.1 60 19))) 60 42 (420 * (w2.1 60 19)), w2.2)
else
  xg (¬ (l1 < 0 ∨ 2000 ≤ l1.toNatClampNeg)) (
    xg (¬ (l1 < 0 ∨ 2000 ≤ l1.toNatClampNeg)) (
      f_X12_read_60_10 n (l1 + 1) (xupd g.1 62 l1.toNatClampNeg ((g.1 61 l1.toNatClampNeg).toInt8.toInt32), g.2)))) = some out := H
    refine xb A [(.iload_n 1, 1, 0, 0, .null), (.aload_n 0, 1, 0, 0, .null), (.getfield 166, 3, 60, 4, .int 0)] (pc' := 15) (ls' := [some (.ref 60), some (.int l1)]) (st' := [.int (g.1 60 4), .int l1]) (g' := g) (by decide +kernel) rfl ?_
    refine xic_ge A (21) 36 18 (by decide +kernel) (fun h1 => ?_) (fun h1 => ?_)
    · rw [if_pos h1] at H
      refine xb A [(.aload_n 0, 1, 0, 0, .null), (.iconst 0, 1, 0, 0, .int 0), (.putfield 160, 3, 60, 2, .int 0), (.aload_n 0, 1, 0, 0, .null)] (pc' := 42) (ls' := [some (.ref 60), some (.int l1)]) (st' := [.ref 60]) (g' := (xupd g.1 60 2 0, g.2)) (by decide +kernel) rfl ?_
      obtain ⟨w1, e1, H⟩ := xbind H
      refine xcallV A (ix := 221) (nxt := 45) hrm hz [] [] 1586 (c_X12_cut_60 hS _ e1) ok_X12_cut (by decide +kernel) rfl (fun r g1 hq => ?_)
      rw [hq.1, hq.2]
      show xW k S 0 0 45 [some (.ref 60), some (.int l1)] [] w1
      refine xb A [(.aload_n 0, 1, 0, 0, .null), (.iconst 0, 1, 0, 0, .int 0), (.putfield 200, 3, 60, 11, .int 0), (.aload_n 0, 1, 0, 0, .null), (.iconst 0, 1, 0, 0, .int 0), (.putfield 224, 3, 60, 12, .int 0), (.aload_n 0, 1, 0, 0, .null), (.iconst 0, 1, 0, 0, .int 0), (.putfield 197, 3, 60, 13, .int 0), (.aload_n 0, 1, 0, 0, .null), (.iconst 0, 1, 0, 0, .int 0), (.putfield 206, 3, 60, 15, .int 0), (.aload_n 0, 1, 0, 0, .null), (.iconst 1, 1, 0, 0, .int 1), (.aload_n 0, 1, 0, 0, .null), (.getfield 227, 3, 60, 18, .int 0), (.isub, 1, 0, 0, .null), (.putfield 230, 3, 60, 19, .int 0), (.aload_n 0, 1, 0, 0, .null), (.iconst 0, 1, 0, 0, .int 0), (.putfield 233, 3, 60, 20, .int 0), (.aload_n 0, 1, 0, 0, .null), (.aload_n 0, 1, 0, 0, .null), (.getfield 230, 3, 60, 19, .int 0)] (pc' := 85) (ls' := [some (.ref 60), some (.int l1)]) (st' := [.int (1 - (w1.1 60 18)), .ref 60]) (g' := (xupd (xupd (xupd (xupd (xupd (xupd w1.1 60 11 0) 60 12 0) 60 13 0) 60 15 0) 60 19 (1 - (w1.1 60 18))) 60 20 0, w1.2)) (by decide +kernel) rfl ?_
      obtain ⟨w2, e2, H⟩ := xbind H
      refine xcallV A (ix := 146) (nxt := 88) hrm hz [.int (1 - (w1.1 60 18))] [] 1359 (c_X12_plain_60 hS _ e2) ok_X12_plain (by decide +kernel) rfl (fun r g1 hq => ?_)
      rw [hq.1, hq.2]
      show xW k S 0 0 88 [some (.ref 60), some (.int l1)] [] w2
      refine xb A [(.aload_n 0, 1, 0, 0, .null), (.sipush 130, 3, 0, 0, .int 130), (.aload_n 0, 1, 0, 0, .null), (.getfield 230, 3, 60, 19, .int 0), (.imul, 1, 0, 0, .null), (.putfield 236, 3, 60, 36, .int 0), (.aload_n 0, 1, 0, 0, .null), (.sipush 420, 3, 0, 0, .int 420), (.aload_n 0, 1, 0, 0, .null), (.getfield 230, 3, 60, 19, .int 0), (.imul, 1, 0, 0, .null), (.putfield 239, 3, 60, 42, .int 0)] (pc' := 112) (ls' := [some (.ref 60), some (.int l1)]) (st' := []) (g' := (xupd (xupd w2.1 60 36 (130 * (w2.1 60 19))) 60 42 (420 * (w2.1 60 19)), w2.2)) (by decide +kernel) rfl ?_
      refine xweak (ls' := [some (.ref 60), none]) (by exact ⟨rfl, trivial⟩) ?_
      exact t_X12_read_60_112 hS A hR hrm hz _ _ H
    · rw [if_neg h1] at H
      refine xb A [(.aload_n 0, 1, 0, 0, .null), (.getfield 17, 3, 60, 3, .ref 62), (.iload_n 1, 1, 0, 0, .null), (.aload_n 0, 1, 0, 0, .null), (.getfield 13, 3, 60, 1, .ref 61), (.iload_n 1, 1, 0, 0, .null)] (pc' := 28) (ls' := [some (.ref 60), some (.int l1)]) (st' := [.int l1, .ref 61, .int l1, .ref 62]) (g' := g) (by decide +kernel) rfl ?_
      obtain ⟨h10, H⟩ := xg_elim H
      refine xbald A (nxt := 29) (by decide +kernel) (hS _ _ sh_61) h10 ?_
      show xW k S 0 0 29 [some (.ref 60), some (.int l1)] [.int (g.1 61 l1.toNatClampNeg), .int l1, .ref 62] g
      obtain ⟨h11, H⟩ := xg_elim H
      refine xbast A (nxt := 30) (by decide +kernel) (hS _ _ sh_62) h11 ?_
      show xW k S 0 0 30 [some (.ref 60), some (.int l1)] [] (xupd g.1 62 l1.toNatClampNeg ((g.1 61 l1.toNatClampNeg).toInt8.toInt32), g.2)
      refine xb A [(.iinc 1 1, 3, 0, 0, .null)] (pc' := 33) (ls' := [some (.ref 60), some (.int (l1 + 1))]) (st' := []) (g' := (xupd g.1 62 l1.toNatClampNeg ((g.1 61 l1.toNatClampNeg).toInt8.toInt32), g.2)) (by decide +kernel) rfl ?_
      refine xgoto A (-23) 10 (by decide +kernel) ?_
      exact ih _ _ H
theorem fr_X12_read_60_10   : ∀ (n : Nat) (l1 : Int32) (g : xG) (out : Int32 × xG), f_X12_read_60_10 n l1 g = some out → xfrm fp_X12_read_60 g (out.2) := by
  intro n
  induction n with
  | zero => intro l1 g out H; exact absurd H (by simp [f_X12_read_60_10])
  | succ n ih =>
    intro l1 g out H
    have H : (if (g.1 60 4) ≤ l1 then
  (f_X12_cut_60 (xupd g.1 60 2 0, g.2)).bind fun w1 =>
  (f_X12_plain_60 (1 - (w1.1 60 18)) (xupd (xupd (xupd (xupd (xupd (xupd w1.1 60 11 0) 60 12 0) 60 13 0) 60 15 0) 60 19 (1 - (w1.1 60 18))) 60 20 0, w1.2)).bind fun w2 =>
  f_X12_read_60_112 xN (xupd (xupd w2.1 60 36 (130 * (w2.1 60 19))) 60 42 (420 * (w2.1 60 19)), w2.2)
else
  xg (¬ (l1 < 0 ∨ 2000 ≤ l1.toNatClampNeg)) (
    xg (¬ (l1 < 0 ∨ 2000 ≤ l1.toNatClampNeg)) (
      f_X12_read_60_10 n (l1 + 1) (xupd g.1 62 l1.toNatClampNeg ((g.1 61 l1.toNatClampNeg).toInt8.toInt32), g.2)))) = some out := H
    by_cases h1 : (g.1 60 4) ≤ l1
    · rw [if_pos h1] at H
      have hf2 : xfrm fp_X12_read_60 g ((xupd g.1 60 2 0, g.2)) := xfrm.up xfrm.rf rfl
      obtain ⟨w1, e1, H⟩ := xbind H
      have hf3 : xfrm fp_X12_read_60 g (w1) := xfrm.tr hf2 (fr_X12_cut_60 _ e1) rfl
      have hf4 : xfrm fp_X12_read_60 g ((xupd w1.1 60 11 0, w1.2)) := xfrm.up hf3 rfl
      have hf5 : xfrm fp_X12_read_60 g ((xupd (xupd w1.1 60 11 0) 60 12 0, w1.2)) := xfrm.up hf4 rfl
      have hf6 : xfrm fp_X12_read_60 g ((xupd (xupd (xupd w1.1 60 11 0) 60 12 0) 60 13 0, w1.2)) := xfrm.up hf5 rfl
      have hf7 : xfrm fp_X12_read_60 g ((xupd (xupd (xupd (xupd w1.1 60 11 0) 60 12 0) 60 13 0) 60 15 0, w1.2)) := xfrm.up hf6 rfl
      have hf8 : xfrm fp_X12_read_60 g ((xupd (xupd (xupd (xupd (xupd w1.1 60 11 0) 60 12 0) 60 13 0) 60 15 0) 60 19 (1 - (w1.1 60 18)), w1.2)) := xfrm.up hf7 rfl
      have hf9 : xfrm fp_X12_read_60 g ((xupd (xupd (xupd (xupd (xupd (xupd w1.1 60 11 0) 60 12 0) 60 13 0) 60 15 0) 60 19 (1 - (w1.1 60 18))) 60 20 0, w1.2)) := xfrm.up hf8 rfl
      obtain ⟨w2, e2, H⟩ := xbind H
      have hf10 : xfrm fp_X12_read_60 g (w2) := xfrm.tr hf9 (fr_X12_plain_60 _ e2) rfl
      have hf11 : xfrm fp_X12_read_60 g ((xupd w2.1 60 36 (130 * (w2.1 60 19)), w2.2)) := xfrm.up hf10 rfl
      have hf12 : xfrm fp_X12_read_60 g ((xupd (xupd w2.1 60 36 (130 * (w2.1 60 19))) 60 42 (420 * (w2.1 60 19)), w2.2)) := xfrm.up hf11 rfl
      exact xfrm.tr hf12 (fr_X12_read_60_112 _ _ _ H) rfl
    · rw [if_neg h1] at H
      obtain ⟨h10, H⟩ := xg_elim H
      obtain ⟨h11, H⟩ := xg_elim H
      have hf21 : xfrm fp_X12_read_60 g ((xupd g.1 62 l1.toNatClampNeg ((g.1 61 l1.toNatClampNeg).toInt8.toInt32), g.2)) := xfrm.ua xfrm.rf rfl
      exact xfrm.tr hf21 (ih _ _ _ H) rfl
set_option maxRecDepth 20000 in
theorem c_X12_read_60 {S : List xSh} (hS : xpf SH2 S) {g : xG}  (out : Int32 × xG) (H : f_X12_read_60  g = some out) : xC mX12_read 7 147 0 0 S [.ref 60] g S (fun r g' => r = some (.int out.1) ∧ g' = out.2) := by
  have H : (f_X12_read_60_10 xN 0 (xupd g.1 60 4 (g.1 60 2), g.2)) = some out := H
  refine xC.of 12 SH2 [some (.ref 60), none] hS (by decide +kernel) rfl (fun _ _ => Nat.le_of_ble_eq_true rfl) (fun _ _ => rfl) ?_
  intro k A hR hrm hz
  refine xb A [(.aload_n 0, 1, 0, 0, .null), (.aload_n 0, 1, 0, 0, .null), (.getfield 160, 3, 60, 2, .int 0), (.putfield 166, 3, 60, 4, .int 0), (.iconst 0, 1, 0, 0, .int 0), (.istore_n 1, 1, 0, 0, .null)] (pc' := 10) (ls' := [some (.ref 60), some (.int 0)]) (st' := []) (g' := (xupd g.1 60 4 (g.1 60 2), g.2)) (by decide +kernel) rfl ?_
  exact t_X12_read_60_10 hS A hR hrm hz _ _ _ H
theorem fr_X12_read_60  {g : xG} (out : Int32 × xG) (H : f_X12_read_60  g = some out) : xfrm fp_X12_read_60 g (out.2) := by
  have H : (f_X12_read_60_10 xN 0 (xupd g.1 60 4 (g.1 60 2), g.2)) = some out := H
  have hf1 : xfrm fp_X12_read_60 g ((xupd g.1 60 4 (g.1 60 2), g.2)) := xfrm.up xfrm.rf rfl
  exact xfrm.tr hf1 (fr_X12_read_60_10 _ _ _ _ H) rfl
def f_X12_place_60  (g : xG) : Int32 :=
  g.1 60 17
set_option maxRecDepth 20000 in
theorem c_X12_place_60 {S : List xSh} (hS : xpf SH2 S) {g : xG}  (out : Int32) (H : f_X12_place_60  g = out) : xC mX12_place 0 0 0 0 S [.ref 60] g S (fun r g' => r = some (.int out) ∧ g' = g) := by
  have H : (g.1 60 17) = out := H
  refine xC.of 12 SH2 [some (.ref 60)] hS (by decide +kernel) rfl (fun _ _ => Nat.le_of_ble_eq_true rfl) (fun _ _ => rfl) ?_
  intro k A hR hrm hz
  refine xb A [(.aload_n 0, 1, 0, 0, .null), (.getfield 37, 3, 60, 17, .int 0)] (pc' := 4) (ls' := [some (.ref 60)]) (st' := [.int (g.1 60 17)]) (g' := g) (by decide +kernel) rfl ?_
  subst H
  exact xret_i A hR hz (by decide +kernel) rfl ⟨rfl, rfl⟩
def f_X12_in (p0 : Int32) (p1 : Int32) (p2 : Int32) : Int32 :=
  if p0 < p1 then
    0
  else
    if p2 < p0 then
      0
    else
      1
set_option maxRecDepth 20000 in
theorem c_X12_in {S : List xSh} (hS : xpf SH2 S) {g : xG} {p0 : Int32} {p1 : Int32} {p2 : Int32} (out : Int32) (H : f_X12_in p0 p1 p2 = out) : xC mX12_in 0 0 0 0 S [.int p0, .int p1, .int p2] g S (fun r g' => r = some (.int out) ∧ g' = g) := by
  have H : (if p0 < p1 then
  0
else
  if p2 < p0 then
    0
  else
    1) = out := H
  refine xC.of 12 SH2 [some (.int p0), some (.int p1), some (.int p2)] hS (by decide +kernel) rfl (fun _ _ => Nat.le_of_ble_eq_true rfl) (fun _ _ => rfl) ?_
  intro k A hR hrm hz
  refine xb A [(.iload_n 0, 1, 0, 0, .null), (.iload_n 1, 1, 0, 0, .null)] (pc' := 2) (ls' := [some (.int p0), some (.int p1), some (.int p2)]) (st' := [.int p1, .int p0]) (g' := g) (by decide +kernel) rfl ?_
  refine xic_lt A (12) 14 5 (by decide +kernel) (fun h1 => ?_) (fun h1 => ?_)
  · rw [if_pos h1] at H
    refine xb A [(.iconst 0, 1, 0, 0, .int 0)] (pc' := 15) (ls' := [some (.int p0), some (.int p1), some (.int p2)]) (st' := [.int 0]) (g' := g) (by decide +kernel) rfl ?_
    subst H
    exact xret_i A hR hz (by decide +kernel) rfl ⟨rfl, rfl⟩
  · rw [if_neg h1] at H
    refine xb A [(.iload_n 0, 1, 0, 0, .null), (.iload_n 2, 1, 0, 0, .null)] (pc' := 7) (ls' := [some (.int p0), some (.int p1), some (.int p2)]) (st' := [.int p2, .int p0]) (g' := g) (by decide +kernel) rfl ?_
    refine xic_gt A (7) 14 10 (by decide +kernel) (fun h2 => ?_) (fun h2 => ?_)
    · rw [if_pos h2] at H
      refine xb A [(.iconst 0, 1, 0, 0, .int 0)] (pc' := 15) (ls' := [some (.int p0), some (.int p1), some (.int p2)]) (st' := [.int 0]) (g' := g) (by decide +kernel) rfl ?_
      subst H
      exact xret_i A hR hz (by decide +kernel) rfl ⟨rfl, rfl⟩
    · rw [if_neg h2] at H
      refine xb A [(.iconst 1, 1, 0, 0, .int 1)] (pc' := 11) (ls' := [some (.int p0), some (.int p1), some (.int p2)]) (st' := [.int 1]) (g' := g) (by decide +kernel) rfl ?_
      refine xgoto A (4) 15 (by decide +kernel) ?_
      subst H
      exact xret_i A hR hz (by decide +kernel) rfl ⟨rfl, rfl⟩
def f_X12_isTown_60 (p1 : Int32) (g : xG) : Option (Int32) :=
  xg (¬ ((g.1 60 18) < 0 ∨ 2 ≤ (g.1 60 18).toNatClampNeg)) (
    some (f_X12_in p1 0 ((g.1 70 (g.1 60 18).toNatClampNeg) - 1)))
set_option maxRecDepth 20000 in
theorem c_X12_isTown_60 {S : List xSh} (hS : xpf SH2 S) {g : xG} {p1 : Int32} (out : Int32) (H : f_X12_isTown_60 p1 g = some out) : xC mX12_isTown 1 22 0 0 S [.ref 60, .int p1] g S (fun r g' => r = some (.int out) ∧ g' = g) := by
  have H : (xg (¬ ((g.1 60 18) < 0 ∨ 2 ≤ (g.1 60 18).toNatClampNeg)) (
  some (f_X12_in p1 0 ((g.1 70 (g.1 60 18).toNatClampNeg) - 1)))) = some out := H
  refine xC.of 12 SH2 [some (.ref 60), some (.int p1)] hS (by decide +kernel) rfl (fun _ _ => Nat.le_of_ble_eq_true rfl) (fun _ _ => rfl) ?_
  intro k A hR hrm hz
  refine xb A [(.iload_n 1, 1, 0, 0, .null), (.iconst 0, 1, 0, 0, .int 0), (.aload_n 0, 1, 0, 0, .null), (.getfield 46, 3, 60, 23, .ref 70), (.aload_n 0, 1, 0, 0, .null), (.getfield 227, 3, 60, 18, .int 0)] (pc' := 10) (ls' := [some (.ref 60), some (.int p1)]) (st' := [.int (g.1 60 18), .ref 70, .int 0, .int p1]) (g' := g) (by decide +kernel) rfl ?_
  obtain ⟨h1, H⟩ := xg_elim H
  refine xiald A (nxt := 11) (by decide +kernel) (hS _ _ sh_70) h1 ?_
  show xW k S 0 0 11 [some (.ref 60), some (.int p1)] [.int (g.1 70 (g.1 60 18).toNatClampNeg), .int 0, .int p1] g
  refine xb A [(.iconst 1, 1, 0, 0, .int 1), (.isub, 1, 0, 0, .null)] (pc' := 13) (ls' := [some (.ref 60), some (.int p1)]) (st' := [.int ((g.1 70 (g.1 60 18).toNatClampNeg) - 1), .int 0, .int p1]) (g' := g) (by decide +kernel) rfl ?_
  refine xcallS A (ix := 307) (nxt := 16) hrm hz [.int p1, .int 0, .int ((g.1 70 (g.1 60 18).toNatClampNeg) - 1)] [] 1696 (c_X12_in hS _ rfl) ok_X12_in (by decide +kernel) rfl (fun r g1 hq => ?_)
  rw [hq.1, hq.2]
  show xW k S 0 0 16 [some (.ref 60), some (.int p1)] [.int (f_X12_in p1 0 ((g.1 70 (g.1 60 18).toNatClampNeg) - 1))] g
  obtain rfl := Option.some.inj H
  exact xret_i A hR hz (by decide +kernel) (by unfold f_X12_in; repeat' (first | rfl | split)) ⟨rfl, rfl⟩
def fp_X12_fillsFar_60 : List (Nat × Option Nat) := [(95, none)]
def f_X12_fillsFar_60_206 (k190 : Int32 → xG → Option (xG)) (k198 : Int32 → Int32 → xG → Option (xG)) : Nat → Int32 → Int32 → Int32 → xG → Option (xG)
  | 0, _, _, _, _ => none
  | n + 1, l1, l2, l3, g =>
    if 7 ≤ l3 then
      k198 l1 (l2 + 1) g
    else
      xg (¬ (((7 * l2) + l1) < 0 ∨ 49 ≤ ((7 * l2) + l1).toNatClampNeg)) (
        xg (¬ (((7 * l1) + l3) < 0 ∨ 49 ≤ ((7 * l1) + l3).toNatClampNeg)) (
          xg (¬ (((7 * l2) + l3) < 0 ∨ 49 ≤ ((7 * l2) + l3).toNatClampNeg)) (
            if (g.1 95 ((7 * l2) + l3).toNatClampNeg) ≤ ((g.1 95 ((7 * l2) + l1).toNatClampNeg) + (g.1 95 ((7 * l1) + l3).toNatClampNeg)) then
              f_X12_fillsFar_60_206 k190 k198 n l1 l2 (l3 + 1) g
            else
              xg (¬ (((7 * l2) + l1) < 0 ∨ 49 ≤ ((7 * l2) + l1).toNatClampNeg)) (
                xg (¬ (((7 * l1) + l3) < 0 ∨ 49 ≤ ((7 * l1) + l3).toNatClampNeg)) (
                  xg (¬ (((7 * l2) + l3) < 0 ∨ 49 ≤ ((7 * l2) + l3).toNatClampNeg)) (
                    f_X12_fillsFar_60_206 k190 k198 n l1 l2 (l3 + 1) (xupd g.1 95 ((7 * l2) + l3).toNatClampNeg ((g.1 95 ((7 * l2) + l1).toNatClampNeg) + (g.1 95 ((7 * l1) + l3).toNatClampNeg)), g.2)))))))
def f_X12_fillsFar_60_198 (k190 : Int32 → xG → Option (xG)) : Nat → Int32 → Int32 → xG → Option (xG)
  | 0, _, _, _ => none
  | n + 1, l1, l2, g =>
    if 7 ≤ l2 then
      k190 (l1 + 1) g
    else
      f_X12_fillsFar_60_206 k190 (f_X12_fillsFar_60_198 k190 n) xN l1 l2 0 g
def f_X12_fillsFar_60_190  : Nat → Int32 → xG → Option (xG)
  | 0, _, _ => none
  | n + 1, l1, g =>
    if 7 ≤ l1 then
      some g
    else
      f_X12_fillsFar_60_198 (f_X12_fillsFar_60_190 n) xN l1 0 g
def f_X12_fillsFar_60_40  : Nat → Int32 → xG → Option (xG)
  | 0, _, _ => none
  | n + 1, l1, g =>
    xg (¬ ((g.1 60 18) < 0 ∨ 2 ≤ (g.1 60 18).toNatClampNeg)) (
      if (g.1 71 (g.1 60 18).toNatClampNeg) ≤ l1 then
        f_X12_fillsFar_60_190 xN 0 g
      else
        xg (¬ ((36 : Int32) < 0 ∨ 40 ≤ (36 : Int32).toNatClampNeg)) (
          if (((g.1 94 (36 : Int32).toNatClampNeg) >>> (l1 &&& 31)) &&& 1) = 1 then
            f_X12_fillsFar_60_40 n (l1 + 1) g
          else
            xg (¬ (((10 * (g.1 60 18)) + l1) < 0 ∨ 20 ≤ ((10 * (g.1 60 18)) + l1).toNatClampNeg)) (
              xg (¬ (((10 * (g.1 60 18)) + l1) < 0 ∨ 20 ≤ ((10 * (g.1 60 18)) + l1).toNatClampNeg)) (
                xg (¬ (((10 * (g.1 60 18)) + l1) < 0 ∨ 20 ≤ ((10 * (g.1 60 18)) + l1).toNatClampNeg)) (
                  xg (¬ (((7 * (g.1 72 ((10 * (g.1 60 18)) + l1).toNatClampNeg)) + (g.1 73 ((10 * (g.1 60 18)) + l1).toNatClampNeg)) < 0 ∨ 49 ≤ ((7 * (g.1 72 ((10 * (g.1 60 18)) + l1).toNatClampNeg)) + (g.1 73 ((10 * (g.1 60 18)) + l1).toNatClampNeg)).toNatClampNeg)) (
                    if (g.1 74 ((10 * (g.1 60 18)) + l1).toNatClampNeg) < (g.1 95 ((7 * (g.1 72 ((10 * (g.1 60 18)) + l1).toNatClampNeg)) + (g.1 73 ((10 * (g.1 60 18)) + l1).toNatClampNeg)).toNatClampNeg) then
                      xg (¬ (((10 * (g.1 60 18)) + l1) < 0 ∨ 20 ≤ ((10 * (g.1 60 18)) + l1).toNatClampNeg)) (
                        xg (¬ (((7 * (g.1 72 ((10 * (g.1 60 18)) + l1).toNatClampNeg)) + (g.1 73 ((10 * (g.1 60 18)) + l1).toNatClampNeg)) < 0 ∨ 49 ≤ ((7 * (g.1 72 ((10 * (g.1 60 18)) + l1).toNatClampNeg)) + (g.1 73 ((10 * (g.1 60 18)) + l1).toNatClampNeg)).toNatClampNeg)) (
                          xg (¬ (((10 * (g.1 60 18)) + l1) < 0 ∨ 20 ≤ ((10 * (g.1 60 18)) + l1).toNatClampNeg)) (
                            xg (¬ (((7 * (g.1 73 ((10 * (g.1 60 18)) + l1).toNatClampNeg)) + (g.1 72 ((10 * (g.1 60 18)) + l1).toNatClampNeg)) < 0 ∨ 49 ≤ ((7 * (g.1 73 ((10 * (g.1 60 18)) + l1).toNatClampNeg)) + (g.1 72 ((10 * (g.1 60 18)) + l1).toNatClampNeg)).toNatClampNeg)) (
                              f_X12_fillsFar_60_40 n (l1 + 1) (xupd (xupd g.1 95 ((7 * (g.1 72 ((10 * (g.1 60 18)) + l1).toNatClampNeg)) + (g.1 73 ((10 * (g.1 60 18)) + l1).toNatClampNeg)).toNatClampNeg (g.1 74 ((10 * (g.1 60 18)) + l1).toNatClampNeg)) 95 ((7 * (g.1 73 ((10 * (g.1 60 18)) + l1).toNatClampNeg)) + (g.1 72 ((10 * (g.1 60 18)) + l1).toNatClampNeg)).toNatClampNeg (g.1 74 ((10 * (g.1 60 18)) + l1).toNatClampNeg), g.2)))))
                    else
                      f_X12_fillsFar_60_40 n (l1 + 1) g))))))
def f_X12_fillsFar_60_2  : Nat → Int32 → xG → Option (xG)
  | 0, _, _ => none
  | n + 1, l1, g =>
    if 49 ≤ l1 then
      f_X12_fillsFar_60_40 xN 0 g
    else
      xg (¬ (7 : Int32) = 0) (
        xg (¬ (7 : Int32) = 0) (
          if (l1 / 7) = (l1 - l1 / 7 * 7) then
            xg (¬ (l1 < 0 ∨ 49 ≤ l1.toNatClampNeg)) (
              f_X12_fillsFar_60_2 n (l1 + 1) (xupd g.1 95 l1.toNatClampNeg 0, g.2))
          else
            xg (¬ (l1 < 0 ∨ 49 ≤ l1.toNatClampNeg)) (
              f_X12_fillsFar_60_2 n (l1 + 1) (xupd g.1 95 l1.toNatClampNeg 999, g.2))))
def f_X12_fillsFar_60  (g : xG) : Option (xG) :=
  f_X12_fillsFar_60_2 xN 0 g
set_option maxRecDepth 20000 in
theorem t_X12_fillsFar_60_206 {k : xK} {S : List xSh} {out : xG} (hS : xpf SH2 S) (A : xAt k mX12_fillsFar.2.1 12 SH2 S) (hR : xRet k 0 0 S (fun r g' => r = none ∧ g' = out) mX12_fillsFar.2.2.2) (hrm : xrm k = { frames := 0, cells := 0, slots := 0, locals := 0 }) (hz : xhs k = xb0 k + S.length) {k190 : Int32 → xG → Option (xG)} {k198 : Int32 → Int32 → xG → Option (xG)} (hk190 : ∀ (l1 : Int32) (g : xG), k190 l1 g = some out → xW k S 0 0 190 [some (.ref 60), some (.int l1), none, none] [] g) (hk198 : ∀ (l1 : Int32) (l2 : Int32) (g : xG), k198 l1 l2 g = some out → xW k S 0 0 198 [some (.ref 60), some (.int l1), some (.int l2), none] [] g) : ∀ (n : Nat) (l1 : Int32) (l2 : Int32) (l3 : Int32) (g : xG), f_X12_fillsFar_60_206 k190 k198 n l1 l2 l3 g = some out → xW k S 0 0 206 [some (.ref 60), some (.int l1), some (.int l2), some (.int l3)] [] g := by
  intro n
  induction n with
  | zero => intro l1 l2 l3 g H; exact absurd H (by simp [f_X12_fillsFar_60_206])
  | succ n ih =>
    intro l1 l2 l3 g H
    have H : (if 7 ≤ l3 then
  k198 l1 (l2 + 1) g
else
  xg (¬ (((7 * l2) + l1) < 0 ∨ 49 ≤ ((7 * l2) + l1).toNatClampNeg)) (
    xg (¬ (((7 * l1) + l3) < 0 ∨ 49 ≤ ((7 * l1) + l3).toNatClampNeg)) (
      xg (¬ (((7 * l2) + l3) < 0 ∨ 49 ≤ ((7 * l2) + l3).toNatClampNeg)) (
        if (g.1 95 ((7 * l2) + l3).toNatClampNeg) ≤ ((g.1 95 ((7 * l2) + l1).toNatClampNeg) + (g.1 95 ((7 * l1) + l3).toNatClampNeg)) then
          f_X12_fillsFar_60_206 k190 k198 n l1 l2 (l3 + 1) g
        else
          xg (¬ (((7 * l2) + l1) < 0 ∨ 49 ≤ ((7 * l2) + l1).toNatClampNeg)) (
            xg (¬ (((7 * l1) + l3) < 0 ∨ 49 ≤ ((7 * l1) + l3).toNatClampNeg)) (
              xg (¬ (((7 * l2) + l3) < 0 ∨ 49 ≤ ((7 * l2) + l3).toNatClampNeg)) (
                f_X12_fillsFar_60_206 k190 k198 n l1 l2 (l3 + 1) (xupd g.1 95 ((7 * l2) + l3).toNatClampNeg ((g.1 95 ((7 * l2) + l1).toNatClampNeg) + (g.1 95 ((7 * l1) + l3).toNatClampNeg)), g.2)))))))) = some out := H
    refine xb A [(.iload_n 3, 1, 0, 0, .null), (.bipush 7, 2, 0, 0, .int 7)] (pc' := 209) (ls' := [some (.ref 60), some (.int l1), some (.int l2), some (.int l3)]) (st' := [.int 7, .int l3]) (g' := g) (by decide +kernel) rfl ?_
    refine xic_ge A (80) 289 212 (by decide +kernel) (fun h6 => ?_) (fun h6 => ?_)
    · rw [if_pos h6] at H
      refine xb A [(.iinc 2 1, 3, 0, 0, .null)] (pc' := 292) (ls' := [some (.ref 60), some (.int l1), some (.int (l2 + 1)), some (.int l3)]) (st' := []) (g' := g) (by decide +kernel) rfl ?_
      refine xgoto A (-94) 198 (by decide +kernel) ?_
      refine xweak (ls' := [some (.ref 60), some (.int l1), some (.int (l2 + 1)), none]) (by exact ⟨rfl, ⟨rfl, ⟨rfl, trivial⟩⟩⟩) ?_
      exact hk198 _ _ _ H
    · rw [if_neg h6] at H
      refine xb A [(.aload_n 0, 1, 0, 0, .null), (.getfield 122, 3, 60, 54, .ref 95), (.bipush 7, 2, 0, 0, .int 7), (.iload_n 2, 1, 0, 0, .null), (.imul, 1, 0, 0, .null), (.iload_n 1, 1, 0, 0, .null), (.iadd, 1, 0, 0, .null)] (pc' := 222) (ls' := [some (.ref 60), some (.int l1), some (.int l2), some (.int l3)]) (st' := [.int ((7 * l2) + l1), .ref 95]) (g' := g) (by decide +kernel) rfl ?_
      obtain ⟨h7, H⟩ := xg_elim H
      refine xiald A (nxt := 223) (by decide +kernel) (hS _ _ sh_95) h7 ?_
      show xW k S 0 0 223 [some (.ref 60), some (.int l1), some (.int l2), some (.int l3)] [.int (g.1 95 ((7 * l2) + l1).toNatClampNeg)] g
      refine xb A [(.aload_n 0, 1, 0, 0, .null), (.getfield 122, 3, 60, 54, .ref 95), (.bipush 7, 2, 0, 0, .int 7), (.iload_n 1, 1, 0, 0, .null), (.imul, 1, 0, 0, .null), (.iload_n 3, 1, 0, 0, .null), (.iadd, 1, 0, 0, .null)] (pc' := 233) (ls' := [some (.ref 60), some (.int l1), some (.int l2), some (.int l3)]) (st' := [.int ((7 * l1) + l3), .ref 95, .int (g.1 95 ((7 * l2) + l1).toNatClampNeg)]) (g' := g) (by decide +kernel) rfl ?_
      obtain ⟨h8, H⟩ := xg_elim H
      refine xiald A (nxt := 234) (by decide +kernel) (hS _ _ sh_95) h8 ?_
      show xW k S 0 0 234 [some (.ref 60), some (.int l1), some (.int l2), some (.int l3)] [.int (g.1 95 ((7 * l1) + l3).toNatClampNeg), .int (g.1 95 ((7 * l2) + l1).toNatClampNeg)] g
      refine xb A [(.iadd, 1, 0, 0, .null), (.aload_n 0, 1, 0, 0, .null), (.getfield 122, 3, 60, 54, .ref 95), (.bipush 7, 2, 0, 0, .int 7), (.iload_n 2, 1, 0, 0, .null), (.imul, 1, 0, 0, .null), (.iload_n 3, 1, 0, 0, .null), (.iadd, 1, 0, 0, .null)] (pc' := 245) (ls' := [some (.ref 60), some (.int l1), some (.int l2), some (.int l3)]) (st' := [.int ((7 * l2) + l3), .ref 95, .int ((g.1 95 ((7 * l2) + l1).toNatClampNeg) + (g.1 95 ((7 * l1) + l3).toNatClampNeg))]) (g' := g) (by decide +kernel) rfl ?_
      obtain ⟨h9, H⟩ := xg_elim H
      refine xiald A (nxt := 246) (by decide +kernel) (hS _ _ sh_95) h9 ?_
      show xW k S 0 0 246 [some (.ref 60), some (.int l1), some (.int l2), some (.int l3)] [.int (g.1 95 ((7 * l2) + l3).toNatClampNeg), .int ((g.1 95 ((7 * l2) + l1).toNatClampNeg) + (g.1 95 ((7 * l1) + l3).toNatClampNeg))] g
      refine xic_ge A (37) 283 249 (by decide +kernel) (fun h10 => ?_) (fun h10 => ?_)
      · rw [if_pos h10] at H
        refine xb A [(.iinc 3 1, 3, 0, 0, .null)] (pc' := 286) (ls' := [some (.ref 60), some (.int l1), some (.int l2), some (.int (l3 + 1))]) (st' := []) (g' := g) (by decide +kernel) rfl ?_
        refine xgoto A (-80) 206 (by decide +kernel) ?_
        exact ih _ _ _ _ H
      · rw [if_neg h10] at H
        refine xb A [(.aload_n 0, 1, 0, 0, .null), (.getfield 122, 3, 60, 54, .ref 95), (.bipush 7, 2, 0, 0, .int 7), (.iload_n 2, 1, 0, 0, .null), (.imul, 1, 0, 0, .null), (.iload_n 3, 1, 0, 0, .null), (.iadd, 1, 0, 0, .null), (.aload_n 0, 1, 0, 0, .null), (.getfield 122, 3, 60, 54, .ref 95), (.bipush 7, 2, 0, 0, .int 7), (.iload_n 2, 1, 0, 0, .null), (.imul, 1, 0, 0, .null), (.iload_n 1, 1, 0, 0, .null), (.iadd, 1, 0, 0, .null)] (pc' := 269) (ls' := [some (.ref 60), some (.int l1), some (.int l2), some (.int l3)]) (st' := [.int ((7 * l2) + l1), .ref 95, .int ((7 * l2) + l3), .ref 95]) (g' := g) (by decide +kernel) rfl ?_
        obtain ⟨h11, H⟩ := xg_elim H
        refine xiald A (nxt := 270) (by decide +kernel) (hS _ _ sh_95) h11 ?_
        show xW k S 0 0 270 [some (.ref 60), some (.int l1), some (.int l2), some (.int l3)] [.int (g.1 95 ((7 * l2) + l1).toNatClampNeg), .int ((7 * l2) + l3), .ref 95] g
        refine xb A [(.aload_n 0, 1, 0, 0, .null), (.getfield 122, 3, 60, 54, .ref 95), (.bipush 7, 2, 0, 0, .int 7), (.iload_n 1, 1, 0, 0, .null), (.imul, 1, 0, 0, .null), (.iload_n 3, 1, 0, 0, .null), (.iadd, 1, 0, 0, .null)] (pc' := 280) (ls' := [some (.ref 60), some (.int l1), some (.int l2), some (.int l3)]) (st' := [.int ((7 * l1) + l3), .ref 95, .int (g.1 95 ((7 * l2) + l1).toNatClampNeg), .int ((7 * l2) + l3), .ref 95]) (g' := g) (by decide +kernel) rfl ?_
        obtain ⟨h12, H⟩ := xg_elim H
        refine xiald A (nxt := 281) (by decide +kernel) (hS _ _ sh_95) h12 ?_
        show xW k S 0 0 281 [some (.ref 60), some (.int l1), some (.int l2), some (.int l3)] [.int (g.1 95 ((7 * l1) + l3).toNatClampNeg), .int (g.1 95 ((7 * l2) + l1).toNatClampNeg), .int ((7 * l2) + l3), .ref 95] g
        refine xb A [(.iadd, 1, 0, 0, .null)] (pc' := 282) (ls' := [some (.ref 60), some (.int l1), some (.int l2), some (.int l3)]) (st' := [.int ((g.1 95 ((7 * l2) + l1).toNatClampNeg) + (g.1 95 ((7 * l1) + l3).toNatClampNeg)), .int ((7 * l2) + l3), .ref 95]) (g' := g) (by decide +kernel) rfl ?_
        obtain ⟨h13, H⟩ := xg_elim H
        refine xiast A (nxt := 283) (by decide +kernel) (hS _ _ sh_95) h13 ?_
        show xW k S 0 0 283 [some (.ref 60), some (.int l1), some (.int l2), some (.int l3)] [] (xupd g.1 95 ((7 * l2) + l3).toNatClampNeg ((g.1 95 ((7 * l2) + l1).toNatClampNeg) + (g.1 95 ((7 * l1) + l3).toNatClampNeg)), g.2)
        refine xb A [(.iinc 3 1, 3, 0, 0, .null)] (pc' := 286) (ls' := [some (.ref 60), some (.int l1), some (.int l2), some (.int (l3 + 1))]) (st' := []) (g' := (xupd g.1 95 ((7 * l2) + l3).toNatClampNeg ((g.1 95 ((7 * l2) + l1).toNatClampNeg) + (g.1 95 ((7 * l1) + l3).toNatClampNeg)), g.2)) (by decide +kernel) rfl ?_
        refine xgoto A (-80) 206 (by decide +kernel) ?_
        exact ih _ _ _ _ H
theorem fr_X12_fillsFar_60_206 {k190 : Int32 → xG → Option (xG)} {k198 : Int32 → Int32 → xG → Option (xG)} (hk190 : ∀ (l1 : Int32) (g : xG) (out : xG), k190 l1 g = some out → xfrm fp_X12_fillsFar_60 g (out)) (hk198 : ∀ (l1 : Int32) (l2 : Int32) (g : xG) (out : xG), k198 l1 l2 g = some out → xfrm fp_X12_fillsFar_60 g (out)) : ∀ (n : Nat) (l1 : Int32) (l2 : Int32) (l3 : Int32) (g : xG) (out : xG), f_X12_fillsFar_60_206 k190 k198 n l1 l2 l3 g = some out → xfrm fp_X12_fillsFar_60 g (out) := by
  intro n
  induction n with
  | zero => intro l1 l2 l3 g out H; exact absurd H (by simp [f_X12_fillsFar_60_206])
  | succ n ih =>
    intro l1 l2 l3 g out H
    have H : (if 7 ≤ l3 then
  k198 l1 (l2 + 1) g
else
  xg (¬ (((7 * l2) + l1) < 0 ∨ 49 ≤ ((7 * l2) + l1).toNatClampNeg)) (
    xg (¬ (((7 * l1) + l3) < 0 ∨ 49 ≤ ((7 * l1) + l3).toNatClampNeg)) (
      xg (¬ (((7 * l2) + l3) < 0 ∨ 49 ≤ ((7 * l2) + l3).toNatClampNeg)) (
        if (g.1 95 ((7 * l2) + l3).toNatClampNeg) ≤ ((g.1 95 ((7 * l2) + l1).toNatClampNeg) + (g.1 95 ((7 * l1) + l3).toNatClampNeg)) then
          f_X12_fillsFar_60_206 k190 k198 n l1 l2 (l3 + 1) g
        else
          xg (¬ (((7 * l2) + l1) < 0 ∨ 49 ≤ ((7 * l2) + l1).toNatClampNeg)) (
            xg (¬ (((7 * l1) + l3) < 0 ∨ 49 ≤ ((7 * l1) + l3).toNatClampNeg)) (
              xg (¬ (((7 * l2) + l3) < 0 ∨ 49 ≤ ((7 * l2) + l3).toNatClampNeg)) (
                f_X12_fillsFar_60_206 k190 k198 n l1 l2 (l3 + 1) (xupd g.1 95 ((7 * l2) + l3).toNatClampNeg ((g.1 95 ((7 * l2) + l1).toNatClampNeg) + (g.1 95 ((7 * l1) + l3).toNatClampNeg)), g.2)))))))) = some out := H
    by_cases h6 : 7 ≤ l3
    · rw [if_pos h6] at H
      exact xfrm.tr xfrm.rf (hk198 _ _ _ _ H) rfl
    · rw [if_neg h6] at H
      obtain ⟨h7, H⟩ := xg_elim H
      obtain ⟨h8, H⟩ := xg_elim H
      obtain ⟨h9, H⟩ := xg_elim H
      by_cases h10 : (g.1 95 ((7 * l2) + l3).toNatClampNeg) ≤ ((g.1 95 ((7 * l2) + l1).toNatClampNeg) + (g.1 95 ((7 * l1) + l3).toNatClampNeg))
      · rw [if_pos h10] at H
        exact xfrm.tr xfrm.rf (ih _ _ _ _ _ H) rfl
      · rw [if_neg h10] at H
        obtain ⟨h11, H⟩ := xg_elim H
        obtain ⟨h12, H⟩ := xg_elim H
        obtain ⟨h13, H⟩ := xg_elim H
        have hf1 : xfrm fp_X12_fillsFar_60 g ((xupd g.1 95 ((7 * l2) + l3).toNatClampNeg ((g.1 95 ((7 * l2) + l1).toNatClampNeg) + (g.1 95 ((7 * l1) + l3).toNatClampNeg)), g.2)) := xfrm.ua xfrm.rf rfl
        exact xfrm.tr hf1 (ih _ _ _ _ _ H) rfl
set_option maxRecDepth 20000 in
theorem t_X12_fillsFar_60_198 {k : xK} {S : List xSh} {out : xG} (hS : xpf SH2 S) (A : xAt k mX12_fillsFar.2.1 12 SH2 S) (hR : xRet k 0 0 S (fun r g' => r = none ∧ g' = out) mX12_fillsFar.2.2.2) (hrm : xrm k = { frames := 0, cells := 0, slots := 0, locals := 0 }) (hz : xhs k = xb0 k + S.length) {k190 : Int32 → xG → Option (xG)} (hk190 : ∀ (l1 : Int32) (g : xG), k190 l1 g = some out → xW k S 0 0 190 [some (.ref 60), some (.int l1), none, none] [] g) : ∀ (n : Nat) (l1 : Int32) (l2 : Int32) (g : xG), f_X12_fillsFar_60_198 k190 n l1 l2 g = some out → xW k S 0 0 198 [some (.ref 60), some (.int l1), some (.int l2), none] [] g := by
  intro n
  induction n with
  | zero => intro l1 l2 g H; exact absurd H (by simp [f_X12_fillsFar_60_198])
  | succ n ih =>
    intro l1 l2 g H
    have H : (if 7 ≤ l2 then
  k190 (l1 + 1) g
else
  f_X12_fillsFar_60_206 k190 (f_X12_fillsFar_60_198 k190 n) xN l1 l2 0 g) = some out := H
    refine xb A [(.iload_n 2, 1, 0, 0, .null), (.bipush 7, 2, 0, 0, .int 7)] (pc' := 201) (ls' := [some (.ref 60), some (.int l1), some (.int l2), none]) (st' := [.int 7, .int l2]) (g' := g) (by decide +kernel) rfl ?_
    refine xic_ge A (94) 295 204 (by decide +kernel) (fun h5 => ?_) (fun h5 => ?_)
    · rw [if_pos h5] at H
      refine xb A [(.iinc 1 1, 3, 0, 0, .null)] (pc' := 298) (ls' := [some (.ref 60), some (.int (l1 + 1)), some (.int l2), none]) (st' := []) (g' := g) (by decide +kernel) rfl ?_
      refine xgoto A (-108) 190 (by decide +kernel) ?_
      refine xweak (ls' := [some (.ref 60), some (.int (l1 + 1)), none, none]) (by exact ⟨rfl, ⟨rfl, trivial⟩⟩) ?_
      exact hk190 _ _ H
    · rw [if_neg h5] at H
      refine xb A [(.iconst 0, 1, 0, 0, .int 0), (.istore_n 3, 1, 0, 0, .null)] (pc' := 206) (ls' := [some (.ref 60), some (.int l1), some (.int l2), some (.int 0)]) (st' := []) (g' := g) (by decide +kernel) rfl ?_
      exact t_X12_fillsFar_60_206 hS A hR hrm hz hk190 ih _ _ _ _ _ H
theorem fr_X12_fillsFar_60_198 {k190 : Int32 → xG → Option (xG)} (hk190 : ∀ (l1 : Int32) (g : xG) (out : xG), k190 l1 g = some out → xfrm fp_X12_fillsFar_60 g (out)) : ∀ (n : Nat) (l1 : Int32) (l2 : Int32) (g : xG) (out : xG), f_X12_fillsFar_60_198 k190 n l1 l2 g = some out → xfrm fp_X12_fillsFar_60 g (out) := by
  intro n
  induction n with
  | zero => intro l1 l2 g out H; exact absurd H (by simp [f_X12_fillsFar_60_198])
  | succ n ih =>
    intro l1 l2 g out H
    have H : (if 7 ≤ l2 then
  k190 (l1 + 1) g
else
  f_X12_fillsFar_60_206 k190 (f_X12_fillsFar_60_198 k190 n) xN l1 l2 0 g) = some out := H
    by_cases h5 : 7 ≤ l2
    · rw [if_pos h5] at H
      exact xfrm.tr xfrm.rf (hk190 _ _ _ H) rfl
    · rw [if_neg h5] at H
      exact xfrm.tr xfrm.rf (fr_X12_fillsFar_60_206 hk190 ih _ _ _ _ _ _ H) rfl
set_option maxRecDepth 20000 in
theorem t_X12_fillsFar_60_190 {k : xK} {S : List xSh} {out : xG} (hS : xpf SH2 S) (A : xAt k mX12_fillsFar.2.1 12 SH2 S) (hR : xRet k 0 0 S (fun r g' => r = none ∧ g' = out) mX12_fillsFar.2.2.2) (hrm : xrm k = { frames := 0, cells := 0, slots := 0, locals := 0 }) (hz : xhs k = xb0 k + S.length)   : ∀ (n : Nat) (l1 : Int32) (g : xG), f_X12_fillsFar_60_190 n l1 g = some out → xW k S 0 0 190 [some (.ref 60), some (.int l1), none, none] [] g := by
  intro n
  induction n with
  | zero => intro l1 g H; exact absurd H (by simp [f_X12_fillsFar_60_190])
  | succ n ih =>
    intro l1 g H
    have H : (if 7 ≤ l1 then
  some g
else
  f_X12_fillsFar_60_198 (f_X12_fillsFar_60_190 n) xN l1 0 g) = some out := H
    refine xb A [(.iload_n 1, 1, 0, 0, .null), (.bipush 7, 2, 0, 0, .int 7)] (pc' := 193) (ls' := [some (.ref 60), some (.int l1), none, none]) (st' := [.int 7, .int l1]) (g' := g) (by decide +kernel) rfl ?_
    refine xic_ge A (108) 301 196 (by decide +kernel) (fun h4 => ?_) (fun h4 => ?_)
    · rw [if_pos h4] at H
      obtain rfl := Option.some.inj H
      exact xret_v A hR hz (by decide +kernel) ⟨rfl, rfl⟩
    · rw [if_neg h4] at H
      refine xb A [(.iconst 0, 1, 0, 0, .int 0), (.istore_n 2, 1, 0, 0, .null)] (pc' := 198) (ls' := [some (.ref 60), some (.int l1), some (.int 0), none]) (st' := []) (g' := g) (by decide +kernel) rfl ?_
      exact t_X12_fillsFar_60_198 hS A hR hrm hz ih _ _ _ _ H
theorem fr_X12_fillsFar_60_190   : ∀ (n : Nat) (l1 : Int32) (g : xG) (out : xG), f_X12_fillsFar_60_190 n l1 g = some out → xfrm fp_X12_fillsFar_60 g (out) := by
  intro n
  induction n with
  | zero => intro l1 g out H; exact absurd H (by simp [f_X12_fillsFar_60_190])
  | succ n ih =>
    intro l1 g out H
    have H : (if 7 ≤ l1 then
  some g
else
  f_X12_fillsFar_60_198 (f_X12_fillsFar_60_190 n) xN l1 0 g) = some out := H
    by_cases h4 : 7 ≤ l1
    · rw [if_pos h4] at H
      obtain rfl := Option.some.inj H
      exact xfrm.rf
    · rw [if_neg h4] at H
      exact xfrm.tr xfrm.rf (fr_X12_fillsFar_60_198 ih _ _ _ _ _ H) rfl
set_option maxRecDepth 20000 in
theorem t_X12_fillsFar_60_40 {k : xK} {S : List xSh} {out : xG} (hS : xpf SH2 S) (A : xAt k mX12_fillsFar.2.1 12 SH2 S) (hR : xRet k 0 0 S (fun r g' => r = none ∧ g' = out) mX12_fillsFar.2.2.2) (hrm : xrm k = { frames := 0, cells := 0, slots := 0, locals := 0 }) (hz : xhs k = xb0 k + S.length)   : ∀ (n : Nat) (l1 : Int32) (g : xG), f_X12_fillsFar_60_40 n l1 g = some out → xW k S 0 0 40 [some (.ref 60), some (.int l1), none, none] [] g := by
  intro n
  induction n with
  | zero => intro l1 g H; exact absurd H (by simp [f_X12_fillsFar_60_40])
  | succ n ih =>
    intro l1 g H
    have H : (xg (¬ ((g.1 60 18) < 0 ∨ 2 ≤ (g.1 60 18).toNatClampNeg)) (
  if (g.1 71 (g.1 60 18).toNatClampNeg) ≤ l1 then
    f_X12_fillsFar_60_190 xN 0 g
  else
    xg (¬ ((36 : Int32) < 0 ∨ 40 ≤ (36 : Int32).toNatClampNeg)) (
      if (((g.1 94 (36 : Int32).toNatClampNeg) >>> (l1 &&& 31)) &&& 1) = 1 then
        f_X12_fillsFar_60_40 n (l1 + 1) g
      else
        xg (¬ (((10 * (g.1 60 18)) + l1) < 0 ∨ 20 ≤ ((10 * (g.1 60 18)) + l1).toNatClampNeg)) (
          xg (¬ (((10 * (g.1 60 18)) + l1) < 0 ∨ 20 ≤ ((10 * (g.1 60 18)) + l1).toNatClampNeg)) (
            xg (¬ (((10 * (g.1 60 18)) + l1) < 0 ∨ 20 ≤ ((10 * (g.1 60 18)) + l1).toNatClampNeg)) (
              xg (¬ (((7 * (g.1 72 ((10 * (g.1 60 18)) + l1).toNatClampNeg)) + (g.1 73 ((10 * (g.1 60 18)) + l1).toNatClampNeg)) < 0 ∨ 49 ≤ ((7 * (g.1 72 ((10 * (g.1 60 18)) + l1).toNatClampNeg)) + (g.1 73 ((10 * (g.1 60 18)) + l1).toNatClampNeg)).toNatClampNeg)) (
                if (g.1 74 ((10 * (g.1 60 18)) + l1).toNatClampNeg) < (g.1 95 ((7 * (g.1 72 ((10 * (g.1 60 18)) + l1).toNatClampNeg)) + (g.1 73 ((10 * (g.1 60 18)) + l1).toNatClampNeg)).toNatClampNeg) then
                  xg (¬ (((10 * (g.1 60 18)) + l1) < 0 ∨ 20 ≤ ((10 * (g.1 60 18)) + l1).toNatClampNeg)) (
                    xg (¬ (((7 * (g.1 72 ((10 * (g.1 60 18)) + l1).toNatClampNeg)) + (g.1 73 ((10 * (g.1 60 18)) + l1).toNatClampNeg)) < 0 ∨ 49 ≤ ((7 * (g.1 72 ((10 * (g.1 60 18)) + l1).toNatClampNeg)) + (g.1 73 ((10 * (g.1 60 18)) + l1).toNatClampNeg)).toNatClampNeg)) (
                      xg (¬ (((10 * (g.1 60 18)) + l1) < 0 ∨ 20 ≤ ((10 * (g.1 60 18)) + l1).toNatClampNeg)) (
                        xg (¬ (((7 * (g.1 73 ((10 * (g.1 60 18)) + l1).toNatClampNeg)) + (g.1 72 ((10 * (g.1 60 18)) + l1).toNatClampNeg)) < 0 ∨ 49 ≤ ((7 * (g.1 73 ((10 * (g.1 60 18)) + l1).toNatClampNeg)) + (g.1 72 ((10 * (g.1 60 18)) + l1).toNatClampNeg)).toNatClampNeg)) (
                          f_X12_fillsFar_60_40 n (l1 + 1) (xupd (xupd g.1 95 ((7 * (g.1 72 ((10 * (g.1 60 18)) + l1).toNatClampNeg)) + (g.1 73 ((10 * (g.1 60 18)) + l1).toNatClampNeg)).toNatClampNeg (g.1 74 ((10 * (g.1 60 18)) + l1).toNatClampNeg)) 95 ((7 * (g.1 73 ((10 * (g.1 60 18)) + l1).toNatClampNeg)) + (g.1 72 ((10 * (g.1 60 18)) + l1).toNatClampNeg)).toNatClampNeg (g.1 74 ((10 * (g.1 60 18)) + l1).toNatClampNeg), g.2)))))
                else
                  f_X12_fillsFar_60_40 n (l1 + 1) g))))))) = some out := H
    refine xb A [(.iload_n 1, 1, 0, 0, .null), (.aload_n 0, 1, 0, 0, .null), (.getfield 49, 3, 60, 24, .ref 71), (.aload_n 0, 1, 0, 0, .null), (.getfield 227, 3, 60, 18, .int 0)] (pc' := 49) (ls' := [some (.ref 60), some (.int l1), none, none]) (st' := [.int (g.1 60 18), .ref 71, .int l1]) (g' := g) (by decide +kernel) rfl ?_
    obtain ⟨h2, H⟩ := xg_elim H
    refine xiald A (nxt := 50) (by decide +kernel) (hS _ _ sh_71) h2 ?_
    show xW k S 0 0 50 [some (.ref 60), some (.int l1), none, none] [.int (g.1 71 (g.1 60 18).toNatClampNeg), .int l1] g
    refine xic_ge A (138) 188 53 (by decide +kernel) (fun h3 => ?_) (fun h3 => ?_)
    · rw [if_pos h3] at H
      refine xb A [(.iconst 0, 1, 0, 0, .int 0), (.istore_n 1, 1, 0, 0, .null)] (pc' := 190) (ls' := [some (.ref 60), some (.int 0), none, none]) (st' := []) (g' := g) (by decide +kernel) rfl ?_
      exact t_X12_fillsFar_60_190 hS A hR hrm hz _ _ _ H
    · rw [if_neg h3] at H
      refine xb A [(.aload_n 0, 1, 0, 0, .null), (.getfield 119, 3, 60, 51, .ref 94), (.bipush 36, 2, 0, 0, .int 36)] (pc' := 59) (ls' := [some (.ref 60), some (.int l1), none, none]) (st' := [.int 36, .ref 94]) (g' := g) (by decide +kernel) rfl ?_
      obtain ⟨h14, H⟩ := xg_elim H
      refine xiald A (nxt := 60) (by decide +kernel) (hS _ _ sh_94) h14 ?_
      show xW k S 0 0 60 [some (.ref 60), some (.int l1), none, none] [.int (g.1 94 (36 : Int32).toNatClampNeg)] g
      refine xb A [(.iload_n 1, 1, 0, 0, .null), (.ishr, 1, 0, 0, .null), (.iconst 1, 1, 0, 0, .int 1), (.iand, 1, 0, 0, .null), (.iconst 1, 1, 0, 0, .int 1)] (pc' := 65) (ls' := [some (.ref 60), some (.int l1), none, none]) (st' := [.int 1, .int (((g.1 94 (36 : Int32).toNatClampNeg) >>> (l1 &&& 31)) &&& 1)]) (g' := g) (by decide +kernel) rfl ?_
      refine xic_ne A (6) 71 68 (by decide +kernel) (fun h15 => ?_) (fun h15 => ?_)
      · rw [if_neg h15] at H
        refine xb A [(.aload_n 0, 1, 0, 0, .null), (.getfield 52, 3, 60, 25, .ref 72), (.bipush 10, 2, 0, 0, .int 10), (.aload_n 0, 1, 0, 0, .null), (.getfield 227, 3, 60, 18, .int 0), (.imul, 1, 0, 0, .null), (.iload_n 1, 1, 0, 0, .null), (.iadd, 1, 0, 0, .null)] (pc' := 84) (ls' := [some (.ref 60), some (.int l1), none, none]) (st' := [.int ((10 * (g.1 60 18)) + l1), .ref 72]) (g' := g) (by decide +kernel) rfl ?_
        obtain ⟨h16, H⟩ := xg_elim H
        refine xiald A (nxt := 85) (by decide +kernel) (hS _ _ sh_72) h16 ?_
        show xW k S 0 0 85 [some (.ref 60), some (.int l1), none, none] [.int (g.1 72 ((10 * (g.1 60 18)) + l1).toNatClampNeg)] g
        refine xb A [(.istore_n 2, 1, 0, 0, .null), (.aload_n 0, 1, 0, 0, .null), (.getfield 55, 3, 60, 26, .ref 73), (.bipush 10, 2, 0, 0, .int 10), (.aload_n 0, 1, 0, 0, .null), (.getfield 227, 3, 60, 18, .int 0), (.imul, 1, 0, 0, .null), (.iload_n 1, 1, 0, 0, .null), (.iadd, 1, 0, 0, .null)] (pc' := 99) (ls' := [some (.ref 60), some (.int l1), some (.int (g.1 72 ((10 * (g.1 60 18)) + l1).toNatClampNeg)), none]) (st' := [.int ((10 * (g.1 60 18)) + l1), .ref 73]) (g' := g) (by decide +kernel) rfl ?_
        obtain ⟨h17, H⟩ := xg_elim H
        refine xiald A (nxt := 100) (by decide +kernel) (hS _ _ sh_73) h17 ?_
        show xW k S 0 0 100 [some (.ref 60), some (.int l1), some (.int (g.1 72 ((10 * (g.1 60 18)) + l1).toNatClampNeg)), none] [.int (g.1 73 ((10 * (g.1 60 18)) + l1).toNatClampNeg)] g
        refine xb A [(.istore_n 3, 1, 0, 0, .null), (.aload_n 0, 1, 0, 0, .null), (.getfield 58, 3, 60, 27, .ref 74), (.bipush 10, 2, 0, 0, .int 10), (.aload_n 0, 1, 0, 0, .null), (.getfield 227, 3, 60, 18, .int 0), (.imul, 1, 0, 0, .null), (.iload_n 1, 1, 0, 0, .null), (.iadd, 1, 0, 0, .null)] (pc' := 114) (ls' := [some (.ref 60), some (.int l1), some (.int (g.1 72 ((10 * (g.1 60 18)) + l1).toNatClampNeg)), some (.int (g.1 73 ((10 * (g.1 60 18)) + l1).toNatClampNeg))]) (st' := [.int ((10 * (g.1 60 18)) + l1), .ref 74]) (g' := g) (by decide +kernel) rfl ?_
        obtain ⟨h18, H⟩ := xg_elim H
        refine xiald A (nxt := 115) (by decide +kernel) (hS _ _ sh_74) h18 ?_
        show xW k S 0 0 115 [some (.ref 60), some (.int l1), some (.int (g.1 72 ((10 * (g.1 60 18)) + l1).toNatClampNeg)), some (.int (g.1 73 ((10 * (g.1 60 18)) + l1).toNatClampNeg))] [.int (g.1 74 ((10 * (g.1 60 18)) + l1).toNatClampNeg)] g
        refine xb A [(.aload_n 0, 1, 0, 0, .null), (.getfield 122, 3, 60, 54, .ref 95), (.bipush 7, 2, 0, 0, .int 7), (.iload_n 2, 1, 0, 0, .null), (.imul, 1, 0, 0, .null), (.iload_n 3, 1, 0, 0, .null), (.iadd, 1, 0, 0, .null)] (pc' := 125) (ls' := [some (.ref 60), some (.int l1), some (.int (g.1 72 ((10 * (g.1 60 18)) + l1).toNatClampNeg)), some (.int (g.1 73 ((10 * (g.1 60 18)) + l1).toNatClampNeg))]) (st' := [.int ((7 * (g.1 72 ((10 * (g.1 60 18)) + l1).toNatClampNeg)) + (g.1 73 ((10 * (g.1 60 18)) + l1).toNatClampNeg)), .ref 95, .int (g.1 74 ((10 * (g.1 60 18)) + l1).toNatClampNeg)]) (g' := g) (by decide +kernel) rfl ?_
        obtain ⟨h19, H⟩ := xg_elim H
        refine xiald A (nxt := 126) (by decide +kernel) (hS _ _ sh_95) h19 ?_
        show xW k S 0 0 126 [some (.ref 60), some (.int l1), some (.int (g.1 72 ((10 * (g.1 60 18)) + l1).toNatClampNeg)), some (.int (g.1 73 ((10 * (g.1 60 18)) + l1).toNatClampNeg))] [.int (g.1 95 ((7 * (g.1 72 ((10 * (g.1 60 18)) + l1).toNatClampNeg)) + (g.1 73 ((10 * (g.1 60 18)) + l1).toNatClampNeg)).toNatClampNeg), .int (g.1 74 ((10 * (g.1 60 18)) + l1).toNatClampNeg)] g
        refine xic_lt A (6) 132 129 (by decide +kernel) (fun h20 => ?_) (fun h20 => ?_)
        · rw [if_pos h20] at H
          refine xb A [(.aload_n 0, 1, 0, 0, .null), (.getfield 122, 3, 60, 54, .ref 95), (.bipush 7, 2, 0, 0, .int 7), (.iload_n 2, 1, 0, 0, .null), (.imul, 1, 0, 0, .null), (.iload_n 3, 1, 0, 0, .null), (.iadd, 1, 0, 0, .null), (.aload_n 0, 1, 0, 0, .null), (.getfield 58, 3, 60, 27, .ref 74), (.bipush 10, 2, 0, 0, .int 10), (.aload_n 0, 1, 0, 0, .null), (.getfield 227, 3, 60, 18, .int 0), (.imul, 1, 0, 0, .null), (.iload_n 1, 1, 0, 0, .null), (.iadd, 1, 0, 0, .null)] (pc' := 155) (ls' := [some (.ref 60), some (.int l1), some (.int (g.1 72 ((10 * (g.1 60 18)) + l1).toNatClampNeg)), some (.int (g.1 73 ((10 * (g.1 60 18)) + l1).toNatClampNeg))]) (st' := [.int ((10 * (g.1 60 18)) + l1), .ref 74, .int ((7 * (g.1 72 ((10 * (g.1 60 18)) + l1).toNatClampNeg)) + (g.1 73 ((10 * (g.1 60 18)) + l1).toNatClampNeg)), .ref 95]) (g' := g) (by decide +kernel) rfl ?_
          obtain ⟨h21, H⟩ := xg_elim H
          refine xiald A (nxt := 156) (by decide +kernel) (hS _ _ sh_74) h21 ?_
          show xW k S 0 0 156 [some (.ref 60), some (.int l1), some (.int (g.1 72 ((10 * (g.1 60 18)) + l1).toNatClampNeg)), some (.int (g.1 73 ((10 * (g.1 60 18)) + l1).toNatClampNeg))] [.int (g.1 74 ((10 * (g.1 60 18)) + l1).toNatClampNeg), .int ((7 * (g.1 72 ((10 * (g.1 60 18)) + l1).toNatClampNeg)) + (g.1 73 ((10 * (g.1 60 18)) + l1).toNatClampNeg)), .ref 95] g
          obtain ⟨h22, H⟩ := xg_elim H
          refine xiast A (nxt := 157) (by decide +kernel) (hS _ _ sh_95) h22 ?_
          show xW k S 0 0 157 [some (.ref 60), some (.int l1), some (.int (g.1 72 ((10 * (g.1 60 18)) + l1).toNatClampNeg)), some (.int (g.1 73 ((10 * (g.1 60 18)) + l1).toNatClampNeg))] [] (xupd g.1 95 ((7 * (g.1 72 ((10 * (g.1 60 18)) + l1).toNatClampNeg)) + (g.1 73 ((10 * (g.1 60 18)) + l1).toNatClampNeg)).toNatClampNeg (g.1 74 ((10 * (g.1 60 18)) + l1).toNatClampNeg), g.2)
          refine xb A [(.aload_n 0, 1, 0, 0, .null), (.getfield 122, 3, 60, 54, .ref 95), (.bipush 7, 2, 0, 0, .int 7), (.iload_n 3, 1, 0, 0, .null), (.imul, 1, 0, 0, .null), (.iload_n 2, 1, 0, 0, .null), (.iadd, 1, 0, 0, .null), (.aload_n 0, 1, 0, 0, .null), (.getfield 58, 3, 60, 27, .ref 74), (.bipush 10, 2, 0, 0, .int 10), (.aload_n 0, 1, 0, 0, .null), (.getfield 227, 3, 60, 18, .int 0), (.imul, 1, 0, 0, .null), (.iload_n 1, 1, 0, 0, .null), (.iadd, 1, 0, 0, .null)] (pc' := 180) (ls' := [some (.ref 60), some (.int l1), some (.int (g.1 72 ((10 * (g.1 60 18)) + l1).toNatClampNeg)), some (.int (g.1 73 ((10 * (g.1 60 18)) + l1).toNatClampNeg))]) (st' := [.int ((10 * (g.1 60 18)) + l1), .ref 74, .int ((7 * (g.1 73 ((10 * (g.1 60 18)) + l1).toNatClampNeg)) + (g.1 72 ((10 * (g.1 60 18)) + l1).toNatClampNeg)), .ref 95]) (g' := (xupd g.1 95 ((7 * (g.1 72 ((10 * (g.1 60 18)) + l1).toNatClampNeg)) + (g.1 73 ((10 * (g.1 60 18)) + l1).toNatClampNeg)).toNatClampNeg (g.1 74 ((10 * (g.1 60 18)) + l1).toNatClampNeg), g.2)) (by decide +kernel) rfl ?_
          obtain ⟨h23, H⟩ := xg_elim H
          refine xiald A (nxt := 181) (by decide +kernel) (hS _ _ sh_74) h23 ?_
          show xW k S 0 0 181 [some (.ref 60), some (.int l1), some (.int (g.1 72 ((10 * (g.1 60 18)) + l1).toNatClampNeg)), some (.int (g.1 73 ((10 * (g.1 60 18)) + l1).toNatClampNeg))] [.int (g.1 74 ((10 * (g.1 60 18)) + l1).toNatClampNeg), .int ((7 * (g.1 73 ((10 * (g.1 60 18)) + l1).toNatClampNeg)) + (g.1 72 ((10 * (g.1 60 18)) + l1).toNatClampNeg)), .ref 95] (xupd g.1 95 ((7 * (g.1 72 ((10 * (g.1 60 18)) + l1).toNatClampNeg)) + (g.1 73 ((10 * (g.1 60 18)) + l1).toNatClampNeg)).toNatClampNeg (g.1 74 ((10 * (g.1 60 18)) + l1).toNatClampNeg), g.2)
          obtain ⟨h24, H⟩ := xg_elim H
          refine xiast A (nxt := 182) (by decide +kernel) (hS _ _ sh_95) h24 ?_
          show xW k S 0 0 182 [some (.ref 60), some (.int l1), some (.int (g.1 72 ((10 * (g.1 60 18)) + l1).toNatClampNeg)), some (.int (g.1 73 ((10 * (g.1 60 18)) + l1).toNatClampNeg))] [] (xupd (xupd g.1 95 ((7 * (g.1 72 ((10 * (g.1 60 18)) + l1).toNatClampNeg)) + (g.1 73 ((10 * (g.1 60 18)) + l1).toNatClampNeg)).toNatClampNeg (g.1 74 ((10 * (g.1 60 18)) + l1).toNatClampNeg)) 95 ((7 * (g.1 73 ((10 * (g.1 60 18)) + l1).toNatClampNeg)) + (g.1 72 ((10 * (g.1 60 18)) + l1).toNatClampNeg)).toNatClampNeg (g.1 74 ((10 * (g.1 60 18)) + l1).toNatClampNeg), g.2)
          refine xb A [(.iinc 1 1, 3, 0, 0, .null)] (pc' := 185) (ls' := [some (.ref 60), some (.int (l1 + 1)), some (.int (g.1 72 ((10 * (g.1 60 18)) + l1).toNatClampNeg)), some (.int (g.1 73 ((10 * (g.1 60 18)) + l1).toNatClampNeg))]) (st' := []) (g' := (xupd (xupd g.1 95 ((7 * (g.1 72 ((10 * (g.1 60 18)) + l1).toNatClampNeg)) + (g.1 73 ((10 * (g.1 60 18)) + l1).toNatClampNeg)).toNatClampNeg (g.1 74 ((10 * (g.1 60 18)) + l1).toNatClampNeg)) 95 ((7 * (g.1 73 ((10 * (g.1 60 18)) + l1).toNatClampNeg)) + (g.1 72 ((10 * (g.1 60 18)) + l1).toNatClampNeg)).toNatClampNeg (g.1 74 ((10 * (g.1 60 18)) + l1).toNatClampNeg), g.2)) (by decide +kernel) rfl ?_
          refine xgoto A (-145) 40 (by decide +kernel) ?_
          refine xweak (ls' := [some (.ref 60), some (.int (l1 + 1)), none, none]) (by exact ⟨rfl, ⟨rfl, trivial⟩⟩) ?_
          exact ih _ _ H
        · rw [if_neg h20] at H
          refine xgoto A (53) 182 (by decide +kernel) ?_
          refine xb A [(.iinc 1 1, 3, 0, 0, .null)] (pc' := 185) (ls' := [some (.ref 60), some (.int (l1 + 1)), some (.int (g.1 72 ((10 * (g.1 60 18)) + l1).toNatClampNeg)), some (.int (g.1 73 ((10 * (g.1 60 18)) + l1).toNatClampNeg))]) (st' := []) (g' := g) (by decide +kernel) rfl ?_
          refine xgoto A (-145) 40 (by decide +kernel) ?_
          refine xweak (ls' := [some (.ref 60), some (.int (l1 + 1)), none, none]) (by exact ⟨rfl, ⟨rfl, trivial⟩⟩) ?_
          exact ih _ _ H
      · rw [if_pos h15] at H
        refine xgoto A (114) 182 (by decide +kernel) ?_
        refine xb A [(.iinc 1 1, 3, 0, 0, .null)] (pc' := 185) (ls' := [some (.ref 60), some (.int (l1 + 1)), none, none]) (st' := []) (g' := g) (by decide +kernel) rfl ?_
        refine xgoto A (-145) 40 (by decide +kernel) ?_
        exact ih _ _ H
theorem fr_X12_fillsFar_60_40   : ∀ (n : Nat) (l1 : Int32) (g : xG) (out : xG), f_X12_fillsFar_60_40 n l1 g = some out → xfrm fp_X12_fillsFar_60 g (out) := by
  intro n
  induction n with
  | zero => intro l1 g out H; exact absurd H (by simp [f_X12_fillsFar_60_40])
  | succ n ih =>
    intro l1 g out H
    have H : (xg (¬ ((g.1 60 18) < 0 ∨ 2 ≤ (g.1 60 18).toNatClampNeg)) (
  if (g.1 71 (g.1 60 18).toNatClampNeg) ≤ l1 then
    f_X12_fillsFar_60_190 xN 0 g
  else
    xg (¬ ((36 : Int32) < 0 ∨ 40 ≤ (36 : Int32).toNatClampNeg)) (
      if (((g.1 94 (36 : Int32).toNatClampNeg) >>> (l1 &&& 31)) &&& 1) = 1 then
        f_X12_fillsFar_60_40 n (l1 + 1) g
      else
        xg (¬ (((10 * (g.1 60 18)) + l1) < 0 ∨ 20 ≤ ((10 * (g.1 60 18)) + l1).toNatClampNeg)) (
          xg (¬ (((10 * (g.1 60 18)) + l1) < 0 ∨ 20 ≤ ((10 * (g.1 60 18)) + l1).toNatClampNeg)) (
            xg (¬ (((10 * (g.1 60 18)) + l1) < 0 ∨ 20 ≤ ((10 * (g.1 60 18)) + l1).toNatClampNeg)) (
              xg (¬ (((7 * (g.1 72 ((10 * (g.1 60 18)) + l1).toNatClampNeg)) + (g.1 73 ((10 * (g.1 60 18)) + l1).toNatClampNeg)) < 0 ∨ 49 ≤ ((7 * (g.1 72 ((10 * (g.1 60 18)) + l1).toNatClampNeg)) + (g.1 73 ((10 * (g.1 60 18)) + l1).toNatClampNeg)).toNatClampNeg)) (
                if (g.1 74 ((10 * (g.1 60 18)) + l1).toNatClampNeg) < (g.1 95 ((7 * (g.1 72 ((10 * (g.1 60 18)) + l1).toNatClampNeg)) + (g.1 73 ((10 * (g.1 60 18)) + l1).toNatClampNeg)).toNatClampNeg) then
                  xg (¬ (((10 * (g.1 60 18)) + l1) < 0 ∨ 20 ≤ ((10 * (g.1 60 18)) + l1).toNatClampNeg)) (
                    xg (¬ (((7 * (g.1 72 ((10 * (g.1 60 18)) + l1).toNatClampNeg)) + (g.1 73 ((10 * (g.1 60 18)) + l1).toNatClampNeg)) < 0 ∨ 49 ≤ ((7 * (g.1 72 ((10 * (g.1 60 18)) + l1).toNatClampNeg)) + (g.1 73 ((10 * (g.1 60 18)) + l1).toNatClampNeg)).toNatClampNeg)) (
                      xg (¬ (((10 * (g.1 60 18)) + l1) < 0 ∨ 20 ≤ ((10 * (g.1 60 18)) + l1).toNatClampNeg)) (
                        xg (¬ (((7 * (g.1 73 ((10 * (g.1 60 18)) + l1).toNatClampNeg)) + (g.1 72 ((10 * (g.1 60 18)) + l1).toNatClampNeg)) < 0 ∨ 49 ≤ ((7 * (g.1 73 ((10 * (g.1 60 18)) + l1).toNatClampNeg)) + (g.1 72 ((10 * (g.1 60 18)) + l1).toNatClampNeg)).toNatClampNeg)) (
                          f_X12_fillsFar_60_40 n (l1 + 1) (xupd (xupd g.1 95 ((7 * (g.1 72 ((10 * (g.1 60 18)) + l1).toNatClampNeg)) + (g.1 73 ((10 * (g.1 60 18)) + l1).toNatClampNeg)).toNatClampNeg (g.1 74 ((10 * (g.1 60 18)) + l1).toNatClampNeg)) 95 ((7 * (g.1 73 ((10 * (g.1 60 18)) + l1).toNatClampNeg)) + (g.1 72 ((10 * (g.1 60 18)) + l1).toNatClampNeg)).toNatClampNeg (g.1 74 ((10 * (g.1 60 18)) + l1).toNatClampNeg), g.2)))))
                else
                  f_X12_fillsFar_60_40 n (l1 + 1) g))))))) = some out := H
    obtain ⟨h2, H⟩ := xg_elim H
    by_cases h3 : (g.1 71 (g.1 60 18).toNatClampNeg) ≤ l1
    · rw [if_pos h3] at H
      exact xfrm.tr xfrm.rf (fr_X12_fillsFar_60_190 _ _ _ _ H) rfl
    · rw [if_neg h3] at H
      obtain ⟨h14, H⟩ := xg_elim H
      by_cases h15 : (((g.1 94 (36 : Int32).toNatClampNeg) >>> (l1 &&& 31)) &&& 1) = 1
      · rw [if_pos h15] at H
        exact xfrm.tr xfrm.rf (ih _ _ _ H) rfl
      · rw [if_neg h15] at H
        obtain ⟨h16, H⟩ := xg_elim H
        obtain ⟨h17, H⟩ := xg_elim H
        obtain ⟨h18, H⟩ := xg_elim H
        obtain ⟨h19, H⟩ := xg_elim H
        by_cases h20 : (g.1 74 ((10 * (g.1 60 18)) + l1).toNatClampNeg) < (g.1 95 ((7 * (g.1 72 ((10 * (g.1 60 18)) + l1).toNatClampNeg)) + (g.1 73 ((10 * (g.1 60 18)) + l1).toNatClampNeg)).toNatClampNeg)
        · rw [if_pos h20] at H
          obtain ⟨h21, H⟩ := xg_elim H
          obtain ⟨h22, H⟩ := xg_elim H
          have hf2 : xfrm fp_X12_fillsFar_60 g ((xupd g.1 95 ((7 * (g.1 72 ((10 * (g.1 60 18)) + l1).toNatClampNeg)) + (g.1 73 ((10 * (g.1 60 18)) + l1).toNatClampNeg)).toNatClampNeg (g.1 74 ((10 * (g.1 60 18)) + l1).toNatClampNeg), g.2)) := xfrm.ua xfrm.rf rfl
          obtain ⟨h23, H⟩ := xg_elim H
          obtain ⟨h24, H⟩ := xg_elim H
          have hf3 : xfrm fp_X12_fillsFar_60 g ((xupd (xupd g.1 95 ((7 * (g.1 72 ((10 * (g.1 60 18)) + l1).toNatClampNeg)) + (g.1 73 ((10 * (g.1 60 18)) + l1).toNatClampNeg)).toNatClampNeg (g.1 74 ((10 * (g.1 60 18)) + l1).toNatClampNeg)) 95 ((7 * (g.1 73 ((10 * (g.1 60 18)) + l1).toNatClampNeg)) + (g.1 72 ((10 * (g.1 60 18)) + l1).toNatClampNeg)).toNatClampNeg (g.1 74 ((10 * (g.1 60 18)) + l1).toNatClampNeg), g.2)) := xfrm.ua hf2 rfl
          exact xfrm.tr hf3 (ih _ _ _ H) rfl
        · rw [if_neg h20] at H
          exact xfrm.tr xfrm.rf (ih _ _ _ H) rfl
set_option maxRecDepth 20000 in
theorem t_X12_fillsFar_60_2 {k : xK} {S : List xSh} {out : xG} (hS : xpf SH2 S) (A : xAt k mX12_fillsFar.2.1 12 SH2 S) (hR : xRet k 0 0 S (fun r g' => r = none ∧ g' = out) mX12_fillsFar.2.2.2) (hrm : xrm k = { frames := 0, cells := 0, slots := 0, locals := 0 }) (hz : xhs k = xb0 k + S.length)   : ∀ (n : Nat) (l1 : Int32) (g : xG), f_X12_fillsFar_60_2 n l1 g = some out → xW k S 0 0 2 [some (.ref 60), some (.int l1), none, none] [] g := by
  intro n
  induction n with
  | zero => intro l1 g H; exact absurd H (by simp [f_X12_fillsFar_60_2])
  | succ n ih =>
    intro l1 g H
    have H : (if 49 ≤ l1 then
  f_X12_fillsFar_60_40 xN 0 g
else
  xg (¬ (7 : Int32) = 0) (
    xg (¬ (7 : Int32) = 0) (
      if (l1 / 7) = (l1 - l1 / 7 * 7) then
        xg (¬ (l1 < 0 ∨ 49 ≤ l1.toNatClampNeg)) (
          f_X12_fillsFar_60_2 n (l1 + 1) (xupd g.1 95 l1.toNatClampNeg 0, g.2))
      else
        xg (¬ (l1 < 0 ∨ 49 ≤ l1.toNatClampNeg)) (
          f_X12_fillsFar_60_2 n (l1 + 1) (xupd g.1 95 l1.toNatClampNeg 999, g.2))))) = some out := H
    refine xb A [(.iload_n 1, 1, 0, 0, .null), (.bipush 49, 2, 0, 0, .int 49)] (pc' := 5) (ls' := [some (.ref 60), some (.int l1), none, none]) (st' := [.int 49, .int l1]) (g' := g) (by decide +kernel) rfl ?_
    refine xic_ge A (33) 38 8 (by decide +kernel) (fun h1 => ?_) (fun h1 => ?_)
    · rw [if_pos h1] at H
      refine xb A [(.iconst 0, 1, 0, 0, .int 0), (.istore_n 1, 1, 0, 0, .null)] (pc' := 40) (ls' := [some (.ref 60), some (.int 0), none, none]) (st' := []) (g' := g) (by decide +kernel) rfl ?_
      exact t_X12_fillsFar_60_40 hS A hR hrm hz _ _ _ H
    · rw [if_neg h1] at H
      refine xb A [(.aload_n 0, 1, 0, 0, .null), (.getfield 122, 3, 60, 54, .ref 95), (.iload_n 1, 1, 0, 0, .null), (.iload_n 1, 1, 0, 0, .null), (.bipush 7, 2, 0, 0, .int 7)] (pc' := 16) (ls' := [some (.ref 60), some (.int l1), none, none]) (st' := [.int 7, .int l1, .int l1, .ref 95]) (g' := g) (by decide +kernel) rfl ?_
      obtain ⟨h25, H⟩ := xg_elim H
      refine xidiv A (nxt := 17) (by decide +kernel) h25 ?_
      refine xb A [(.iload_n 1, 1, 0, 0, .null), (.bipush 7, 2, 0, 0, .int 7)] (pc' := 20) (ls' := [some (.ref 60), some (.int l1), none, none]) (st' := [.int 7, .int l1, .int (l1 / 7), .int l1, .ref 95]) (g' := g) (by decide +kernel) rfl ?_
      obtain ⟨h26, H⟩ := xg_elim H
      refine xirem A (nxt := 21) (by decide +kernel) h26 ?_
      refine xic_ne A (7) 28 24 (by decide +kernel) (fun h27 => ?_) (fun h27 => ?_)
      · rw [if_neg h27] at H
        refine xb A [(.sipush 999, 3, 0, 0, .int 999)] (pc' := 31) (ls' := [some (.ref 60), some (.int l1), none, none]) (st' := [.int 999, .int l1, .ref 95]) (g' := g) (by decide +kernel) rfl ?_
        obtain ⟨h28, H⟩ := xg_elim H
        refine xiast A (nxt := 32) (by decide +kernel) (hS _ _ sh_95) h28 ?_
        show xW k S 0 0 32 [some (.ref 60), some (.int l1), none, none] [] (xupd g.1 95 l1.toNatClampNeg 999, g.2)
        refine xb A [(.iinc 1 1, 3, 0, 0, .null)] (pc' := 35) (ls' := [some (.ref 60), some (.int (l1 + 1)), none, none]) (st' := []) (g' := (xupd g.1 95 l1.toNatClampNeg 999, g.2)) (by decide +kernel) rfl ?_
        refine xgoto A (-33) 2 (by decide +kernel) ?_
        exact ih _ _ H
      · rw [if_pos h27] at H
        refine xb A [(.iconst 0, 1, 0, 0, .int 0)] (pc' := 25) (ls' := [some (.ref 60), some (.int l1), none, none]) (st' := [.int 0, .int l1, .ref 95]) (g' := g) (by decide +kernel) rfl ?_
        refine xgoto A (6) 31 (by decide +kernel) ?_
        obtain ⟨h29, H⟩ := xg_elim H
        refine xiast A (nxt := 32) (by decide +kernel) (hS _ _ sh_95) h29 ?_
        show xW k S 0 0 32 [some (.ref 60), some (.int l1), none, none] [] (xupd g.1 95 l1.toNatClampNeg 0, g.2)
        refine xb A [(.iinc 1 1, 3, 0, 0, .null)] (pc' := 35) (ls' := [some (.ref 60), some (.int (l1 + 1)), none, none]) (st' := []) (g' := (xupd g.1 95 l1.toNatClampNeg 0, g.2)) (by decide +kernel) rfl ?_
        refine xgoto A (-33) 2 (by decide +kernel) ?_
        exact ih _ _ H
theorem fr_X12_fillsFar_60_2   : ∀ (n : Nat) (l1 : Int32) (g : xG) (out : xG), f_X12_fillsFar_60_2 n l1 g = some out → xfrm fp_X12_fillsFar_60 g (out) := by
  intro n
  induction n with
  | zero => intro l1 g out H; exact absurd H (by simp [f_X12_fillsFar_60_2])
  | succ n ih =>
    intro l1 g out H
    have H : (if 49 ≤ l1 then
  f_X12_fillsFar_60_40 xN 0 g
else
  xg (¬ (7 : Int32) = 0) (
    xg (¬ (7 : Int32) = 0) (
      if (l1 / 7) = (l1 - l1 / 7 * 7) then
        xg (¬ (l1 < 0 ∨ 49 ≤ l1.toNatClampNeg)) (
          f_X12_fillsFar_60_2 n (l1 + 1) (xupd g.1 95 l1.toNatClampNeg 0, g.2))
      else
        xg (¬ (l1 < 0 ∨ 49 ≤ l1.toNatClampNeg)) (
          f_X12_fillsFar_60_2 n (l1 + 1) (xupd g.1 95 l1.toNatClampNeg 999, g.2))))) = some out := H
    by_cases h1 : 49 ≤ l1
    · rw [if_pos h1] at H
      exact xfrm.tr xfrm.rf (fr_X12_fillsFar_60_40 _ _ _ _ H) rfl
    · rw [if_neg h1] at H
      obtain ⟨h25, H⟩ := xg_elim H
      obtain ⟨h26, H⟩ := xg_elim H
      by_cases h27 : (l1 / 7) = (l1 - l1 / 7 * 7)
      · rw [if_pos h27] at H
        obtain ⟨h29, H⟩ := xg_elim H
        have hf5 : xfrm fp_X12_fillsFar_60 g ((xupd g.1 95 l1.toNatClampNeg 0, g.2)) := xfrm.ua xfrm.rf rfl
        exact xfrm.tr hf5 (ih _ _ _ H) rfl
      · rw [if_neg h27] at H
        obtain ⟨h28, H⟩ := xg_elim H
        have hf4 : xfrm fp_X12_fillsFar_60 g ((xupd g.1 95 l1.toNatClampNeg 999, g.2)) := xfrm.ua xfrm.rf rfl
        exact xfrm.tr hf4 (ih _ _ _ H) rfl
set_option maxRecDepth 20000 in
theorem c_X12_fillsFar_60 {S : List xSh} (hS : xpf SH2 S) {g : xG}  (out : xG) (H : f_X12_fillsFar_60  g = some out) : xC mX12_fillsFar 0 0 0 0 S [.ref 60] g S (fun r g' => r = none ∧ g' = out) := by
  have H : (f_X12_fillsFar_60_2 xN 0 g) = some out := H
  refine xC.of 12 SH2 [some (.ref 60), none, none, none] hS (by decide +kernel) rfl (fun _ _ => Nat.le_of_ble_eq_true rfl) (fun _ _ => rfl) ?_
  intro k A hR hrm hz
  refine xb A [(.iconst 0, 1, 0, 0, .int 0), (.istore_n 1, 1, 0, 0, .null)] (pc' := 2) (ls' := [some (.ref 60), some (.int 0), none, none]) (st' := []) (g' := g) (by decide +kernel) rfl ?_
  exact t_X12_fillsFar_60_2 hS A hR hrm hz _ _ _ H
theorem fr_X12_fillsFar_60  {g : xG} (out : xG) (H : f_X12_fillsFar_60  g = some out) : xfrm fp_X12_fillsFar_60 g (out) := by
  have H : (f_X12_fillsFar_60_2 xN 0 g) = some out := H
  exact xfrm.tr xfrm.rf (fr_X12_fillsFar_60_2 _ _ _ _ H) rfl
