/-! methods, walked by program -/
def fp_X12_bridges_60 : List (Nat × Option Nat) := [(60, some 52), (60, some 53), (94, none), (95, none)]
def f_X12_bridges_60_4  : Nat → Int32 → Int32 → xG → Option (Int32 × xG)
  | 0, _, _, _ => none
  | n + 1, l1, l2, g =>
    xg (¬ ((g.1 60 18) < 0 ∨ 2 ≤ (g.1 60 18).toNatClampNeg)) (
      if (g.1 71 (g.1 60 18).toNatClampNeg) ≤ l2 then
        some (l1, g)
      else
        (f_X12_isOpenNow_60 l2 g).bind fun w1 =>
        if w1 = 0 then
          f_X12_bridges_60_4 n l1 (l2 + 1) g
        else
          (f_X12_copies_60 g).bind fun w2 =>
          xg (¬ ((36 : Int32) < 0 ∨ 40 ≤ (36 : Int32).toNatClampNeg)) (
            xg (¬ ((36 : Int32) < 0 ∨ 40 ≤ (36 : Int32).toNatClampNeg)) (
              (f_X12_fillsFar_60 (xupd w2.1 94 (36 : Int32).toNatClampNeg ((w2.1 94 (36 : Int32).toNatClampNeg) ||| ((1 : Int32) <<< (l2 &&& 31))), w2.2)).bind fun w3 =>
              xg (¬ (((10 * (w3.1 60 18)) + l2) < 0 ∨ 20 ≤ ((10 * (w3.1 60 18)) + l2).toNatClampNeg)) (
                xg (¬ (((10 * (w3.1 60 18)) + l2) < 0 ∨ 20 ≤ ((10 * (w3.1 60 18)) + l2).toNatClampNeg)) (
                  xg (¬ (((7 * (w3.1 72 ((10 * (w3.1 60 18)) + l2).toNatClampNeg)) + (w3.1 73 ((10 * (w3.1 60 18)) + l2).toNatClampNeg)) < 0 ∨ 49 ≤ ((7 * (w3.1 72 ((10 * (w3.1 60 18)) + l2).toNatClampNeg)) + (w3.1 73 ((10 * (w3.1 60 18)) + l2).toNatClampNeg)).toNatClampNeg)) (
                    if (w3.1 95 ((7 * (w3.1 72 ((10 * (w3.1 60 18)) + l2).toNatClampNeg)) + (w3.1 73 ((10 * (w3.1 60 18)) + l2).toNatClampNeg)).toNatClampNeg) < 999 then
                      f_X12_bridges_60_4 n l1 (l2 + 1) w3
                    else
                      f_X12_bridges_60_4 n (l1 ||| ((1 : Int32) <<< (l2 &&& 31))) (l2 + 1) w3))))))
def f_X12_bridges_60  (g : xG) : Option (Int32 × xG) :=
  f_X12_bridges_60_4 xN 0 0 g
set_option maxRecDepth 20000 in
theorem t_X12_bridges_60_4 {k : xK} {S : List xSh} {out : Int32 × xG} (hS : xpf SH2 S) (A : xAt k mX12_bridges.2.1 12 SH2 S) (hR : xRet k 0 0 S (fun r g' => r = some (.int out.1) ∧ g' = out.2) mX12_bridges.2.2.2) (hrm : xrm k = { frames := 2, cells := 0, slots := 0, locals := 44 }) (hz : xhs k = xb0 k + S.length)   : ∀ (n : Nat) (l1 : Int32) (l2 : Int32) (g : xG), f_X12_bridges_60_4 n l1 l2 g = some out → xW k S 0 0 4 [some (.ref 60), some (.int l1), some (.int l2)] [] g := by
  intro n
  induction n with
  | zero => intro l1 l2 g H; exact absurd H (by simp [f_X12_bridges_60_4])
  | succ n ih =>
    intro l1 l2 g H
    have H : (xg (¬ ((g.1 60 18) < 0 ∨ 2 ≤ (g.1 60 18).toNatClampNeg)) (
  if (g.1 71 (g.1 60 18).toNatClampNeg) ≤ l2 then
    some (l1, g)
  else
    (f_X12_isOpenNow_60 l2 g).bind fun w1 =>
    if w1 = 0 then
      f_X12_bridges_60_4 n l1 (l2 + 1) g
    else
      (f_X12_copies_60 g).bind fun w2 =>
      xg (¬ ((36 : Int32) < 0 ∨ 40 ≤ (36 : Int32).toNatClampNeg)) (
        xg (¬ ((36 : Int32) < 0 ∨ 40 ≤ (36 : Int32).toNatClampNeg)) (
          (f_X12_fillsFar_60 (xupd w2.1 94 (36 : Int32).toNatClampNeg ((w2.1 94 (36 : Int32).toNatClampNeg) ||| ((1 : Int32) <<< (l2 &&& 31))), w2.2)).bind fun w3 =>
          xg (¬ (((10 * (w3.1 60 18)) + l2) < 0 ∨ 20 ≤ ((10 * (w3.1 60 18)) + l2).toNatClampNeg)) (
            xg (¬ (((10 * (w3.1 60 18)) + l2) < 0 ∨ 20 ≤ ((10 * (w3.1 60 18)) + l2).toNatClampNeg)) (
              xg (¬ (((7 * (w3.1 72 ((10 * (w3.1 60 18)) + l2).toNatClampNeg)) + (w3.1 73 ((10 * (w3.1 60 18)) + l2).toNatClampNeg)) < 0 ∨ 49 ≤ ((7 * (w3.1 72 ((10 * (w3.1 60 18)) + l2).toNatClampNeg)) + (w3.1 73 ((10 * (w3.1 60 18)) + l2).toNatClampNeg)).toNatClampNeg)) (
                if (w3.1 95 ((7 * (w3.1 72 ((10 * (w3.1 60 18)) + l2).toNatClampNeg)) + (w3.1 73 ((10 * (w3.1 60 18)) + l2).toNatClampNeg)).toNatClampNeg) < 999 then
                  f_X12_bridges_60_4 n l1 (l2 + 1) w3
                else
                  f_X12_bridges_60_4 n (l1 ||| ((1 : Int32) <<< (l2 &&& 31))) (l2 + 1) w3))))))) = some out := H
    refine xb A [(.iload_n 2, 1, 0, 0, .null), (.aload_n 0, 1, 0, 0, .null), (.getfield 49, 3, 60, 24, .ref 71), (.aload_n 0, 1, 0, 0, .null), (.getfield 227, 3, 60, 18, .int 0)] (pc' := 13) (ls' := [some (.ref 60), some (.int l1), some (.int l2)]) (st' := [.int (g.1 60 18), .ref 71, .int l2]) (g' := g) (by decide +kernel) rfl ?_
    obtain ⟨h1, H⟩ := xg_elim H
    refine xiald A (nxt := 14) (by decide +kernel) (hS _ _ sh_71) h1 ?_
    show xW k S 0 0 14 [some (.ref 60), some (.int l1), some (.int l2)] [.int (g.1 71 (g.1 60 18).toNatClampNeg), .int l2] g
    refine xic_ge A (90) 104 17 (by decide +kernel) (fun h2 => ?_) (fun h2 => ?_)
    · rw [if_pos h2] at H
      refine xb A [(.iload_n 1, 1, 0, 0, .null)] (pc' := 105) (ls' := [some (.ref 60), some (.int l1), some (.int l2)]) (st' := [.int l1]) (g' := g) (by decide +kernel) rfl ?_
      obtain rfl := Option.some.inj H
      exact xret_i A hR hz (by decide +kernel) rfl ⟨rfl, rfl⟩
    · rw [if_neg h2] at H
      refine xb A [(.aload_n 0, 1, 0, 0, .null), (.iload_n 2, 1, 0, 0, .null)] (pc' := 19) (ls' := [some (.ref 60), some (.int l1), some (.int l2)]) (st' := [.int l2, .ref 60]) (g' := g) (by decide +kernel) rfl ?_
      obtain ⟨w1, e1, H⟩ := xbind H
      refine xcallV A (ix := 440) (nxt := 22) hrm hz [.int l2] [] 1901 (c_X12_isOpenNow_60 hS _ e1) ok_X12_isOpenNow (by decide +kernel) rfl (fun r g1 hq => ?_)
      rw [hq.1, hq.2]
      show xW k S 0 0 22 [some (.ref 60), some (.int l1), some (.int l2)] [.int w1] g
      refine xif_ne A (6) 28 25 (by decide +kernel) (fun h3 => ?_) (fun h3 => ?_)
      · rw [if_neg h3] at H
        refine xb A [(.aload_n 0, 1, 0, 0, .null)] (pc' := 29) (ls' := [some (.ref 60), some (.int l1), some (.int l2)]) (st' := [.ref 60]) (g' := g) (by decide +kernel) rfl ?_
        obtain ⟨w2, e2, H⟩ := xbind H
        refine xcallV A (ix := 320) (nxt := 32) hrm hz [] [] 1699 (c_X12_copies_60 hS _ e2) ok_X12_copies (by decide +kernel) rfl (fun r g1 hq => ?_)
        rw [hq.1, hq.2]
        show xW k S 0 0 32 [some (.ref 60), some (.int l1), some (.int l2)] [] w2
        refine xb A [(.aload_n 0, 1, 0, 0, .null), (.getfield 119, 3, 60, 51, .ref 94), (.bipush 36, 2, 0, 0, .int 36), (.dup2, 1, 0, 0, .null)] (pc' := 39) (ls' := [some (.ref 60), some (.int l1), some (.int l2)]) (st' := [.int 36, .ref 94, .int 36, .ref 94]) (g' := w2) (by decide +kernel) rfl ?_
        obtain ⟨h4, H⟩ := xg_elim H
        refine xiald A (nxt := 40) (by decide +kernel) (hS _ _ sh_94) h4 ?_
        show xW k S 0 0 40 [some (.ref 60), some (.int l1), some (.int l2)] [.int (w2.1 94 (36 : Int32).toNatClampNeg), .int 36, .ref 94] w2
        refine xb A [(.iconst 1, 1, 0, 0, .int 1), (.iload_n 2, 1, 0, 0, .null), (.ishl, 1, 0, 0, .null), (.ior, 1, 0, 0, .null)] (pc' := 44) (ls' := [some (.ref 60), some (.int l1), some (.int l2)]) (st' := [.int ((w2.1 94 (36 : Int32).toNatClampNeg) ||| ((1 : Int32) <<< (l2 &&& 31))), .int 36, .ref 94]) (g' := w2) (by decide +kernel) rfl ?_
        obtain ⟨h5, H⟩ := xg_elim H
        refine xiast A (nxt := 45) (by decide +kernel) (hS _ _ sh_94) h5 ?_
        show xW k S 0 0 45 [some (.ref 60), some (.int l1), some (.int l2)] [] (xupd w2.1 94 (36 : Int32).toNatClampNeg ((w2.1 94 (36 : Int32).toNatClampNeg) ||| ((1 : Int32) <<< (l2 &&& 31))), w2.2)
        refine xb A [(.aload_n 0, 1, 0, 0, .null)] (pc' := 46) (ls' := [some (.ref 60), some (.int l1), some (.int l2)]) (st' := [.ref 60]) (g' := (xupd w2.1 94 (36 : Int32).toNatClampNeg ((w2.1 94 (36 : Int32).toNatClampNeg) ||| ((1 : Int32) <<< (l2 &&& 31))), w2.2)) (by decide +kernel) rfl ?_
        obtain ⟨w3, e3, H⟩ := xbind H
        refine xcallV A (ix := 317) (nxt := 49) hrm hz [] [] 1703 (c_X12_fillsFar_60 hS _ e3) ok_X12_fillsFar (by decide +kernel) rfl (fun r g1 hq => ?_)
        rw [hq.1, hq.2]
        show xW k S 0 0 49 [some (.ref 60), some (.int l1), some (.int l2)] [] w3
        refine xb A [(.aload_n 0, 1, 0, 0, .null), (.getfield 122, 3, 60, 54, .ref 95), (.bipush 7, 2, 0, 0, .int 7), (.aload_n 0, 1, 0, 0, .null), (.getfield 52, 3, 60, 25, .ref 72), (.bipush 10, 2, 0, 0, .int 10), (.aload_n 0, 1, 0, 0, .null), (.getfield 227, 3, 60, 18, .int 0), (.imul, 1, 0, 0, .null), (.iload_n 2, 1, 0, 0, .null), (.iadd, 1, 0, 0, .null)] (pc' := 68) (ls' := [some (.ref 60), some (.int l1), some (.int l2)]) (st' := [.int ((10 * (w3.1 60 18)) + l2), .ref 72, .int 7, .ref 95]) (g' := w3) (by decide +kernel) rfl ?_
        obtain ⟨h6, H⟩ := xg_elim H
        refine xiald A (nxt := 69) (by decide +kernel) (hS _ _ sh_72) h6 ?_
        show xW k S 0 0 69 [some (.ref 60), some (.int l1), some (.int l2)] [.int (w3.1 72 ((10 * (w3.1 60 18)) + l2).toNatClampNeg), .int 7, .ref 95] w3
        refine xb A [(.imul, 1, 0, 0, .null), (.aload_n 0, 1, 0, 0, .null), (.getfield 55, 3, 60, 26, .ref 73), (.bipush 10, 2, 0, 0, .int 10), (.aload_n 0, 1, 0, 0, .null), (.getfield 227, 3, 60, 18, .int 0), (.imul, 1, 0, 0, .null), (.iload_n 2, 1, 0, 0, .null), (.iadd, 1, 0, 0, .null)] (pc' := 83) (ls' := [some (.ref 60), some (.int l1), some (.int l2)]) (st' := [.int ((10 * (w3.1 60 18)) + l2), .ref 73, .int (7 * (w3.1 72 ((10 * (w3.1 60 18)) + l2).toNatClampNeg)), .ref 95]) (g' := w3) (by decide +kernel) rfl ?_
        obtain ⟨h7, H⟩ := xg_elim H
        refine xiald A (nxt := 84) (by decide +kernel) (hS _ _ sh_73) h7 ?_
        show xW k S 0 0 84 [some (.ref 60), some (.int l1), some (.int l2)] [.int (w3.1 73 ((10 * (w3.1 60 18)) + l2).toNatClampNeg), .int (7 * (w3.1 72 ((10 * (w3.1 60 18)) + l2).toNatClampNeg)), .ref 95] w3
        refine xb A [(.iadd, 1, 0, 0, .null)] (pc' := 85) (ls' := [some (.ref 60), some (.int l1), some (.int l2)]) (st' := [.int ((7 * (w3.1 72 ((10 * (w3.1 60 18)) + l2).toNatClampNeg)) + (w3.1 73 ((10 * (w3.1 60 18)) + l2).toNatClampNeg)), .ref 95]) (g' := w3) (by decide +kernel) rfl ?_
        obtain ⟨h8, H⟩ := xg_elim H
        refine xiald A (nxt := 86) (by decide +kernel) (hS _ _ sh_95) h8 ?_
        show xW k S 0 0 86 [some (.ref 60), some (.int l1), some (.int l2)] [.int (w3.1 95 ((7 * (w3.1 72 ((10 * (w3.1 60 18)) + l2).toNatClampNeg)) + (w3.1 73 ((10 * (w3.1 60 18)) + l2).toNatClampNeg)).toNatClampNeg)] w3
        refine xb A [(.sipush 999, 3, 0, 0, .int 999)] (pc' := 89) (ls' := [some (.ref 60), some (.int l1), some (.int l2)]) (st' := [.int 999, .int (w3.1 95 ((7 * (w3.1 72 ((10 * (w3.1 60 18)) + l2).toNatClampNeg)) + (w3.1 73 ((10 * (w3.1 60 18)) + l2).toNatClampNeg)).toNatClampNeg)]) (g' := w3) (by decide +kernel) rfl ?_
        refine xic_lt A (9) 98 92 (by decide +kernel) (fun h9 => ?_) (fun h9 => ?_)
        · rw [if_pos h9] at H
          refine xb A [(.iinc 2 1, 3, 0, 0, .null)] (pc' := 101) (ls' := [some (.ref 60), some (.int l1), some (.int (l2 + 1))]) (st' := []) (g' := w3) (by decide +kernel) rfl ?_
          refine xgoto A (-97) 4 (by decide +kernel) ?_
          exact ih _ _ _ H
        · rw [if_neg h9] at H
          refine xb A [(.iload_n 1, 1, 0, 0, .null), (.iconst 1, 1, 0, 0, .int 1), (.iload_n 2, 1, 0, 0, .null), (.ishl, 1, 0, 0, .null), (.ior, 1, 0, 0, .null), (.istore_n 1, 1, 0, 0, .null), (.iinc 2 1, 3, 0, 0, .null)] (pc' := 101) (ls' := [some (.ref 60), some (.int (l1 ||| ((1 : Int32) <<< (l2 &&& 31)))), some (.int (l2 + 1))]) (st' := []) (g' := w3) (by decide +kernel) rfl ?_
          refine xgoto A (-97) 4 (by decide +kernel) ?_
          exact ih _ _ _ H
      · rw [if_pos h3] at H
        refine xgoto A (73) 98 (by decide +kernel) ?_
        refine xb A [(.iinc 2 1, 3, 0, 0, .null)] (pc' := 101) (ls' := [some (.ref 60), some (.int l1), some (.int (l2 + 1))]) (st' := []) (g' := g) (by decide +kernel) rfl ?_
        refine xgoto A (-97) 4 (by decide +kernel) ?_
        exact ih _ _ _ H
theorem fr_X12_bridges_60_4   : ∀ (n : Nat) (l1 : Int32) (l2 : Int32) (g : xG) (out : Int32 × xG), f_X12_bridges_60_4 n l1 l2 g = some out → xfrm fp_X12_bridges_60 g (out.2) := by
  intro n
  induction n with
  | zero => intro l1 l2 g out H; exact absurd H (by simp [f_X12_bridges_60_4])
  | succ n ih =>
    intro l1 l2 g out H
    have H : (xg (¬ ((g.1 60 18) < 0 ∨ 2 ≤ (g.1 60 18).toNatClampNeg)) (
  if (g.1 71 (g.1 60 18).toNatClampNeg) ≤ l2 then
    some (l1, g)
  else
    (f_X12_isOpenNow_60 l2 g).bind fun w1 =>
    if w1 = 0 then
      f_X12_bridges_60_4 n l1 (l2 + 1) g
    else
      (f_X12_copies_60 g).bind fun w2 =>
      xg (¬ ((36 : Int32) < 0 ∨ 40 ≤ (36 : Int32).toNatClampNeg)) (
        xg (¬ ((36 : Int32) < 0 ∨ 40 ≤ (36 : Int32).toNatClampNeg)) (
          (f_X12_fillsFar_60 (xupd w2.1 94 (36 : Int32).toNatClampNeg ((w2.1 94 (36 : Int32).toNatClampNeg) ||| ((1 : Int32) <<< (l2 &&& 31))), w2.2)).bind fun w3 =>
          xg (¬ (((10 * (w3.1 60 18)) + l2) < 0 ∨ 20 ≤ ((10 * (w3.1 60 18)) + l2).toNatClampNeg)) (
            xg (¬ (((10 * (w3.1 60 18)) + l2) < 0 ∨ 20 ≤ ((10 * (w3.1 60 18)) + l2).toNatClampNeg)) (
              xg (¬ (((7 * (w3.1 72 ((10 * (w3.1 60 18)) + l2).toNatClampNeg)) + (w3.1 73 ((10 * (w3.1 60 18)) + l2).toNatClampNeg)) < 0 ∨ 49 ≤ ((7 * (w3.1 72 ((10 * (w3.1 60 18)) + l2).toNatClampNeg)) + (w3.1 73 ((10 * (w3.1 60 18)) + l2).toNatClampNeg)).toNatClampNeg)) (
                if (w3.1 95 ((7 * (w3.1 72 ((10 * (w3.1 60 18)) + l2).toNatClampNeg)) + (w3.1 73 ((10 * (w3.1 60 18)) + l2).toNatClampNeg)).toNatClampNeg) < 999 then
                  f_X12_bridges_60_4 n l1 (l2 + 1) w3
                else
                  f_X12_bridges_60_4 n (l1 ||| ((1 : Int32) <<< (l2 &&& 31))) (l2 + 1) w3))))))) = some out := H
    obtain ⟨h1, H⟩ := xg_elim H
    by_cases h2 : (g.1 71 (g.1 60 18).toNatClampNeg) ≤ l2
    · rw [if_pos h2] at H
      obtain rfl := Option.some.inj H
      exact xfrm.rf
    · rw [if_neg h2] at H
      obtain ⟨w1, e1, H⟩ := xbind H
      by_cases h3 : w1 = 0
      · rw [if_pos h3] at H
        exact xfrm.tr xfrm.rf (ih _ _ _ _ H) rfl
      · rw [if_neg h3] at H
        obtain ⟨w2, e2, H⟩ := xbind H
        have hf1 : xfrm fp_X12_bridges_60 g (w2) := xfrm.tr xfrm.rf (fr_X12_copies_60 _ e2) rfl
        obtain ⟨h4, H⟩ := xg_elim H
        obtain ⟨h5, H⟩ := xg_elim H
        have hf2 : xfrm fp_X12_bridges_60 g ((xupd w2.1 94 (36 : Int32).toNatClampNeg ((w2.1 94 (36 : Int32).toNatClampNeg) ||| ((1 : Int32) <<< (l2 &&& 31))), w2.2)) := xfrm.ua hf1 rfl
        obtain ⟨w3, e3, H⟩ := xbind H
        have hf3 : xfrm fp_X12_bridges_60 g (w3) := xfrm.tr hf2 (fr_X12_fillsFar_60 _ e3) rfl
        obtain ⟨h6, H⟩ := xg_elim H
        obtain ⟨h7, H⟩ := xg_elim H
        obtain ⟨h8, H⟩ := xg_elim H
        by_cases h9 : (w3.1 95 ((7 * (w3.1 72 ((10 * (w3.1 60 18)) + l2).toNatClampNeg)) + (w3.1 73 ((10 * (w3.1 60 18)) + l2).toNatClampNeg)).toNatClampNeg) < 999
        · rw [if_pos h9] at H
          exact xfrm.tr hf3 (ih _ _ _ _ H) rfl
        · rw [if_neg h9] at H
          exact xfrm.tr hf3 (ih _ _ _ _ H) rfl
set_option maxRecDepth 20000 in
theorem c_X12_bridges_60 {S : List xSh} (hS : xpf SH2 S) {g : xG}  (out : Int32 × xG) (H : f_X12_bridges_60  g = some out) : xC mX12_bridges 2 44 0 0 S [.ref 60] g S (fun r g' => r = some (.int out.1) ∧ g' = out.2) := by
  have H : (f_X12_bridges_60_4 xN 0 0 g) = some out := H
  refine xC.of 12 SH2 [some (.ref 60), none, none] hS (by decide +kernel) rfl (fun _ _ => Nat.le_of_ble_eq_true rfl) (fun _ _ => rfl) ?_
  intro k A hR hrm hz
  refine xb A [(.iconst 0, 1, 0, 0, .int 0), (.istore_n 1, 1, 0, 0, .null), (.iconst 0, 1, 0, 0, .int 0), (.istore_n 2, 1, 0, 0, .null)] (pc' := 4) (ls' := [some (.ref 60), some (.int 0), some (.int 0)]) (st' := []) (g' := g) (by decide +kernel) rfl ?_
  exact t_X12_bridges_60_4 hS A hR hrm hz _ _ _ _ H
theorem fr_X12_bridges_60  {g : xG} (out : Int32 × xG) (H : f_X12_bridges_60  g = some out) : xfrm fp_X12_bridges_60 g (out.2) := by
  have H : (f_X12_bridges_60_4 xN 0 0 g) = some out := H
  exact xfrm.tr xfrm.rf (fr_X12_bridges_60_4 _ _ _ _ _ H) rfl
def fp_X12_steps_60 : List (Nat × Option Nat) := [(60, some 52), (60, some 53), (94, none), (95, none)]
def f_X12_steps_60_32  : Nat → Int32 → Int32 → Int32 → xG → Option (Int32 × xG)
  | 0, _, _, _, _ => none
  | n + 1, l2, l3, l4, g =>
    if l3 = l2 then
      some (l4, g)
    else
      (f_X12_roadFor_60 l3 l2 g).bind fun w4 =>
      if 0 ≤ w4 then
        (f_X12_otherEnd_60 w4 l3 g).bind fun w5 =>
        f_X12_steps_60_32 n l2 w5 (l4 + 1) g
      else
        some ((-2), g)
def f_X12_steps_60 (p1 : Int32) (p2 : Int32) (g : xG) : Option (Int32 × xG) :=
  (f_X12_isPerson_60 p1 g).bind fun w1 =>
  if w1 = 0 then
    some ((-1), g)
  else
    (f_X12_isTown_60 p2 g).bind fun w2 =>
    if w2 = 0 then
      some ((-1), g)
    else
      (f_X12_copies_60 g).bind fun w3 =>
      xg (¬ (p1 < 0 ∨ 40 ≤ p1.toNatClampNeg)) (
        f_X12_steps_60_32 xN p2 (w3.1 94 p1.toNatClampNeg) 0 w3)
set_option maxRecDepth 20000 in
theorem t_X12_steps_60_32 {k : xK} {S : List xSh} {out : Int32 × xG} (hS : xpf SH2 S) (A : xAt k mX12_steps.2.1 12 SH2 S) (hR : xRet k 0 0 S (fun r g' => r = some (.int out.1) ∧ g' = out.2) mX12_steps.2.2.2) (hrm : xrm k = { frames := 2, cells := 0, slots := 0, locals := 49 }) (hz : xhs k = xb0 k + S.length)   : ∀ (n : Nat) (l2 : Int32) (l3 : Int32) (l4 : Int32) (g : xG), f_X12_steps_60_32 n l2 l3 l4 g = some out → xW k S 0 0 32 [some (.ref 60), none, some (.int l2), some (.int l3), some (.int l4), none] [] g := by
  intro n
  induction n with
  | zero => intro l2 l3 l4 g H; exact absurd H (by simp [f_X12_steps_60_32])
  | succ n ih =>
    intro l2 l3 l4 g H
    have H : (if l3 = l2 then
  some (l4, g)
else
  (f_X12_roadFor_60 l3 l2 g).bind fun w4 =>
  if 0 ≤ w4 then
    (f_X12_otherEnd_60 w4 l3 g).bind fun w5 =>
    f_X12_steps_60_32 n l2 w5 (l4 + 1) g
  else
    some ((-2), g)) = some out := H
    refine xb A [(.iload_n 3, 1, 0, 0, .null), (.iload_n 2, 1, 0, 0, .null)] (pc' := 34) (ls' := [some (.ref 60), none, some (.int l2), some (.int l3), some (.int l4), none]) (st' := [.int l2, .int l3]) (g' := g) (by decide +kernel) rfl ?_
    refine xic_eq A (33) 67 37 (by decide +kernel) (fun h4 => ?_) (fun h4 => ?_)
    · rw [if_pos h4] at H
      refine xb A [(.iload 4, 2, 0, 0, .null)] (pc' := 69) (ls' := [some (.ref 60), none, some (.int l2), some (.int l3), some (.int l4), none]) (st' := [.int l4]) (g' := g) (by decide +kernel) rfl ?_
      obtain rfl := Option.some.inj H
      exact xret_i A hR hz (by decide +kernel) rfl ⟨rfl, rfl⟩
    · rw [if_neg h4] at H
      refine xb A [(.aload_n 0, 1, 0, 0, .null), (.iload_n 3, 1, 0, 0, .null), (.iload_n 2, 1, 0, 0, .null)] (pc' := 40) (ls' := [some (.ref 60), none, some (.int l2), some (.int l3), some (.int l4), none]) (st' := [.int l2, .int l3, .ref 60]) (g' := g) (by decide +kernel) rfl ?_
      obtain ⟨w4, e4, H⟩ := xbind H
      refine xcallV A (ix := 382) (nxt := 43) hrm hz [.int l3, .int l2] [] 1869 (c_X12_roadFor_60 hS _ e4) ok_X12_roadFor (by decide +kernel) rfl (fun r g1 hq => ?_)
      rw [hq.1, hq.2]
      show xW k S 0 0 43 [some (.ref 60), none, some (.int l2), some (.int l3), some (.int l4), none] [.int w4] g
      refine xb A [(.istore 5, 2, 0, 0, .null), (.iload 5, 2, 0, 0, .null)] (pc' := 47) (ls' := [some (.ref 60), none, some (.int l2), some (.int l3), some (.int l4), some (.int w4)]) (st' := [.int w4]) (g' := g) (by decide +kernel) rfl ?_
      refine xif_ge A (6) 53 50 (by decide +kernel) (fun h5 => ?_) (fun h5 => ?_)
      · rw [if_pos h5] at H
        refine xb A [(.aload_n 0, 1, 0, 0, .null), (.iload 5, 2, 0, 0, .null), (.iload_n 3, 1, 0, 0, .null)] (pc' := 57) (ls' := [some (.ref 60), none, some (.int l2), some (.int l3), some (.int l4), some (.int w4)]) (st' := [.int l3, .int w4, .ref 60]) (g' := g) (by decide +kernel) rfl ?_
        obtain ⟨w5, e5, H⟩ := xbind H
        refine xcallV A (ix := 379) (nxt := 60) hrm hz [.int w4, .int l3] [] 1873 (c_X12_otherEnd_60 hS _ e5) ok_X12_otherEnd (by decide +kernel) rfl (fun r g1 hq => ?_)
        rw [hq.1, hq.2]
        show xW k S 0 0 60 [some (.ref 60), none, some (.int l2), some (.int l3), some (.int l4), some (.int w4)] [.int w5] g
        refine xb A [(.istore_n 3, 1, 0, 0, .null), (.iinc 4 1, 3, 0, 0, .null)] (pc' := 64) (ls' := [some (.ref 60), none, some (.int l2), some (.int w5), some (.int (l4 + 1)), some (.int w4)]) (st' := []) (g' := g) (by decide +kernel) rfl ?_
        refine xgoto A (-32) 32 (by decide +kernel) ?_
        refine xweak (ls' := [some (.ref 60), none, some (.int l2), some (.int w5), some (.int (l4 + 1)), none]) (by exact ⟨rfl, ⟨rfl, ⟨rfl, ⟨rfl, trivial⟩⟩⟩⟩) ?_
        exact ih _ _ _ _ H
      · rw [if_neg h5] at H
        refine xb A [(.bipush (-2), 2, 0, 0, .int (-2))] (pc' := 52) (ls' := [some (.ref 60), none, some (.int l2), some (.int l3), some (.int l4), some (.int w4)]) (st' := [.int (-2)]) (g' := g) (by decide +kernel) rfl ?_
        obtain rfl := Option.some.inj H
        exact xret_i A hR hz (by decide +kernel) rfl ⟨rfl, rfl⟩
theorem fr_X12_steps_60_32   : ∀ (n : Nat) (l2 : Int32) (l3 : Int32) (l4 : Int32) (g : xG) (out : Int32 × xG), f_X12_steps_60_32 n l2 l3 l4 g = some out → xfrm fp_X12_steps_60 g (out.2) := by
  intro n
  induction n with
  | zero => intro l2 l3 l4 g out H; exact absurd H (by simp [f_X12_steps_60_32])
  | succ n ih =>
    intro l2 l3 l4 g out H
    have H : (if l3 = l2 then
  some (l4, g)
else
  (f_X12_roadFor_60 l3 l2 g).bind fun w4 =>
  if 0 ≤ w4 then
    (f_X12_otherEnd_60 w4 l3 g).bind fun w5 =>
    f_X12_steps_60_32 n l2 w5 (l4 + 1) g
  else
    some ((-2), g)) = some out := H
    by_cases h4 : l3 = l2
    · rw [if_pos h4] at H
      obtain rfl := Option.some.inj H
      exact xfrm.rf
    · rw [if_neg h4] at H
      obtain ⟨w4, e4, H⟩ := xbind H
      by_cases h5 : 0 ≤ w4
      · rw [if_pos h5] at H
        obtain ⟨w5, e5, H⟩ := xbind H
        exact xfrm.tr xfrm.rf (ih _ _ _ _ _ H) rfl
      · rw [if_neg h5] at H
        obtain rfl := Option.some.inj H
        exact xfrm.rf
set_option maxRecDepth 20000 in
theorem c_X12_steps_60 {S : List xSh} (hS : xpf SH2 S) {g : xG} {p1 : Int32} {p2 : Int32} (out : Int32 × xG) (H : f_X12_steps_60 p1 p2 g = some out) : xC mX12_steps 2 49 0 0 S [.ref 60, .int p1, .int p2] g S (fun r g' => r = some (.int out.1) ∧ g' = out.2) := by
  have H : ((f_X12_isPerson_60 p1 g).bind fun w1 =>
if w1 = 0 then
  some ((-1), g)
else
  (f_X12_isTown_60 p2 g).bind fun w2 =>
  if w2 = 0 then
    some ((-1), g)
  else
    (f_X12_copies_60 g).bind fun w3 =>
    xg (¬ (p1 < 0 ∨ 40 ≤ p1.toNatClampNeg)) (
      f_X12_steps_60_32 xN p2 (w3.1 94 p1.toNatClampNeg) 0 w3)) = some out := H
  refine xC.of 12 SH2 [some (.ref 60), some (.int p1), some (.int p2), none, none, none] hS (by decide +kernel) rfl (fun _ _ => Nat.le_of_ble_eq_true rfl) (fun _ _ => rfl) ?_
  intro k A hR hrm hz
  refine xb A [(.aload_n 0, 1, 0, 0, .null), (.iload_n 1, 1, 0, 0, .null)] (pc' := 2) (ls' := [some (.ref 60), some (.int p1), some (.int p2), none, none, none]) (st' := [.int p1, .ref 60]) (g' := g) (by decide +kernel) rfl ?_
  obtain ⟨w1, e1, H⟩ := xbind H
  refine xcallV A (ix := 425) (nxt := 5) hrm hz [.int p1] [] 1739 (c_X12_isPerson_60 hS _ e1) ok_X12_isPerson (by decide +kernel) rfl (fun r g1 hq => ?_)
  rw [hq.1, hq.2]
  show xW k S 0 0 5 [some (.ref 60), some (.int p1), some (.int p2), none, none, none] [.int w1] g
  refine xif_eq A (11) 16 8 (by decide +kernel) (fun h1 => ?_) (fun h1 => ?_)
  · rw [if_pos h1] at H
    refine xb A [(.iconst (-1), 1, 0, 0, .int (-1))] (pc' := 17) (ls' := [some (.ref 60), some (.int p1), some (.int p2), none, none, none]) (st' := [.int (-1)]) (g' := g) (by decide +kernel) rfl ?_
    obtain rfl := Option.some.inj H
    exact xret_i A hR hz (by decide +kernel) rfl ⟨rfl, rfl⟩
  · rw [if_neg h1] at H
    refine xb A [(.aload_n 0, 1, 0, 0, .null), (.iload_n 2, 1, 0, 0, .null)] (pc' := 10) (ls' := [some (.ref 60), some (.int p1), some (.int p2), none, none, none]) (st' := [.int p2, .ref 60]) (g' := g) (by decide +kernel) rfl ?_
    obtain ⟨w2, e2, H⟩ := xbind H
    refine xcallV A (ix := 413) (nxt := 13) hrm hz [.int p2] [] 1692 (c_X12_isTown_60 hS _ e2) ok_X12_isTown (by decide +kernel) rfl (fun r g1 hq => ?_)
    rw [hq.1, hq.2]
    show xW k S 0 0 13 [some (.ref 60), some (.int p1), some (.int p2), none, none, none] [.int w2] g
    refine xif_ne A (5) 18 16 (by decide +kernel) (fun h2 => ?_) (fun h2 => ?_)
    · rw [if_neg h2] at H
      refine xb A [(.aload_n 0, 1, 0, 0, .null)] (pc' := 19) (ls' := [some (.ref 60), some (.int p1), some (.int p2), none, none, none]) (st' := [.ref 60]) (g' := g) (by decide +kernel) rfl ?_
      obtain ⟨w3, e3, H⟩ := xbind H
      refine xcallV A (ix := 320) (nxt := 22) hrm hz [] [] 1699 (c_X12_copies_60 hS _ e3) ok_X12_copies (by decide +kernel) rfl (fun r g1 hq => ?_)
      rw [hq.1, hq.2]
      show xW k S 0 0 22 [some (.ref 60), some (.int p1), some (.int p2), none, none, none] [] w3
      refine xb A [(.aload_n 0, 1, 0, 0, .null), (.getfield 119, 3, 60, 51, .ref 94), (.iload_n 1, 1, 0, 0, .null)] (pc' := 27) (ls' := [some (.ref 60), some (.int p1), some (.int p2), none, none, none]) (st' := [.int p1, .ref 94]) (g' := w3) (by decide +kernel) rfl ?_
      obtain ⟨h3, H⟩ := xg_elim H
      refine xiald A (nxt := 28) (by decide +kernel) (hS _ _ sh_94) h3 ?_
      show xW k S 0 0 28 [some (.ref 60), some (.int p1), some (.int p2), none, none, none] [.int (w3.1 94 p1.toNatClampNeg)] w3
      refine xb A [(.istore_n 3, 1, 0, 0, .null), (.iconst 0, 1, 0, 0, .int 0), (.istore 4, 2, 0, 0, .null)] (pc' := 32) (ls' := [some (.ref 60), some (.int p1), some (.int p2), some (.int (w3.1 94 p1.toNatClampNeg)), some (.int 0), none]) (st' := []) (g' := w3) (by decide +kernel) rfl ?_
      refine xweak (ls' := [some (.ref 60), none, some (.int p2), some (.int (w3.1 94 p1.toNatClampNeg)), some (.int 0), none]) (by exact ⟨rfl, ⟨rfl, ⟨rfl, ⟨rfl, trivial⟩⟩⟩⟩) ?_
      exact t_X12_steps_60_32 hS A hR hrm hz _ _ _ _ _ H
    · rw [if_pos h2] at H
      refine xb A [(.iconst (-1), 1, 0, 0, .int (-1))] (pc' := 17) (ls' := [some (.ref 60), some (.int p1), some (.int p2), none, none, none]) (st' := [.int (-1)]) (g' := g) (by decide +kernel) rfl ?_
      obtain rfl := Option.some.inj H
      exact xret_i A hR hz (by decide +kernel) rfl ⟨rfl, rfl⟩
theorem fr_X12_steps_60 {p1 : Int32} {p2 : Int32} {g : xG} (out : Int32 × xG) (H : f_X12_steps_60 p1 p2 g = some out) : xfrm fp_X12_steps_60 g (out.2) := by
  have H : ((f_X12_isPerson_60 p1 g).bind fun w1 =>
if w1 = 0 then
  some ((-1), g)
else
  (f_X12_isTown_60 p2 g).bind fun w2 =>
  if w2 = 0 then
    some ((-1), g)
  else
    (f_X12_copies_60 g).bind fun w3 =>
    xg (¬ (p1 < 0 ∨ 40 ≤ p1.toNatClampNeg)) (
      f_X12_steps_60_32 xN p2 (w3.1 94 p1.toNatClampNeg) 0 w3)) = some out := H
  obtain ⟨w1, e1, H⟩ := xbind H
  by_cases h1 : w1 = 0
  · rw [if_pos h1] at H
    obtain rfl := Option.some.inj H
    exact xfrm.rf
  · rw [if_neg h1] at H
    obtain ⟨w2, e2, H⟩ := xbind H
    by_cases h2 : w2 = 0
    · rw [if_pos h2] at H
      obtain rfl := Option.some.inj H
      exact xfrm.rf
    · rw [if_neg h2] at H
      obtain ⟨w3, e3, H⟩ := xbind H
      have hf1 : xfrm fp_X12_steps_60 g (w3) := xfrm.tr xfrm.rf (fr_X12_copies_60 _ e3) rfl
      obtain ⟨h3, H⟩ := xg_elim H
      exact xfrm.tr hf1 (fr_X12_steps_60_32 _ _ _ _ _ _ H) rfl
def fp_X12_then_60 : List (Nat × Option Nat) := [(60, some 49), (60, some 52), (60, some 53), (91, none), (92, none), (94, none), (95, none)]
def f_X12_then_60 (p1 : Int32) (p2 : Int32) (g : xG) : Option (Int32 × xG) :=
  (f_X12_isPerson_60 p1 g).bind fun w1 =>
  if w1 = 0 then
    some ((-1), g)
  else
    if (f_X12_isLong p2) = 0 then
      some ((-1), g)
    else
      (f_X12_copies_60 g).bind fun w2 =>
      (f_X12_goes_60 p2 w2).bind fun w3 =>
      xg (¬ (p1 < 0 ∨ 40 ≤ p1.toNatClampNeg)) (
        some (w3.1 94 p1.toNatClampNeg, w3))
set_option maxRecDepth 20000 in
theorem c_X12_then_60 {S : List xSh} (hS : xpf SH2 S) {g : xG} {p1 : Int32} {p2 : Int32} (out : Int32 × xG) (H : f_X12_then_60 p1 p2 g = some out) : xC mX12_then 9 197 0 0 S [.ref 60, .int p1, .int p2] g S (fun r g' => r = some (.int out.1) ∧ g' = out.2) := by
  have H : ((f_X12_isPerson_60 p1 g).bind fun w1 =>
if w1 = 0 then
  some ((-1), g)
else
  if (f_X12_isLong p2) = 0 then
    some ((-1), g)
  else
    (f_X12_copies_60 g).bind fun w2 =>
    (f_X12_goes_60 p2 w2).bind fun w3 =>
    xg (¬ (p1 < 0 ∨ 40 ≤ p1.toNatClampNeg)) (
      some (w3.1 94 p1.toNatClampNeg, w3))) = some out := H
  refine xC.of 12 SH2 [some (.ref 60), some (.int p1), some (.int p2)] hS (by decide +kernel) rfl (fun _ _ => Nat.le_of_ble_eq_true rfl) (fun _ _ => rfl) ?_
  intro k A hR hrm hz
  refine xb A [(.aload_n 0, 1, 0, 0, .null), (.iload_n 1, 1, 0, 0, .null)] (pc' := 2) (ls' := [some (.ref 60), some (.int p1), some (.int p2)]) (st' := [.int p1, .ref 60]) (g' := g) (by decide +kernel) rfl ?_
  obtain ⟨w1, e1, H⟩ := xbind H
  refine xcallV A (ix := 425) (nxt := 5) hrm hz [.int p1] [] 1739 (c_X12_isPerson_60 hS _ e1) ok_X12_isPerson (by decide +kernel) rfl (fun r g1 hq => ?_)
  rw [hq.1, hq.2]
  show xW k S 0 0 5 [some (.ref 60), some (.int p1), some (.int p2)] [.int w1] g
  refine xif_eq A (10) 15 8 (by decide +kernel) (fun h1 => ?_) (fun h1 => ?_)
  · rw [if_pos h1] at H
    refine xb A [(.iconst (-1), 1, 0, 0, .int (-1))] (pc' := 16) (ls' := [some (.ref 60), some (.int p1), some (.int p2)]) (st' := [.int (-1)]) (g' := g) (by decide +kernel) rfl ?_
    obtain rfl := Option.some.inj H
    exact xret_i A hR hz (by decide +kernel) rfl ⟨rfl, rfl⟩
  · rw [if_neg h1] at H
    refine xb A [(.iload_n 2, 1, 0, 0, .null)] (pc' := 9) (ls' := [some (.ref 60), some (.int p1), some (.int p2)]) (st' := [.int p2]) (g' := g) (by decide +kernel) rfl ?_
    refine xcallS A (ix := 434) (nxt := 12) hrm hz [.int p2] [] 1825 (c_X12_isLong hS _ rfl) ok_X12_isLong (by decide +kernel) rfl (fun r g1 hq => ?_)
    rw [hq.1, hq.2]
    show xW k S 0 0 12 [some (.ref 60), some (.int p1), some (.int p2)] [.int (f_X12_isLong p2)] g
    refine xif_ne A (5) 17 15 (by decide +kernel) (fun h2 => ?_) (fun h2 => ?_)
    · rw [if_neg h2] at H
      refine xb A [(.aload_n 0, 1, 0, 0, .null)] (pc' := 18) (ls' := [some (.ref 60), some (.int p1), some (.int p2)]) (st' := [.ref 60]) (g' := g) (by decide +kernel) rfl ?_
      obtain ⟨w2, e2, H⟩ := xbind H
      refine xcallV A (ix := 320) (nxt := 21) hrm hz [] [] 1699 (c_X12_copies_60 hS _ e2) ok_X12_copies (by decide +kernel) rfl (fun r g1 hq => ?_)
      rw [hq.1, hq.2]
      show xW k S 0 0 21 [some (.ref 60), some (.int p1), some (.int p2)] [] w2
      refine xb A [(.aload_n 0, 1, 0, 0, .null), (.iload_n 2, 1, 0, 0, .null)] (pc' := 23) (ls' := [some (.ref 60), some (.int p1), some (.int p2)]) (st' := [.int p2, .ref 60]) (g' := w2) (by decide +kernel) rfl ?_
      obtain ⟨w3, e3, H⟩ := xbind H
      refine xcallV A (ix := 437) (nxt := 26) hrm hz [.int p2] [] 1828 (c_X12_goes_60 hS _ e3) ok_X12_goes (by decide +kernel) rfl (fun r g1 hq => ?_)
      rw [hq.1, hq.2]
      show xW k S 0 0 26 [some (.ref 60), some (.int p1), some (.int p2)] [] w3
      refine xb A [(.aload_n 0, 1, 0, 0, .null), (.getfield 119, 3, 60, 51, .ref 94), (.iload_n 1, 1, 0, 0, .null)] (pc' := 31) (ls' := [some (.ref 60), some (.int p1), some (.int p2)]) (st' := [.int p1, .ref 94]) (g' := w3) (by decide +kernel) rfl ?_
      obtain ⟨h3, H⟩ := xg_elim H
      refine xiald A (nxt := 32) (by decide +kernel) (hS _ _ sh_94) h3 ?_
      show xW k S 0 0 32 [some (.ref 60), some (.int p1), some (.int p2)] [.int (w3.1 94 p1.toNatClampNeg)] w3
      obtain rfl := Option.some.inj H
      exact xret_i A hR hz (by decide +kernel) rfl ⟨rfl, rfl⟩
    · rw [if_pos h2] at H
      refine xb A [(.iconst (-1), 1, 0, 0, .int (-1))] (pc' := 16) (ls' := [some (.ref 60), some (.int p1), some (.int p2)]) (st' := [.int (-1)]) (g' := g) (by decide +kernel) rfl ?_
      obtain rfl := Option.some.inj H
      exact xret_i A hR hz (by decide +kernel) rfl ⟨rfl, rfl⟩
theorem fr_X12_then_60 {p1 : Int32} {p2 : Int32} {g : xG} (out : Int32 × xG) (H : f_X12_then_60 p1 p2 g = some out) : xfrm fp_X12_then_60 g (out.2) := by
  have H : ((f_X12_isPerson_60 p1 g).bind fun w1 =>
if w1 = 0 then
  some ((-1), g)
else
  if (f_X12_isLong p2) = 0 then
    some ((-1), g)
  else
    (f_X12_copies_60 g).bind fun w2 =>
    (f_X12_goes_60 p2 w2).bind fun w3 =>
    xg (¬ (p1 < 0 ∨ 40 ≤ p1.toNatClampNeg)) (
      some (w3.1 94 p1.toNatClampNeg, w3))) = some out := H
  obtain ⟨w1, e1, H⟩ := xbind H
  by_cases h1 : w1 = 0
  · rw [if_pos h1] at H
    obtain rfl := Option.some.inj H
    exact xfrm.rf
  · rw [if_neg h1] at H
    by_cases h2 : (f_X12_isLong p2) = 0
    · rw [if_pos h2] at H
      obtain rfl := Option.some.inj H
      exact xfrm.rf
    · rw [if_neg h2] at H
      obtain ⟨w2, e2, H⟩ := xbind H
      have hf1 : xfrm fp_X12_then_60 g (w2) := xfrm.tr xfrm.rf (fr_X12_copies_60 _ e2) rfl
      obtain ⟨w3, e3, H⟩ := xbind H
      have hf2 : xfrm fp_X12_then_60 g (w3) := xfrm.tr hf1 (fr_X12_goes_60 _ e3) rfl
      obtain ⟨h3, H⟩ := xg_elim H
      obtain rfl := Option.some.inj H
      exact hf2
def fp_X12_rungIn_60 : List (Nat × Option Nat) := [(60, some 49), (60, some 52), (60, some 53), (91, none), (92, none), (94, none), (95, none)]
def f_X12_rungIn_60 (p1 : Int32) (p2 : Int32) (g : xG) : Option (Int32 × xG) :=
  (f_X12_isPerson_60 p1 g).bind fun w1 =>
  if w1 = 0 then
    some ((-1), g)
  else
    if (f_X12_isLong p2) = 0 then
      some ((-1), g)
    else
      (f_X12_copies_60 g).bind fun w2 =>
      (f_X12_goes_60 p2 w2).bind fun w3 =>
      xg (¬ ((18 + p1) < 0 ∨ 40 ≤ (18 + p1).toNatClampNeg)) (
        some (w3.1 94 (18 + p1).toNatClampNeg, w3))
set_option maxRecDepth 20000 in
theorem c_X12_rungIn_60 {S : List xSh} (hS : xpf SH2 S) {g : xG} {p1 : Int32} {p2 : Int32} (out : Int32 × xG) (H : f_X12_rungIn_60 p1 p2 g = some out) : xC mX12_rungIn 9 197 0 0 S [.ref 60, .int p1, .int p2] g S (fun r g' => r = some (.int out.1) ∧ g' = out.2) := by
  have H : ((f_X12_isPerson_60 p1 g).bind fun w1 =>
if w1 = 0 then
  some ((-1), g)
else
  if (f_X12_isLong p2) = 0 then
    some ((-1), g)
  else
    (f_X12_copies_60 g).bind fun w2 =>
    (f_X12_goes_60 p2 w2).bind fun w3 =>
    xg (¬ ((18 + p1) < 0 ∨ 40 ≤ (18 + p1).toNatClampNeg)) (
      some (w3.1 94 (18 + p1).toNatClampNeg, w3))) = some out := H
  refine xC.of 12 SH2 [some (.ref 60), some (.int p1), some (.int p2)] hS (by decide +kernel) rfl (fun _ _ => Nat.le_of_ble_eq_true rfl) (fun _ _ => rfl) ?_
  intro k A hR hrm hz
  refine xb A [(.aload_n 0, 1, 0, 0, .null), (.iload_n 1, 1, 0, 0, .null)] (pc' := 2) (ls' := [some (.ref 60), some (.int p1), some (.int p2)]) (st' := [.int p1, .ref 60]) (g' := g) (by decide +kernel) rfl ?_
  obtain ⟨w1, e1, H⟩ := xbind H
  refine xcallV A (ix := 425) (nxt := 5) hrm hz [.int p1] [] 1739 (c_X12_isPerson_60 hS _ e1) ok_X12_isPerson (by decide +kernel) rfl (fun r g1 hq => ?_)
  rw [hq.1, hq.2]
  show xW k S 0 0 5 [some (.ref 60), some (.int p1), some (.int p2)] [.int w1] g
  refine xif_eq A (10) 15 8 (by decide +kernel) (fun h1 => ?_) (fun h1 => ?_)
  · rw [if_pos h1] at H
    refine xb A [(.iconst (-1), 1, 0, 0, .int (-1))] (pc' := 16) (ls' := [some (.ref 60), some (.int p1), some (.int p2)]) (st' := [.int (-1)]) (g' := g) (by decide +kernel) rfl ?_
    obtain rfl := Option.some.inj H
    exact xret_i A hR hz (by decide +kernel) rfl ⟨rfl, rfl⟩
  · rw [if_neg h1] at H
    refine xb A [(.iload_n 2, 1, 0, 0, .null)] (pc' := 9) (ls' := [some (.ref 60), some (.int p1), some (.int p2)]) (st' := [.int p2]) (g' := g) (by decide +kernel) rfl ?_
    refine xcallS A (ix := 434) (nxt := 12) hrm hz [.int p2] [] 1825 (c_X12_isLong hS _ rfl) ok_X12_isLong (by decide +kernel) rfl (fun r g1 hq => ?_)
    rw [hq.1, hq.2]
    show xW k S 0 0 12 [some (.ref 60), some (.int p1), some (.int p2)] [.int (f_X12_isLong p2)] g
    refine xif_ne A (5) 17 15 (by decide +kernel) (fun h2 => ?_) (fun h2 => ?_)
    · rw [if_neg h2] at H
      refine xb A [(.aload_n 0, 1, 0, 0, .null)] (pc' := 18) (ls' := [some (.ref 60), some (.int p1), some (.int p2)]) (st' := [.ref 60]) (g' := g) (by decide +kernel) rfl ?_
      obtain ⟨w2, e2, H⟩ := xbind H
      refine xcallV A (ix := 320) (nxt := 21) hrm hz [] [] 1699 (c_X12_copies_60 hS _ e2) ok_X12_copies (by decide +kernel) rfl (fun r g1 hq => ?_)
      rw [hq.1, hq.2]
      show xW k S 0 0 21 [some (.ref 60), some (.int p1), some (.int p2)] [] w2
      refine xb A [(.aload_n 0, 1, 0, 0, .null), (.iload_n 2, 1, 0, 0, .null)] (pc' := 23) (ls' := [some (.ref 60), some (.int p1), some (.int p2)]) (st' := [.int p2, .ref 60]) (g' := w2) (by decide +kernel) rfl ?_
      obtain ⟨w3, e3, H⟩ := xbind H
      refine xcallV A (ix := 437) (nxt := 26) hrm hz [.int p2] [] 1828 (c_X12_goes_60 hS _ e3) ok_X12_goes (by decide +kernel) rfl (fun r g1 hq => ?_)
      rw [hq.1, hq.2]
      show xW k S 0 0 26 [some (.ref 60), some (.int p1), some (.int p2)] [] w3
      refine xb A [(.aload_n 0, 1, 0, 0, .null), (.getfield 119, 3, 60, 51, .ref 94), (.bipush 18, 2, 0, 0, .int 18), (.iload_n 1, 1, 0, 0, .null), (.iadd, 1, 0, 0, .null)] (pc' := 34) (ls' := [some (.ref 60), some (.int p1), some (.int p2)]) (st' := [.int (18 + p1), .ref 94]) (g' := w3) (by decide +kernel) rfl ?_
      obtain ⟨h3, H⟩ := xg_elim H
      refine xiald A (nxt := 35) (by decide +kernel) (hS _ _ sh_94) h3 ?_
      show xW k S 0 0 35 [some (.ref 60), some (.int p1), some (.int p2)] [.int (w3.1 94 (18 + p1).toNatClampNeg)] w3
      obtain rfl := Option.some.inj H
      exact xret_i A hR hz (by decide +kernel) rfl ⟨rfl, rfl⟩
    · rw [if_pos h2] at H
      refine xb A [(.iconst (-1), 1, 0, 0, .int (-1))] (pc' := 16) (ls' := [some (.ref 60), some (.int p1), some (.int p2)]) (st' := [.int (-1)]) (g' := g) (by decide +kernel) rfl ?_
      obtain rfl := Option.some.inj H
      exact xret_i A hR hz (by decide +kernel) rfl ⟨rfl, rfl⟩
theorem fr_X12_rungIn_60 {p1 : Int32} {p2 : Int32} {g : xG} (out : Int32 × xG) (H : f_X12_rungIn_60 p1 p2 g = some out) : xfrm fp_X12_rungIn_60 g (out.2) := by
  have H : ((f_X12_isPerson_60 p1 g).bind fun w1 =>
if w1 = 0 then
  some ((-1), g)
else
  if (f_X12_isLong p2) = 0 then
    some ((-1), g)
  else
    (f_X12_copies_60 g).bind fun w2 =>
    (f_X12_goes_60 p2 w2).bind fun w3 =>
    xg (¬ ((18 + p1) < 0 ∨ 40 ≤ (18 + p1).toNatClampNeg)) (
      some (w3.1 94 (18 + p1).toNatClampNeg, w3))) = some out := H
  obtain ⟨w1, e1, H⟩ := xbind H
  by_cases h1 : w1 = 0
  · rw [if_pos h1] at H
    obtain rfl := Option.some.inj H
    exact xfrm.rf
  · rw [if_neg h1] at H
    by_cases h2 : (f_X12_isLong p2) = 0
    · rw [if_pos h2] at H
      obtain rfl := Option.some.inj H
      exact xfrm.rf
    · rw [if_neg h2] at H
      obtain ⟨w2, e2, H⟩ := xbind H
      have hf1 : xfrm fp_X12_rungIn_60 g (w2) := xfrm.tr xfrm.rf (fr_X12_copies_60 _ e2) rfl
      obtain ⟨w3, e3, H⟩ := xbind H
      have hf2 : xfrm fp_X12_rungIn_60 g (w3) := xfrm.tr hf1 (fr_X12_goes_60 _ e3) rfl
      obtain ⟨h3, H⟩ := xg_elim H
      obtain rfl := Option.some.inj H
      exact hf2
def f_X12_barredBits_60_4  (g : xG) : Nat → Int32 → Int32 → Option (Int32)
  | 0, _, _ => none
  | n + 1, l1, l2 =>
    xg (¬ ((g.1 60 18) < 0 ∨ 2 ≤ (g.1 60 18).toNatClampNeg)) (
      if (g.1 75 (g.1 60 18).toNatClampNeg) ≤ l2 then
        some l1
      else
        xg (¬ ((30 + l2) < 0 ∨ 40 ≤ (30 + l2).toNatClampNeg)) (
          f_X12_barredBits_60_4 g n (l1 ||| ((g.1 94 (30 + l2).toNatClampNeg) <<< (l2 &&& 31))) (l2 + 1)))
def f_X12_barredBits_60  (g : xG) : Option (Int32) :=
  f_X12_barredBits_60_4 g xN 0 0
set_option maxRecDepth 20000 in
theorem t_X12_barredBits_60_4 {k : xK} {S : List xSh} {g : xG} {out : Int32} (hS : xpf SH2 S) (A : xAt k mX12_barredBits.2.1 12 SH2 S) (hR : xRet k 0 0 S (fun r g' => r = some (.int out) ∧ g' = g) mX12_barredBits.2.2.2) (hrm : xrm k = { frames := 0, cells := 0, slots := 0, locals := 0 }) (hz : xhs k = xb0 k + S.length)   : ∀ (n : Nat) (l1 : Int32) (l2 : Int32), f_X12_barredBits_60_4 g n l1 l2 = some out → xW k S 0 0 4 [some (.ref 60), some (.int l1), some (.int l2)] [] g := by
  intro n
  induction n with
  | zero => intro l1 l2 H; exact absurd H (by simp [f_X12_barredBits_60_4])
  | succ n ih =>
    intro l1 l2 H
    have H : (xg (¬ ((g.1 60 18) < 0 ∨ 2 ≤ (g.1 60 18).toNatClampNeg)) (
  if (g.1 75 (g.1 60 18).toNatClampNeg) ≤ l2 then
    some l1
  else
    xg (¬ ((30 + l2) < 0 ∨ 40 ≤ (30 + l2).toNatClampNeg)) (
      f_X12_barredBits_60_4 g n (l1 ||| ((g.1 94 (30 + l2).toNatClampNeg) <<< (l2 &&& 31))) (l2 + 1)))) = some out := H
    refine xb A [(.iload_n 2, 1, 0, 0, .null), (.aload_n 0, 1, 0, 0, .null), (.getfield 61, 3, 60, 28, .ref 75), (.aload_n 0, 1, 0, 0, .null), (.getfield 227, 3, 60, 18, .int 0)] (pc' := 13) (ls' := [some (.ref 60), some (.int l1), some (.int l2)]) (st' := [.int (g.1 60 18), .ref 75, .int l2]) (g' := g) (by decide +kernel) rfl ?_
    obtain ⟨h1, H⟩ := xg_elim H
    refine xiald A (nxt := 14) (by decide +kernel) (hS _ _ sh_75) h1 ?_
    show xW k S 0 0 14 [some (.ref 60), some (.int l1), some (.int l2)] [.int (g.1 75 (g.1 60 18).toNatClampNeg), .int l2] g
    refine xic_ge A (23) 37 17 (by decide +kernel) (fun h2 => ?_) (fun h2 => ?_)
    · rw [if_pos h2] at H
      refine xb A [(.iload_n 1, 1, 0, 0, .null)] (pc' := 38) (ls' := [some (.ref 60), some (.int l1), some (.int l2)]) (st' := [.int l1]) (g' := g) (by decide +kernel) rfl ?_
      obtain rfl := Option.some.inj H
      exact xret_i A hR hz (by decide +kernel) rfl ⟨rfl, rfl⟩
    · rw [if_neg h2] at H
      refine xb A [(.iload_n 1, 1, 0, 0, .null), (.aload_n 0, 1, 0, 0, .null), (.getfield 119, 3, 60, 51, .ref 94), (.bipush 30, 2, 0, 0, .int 30), (.iload_n 2, 1, 0, 0, .null), (.iadd, 1, 0, 0, .null)] (pc' := 26) (ls' := [some (.ref 60), some (.int l1), some (.int l2)]) (st' := [.int (30 + l2), .ref 94, .int l1]) (g' := g) (by decide +kernel) rfl ?_
      obtain ⟨h3, H⟩ := xg_elim H
      refine xiald A (nxt := 27) (by decide +kernel) (hS _ _ sh_94) h3 ?_
      show xW k S 0 0 27 [some (.ref 60), some (.int l1), some (.int l2)] [.int (g.1 94 (30 + l2).toNatClampNeg), .int l1] g
      refine xb A [(.iload_n 2, 1, 0, 0, .null), (.ishl, 1, 0, 0, .null), (.ior, 1, 0, 0, .null), (.istore_n 1, 1, 0, 0, .null), (.iinc 2 1, 3, 0, 0, .null)] (pc' := 34) (ls' := [some (.ref 60), some (.int (l1 ||| ((g.1 94 (30 + l2).toNatClampNeg) <<< (l2 &&& 31)))), some (.int (l2 + 1))]) (st' := []) (g' := g) (by decide +kernel) rfl ?_
      refine xgoto A (-30) 4 (by decide +kernel) ?_
      exact ih _ _ H
set_option maxRecDepth 20000 in
theorem c_X12_barredBits_60 {S : List xSh} (hS : xpf SH2 S) {g : xG}  (out : Int32) (H : f_X12_barredBits_60  g = some out) : xC mX12_barredBits 0 0 0 0 S [.ref 60] g S (fun r g' => r = some (.int out) ∧ g' = g) := by
  have H : (f_X12_barredBits_60_4 g xN 0 0) = some out := H
  refine xC.of 12 SH2 [some (.ref 60), none, none] hS (by decide +kernel) rfl (fun _ _ => Nat.le_of_ble_eq_true rfl) (fun _ _ => rfl) ?_
  intro k A hR hrm hz
  refine xb A [(.iconst 0, 1, 0, 0, .int 0), (.istore_n 1, 1, 0, 0, .null), (.iconst 0, 1, 0, 0, .int 0), (.istore_n 2, 1, 0, 0, .null)] (pc' := 4) (ls' := [some (.ref 60), some (.int 0), some (.int 0)]) (st' := []) (g' := g) (by decide +kernel) rfl ?_
  exact t_X12_barredBits_60_4 hS A hR hrm hz _ _ _ H
def fp_X12_barredIn_60 : List (Nat × Option Nat) := [(60, some 49), (60, some 52), (60, some 53), (91, none), (92, none), (94, none), (95, none)]
def f_X12_barredIn_60 (p1 : Int32) (g : xG) : Option (Int32 × xG) :=
  if (f_X12_isLong p1) = 0 then
    some ((-1), g)
  else
    (f_X12_copies_60 g).bind fun w1 =>
    (f_X12_goes_60 p1 w1).bind fun w2 =>
    (f_X12_barredBits_60 w2).bind fun w3 =>
    some (w3, w2)
set_option maxRecDepth 20000 in
theorem c_X12_barredIn_60 {S : List xSh} (hS : xpf SH2 S) {g : xG} {p1 : Int32} (out : Int32 × xG) (H : f_X12_barredIn_60 p1 g = some out) : xC mX12_barredIn 9 197 0 0 S [.ref 60, .int p1] g S (fun r g' => r = some (.int out.1) ∧ g' = out.2) := by
  have H : (if (f_X12_isLong p1) = 0 then
  some ((-1), g)
else
  (f_X12_copies_60 g).bind fun w1 =>
  (f_X12_goes_60 p1 w1).bind fun w2 =>
  (f_X12_barredBits_60 w2).bind fun w3 =>
  some (w3, w2)) = some out := H
  refine xC.of 12 SH2 [some (.ref 60), some (.int p1)] hS (by decide +kernel) rfl (fun _ _ => Nat.le_of_ble_eq_true rfl) (fun _ _ => rfl) ?_
  intro k A hR hrm hz
  refine xb A [(.iload_n 1, 1, 0, 0, .null)] (pc' := 1) (ls' := [some (.ref 60), some (.int p1)]) (st' := [.int p1]) (g' := g) (by decide +kernel) rfl ?_
  refine xcallS A (ix := 434) (nxt := 4) hrm hz [.int p1] [] 1825 (c_X12_isLong hS _ rfl) ok_X12_isLong (by decide +kernel) rfl (fun r g1 hq => ?_)
  rw [hq.1, hq.2]
  show xW k S 0 0 4 [some (.ref 60), some (.int p1)] [.int (f_X12_isLong p1)] g
  refine xif_ne A (5) 9 7 (by decide +kernel) (fun h1 => ?_) (fun h1 => ?_)
  · rw [if_neg h1] at H
    refine xb A [(.aload_n 0, 1, 0, 0, .null)] (pc' := 10) (ls' := [some (.ref 60), some (.int p1)]) (st' := [.ref 60]) (g' := g) (by decide +kernel) rfl ?_
    obtain ⟨w1, e1, H⟩ := xbind H
    refine xcallV A (ix := 320) (nxt := 13) hrm hz [] [] 1699 (c_X12_copies_60 hS _ e1) ok_X12_copies (by decide +kernel) rfl (fun r g1 hq => ?_)
    rw [hq.1, hq.2]
    show xW k S 0 0 13 [some (.ref 60), some (.int p1)] [] w1
    refine xb A [(.aload_n 0, 1, 0, 0, .null), (.iload_n 1, 1, 0, 0, .null)] (pc' := 15) (ls' := [some (.ref 60), some (.int p1)]) (st' := [.int p1, .ref 60]) (g' := w1) (by decide +kernel) rfl ?_
    obtain ⟨w2, e2, H⟩ := xbind H
    refine xcallV A (ix := 437) (nxt := 18) hrm hz [.int p1] [] 1828 (c_X12_goes_60 hS _ e2) ok_X12_goes (by decide +kernel) rfl (fun r g1 hq => ?_)
    rw [hq.1, hq.2]
    show xW k S 0 0 18 [some (.ref 60), some (.int p1)] [] w2
    refine xb A [(.aload_n 0, 1, 0, 0, .null)] (pc' := 19) (ls' := [some (.ref 60), some (.int p1)]) (st' := [.ref 60]) (g' := w2) (by decide +kernel) rfl ?_
    obtain ⟨w3, e3, H⟩ := xbind H
    refine xcallV A (ix := 465) (nxt := 22) hrm hz [] [] 2001 (c_X12_barredBits_60 hS _ e3) ok_X12_barredBits (by decide +kernel) rfl (fun r g1 hq => ?_)
    rw [hq.1, hq.2]
    show xW k S 0 0 22 [some (.ref 60), some (.int p1)] [.int w3] w2
    obtain rfl := Option.some.inj H
    exact xret_i A hR hz (by decide +kernel) rfl ⟨rfl, rfl⟩
  · rw [if_pos h1] at H
    refine xb A [(.iconst (-1), 1, 0, 0, .int (-1))] (pc' := 8) (ls' := [some (.ref 60), some (.int p1)]) (st' := [.int (-1)]) (g' := g) (by decide +kernel) rfl ?_
    obtain rfl := Option.some.inj H
    exact xret_i A hR hz (by decide +kernel) rfl ⟨rfl, rfl⟩
theorem fr_X12_barredIn_60 {p1 : Int32} {g : xG} (out : Int32 × xG) (H : f_X12_barredIn_60 p1 g = some out) : xfrm fp_X12_barredIn_60 g (out.2) := by
  have H : (if (f_X12_isLong p1) = 0 then
  some ((-1), g)
else
  (f_X12_copies_60 g).bind fun w1 =>
  (f_X12_goes_60 p1 w1).bind fun w2 =>
  (f_X12_barredBits_60 w2).bind fun w3 =>
  some (w3, w2)) = some out := H
  by_cases h1 : (f_X12_isLong p1) = 0
  · rw [if_pos h1] at H
    obtain rfl := Option.some.inj H
    exact xfrm.rf
  · rw [if_neg h1] at H
    obtain ⟨w1, e1, H⟩ := xbind H
    have hf1 : xfrm fp_X12_barredIn_60 g (w1) := xfrm.tr xfrm.rf (fr_X12_copies_60 _ e1) rfl
    obtain ⟨w2, e2, H⟩ := xbind H
    have hf2 : xfrm fp_X12_barredIn_60 g (w2) := xfrm.tr hf1 (fr_X12_goes_60 _ e2) rfl
    obtain ⟨w3, e3, H⟩ := xbind H
    obtain rfl := Option.some.inj H
    exact hf2
def fp_X12_year_60 : List (Nat × Option Nat) := [(60, some 49), (60, some 52), (60, some 53), (91, none), (92, none), (94, none), (95, none)]
def f_X12_year_60_33  : Nat → Int32 → Int32 → Int32 → Int32 → Int32 → xG → Option (Int32 × xG)
  | 0, _, _, _, _, _, _ => none
  | n + 1, l1, l2, l3, l4, l5, g =>
    if l3 ≤ l5 then
      some (l4, g)
    else
      (f_X12_copies_60 g).bind fun w2 =>
      (f_X12_goes_60 l2 (xupd w2.1 60 52 ((w2.1 60 52) + l5), w2.2)).bind fun w3 =>
      xg (¬ ((18 + l1) < 0 ∨ 40 ≤ (18 + l1).toNatClampNeg)) (
        xg (¬ ((18 + l1) < 0 ∨ 40 ≤ (18 + l1).toNatClampNeg)) (
          if (w3.1 94 (18 + l1).toNatClampNeg) ≤ (w3.1 93 (18 + l1).toNatClampNeg) then
            f_X12_year_60_33 n l1 l2 l3 l4 (l5 + 1) w3
          else
            f_X12_year_60_33 n l1 l2 l3 (l4 + 1) (l5 + 1) w3))
def f_X12_year_60 (p1 : Int32) (p2 : Int32) (p3 : Int32) (g : xG) : Option (Int32 × xG) :=
  (f_X12_isPerson_60 p1 g).bind fun w1 =>
  if w1 = 0 then
    some ((-1), g)
  else
    if (f_X12_isLong p2) = 0 then
      some ((-1), g)
    else
      if (f_X12_in p3 1 20) = 0 then
        some ((-1), g)
      else
        f_X12_year_60_33 xN p1 p2 p3 0 0 g
set_option maxRecDepth 20000 in
theorem t_X12_year_60_33 {k : xK} {S : List xSh} {out : Int32 × xG} (hS : xpf SH2 S) (A : xAt k mX12_year.2.1 12 SH2 S) (hR : xRet k 0 0 S (fun r g' => r = some (.int out.1) ∧ g' = out.2) mX12_year.2.2.2) (hrm : xrm k = { frames := 9, cells := 0, slots := 0, locals := 197 }) (hz : xhs k = xb0 k + S.length)   : ∀ (n : Nat) (l1 : Int32) (l2 : Int32) (l3 : Int32) (l4 : Int32) (l5 : Int32) (g : xG), f_X12_year_60_33 n l1 l2 l3 l4 l5 g = some out → xW k S 0 0 33 [some (.ref 60), some (.int l1), some (.int l2), some (.int l3), some (.int l4), some (.int l5)] [] g := by
  intro n
  induction n with
  | zero => intro l1 l2 l3 l4 l5 g H; exact absurd H (by simp [f_X12_year_60_33])
  | succ n ih =>
    intro l1 l2 l3 l4 l5 g H
    have H : (if l3 ≤ l5 then
  some (l4, g)
else
  (f_X12_copies_60 g).bind fun w2 =>
  (f_X12_goes_60 l2 (xupd w2.1 60 52 ((w2.1 60 52) + l5), w2.2)).bind fun w3 =>
  xg (¬ ((18 + l1) < 0 ∨ 40 ≤ (18 + l1).toNatClampNeg)) (
    xg (¬ ((18 + l1) < 0 ∨ 40 ≤ (18 + l1).toNatClampNeg)) (
      if (w3.1 94 (18 + l1).toNatClampNeg) ≤ (w3.1 93 (18 + l1).toNatClampNeg) then
        f_X12_year_60_33 n l1 l2 l3 l4 (l5 + 1) w3
      else
        f_X12_year_60_33 n l1 l2 l3 (l4 + 1) (l5 + 1) w3))) = some out := H
    refine xb A [(.iload 5, 2, 0, 0, .null), (.iload_n 3, 1, 0, 0, .null)] (pc' := 36) (ls' := [some (.ref 60), some (.int l1), some (.int l2), some (.int l3), some (.int l4), some (.int l5)]) (st' := [.int l3, .int l5]) (g' := g) (by decide +kernel) rfl ?_
    refine xic_ge A (53) 89 39 (by decide +kernel) (fun h4 => ?_) (fun h4 => ?_)
    · rw [if_pos h4] at H
      refine xb A [(.iload 4, 2, 0, 0, .null)] (pc' := 91) (ls' := [some (.ref 60), some (.int l1), some (.int l2), some (.int l3), some (.int l4), some (.int l5)]) (st' := [.int l4]) (g' := g) (by decide +kernel) rfl ?_
      obtain rfl := Option.some.inj H
      exact xret_i A hR hz (by decide +kernel) rfl ⟨rfl, rfl⟩
    · rw [if_neg h4] at H
      refine xb A [(.aload_n 0, 1, 0, 0, .null)] (pc' := 40) (ls' := [some (.ref 60), some (.int l1), some (.int l2), some (.int l3), some (.int l4), some (.int l5)]) (st' := [.ref 60]) (g' := g) (by decide +kernel) rfl ?_
      obtain ⟨w2, e2, H⟩ := xbind H
      refine xcallV A (ix := 320) (nxt := 43) hrm hz [] [] 1699 (c_X12_copies_60 hS _ e2) ok_X12_copies (by decide +kernel) rfl (fun r g1 hq => ?_)
      rw [hq.1, hq.2]
      show xW k S 0 0 43 [some (.ref 60), some (.int l1), some (.int l2), some (.int l3), some (.int l4), some (.int l5)] [] w2
      refine xb A [(.aload_n 0, 1, 0, 0, .null), (.dup, 1, 0, 0, .null), (.getfield 311, 3, 60, 52, .int 0), (.iload 5, 2, 0, 0, .null), (.iadd, 1, 0, 0, .null), (.putfield 311, 3, 60, 52, .int 0), (.aload_n 0, 1, 0, 0, .null), (.iload_n 2, 1, 0, 0, .null)] (pc' := 56) (ls' := [some (.ref 60), some (.int l1), some (.int l2), some (.int l3), some (.int l4), some (.int l5)]) (st' := [.int l2, .ref 60]) (g' := (xupd w2.1 60 52 ((w2.1 60 52) + l5), w2.2)) (by decide +kernel) rfl ?_
      obtain ⟨w3, e3, H⟩ := xbind H
      refine xcallV A (ix := 437) (nxt := 59) hrm hz [.int l2] [] 1828 (c_X12_goes_60 hS _ e3) ok_X12_goes (by decide +kernel) rfl (fun r g1 hq => ?_)
      rw [hq.1, hq.2]
      show xW k S 0 0 59 [some (.ref 60), some (.int l1), some (.int l2), some (.int l3), some (.int l4), some (.int l5)] [] w3
      refine xb A [(.aload_n 0, 1, 0, 0, .null), (.getfield 119, 3, 60, 51, .ref 94), (.bipush 18, 2, 0, 0, .int 18), (.iload_n 1, 1, 0, 0, .null), (.iadd, 1, 0, 0, .null)] (pc' := 67) (ls' := [some (.ref 60), some (.int l1), some (.int l2), some (.int l3), some (.int l4), some (.int l5)]) (st' := [.int (18 + l1), .ref 94]) (g' := w3) (by decide +kernel) rfl ?_
      obtain ⟨h5, H⟩ := xg_elim H
      refine xiald A (nxt := 68) (by decide +kernel) (hS _ _ sh_94) h5 ?_
      show xW k S 0 0 68 [some (.ref 60), some (.int l1), some (.int l2), some (.int l3), some (.int l4), some (.int l5)] [.int (w3.1 94 (18 + l1).toNatClampNeg)] w3
      refine xb A [(.aload_n 0, 1, 0, 0, .null), (.getfield 116, 3, 60, 50, .ref 93), (.bipush 18, 2, 0, 0, .int 18), (.iload_n 1, 1, 0, 0, .null), (.iadd, 1, 0, 0, .null)] (pc' := 76) (ls' := [some (.ref 60), some (.int l1), some (.int l2), some (.int l3), some (.int l4), some (.int l5)]) (st' := [.int (18 + l1), .ref 93, .int (w3.1 94 (18 + l1).toNatClampNeg)]) (g' := w3) (by decide +kernel) rfl ?_
      obtain ⟨h6, H⟩ := xg_elim H
      refine xiald A (nxt := 77) (by decide +kernel) (hS _ _ sh_93) h6 ?_
      show xW k S 0 0 77 [some (.ref 60), some (.int l1), some (.int l2), some (.int l3), some (.int l4), some (.int l5)] [.int (w3.1 93 (18 + l1).toNatClampNeg), .int (w3.1 94 (18 + l1).toNatClampNeg)] w3
      refine xic_le A (6) 83 80 (by decide +kernel) (fun h7 => ?_) (fun h7 => ?_)
      · rw [if_pos h7] at H
        refine xb A [(.iinc 5 1, 3, 0, 0, .null)] (pc' := 86) (ls' := [some (.ref 60), some (.int l1), some (.int l2), some (.int l3), some (.int l4), some (.int (l5 + 1))]) (st' := []) (g' := w3) (by decide +kernel) rfl ?_
        refine xgoto A (-53) 33 (by decide +kernel) ?_
        exact ih _ _ _ _ _ _ H
      · rw [if_neg h7] at H
        refine xb A [(.iinc 4 1, 3, 0, 0, .null), (.iinc 5 1, 3, 0, 0, .null)] (pc' := 86) (ls' := [some (.ref 60), some (.int l1), some (.int l2), some (.int l3), some (.int (l4 + 1)), some (.int (l5 + 1))]) (st' := []) (g' := w3) (by decide +kernel) rfl ?_
        refine xgoto A (-53) 33 (by decide +kernel) ?_
        exact ih _ _ _ _ _ _ H
theorem fr_X12_year_60_33   : ∀ (n : Nat) (l1 : Int32) (l2 : Int32) (l3 : Int32) (l4 : Int32) (l5 : Int32) (g : xG) (out : Int32 × xG), f_X12_year_60_33 n l1 l2 l3 l4 l5 g = some out → xfrm fp_X12_year_60 g (out.2) := by
  intro n
  induction n with
  | zero => intro l1 l2 l3 l4 l5 g out H; exact absurd H (by simp [f_X12_year_60_33])
  | succ n ih =>
    intro l1 l2 l3 l4 l5 g out H
    have H : (if l3 ≤ l5 then
  some (l4, g)
else
  (f_X12_copies_60 g).bind fun w2 =>
  (f_X12_goes_60 l2 (xupd w2.1 60 52 ((w2.1 60 52) + l5), w2.2)).bind fun w3 =>
  xg (¬ ((18 + l1) < 0 ∨ 40 ≤ (18 + l1).toNatClampNeg)) (
    xg (¬ ((18 + l1) < 0 ∨ 40 ≤ (18 + l1).toNatClampNeg)) (
      if (w3.1 94 (18 + l1).toNatClampNeg) ≤ (w3.1 93 (18 + l1).toNatClampNeg) then
        f_X12_year_60_33 n l1 l2 l3 l4 (l5 + 1) w3
      else
        f_X12_year_60_33 n l1 l2 l3 (l4 + 1) (l5 + 1) w3))) = some out := H
    by_cases h4 : l3 ≤ l5
    · rw [if_pos h4] at H
      obtain rfl := Option.some.inj H
      exact xfrm.rf
    · rw [if_neg h4] at H
      obtain ⟨w2, e2, H⟩ := xbind H
      have hf1 : xfrm fp_X12_year_60 g (w2) := xfrm.tr xfrm.rf (fr_X12_copies_60 _ e2) rfl
      have hf2 : xfrm fp_X12_year_60 g ((xupd w2.1 60 52 ((w2.1 60 52) + l5), w2.2)) := xfrm.up hf1 rfl
      obtain ⟨w3, e3, H⟩ := xbind H
      have hf3 : xfrm fp_X12_year_60 g (w3) := xfrm.tr hf2 (fr_X12_goes_60 _ e3) rfl
      obtain ⟨h5, H⟩ := xg_elim H
      obtain ⟨h6, H⟩ := xg_elim H
      by_cases h7 : (w3.1 94 (18 + l1).toNatClampNeg) ≤ (w3.1 93 (18 + l1).toNatClampNeg)
      · rw [if_pos h7] at H
        exact xfrm.tr hf3 (ih _ _ _ _ _ _ _ H) rfl
      · rw [if_neg h7] at H
        exact xfrm.tr hf3 (ih _ _ _ _ _ _ _ H) rfl
set_option maxRecDepth 20000 in
theorem c_X12_year_60 {S : List xSh} (hS : xpf SH2 S) {g : xG} {p1 : Int32} {p2 : Int32} {p3 : Int32} (out : Int32 × xG) (H : f_X12_year_60 p1 p2 p3 g = some out) : xC mX12_year 9 197 0 0 S [.ref 60, .int p1, .int p2, .int p3] g S (fun r g' => r = some (.int out.1) ∧ g' = out.2) := by
  have H : ((f_X12_isPerson_60 p1 g).bind fun w1 =>
if w1 = 0 then
  some ((-1), g)
else
  if (f_X12_isLong p2) = 0 then
    some ((-1), g)
  else
    if (f_X12_in p3 1 20) = 0 then
      some ((-1), g)
    else
      f_X12_year_60_33 xN p1 p2 p3 0 0 g) = some out := H
  refine xC.of 12 SH2 [some (.ref 60), some (.int p1), some (.int p2), some (.int p3), none, none] hS (by decide +kernel) rfl (fun _ _ => Nat.le_of_ble_eq_true rfl) (fun _ _ => rfl) ?_
  intro k A hR hrm hz
  refine xb A [(.aload_n 0, 1, 0, 0, .null), (.iload_n 1, 1, 0, 0, .null)] (pc' := 2) (ls' := [some (.ref 60), some (.int p1), some (.int p2), some (.int p3), none, none]) (st' := [.int p1, .ref 60]) (g' := g) (by decide +kernel) rfl ?_
  obtain ⟨w1, e1, H⟩ := xbind H
  refine xcallV A (ix := 425) (nxt := 5) hrm hz [.int p1] [] 1739 (c_X12_isPerson_60 hS _ e1) ok_X12_isPerson (by decide +kernel) rfl (fun r g1 hq => ?_)
  rw [hq.1, hq.2]
  show xW k S 0 0 5 [some (.ref 60), some (.int p1), some (.int p2), some (.int p3), none, none] [.int w1] g
  refine xif_eq A (20) 25 8 (by decide +kernel) (fun h1 => ?_) (fun h1 => ?_)
  · rw [if_pos h1] at H
    refine xb A [(.iconst (-1), 1, 0, 0, .int (-1))] (pc' := 26) (ls' := [some (.ref 60), some (.int p1), some (.int p2), some (.int p3), none, none]) (st' := [.int (-1)]) (g' := g) (by decide +kernel) rfl ?_
    obtain rfl := Option.some.inj H
    exact xret_i A hR hz (by decide +kernel) rfl ⟨rfl, rfl⟩
  · rw [if_neg h1] at H
    refine xb A [(.iload_n 2, 1, 0, 0, .null)] (pc' := 9) (ls' := [some (.ref 60), some (.int p1), some (.int p2), some (.int p3), none, none]) (st' := [.int p2]) (g' := g) (by decide +kernel) rfl ?_
    refine xcallS A (ix := 434) (nxt := 12) hrm hz [.int p2] [] 1825 (c_X12_isLong hS _ rfl) ok_X12_isLong (by decide +kernel) rfl (fun r g1 hq => ?_)
    rw [hq.1, hq.2]
    show xW k S 0 0 12 [some (.ref 60), some (.int p1), some (.int p2), some (.int p3), none, none] [.int (f_X12_isLong p2)] g
    refine xif_eq A (13) 25 15 (by decide +kernel) (fun h2 => ?_) (fun h2 => ?_)
    · rw [if_pos h2] at H
      refine xb A [(.iconst (-1), 1, 0, 0, .int (-1))] (pc' := 26) (ls' := [some (.ref 60), some (.int p1), some (.int p2), some (.int p3), none, none]) (st' := [.int (-1)]) (g' := g) (by decide +kernel) rfl ?_
      obtain rfl := Option.some.inj H
      exact xret_i A hR hz (by decide +kernel) rfl ⟨rfl, rfl⟩
    · rw [if_neg h2] at H
      refine xb A [(.iload_n 3, 1, 0, 0, .null), (.iconst 1, 1, 0, 0, .int 1), (.bipush 20, 2, 0, 0, .int 20)] (pc' := 19) (ls' := [some (.ref 60), some (.int p1), some (.int p2), some (.int p3), none, none]) (st' := [.int 20, .int 1, .int p3]) (g' := g) (by decide +kernel) rfl ?_
      refine xcallS A (ix := 307) (nxt := 22) hrm hz [.int p3, .int 1, .int 20] [] 1696 (c_X12_in hS _ rfl) ok_X12_in (by decide +kernel) rfl (fun r g1 hq => ?_)
      rw [hq.1, hq.2]
      show xW k S 0 0 22 [some (.ref 60), some (.int p1), some (.int p2), some (.int p3), none, none] [.int (f_X12_in p3 1 20)] g
      refine xif_ne A (5) 27 25 (by decide +kernel) (fun h3 => ?_) (fun h3 => ?_)
      · rw [if_neg h3] at H
        refine xb A [(.iconst 0, 1, 0, 0, .int 0), (.istore 4, 2, 0, 0, .null), (.iconst 0, 1, 0, 0, .int 0), (.istore 5, 2, 0, 0, .null)] (pc' := 33) (ls' := [some (.ref 60), some (.int p1), some (.int p2), some (.int p3), some (.int 0), some (.int 0)]) (st' := []) (g' := g) (by decide +kernel) rfl ?_
        exact t_X12_year_60_33 hS A hR hrm hz _ _ _ _ _ _ _ H
      · rw [if_pos h3] at H
        refine xb A [(.iconst (-1), 1, 0, 0, .int (-1))] (pc' := 26) (ls' := [some (.ref 60), some (.int p1), some (.int p2), some (.int p3), none, none]) (st' := [.int (-1)]) (g' := g) (by decide +kernel) rfl ?_
        obtain rfl := Option.some.inj H
        exact xret_i A hR hz (by decide +kernel) rfl ⟨rfl, rfl⟩
theorem fr_X12_year_60 {p1 : Int32} {p2 : Int32} {p3 : Int32} {g : xG} (out : Int32 × xG) (H : f_X12_year_60 p1 p2 p3 g = some out) : xfrm fp_X12_year_60 g (out.2) := by
  have H : ((f_X12_isPerson_60 p1 g).bind fun w1 =>
if w1 = 0 then
  some ((-1), g)
else
  if (f_X12_isLong p2) = 0 then
    some ((-1), g)
  else
    if (f_X12_in p3 1 20) = 0 then
      some ((-1), g)
    else
      f_X12_year_60_33 xN p1 p2 p3 0 0 g) = some out := H
  obtain ⟨w1, e1, H⟩ := xbind H
  by_cases h1 : w1 = 0
  · rw [if_pos h1] at H
    obtain rfl := Option.some.inj H
    exact xfrm.rf
  · rw [if_neg h1] at H
    by_cases h2 : (f_X12_isLong p2) = 0
    · rw [if_pos h2] at H
      obtain rfl := Option.some.inj H
      exact xfrm.rf
    · rw [if_neg h2] at H
      by_cases h3 : (f_X12_in p3 1 20) = 0
      · rw [if_pos h3] at H
        obtain rfl := Option.some.inj H
        exact xfrm.rf
      · rw [if_neg h3] at H
        exact xfrm.tr xfrm.rf (fr_X12_year_60_33 _ _ _ _ _ _ _ _ H) rfl
def f_X12_isStrokes (p0 : Int32) : Int32 :=
  f_X12_in p0 0 999
set_option maxRecDepth 20000 in
theorem c_X12_isStrokes {S : List xSh} (hS : xpf SH2 S) {g : xG} {p0 : Int32} (out : Int32) (H : f_X12_isStrokes p0 = out) : xC mX12_isStrokes 1 22 0 0 S [.int p0] g S (fun r g' => r = some (.int out) ∧ g' = g) := by
  have H : (f_X12_in p0 0 999) = out := H
  refine xC.of 12 SH2 [some (.int p0)] hS (by decide +kernel) rfl (fun _ _ => Nat.le_of_ble_eq_true rfl) (fun _ _ => rfl) ?_
  intro k A hR hrm hz
  refine xb A [(.iload_n 0, 1, 0, 0, .null), (.iconst 0, 1, 0, 0, .int 0), (.sipush 999, 3, 0, 0, .int 999)] (pc' := 5) (ls' := [some (.int p0)]) (st' := [.int 999, .int 0, .int p0]) (g' := g) (by decide +kernel) rfl ?_
  refine xcallS A (ix := 307) (nxt := 8) hrm hz [.int p0, .int 0, .int 999] [] 1696 (c_X12_in hS _ rfl) ok_X12_in (by decide +kernel) rfl (fun r g1 hq => ?_)
  rw [hq.1, hq.2]
  show xW k S 0 0 8 [some (.int p0)] [.int (f_X12_in p0 0 999)] g
  subst H
  exact xret_i A hR hz (by decide +kernel) (by unfold f_X12_in; repeat' (first | rfl | split)) ⟨rfl, rfl⟩
def fp_X12_tell_60 : List (Nat × Option Nat) := [(60, some 58), (98, none), (99, none)]
def f_X12_tell_60 (p1 : Int32) (p2 : Int32) (g : xG) : Option (Int32 × xG) :=
  if (g.1 60 58) = 20 then
    some ((-1), g)
  else
    if (f_X12_isStrokes p1) = 0 then
      some ((-1), g)
    else
      xg (¬ ((g.1 60 58) < 0 ∨ 20 ≤ (g.1 60 58).toNatClampNeg)) (
        xg (¬ ((g.1 60 58) < 0 ∨ 20 ≤ (g.1 60 58).toNatClampNeg)) (
          some (((g.1 60 58) + 1) - 1, (xupd (xupd (xupd g.1 98 (g.1 60 58).toNatClampNeg p1) 99 (g.1 60 58).toNatClampNeg (p2 &&& 1)) 60 58 ((g.1 60 58) + 1), g.2))))
set_option maxRecDepth 20000 in
theorem c_X12_tell_60 {S : List xSh} (hS : xpf SH2 S) {g : xG} {p1 : Int32} {p2 : Int32} (out : Int32 × xG) (H : f_X12_tell_60 p1 p2 g = some out) : xC mX12_tell 2 42 0 0 S [.ref 60, .int p1, .int p2] g S (fun r g' => r = some (.int out.1) ∧ g' = out.2) := by
  have H : (if (g.1 60 58) = 20 then
  some ((-1), g)
else
  if (f_X12_isStrokes p1) = 0 then
    some ((-1), g)
  else
    xg (¬ ((g.1 60 58) < 0 ∨ 20 ≤ (g.1 60 58).toNatClampNeg)) (
      xg (¬ ((g.1 60 58) < 0 ∨ 20 ≤ (g.1 60 58).toNatClampNeg)) (
        some (((g.1 60 58) + 1) - 1, (xupd (xupd (xupd g.1 98 (g.1 60 58).toNatClampNeg p1) 99 (g.1 60 58).toNatClampNeg (p2 &&& 1)) 60 58 ((g.1 60 58) + 1), g.2))))) = some out := H
  refine xC.of 12 SH2 [some (.ref 60), some (.int p1), some (.int p2)] hS (by decide +kernel) rfl (fun _ _ => Nat.le_of_ble_eq_true rfl) (fun _ _ => rfl) ?_
  intro k A hR hrm hz
  refine xb A [(.aload_n 0, 1, 0, 0, .null), (.getfield 248, 3, 60, 58, .int 0), (.bipush 20, 2, 0, 0, .int 20)] (pc' := 6) (ls' := [some (.ref 60), some (.int p1), some (.int p2)]) (st' := [.int 20, .int (g.1 60 58)]) (g' := g) (by decide +kernel) rfl ?_
  refine xic_eq A (10) 16 9 (by decide +kernel) (fun h1 => ?_) (fun h1 => ?_)
  · rw [if_pos h1] at H
    refine xb A [(.iconst (-1), 1, 0, 0, .int (-1))] (pc' := 17) (ls' := [some (.ref 60), some (.int p1), some (.int p2)]) (st' := [.int (-1)]) (g' := g) (by decide +kernel) rfl ?_
    obtain rfl := Option.some.inj H
    exact xret_i A hR hz (by decide +kernel) rfl ⟨rfl, rfl⟩
  · rw [if_neg h1] at H
    refine xb A [(.iload_n 1, 1, 0, 0, .null)] (pc' := 10) (ls' := [some (.ref 60), some (.int p1), some (.int p2)]) (st' := [.int p1]) (g' := g) (by decide +kernel) rfl ?_
    refine xcallS A (ix := 468) (nxt := 13) hrm hz [.int p1] [] 2013 (c_X12_isStrokes hS _ rfl) ok_X12_isStrokes (by decide +kernel) rfl (fun r g1 hq => ?_)
    rw [hq.1, hq.2]
    show xW k S 0 0 13 [some (.ref 60), some (.int p1), some (.int p2)] [.int (f_X12_isStrokes p1)] g
    refine xif_ne A (5) 18 16 (by decide +kernel) (fun h2 => ?_) (fun h2 => ?_)
    · rw [if_neg h2] at H
      refine xb A [(.aload_n 0, 1, 0, 0, .null), (.getfield 131, 3, 60, 59, .ref 98), (.aload_n 0, 1, 0, 0, .null), (.getfield 248, 3, 60, 58, .int 0), (.iload_n 1, 1, 0, 0, .null)] (pc' := 27) (ls' := [some (.ref 60), some (.int p1), some (.int p2)]) (st' := [.int p1, .int (g.1 60 58), .ref 98]) (g' := g) (by decide +kernel) rfl ?_
      obtain ⟨h3, H⟩ := xg_elim H
      refine xiast A (nxt := 28) (by decide +kernel) (hS _ _ sh_98) h3 ?_
      show xW k S 0 0 28 [some (.ref 60), some (.int p1), some (.int p2)] [] (xupd g.1 98 (g.1 60 58).toNatClampNeg p1, g.2)
      refine xb A [(.aload_n 0, 1, 0, 0, .null), (.getfield 134, 3, 60, 60, .ref 99), (.aload_n 0, 1, 0, 0, .null), (.getfield 248, 3, 60, 58, .int 0), (.iload_n 2, 1, 0, 0, .null)] (pc' := 37) (ls' := [some (.ref 60), some (.int p1), some (.int p2)]) (st' := [.int p2, .int (g.1 60 58), .ref 99]) (g' := (xupd g.1 98 (g.1 60 58).toNatClampNeg p1, g.2)) (by decide +kernel) rfl ?_
      obtain ⟨h4, H⟩ := xg_elim H
      refine xzast A (nxt := 38) (by decide +kernel) (hS _ _ sh_99) h4 ?_
      show xW k S 0 0 38 [some (.ref 60), some (.int p1), some (.int p2)] [] (xupd (xupd g.1 98 (g.1 60 58).toNatClampNeg p1) 99 (g.1 60 58).toNatClampNeg (p2 &&& 1), g.2)
      refine xb A [(.aload_n 0, 1, 0, 0, .null), (.dup, 1, 0, 0, .null), (.getfield 248, 3, 60, 58, .int 0), (.iconst 1, 1, 0, 0, .int 1), (.iadd, 1, 0, 0, .null), (.putfield 248, 3, 60, 58, .int 0), (.aload_n 0, 1, 0, 0, .null), (.getfield 248, 3, 60, 58, .int 0), (.iconst 1, 1, 0, 0, .int 1), (.isub, 1, 0, 0, .null)] (pc' := 54) (ls' := [some (.ref 60), some (.int p1), some (.int p2)]) (st' := [.int (((g.1 60 58) + 1) - 1)]) (g' := (xupd (xupd (xupd g.1 98 (g.1 60 58).toNatClampNeg p1) 99 (g.1 60 58).toNatClampNeg (p2 &&& 1)) 60 58 ((g.1 60 58) + 1), g.2)) (by decide +kernel) rfl ?_
      obtain rfl := Option.some.inj H
      exact xret_i A hR hz (by decide +kernel) rfl ⟨rfl, rfl⟩
    · rw [if_pos h2] at H
      refine xb A [(.iconst (-1), 1, 0, 0, .int (-1))] (pc' := 17) (ls' := [some (.ref 60), some (.int p1), some (.int p2)]) (st' := [.int (-1)]) (g' := g) (by decide +kernel) rfl ?_
      obtain rfl := Option.some.inj H
      exact xret_i A hR hz (by decide +kernel) rfl ⟨rfl, rfl⟩
theorem fr_X12_tell_60 {p1 : Int32} {p2 : Int32} {g : xG} (out : Int32 × xG) (H : f_X12_tell_60 p1 p2 g = some out) : xfrm fp_X12_tell_60 g (out.2) := by
  have H : (if (g.1 60 58) = 20 then
  some ((-1), g)
else
  if (f_X12_isStrokes p1) = 0 then
    some ((-1), g)
  else
    xg (¬ ((g.1 60 58) < 0 ∨ 20 ≤ (g.1 60 58).toNatClampNeg)) (
      xg (¬ ((g.1 60 58) < 0 ∨ 20 ≤ (g.1 60 58).toNatClampNeg)) (
        some (((g.1 60 58) + 1) - 1, (xupd (xupd (xupd g.1 98 (g.1 60 58).toNatClampNeg p1) 99 (g.1 60 58).toNatClampNeg (p2 &&& 1)) 60 58 ((g.1 60 58) + 1), g.2))))) = some out := H
  by_cases h1 : (g.1 60 58) = 20
  · rw [if_pos h1] at H
    obtain rfl := Option.some.inj H
    exact xfrm.rf
  · rw [if_neg h1] at H
    by_cases h2 : (f_X12_isStrokes p1) = 0
    · rw [if_pos h2] at H
      obtain rfl := Option.some.inj H
      exact xfrm.rf
    · rw [if_neg h2] at H
      obtain ⟨h3, H⟩ := xg_elim H
      have hf1 : xfrm fp_X12_tell_60 g ((xupd g.1 98 (g.1 60 58).toNatClampNeg p1, g.2)) := xfrm.ua xfrm.rf rfl
      obtain ⟨h4, H⟩ := xg_elim H
      have hf2 : xfrm fp_X12_tell_60 g ((xupd (xupd g.1 98 (g.1 60 58).toNatClampNeg p1) 99 (g.1 60 58).toNatClampNeg (p2 &&& 1), g.2)) := xfrm.ua hf1 rfl
      have hf3 : xfrm fp_X12_tell_60 g ((xupd (xupd (xupd g.1 98 (g.1 60 58).toNatClampNeg p1) 99 (g.1 60 58).toNatClampNeg (p2 &&& 1)) 60 58 ((g.1 60 58) + 1), g.2)) := xfrm.up hf2 rfl
      obtain rfl := Option.some.inj H
      exact hf3
def fp_X12_forget_60 : List (Nat × Option Nat) := [(60, some 58)]
def f_X12_forget_60  (g : xG) : Int32 × xG :=
  (g.1 60 58, (xupd g.1 60 58 0, g.2))
set_option maxRecDepth 20000 in
theorem c_X12_forget_60 {S : List xSh} (hS : xpf SH2 S) {g : xG}  (out : Int32 × xG) (H : f_X12_forget_60  g = out) : xC mX12_forget 0 0 0 0 S [.ref 60] g S (fun r g' => r = some (.int out.1) ∧ g' = out.2) := by
  have H : ((g.1 60 58, (xupd g.1 60 58 0, g.2))) = out := H
  refine xC.of 12 SH2 [some (.ref 60), none] hS (by decide +kernel) rfl (fun _ _ => Nat.le_of_ble_eq_true rfl) (fun _ _ => rfl) ?_
  intro k A hR hrm hz
  refine xb A [(.aload_n 0, 1, 0, 0, .null), (.getfield 248, 3, 60, 58, .int 0), (.istore_n 1, 1, 0, 0, .null), (.aload_n 0, 1, 0, 0, .null), (.iconst 0, 1, 0, 0, .int 0), (.putfield 248, 3, 60, 58, .int 0), (.iload_n 1, 1, 0, 0, .null)] (pc' := 11) (ls' := [some (.ref 60), some (.int (g.1 60 58))]) (st' := [.int (g.1 60 58)]) (g' := (xupd g.1 60 58 0, g.2)) (by decide +kernel) rfl ?_
  subst H
  exact xret_i A hR hz (by decide +kernel) rfl ⟨rfl, rfl⟩
theorem fr_X12_forget_60  {g : xG} (out : Int32 × xG) (H : f_X12_forget_60  g = out) : xfrm fp_X12_forget_60 g (out.2) := by
  have H : ((g.1 60 58, (xupd g.1 60 58 0, g.2))) = out := H
  have hf1 : xfrm fp_X12_forget_60 g ((xupd g.1 60 58 0, g.2)) := xfrm.up xfrm.rf rfl
  subst H
  exact hf1
def fp_X12_whenceBits_60 : List (Nat × Option Nat) := [(60, some 49), (60, some 52), (60, some 53), (91, none), (92, none), (94, none), (95, none), (100, none)]
def f_X12_whenceBits_60_47 (k9 : Int32 → Int32 → Int32 → Int32 → xG → Option (Int32 × xG)) : Nat → Int32 → Int32 → Int32 → Int32 → Int32 → Int32 → xG → Option (Int32 × xG)
  | 0, _, _, _, _, _, _, _ => none
  | n + 1, l1, l2, l3, l4, l5, l6, g =>
    if l1 ≤ l6 then
      if l5 = 0 then
        k9 l1 l2 l3 (l4 + 1) g
      else
        k9 l1 l2 (l3 ||| ((1 : Int32) <<< (l4 &&& 31))) (l4 + 1) g
    else
      xg (¬ (l4 < 0 ∨ 7 ≤ l4.toNatClampNeg)) (
        xg (¬ (l6 < 0 ∨ 20 ≤ l6.toNatClampNeg)) (
          if (g.1 100 l4.toNatClampNeg) < (g.1 98 l6.toNatClampNeg) then
            xg (¬ (l6 < 0 ∨ 20 ≤ l6.toNatClampNeg)) (
              if 0 = (g.1 99 l6.toNatClampNeg) then
                f_X12_whenceBits_60_47 k9 n l1 l2 l3 l4 l5 (l6 + 1) g
              else
                f_X12_whenceBits_60_47 k9 n l1 l2 l3 l4 0 (l6 + 1) g)
          else
            xg (¬ (l6 < 0 ∨ 20 ≤ l6.toNatClampNeg)) (
              if 1 = (g.1 99 l6.toNatClampNeg) then
                f_X12_whenceBits_60_47 k9 n l1 l2 l3 l4 l5 (l6 + 1) g
              else
                f_X12_whenceBits_60_47 k9 n l1 l2 l3 l4 0 (l6 + 1) g)))
def f_X12_whenceBits_60_9  : Nat → Int32 → Int32 → Int32 → Int32 → xG → Option (Int32 × xG)
  | 0, _, _, _, _, _ => none
  | n + 1, l1, l2, l3, l4, g =>
    xg (¬ ((g.1 60 18) < 0 ∨ 2 ≤ (g.1 60 18).toNatClampNeg)) (
      if (g.1 70 (g.1 60 18).toNatClampNeg) ≤ l4 then
        some (l3, g)
      else
        (f_X12_farFrom_60 l4 g).bind fun w2 =>
        (f_X12_strokesBy_60 l2 w2 g).bind fun w3 =>
        xg (¬ (l4 < 0 ∨ 7 ≤ l4.toNatClampNeg)) (
          f_X12_whenceBits_60_47 (f_X12_whenceBits_60_9 n) xN l1 l2 l3 l4 1 0 (xupd w3.2.1 100 l4.toNatClampNeg w3.1, w3.2.2)))
def f_X12_whenceBits_60 (p1 : Int32) (p2 : Int32) (g : xG) : Option (Int32 × xG) :=
  (f_X12_copies_60 g).bind fun w1 =>
  f_X12_whenceBits_60_9 xN p1 p2 0 0 w1
set_option maxRecDepth 20000 in
theorem t_X12_whenceBits_60_47 {k : xK} {S : List xSh} {out : Int32 × xG} (hS : xpf SH2 S) (A : xAt k mX12_whenceBits.2.1 12 SH2 S) (hR : xRet k 0 0 S (fun r g' => r = some (.int out.1) ∧ g' = out.2) mX12_whenceBits.2.2.2) (hrm : xrm k = { frames := 6, cells := 0, slots := 0, locals := 133 }) (hz : xhs k = xb0 k + S.length) {k9 : Int32 → Int32 → Int32 → Int32 → xG → Option (Int32 × xG)} (hk9 : ∀ (l1 : Int32) (l2 : Int32) (l3 : Int32) (l4 : Int32) (g : xG), k9 l1 l2 l3 l4 g = some out → xW k S 0 0 9 [some (.ref 60), some (.int l1), some (.int l2), some (.int l3), some (.int l4), none, none] [] g) : ∀ (n : Nat) (l1 : Int32) (l2 : Int32) (l3 : Int32) (l4 : Int32) (l5 : Int32) (l6 : Int32) (g : xG), f_X12_whenceBits_60_47 k9 n l1 l2 l3 l4 l5 l6 g = some out → xW k S 0 0 47 [some (.ref 60), some (.int l1), some (.int l2), some (.int l3), some (.int l4), some (.int l5), some (.int l6)] [] g := by
  intro n
  induction n with
  | zero => intro l1 l2 l3 l4 l5 l6 g H; exact absurd H (by simp [f_X12_whenceBits_60_47])
  | succ n ih =>
    intro l1 l2 l3 l4 l5 l6 g H
    have H : (if l1 ≤ l6 then
  if l5 = 0 then
    k9 l1 l2 l3 (l4 + 1) g
  else
    k9 l1 l2 (l3 ||| ((1 : Int32) <<< (l4 &&& 31))) (l4 + 1) g
else
  xg (¬ (l4 < 0 ∨ 7 ≤ l4.toNatClampNeg)) (
    xg (¬ (l6 < 0 ∨ 20 ≤ l6.toNatClampNeg)) (
      if (g.1 100 l4.toNatClampNeg) < (g.1 98 l6.toNatClampNeg) then
        xg (¬ (l6 < 0 ∨ 20 ≤ l6.toNatClampNeg)) (
          if 0 = (g.1 99 l6.toNatClampNeg) then
            f_X12_whenceBits_60_47 k9 n l1 l2 l3 l4 l5 (l6 + 1) g
          else
            f_X12_whenceBits_60_47 k9 n l1 l2 l3 l4 0 (l6 + 1) g)
      else
        xg (¬ (l6 < 0 ∨ 20 ≤ l6.toNatClampNeg)) (
          if 1 = (g.1 99 l6.toNatClampNeg) then
            f_X12_whenceBits_60_47 k9 n l1 l2 l3 l4 l5 (l6 + 1) g
          else
            f_X12_whenceBits_60_47 k9 n l1 l2 l3 l4 0 (l6 + 1) g)))) = some out := H
    refine xb A [(.iload 6, 2, 0, 0, .null), (.iload_n 1, 1, 0, 0, .null)] (pc' := 50) (ls' := [some (.ref 60), some (.int l1), some (.int l2), some (.int l3), some (.int l4), some (.int l5), some (.int l6)]) (st' := [.int l1, .int l6]) (g' := g) (by decide +kernel) rfl ?_
    refine xic_ge A (44) 94 53 (by decide +kernel) (fun h4 => ?_) (fun h4 => ?_)
    · rw [if_pos h4] at H
      refine xb A [(.iload 5, 2, 0, 0, .null)] (pc' := 96) (ls' := [some (.ref 60), some (.int l1), some (.int l2), some (.int l3), some (.int l4), some (.int l5), some (.int l6)]) (st' := [.int l5]) (g' := g) (by decide +kernel) rfl ?_
      refine xif_eq A (10) 106 99 (by decide +kernel) (fun h5 => ?_) (fun h5 => ?_)
      · rw [if_pos h5] at H
        refine xb A [(.iinc 4 1, 3, 0, 0, .null)] (pc' := 109) (ls' := [some (.ref 60), some (.int l1), some (.int l2), some (.int l3), some (.int (l4 + 1)), some (.int l5), some (.int l6)]) (st' := []) (g' := g) (by decide +kernel) rfl ?_
        refine xgoto A (-100) 9 (by decide +kernel) ?_
        refine xweak (ls' := [some (.ref 60), some (.int l1), some (.int l2), some (.int l3), some (.int (l4 + 1)), none, none]) (by exact ⟨rfl, ⟨rfl, ⟨rfl, ⟨rfl, ⟨rfl, trivial⟩⟩⟩⟩⟩) ?_
        exact hk9 _ _ _ _ _ H
      · rw [if_neg h5] at H
        refine xb A [(.iload_n 3, 1, 0, 0, .null), (.iconst 1, 1, 0, 0, .int 1), (.iload 4, 2, 0, 0, .null), (.ishl, 1, 0, 0, .null), (.ior, 1, 0, 0, .null), (.istore_n 3, 1, 0, 0, .null), (.iinc 4 1, 3, 0, 0, .null)] (pc' := 109) (ls' := [some (.ref 60), some (.int l1), some (.int l2), some (.int (l3 ||| ((1 : Int32) <<< (l4 &&& 31)))), some (.int (l4 + 1)), some (.int l5), some (.int l6)]) (st' := []) (g' := g) (by decide +kernel) rfl ?_
        refine xgoto A (-100) 9 (by decide +kernel) ?_
        refine xweak (ls' := [some (.ref 60), some (.int l1), some (.int l2), some (.int (l3 ||| ((1 : Int32) <<< (l4 &&& 31)))), some (.int (l4 + 1)), none, none]) (by exact ⟨rfl, ⟨rfl, ⟨rfl, ⟨rfl, ⟨rfl, trivial⟩⟩⟩⟩⟩) ?_
        exact hk9 _ _ _ _ _ H
    · rw [if_neg h4] at H
      refine xb A [(.aload_n 0, 1, 0, 0, .null), (.getfield 137, 3, 60, 61, .ref 100), (.iload 4, 2, 0, 0, .null)] (pc' := 59) (ls' := [some (.ref 60), some (.int l1), some (.int l2), some (.int l3), some (.int l4), some (.int l5), some (.int l6)]) (st' := [.int l4, .ref 100]) (g' := g) (by decide +kernel) rfl ?_
      obtain ⟨h6, H⟩ := xg_elim H
      refine xiald A (nxt := 60) (by decide +kernel) (hS _ _ sh_100) h6 ?_
      show xW k S 0 0 60 [some (.ref 60), some (.int l1), some (.int l2), some (.int l3), some (.int l4), some (.int l5), some (.int l6)] [.int (g.1 100 l4.toNatClampNeg)] g
      refine xb A [(.aload_n 0, 1, 0, 0, .null), (.getfield 131, 3, 60, 59, .ref 98), (.iload 6, 2, 0, 0, .null)] (pc' := 66) (ls' := [some (.ref 60), some (.int l1), some (.int l2), some (.int l3), some (.int l4), some (.int l5), some (.int l6)]) (st' := [.int l6, .ref 98, .int (g.1 100 l4.toNatClampNeg)]) (g' := g) (by decide +kernel) rfl ?_
      obtain ⟨h7, H⟩ := xg_elim H
      refine xiald A (nxt := 67) (by decide +kernel) (hS _ _ sh_98) h7 ?_
      show xW k S 0 0 67 [some (.ref 60), some (.int l1), some (.int l2), some (.int l3), some (.int l4), some (.int l5), some (.int l6)] [.int (g.1 98 l6.toNatClampNeg), .int (g.1 100 l4.toNatClampNeg)] g
      refine xic_lt A (7) 74 70 (by decide +kernel) (fun h8 => ?_) (fun h8 => ?_)
      · rw [if_pos h8] at H
        refine xb A [(.iconst 0, 1, 0, 0, .int 0), (.aload_n 0, 1, 0, 0, .null), (.getfield 134, 3, 60, 60, .ref 99), (.iload 6, 2, 0, 0, .null)] (pc' := 81) (ls' := [some (.ref 60), some (.int l1), some (.int l2), some (.int l3), some (.int l4), some (.int l5), some (.int l6)]) (st' := [.int l6, .ref 99, .int 0]) (g' := g) (by decide +kernel) rfl ?_
        obtain ⟨h9, H⟩ := xg_elim H
        refine xzald A (nxt := 82) (by decide +kernel) (hS _ _ sh_99) h9 ?_
        show xW k S 0 0 82 [some (.ref 60), some (.int l1), some (.int l2), some (.int l3), some (.int l4), some (.int l5), some (.int l6)] [.int (g.1 99 l6.toNatClampNeg), .int 0] g
        refine xic_eq A (6) 88 85 (by decide +kernel) (fun h10 => ?_) (fun h10 => ?_)
        · rw [if_pos h10] at H
          refine xb A [(.iinc 6 1, 3, 0, 0, .null)] (pc' := 91) (ls' := [some (.ref 60), some (.int l1), some (.int l2), some (.int l3), some (.int l4), some (.int l5), some (.int (l6 + 1))]) (st' := []) (g' := g) (by decide +kernel) rfl ?_
          refine xgoto A (-44) 47 (by decide +kernel) ?_
          exact ih _ _ _ _ _ _ _ H
        · rw [if_neg h10] at H
          refine xb A [(.iconst 0, 1, 0, 0, .int 0), (.istore 5, 2, 0, 0, .null), (.iinc 6 1, 3, 0, 0, .null)] (pc' := 91) (ls' := [some (.ref 60), some (.int l1), some (.int l2), some (.int l3), some (.int l4), some (.int 0), some (.int (l6 + 1))]) (st' := []) (g' := g) (by decide +kernel) rfl ?_
          refine xgoto A (-44) 47 (by decide +kernel) ?_
          exact ih _ _ _ _ _ _ _ H
      · rw [if_neg h8] at H
        refine xb A [(.iconst 1, 1, 0, 0, .int 1)] (pc' := 71) (ls' := [some (.ref 60), some (.int l1), some (.int l2), some (.int l3), some (.int l4), some (.int l5), some (.int l6)]) (st' := [.int 1]) (g' := g) (by decide +kernel) rfl ?_
        refine xgoto A (4) 75 (by decide +kernel) ?_
        refine xb A [(.aload_n 0, 1, 0, 0, .null), (.getfield 134, 3, 60, 60, .ref 99), (.iload 6, 2, 0, 0, .null)] (pc' := 81) (ls' := [some (.ref 60), some (.int l1), some (.int l2), some (.int l3), some (.int l4), some (.int l5), some (.int l6)]) (st' := [.int l6, .ref 99, .int 1]) (g' := g) (by decide +kernel) rfl ?_
        obtain ⟨h11, H⟩ := xg_elim H
        refine xzald A (nxt := 82) (by decide +kernel) (hS _ _ sh_99) h11 ?_
        show xW k S 0 0 82 [some (.ref 60), some (.int l1), some (.int l2), some (.int l3), some (.int l4), some (.int l5), some (.int l6)] [.int (g.1 99 l6.toNatClampNeg), .int 1] g
        refine xic_eq A (6) 88 85 (by decide +kernel) (fun h12 => ?_) (fun h12 => ?_)
        · rw [if_pos h12] at H
          refine xb A [(.iinc 6 1, 3, 0, 0, .null)] (pc' := 91) (ls' := [some (.ref 60), some (.int l1), some (.int l2), some (.int l3), some (.int l4), some (.int l5), some (.int (l6 + 1))]) (st' := []) (g' := g) (by decide +kernel) rfl ?_
          refine xgoto A (-44) 47 (by decide +kernel) ?_
          exact ih _ _ _ _ _ _ _ H
        · rw [if_neg h12] at H
          refine xb A [(.iconst 0, 1, 0, 0, .int 0), (.istore 5, 2, 0, 0, .null), (.iinc 6 1, 3, 0, 0, .null)] (pc' := 91) (ls' := [some (.ref 60), some (.int l1), some (.int l2), some (.int l3), some (.int l4), some (.int 0), some (.int (l6 + 1))]) (st' := []) (g' := g) (by decide +kernel) rfl ?_
          refine xgoto A (-44) 47 (by decide +kernel) ?_
          exact ih _ _ _ _ _ _ _ H
theorem fr_X12_whenceBits_60_47 {k9 : Int32 → Int32 → Int32 → Int32 → xG → Option (Int32 × xG)} (hk9 : ∀ (l1 : Int32) (l2 : Int32) (l3 : Int32) (l4 : Int32) (g : xG) (out : Int32 × xG), k9 l1 l2 l3 l4 g = some out → xfrm fp_X12_whenceBits_60 g (out.2)) : ∀ (n : Nat) (l1 : Int32) (l2 : Int32) (l3 : Int32) (l4 : Int32) (l5 : Int32) (l6 : Int32) (g : xG) (out : Int32 × xG), f_X12_whenceBits_60_47 k9 n l1 l2 l3 l4 l5 l6 g = some out → xfrm fp_X12_whenceBits_60 g (out.2) := by
  intro n
  induction n with
  | zero => intro l1 l2 l3 l4 l5 l6 g out H; exact absurd H (by simp [f_X12_whenceBits_60_47])
  | succ n ih =>
    intro l1 l2 l3 l4 l5 l6 g out H
    have H : (if l1 ≤ l6 then
  if l5 = 0 then
    k9 l1 l2 l3 (l4 + 1) g
  else
    k9 l1 l2 (l3 ||| ((1 : Int32) <<< (l4 &&& 31))) (l4 + 1) g
else
  xg (¬ (l4 < 0 ∨ 7 ≤ l4.toNatClampNeg)) (
    xg (¬ (l6 < 0 ∨ 20 ≤ l6.toNatClampNeg)) (
      if (g.1 100 l4.toNatClampNeg) < (g.1 98 l6.toNatClampNeg) then
        xg (¬ (l6 < 0 ∨ 20 ≤ l6.toNatClampNeg)) (
          if 0 = (g.1 99 l6.toNatClampNeg) then
            f_X12_whenceBits_60_47 k9 n l1 l2 l3 l4 l5 (l6 + 1) g
          else
            f_X12_whenceBits_60_47 k9 n l1 l2 l3 l4 0 (l6 + 1) g)
      else
        xg (¬ (l6 < 0 ∨ 20 ≤ l6.toNatClampNeg)) (
          if 1 = (g.1 99 l6.toNatClampNeg) then
            f_X12_whenceBits_60_47 k9 n l1 l2 l3 l4 l5 (l6 + 1) g
          else
            f_X12_whenceBits_60_47 k9 n l1 l2 l3 l4 0 (l6 + 1) g)))) = some out := H
    by_cases h4 : l1 ≤ l6
    · rw [if_pos h4] at H
      by_cases h5 : l5 = 0
      · rw [if_pos h5] at H
        exact xfrm.tr xfrm.rf (hk9 _ _ _ _ _ _ H) rfl
      · rw [if_neg h5] at H
        exact xfrm.tr xfrm.rf (hk9 _ _ _ _ _ _ H) rfl
    · rw [if_neg h4] at H
      obtain ⟨h6, H⟩ := xg_elim H
      obtain ⟨h7, H⟩ := xg_elim H
      by_cases h8 : (g.1 100 l4.toNatClampNeg) < (g.1 98 l6.toNatClampNeg)
      · rw [if_pos h8] at H
        obtain ⟨h9, H⟩ := xg_elim H
        by_cases h10 : 0 = (g.1 99 l6.toNatClampNeg)
        · rw [if_pos h10] at H
          exact xfrm.tr xfrm.rf (ih _ _ _ _ _ _ _ _ H) rfl
        · rw [if_neg h10] at H
          exact xfrm.tr xfrm.rf (ih _ _ _ _ _ _ _ _ H) rfl
      · rw [if_neg h8] at H
        obtain ⟨h11, H⟩ := xg_elim H
        by_cases h12 : 1 = (g.1 99 l6.toNatClampNeg)
        · rw [if_pos h12] at H
          exact xfrm.tr xfrm.rf (ih _ _ _ _ _ _ _ _ H) rfl
        · rw [if_neg h12] at H
          exact xfrm.tr xfrm.rf (ih _ _ _ _ _ _ _ _ H) rfl
set_option maxRecDepth 20000 in
theorem t_X12_whenceBits_60_9 {k : xK} {S : List xSh} {out : Int32 × xG} (hS : xpf SH2 S) (A : xAt k mX12_whenceBits.2.1 12 SH2 S) (hR : xRet k 0 0 S (fun r g' => r = some (.int out.1) ∧ g' = out.2) mX12_whenceBits.2.2.2) (hrm : xrm k = { frames := 6, cells := 0, slots := 0, locals := 133 }) (hz : xhs k = xb0 k + S.length)   : ∀ (n : Nat) (l1 : Int32) (l2 : Int32) (l3 : Int32) (l4 : Int32) (g : xG), f_X12_whenceBits_60_9 n l1 l2 l3 l4 g = some out → xW k S 0 0 9 [some (.ref 60), some (.int l1), some (.int l2), some (.int l3), some (.int l4), none, none] [] g := by
  intro n
  induction n with
  | zero => intro l1 l2 l3 l4 g H; exact absurd H (by simp [f_X12_whenceBits_60_9])
  | succ n ih =>
    intro l1 l2 l3 l4 g H
    have H : (xg (¬ ((g.1 60 18) < 0 ∨ 2 ≤ (g.1 60 18).toNatClampNeg)) (
  if (g.1 70 (g.1 60 18).toNatClampNeg) ≤ l4 then
    some (l3, g)
  else
    (f_X12_farFrom_60 l4 g).bind fun w2 =>
    (f_X12_strokesBy_60 l2 w2 g).bind fun w3 =>
    xg (¬ (l4 < 0 ∨ 7 ≤ l4.toNatClampNeg)) (
      f_X12_whenceBits_60_47 (f_X12_whenceBits_60_9 n) xN l1 l2 l3 l4 1 0 (xupd w3.2.1 100 l4.toNatClampNeg w3.1, w3.2.2)))) = some out := H
    refine xb A [(.iload 4, 2, 0, 0, .null), (.aload_n 0, 1, 0, 0, .null), (.getfield 46, 3, 60, 23, .ref 70), (.aload_n 0, 1, 0, 0, .null), (.getfield 227, 3, 60, 18, .int 0)] (pc' := 19) (ls' := [some (.ref 60), some (.int l1), some (.int l2), some (.int l3), some (.int l4), none, none]) (st' := [.int (g.1 60 18), .ref 70, .int l4]) (g' := g) (by decide +kernel) rfl ?_
    obtain ⟨h1, H⟩ := xg_elim H
    refine xiald A (nxt := 20) (by decide +kernel) (hS _ _ sh_70) h1 ?_
    show xW k S 0 0 20 [some (.ref 60), some (.int l1), some (.int l2), some (.int l3), some (.int l4), none, none] [.int (g.1 70 (g.1 60 18).toNatClampNeg), .int l4] g
    refine xic_ge A (92) 112 23 (by decide +kernel) (fun h2 => ?_) (fun h2 => ?_)
    · rw [if_pos h2] at H
      refine xb A [(.iload_n 3, 1, 0, 0, .null)] (pc' := 113) (ls' := [some (.ref 60), some (.int l1), some (.int l2), some (.int l3), some (.int l4), none, none]) (st' := [.int l3]) (g' := g) (by decide +kernel) rfl ?_
      obtain rfl := Option.some.inj H
      exact xret_i A hR hz (by decide +kernel) rfl ⟨rfl, rfl⟩
    · rw [if_neg h2] at H
      refine xb A [(.aload_n 0, 1, 0, 0, .null), (.getfield 137, 3, 60, 61, .ref 100), (.iload 4, 2, 0, 0, .null), (.aload_n 0, 1, 0, 0, .null), (.iload_n 2, 1, 0, 0, .null), (.aload_n 0, 1, 0, 0, .null), (.iload 4, 2, 0, 0, .null)] (pc' := 34) (ls' := [some (.ref 60), some (.int l1), some (.int l2), some (.int l3), some (.int l4), none, none]) (st' := [.int l4, .ref 60, .int l2, .ref 60, .int l4, .ref 100]) (g' := g) (by decide +kernel) rfl ?_
      obtain ⟨w2, e2, H⟩ := xbind H
      refine xcallV A (ix := 342) (nxt := 37) hrm hz [.int l4] [.int l2, .ref 60, .int l4, .ref 100] 1723 (c_X12_farFrom_60 hS _ e2) ok_X12_farFrom (by decide +kernel) rfl (fun r g1 hq => ?_)
      rw [hq.1, hq.2]
      show xW k S 0 0 37 [some (.ref 60), some (.int l1), some (.int l2), some (.int l3), some (.int l4), none, none] [.int w2, .int l2, .ref 60, .int l4, .ref 100] g
      obtain ⟨w3, e3, H⟩ := xbind H
      refine xcallV A (ix := 400) (nxt := 40) hrm hz [.int l2, .int w2] [.int l4, .ref 100] 1785 (c_X12_strokesBy_60 hS _ e3) ok_X12_strokesBy (by decide +kernel) rfl (fun r g1 hq => ?_)
      rw [hq.1, hq.2]
      show xW k S 0 0 40 [some (.ref 60), some (.int l1), some (.int l2), some (.int l3), some (.int l4), none, none] [.int w3.1, .int l4, .ref 100] w3.2
      obtain ⟨h3, H⟩ := xg_elim H
      refine xiast A (nxt := 41) (by decide +kernel) (hS _ _ sh_100) h3 ?_
      show xW k S 0 0 41 [some (.ref 60), some (.int l1), some (.int l2), some (.int l3), some (.int l4), none, none] [] (xupd w3.2.1 100 l4.toNatClampNeg w3.1, w3.2.2)
      refine xb A [(.iconst 1, 1, 0, 0, .int 1), (.istore 5, 2, 0, 0, .null), (.iconst 0, 1, 0, 0, .int 0), (.istore 6, 2, 0, 0, .null)] (pc' := 47) (ls' := [some (.ref 60), some (.int l1), some (.int l2), some (.int l3), some (.int l4), some (.int 1), some (.int 0)]) (st' := []) (g' := (xupd w3.2.1 100 l4.toNatClampNeg w3.1, w3.2.2)) (by decide +kernel) rfl ?_
      exact t_X12_whenceBits_60_47 hS A hR hrm hz ih _ _ _ _ _ _ _ _ H
theorem fr_X12_whenceBits_60_9   : ∀ (n : Nat) (l1 : Int32) (l2 : Int32) (l3 : Int32) (l4 : Int32) (g : xG) (out : Int32 × xG), f_X12_whenceBits_60_9 n l1 l2 l3 l4 g = some out → xfrm fp_X12_whenceBits_60 g (out.2) := by
  intro n
  induction n with
  | zero => intro l1 l2 l3 l4 g out H; exact absurd H (by simp [f_X12_whenceBits_60_9])
  | succ n ih =>
    intro l1 l2 l3 l4 g out H
    have H : (xg (¬ ((g.1 60 18) < 0 ∨ 2 ≤ (g.1 60 18).toNatClampNeg)) (
  if (g.1 70 (g.1 60 18).toNatClampNeg) ≤ l4 then
    some (l3, g)
  else
    (f_X12_farFrom_60 l4 g).bind fun w2 =>
    (f_X12_strokesBy_60 l2 w2 g).bind fun w3 =>
    xg (¬ (l4 < 0 ∨ 7 ≤ l4.toNatClampNeg)) (
      f_X12_whenceBits_60_47 (f_X12_whenceBits_60_9 n) xN l1 l2 l3 l4 1 0 (xupd w3.2.1 100 l4.toNatClampNeg w3.1, w3.2.2)))) = some out := H
    obtain ⟨h1, H⟩ := xg_elim H
    by_cases h2 : (g.1 70 (g.1 60 18).toNatClampNeg) ≤ l4
    · rw [if_pos h2] at H
      obtain rfl := Option.some.inj H
      exact xfrm.rf
    · rw [if_neg h2] at H
      obtain ⟨w2, e2, H⟩ := xbind H
      obtain ⟨w3, e3, H⟩ := xbind H
      have hf2 : xfrm fp_X12_whenceBits_60 g (w3.2) := xfrm.tr xfrm.rf (fr_X12_strokesBy_60 _ e3) rfl
      obtain ⟨h3, H⟩ := xg_elim H
      have hf3 : xfrm fp_X12_whenceBits_60 g ((xupd w3.2.1 100 l4.toNatClampNeg w3.1, w3.2.2)) := xfrm.ua hf2 rfl
      exact xfrm.tr hf3 (fr_X12_whenceBits_60_47 ih _ _ _ _ _ _ _ _ _ H) rfl
set_option maxRecDepth 20000 in
theorem c_X12_whenceBits_60 {S : List xSh} (hS : xpf SH2 S) {g : xG} {p1 : Int32} {p2 : Int32} (out : Int32 × xG) (H : f_X12_whenceBits_60 p1 p2 g = some out) : xC mX12_whenceBits 6 133 0 0 S [.ref 60, .int p1, .int p2] g S (fun r g' => r = some (.int out.1) ∧ g' = out.2) := by
  have H : ((f_X12_copies_60 g).bind fun w1 =>
f_X12_whenceBits_60_9 xN p1 p2 0 0 w1) = some out := H
  refine xC.of 12 SH2 [some (.ref 60), some (.int p1), some (.int p2), none, none, none, none] hS (by decide +kernel) rfl (fun _ _ => Nat.le_of_ble_eq_true rfl) (fun _ _ => rfl) ?_
  intro k A hR hrm hz
  refine xb A [(.aload_n 0, 1, 0, 0, .null)] (pc' := 1) (ls' := [some (.ref 60), some (.int p1), some (.int p2), none, none, none, none]) (st' := [.ref 60]) (g' := g) (by decide +kernel) rfl ?_
  obtain ⟨w1, e1, H⟩ := xbind H
  refine xcallV A (ix := 320) (nxt := 4) hrm hz [] [] 1699 (c_X12_copies_60 hS _ e1) ok_X12_copies (by decide +kernel) rfl (fun r g1 hq => ?_)
  rw [hq.1, hq.2]
  show xW k S 0 0 4 [some (.ref 60), some (.int p1), some (.int p2), none, none, none, none] [] w1
  refine xb A [(.iconst 0, 1, 0, 0, .int 0), (.istore_n 3, 1, 0, 0, .null), (.iconst 0, 1, 0, 0, .int 0), (.istore 4, 2, 0, 0, .null)] (pc' := 9) (ls' := [some (.ref 60), some (.int p1), some (.int p2), some (.int 0), some (.int 0), none, none]) (st' := []) (g' := w1) (by decide +kernel) rfl ?_
  exact t_X12_whenceBits_60_9 hS A hR hrm hz _ _ _ _ _ _ H
theorem fr_X12_whenceBits_60 {p1 : Int32} {p2 : Int32} {g : xG} (out : Int32 × xG) (H : f_X12_whenceBits_60 p1 p2 g = some out) : xfrm fp_X12_whenceBits_60 g (out.2) := by
  have H : ((f_X12_copies_60 g).bind fun w1 =>
f_X12_whenceBits_60_9 xN p1 p2 0 0 w1) = some out := H
  obtain ⟨w1, e1, H⟩ := xbind H
  have hf1 : xfrm fp_X12_whenceBits_60 g (w1) := xfrm.tr xfrm.rf (fr_X12_copies_60 _ e1) rfl
  exact xfrm.tr hf1 (fr_X12_whenceBits_60_9 _ _ _ _ _ _ _ H) rfl
def fp_X12_whence_60 : List (Nat × Option Nat) := [(60, some 49), (60, some 52), (60, some 53), (91, none), (92, none), (94, none), (95, none), (100, none)]
def f_X12_whence_60 (p1 : Int32) (p2 : Int32) (p3 : Int32) (g : xG) : Option (Int32 × xG) :=
  if (f_X12_in p1 0 (g.1 60 58)) = 0 then
    some ((-1), g)
  else
    (f_X12_isPerson_60 p2 g).bind fun w1 =>
    if w1 = 0 then
      some ((-1), g)
    else
      if (f_X12_in p3 0 1) = 0 then
        some ((-1), g)
      else
        (f_X12_whenceBits_60 p1 p2 g).bind fun w2 =>
        if p3 = 0 then
          (f_X12_bits w2.1).bind fun w3 =>
          some (w3, w2.2)
        else
          some (w2.1, w2.2)
set_option maxRecDepth 20000 in
theorem c_X12_whence_60 {S : List xSh} (hS : xpf SH2 S) {g : xG} {p1 : Int32} {p2 : Int32} {p3 : Int32} (out : Int32 × xG) (H : f_X12_whence_60 p1 p2 p3 g = some out) : xC mX12_whence 7 159 0 0 S [.ref 60, .int p1, .int p2, .int p3] g S (fun r g' => r = some (.int out.1) ∧ g' = out.2) := by
  have H : (if (f_X12_in p1 0 (g.1 60 58)) = 0 then
  some ((-1), g)
else
  (f_X12_isPerson_60 p2 g).bind fun w1 =>
  if w1 = 0 then
    some ((-1), g)
  else
    if (f_X12_in p3 0 1) = 0 then
      some ((-1), g)
    else
      (f_X12_whenceBits_60 p1 p2 g).bind fun w2 =>
      if p3 = 0 then
        (f_X12_bits w2.1).bind fun w3 =>
        some (w3, w2.2)
      else
        some (w2.1, w2.2)) = some out := H
  refine xC.of 12 SH2 [some (.ref 60), some (.int p1), some (.int p2), some (.int p3), none] hS (by decide +kernel) rfl (fun _ _ => Nat.le_of_ble_eq_true rfl) (fun _ _ => rfl) ?_
  intro k A hR hrm hz
  refine xb A [(.iload_n 1, 1, 0, 0, .null), (.iconst 0, 1, 0, 0, .int 0), (.aload_n 0, 1, 0, 0, .null), (.getfield 248, 3, 60, 58, .int 0)] (pc' := 6) (ls' := [some (.ref 60), some (.int p1), some (.int p2), some (.int p3), none]) (st' := [.int (g.1 60 58), .int 0, .int p1]) (g' := g) (by decide +kernel) rfl ?_
  refine xcallS A (ix := 307) (nxt := 9) hrm hz [.int p1, .int 0, .int (g.1 60 58)] [] 1696 (c_X12_in hS _ rfl) ok_X12_in (by decide +kernel) rfl (fun r g1 hq => ?_)
  rw [hq.1, hq.2]
  show xW k S 0 0 9 [some (.ref 60), some (.int p1), some (.int p2), some (.int p3), none] [.int (f_X12_in p1 0 (g.1 60 58))] g
  refine xif_eq A (20) 29 12 (by decide +kernel) (fun h1 => ?_) (fun h1 => ?_)
  · rw [if_pos h1] at H
    refine xb A [(.iconst (-1), 1, 0, 0, .int (-1))] (pc' := 30) (ls' := [some (.ref 60), some (.int p1), some (.int p2), some (.int p3), none]) (st' := [.int (-1)]) (g' := g) (by decide +kernel) rfl ?_
    obtain rfl := Option.some.inj H
    exact xret_i A hR hz (by decide +kernel) rfl ⟨rfl, rfl⟩
  · rw [if_neg h1] at H
    refine xb A [(.aload_n 0, 1, 0, 0, .null), (.iload_n 2, 1, 0, 0, .null)] (pc' := 14) (ls' := [some (.ref 60), some (.int p1), some (.int p2), some (.int p3), none]) (st' := [.int p2, .ref 60]) (g' := g) (by decide +kernel) rfl ?_
    obtain ⟨w1, e1, H⟩ := xbind H
    refine xcallV A (ix := 425) (nxt := 17) hrm hz [.int p2] [] 1739 (c_X12_isPerson_60 hS _ e1) ok_X12_isPerson (by decide +kernel) rfl (fun r g1 hq => ?_)
    rw [hq.1, hq.2]
    show xW k S 0 0 17 [some (.ref 60), some (.int p1), some (.int p2), some (.int p3), none] [.int w1] g
    refine xif_eq A (12) 29 20 (by decide +kernel) (fun h2 => ?_) (fun h2 => ?_)
    · rw [if_pos h2] at H
      refine xb A [(.iconst (-1), 1, 0, 0, .int (-1))] (pc' := 30) (ls' := [some (.ref 60), some (.int p1), some (.int p2), some (.int p3), none]) (st' := [.int (-1)]) (g' := g) (by decide +kernel) rfl ?_
      obtain rfl := Option.some.inj H
      exact xret_i A hR hz (by decide +kernel) rfl ⟨rfl, rfl⟩
    · rw [if_neg h2] at H
      refine xb A [(.iload_n 3, 1, 0, 0, .null), (.iconst 0, 1, 0, 0, .int 0), (.iconst 1, 1, 0, 0, .int 1)] (pc' := 23) (ls' := [some (.ref 60), some (.int p1), some (.int p2), some (.int p3), none]) (st' := [.int 1, .int 0, .int p3]) (g' := g) (by decide +kernel) rfl ?_
      refine xcallS A (ix := 307) (nxt := 26) hrm hz [.int p3, .int 0, .int 1] [] 1696 (c_X12_in hS _ rfl) ok_X12_in (by decide +kernel) rfl (fun r g1 hq => ?_)
      rw [hq.1, hq.2]
      show xW k S 0 0 26 [some (.ref 60), some (.int p1), some (.int p2), some (.int p3), none] [.int (f_X12_in p3 0 1)] g
      refine xif_ne A (5) 31 29 (by decide +kernel) (fun h3 => ?_) (fun h3 => ?_)
      · rw [if_neg h3] at H
        refine xb A [(.aload_n 0, 1, 0, 0, .null), (.iload_n 1, 1, 0, 0, .null), (.iload_n 2, 1, 0, 0, .null)] (pc' := 34) (ls' := [some (.ref 60), some (.int p1), some (.int p2), some (.int p3), none]) (st' := [.int p2, .int p1, .ref 60]) (g' := g) (by decide +kernel) rfl ?_
        obtain ⟨w2, e2, H⟩ := xbind H
        refine xcallV A (ix := 471) (nxt := 37) hrm hz [.int p1, .int p2] [] 2024 (c_X12_whenceBits_60 hS _ e2) ok_X12_whenceBits (by decide +kernel) rfl (fun r g1 hq => ?_)
        rw [hq.1, hq.2]
        show xW k S 0 0 37 [some (.ref 60), some (.int p1), some (.int p2), some (.int p3), none] [.int w2.1] w2.2
        refine xb A [(.istore 4, 2, 0, 0, .null), (.iload_n 3, 1, 0, 0, .null)] (pc' := 40) (ls' := [some (.ref 60), some (.int p1), some (.int p2), some (.int p3), some (.int w2.1)]) (st' := [.int p3]) (g' := w2.2) (by decide +kernel) rfl ?_
        refine xif_ne A (11) 51 43 (by decide +kernel) (fun h4 => ?_) (fun h4 => ?_)
        · rw [if_neg h4] at H
          refine xb A [(.iload 4, 2, 0, 0, .null)] (pc' := 53) (ls' := [some (.ref 60), some (.int p1), some (.int p2), some (.int p3), some (.int w2.1)]) (st' := [.int w2.1]) (g' := w2.2) (by decide +kernel) rfl ?_
          obtain rfl := Option.some.inj H
          exact xret_i A hR hz (by decide +kernel) rfl ⟨rfl, rfl⟩
        · rw [if_pos h4] at H
          refine xb A [(.iload 4, 2, 0, 0, .null)] (pc' := 45) (ls' := [some (.ref 60), some (.int p1), some (.int p2), some (.int p3), some (.int w2.1)]) (st' := [.int w2.1]) (g' := w2.2) (by decide +kernel) rfl ?_
          obtain ⟨w3, e3, H⟩ := xbind H
          refine xcallS A (ix := 336) (nxt := 48) hrm hz [.int w2.1] [] 1771 (c_X12_bits hS _ e3) ok_X12_bits (by decide +kernel) rfl (fun r g1 hq => ?_)
          rw [hq.1, hq.2]
          show xW k S 0 0 48 [some (.ref 60), some (.int p1), some (.int p2), some (.int p3), some (.int w2.1)] [.int w3] w2.2
          refine xgoto A (5) 53 (by decide +kernel) ?_
          obtain rfl := Option.some.inj H
          exact xret_i A hR hz (by decide +kernel) rfl ⟨rfl, rfl⟩
      · rw [if_pos h3] at H
        refine xb A [(.iconst (-1), 1, 0, 0, .int (-1))] (pc' := 30) (ls' := [some (.ref 60), some (.int p1), some (.int p2), some (.int p3), none]) (st' := [.int (-1)]) (g' := g) (by decide +kernel) rfl ?_
        obtain rfl := Option.some.inj H
        exact xret_i A hR hz (by decide +kernel) rfl ⟨rfl, rfl⟩
theorem fr_X12_whence_60 {p1 : Int32} {p2 : Int32} {p3 : Int32} {g : xG} (out : Int32 × xG) (H : f_X12_whence_60 p1 p2 p3 g = some out) : xfrm fp_X12_whence_60 g (out.2) := by
  have H : (if (f_X12_in p1 0 (g.1 60 58)) = 0 then
  some ((-1), g)
else
  (f_X12_isPerson_60 p2 g).bind fun w1 =>
  if w1 = 0 then
    some ((-1), g)
  else
    if (f_X12_in p3 0 1) = 0 then
      some ((-1), g)
    else
      (f_X12_whenceBits_60 p1 p2 g).bind fun w2 =>
      if p3 = 0 then
        (f_X12_bits w2.1).bind fun w3 =>
        some (w3, w2.2)
      else
        some (w2.1, w2.2)) = some out := H
  by_cases h1 : (f_X12_in p1 0 (g.1 60 58)) = 0
  · rw [if_pos h1] at H
    obtain rfl := Option.some.inj H
    exact xfrm.rf
  · rw [if_neg h1] at H
    obtain ⟨w1, e1, H⟩ := xbind H
    by_cases h2 : w1 = 0
    · rw [if_pos h2] at H
      obtain rfl := Option.some.inj H
      exact xfrm.rf
    · rw [if_neg h2] at H
      by_cases h3 : (f_X12_in p3 0 1) = 0
      · rw [if_pos h3] at H
        obtain rfl := Option.some.inj H
        exact xfrm.rf
      · rw [if_neg h3] at H
        obtain ⟨w2, e2, H⟩ := xbind H
        have hf1 : xfrm fp_X12_whence_60 g (w2.2) := xfrm.tr xfrm.rf (fr_X12_whenceBits_60 _ e2) rfl
        by_cases h4 : p3 = 0
        · rw [if_pos h4] at H
          obtain ⟨w3, e3, H⟩ := xbind H
          obtain rfl := Option.some.inj H
          exact hf1
        · rw [if_neg h4] at H
          obtain rfl := Option.some.inj H
          exact hf1
def fp_X12_listen_60 : List (Nat × Option Nat) := [(60, some 49), (60, some 52), (60, some 53), (91, none), (92, none), (94, none), (95, none), (100, none)]
def f_X12_listen_60_126 (k39 : Int32 → Int32 → Int32 → Int32 → xG → Option (Int32 × xG)) (l3 : Int32) (l4 : Int32) (l5 : Int32) (l6 : Int32) (s0 : Int32) (g : xG) : Option (Int32 × xG) :=
  if l4 < 0 then
    k39 l3 l6 s0 (l6 + 1) g
  else
    if s0 < l5 then
      k39 l3 l6 s0 (l6 + 1) g
    else
      k39 l3 l4 l5 (l6 + 1) g
def f_X12_listen_60_57 (k39 : Int32 → Int32 → Int32 → Int32 → xG → Option (Int32 × xG)) : Nat → Int32 → Int32 → Int32 → Int32 → Int32 → Int32 → xG → Option (Int32 × xG)
  | 0, _, _, _, _, _, _, _ => none
  | n + 1, l3, l4, l5, l6, l7, l8, g =>
    xg (¬ ((g.1 60 18) < 0 ∨ 2 ≤ (g.1 60 18).toNatClampNeg)) (
      if (g.1 70 (g.1 60 18).toNatClampNeg) ≤ l8 then
        (f_X12_bits l3).bind fun w3 =>
        if l7 ≤ (w3 - l7) then
          (f_X12_bits l3).bind fun w4 =>
          f_X12_listen_60_126 k39 l3 l4 l5 l6 (w4 - l7) g
        else
          f_X12_listen_60_126 k39 l3 l4 l5 l6 l7 g
      else
        if ((l3 >>> (l8 &&& 31)) &&& 1) = 1 then
          xg (¬ (l8 < 0 ∨ 7 ≤ l8.toNatClampNeg)) (
            if (g.1 100 l8.toNatClampNeg) < l6 then
              f_X12_listen_60_57 k39 n l3 l4 l5 l6 l7 (l8 + 1) g
            else
              f_X12_listen_60_57 k39 n l3 l4 l5 l6 (l7 + 1) (l8 + 1) g)
        else
          f_X12_listen_60_57 k39 n l3 l4 l5 l6 l7 (l8 + 1) g)
def f_X12_listen_60_39  : Nat → Int32 → Int32 → Int32 → Int32 → xG → Option (Int32 × xG)
  | 0, _, _, _, _, _ => none
  | n + 1, l3, l4, l5, l6, g =>
    if 1000 ≤ l6 then
      some (l4, g)
    else
      if l3 = 0 then
        some (l4, g)
      else
        f_X12_listen_60_57 (f_X12_listen_60_39 n) xN l3 l4 l5 l6 0 0 g
def f_X12_listen_60 (p1 : Int32) (p2 : Int32) (g : xG) : Option (Int32 × xG) :=
  if (f_X12_in p1 0 (g.1 60 58)) = 0 then
    some ((-1), g)
  else
    (f_X12_isPerson_60 p2 g).bind fun w1 =>
    if w1 = 0 then
      some ((-1), g)
    else
      (f_X12_whenceBits_60 p1 p2 g).bind fun w2 =>
      f_X12_listen_60_39 xN w2.1 (-2) 0 1 w2.2
set_option maxRecDepth 20000 in
theorem t_X12_listen_60_126 {k : xK} {S : List xSh} {out : Int32 × xG} (hS : xpf SH2 S) (A : xAt k mX12_listen.2.1 12 SH2 S) (hR : xRet k 0 0 S (fun r g' => r = some (.int out.1) ∧ g' = out.2) mX12_listen.2.2.2) (hrm : xrm k = { frames := 7, cells := 0, slots := 0, locals := 159 }) (hz : xhs k = xb0 k + S.length) {k39 : Int32 → Int32 → Int32 → Int32 → xG → Option (Int32 × xG)} (hk39 : ∀ (l3 : Int32) (l4 : Int32) (l5 : Int32) (l6 : Int32) (g : xG), k39 l3 l4 l5 l6 g = some out → xW k S 0 0 39 [some (.ref 60), none, none, some (.int l3), some (.int l4), some (.int l5), some (.int l6), none, none] [] g) : ∀ (l3 : Int32) (l4 : Int32) (l5 : Int32) (l6 : Int32) (s0 : Int32) (g : xG), f_X12_listen_60_126 k39 l3 l4 l5 l6 s0 g = some out → xW k S 0 0 126 [some (.ref 60), none, none, some (.int l3), some (.int l4), some (.int l5), some (.int l6), none, none] [.int s0] g := by
  intro l3 l4 l5 l6 s0 g H
  have H : (if l4 < 0 then
  k39 l3 l6 s0 (l6 + 1) g
else
  if s0 < l5 then
    k39 l3 l6 s0 (l6 + 1) g
  else
    k39 l3 l4 l5 (l6 + 1) g) = some out := H
  refine xb A [(.istore 8, 2, 0, 0, .null), (.iload 4, 2, 0, 0, .null)] (pc' := 130) (ls' := [some (.ref 60), none, none, some (.int l3), some (.int l4), some (.int l5), some (.int l6), none, some (.int s0)]) (st' := [.int l4]) (g' := g) (by decide +kernel) rfl ?_
  refine xif_lt A (13) 143 133 (by decide +kernel) (fun h8 => ?_) (fun h8 => ?_)
  · rw [if_pos h8] at H
    refine xb A [(.iload 6, 2, 0, 0, .null), (.istore 4, 2, 0, 0, .null), (.iload 8, 2, 0, 0, .null), (.istore 5, 2, 0, 0, .null), (.iinc 6 1, 3, 0, 0, .null)] (pc' := 154) (ls' := [some (.ref 60), none, none, some (.int l3), some (.int l6), some (.int s0), some (.int (l6 + 1)), none, some (.int s0)]) (st' := []) (g' := g) (by decide +kernel) rfl ?_
    refine xgoto A (-115) 39 (by decide +kernel) ?_
    refine xweak (ls' := [some (.ref 60), none, none, some (.int l3), some (.int l6), some (.int s0), some (.int (l6 + 1)), none, none]) (by exact ⟨rfl, ⟨rfl, ⟨rfl, ⟨rfl, ⟨rfl, trivial⟩⟩⟩⟩⟩) ?_
    exact hk39 _ _ _ _ _ H
  · rw [if_neg h8] at H
    refine xb A [(.iload 8, 2, 0, 0, .null), (.iload 5, 2, 0, 0, .null)] (pc' := 137) (ls' := [some (.ref 60), none, none, some (.int l3), some (.int l4), some (.int l5), some (.int l6), none, some (.int s0)]) (st' := [.int l5, .int s0]) (g' := g) (by decide +kernel) rfl ?_
    refine xic_lt A (6) 143 140 (by decide +kernel) (fun h9 => ?_) (fun h9 => ?_)
    · rw [if_pos h9] at H
      refine xb A [(.iload 6, 2, 0, 0, .null), (.istore 4, 2, 0, 0, .null), (.iload 8, 2, 0, 0, .null), (.istore 5, 2, 0, 0, .null), (.iinc 6 1, 3, 0, 0, .null)] (pc' := 154) (ls' := [some (.ref 60), none, none, some (.int l3), some (.int l6), some (.int s0), some (.int (l6 + 1)), none, some (.int s0)]) (st' := []) (g' := g) (by decide +kernel) rfl ?_
      refine xgoto A (-115) 39 (by decide +kernel) ?_
      refine xweak (ls' := [some (.ref 60), none, none, some (.int l3), some (.int l6), some (.int s0), some (.int (l6 + 1)), none, none]) (by exact ⟨rfl, ⟨rfl, ⟨rfl, ⟨rfl, ⟨rfl, trivial⟩⟩⟩⟩⟩) ?_
      exact hk39 _ _ _ _ _ H
    · rw [if_neg h9] at H
      refine xgoto A (11) 151 (by decide +kernel) ?_
      refine xb A [(.iinc 6 1, 3, 0, 0, .null)] (pc' := 154) (ls' := [some (.ref 60), none, none, some (.int l3), some (.int l4), some (.int l5), some (.int (l6 + 1)), none, some (.int s0)]) (st' := []) (g' := g) (by decide +kernel) rfl ?_
      refine xgoto A (-115) 39 (by decide +kernel) ?_
      refine xweak (ls' := [some (.ref 60), none, none, some (.int l3), some (.int l4), some (.int l5), some (.int (l6 + 1)), none, none]) (by exact ⟨rfl, ⟨rfl, ⟨rfl, ⟨rfl, ⟨rfl, trivial⟩⟩⟩⟩⟩) ?_
      exact hk39 _ _ _ _ _ H
theorem fr_X12_listen_60_126 {k39 : Int32 → Int32 → Int32 → Int32 → xG → Option (Int32 × xG)} (hk39 : ∀ (l3 : Int32) (l4 : Int32) (l5 : Int32) (l6 : Int32) (g : xG) (out : Int32 × xG), k39 l3 l4 l5 l6 g = some out → xfrm fp_X12_listen_60 g (out.2)) : ∀ (l3 : Int32) (l4 : Int32) (l5 : Int32) (l6 : Int32) (s0 : Int32) (g : xG) (out : Int32 × xG), f_X12_listen_60_126 k39 l3 l4 l5 l6 s0 g = some out → xfrm fp_X12_listen_60 g (out.2) := by
  intro l3 l4 l5 l6 s0 g out H
  have H : (if l4 < 0 then
  k39 l3 l6 s0 (l6 + 1) g
else
  if s0 < l5 then
    k39 l3 l6 s0 (l6 + 1) g
  else
    k39 l3 l4 l5 (l6 + 1) g) = some out := H
  by_cases h8 : l4 < 0
  · rw [if_pos h8] at H
    exact xfrm.tr xfrm.rf (hk39 _ _ _ _ _ _ H) rfl
  · rw [if_neg h8] at H
    by_cases h9 : s0 < l5
    · rw [if_pos h9] at H
      exact xfrm.tr xfrm.rf (hk39 _ _ _ _ _ _ H) rfl
    · rw [if_neg h9] at H
      exact xfrm.tr xfrm.rf (hk39 _ _ _ _ _ _ H) rfl
set_option maxRecDepth 20000 in
theorem t_X12_listen_60_57 {k : xK} {S : List xSh} {out : Int32 × xG} (hS : xpf SH2 S) (A : xAt k mX12_listen.2.1 12 SH2 S) (hR : xRet k 0 0 S (fun r g' => r = some (.int out.1) ∧ g' = out.2) mX12_listen.2.2.2) (hrm : xrm k = { frames := 7, cells := 0, slots := 0, locals := 159 }) (hz : xhs k = xb0 k + S.length) {k39 : Int32 → Int32 → Int32 → Int32 → xG → Option (Int32 × xG)} (hk39 : ∀ (l3 : Int32) (l4 : Int32) (l5 : Int32) (l6 : Int32) (g : xG), k39 l3 l4 l5 l6 g = some out → xW k S 0 0 39 [some (.ref 60), none, none, some (.int l3), some (.int l4), some (.int l5), some (.int l6), none, none] [] g) : ∀ (n : Nat) (l3 : Int32) (l4 : Int32) (l5 : Int32) (l6 : Int32) (l7 : Int32) (l8 : Int32) (g : xG), f_X12_listen_60_57 k39 n l3 l4 l5 l6 l7 l8 g = some out → xW k S 0 0 57 [some (.ref 60), none, none, some (.int l3), some (.int l4), some (.int l5), some (.int l6), some (.int l7), some (.int l8)] [] g := by
  intro n
  induction n with
  | zero => intro l3 l4 l5 l6 l7 l8 g H; exact absurd H (by simp [f_X12_listen_60_57])
  | succ n ih =>
    intro l3 l4 l5 l6 l7 l8 g H
    have H : (xg (¬ ((g.1 60 18) < 0 ∨ 2 ≤ (g.1 60 18).toNatClampNeg)) (
  if (g.1 70 (g.1 60 18).toNatClampNeg) ≤ l8 then
    (f_X12_bits l3).bind fun w3 =>
    if l7 ≤ (w3 - l7) then
      (f_X12_bits l3).bind fun w4 =>
      f_X12_listen_60_126 k39 l3 l4 l5 l6 (w4 - l7) g
    else
      f_X12_listen_60_126 k39 l3 l4 l5 l6 l7 g
  else
    if ((l3 >>> (l8 &&& 31)) &&& 1) = 1 then
      xg (¬ (l8 < 0 ∨ 7 ≤ l8.toNatClampNeg)) (
        if (g.1 100 l8.toNatClampNeg) < l6 then
          f_X12_listen_60_57 k39 n l3 l4 l5 l6 l7 (l8 + 1) g
        else
          f_X12_listen_60_57 k39 n l3 l4 l5 l6 (l7 + 1) (l8 + 1) g)
    else
      f_X12_listen_60_57 k39 n l3 l4 l5 l6 l7 (l8 + 1) g)) = some out := H
    refine xb A [(.iload 8, 2, 0, 0, .null), (.aload_n 0, 1, 0, 0, .null), (.getfield 46, 3, 60, 23, .ref 70), (.aload_n 0, 1, 0, 0, .null), (.getfield 227, 3, 60, 18, .int 0)] (pc' := 67) (ls' := [some (.ref 60), none, none, some (.int l3), some (.int l4), some (.int l5), some (.int l6), some (.int l7), some (.int l8)]) (st' := [.int (g.1 60 18), .ref 70, .int l8]) (g' := g) (by decide +kernel) rfl ?_
    obtain ⟨h5, H⟩ := xg_elim H
    refine xiald A (nxt := 68) (by decide +kernel) (hS _ _ sh_70) h5 ?_
    show xW k S 0 0 68 [some (.ref 60), none, none, some (.int l3), some (.int l4), some (.int l5), some (.int l6), some (.int l7), some (.int l8)] [.int (g.1 70 (g.1 60 18).toNatClampNeg), .int l8] g
    refine xic_ge A (34) 102 71 (by decide +kernel) (fun h6 => ?_) (fun h6 => ?_)
    · rw [if_pos h6] at H
      refine xb A [(.iload 7, 2, 0, 0, .null), (.iload_n 3, 1, 0, 0, .null)] (pc' := 105) (ls' := [some (.ref 60), none, none, some (.int l3), some (.int l4), some (.int l5), some (.int l6), some (.int l7), some (.int l8)]) (st' := [.int l3, .int l7]) (g' := g) (by decide +kernel) rfl ?_
      obtain ⟨w3, e3, H⟩ := xbind H
      refine xcallS A (ix := 336) (nxt := 108) hrm hz [.int l3] [.int l7] 1771 (c_X12_bits hS _ e3) ok_X12_bits (by decide +kernel) rfl (fun r g1 hq => ?_)
      rw [hq.1, hq.2]
      show xW k S 0 0 108 [some (.ref 60), none, none, some (.int l3), some (.int l4), some (.int l5), some (.int l6), some (.int l7), some (.int l8)] [.int w3, .int l7] g
      refine xb A [(.iload 7, 2, 0, 0, .null), (.isub, 1, 0, 0, .null)] (pc' := 111) (ls' := [some (.ref 60), none, none, some (.int l3), some (.int l4), some (.int l5), some (.int l6), some (.int l7), some (.int l8)]) (st' := [.int (w3 - l7), .int l7]) (g' := g) (by decide +kernel) rfl ?_
      refine xic_le A (8) 119 114 (by decide +kernel) (fun h7 => ?_) (fun h7 => ?_)
      · rw [if_pos h7] at H
        refine xb A [(.iload_n 3, 1, 0, 0, .null)] (pc' := 120) (ls' := [some (.ref 60), none, none, some (.int l3), some (.int l4), some (.int l5), some (.int l6), some (.int l7), some (.int l8)]) (st' := [.int l3]) (g' := g) (by decide +kernel) rfl ?_
        obtain ⟨w4, e4, H⟩ := xbind H
        refine xcallS A (ix := 336) (nxt := 123) hrm hz [.int l3] [] 1771 (c_X12_bits hS _ e4) ok_X12_bits (by decide +kernel) rfl (fun r g1 hq => ?_)
        rw [hq.1, hq.2]
        show xW k S 0 0 123 [some (.ref 60), none, none, some (.int l3), some (.int l4), some (.int l5), some (.int l6), some (.int l7), some (.int l8)] [.int w4] g
        refine xb A [(.iload 7, 2, 0, 0, .null), (.isub, 1, 0, 0, .null)] (pc' := 126) (ls' := [some (.ref 60), none, none, some (.int l3), some (.int l4), some (.int l5), some (.int l6), some (.int l7), some (.int l8)]) (st' := [.int (w4 - l7)]) (g' := g) (by decide +kernel) rfl ?_
        refine xweak (ls' := [some (.ref 60), none, none, some (.int l3), some (.int l4), some (.int l5), some (.int l6), none, none]) (by exact ⟨rfl, ⟨rfl, ⟨rfl, ⟨rfl, ⟨rfl, trivial⟩⟩⟩⟩⟩) ?_
        exact t_X12_listen_60_126 hS A hR hrm hz hk39 _ _ _ _ _ _ H
      · rw [if_neg h7] at H
        refine xb A [(.iload 7, 2, 0, 0, .null)] (pc' := 116) (ls' := [some (.ref 60), none, none, some (.int l3), some (.int l4), some (.int l5), some (.int l6), some (.int l7), some (.int l8)]) (st' := [.int l7]) (g' := g) (by decide +kernel) rfl ?_
        refine xgoto A (10) 126 (by decide +kernel) ?_
        refine xweak (ls' := [some (.ref 60), none, none, some (.int l3), some (.int l4), some (.int l5), some (.int l6), none, none]) (by exact ⟨rfl, ⟨rfl, ⟨rfl, ⟨rfl, ⟨rfl, trivial⟩⟩⟩⟩⟩) ?_
        exact t_X12_listen_60_126 hS A hR hrm hz hk39 _ _ _ _ _ _ H
    · rw [if_neg h6] at H
      refine xb A [(.iload_n 3, 1, 0, 0, .null), (.iload 8, 2, 0, 0, .null), (.ishr, 1, 0, 0, .null), (.iconst 1, 1, 0, 0, .int 1), (.iand, 1, 0, 0, .null), (.iconst 1, 1, 0, 0, .int 1)] (pc' := 78) (ls' := [some (.ref 60), none, none, some (.int l3), some (.int l4), some (.int l5), some (.int l6), some (.int l7), some (.int l8)]) (st' := [.int 1, .int ((l3 >>> (l8 &&& 31)) &&& 1)]) (g' := g) (by decide +kernel) rfl ?_
      refine xic_ne A (18) 96 81 (by decide +kernel) (fun h10 => ?_) (fun h10 => ?_)
      · rw [if_neg h10] at H
        refine xb A [(.iinc 8 1, 3, 0, 0, .null)] (pc' := 99) (ls' := [some (.ref 60), none, none, some (.int l3), some (.int l4), some (.int l5), some (.int l6), some (.int l7), some (.int (l8 + 1))]) (st' := []) (g' := g) (by decide +kernel) rfl ?_
        refine xgoto A (-42) 57 (by decide +kernel) ?_
        exact ih _ _ _ _ _ _ _ H
      · rw [if_pos h10] at H
        refine xb A [(.aload_n 0, 1, 0, 0, .null), (.getfield 137, 3, 60, 61, .ref 100), (.iload 8, 2, 0, 0, .null)] (pc' := 87) (ls' := [some (.ref 60), none, none, some (.int l3), some (.int l4), some (.int l5), some (.int l6), some (.int l7), some (.int l8)]) (st' := [.int l8, .ref 100]) (g' := g) (by decide +kernel) rfl ?_
        obtain ⟨h11, H⟩ := xg_elim H
        refine xiald A (nxt := 88) (by decide +kernel) (hS _ _ sh_100) h11 ?_
        show xW k S 0 0 88 [some (.ref 60), none, none, some (.int l3), some (.int l4), some (.int l5), some (.int l6), some (.int l7), some (.int l8)] [.int (g.1 100 l8.toNatClampNeg)] g
        refine xb A [(.iload 6, 2, 0, 0, .null)] (pc' := 90) (ls' := [some (.ref 60), none, none, some (.int l3), some (.int l4), some (.int l5), some (.int l6), some (.int l7), some (.int l8)]) (st' := [.int l6, .int (g.1 100 l8.toNatClampNeg)]) (g' := g) (by decide +kernel) rfl ?_
        refine xic_lt A (6) 96 93 (by decide +kernel) (fun h12 => ?_) (fun h12 => ?_)
        · rw [if_pos h12] at H
          refine xb A [(.iinc 8 1, 3, 0, 0, .null)] (pc' := 99) (ls' := [some (.ref 60), none, none, some (.int l3), some (.int l4), some (.int l5), some (.int l6), some (.int l7), some (.int (l8 + 1))]) (st' := []) (g' := g) (by decide +kernel) rfl ?_
          refine xgoto A (-42) 57 (by decide +kernel) ?_
          exact ih _ _ _ _ _ _ _ H
        · rw [if_neg h12] at H
          refine xb A [(.iinc 7 1, 3, 0, 0, .null), (.iinc 8 1, 3, 0, 0, .null)] (pc' := 99) (ls' := [some (.ref 60), none, none, some (.int l3), some (.int l4), some (.int l5), some (.int l6), some (.int (l7 + 1)), some (.int (l8 + 1))]) (st' := []) (g' := g) (by decide +kernel) rfl ?_
          refine xgoto A (-42) 57 (by decide +kernel) ?_
          exact ih _ _ _ _ _ _ _ H
theorem fr_X12_listen_60_57 {k39 : Int32 → Int32 → Int32 → Int32 → xG → Option (Int32 × xG)} (hk39 : ∀ (l3 : Int32) (l4 : Int32) (l5 : Int32) (l6 : Int32) (g : xG) (out : Int32 × xG), k39 l3 l4 l5 l6 g = some out → xfrm fp_X12_listen_60 g (out.2)) : ∀ (n : Nat) (l3 : Int32) (l4 : Int32) (l5 : Int32) (l6 : Int32) (l7 : Int32) (l8 : Int32) (g : xG) (out : Int32 × xG), f_X12_listen_60_57 k39 n l3 l4 l5 l6 l7 l8 g = some out → xfrm fp_X12_listen_60 g (out.2) := by
  intro n
  induction n with
  | zero => intro l3 l4 l5 l6 l7 l8 g out H; exact absurd H (by simp [f_X12_listen_60_57])
  | succ n ih =>
    intro l3 l4 l5 l6 l7 l8 g out H
    have H : (xg (¬ ((g.1 60 18) < 0 ∨ 2 ≤ (g.1 60 18).toNatClampNeg)) (
  if (g.1 70 (g.1 60 18).toNatClampNeg) ≤ l8 then
    (f_X12_bits l3).bind fun w3 =>
    if l7 ≤ (w3 - l7) then
      (f_X12_bits l3).bind fun w4 =>
      f_X12_listen_60_126 k39 l3 l4 l5 l6 (w4 - l7) g
    else
      f_X12_listen_60_126 k39 l3 l4 l5 l6 l7 g
  else
    if ((l3 >>> (l8 &&& 31)) &&& 1) = 1 then
      xg (¬ (l8 < 0 ∨ 7 ≤ l8.toNatClampNeg)) (
        if (g.1 100 l8.toNatClampNeg) < l6 then
          f_X12_listen_60_57 k39 n l3 l4 l5 l6 l7 (l8 + 1) g
        else
          f_X12_listen_60_57 k39 n l3 l4 l5 l6 (l7 + 1) (l8 + 1) g)
    else
      f_X12_listen_60_57 k39 n l3 l4 l5 l6 l7 (l8 + 1) g)) = some out := H
    obtain ⟨h5, H⟩ := xg_elim H
    by_cases h6 : (g.1 70 (g.1 60 18).toNatClampNeg) ≤ l8
    · rw [if_pos h6] at H
      obtain ⟨w3, e3, H⟩ := xbind H
      by_cases h7 : l7 ≤ (w3 - l7)
      · rw [if_pos h7] at H
        obtain ⟨w4, e4, H⟩ := xbind H
        exact xfrm.tr xfrm.rf (fr_X12_listen_60_126 hk39 _ _ _ _ _ _ _ H) rfl
      · rw [if_neg h7] at H
        exact xfrm.tr xfrm.rf (fr_X12_listen_60_126 hk39 _ _ _ _ _ _ _ H) rfl
    · rw [if_neg h6] at H
      by_cases h10 : ((l3 >>> (l8 &&& 31)) &&& 1) = 1
      · rw [if_pos h10] at H
        obtain ⟨h11, H⟩ := xg_elim H
        by_cases h12 : (g.1 100 l8.toNatClampNeg) < l6
        · rw [if_pos h12] at H
          exact xfrm.tr xfrm.rf (ih _ _ _ _ _ _ _ _ H) rfl
        · rw [if_neg h12] at H
          exact xfrm.tr xfrm.rf (ih _ _ _ _ _ _ _ _ H) rfl
      · rw [if_neg h10] at H
        exact xfrm.tr xfrm.rf (ih _ _ _ _ _ _ _ _ H) rfl
set_option maxRecDepth 20000 in
theorem t_X12_listen_60_39 {k : xK} {S : List xSh} {out : Int32 × xG} (hS : xpf SH2 S) (A : xAt k mX12_listen.2.1 12 SH2 S) (hR : xRet k 0 0 S (fun r g' => r = some (.int out.1) ∧ g' = out.2) mX12_listen.2.2.2) (hrm : xrm k = { frames := 7, cells := 0, slots := 0, locals := 159 }) (hz : xhs k = xb0 k + S.length)   : ∀ (n : Nat) (l3 : Int32) (l4 : Int32) (l5 : Int32) (l6 : Int32) (g : xG), f_X12_listen_60_39 n l3 l4 l5 l6 g = some out → xW k S 0 0 39 [some (.ref 60), none, none, some (.int l3), some (.int l4), some (.int l5), some (.int l6), none, none] [] g := by
  intro n
  induction n with
  | zero => intro l3 l4 l5 l6 g H; exact absurd H (by simp [f_X12_listen_60_39])
  | succ n ih =>
    intro l3 l4 l5 l6 g H
    have H : (if 1000 ≤ l6 then
  some (l4, g)
else
  if l3 = 0 then
    some (l4, g)
  else
    f_X12_listen_60_57 (f_X12_listen_60_39 n) xN l3 l4 l5 l6 0 0 g) = some out := H
    refine xb A [(.iload 6, 2, 0, 0, .null), (.sipush 1000, 3, 0, 0, .int 1000)] (pc' := 44) (ls' := [some (.ref 60), none, none, some (.int l3), some (.int l4), some (.int l5), some (.int l6), none, none]) (st' := [.int 1000, .int l6]) (g' := g) (by decide +kernel) rfl ?_
    refine xic_ge A (113) 157 47 (by decide +kernel) (fun h3 => ?_) (fun h3 => ?_)
    · rw [if_pos h3] at H
      refine xb A [(.iload 4, 2, 0, 0, .null)] (pc' := 159) (ls' := [some (.ref 60), none, none, some (.int l3), some (.int l4), some (.int l5), some (.int l6), none, none]) (st' := [.int l4]) (g' := g) (by decide +kernel) rfl ?_
      obtain rfl := Option.some.inj H
      exact xret_i A hR hz (by decide +kernel) rfl ⟨rfl, rfl⟩
    · rw [if_neg h3] at H
      refine xb A [(.iload_n 3, 1, 0, 0, .null)] (pc' := 48) (ls' := [some (.ref 60), none, none, some (.int l3), some (.int l4), some (.int l5), some (.int l6), none, none]) (st' := [.int l3]) (g' := g) (by decide +kernel) rfl ?_
      refine xif_eq A (109) 157 51 (by decide +kernel) (fun h4 => ?_) (fun h4 => ?_)
      · rw [if_pos h4] at H
        refine xb A [(.iload 4, 2, 0, 0, .null)] (pc' := 159) (ls' := [some (.ref 60), none, none, some (.int l3), some (.int l4), some (.int l5), some (.int l6), none, none]) (st' := [.int l4]) (g' := g) (by decide +kernel) rfl ?_
        obtain rfl := Option.some.inj H
        exact xret_i A hR hz (by decide +kernel) rfl ⟨rfl, rfl⟩
      · rw [if_neg h4] at H
        refine xb A [(.iconst 0, 1, 0, 0, .int 0), (.istore 7, 2, 0, 0, .null), (.iconst 0, 1, 0, 0, .int 0), (.istore 8, 2, 0, 0, .null)] (pc' := 57) (ls' := [some (.ref 60), none, none, some (.int l3), some (.int l4), some (.int l5), some (.int l6), some (.int 0), some (.int 0)]) (st' := []) (g' := g) (by decide +kernel) rfl ?_
        exact t_X12_listen_60_57 hS A hR hrm hz ih _ _ _ _ _ _ _ _ H
theorem fr_X12_listen_60_39   : ∀ (n : Nat) (l3 : Int32) (l4 : Int32) (l5 : Int32) (l6 : Int32) (g : xG) (out : Int32 × xG), f_X12_listen_60_39 n l3 l4 l5 l6 g = some out → xfrm fp_X12_listen_60 g (out.2) := by
  intro n
  induction n with
  | zero => intro l3 l4 l5 l6 g out H; exact absurd H (by simp [f_X12_listen_60_39])
  | succ n ih =>
    intro l3 l4 l5 l6 g out H
    have H : (if 1000 ≤ l6 then
  some (l4, g)
else
  if l3 = 0 then
    some (l4, g)
  else
    f_X12_listen_60_57 (f_X12_listen_60_39 n) xN l3 l4 l5 l6 0 0 g) = some out := H
    by_cases h3 : 1000 ≤ l6
    · rw [if_pos h3] at H
      obtain rfl := Option.some.inj H
      exact xfrm.rf
    · rw [if_neg h3] at H
      by_cases h4 : l3 = 0
      · rw [if_pos h4] at H
        obtain rfl := Option.some.inj H
        exact xfrm.rf
      · rw [if_neg h4] at H
        exact xfrm.tr xfrm.rf (fr_X12_listen_60_57 ih _ _ _ _ _ _ _ _ _ H) rfl
set_option maxRecDepth 20000 in
theorem c_X12_listen_60 {S : List xSh} (hS : xpf SH2 S) {g : xG} {p1 : Int32} {p2 : Int32} (out : Int32 × xG) (H : f_X12_listen_60 p1 p2 g = some out) : xC mX12_listen 7 159 0 0 S [.ref 60, .int p1, .int p2] g S (fun r g' => r = some (.int out.1) ∧ g' = out.2) := by
  have H : (if (f_X12_in p1 0 (g.1 60 58)) = 0 then
  some ((-1), g)
else
  (f_X12_isPerson_60 p2 g).bind fun w1 =>
  if w1 = 0 then
    some ((-1), g)
  else
    (f_X12_whenceBits_60 p1 p2 g).bind fun w2 =>
    f_X12_listen_60_39 xN w2.1 (-2) 0 1 w2.2) = some out := H
  refine xC.of 12 SH2 [some (.ref 60), some (.int p1), some (.int p2), none, none, none, none, none, none] hS (by decide +kernel) rfl (fun _ _ => Nat.le_of_ble_eq_true rfl) (fun _ _ => rfl) ?_
  intro k A hR hrm hz
  refine xb A [(.iload_n 1, 1, 0, 0, .null), (.iconst 0, 1, 0, 0, .int 0), (.aload_n 0, 1, 0, 0, .null), (.getfield 248, 3, 60, 58, .int 0)] (pc' := 6) (ls' := [some (.ref 60), some (.int p1), some (.int p2), none, none, none, none, none, none]) (st' := [.int (g.1 60 58), .int 0, .int p1]) (g' := g) (by decide +kernel) rfl ?_
  refine xcallS A (ix := 307) (nxt := 9) hrm hz [.int p1, .int 0, .int (g.1 60 58)] [] 1696 (c_X12_in hS _ rfl) ok_X12_in (by decide +kernel) rfl (fun r g1 hq => ?_)
  rw [hq.1, hq.2]
  show xW k S 0 0 9 [some (.ref 60), some (.int p1), some (.int p2), none, none, none, none, none, none] [.int (f_X12_in p1 0 (g.1 60 58))] g
  refine xif_eq A (11) 20 12 (by decide +kernel) (fun h1 => ?_) (fun h1 => ?_)
  · rw [if_pos h1] at H
    refine xb A [(.iconst (-1), 1, 0, 0, .int (-1))] (pc' := 21) (ls' := [some (.ref 60), some (.int p1), some (.int p2), none, none, none, none, none, none]) (st' := [.int (-1)]) (g' := g) (by decide +kernel) rfl ?_
    obtain rfl := Option.some.inj H
    exact xret_i A hR hz (by decide +kernel) rfl ⟨rfl, rfl⟩
  · rw [if_neg h1] at H
    refine xb A [(.aload_n 0, 1, 0, 0, .null), (.iload_n 2, 1, 0, 0, .null)] (pc' := 14) (ls' := [some (.ref 60), some (.int p1), some (.int p2), none, none, none, none, none, none]) (st' := [.int p2, .ref 60]) (g' := g) (by decide +kernel) rfl ?_
    obtain ⟨w1, e1, H⟩ := xbind H
    refine xcallV A (ix := 425) (nxt := 17) hrm hz [.int p2] [] 1739 (c_X12_isPerson_60 hS _ e1) ok_X12_isPerson (by decide +kernel) rfl (fun r g1 hq => ?_)
    rw [hq.1, hq.2]
    show xW k S 0 0 17 [some (.ref 60), some (.int p1), some (.int p2), none, none, none, none, none, none] [.int w1] g
    refine xif_ne A (5) 22 20 (by decide +kernel) (fun h2 => ?_) (fun h2 => ?_)
    · rw [if_neg h2] at H
      refine xb A [(.aload_n 0, 1, 0, 0, .null), (.iload_n 1, 1, 0, 0, .null), (.iload_n 2, 1, 0, 0, .null)] (pc' := 25) (ls' := [some (.ref 60), some (.int p1), some (.int p2), none, none, none, none, none, none]) (st' := [.int p2, .int p1, .ref 60]) (g' := g) (by decide +kernel) rfl ?_
      obtain ⟨w2, e2, H⟩ := xbind H
      refine xcallV A (ix := 471) (nxt := 28) hrm hz [.int p1, .int p2] [] 2024 (c_X12_whenceBits_60 hS _ e2) ok_X12_whenceBits (by decide +kernel) rfl (fun r g1 hq => ?_)
      rw [hq.1, hq.2]
      show xW k S 0 0 28 [some (.ref 60), some (.int p1), some (.int p2), none, none, none, none, none, none] [.int w2.1] w2.2
      refine xb A [(.istore_n 3, 1, 0, 0, .null), (.bipush (-2), 2, 0, 0, .int (-2)), (.istore 4, 2, 0, 0, .null), (.iconst 0, 1, 0, 0, .int 0), (.istore 5, 2, 0, 0, .null), (.iconst 1, 1, 0, 0, .int 1), (.istore 6, 2, 0, 0, .null)] (pc' := 39) (ls' := [some (.ref 60), some (.int p1), some (.int p2), some (.int w2.1), some (.int (-2)), some (.int 0), some (.int 1), none, none]) (st' := []) (g' := w2.2) (by decide +kernel) rfl ?_
      refine xweak (ls' := [some (.ref 60), none, none, some (.int w2.1), some (.int (-2)), some (.int 0), some (.int 1), none, none]) (by exact ⟨rfl, ⟨rfl, ⟨rfl, ⟨rfl, ⟨rfl, trivial⟩⟩⟩⟩⟩) ?_
      exact t_X12_listen_60_39 hS A hR hrm hz _ _ _ _ _ _ H
    · rw [if_pos h2] at H
      refine xb A [(.iconst (-1), 1, 0, 0, .int (-1))] (pc' := 21) (ls' := [some (.ref 60), some (.int p1), some (.int p2), none, none, none, none, none, none]) (st' := [.int (-1)]) (g' := g) (by decide +kernel) rfl ?_
      obtain rfl := Option.some.inj H
      exact xret_i A hR hz (by decide +kernel) rfl ⟨rfl, rfl⟩
theorem fr_X12_listen_60 {p1 : Int32} {p2 : Int32} {g : xG} (out : Int32 × xG) (H : f_X12_listen_60 p1 p2 g = some out) : xfrm fp_X12_listen_60 g (out.2) := by
  have H : (if (f_X12_in p1 0 (g.1 60 58)) = 0 then
  some ((-1), g)
else
  (f_X12_isPerson_60 p2 g).bind fun w1 =>
  if w1 = 0 then
    some ((-1), g)
  else
    (f_X12_whenceBits_60 p1 p2 g).bind fun w2 =>
    f_X12_listen_60_39 xN w2.1 (-2) 0 1 w2.2) = some out := H
  by_cases h1 : (f_X12_in p1 0 (g.1 60 58)) = 0
  · rw [if_pos h1] at H
    obtain rfl := Option.some.inj H
    exact xfrm.rf
  · rw [if_neg h1] at H
    obtain ⟨w1, e1, H⟩ := xbind H
    by_cases h2 : w1 = 0
    · rw [if_pos h2] at H
      obtain rfl := Option.some.inj H
      exact xfrm.rf
    · rw [if_neg h2] at H
      obtain ⟨w2, e2, H⟩ := xbind H
      have hf1 : xfrm fp_X12_listen_60 g (w2.2) := xfrm.tr xfrm.rf (fr_X12_whenceBits_60 _ e2) rfl
      exact xfrm.tr hf1 (fr_X12_listen_60_39 _ _ _ _ _ _ _ H) rfl
def fp_X12_hold_60 : List (Nat × Option Nat) := [(101, none), (102, none)]
def f_X12_hold_60_20  : Nat → Int32 → Int32 → xG → Option (Int32 × xG)
  | 0, _, _, _ => none
  | n + 1, l1, l2, g =>
    if 40 ≤ l2 then
      some (1, g)
    else
      xg (¬ (l2 < 0 ∨ 40 ≤ l2.toNatClampNeg)) (
        xg (¬ (((40 * l1) + l2) < 0 ∨ 120 ≤ ((40 * l1) + l2).toNatClampNeg)) (
          f_X12_hold_60_20 n l1 (l2 + 1) (xupd g.1 102 ((40 * l1) + l2).toNatClampNeg (g.1 93 l2.toNatClampNeg), g.2)))
def f_X12_hold_60 (p1 : Int32) (g : xG) : Option (Int32 × xG) :=
  if (f_X12_in p1 0 2) = 0 then
    some (0, g)
  else
    xg (¬ (p1 < 0 ∨ 3 ≤ p1.toNatClampNeg)) (
      f_X12_hold_60_20 xN p1 0 (xupd g.1 101 p1.toNatClampNeg (1 &&& 1), g.2))
set_option maxRecDepth 20000 in
theorem t_X12_hold_60_20 {k : xK} {S : List xSh} {out : Int32 × xG} (hS : xpf SH2 S) (A : xAt k mX12_hold.2.1 12 SH2 S) (hR : xRet k 0 0 S (fun r g' => r = some (.int out.1) ∧ g' = out.2) mX12_hold.2.2.2) (hrm : xrm k = { frames := 1, cells := 0, slots := 0, locals := 22 }) (hz : xhs k = xb0 k + S.length)   : ∀ (n : Nat) (l1 : Int32) (l2 : Int32) (g : xG), f_X12_hold_60_20 n l1 l2 g = some out → xW k S 0 0 20 [some (.ref 60), some (.int l1), some (.int l2)] [] g := by
  intro n
  induction n with
  | zero => intro l1 l2 g H; exact absurd H (by simp [f_X12_hold_60_20])
  | succ n ih =>
    intro l1 l2 g H
    have H : (if 40 ≤ l2 then
  some (1, g)
else
  xg (¬ (l2 < 0 ∨ 40 ≤ l2.toNatClampNeg)) (
    xg (¬ (((40 * l1) + l2) < 0 ∨ 120 ≤ ((40 * l1) + l2).toNatClampNeg)) (
      f_X12_hold_60_20 n l1 (l2 + 1) (xupd g.1 102 ((40 * l1) + l2).toNatClampNeg (g.1 93 l2.toNatClampNeg), g.2)))) = some out := H
    refine xb A [(.iload_n 2, 1, 0, 0, .null), (.bipush 40, 2, 0, 0, .int 40)] (pc' := 23) (ls' := [some (.ref 60), some (.int l1), some (.int l2)]) (st' := [.int 40, .int l2]) (g' := g) (by decide +kernel) rfl ?_
    refine xic_ge A (26) 49 26 (by decide +kernel) (fun h3 => ?_) (fun h3 => ?_)
    · rw [if_pos h3] at H
      refine xb A [(.iconst 1, 1, 0, 0, .int 1)] (pc' := 50) (ls' := [some (.ref 60), some (.int l1), some (.int l2)]) (st' := [.int 1]) (g' := g) (by decide +kernel) rfl ?_
      obtain rfl := Option.some.inj H
      exact xret_i A hR hz (by decide +kernel) rfl ⟨rfl, rfl⟩
    · rw [if_neg h3] at H
      refine xb A [(.aload_n 0, 1, 0, 0, .null), (.getfield 143, 3, 60, 63, .ref 102), (.bipush 40, 2, 0, 0, .int 40), (.iload_n 1, 1, 0, 0, .null), (.imul, 1, 0, 0, .null), (.iload_n 2, 1, 0, 0, .null), (.iadd, 1, 0, 0, .null), (.aload_n 0, 1, 0, 0, .null), (.getfield 116, 3, 60, 50, .ref 93), (.iload_n 2, 1, 0, 0, .null)] (pc' := 41) (ls' := [some (.ref 60), some (.int l1), some (.int l2)]) (st' := [.int l2, .ref 93, .int ((40 * l1) + l2), .ref 102]) (g' := g) (by decide +kernel) rfl ?_
      obtain ⟨h4, H⟩ := xg_elim H
      refine xiald A (nxt := 42) (by decide +kernel) (hS _ _ sh_93) h4 ?_
      show xW k S 0 0 42 [some (.ref 60), some (.int l1), some (.int l2)] [.int (g.1 93 l2.toNatClampNeg), .int ((40 * l1) + l2), .ref 102] g
      obtain ⟨h5, H⟩ := xg_elim H
      refine xiast A (nxt := 43) (by decide +kernel) (hS _ _ sh_102) h5 ?_
      show xW k S 0 0 43 [some (.ref 60), some (.int l1), some (.int l2)] [] (xupd g.1 102 ((40 * l1) + l2).toNatClampNeg (g.1 93 l2.toNatClampNeg), g.2)
      refine xb A [(.iinc 2 1, 3, 0, 0, .null)] (pc' := 46) (ls' := [some (.ref 60), some (.int l1), some (.int (l2 + 1))]) (st' := []) (g' := (xupd g.1 102 ((40 * l1) + l2).toNatClampNeg (g.1 93 l2.toNatClampNeg), g.2)) (by decide +kernel) rfl ?_
      refine xgoto A (-26) 20 (by decide +kernel) ?_
      exact ih _ _ _ H
theorem fr_X12_hold_60_20   : ∀ (n : Nat) (l1 : Int32) (l2 : Int32) (g : xG) (out : Int32 × xG), f_X12_hold_60_20 n l1 l2 g = some out → xfrm fp_X12_hold_60 g (out.2) := by
  intro n
  induction n with
  | zero => intro l1 l2 g out H; exact absurd H (by simp [f_X12_hold_60_20])
  | succ n ih =>
    intro l1 l2 g out H
    have H : (if 40 ≤ l2 then
  some (1, g)
else
  xg (¬ (l2 < 0 ∨ 40 ≤ l2.toNatClampNeg)) (
    xg (¬ (((40 * l1) + l2) < 0 ∨ 120 ≤ ((40 * l1) + l2).toNatClampNeg)) (
      f_X12_hold_60_20 n l1 (l2 + 1) (xupd g.1 102 ((40 * l1) + l2).toNatClampNeg (g.1 93 l2.toNatClampNeg), g.2)))) = some out := H
    by_cases h3 : 40 ≤ l2
    · rw [if_pos h3] at H
      obtain rfl := Option.some.inj H
      exact xfrm.rf
    · rw [if_neg h3] at H
      obtain ⟨h4, H⟩ := xg_elim H
      obtain ⟨h5, H⟩ := xg_elim H
      have hf2 : xfrm fp_X12_hold_60 g ((xupd g.1 102 ((40 * l1) + l2).toNatClampNeg (g.1 93 l2.toNatClampNeg), g.2)) := xfrm.ua xfrm.rf rfl
      exact xfrm.tr hf2 (ih _ _ _ _ H) rfl
set_option maxRecDepth 20000 in
theorem c_X12_hold_60 {S : List xSh} (hS : xpf SH2 S) {g : xG} {p1 : Int32} (out : Int32 × xG) (H : f_X12_hold_60 p1 g = some out) : xC mX12_hold 1 22 0 0 S [.ref 60, .int p1] g S (fun r g' => r = some (.int out.1) ∧ g' = out.2) := by
  have H : (if (f_X12_in p1 0 2) = 0 then
  some (0, g)
else
  xg (¬ (p1 < 0 ∨ 3 ≤ p1.toNatClampNeg)) (
    f_X12_hold_60_20 xN p1 0 (xupd g.1 101 p1.toNatClampNeg (1 &&& 1), g.2))) = some out := H
  refine xC.of 12 SH2 [some (.ref 60), some (.int p1), none] hS (by decide +kernel) rfl (fun _ _ => Nat.le_of_ble_eq_true rfl) (fun _ _ => rfl) ?_
  intro k A hR hrm hz
  refine xb A [(.iload_n 1, 1, 0, 0, .null), (.iconst 0, 1, 0, 0, .int 0), (.iconst 2, 1, 0, 0, .int 2)] (pc' := 3) (ls' := [some (.ref 60), some (.int p1), none]) (st' := [.int 2, .int 0, .int p1]) (g' := g) (by decide +kernel) rfl ?_
  refine xcallS A (ix := 307) (nxt := 6) hrm hz [.int p1, .int 0, .int 2] [] 1696 (c_X12_in hS _ rfl) ok_X12_in (by decide +kernel) rfl (fun r g1 hq => ?_)
  rw [hq.1, hq.2]
  show xW k S 0 0 6 [some (.ref 60), some (.int p1), none] [.int (f_X12_in p1 0 2)] g
  refine xif_ne A (5) 11 9 (by decide +kernel) (fun h1 => ?_) (fun h1 => ?_)
  · rw [if_neg h1] at H
    refine xb A [(.aload_n 0, 1, 0, 0, .null), (.getfield 140, 3, 60, 62, .ref 101), (.iload_n 1, 1, 0, 0, .null), (.iconst 1, 1, 0, 0, .int 1)] (pc' := 17) (ls' := [some (.ref 60), some (.int p1), none]) (st' := [.int 1, .int p1, .ref 101]) (g' := g) (by decide +kernel) rfl ?_
    obtain ⟨h2, H⟩ := xg_elim H
    refine xzast A (nxt := 18) (by decide +kernel) (hS _ _ sh_101) h2 ?_
    show xW k S 0 0 18 [some (.ref 60), some (.int p1), none] [] (xupd g.1 101 p1.toNatClampNeg (1 &&& 1), g.2)
    refine xb A [(.iconst 0, 1, 0, 0, .int 0), (.istore_n 2, 1, 0, 0, .null)] (pc' := 20) (ls' := [some (.ref 60), some (.int p1), some (.int 0)]) (st' := []) (g' := (xupd g.1 101 p1.toNatClampNeg (1 &&& 1), g.2)) (by decide +kernel) rfl ?_
    exact t_X12_hold_60_20 hS A hR hrm hz _ _ _ _ H
  · rw [if_pos h1] at H
    refine xb A [(.iconst 0, 1, 0, 0, .int 0)] (pc' := 10) (ls' := [some (.ref 60), some (.int p1), none]) (st' := [.int 0]) (g' := g) (by decide +kernel) rfl ?_
    obtain rfl := Option.some.inj H
    exact xret_i A hR hz (by decide +kernel) rfl ⟨rfl, rfl⟩
theorem fr_X12_hold_60 {p1 : Int32} {g : xG} (out : Int32 × xG) (H : f_X12_hold_60 p1 g = some out) : xfrm fp_X12_hold_60 g (out.2) := by
  have H : (if (f_X12_in p1 0 2) = 0 then
  some (0, g)
else
  xg (¬ (p1 < 0 ∨ 3 ≤ p1.toNatClampNeg)) (
    f_X12_hold_60_20 xN p1 0 (xupd g.1 101 p1.toNatClampNeg (1 &&& 1), g.2))) = some out := H
  by_cases h1 : (f_X12_in p1 0 2) = 0
  · rw [if_pos h1] at H
    obtain rfl := Option.some.inj H
    exact xfrm.rf
  · rw [if_neg h1] at H
    obtain ⟨h2, H⟩ := xg_elim H
    have hf1 : xfrm fp_X12_hold_60 g ((xupd g.1 101 p1.toNatClampNeg (1 &&& 1), g.2)) := xfrm.ua xfrm.rf rfl
    exact xfrm.tr hf1 (fr_X12_hold_60_20 _ _ _ _ _ H) rfl
def fp_X12_restore_60 : List (Nat × Option Nat) := [(60, some 55), (93, none)]
def f_X12_restore_60_22  : Nat → Int32 → Int32 → xG → Option (Int32 × xG)
  | 0, _, _, _ => none
  | n + 1, l1, l2, g =>
    if 40 ≤ l2 then
      some (1, (xupd g.1 60 55 0, g.2))
    else
      xg (¬ (((40 * l1) + l2) < 0 ∨ 120 ≤ ((40 * l1) + l2).toNatClampNeg)) (
        xg (¬ (l2 < 0 ∨ 40 ≤ l2.toNatClampNeg)) (
          f_X12_restore_60_22 n l1 (l2 + 1) (xupd g.1 93 l2.toNatClampNeg (g.1 102 ((40 * l1) + l2).toNatClampNeg), g.2)))
def f_X12_restore_60 (p1 : Int32) (g : xG) : Option (Int32 × xG) :=
  if (f_X12_in p1 0 2) = 0 then
    some (0, g)
  else
    xg (¬ (p1 < 0 ∨ 3 ≤ p1.toNatClampNeg)) (
      if (g.1 101 p1.toNatClampNeg) = 0 then
        some (0, g)
      else
        f_X12_restore_60_22 xN p1 0 g)
set_option maxRecDepth 20000 in
theorem t_X12_restore_60_22 {k : xK} {S : List xSh} {out : Int32 × xG} (hS : xpf SH2 S) (A : xAt k mX12_restore.2.1 12 SH2 S) (hR : xRet k 0 0 S (fun r g' => r = some (.int out.1) ∧ g' = out.2) mX12_restore.2.2.2) (hrm : xrm k = { frames := 1, cells := 0, slots := 0, locals := 22 }) (hz : xhs k = xb0 k + S.length)   : ∀ (n : Nat) (l1 : Int32) (l2 : Int32) (g : xG), f_X12_restore_60_22 n l1 l2 g = some out → xW k S 0 0 22 [some (.ref 60), some (.int l1), some (.int l2)] [] g := by
  intro n
  induction n with
  | zero => intro l1 l2 g H; exact absurd H (by simp [f_X12_restore_60_22])
  | succ n ih =>
    intro l1 l2 g H
    have H : (if 40 ≤ l2 then
  some (1, (xupd g.1 60 55 0, g.2))
else
  xg (¬ (((40 * l1) + l2) < 0 ∨ 120 ≤ ((40 * l1) + l2).toNatClampNeg)) (
    xg (¬ (l2 < 0 ∨ 40 ≤ l2.toNatClampNeg)) (
      f_X12_restore_60_22 n l1 (l2 + 1) (xupd g.1 93 l2.toNatClampNeg (g.1 102 ((40 * l1) + l2).toNatClampNeg), g.2)))) = some out := H
    refine xb A [(.iload_n 2, 1, 0, 0, .null), (.bipush 40, 2, 0, 0, .int 40)] (pc' := 25) (ls' := [some (.ref 60), some (.int l1), some (.int l2)]) (st' := [.int 40, .int l2]) (g' := g) (by decide +kernel) rfl ?_
    refine xic_ge A (26) 51 28 (by decide +kernel) (fun h4 => ?_) (fun h4 => ?_)
    · rw [if_pos h4] at H
      refine xb A [(.aload_n 0, 1, 0, 0, .null), (.iconst 0, 1, 0, 0, .int 0), (.putfield 245, 3, 60, 55, .int 0), (.iconst 1, 1, 0, 0, .int 1)] (pc' := 57) (ls' := [some (.ref 60), some (.int l1), some (.int l2)]) (st' := [.int 1]) (g' := (xupd g.1 60 55 0, g.2)) (by decide +kernel) rfl ?_
      obtain rfl := Option.some.inj H
      exact xret_i A hR hz (by decide +kernel) rfl ⟨rfl, rfl⟩
    · rw [if_neg h4] at H
      refine xb A [(.aload_n 0, 1, 0, 0, .null), (.getfield 116, 3, 60, 50, .ref 93), (.iload_n 2, 1, 0, 0, .null), (.aload_n 0, 1, 0, 0, .null), (.getfield 143, 3, 60, 63, .ref 102), (.bipush 40, 2, 0, 0, .int 40), (.iload_n 1, 1, 0, 0, .null), (.imul, 1, 0, 0, .null), (.iload_n 2, 1, 0, 0, .null), (.iadd, 1, 0, 0, .null)] (pc' := 43) (ls' := [some (.ref 60), some (.int l1), some (.int l2)]) (st' := [.int ((40 * l1) + l2), .ref 102, .int l2, .ref 93]) (g' := g) (by decide +kernel) rfl ?_
      obtain ⟨h5, H⟩ := xg_elim H
      refine xiald A (nxt := 44) (by decide +kernel) (hS _ _ sh_102) h5 ?_
      show xW k S 0 0 44 [some (.ref 60), some (.int l1), some (.int l2)] [.int (g.1 102 ((40 * l1) + l2).toNatClampNeg), .int l2, .ref 93] g
      obtain ⟨h6, H⟩ := xg_elim H
      refine xiast A (nxt := 45) (by decide +kernel) (hS _ _ sh_93) h6 ?_
      show xW k S 0 0 45 [some (.ref 60), some (.int l1), some (.int l2)] [] (xupd g.1 93 l2.toNatClampNeg (g.1 102 ((40 * l1) + l2).toNatClampNeg), g.2)
      refine xb A [(.iinc 2 1, 3, 0, 0, .null)] (pc' := 48) (ls' := [some (.ref 60), some (.int l1), some (.int (l2 + 1))]) (st' := []) (g' := (xupd g.1 93 l2.toNatClampNeg (g.1 102 ((40 * l1) + l2).toNatClampNeg), g.2)) (by decide +kernel) rfl ?_
      refine xgoto A (-26) 22 (by decide +kernel) ?_
      exact ih _ _ _ H
theorem fr_X12_restore_60_22   : ∀ (n : Nat) (l1 : Int32) (l2 : Int32) (g : xG) (out : Int32 × xG), f_X12_restore_60_22 n l1 l2 g = some out → xfrm fp_X12_restore_60 g (out.2) := by
  intro n
  induction n with
  | zero => intro l1 l2 g out H; exact absurd H (by simp [f_X12_restore_60_22])
  | succ n ih =>
    intro l1 l2 g out H
    have H : (if 40 ≤ l2 then
  some (1, (xupd g.1 60 55 0, g.2))
else
  xg (¬ (((40 * l1) + l2) < 0 ∨ 120 ≤ ((40 * l1) + l2).toNatClampNeg)) (
    xg (¬ (l2 < 0 ∨ 40 ≤ l2.toNatClampNeg)) (
      f_X12_restore_60_22 n l1 (l2 + 1) (xupd g.1 93 l2.toNatClampNeg (g.1 102 ((40 * l1) + l2).toNatClampNeg), g.2)))) = some out := H
    by_cases h4 : 40 ≤ l2
    · rw [if_pos h4] at H
      have hf1 : xfrm fp_X12_restore_60 g ((xupd g.1 60 55 0, g.2)) := xfrm.up xfrm.rf rfl
      obtain rfl := Option.some.inj H
      exact hf1
    · rw [if_neg h4] at H
      obtain ⟨h5, H⟩ := xg_elim H
      obtain ⟨h6, H⟩ := xg_elim H
      have hf2 : xfrm fp_X12_restore_60 g ((xupd g.1 93 l2.toNatClampNeg (g.1 102 ((40 * l1) + l2).toNatClampNeg), g.2)) := xfrm.ua xfrm.rf rfl
      exact xfrm.tr hf2 (ih _ _ _ _ H) rfl
set_option maxRecDepth 20000 in
theorem c_X12_restore_60 {S : List xSh} (hS : xpf SH2 S) {g : xG} {p1 : Int32} (out : Int32 × xG) (H : f_X12_restore_60 p1 g = some out) : xC mX12_restore 1 22 0 0 S [.ref 60, .int p1] g S (fun r g' => r = some (.int out.1) ∧ g' = out.2) := by
  have H : (if (f_X12_in p1 0 2) = 0 then
  some (0, g)
else
  xg (¬ (p1 < 0 ∨ 3 ≤ p1.toNatClampNeg)) (
    if (g.1 101 p1.toNatClampNeg) = 0 then
      some (0, g)
    else
      f_X12_restore_60_22 xN p1 0 g)) = some out := H
  refine xC.of 12 SH2 [some (.ref 60), some (.int p1), none] hS (by decide +kernel) rfl (fun _ _ => Nat.le_of_ble_eq_true rfl) (fun _ _ => rfl) ?_
  intro k A hR hrm hz
  refine xb A [(.iload_n 1, 1, 0, 0, .null), (.iconst 0, 1, 0, 0, .int 0), (.iconst 2, 1, 0, 0, .int 2)] (pc' := 3) (ls' := [some (.ref 60), some (.int p1), none]) (st' := [.int 2, .int 0, .int p1]) (g' := g) (by decide +kernel) rfl ?_
  refine xcallS A (ix := 307) (nxt := 6) hrm hz [.int p1, .int 0, .int 2] [] 1696 (c_X12_in hS _ rfl) ok_X12_in (by decide +kernel) rfl (fun r g1 hq => ?_)
  rw [hq.1, hq.2]
  show xW k S 0 0 6 [some (.ref 60), some (.int p1), none] [.int (f_X12_in p1 0 2)] g
  refine xif_eq A (12) 18 9 (by decide +kernel) (fun h1 => ?_) (fun h1 => ?_)
  · rw [if_pos h1] at H
    refine xb A [(.iconst 0, 1, 0, 0, .int 0)] (pc' := 19) (ls' := [some (.ref 60), some (.int p1), none]) (st' := [.int 0]) (g' := g) (by decide +kernel) rfl ?_
    obtain rfl := Option.some.inj H
    exact xret_i A hR hz (by decide +kernel) rfl ⟨rfl, rfl⟩
  · rw [if_neg h1] at H
    refine xb A [(.aload_n 0, 1, 0, 0, .null), (.getfield 140, 3, 60, 62, .ref 101), (.iload_n 1, 1, 0, 0, .null)] (pc' := 14) (ls' := [some (.ref 60), some (.int p1), none]) (st' := [.int p1, .ref 101]) (g' := g) (by decide +kernel) rfl ?_
    obtain ⟨h2, H⟩ := xg_elim H
    refine xzald A (nxt := 15) (by decide +kernel) (hS _ _ sh_101) h2 ?_
    show xW k S 0 0 15 [some (.ref 60), some (.int p1), none] [.int (g.1 101 p1.toNatClampNeg)] g
    refine xif_ne A (5) 20 18 (by decide +kernel) (fun h3 => ?_) (fun h3 => ?_)
    · rw [if_neg h3] at H
      refine xb A [(.iconst 0, 1, 0, 0, .int 0), (.istore_n 2, 1, 0, 0, .null)] (pc' := 22) (ls' := [some (.ref 60), some (.int p1), some (.int 0)]) (st' := []) (g' := g) (by decide +kernel) rfl ?_
      exact t_X12_restore_60_22 hS A hR hrm hz _ _ _ _ H
    · rw [if_pos h3] at H
      refine xb A [(.iconst 0, 1, 0, 0, .int 0)] (pc' := 19) (ls' := [some (.ref 60), some (.int p1), none]) (st' := [.int 0]) (g' := g) (by decide +kernel) rfl ?_
      obtain rfl := Option.some.inj H
      exact xret_i A hR hz (by decide +kernel) rfl ⟨rfl, rfl⟩
theorem fr_X12_restore_60 {p1 : Int32} {g : xG} (out : Int32 × xG) (H : f_X12_restore_60 p1 g = some out) : xfrm fp_X12_restore_60 g (out.2) := by
  have H : (if (f_X12_in p1 0 2) = 0 then
  some (0, g)
else
  xg (¬ (p1 < 0 ∨ 3 ≤ p1.toNatClampNeg)) (
    if (g.1 101 p1.toNatClampNeg) = 0 then
      some (0, g)
    else
      f_X12_restore_60_22 xN p1 0 g)) = some out := H
  by_cases h1 : (f_X12_in p1 0 2) = 0
  · rw [if_pos h1] at H
    obtain rfl := Option.some.inj H
    exact xfrm.rf
  · rw [if_neg h1] at H
    obtain ⟨h2, H⟩ := xg_elim H
    by_cases h3 : (g.1 101 p1.toNatClampNeg) = 0
    · rw [if_pos h3] at H
      obtain rfl := Option.some.inj H
      exact xfrm.rf
    · rw [if_neg h3] at H
      exact xfrm.tr xfrm.rf (fr_X12_restore_60_22 _ _ _ _ _ H) rfl
