/-! methods, walked by program -/
def fp_X12_copies_60 : List (Nat × Option Nat) := [(60, some 52), (60, some 53), (94, none), (95, none)]
def f_X12_copies_60_2  : Nat → Int32 → xG → Option (xG)
  | 0, _, _ => none
  | n + 1, l1, g =>
    if 40 ≤ l1 then
      xg (¬ ((g.1 60 18) < 0 ∨ 2 ≤ (g.1 60 18).toNatClampNeg)) (
        (f_X12_fillsFar_60 (xupd (xupd g.1 60 52 (g.1 80 (g.1 60 18).toNatClampNeg)) 60 53 0, g.2)).bind fun w1 =>
        some w1)
    else
      xg (¬ (l1 < 0 ∨ 40 ≤ l1.toNatClampNeg)) (
        xg (¬ (l1 < 0 ∨ 40 ≤ l1.toNatClampNeg)) (
          f_X12_copies_60_2 n (l1 + 1) (xupd g.1 94 l1.toNatClampNeg (g.1 93 l1.toNatClampNeg), g.2)))
def f_X12_copies_60  (g : xG) : Option (xG) :=
  f_X12_copies_60_2 xN 0 g
set_option maxRecDepth 20000 in
theorem t_X12_copies_60_2 {k : xK} {S : List xSh} {out : xG} (hS : xpf SH2 S) (A : xAt k mX12_copies.2.1 12 SH2 S) (hR : xRet k 0 0 S (fun r g' => r = none ∧ g' = out) mX12_copies.2.2.2) (hrm : xrm k = { frames := 1, cells := 0, slots := 0, locals := 23 }) (hz : xhs k = xb0 k + S.length)   : ∀ (n : Nat) (l1 : Int32) (g : xG), f_X12_copies_60_2 n l1 g = some out → xW k S 0 0 2 [some (.ref 60), some (.int l1)] [] g := by
  intro n
  induction n with
  | zero => intro l1 g H; exact absurd H (by simp [f_X12_copies_60_2])
  | succ n ih =>
    intro l1 g H
    have H : (if 40 ≤ l1 then
  xg (¬ ((g.1 60 18) < 0 ∨ 2 ≤ (g.1 60 18).toNatClampNeg)) (
    (f_X12_fillsFar_60 (xupd (xupd g.1 60 52 (g.1 80 (g.1 60 18).toNatClampNeg)) 60 53 0, g.2)).bind fun w1 =>
    some w1)
else
  xg (¬ (l1 < 0 ∨ 40 ≤ l1.toNatClampNeg)) (
    xg (¬ (l1 < 0 ∨ 40 ≤ l1.toNatClampNeg)) (
      f_X12_copies_60_2 n (l1 + 1) (xupd g.1 94 l1.toNatClampNeg (g.1 93 l1.toNatClampNeg), g.2)))) = some out := H
    refine xb A [(.iload_n 1, 1, 0, 0, .null), (.bipush 40, 2, 0, 0, .int 40)] (pc' := 5) (ls' := [some (.ref 60), some (.int l1)]) (st' := [.int 40, .int l1]) (g' := g) (by decide +kernel) rfl ?_
    refine xic_ge A (21) 26 8 (by decide +kernel) (fun h1 => ?_) (fun h1 => ?_)
    · rw [if_pos h1] at H
      refine xb A [(.aload_n 0, 1, 0, 0, .null), (.aload_n 0, 1, 0, 0, .null), (.getfield 76, 3, 60, 33, .ref 80), (.aload_n 0, 1, 0, 0, .null), (.getfield 227, 3, 60, 18, .int 0)] (pc' := 35) (ls' := [some (.ref 60), some (.int l1)]) (st' := [.int (g.1 60 18), .ref 80, .ref 60]) (g' := g) (by decide +kernel) rfl ?_
      obtain ⟨h2, H⟩ := xg_elim H
      refine xiald A (nxt := 36) (by decide +kernel) (hS _ _ sh_80) h2 ?_
      show xW k S 0 0 36 [some (.ref 60), some (.int l1)] [.int (g.1 80 (g.1 60 18).toNatClampNeg), .ref 60] g
      refine xb A [(.putfield 311, 3, 60, 52, .int 0), (.aload_n 0, 1, 0, 0, .null), (.iconst 0, 1, 0, 0, .int 0), (.putfield 314, 3, 60, 53, .int 1), (.aload_n 0, 1, 0, 0, .null)] (pc' := 45) (ls' := [some (.ref 60), some (.int l1)]) (st' := [.ref 60]) (g' := (xupd (xupd g.1 60 52 (g.1 80 (g.1 60 18).toNatClampNeg)) 60 53 0, g.2)) (by decide +kernel) rfl ?_
      obtain ⟨w1, e1, H⟩ := xbind H
      refine xcallV A (ix := 317) (nxt := 48) hrm hz [] [] 1703 (c_X12_fillsFar_60 hS _ e1) ok_X12_fillsFar (by decide +kernel) rfl (fun r g1 hq => ?_)
      rw [hq.1, hq.2]
      show xW k S 0 0 48 [some (.ref 60), some (.int l1)] [] w1
      obtain rfl := Option.some.inj H
      exact xret_v A hR hz (by decide +kernel) ⟨rfl, rfl⟩
    · rw [if_neg h1] at H
      refine xb A [(.aload_n 0, 1, 0, 0, .null), (.getfield 119, 3, 60, 51, .ref 94), (.iload_n 1, 1, 0, 0, .null), (.aload_n 0, 1, 0, 0, .null), (.getfield 116, 3, 60, 50, .ref 93), (.iload_n 1, 1, 0, 0, .null)] (pc' := 18) (ls' := [some (.ref 60), some (.int l1)]) (st' := [.int l1, .ref 93, .int l1, .ref 94]) (g' := g) (by decide +kernel) rfl ?_
      obtain ⟨h3, H⟩ := xg_elim H
      refine xiald A (nxt := 19) (by decide +kernel) (hS _ _ sh_93) h3 ?_
      show xW k S 0 0 19 [some (.ref 60), some (.int l1)] [.int (g.1 93 l1.toNatClampNeg), .int l1, .ref 94] g
      obtain ⟨h4, H⟩ := xg_elim H
      refine xiast A (nxt := 20) (by decide +kernel) (hS _ _ sh_94) h4 ?_
      show xW k S 0 0 20 [some (.ref 60), some (.int l1)] [] (xupd g.1 94 l1.toNatClampNeg (g.1 93 l1.toNatClampNeg), g.2)
      refine xb A [(.iinc 1 1, 3, 0, 0, .null)] (pc' := 23) (ls' := [some (.ref 60), some (.int (l1 + 1))]) (st' := []) (g' := (xupd g.1 94 l1.toNatClampNeg (g.1 93 l1.toNatClampNeg), g.2)) (by decide +kernel) rfl ?_
      refine xgoto A (-21) 2 (by decide +kernel) ?_
      exact ih _ _ H
theorem fr_X12_copies_60_2   : ∀ (n : Nat) (l1 : Int32) (g : xG) (out : xG), f_X12_copies_60_2 n l1 g = some out → xfrm fp_X12_copies_60 g (out) := by
  intro n
  induction n with
  | zero => intro l1 g out H; exact absurd H (by simp [f_X12_copies_60_2])
  | succ n ih =>
    intro l1 g out H
    have H : (if 40 ≤ l1 then
  xg (¬ ((g.1 60 18) < 0 ∨ 2 ≤ (g.1 60 18).toNatClampNeg)) (
    (f_X12_fillsFar_60 (xupd (xupd g.1 60 52 (g.1 80 (g.1 60 18).toNatClampNeg)) 60 53 0, g.2)).bind fun w1 =>
    some w1)
else
  xg (¬ (l1 < 0 ∨ 40 ≤ l1.toNatClampNeg)) (
    xg (¬ (l1 < 0 ∨ 40 ≤ l1.toNatClampNeg)) (
      f_X12_copies_60_2 n (l1 + 1) (xupd g.1 94 l1.toNatClampNeg (g.1 93 l1.toNatClampNeg), g.2)))) = some out := H
    by_cases h1 : 40 ≤ l1
    · rw [if_pos h1] at H
      obtain ⟨h2, H⟩ := xg_elim H
      have hf1 : xfrm fp_X12_copies_60 g ((xupd g.1 60 52 (g.1 80 (g.1 60 18).toNatClampNeg), g.2)) := xfrm.up xfrm.rf rfl
      have hf2 : xfrm fp_X12_copies_60 g ((xupd (xupd g.1 60 52 (g.1 80 (g.1 60 18).toNatClampNeg)) 60 53 0, g.2)) := xfrm.up hf1 rfl
      obtain ⟨w1, e1, H⟩ := xbind H
      have hf3 : xfrm fp_X12_copies_60 g (w1) := xfrm.tr hf2 (fr_X12_fillsFar_60 _ e1) rfl
      obtain rfl := Option.some.inj H
      exact hf3
    · rw [if_neg h1] at H
      obtain ⟨h3, H⟩ := xg_elim H
      obtain ⟨h4, H⟩ := xg_elim H
      have hf4 : xfrm fp_X12_copies_60 g ((xupd g.1 94 l1.toNatClampNeg (g.1 93 l1.toNatClampNeg), g.2)) := xfrm.ua xfrm.rf rfl
      exact xfrm.tr hf4 (ih _ _ _ H) rfl
set_option maxRecDepth 20000 in
theorem c_X12_copies_60 {S : List xSh} (hS : xpf SH2 S) {g : xG}  (out : xG) (H : f_X12_copies_60  g = some out) : xC mX12_copies 1 23 0 0 S [.ref 60] g S (fun r g' => r = none ∧ g' = out) := by
  have H : (f_X12_copies_60_2 xN 0 g) = some out := H
  refine xC.of 12 SH2 [some (.ref 60), none] hS (by decide +kernel) rfl (fun _ _ => Nat.le_of_ble_eq_true rfl) (fun _ _ => rfl) ?_
  intro k A hR hrm hz
  refine xb A [(.iconst 0, 1, 0, 0, .int 0), (.istore_n 1, 1, 0, 0, .null)] (pc' := 2) (ls' := [some (.ref 60), some (.int 0)]) (st' := []) (g' := g) (by decide +kernel) rfl ?_
  exact t_X12_copies_60_2 hS A hR hrm hz _ _ _ H
theorem fr_X12_copies_60  {g : xG} (out : xG) (H : f_X12_copies_60  g = some out) : xfrm fp_X12_copies_60 g (out) := by
  have H : (f_X12_copies_60_2 xN 0 g) = some out := H
  exact xfrm.tr xfrm.rf (fr_X12_copies_60_2 _ _ _ _ H) rfl
def f_X12_farFrom_60 (p1 : Int32) (g : xG) : Option (Int32) :=
  xg (¬ ((g.1 60 18) < 0 ∨ 2 ≤ (g.1 60 18).toNatClampNeg)) (
    xg (¬ (((7 * p1) + (g.1 79 (g.1 60 18).toNatClampNeg)) < 0 ∨ 49 ≤ ((7 * p1) + (g.1 79 (g.1 60 18).toNatClampNeg)).toNatClampNeg)) (
      some (g.1 95 ((7 * p1) + (g.1 79 (g.1 60 18).toNatClampNeg)).toNatClampNeg)))
set_option maxRecDepth 20000 in
theorem c_X12_farFrom_60 {S : List xSh} (hS : xpf SH2 S) {g : xG} {p1 : Int32} (out : Int32) (H : f_X12_farFrom_60 p1 g = some out) : xC mX12_farFrom 0 0 0 0 S [.ref 60, .int p1] g S (fun r g' => r = some (.int out) ∧ g' = g) := by
  have H : (xg (¬ ((g.1 60 18) < 0 ∨ 2 ≤ (g.1 60 18).toNatClampNeg)) (
  xg (¬ (((7 * p1) + (g.1 79 (g.1 60 18).toNatClampNeg)) < 0 ∨ 49 ≤ ((7 * p1) + (g.1 79 (g.1 60 18).toNatClampNeg)).toNatClampNeg)) (
    some (g.1 95 ((7 * p1) + (g.1 79 (g.1 60 18).toNatClampNeg)).toNatClampNeg)))) = some out := H
  refine xC.of 12 SH2 [some (.ref 60), some (.int p1)] hS (by decide +kernel) rfl (fun _ _ => Nat.le_of_ble_eq_true rfl) (fun _ _ => rfl) ?_
  intro k A hR hrm hz
  refine xb A [(.aload_n 0, 1, 0, 0, .null), (.getfield 122, 3, 60, 54, .ref 95), (.bipush 7, 2, 0, 0, .int 7), (.iload_n 1, 1, 0, 0, .null), (.imul, 1, 0, 0, .null), (.aload_n 0, 1, 0, 0, .null), (.getfield 73, 3, 60, 32, .ref 79), (.aload_n 0, 1, 0, 0, .null), (.getfield 227, 3, 60, 18, .int 0)] (pc' := 16) (ls' := [some (.ref 60), some (.int p1)]) (st' := [.int (g.1 60 18), .ref 79, .int (7 * p1), .ref 95]) (g' := g) (by decide +kernel) rfl ?_
  obtain ⟨h1, H⟩ := xg_elim H
  refine xiald A (nxt := 17) (by decide +kernel) (hS _ _ sh_79) h1 ?_
  show xW k S 0 0 17 [some (.ref 60), some (.int p1)] [.int (g.1 79 (g.1 60 18).toNatClampNeg), .int (7 * p1), .ref 95] g
  refine xb A [(.iadd, 1, 0, 0, .null)] (pc' := 18) (ls' := [some (.ref 60), some (.int p1)]) (st' := [.int ((7 * p1) + (g.1 79 (g.1 60 18).toNatClampNeg)), .ref 95]) (g' := g) (by decide +kernel) rfl ?_
  obtain ⟨h2, H⟩ := xg_elim H
  refine xiald A (nxt := 19) (by decide +kernel) (hS _ _ sh_95) h2 ?_
  show xW k S 0 0 19 [some (.ref 60), some (.int p1)] [.int (g.1 95 ((7 * p1) + (g.1 79 (g.1 60 18).toNatClampNeg)).toNatClampNeg)] g
  obtain rfl := Option.some.inj H
  exact xret_i A hR hz (by decide +kernel) rfl ⟨rfl, rfl⟩
def f_X12_whoAt_60_4  (g : xG) : Nat → Int32 → Int32 → Int32 → Option (Int32)
  | 0, _, _, _ => none
  | n + 1, l1, l2, l3 =>
    xg (¬ ((g.1 60 18) < 0 ∨ 2 ≤ (g.1 60 18).toNatClampNeg)) (
      if (g.1 75 (g.1 60 18).toNatClampNeg) ≤ l3 then
        some l2
      else
        xg (¬ (l3 < 0 ∨ 40 ≤ l3.toNatClampNeg)) (
          if (g.1 94 l3.toNatClampNeg) = l1 then
            f_X12_whoAt_60_4 g n l1 (l2 ||| ((1 : Int32) <<< (l3 &&& 31))) (l3 + 1)
          else
            f_X12_whoAt_60_4 g n l1 l2 (l3 + 1)))
def f_X12_whoAt_60 (p1 : Int32) (g : xG) : Option (Int32) :=
  f_X12_whoAt_60_4 g xN p1 0 0
set_option maxRecDepth 20000 in
theorem t_X12_whoAt_60_4 {k : xK} {S : List xSh} {g : xG} {out : Int32} (hS : xpf SH2 S) (A : xAt k mX12_whoAt.2.1 12 SH2 S) (hR : xRet k 0 0 S (fun r g' => r = some (.int out) ∧ g' = g) mX12_whoAt.2.2.2) (hrm : xrm k = { frames := 0, cells := 0, slots := 0, locals := 0 }) (hz : xhs k = xb0 k + S.length)   : ∀ (n : Nat) (l1 : Int32) (l2 : Int32) (l3 : Int32), f_X12_whoAt_60_4 g n l1 l2 l3 = some out → xW k S 0 0 4 [some (.ref 60), some (.int l1), some (.int l2), some (.int l3)] [] g := by
  intro n
  induction n with
  | zero => intro l1 l2 l3 H; exact absurd H (by simp [f_X12_whoAt_60_4])
  | succ n ih =>
    intro l1 l2 l3 H
    have H : (xg (¬ ((g.1 60 18) < 0 ∨ 2 ≤ (g.1 60 18).toNatClampNeg)) (
  if (g.1 75 (g.1 60 18).toNatClampNeg) ≤ l3 then
    some l2
  else
    xg (¬ (l3 < 0 ∨ 40 ≤ l3.toNatClampNeg)) (
      if (g.1 94 l3.toNatClampNeg) = l1 then
        f_X12_whoAt_60_4 g n l1 (l2 ||| ((1 : Int32) <<< (l3 &&& 31))) (l3 + 1)
      else
        f_X12_whoAt_60_4 g n l1 l2 (l3 + 1)))) = some out := H
    refine xb A [(.iload_n 3, 1, 0, 0, .null), (.aload_n 0, 1, 0, 0, .null), (.getfield 61, 3, 60, 28, .ref 75), (.aload_n 0, 1, 0, 0, .null), (.getfield 227, 3, 60, 18, .int 0)] (pc' := 13) (ls' := [some (.ref 60), some (.int l1), some (.int l2), some (.int l3)]) (st' := [.int (g.1 60 18), .ref 75, .int l3]) (g' := g) (by decide +kernel) rfl ?_
    obtain ⟨h1, H⟩ := xg_elim H
    refine xiald A (nxt := 14) (by decide +kernel) (hS _ _ sh_75) h1 ?_
    show xW k S 0 0 14 [some (.ref 60), some (.int l1), some (.int l2), some (.int l3)] [.int (g.1 75 (g.1 60 18).toNatClampNeg), .int l3] g
    refine xic_ge A (25) 39 17 (by decide +kernel) (fun h2 => ?_) (fun h2 => ?_)
    · rw [if_pos h2] at H
      refine xb A [(.iload_n 2, 1, 0, 0, .null)] (pc' := 40) (ls' := [some (.ref 60), some (.int l1), some (.int l2), some (.int l3)]) (st' := [.int l2]) (g' := g) (by decide +kernel) rfl ?_
      obtain rfl := Option.some.inj H
      exact xret_i A hR hz (by decide +kernel) rfl ⟨rfl, rfl⟩
    · rw [if_neg h2] at H
      refine xb A [(.aload_n 0, 1, 0, 0, .null), (.getfield 119, 3, 60, 51, .ref 94), (.iload_n 3, 1, 0, 0, .null)] (pc' := 22) (ls' := [some (.ref 60), some (.int l1), some (.int l2), some (.int l3)]) (st' := [.int l3, .ref 94]) (g' := g) (by decide +kernel) rfl ?_
      obtain ⟨h3, H⟩ := xg_elim H
      refine xiald A (nxt := 23) (by decide +kernel) (hS _ _ sh_94) h3 ?_
      show xW k S 0 0 23 [some (.ref 60), some (.int l1), some (.int l2), some (.int l3)] [.int (g.1 94 l3.toNatClampNeg)] g
      refine xb A [(.iload_n 1, 1, 0, 0, .null)] (pc' := 24) (ls' := [some (.ref 60), some (.int l1), some (.int l2), some (.int l3)]) (st' := [.int l1, .int (g.1 94 l3.toNatClampNeg)]) (g' := g) (by decide +kernel) rfl ?_
      refine xic_ne A (9) 33 27 (by decide +kernel) (fun h4 => ?_) (fun h4 => ?_)
      · rw [if_neg h4] at H
        refine xb A [(.iinc 3 1, 3, 0, 0, .null)] (pc' := 36) (ls' := [some (.ref 60), some (.int l1), some (.int l2), some (.int (l3 + 1))]) (st' := []) (g' := g) (by decide +kernel) rfl ?_
        refine xgoto A (-32) 4 (by decide +kernel) ?_
        exact ih _ _ _ H
      · rw [if_pos h4] at H
        refine xb A [(.iload_n 2, 1, 0, 0, .null), (.iconst 1, 1, 0, 0, .int 1), (.iload_n 3, 1, 0, 0, .null), (.ishl, 1, 0, 0, .null), (.ior, 1, 0, 0, .null), (.istore_n 2, 1, 0, 0, .null), (.iinc 3 1, 3, 0, 0, .null)] (pc' := 36) (ls' := [some (.ref 60), some (.int l1), some (.int (l2 ||| ((1 : Int32) <<< (l3 &&& 31)))), some (.int (l3 + 1))]) (st' := []) (g' := g) (by decide +kernel) rfl ?_
        refine xgoto A (-32) 4 (by decide +kernel) ?_
        exact ih _ _ _ H
set_option maxRecDepth 20000 in
theorem c_X12_whoAt_60 {S : List xSh} (hS : xpf SH2 S) {g : xG} {p1 : Int32} (out : Int32) (H : f_X12_whoAt_60 p1 g = some out) : xC mX12_whoAt 0 0 0 0 S [.ref 60, .int p1] g S (fun r g' => r = some (.int out) ∧ g' = g) := by
  have H : (f_X12_whoAt_60_4 g xN p1 0 0) = some out := H
  refine xC.of 12 SH2 [some (.ref 60), some (.int p1), none, none] hS (by decide +kernel) rfl (fun _ _ => Nat.le_of_ble_eq_true rfl) (fun _ _ => rfl) ?_
  intro k A hR hrm hz
  refine xb A [(.iconst 0, 1, 0, 0, .int 0), (.istore_n 2, 1, 0, 0, .null), (.iconst 0, 1, 0, 0, .int 0), (.istore_n 3, 1, 0, 0, .null)] (pc' := 4) (ls' := [some (.ref 60), some (.int p1), some (.int 0), some (.int 0)]) (st' := []) (g' := g) (by decide +kernel) rfl ?_
  exact t_X12_whoAt_60_4 hS A hR hrm hz _ _ _ _ H
def f_X12_isOpen_60 (p1 : Int32) (g : xG) : Option (Int32) :=
  xg (¬ ((36 : Int32) < 0 ∨ 40 ≤ (36 : Int32).toNatClampNeg)) (
    if (((g.1 94 (36 : Int32).toNatClampNeg) >>> (p1 &&& 31)) &&& 1) = 0 then
      some 1
    else
      some 0)
set_option maxRecDepth 20000 in
theorem c_X12_isOpen_60 {S : List xSh} (hS : xpf SH2 S) {g : xG} {p1 : Int32} (out : Int32) (H : f_X12_isOpen_60 p1 g = some out) : xC mX12_isOpen 0 0 0 0 S [.ref 60, .int p1] g S (fun r g' => r = some (.int out) ∧ g' = g) := by
  have H : (xg (¬ ((36 : Int32) < 0 ∨ 40 ≤ (36 : Int32).toNatClampNeg)) (
  if (((g.1 94 (36 : Int32).toNatClampNeg) >>> (p1 &&& 31)) &&& 1) = 0 then
    some 1
  else
    some 0)) = some out := H
  refine xC.of 12 SH2 [some (.ref 60), some (.int p1)] hS (by decide +kernel) rfl (fun _ _ => Nat.le_of_ble_eq_true rfl) (fun _ _ => rfl) ?_
  intro k A hR hrm hz
  refine xb A [(.aload_n 0, 1, 0, 0, .null), (.getfield 119, 3, 60, 51, .ref 94), (.bipush 36, 2, 0, 0, .int 36)] (pc' := 6) (ls' := [some (.ref 60), some (.int p1)]) (st' := [.int 36, .ref 94]) (g' := g) (by decide +kernel) rfl ?_
  obtain ⟨h1, H⟩ := xg_elim H
  refine xiald A (nxt := 7) (by decide +kernel) (hS _ _ sh_94) h1 ?_
  show xW k S 0 0 7 [some (.ref 60), some (.int p1)] [.int (g.1 94 (36 : Int32).toNatClampNeg)] g
  refine xb A [(.iload_n 1, 1, 0, 0, .null), (.ishr, 1, 0, 0, .null), (.iconst 1, 1, 0, 0, .int 1), (.iand, 1, 0, 0, .null)] (pc' := 11) (ls' := [some (.ref 60), some (.int p1)]) (st' := [.int (((g.1 94 (36 : Int32).toNatClampNeg) >>> (p1 &&& 31)) &&& 1)]) (g' := g) (by decide +kernel) rfl ?_
  refine xif_ne A (7) 18 14 (by decide +kernel) (fun h2 => ?_) (fun h2 => ?_)
  · rw [if_neg h2] at H
    refine xb A [(.iconst 0, 1, 0, 0, .int 0)] (pc' := 19) (ls' := [some (.ref 60), some (.int p1)]) (st' := [.int 0]) (g' := g) (by decide +kernel) rfl ?_
    obtain rfl := Option.some.inj H
    exact xret_i A hR hz (by decide +kernel) rfl ⟨rfl, rfl⟩
  · rw [if_pos h2] at H
    refine xb A [(.iconst 1, 1, 0, 0, .int 1)] (pc' := 15) (ls' := [some (.ref 60), some (.int p1)]) (st' := [.int 1]) (g' := g) (by decide +kernel) rfl ?_
    refine xgoto A (4) 19 (by decide +kernel) ?_
    obtain rfl := Option.some.inj H
    exact xret_i A hR hz (by decide +kernel) rfl ⟨rfl, rfl⟩
def f_X12_isEnd_60 (p1 : Int32) (p2 : Int32) (g : xG) : Option (Int32) :=
  xg (¬ (((10 * (g.1 60 18)) + p1) < 0 ∨ 20 ≤ ((10 * (g.1 60 18)) + p1).toNatClampNeg)) (
    if (g.1 72 ((10 * (g.1 60 18)) + p1).toNatClampNeg) = p2 then
      some 1
    else
      xg (¬ (((10 * (g.1 60 18)) + p1) < 0 ∨ 20 ≤ ((10 * (g.1 60 18)) + p1).toNatClampNeg)) (
        if (g.1 73 ((10 * (g.1 60 18)) + p1).toNatClampNeg) = p2 then
          some 1
        else
          some 0))
set_option maxRecDepth 20000 in
theorem c_X12_isEnd_60 {S : List xSh} (hS : xpf SH2 S) {g : xG} {p1 : Int32} {p2 : Int32} (out : Int32) (H : f_X12_isEnd_60 p1 p2 g = some out) : xC mX12_isEnd 0 0 0 0 S [.ref 60, .int p1, .int p2] g S (fun r g' => r = some (.int out) ∧ g' = g) := by
  have H : (xg (¬ (((10 * (g.1 60 18)) + p1) < 0 ∨ 20 ≤ ((10 * (g.1 60 18)) + p1).toNatClampNeg)) (
  if (g.1 72 ((10 * (g.1 60 18)) + p1).toNatClampNeg) = p2 then
    some 1
  else
    xg (¬ (((10 * (g.1 60 18)) + p1) < 0 ∨ 20 ≤ ((10 * (g.1 60 18)) + p1).toNatClampNeg)) (
      if (g.1 73 ((10 * (g.1 60 18)) + p1).toNatClampNeg) = p2 then
        some 1
      else
        some 0))) = some out := H
  refine xC.of 12 SH2 [some (.ref 60), some (.int p1), some (.int p2)] hS (by decide +kernel) rfl (fun _ _ => Nat.le_of_ble_eq_true rfl) (fun _ _ => rfl) ?_
  intro k A hR hrm hz
  refine xb A [(.aload_n 0, 1, 0, 0, .null), (.getfield 52, 3, 60, 25, .ref 72), (.bipush 10, 2, 0, 0, .int 10), (.aload_n 0, 1, 0, 0, .null), (.getfield 227, 3, 60, 18, .int 0), (.imul, 1, 0, 0, .null), (.iload_n 1, 1, 0, 0, .null), (.iadd, 1, 0, 0, .null)] (pc' := 13) (ls' := [some (.ref 60), some (.int p1), some (.int p2)]) (st' := [.int ((10 * (g.1 60 18)) + p1), .ref 72]) (g' := g) (by decide +kernel) rfl ?_
  obtain ⟨h1, H⟩ := xg_elim H
  refine xiald A (nxt := 14) (by decide +kernel) (hS _ _ sh_72) h1 ?_
  show xW k S 0 0 14 [some (.ref 60), some (.int p1), some (.int p2)] [.int (g.1 72 ((10 * (g.1 60 18)) + p1).toNatClampNeg)] g
  refine xb A [(.iload_n 2, 1, 0, 0, .null)] (pc' := 15) (ls' := [some (.ref 60), some (.int p1), some (.int p2)]) (st' := [.int p2, .int (g.1 72 ((10 * (g.1 60 18)) + p1).toNatClampNeg)]) (g' := g) (by decide +kernel) rfl ?_
  refine xic_eq A (21) 36 18 (by decide +kernel) (fun h2 => ?_) (fun h2 => ?_)
  · rw [if_pos h2] at H
    refine xb A [(.iconst 1, 1, 0, 0, .int 1)] (pc' := 37) (ls' := [some (.ref 60), some (.int p1), some (.int p2)]) (st' := [.int 1]) (g' := g) (by decide +kernel) rfl ?_
    refine xgoto A (4) 41 (by decide +kernel) ?_
    obtain rfl := Option.some.inj H
    exact xret_i A hR hz (by decide +kernel) rfl ⟨rfl, rfl⟩
  · rw [if_neg h2] at H
    refine xb A [(.aload_n 0, 1, 0, 0, .null), (.getfield 55, 3, 60, 26, .ref 73), (.bipush 10, 2, 0, 0, .int 10), (.aload_n 0, 1, 0, 0, .null), (.getfield 227, 3, 60, 18, .int 0), (.imul, 1, 0, 0, .null), (.iload_n 1, 1, 0, 0, .null), (.iadd, 1, 0, 0, .null)] (pc' := 31) (ls' := [some (.ref 60), some (.int p1), some (.int p2)]) (st' := [.int ((10 * (g.1 60 18)) + p1), .ref 73]) (g' := g) (by decide +kernel) rfl ?_
    obtain ⟨h3, H⟩ := xg_elim H
    refine xiald A (nxt := 32) (by decide +kernel) (hS _ _ sh_73) h3 ?_
    show xW k S 0 0 32 [some (.ref 60), some (.int p1), some (.int p2)] [.int (g.1 73 ((10 * (g.1 60 18)) + p1).toNatClampNeg)] g
    refine xb A [(.iload_n 2, 1, 0, 0, .null)] (pc' := 33) (ls' := [some (.ref 60), some (.int p1), some (.int p2)]) (st' := [.int p2, .int (g.1 73 ((10 * (g.1 60 18)) + p1).toNatClampNeg)]) (g' := g) (by decide +kernel) rfl ?_
    refine xic_ne A (7) 40 36 (by decide +kernel) (fun h4 => ?_) (fun h4 => ?_)
    · rw [if_neg h4] at H
      refine xb A [(.iconst 0, 1, 0, 0, .int 0)] (pc' := 41) (ls' := [some (.ref 60), some (.int p1), some (.int p2)]) (st' := [.int 0]) (g' := g) (by decide +kernel) rfl ?_
      obtain rfl := Option.some.inj H
      exact xret_i A hR hz (by decide +kernel) rfl ⟨rfl, rfl⟩
    · rw [if_pos h4] at H
      refine xb A [(.iconst 1, 1, 0, 0, .int 1)] (pc' := 37) (ls' := [some (.ref 60), some (.int p1), some (.int p2)]) (st' := [.int 1]) (g' := g) (by decide +kernel) rfl ?_
      refine xgoto A (4) 41 (by decide +kernel) ?_
      obtain rfl := Option.some.inj H
      exact xret_i A hR hz (by decide +kernel) rfl ⟨rfl, rfl⟩
def f_X12_roadBits_60_4  (g : xG) : Nat → Int32 → Int32 → Int32 → Option (Int32)
  | 0, _, _, _ => none
  | n + 1, l1, l2, l3 =>
    xg (¬ ((g.1 60 18) < 0 ∨ 2 ≤ (g.1 60 18).toNatClampNeg)) (
      if (g.1 71 (g.1 60 18).toNatClampNeg) ≤ l3 then
        some l2
      else
        (f_X12_isOpen_60 l3 g).bind fun w1 =>
        if w1 = 0 then
          f_X12_roadBits_60_4 g n l1 l2 (l3 + 1)
        else
          (f_X12_isEnd_60 l3 l1 g).bind fun w2 =>
          if w2 = 0 then
            f_X12_roadBits_60_4 g n l1 l2 (l3 + 1)
          else
            f_X12_roadBits_60_4 g n l1 (l2 ||| ((1 : Int32) <<< (l3 &&& 31))) (l3 + 1))
def f_X12_roadBits_60 (p1 : Int32) (g : xG) : Option (Int32) :=
  f_X12_roadBits_60_4 g xN p1 0 0
set_option maxRecDepth 20000 in
theorem t_X12_roadBits_60_4 {k : xK} {S : List xSh} {g : xG} {out : Int32} (hS : xpf SH2 S) (A : xAt k mX12_roadBits.2.1 12 SH2 S) (hR : xRet k 0 0 S (fun r g' => r = some (.int out) ∧ g' = g) mX12_roadBits.2.2.2) (hrm : xrm k = { frames := 1, cells := 0, slots := 0, locals := 22 }) (hz : xhs k = xb0 k + S.length)   : ∀ (n : Nat) (l1 : Int32) (l2 : Int32) (l3 : Int32), f_X12_roadBits_60_4 g n l1 l2 l3 = some out → xW k S 0 0 4 [some (.ref 60), some (.int l1), some (.int l2), some (.int l3)] [] g := by
  intro n
  induction n with
  | zero => intro l1 l2 l3 H; exact absurd H (by simp [f_X12_roadBits_60_4])
  | succ n ih =>
    intro l1 l2 l3 H
    have H : (xg (¬ ((g.1 60 18) < 0 ∨ 2 ≤ (g.1 60 18).toNatClampNeg)) (
  if (g.1 71 (g.1 60 18).toNatClampNeg) ≤ l3 then
    some l2
  else
    (f_X12_isOpen_60 l3 g).bind fun w1 =>
    if w1 = 0 then
      f_X12_roadBits_60_4 g n l1 l2 (l3 + 1)
    else
      (f_X12_isEnd_60 l3 l1 g).bind fun w2 =>
      if w2 = 0 then
        f_X12_roadBits_60_4 g n l1 l2 (l3 + 1)
      else
        f_X12_roadBits_60_4 g n l1 (l2 ||| ((1 : Int32) <<< (l3 &&& 31))) (l3 + 1))) = some out := H
    refine xb A [(.iload_n 3, 1, 0, 0, .null), (.aload_n 0, 1, 0, 0, .null), (.getfield 49, 3, 60, 24, .ref 71), (.aload_n 0, 1, 0, 0, .null), (.getfield 227, 3, 60, 18, .int 0)] (pc' := 13) (ls' := [some (.ref 60), some (.int l1), some (.int l2), some (.int l3)]) (st' := [.int (g.1 60 18), .ref 71, .int l3]) (g' := g) (by decide +kernel) rfl ?_
    obtain ⟨h1, H⟩ := xg_elim H
    refine xiald A (nxt := 14) (by decide +kernel) (hS _ _ sh_71) h1 ?_
    show xW k S 0 0 14 [some (.ref 60), some (.int l1), some (.int l2), some (.int l3)] [.int (g.1 71 (g.1 60 18).toNatClampNeg), .int l3] g
    refine xic_ge A (32) 46 17 (by decide +kernel) (fun h2 => ?_) (fun h2 => ?_)
    · rw [if_pos h2] at H
      refine xb A [(.iload_n 2, 1, 0, 0, .null)] (pc' := 47) (ls' := [some (.ref 60), some (.int l1), some (.int l2), some (.int l3)]) (st' := [.int l2]) (g' := g) (by decide +kernel) rfl ?_
      obtain rfl := Option.some.inj H
      exact xret_i A hR hz (by decide +kernel) rfl ⟨rfl, rfl⟩
    · rw [if_neg h2] at H
      refine xb A [(.aload_n 0, 1, 0, 0, .null), (.iload_n 3, 1, 0, 0, .null)] (pc' := 19) (ls' := [some (.ref 60), some (.int l1), some (.int l2), some (.int l3)]) (st' := [.int l3, .ref 60]) (g' := g) (by decide +kernel) rfl ?_
      obtain ⟨w1, e1, H⟩ := xbind H
      refine xcallV A (ix := 372) (nxt := 22) hrm hz [.int l3] [] 1711 (c_X12_isOpen_60 hS _ e1) ok_X12_isOpen (by decide +kernel) rfl (fun r g1 hq => ?_)
      rw [hq.1, hq.2]
      show xW k S 0 0 22 [some (.ref 60), some (.int l1), some (.int l2), some (.int l3)] [.int w1] g
      refine xif_eq A (18) 40 25 (by decide +kernel) (fun h3 => ?_) (fun h3 => ?_)
      · rw [if_pos h3] at H
        refine xb A [(.iinc 3 1, 3, 0, 0, .null)] (pc' := 43) (ls' := [some (.ref 60), some (.int l1), some (.int l2), some (.int (l3 + 1))]) (st' := []) (g' := g) (by decide +kernel) rfl ?_
        refine xgoto A (-39) 4 (by decide +kernel) ?_
        exact ih _ _ _ H
      · rw [if_neg h3] at H
        refine xb A [(.aload_n 0, 1, 0, 0, .null), (.iload_n 3, 1, 0, 0, .null), (.iload_n 1, 1, 0, 0, .null)] (pc' := 28) (ls' := [some (.ref 60), some (.int l1), some (.int l2), some (.int l3)]) (st' := [.int l1, .int l3, .ref 60]) (g' := g) (by decide +kernel) rfl ?_
        obtain ⟨w2, e2, H⟩ := xbind H
        refine xcallV A (ix := 375) (nxt := 31) hrm hz [.int l3, .int l1] [] 1715 (c_X12_isEnd_60 hS _ e2) ok_X12_isEnd (by decide +kernel) rfl (fun r g1 hq => ?_)
        rw [hq.1, hq.2]
        show xW k S 0 0 31 [some (.ref 60), some (.int l1), some (.int l2), some (.int l3)] [.int w2] g
        refine xif_eq A (9) 40 34 (by decide +kernel) (fun h4 => ?_) (fun h4 => ?_)
        · rw [if_pos h4] at H
          refine xb A [(.iinc 3 1, 3, 0, 0, .null)] (pc' := 43) (ls' := [some (.ref 60), some (.int l1), some (.int l2), some (.int (l3 + 1))]) (st' := []) (g' := g) (by decide +kernel) rfl ?_
          refine xgoto A (-39) 4 (by decide +kernel) ?_
          exact ih _ _ _ H
        · rw [if_neg h4] at H
          refine xb A [(.iload_n 2, 1, 0, 0, .null), (.iconst 1, 1, 0, 0, .int 1), (.iload_n 3, 1, 0, 0, .null), (.ishl, 1, 0, 0, .null), (.ior, 1, 0, 0, .null), (.istore_n 2, 1, 0, 0, .null), (.iinc 3 1, 3, 0, 0, .null)] (pc' := 43) (ls' := [some (.ref 60), some (.int l1), some (.int (l2 ||| ((1 : Int32) <<< (l3 &&& 31)))), some (.int (l3 + 1))]) (st' := []) (g' := g) (by decide +kernel) rfl ?_
          refine xgoto A (-39) 4 (by decide +kernel) ?_
          exact ih _ _ _ H
set_option maxRecDepth 20000 in
theorem c_X12_roadBits_60 {S : List xSh} (hS : xpf SH2 S) {g : xG} {p1 : Int32} (out : Int32) (H : f_X12_roadBits_60 p1 g = some out) : xC mX12_roadBits 1 22 0 0 S [.ref 60, .int p1] g S (fun r g' => r = some (.int out) ∧ g' = g) := by
  have H : (f_X12_roadBits_60_4 g xN p1 0 0) = some out := H
  refine xC.of 12 SH2 [some (.ref 60), some (.int p1), none, none] hS (by decide +kernel) rfl (fun _ _ => Nat.le_of_ble_eq_true rfl) (fun _ _ => rfl) ?_
  intro k A hR hrm hz
  refine xb A [(.iconst 0, 1, 0, 0, .int 0), (.istore_n 2, 1, 0, 0, .null), (.iconst 0, 1, 0, 0, .int 0), (.istore_n 3, 1, 0, 0, .null)] (pc' := 4) (ls' := [some (.ref 60), some (.int p1), some (.int 0), some (.int 0)]) (st' := []) (g' := g) (by decide +kernel) rfl ?_
  exact t_X12_roadBits_60_4 hS A hR hrm hz _ _ _ _ H
def fp_X12_town_60 : List (Nat × Option Nat) := [(60, some 52), (60, some 53), (94, none), (95, none)]
def f_X12_town_60 (p1 : Int32) (p2 : Int32) (g : xG) : Option (Int32 × xG) :=
  (f_X12_isTown_60 p1 g).bind fun w1 =>
  if w1 = 0 then
    some ((-1), g)
  else
    (f_X12_copies_60 g).bind fun w2 =>
    if p2 = 0 then
      xg (¬ ((w2.1 60 18) < 0 ∨ 2 ≤ (w2.1 60 18).toNatClampNeg)) (
        if (w2.1 79 (w2.1 60 18).toNatClampNeg) = p1 then
          some (1, w2)
        else
          some (0, w2))
    else
      if p2 = 1 then
        (f_X12_roadBits_60 p1 w2).bind fun w3 =>
        some (w3, w2)
      else
        if p2 = 2 then
          (f_X12_whoAt_60 p1 w2).bind fun w4 =>
          some (w4, w2)
        else
          if p2 = 3 then
            (f_X12_farFrom_60 p1 w2).bind fun w5 =>
            some (w5, w2)
          else
            some ((-1), w2)
set_option maxRecDepth 20000 in
theorem c_X12_town_60 {S : List xSh} (hS : xpf SH2 S) {g : xG} {p1 : Int32} {p2 : Int32} (out : Int32 × xG) (H : f_X12_town_60 p1 p2 g = some out) : xC mX12_town 2 45 0 0 S [.ref 60, .int p1, .int p2] g S (fun r g' => r = some (.int out.1) ∧ g' = out.2) := by
  have H : ((f_X12_isTown_60 p1 g).bind fun w1 =>
if w1 = 0 then
  some ((-1), g)
else
  (f_X12_copies_60 g).bind fun w2 =>
  if p2 = 0 then
    xg (¬ ((w2.1 60 18) < 0 ∨ 2 ≤ (w2.1 60 18).toNatClampNeg)) (
      if (w2.1 79 (w2.1 60 18).toNatClampNeg) = p1 then
        some (1, w2)
      else
        some (0, w2))
  else
    if p2 = 1 then
      (f_X12_roadBits_60 p1 w2).bind fun w3 =>
      some (w3, w2)
    else
      if p2 = 2 then
        (f_X12_whoAt_60 p1 w2).bind fun w4 =>
        some (w4, w2)
      else
        if p2 = 3 then
          (f_X12_farFrom_60 p1 w2).bind fun w5 =>
          some (w5, w2)
        else
          some ((-1), w2)) = some out := H
  refine xC.of 12 SH2 [some (.ref 60), some (.int p1), some (.int p2)] hS (by decide +kernel) rfl (fun _ _ => Nat.le_of_ble_eq_true rfl) (fun _ _ => rfl) ?_
  intro k A hR hrm hz
  refine xb A [(.aload_n 0, 1, 0, 0, .null), (.iload_n 1, 1, 0, 0, .null)] (pc' := 2) (ls' := [some (.ref 60), some (.int p1), some (.int p2)]) (st' := [.int p1, .ref 60]) (g' := g) (by decide +kernel) rfl ?_
  obtain ⟨w1, e1, H⟩ := xbind H
  refine xcallV A (ix := 413) (nxt := 5) hrm hz [.int p1] [] 1692 (c_X12_isTown_60 hS _ e1) ok_X12_isTown (by decide +kernel) rfl (fun r g1 hq => ?_)
  rw [hq.1, hq.2]
  show xW k S 0 0 5 [some (.ref 60), some (.int p1), some (.int p2)] [.int w1] g
  refine xif_ne A (5) 10 8 (by decide +kernel) (fun h1 => ?_) (fun h1 => ?_)
  · rw [if_neg h1] at H
    refine xb A [(.aload_n 0, 1, 0, 0, .null)] (pc' := 11) (ls' := [some (.ref 60), some (.int p1), some (.int p2)]) (st' := [.ref 60]) (g' := g) (by decide +kernel) rfl ?_
    obtain ⟨w2, e2, H⟩ := xbind H
    refine xcallV A (ix := 320) (nxt := 14) hrm hz [] [] 1699 (c_X12_copies_60 hS _ e2) ok_X12_copies (by decide +kernel) rfl (fun r g1 hq => ?_)
    rw [hq.1, hq.2]
    show xW k S 0 0 14 [some (.ref 60), some (.int p1), some (.int p2)] [] w2
    refine xb A [(.iload_n 2, 1, 0, 0, .null)] (pc' := 15) (ls' := [some (.ref 60), some (.int p1), some (.int p2)]) (st' := [.int p2]) (g' := w2) (by decide +kernel) rfl ?_
    by_cases h2 : p2 = 0
    · rw [if_pos h2] at H
      refine xtabIn A (dflt := 66) (lo := 0) (hi := 3) (off := 29) (offs := #[(29), (48), (54), (60)]) (len := 29) (tgt := 44) (0) (by rw [h2]; rfl) (by decide +kernel) ?_
      refine xb A [(.aload_n 0, 1, 0, 0, .null), (.getfield 73, 3, 60, 32, .ref 79), (.aload_n 0, 1, 0, 0, .null), (.getfield 227, 3, 60, 18, .int 0)] (pc' := 52) (ls' := [some (.ref 60), some (.int p1), some (.int p2)]) (st' := [.int (w2.1 60 18), .ref 79]) (g' := w2) (by decide +kernel) rfl ?_
      obtain ⟨h3, H⟩ := xg_elim H
      refine xiald A (nxt := 53) (by decide +kernel) (hS _ _ sh_79) h3 ?_
      show xW k S 0 0 53 [some (.ref 60), some (.int p1), some (.int p2)] [.int (w2.1 79 (w2.1 60 18).toNatClampNeg)] w2
      refine xb A [(.iload_n 1, 1, 0, 0, .null)] (pc' := 54) (ls' := [some (.ref 60), some (.int p1), some (.int p2)]) (st' := [.int p1, .int (w2.1 79 (w2.1 60 18).toNatClampNeg)]) (g' := w2) (by decide +kernel) rfl ?_
      refine xic_ne A (7) 61 57 (by decide +kernel) (fun h4 => ?_) (fun h4 => ?_)
      · rw [if_neg h4] at H
        refine xb A [(.iconst 0, 1, 0, 0, .int 0)] (pc' := 62) (ls' := [some (.ref 60), some (.int p1), some (.int p2)]) (st' := [.int 0]) (g' := w2) (by decide +kernel) rfl ?_
        obtain rfl := Option.some.inj H
        exact xret_i A hR hz (by decide +kernel) rfl ⟨rfl, rfl⟩
      · rw [if_pos h4] at H
        refine xb A [(.iconst 1, 1, 0, 0, .int 1)] (pc' := 58) (ls' := [some (.ref 60), some (.int p1), some (.int p2)]) (st' := [.int 1]) (g' := w2) (by decide +kernel) rfl ?_
        refine xgoto A (4) 62 (by decide +kernel) ?_
        obtain rfl := Option.some.inj H
        exact xret_i A hR hz (by decide +kernel) rfl ⟨rfl, rfl⟩
    · rw [if_neg h2] at H
      by_cases h5 : p2 = 1
      · rw [if_pos h5] at H
        refine xtabIn A (dflt := 66) (lo := 0) (hi := 3) (off := 48) (offs := #[(29), (48), (54), (60)]) (len := 29) (tgt := 63) (1) (by rw [h5]; rfl) (by decide +kernel) ?_
        refine xb A [(.aload_n 0, 1, 0, 0, .null), (.iload_n 1, 1, 0, 0, .null)] (pc' := 65) (ls' := [some (.ref 60), some (.int p1), some (.int p2)]) (st' := [.int p1, .ref 60]) (g' := w2) (by decide +kernel) rfl ?_
        obtain ⟨w3, e3, H⟩ := xbind H
        refine xcallV A (ix := 416) (nxt := 68) hrm hz [.int p1] [] 1707 (c_X12_roadBits_60 hS _ e3) ok_X12_roadBits (by decide +kernel) rfl (fun r g1 hq => ?_)
        rw [hq.1, hq.2]
        show xW k S 0 0 68 [some (.ref 60), some (.int p1), some (.int p2)] [.int w3] w2
        obtain rfl := Option.some.inj H
        exact xret_i A hR hz (by decide +kernel) rfl ⟨rfl, rfl⟩
      · rw [if_neg h5] at H
        by_cases h6 : p2 = 2
        · rw [if_pos h6] at H
          refine xtabIn A (dflt := 66) (lo := 0) (hi := 3) (off := 54) (offs := #[(29), (48), (54), (60)]) (len := 29) (tgt := 69) (2) (by rw [h6]; rfl) (by decide +kernel) ?_
          refine xb A [(.aload_n 0, 1, 0, 0, .null), (.iload_n 1, 1, 0, 0, .null)] (pc' := 71) (ls' := [some (.ref 60), some (.int p1), some (.int p2)]) (st' := [.int p1, .ref 60]) (g' := w2) (by decide +kernel) rfl ?_
          obtain ⟨w4, e4, H⟩ := xbind H
          refine xcallV A (ix := 419) (nxt := 74) hrm hz [.int p1] [] 1719 (c_X12_whoAt_60 hS _ e4) ok_X12_whoAt (by decide +kernel) rfl (fun r g1 hq => ?_)
          rw [hq.1, hq.2]
          show xW k S 0 0 74 [some (.ref 60), some (.int p1), some (.int p2)] [.int w4] w2
          obtain rfl := Option.some.inj H
          exact xret_i A hR hz (by decide +kernel) rfl ⟨rfl, rfl⟩
        · rw [if_neg h6] at H
          by_cases h7 : p2 = 3
          · rw [if_pos h7] at H
            refine xtabIn A (dflt := 66) (lo := 0) (hi := 3) (off := 60) (offs := #[(29), (48), (54), (60)]) (len := 29) (tgt := 75) (3) (by rw [h7]; rfl) (by decide +kernel) ?_
            refine xb A [(.aload_n 0, 1, 0, 0, .null), (.iload_n 1, 1, 0, 0, .null)] (pc' := 77) (ls' := [some (.ref 60), some (.int p1), some (.int p2)]) (st' := [.int p1, .ref 60]) (g' := w2) (by decide +kernel) rfl ?_
            obtain ⟨w5, e5, H⟩ := xbind H
            refine xcallV A (ix := 342) (nxt := 80) hrm hz [.int p1] [] 1723 (c_X12_farFrom_60 hS _ e5) ok_X12_farFrom (by decide +kernel) rfl (fun r g1 hq => ?_)
            rw [hq.1, hq.2]
            show xW k S 0 0 80 [some (.ref 60), some (.int p1), some (.int p2)] [.int w5] w2
            obtain rfl := Option.some.inj H
            exact xret_i A hR hz (by decide +kernel) rfl ⟨rfl, rfl⟩
          · rw [if_neg h7] at H
            refine xtabOut A (dflt := 66) (lo := 0) (hi := 3) (offs := #[(29), (48), (54), (60)]) (len := 29) (tgt := 81) (by decide +kernel) ?_ ?_
            · have e0 := lv_neT (a := 0) h2 rfl; have e1 := lv_neT (a := 1) h5 rfl; have e2 := lv_neT (a := 2) h6 rfl; have e3 := lv_neT (a := 3) h7 rfl; omega
            · skip
              refine xb A [(.iconst (-1), 1, 0, 0, .int (-1))] (pc' := 82) (ls' := [some (.ref 60), some (.int p1), some (.int p2)]) (st' := [.int (-1)]) (g' := w2) (by decide +kernel) rfl ?_
              obtain rfl := Option.some.inj H
              exact xret_i A hR hz (by decide +kernel) rfl ⟨rfl, rfl⟩
  · rw [if_pos h1] at H
    refine xb A [(.iconst (-1), 1, 0, 0, .int (-1))] (pc' := 9) (ls' := [some (.ref 60), some (.int p1), some (.int p2)]) (st' := [.int (-1)]) (g' := g) (by decide +kernel) rfl ?_
    obtain rfl := Option.some.inj H
    exact xret_i A hR hz (by decide +kernel) rfl ⟨rfl, rfl⟩
theorem fr_X12_town_60 {p1 : Int32} {p2 : Int32} {g : xG} (out : Int32 × xG) (H : f_X12_town_60 p1 p2 g = some out) : xfrm fp_X12_town_60 g (out.2) := by
  have H : ((f_X12_isTown_60 p1 g).bind fun w1 =>
if w1 = 0 then
  some ((-1), g)
else
  (f_X12_copies_60 g).bind fun w2 =>
  if p2 = 0 then
    xg (¬ ((w2.1 60 18) < 0 ∨ 2 ≤ (w2.1 60 18).toNatClampNeg)) (
      if (w2.1 79 (w2.1 60 18).toNatClampNeg) = p1 then
        some (1, w2)
      else
        some (0, w2))
  else
    if p2 = 1 then
      (f_X12_roadBits_60 p1 w2).bind fun w3 =>
      some (w3, w2)
    else
      if p2 = 2 then
        (f_X12_whoAt_60 p1 w2).bind fun w4 =>
        some (w4, w2)
      else
        if p2 = 3 then
          (f_X12_farFrom_60 p1 w2).bind fun w5 =>
          some (w5, w2)
        else
          some ((-1), w2)) = some out := H
  obtain ⟨w1, e1, H⟩ := xbind H
  by_cases h1 : w1 = 0
  · rw [if_pos h1] at H
    obtain rfl := Option.some.inj H
    exact xfrm.rf
  · rw [if_neg h1] at H
    obtain ⟨w2, e2, H⟩ := xbind H
    have hf1 : xfrm fp_X12_town_60 g (w2) := xfrm.tr xfrm.rf (fr_X12_copies_60 _ e2) rfl
    by_cases h2 : p2 = 0
    · rw [if_pos h2] at H
      obtain ⟨h3, H⟩ := xg_elim H
      by_cases h4 : (w2.1 79 (w2.1 60 18).toNatClampNeg) = p1
      · rw [if_pos h4] at H
        obtain rfl := Option.some.inj H
        exact hf1
      · rw [if_neg h4] at H
        obtain rfl := Option.some.inj H
        exact hf1
    · rw [if_neg h2] at H
      by_cases h5 : p2 = 1
      · rw [if_pos h5] at H
        obtain ⟨w3, e3, H⟩ := xbind H
        obtain rfl := Option.some.inj H
        exact hf1
      · rw [if_neg h5] at H
        by_cases h6 : p2 = 2
        · rw [if_pos h6] at H
          obtain ⟨w4, e4, H⟩ := xbind H
          obtain rfl := Option.some.inj H
          exact hf1
        · rw [if_neg h6] at H
          by_cases h7 : p2 = 3
          · rw [if_pos h7] at H
            obtain ⟨w5, e5, H⟩ := xbind H
            obtain rfl := Option.some.inj H
            exact hf1
          · rw [if_neg h7] at H
            obtain rfl := Option.some.inj H
            exact hf1
def f_X12_isRoad_60 (p1 : Int32) (g : xG) : Option (Int32) :=
  xg (¬ ((g.1 60 18) < 0 ∨ 2 ≤ (g.1 60 18).toNatClampNeg)) (
    some (f_X12_in p1 0 ((g.1 71 (g.1 60 18).toNatClampNeg) - 1)))
set_option maxRecDepth 20000 in
theorem c_X12_isRoad_60 {S : List xSh} (hS : xpf SH2 S) {g : xG} {p1 : Int32} (out : Int32) (H : f_X12_isRoad_60 p1 g = some out) : xC mX12_isRoad 1 22 0 0 S [.ref 60, .int p1] g S (fun r g' => r = some (.int out) ∧ g' = g) := by
  have H : (xg (¬ ((g.1 60 18) < 0 ∨ 2 ≤ (g.1 60 18).toNatClampNeg)) (
  some (f_X12_in p1 0 ((g.1 71 (g.1 60 18).toNatClampNeg) - 1)))) = some out := H
  refine xC.of 12 SH2 [some (.ref 60), some (.int p1)] hS (by decide +kernel) rfl (fun _ _ => Nat.le_of_ble_eq_true rfl) (fun _ _ => rfl) ?_
  intro k A hR hrm hz
  refine xb A [(.iload_n 1, 1, 0, 0, .null), (.iconst 0, 1, 0, 0, .int 0), (.aload_n 0, 1, 0, 0, .null), (.getfield 49, 3, 60, 24, .ref 71), (.aload_n 0, 1, 0, 0, .null), (.getfield 227, 3, 60, 18, .int 0)] (pc' := 10) (ls' := [some (.ref 60), some (.int p1)]) (st' := [.int (g.1 60 18), .ref 71, .int 0, .int p1]) (g' := g) (by decide +kernel) rfl ?_
  obtain ⟨h1, H⟩ := xg_elim H
  refine xiald A (nxt := 11) (by decide +kernel) (hS _ _ sh_71) h1 ?_
  show xW k S 0 0 11 [some (.ref 60), some (.int p1)] [.int (g.1 71 (g.1 60 18).toNatClampNeg), .int 0, .int p1] g
  refine xb A [(.iconst 1, 1, 0, 0, .int 1), (.isub, 1, 0, 0, .null)] (pc' := 13) (ls' := [some (.ref 60), some (.int p1)]) (st' := [.int ((g.1 71 (g.1 60 18).toNatClampNeg) - 1), .int 0, .int p1]) (g' := g) (by decide +kernel) rfl ?_
  refine xcallS A (ix := 307) (nxt := 16) hrm hz [.int p1, .int 0, .int ((g.1 71 (g.1 60 18).toNatClampNeg) - 1)] [] 1696 (c_X12_in hS _ rfl) ok_X12_in (by decide +kernel) rfl (fun r g1 hq => ?_)
  rw [hq.1, hq.2]
  show xW k S 0 0 16 [some (.ref 60), some (.int p1)] [.int (f_X12_in p1 0 ((g.1 71 (g.1 60 18).toNatClampNeg) - 1))] g
  obtain rfl := Option.some.inj H
  exact xret_i A hR hz (by decide +kernel) (by unfold f_X12_in; repeat' (first | rfl | split)) ⟨rfl, rfl⟩
def fp_X12_road_60 : List (Nat × Option Nat) := [(60, some 52), (60, some 53), (94, none), (95, none)]
def f_X12_road_60 (p1 : Int32) (p2 : Int32) (g : xG) : Option (Int32 × xG) :=
  (f_X12_isRoad_60 p1 g).bind fun w1 =>
  if w1 = 0 then
    some ((-1), g)
  else
    (f_X12_copies_60 g).bind fun w2 =>
    if p2 = 0 then
      xg (¬ (((10 * (w2.1 60 18)) + p1) < 0 ∨ 20 ≤ ((10 * (w2.1 60 18)) + p1).toNatClampNeg)) (
        some (w2.1 72 ((10 * (w2.1 60 18)) + p1).toNatClampNeg, w2))
    else
      if p2 = 1 then
        xg (¬ (((10 * (w2.1 60 18)) + p1) < 0 ∨ 20 ≤ ((10 * (w2.1 60 18)) + p1).toNatClampNeg)) (
          some (w2.1 73 ((10 * (w2.1 60 18)) + p1).toNatClampNeg, w2))
      else
        if p2 = 2 then
          xg (¬ (((10 * (w2.1 60 18)) + p1) < 0 ∨ 20 ≤ ((10 * (w2.1 60 18)) + p1).toNatClampNeg)) (
            some (w2.1 74 ((10 * (w2.1 60 18)) + p1).toNatClampNeg, w2))
        else
          if p2 = 3 then
            (f_X12_isOpen_60 p1 w2).bind fun w3 =>
            if w3 = 0 then
              some (0, w2)
            else
              some (1, w2)
          else
            some ((-1), w2)
set_option maxRecDepth 20000 in
theorem c_X12_road_60 {S : List xSh} (hS : xpf SH2 S) {g : xG} {p1 : Int32} {p2 : Int32} (out : Int32 × xG) (H : f_X12_road_60 p1 p2 g = some out) : xC mX12_road 2 44 0 0 S [.ref 60, .int p1, .int p2] g S (fun r g' => r = some (.int out.1) ∧ g' = out.2) := by
  have H : ((f_X12_isRoad_60 p1 g).bind fun w1 =>
if w1 = 0 then
  some ((-1), g)
else
  (f_X12_copies_60 g).bind fun w2 =>
  if p2 = 0 then
    xg (¬ (((10 * (w2.1 60 18)) + p1) < 0 ∨ 20 ≤ ((10 * (w2.1 60 18)) + p1).toNatClampNeg)) (
      some (w2.1 72 ((10 * (w2.1 60 18)) + p1).toNatClampNeg, w2))
  else
    if p2 = 1 then
      xg (¬ (((10 * (w2.1 60 18)) + p1) < 0 ∨ 20 ≤ ((10 * (w2.1 60 18)) + p1).toNatClampNeg)) (
        some (w2.1 73 ((10 * (w2.1 60 18)) + p1).toNatClampNeg, w2))
    else
      if p2 = 2 then
        xg (¬ (((10 * (w2.1 60 18)) + p1) < 0 ∨ 20 ≤ ((10 * (w2.1 60 18)) + p1).toNatClampNeg)) (
          some (w2.1 74 ((10 * (w2.1 60 18)) + p1).toNatClampNeg, w2))
      else
        if p2 = 3 then
          (f_X12_isOpen_60 p1 w2).bind fun w3 =>
          if w3 = 0 then
            some (0, w2)
          else
            some (1, w2)
        else
          some ((-1), w2)) = some out := H
  refine xC.of 12 SH2 [some (.ref 60), some (.int p1), some (.int p2)] hS (by decide +kernel) rfl (fun _ _ => Nat.le_of_ble_eq_true rfl) (fun _ _ => rfl) ?_
  intro k A hR hrm hz
  refine xb A [(.aload_n 0, 1, 0, 0, .null), (.iload_n 1, 1, 0, 0, .null)] (pc' := 2) (ls' := [some (.ref 60), some (.int p1), some (.int p2)]) (st' := [.int p1, .ref 60]) (g' := g) (by decide +kernel) rfl ?_
  obtain ⟨w1, e1, H⟩ := xbind H
  refine xcallV A (ix := 422) (nxt := 5) hrm hz [.int p1] [] 1731 (c_X12_isRoad_60 hS _ e1) ok_X12_isRoad (by decide +kernel) rfl (fun r g1 hq => ?_)
  rw [hq.1, hq.2]
  show xW k S 0 0 5 [some (.ref 60), some (.int p1), some (.int p2)] [.int w1] g
  refine xif_ne A (5) 10 8 (by decide +kernel) (fun h1 => ?_) (fun h1 => ?_)
  · rw [if_neg h1] at H
    refine xb A [(.aload_n 0, 1, 0, 0, .null)] (pc' := 11) (ls' := [some (.ref 60), some (.int p1), some (.int p2)]) (st' := [.ref 60]) (g' := g) (by decide +kernel) rfl ?_
    obtain ⟨w2, e2, H⟩ := xbind H
    refine xcallV A (ix := 320) (nxt := 14) hrm hz [] [] 1699 (c_X12_copies_60 hS _ e2) ok_X12_copies (by decide +kernel) rfl (fun r g1 hq => ?_)
    rw [hq.1, hq.2]
    show xW k S 0 0 14 [some (.ref 60), some (.int p1), some (.int p2)] [] w2
    refine xb A [(.iload_n 2, 1, 0, 0, .null)] (pc' := 15) (ls' := [some (.ref 60), some (.int p1), some (.int p2)]) (st' := [.int p2]) (g' := w2) (by decide +kernel) rfl ?_
    by_cases h2 : p2 = 0
    · rw [if_pos h2] at H
      refine xtabIn A (dflt := 88) (lo := 0) (hi := 3) (off := 29) (offs := #[(29), (44), (59), (74)]) (len := 29) (tgt := 44) (0) (by rw [h2]; rfl) (by decide +kernel) ?_
      refine xb A [(.aload_n 0, 1, 0, 0, .null), (.getfield 52, 3, 60, 25, .ref 72), (.bipush 10, 2, 0, 0, .int 10), (.aload_n 0, 1, 0, 0, .null), (.getfield 227, 3, 60, 18, .int 0), (.imul, 1, 0, 0, .null), (.iload_n 1, 1, 0, 0, .null), (.iadd, 1, 0, 0, .null)] (pc' := 57) (ls' := [some (.ref 60), some (.int p1), some (.int p2)]) (st' := [.int ((10 * (w2.1 60 18)) + p1), .ref 72]) (g' := w2) (by decide +kernel) rfl ?_
      obtain ⟨h3, H⟩ := xg_elim H
      refine xiald A (nxt := 58) (by decide +kernel) (hS _ _ sh_72) h3 ?_
      show xW k S 0 0 58 [some (.ref 60), some (.int p1), some (.int p2)] [.int (w2.1 72 ((10 * (w2.1 60 18)) + p1).toNatClampNeg)] w2
      obtain rfl := Option.some.inj H
      exact xret_i A hR hz (by decide +kernel) rfl ⟨rfl, rfl⟩
    · rw [if_neg h2] at H
      by_cases h4 : p2 = 1
      · rw [if_pos h4] at H
        refine xtabIn A (dflt := 88) (lo := 0) (hi := 3) (off := 44) (offs := #[(29), (44), (59), (74)]) (len := 29) (tgt := 59) (1) (by rw [h4]; rfl) (by decide +kernel) ?_
        refine xb A [(.aload_n 0, 1, 0, 0, .null), (.getfield 55, 3, 60, 26, .ref 73), (.bipush 10, 2, 0, 0, .int 10), (.aload_n 0, 1, 0, 0, .null), (.getfield 227, 3, 60, 18, .int 0), (.imul, 1, 0, 0, .null), (.iload_n 1, 1, 0, 0, .null), (.iadd, 1, 0, 0, .null)] (pc' := 72) (ls' := [some (.ref 60), some (.int p1), some (.int p2)]) (st' := [.int ((10 * (w2.1 60 18)) + p1), .ref 73]) (g' := w2) (by decide +kernel) rfl ?_
        obtain ⟨h5, H⟩ := xg_elim H
        refine xiald A (nxt := 73) (by decide +kernel) (hS _ _ sh_73) h5 ?_
        show xW k S 0 0 73 [some (.ref 60), some (.int p1), some (.int p2)] [.int (w2.1 73 ((10 * (w2.1 60 18)) + p1).toNatClampNeg)] w2
        obtain rfl := Option.some.inj H
        exact xret_i A hR hz (by decide +kernel) rfl ⟨rfl, rfl⟩
      · rw [if_neg h4] at H
        by_cases h6 : p2 = 2
        · rw [if_pos h6] at H
          refine xtabIn A (dflt := 88) (lo := 0) (hi := 3) (off := 59) (offs := #[(29), (44), (59), (74)]) (len := 29) (tgt := 74) (2) (by rw [h6]; rfl) (by decide +kernel) ?_
          refine xb A [(.aload_n 0, 1, 0, 0, .null), (.getfield 58, 3, 60, 27, .ref 74), (.bipush 10, 2, 0, 0, .int 10), (.aload_n 0, 1, 0, 0, .null), (.getfield 227, 3, 60, 18, .int 0), (.imul, 1, 0, 0, .null), (.iload_n 1, 1, 0, 0, .null), (.iadd, 1, 0, 0, .null)] (pc' := 87) (ls' := [some (.ref 60), some (.int p1), some (.int p2)]) (st' := [.int ((10 * (w2.1 60 18)) + p1), .ref 74]) (g' := w2) (by decide +kernel) rfl ?_
          obtain ⟨h7, H⟩ := xg_elim H
          refine xiald A (nxt := 88) (by decide +kernel) (hS _ _ sh_74) h7 ?_
          show xW k S 0 0 88 [some (.ref 60), some (.int p1), some (.int p2)] [.int (w2.1 74 ((10 * (w2.1 60 18)) + p1).toNatClampNeg)] w2
          obtain rfl := Option.some.inj H
          exact xret_i A hR hz (by decide +kernel) rfl ⟨rfl, rfl⟩
        · rw [if_neg h6] at H
          by_cases h8 : p2 = 3
          · rw [if_pos h8] at H
            refine xtabIn A (dflt := 88) (lo := 0) (hi := 3) (off := 74) (offs := #[(29), (44), (59), (74)]) (len := 29) (tgt := 89) (3) (by rw [h8]; rfl) (by decide +kernel) ?_
            refine xb A [(.aload_n 0, 1, 0, 0, .null), (.iload_n 1, 1, 0, 0, .null)] (pc' := 91) (ls' := [some (.ref 60), some (.int p1), some (.int p2)]) (st' := [.int p1, .ref 60]) (g' := w2) (by decide +kernel) rfl ?_
            obtain ⟨w3, e3, H⟩ := xbind H
            refine xcallV A (ix := 372) (nxt := 94) hrm hz [.int p1] [] 1711 (c_X12_isOpen_60 hS _ e3) ok_X12_isOpen (by decide +kernel) rfl (fun r g1 hq => ?_)
            rw [hq.1, hq.2]
            show xW k S 0 0 94 [some (.ref 60), some (.int p1), some (.int p2)] [.int w3] w2
            refine xif_eq A (7) 101 97 (by decide +kernel) (fun h9 => ?_) (fun h9 => ?_)
            · rw [if_pos h9] at H
              refine xb A [(.iconst 0, 1, 0, 0, .int 0)] (pc' := 102) (ls' := [some (.ref 60), some (.int p1), some (.int p2)]) (st' := [.int 0]) (g' := w2) (by decide +kernel) rfl ?_
              obtain rfl := Option.some.inj H
              exact xret_i A hR hz (by decide +kernel) rfl ⟨rfl, rfl⟩
            · rw [if_neg h9] at H
              refine xb A [(.iconst 1, 1, 0, 0, .int 1)] (pc' := 98) (ls' := [some (.ref 60), some (.int p1), some (.int p2)]) (st' := [.int 1]) (g' := w2) (by decide +kernel) rfl ?_
              refine xgoto A (4) 102 (by decide +kernel) ?_
              obtain rfl := Option.some.inj H
              exact xret_i A hR hz (by decide +kernel) rfl ⟨rfl, rfl⟩
          · rw [if_neg h8] at H
            refine xtabOut A (dflt := 88) (lo := 0) (hi := 3) (offs := #[(29), (44), (59), (74)]) (len := 29) (tgt := 103) (by decide +kernel) ?_ ?_
            · have e0 := lv_neT (a := 0) h2 rfl; have e1 := lv_neT (a := 1) h4 rfl; have e2 := lv_neT (a := 2) h6 rfl; have e3 := lv_neT (a := 3) h8 rfl; omega
            · skip
              refine xb A [(.iconst (-1), 1, 0, 0, .int (-1))] (pc' := 104) (ls' := [some (.ref 60), some (.int p1), some (.int p2)]) (st' := [.int (-1)]) (g' := w2) (by decide +kernel) rfl ?_
              obtain rfl := Option.some.inj H
              exact xret_i A hR hz (by decide +kernel) rfl ⟨rfl, rfl⟩
  · rw [if_pos h1] at H
    refine xb A [(.iconst (-1), 1, 0, 0, .int (-1))] (pc' := 9) (ls' := [some (.ref 60), some (.int p1), some (.int p2)]) (st' := [.int (-1)]) (g' := g) (by decide +kernel) rfl ?_
    obtain rfl := Option.some.inj H
    exact xret_i A hR hz (by decide +kernel) rfl ⟨rfl, rfl⟩
theorem fr_X12_road_60 {p1 : Int32} {p2 : Int32} {g : xG} (out : Int32 × xG) (H : f_X12_road_60 p1 p2 g = some out) : xfrm fp_X12_road_60 g (out.2) := by
  have H : ((f_X12_isRoad_60 p1 g).bind fun w1 =>
if w1 = 0 then
  some ((-1), g)
else
  (f_X12_copies_60 g).bind fun w2 =>
  if p2 = 0 then
    xg (¬ (((10 * (w2.1 60 18)) + p1) < 0 ∨ 20 ≤ ((10 * (w2.1 60 18)) + p1).toNatClampNeg)) (
      some (w2.1 72 ((10 * (w2.1 60 18)) + p1).toNatClampNeg, w2))
  else
    if p2 = 1 then
      xg (¬ (((10 * (w2.1 60 18)) + p1) < 0 ∨ 20 ≤ ((10 * (w2.1 60 18)) + p1).toNatClampNeg)) (
        some (w2.1 73 ((10 * (w2.1 60 18)) + p1).toNatClampNeg, w2))
    else
      if p2 = 2 then
        xg (¬ (((10 * (w2.1 60 18)) + p1) < 0 ∨ 20 ≤ ((10 * (w2.1 60 18)) + p1).toNatClampNeg)) (
          some (w2.1 74 ((10 * (w2.1 60 18)) + p1).toNatClampNeg, w2))
      else
        if p2 = 3 then
          (f_X12_isOpen_60 p1 w2).bind fun w3 =>
          if w3 = 0 then
            some (0, w2)
          else
            some (1, w2)
        else
          some ((-1), w2)) = some out := H
  obtain ⟨w1, e1, H⟩ := xbind H
  by_cases h1 : w1 = 0
  · rw [if_pos h1] at H
    obtain rfl := Option.some.inj H
    exact xfrm.rf
  · rw [if_neg h1] at H
    obtain ⟨w2, e2, H⟩ := xbind H
    have hf1 : xfrm fp_X12_road_60 g (w2) := xfrm.tr xfrm.rf (fr_X12_copies_60 _ e2) rfl
    by_cases h2 : p2 = 0
    · rw [if_pos h2] at H
      obtain ⟨h3, H⟩ := xg_elim H
      obtain rfl := Option.some.inj H
      exact hf1
    · rw [if_neg h2] at H
      by_cases h4 : p2 = 1
      · rw [if_pos h4] at H
        obtain ⟨h5, H⟩ := xg_elim H
        obtain rfl := Option.some.inj H
        exact hf1
      · rw [if_neg h4] at H
        by_cases h6 : p2 = 2
        · rw [if_pos h6] at H
          obtain ⟨h7, H⟩ := xg_elim H
          obtain rfl := Option.some.inj H
          exact hf1
        · rw [if_neg h6] at H
          by_cases h8 : p2 = 3
          · rw [if_pos h8] at H
            obtain ⟨w3, e3, H⟩ := xbind H
            by_cases h9 : w3 = 0
            · rw [if_pos h9] at H
              obtain rfl := Option.some.inj H
              exact hf1
            · rw [if_neg h9] at H
              obtain rfl := Option.some.inj H
              exact hf1
          · rw [if_neg h8] at H
            obtain rfl := Option.some.inj H
            exact hf1
def f_X12_isPerson_60 (p1 : Int32) (g : xG) : Option (Int32) :=
  xg (¬ ((g.1 60 18) < 0 ∨ 2 ≤ (g.1 60 18).toNatClampNeg)) (
    some (f_X12_in p1 0 ((g.1 75 (g.1 60 18).toNatClampNeg) - 1)))
set_option maxRecDepth 20000 in
theorem c_X12_isPerson_60 {S : List xSh} (hS : xpf SH2 S) {g : xG} {p1 : Int32} (out : Int32) (H : f_X12_isPerson_60 p1 g = some out) : xC mX12_isPerson 1 22 0 0 S [.ref 60, .int p1] g S (fun r g' => r = some (.int out) ∧ g' = g) := by
  have H : (xg (¬ ((g.1 60 18) < 0 ∨ 2 ≤ (g.1 60 18).toNatClampNeg)) (
  some (f_X12_in p1 0 ((g.1 75 (g.1 60 18).toNatClampNeg) - 1)))) = some out := H
  refine xC.of 12 SH2 [some (.ref 60), some (.int p1)] hS (by decide +kernel) rfl (fun _ _ => Nat.le_of_ble_eq_true rfl) (fun _ _ => rfl) ?_
  intro k A hR hrm hz
  refine xb A [(.iload_n 1, 1, 0, 0, .null), (.iconst 0, 1, 0, 0, .int 0), (.aload_n 0, 1, 0, 0, .null), (.getfield 61, 3, 60, 28, .ref 75), (.aload_n 0, 1, 0, 0, .null), (.getfield 227, 3, 60, 18, .int 0)] (pc' := 10) (ls' := [some (.ref 60), some (.int p1)]) (st' := [.int (g.1 60 18), .ref 75, .int 0, .int p1]) (g' := g) (by decide +kernel) rfl ?_
  obtain ⟨h1, H⟩ := xg_elim H
  refine xiald A (nxt := 11) (by decide +kernel) (hS _ _ sh_75) h1 ?_
  show xW k S 0 0 11 [some (.ref 60), some (.int p1)] [.int (g.1 75 (g.1 60 18).toNatClampNeg), .int 0, .int p1] g
  refine xb A [(.iconst 1, 1, 0, 0, .int 1), (.isub, 1, 0, 0, .null)] (pc' := 13) (ls' := [some (.ref 60), some (.int p1)]) (st' := [.int ((g.1 75 (g.1 60 18).toNatClampNeg) - 1), .int 0, .int p1]) (g' := g) (by decide +kernel) rfl ?_
  refine xcallS A (ix := 307) (nxt := 16) hrm hz [.int p1, .int 0, .int ((g.1 75 (g.1 60 18).toNatClampNeg) - 1)] [] 1696 (c_X12_in hS _ rfl) ok_X12_in (by decide +kernel) rfl (fun r g1 hq => ?_)
  rw [hq.1, hq.2]
  show xW k S 0 0 16 [some (.ref 60), some (.int p1)] [.int (f_X12_in p1 0 ((g.1 75 (g.1 60 18).toNatClampNeg) - 1))] g
  obtain rfl := Option.some.inj H
  exact xret_i A hR hz (by decide +kernel) (by unfold f_X12_in; repeat' (first | rfl | split)) ⟨rfl, rfl⟩
def f_X12_homeAt_60 (p1 : Int32) (g : xG) : Option (Int32) :=
  xg (¬ (((6 * (g.1 60 18)) + p1) < 0 ∨ 12 ≤ ((6 * (g.1 60 18)) + p1).toNatClampNeg)) (
    some (g.1 77 ((6 * (g.1 60 18)) + p1).toNatClampNeg))
set_option maxRecDepth 20000 in
theorem c_X12_homeAt_60 {S : List xSh} (hS : xpf SH2 S) {g : xG} {p1 : Int32} (out : Int32) (H : f_X12_homeAt_60 p1 g = some out) : xC mX12_homeAt 0 0 0 0 S [.ref 60, .int p1] g S (fun r g' => r = some (.int out) ∧ g' = g) := by
  have H : (xg (¬ (((6 * (g.1 60 18)) + p1) < 0 ∨ 12 ≤ ((6 * (g.1 60 18)) + p1).toNatClampNeg)) (
  some (g.1 77 ((6 * (g.1 60 18)) + p1).toNatClampNeg))) = some out := H
  refine xC.of 12 SH2 [some (.ref 60), some (.int p1)] hS (by decide +kernel) rfl (fun _ _ => Nat.le_of_ble_eq_true rfl) (fun _ _ => rfl) ?_
  intro k A hR hrm hz
  refine xb A [(.aload_n 0, 1, 0, 0, .null), (.getfield 67, 3, 60, 30, .ref 77), (.bipush 6, 2, 0, 0, .int 6), (.aload_n 0, 1, 0, 0, .null), (.getfield 227, 3, 60, 18, .int 0), (.imul, 1, 0, 0, .null), (.iload_n 1, 1, 0, 0, .null), (.iadd, 1, 0, 0, .null)] (pc' := 13) (ls' := [some (.ref 60), some (.int p1)]) (st' := [.int ((6 * (g.1 60 18)) + p1), .ref 77]) (g' := g) (by decide +kernel) rfl ?_
  obtain ⟨h1, H⟩ := xg_elim H
  refine xiald A (nxt := 14) (by decide +kernel) (hS _ _ sh_77) h1 ?_
  show xW k S 0 0 14 [some (.ref 60), some (.int p1)] [.int (g.1 77 ((6 * (g.1 60 18)) + p1).toNatClampNeg)] g
  obtain rfl := Option.some.inj H
  exact xret_i A hR hz (by decide +kernel) rfl ⟨rfl, rfl⟩
def f_X12_farOf_60 (p1 : Int32) (g : xG) : Option (Int32) :=
  (f_X12_homeAt_60 p1 g).bind fun w1 =>
  (f_X12_farFrom_60 w1 g).bind fun w2 =>
  some w2
set_option maxRecDepth 20000 in
theorem c_X12_farOf_60 {S : List xSh} (hS : xpf SH2 S) {g : xG} {p1 : Int32} (out : Int32) (H : f_X12_farOf_60 p1 g = some out) : xC mX12_farOf 1 21 0 0 S [.ref 60, .int p1] g S (fun r g' => r = some (.int out) ∧ g' = g) := by
  have H : ((f_X12_homeAt_60 p1 g).bind fun w1 =>
(f_X12_farFrom_60 w1 g).bind fun w2 =>
some w2) = some out := H
  refine xC.of 12 SH2 [some (.ref 60), some (.int p1)] hS (by decide +kernel) rfl (fun _ _ => Nat.le_of_ble_eq_true rfl) (fun _ _ => rfl) ?_
  intro k A hR hrm hz
  refine xb A [(.aload_n 0, 1, 0, 0, .null), (.aload_n 0, 1, 0, 0, .null), (.iload_n 1, 1, 0, 0, .null)] (pc' := 3) (ls' := [some (.ref 60), some (.int p1)]) (st' := [.int p1, .ref 60, .ref 60]) (g' := g) (by decide +kernel) rfl ?_
  obtain ⟨w1, e1, H⟩ := xbind H
  refine xcallV A (ix := 339) (nxt := 6) hrm hz [.int p1] [.ref 60] 1743 (c_X12_homeAt_60 hS _ e1) ok_X12_homeAt (by decide +kernel) rfl (fun r g1 hq => ?_)
  rw [hq.1, hq.2]
  show xW k S 0 0 6 [some (.ref 60), some (.int p1)] [.int w1, .ref 60] g
  obtain ⟨w2, e2, H⟩ := xbind H
  refine xcallV A (ix := 342) (nxt := 9) hrm hz [.int w1] [] 1723 (c_X12_farFrom_60 hS _ e2) ok_X12_farFrom (by decide +kernel) rfl (fun r g1 hq => ?_)
  rw [hq.1, hq.2]
  show xW k S 0 0 9 [some (.ref 60), some (.int p1)] [.int w2] g
  obtain rfl := Option.some.inj H
  exact xret_i A hR hz (by decide +kernel) rfl ⟨rfl, rfl⟩
def f_X12_isThere_60 (p1 : Int32) (g : xG) : Option (Int32) :=
  xg (¬ (p1 < 0 ∨ 40 ≤ p1.toNatClampNeg)) (
    xg (¬ ((g.1 60 18) < 0 ∨ 2 ≤ (g.1 60 18).toNatClampNeg)) (
      if (g.1 94 p1.toNatClampNeg) = (g.1 79 (g.1 60 18).toNatClampNeg) then
        some 1
      else
        some 0))
set_option maxRecDepth 20000 in
theorem c_X12_isThere_60 {S : List xSh} (hS : xpf SH2 S) {g : xG} {p1 : Int32} (out : Int32) (H : f_X12_isThere_60 p1 g = some out) : xC mX12_isThere 0 0 0 0 S [.ref 60, .int p1] g S (fun r g' => r = some (.int out) ∧ g' = g) := by
  have H : (xg (¬ (p1 < 0 ∨ 40 ≤ p1.toNatClampNeg)) (
  xg (¬ ((g.1 60 18) < 0 ∨ 2 ≤ (g.1 60 18).toNatClampNeg)) (
    if (g.1 94 p1.toNatClampNeg) = (g.1 79 (g.1 60 18).toNatClampNeg) then
      some 1
    else
      some 0))) = some out := H
  refine xC.of 12 SH2 [some (.ref 60), some (.int p1)] hS (by decide +kernel) rfl (fun _ _ => Nat.le_of_ble_eq_true rfl) (fun _ _ => rfl) ?_
  intro k A hR hrm hz
  refine xb A [(.aload_n 0, 1, 0, 0, .null), (.getfield 119, 3, 60, 51, .ref 94), (.iload_n 1, 1, 0, 0, .null)] (pc' := 5) (ls' := [some (.ref 60), some (.int p1)]) (st' := [.int p1, .ref 94]) (g' := g) (by decide +kernel) rfl ?_
  obtain ⟨h1, H⟩ := xg_elim H
  refine xiald A (nxt := 6) (by decide +kernel) (hS _ _ sh_94) h1 ?_
  show xW k S 0 0 6 [some (.ref 60), some (.int p1)] [.int (g.1 94 p1.toNatClampNeg)] g
  refine xb A [(.aload_n 0, 1, 0, 0, .null), (.getfield 73, 3, 60, 32, .ref 79), (.aload_n 0, 1, 0, 0, .null), (.getfield 227, 3, 60, 18, .int 0)] (pc' := 14) (ls' := [some (.ref 60), some (.int p1)]) (st' := [.int (g.1 60 18), .ref 79, .int (g.1 94 p1.toNatClampNeg)]) (g' := g) (by decide +kernel) rfl ?_
  obtain ⟨h2, H⟩ := xg_elim H
  refine xiald A (nxt := 15) (by decide +kernel) (hS _ _ sh_79) h2 ?_
  show xW k S 0 0 15 [some (.ref 60), some (.int p1)] [.int (g.1 79 (g.1 60 18).toNatClampNeg), .int (g.1 94 p1.toNatClampNeg)] g
  refine xic_ne A (7) 22 18 (by decide +kernel) (fun h3 => ?_) (fun h3 => ?_)
  · rw [if_neg h3] at H
    refine xb A [(.iconst 0, 1, 0, 0, .int 0)] (pc' := 23) (ls' := [some (.ref 60), some (.int p1)]) (st' := [.int 0]) (g' := g) (by decide +kernel) rfl ?_
    obtain rfl := Option.some.inj H
    exact xret_i A hR hz (by decide +kernel) rfl ⟨rfl, rfl⟩
  · rw [if_pos h3] at H
    refine xb A [(.iconst 1, 1, 0, 0, .int 1)] (pc' := 19) (ls' := [some (.ref 60), some (.int p1)]) (st' := [.int 1]) (g' := g) (by decide +kernel) rfl ?_
    refine xgoto A (4) 23 (by decide +kernel) ?_
    obtain rfl := Option.some.inj H
    exact xret_i A hR hz (by decide +kernel) rfl ⟨rfl, rfl⟩
def f_X12_thereBits_60_4  (g : xG) : Nat → Int32 → Int32 → Option (Int32)
  | 0, _, _ => none
  | n + 1, l1, l2 =>
    xg (¬ ((g.1 60 18) < 0 ∨ 2 ≤ (g.1 60 18).toNatClampNeg)) (
      if (g.1 75 (g.1 60 18).toNatClampNeg) ≤ l2 then
        some l1
      else
        (f_X12_isThere_60 l2 g).bind fun w1 =>
        if w1 = 0 then
          f_X12_thereBits_60_4 g n l1 (l2 + 1)
        else
          f_X12_thereBits_60_4 g n (l1 ||| ((1 : Int32) <<< (l2 &&& 31))) (l2 + 1))
def f_X12_thereBits_60  (g : xG) : Option (Int32) :=
  f_X12_thereBits_60_4 g xN 0 0
set_option maxRecDepth 20000 in
theorem t_X12_thereBits_60_4 {k : xK} {S : List xSh} {g : xG} {out : Int32} (hS : xpf SH2 S) (A : xAt k mX12_thereBits.2.1 12 SH2 S) (hR : xRet k 0 0 S (fun r g' => r = some (.int out) ∧ g' = g) mX12_thereBits.2.2.2) (hrm : xrm k = { frames := 1, cells := 0, slots := 0, locals := 21 }) (hz : xhs k = xb0 k + S.length)   : ∀ (n : Nat) (l1 : Int32) (l2 : Int32), f_X12_thereBits_60_4 g n l1 l2 = some out → xW k S 0 0 4 [some (.ref 60), some (.int l1), some (.int l2)] [] g := by
  intro n
  induction n with
  | zero => intro l1 l2 H; exact absurd H (by simp [f_X12_thereBits_60_4])
  | succ n ih =>
    intro l1 l2 H
    have H : (xg (¬ ((g.1 60 18) < 0 ∨ 2 ≤ (g.1 60 18).toNatClampNeg)) (
  if (g.1 75 (g.1 60 18).toNatClampNeg) ≤ l2 then
    some l1
  else
    (f_X12_isThere_60 l2 g).bind fun w1 =>
    if w1 = 0 then
      f_X12_thereBits_60_4 g n l1 (l2 + 1)
    else
      f_X12_thereBits_60_4 g n (l1 ||| ((1 : Int32) <<< (l2 &&& 31))) (l2 + 1))) = some out := H
    refine xb A [(.iload_n 2, 1, 0, 0, .null), (.aload_n 0, 1, 0, 0, .null), (.getfield 61, 3, 60, 28, .ref 75), (.aload_n 0, 1, 0, 0, .null), (.getfield 227, 3, 60, 18, .int 0)] (pc' := 13) (ls' := [some (.ref 60), some (.int l1), some (.int l2)]) (st' := [.int (g.1 60 18), .ref 75, .int l2]) (g' := g) (by decide +kernel) rfl ?_
    obtain ⟨h1, H⟩ := xg_elim H
    refine xiald A (nxt := 14) (by decide +kernel) (hS _ _ sh_75) h1 ?_
    show xW k S 0 0 14 [some (.ref 60), some (.int l1), some (.int l2)] [.int (g.1 75 (g.1 60 18).toNatClampNeg), .int l2] g
    refine xic_ge A (23) 37 17 (by decide +kernel) (fun h2 => ?_) (fun h2 => ?_)
    · rw [if_pos h2] at H
      refine xb A [(.iload_n 1, 1, 0, 0, .null)] (pc' := 38) (ls' := [some (.ref 60), some (.int l1), some (.int l2)]) (st' := [.int l1]) (g' := g) (by decide +kernel) rfl ?_
      obtain rfl := Option.some.inj H
      exact xret_i A hR hz (by decide +kernel) rfl ⟨rfl, rfl⟩
    · rw [if_neg h2] at H
      refine xb A [(.aload_n 0, 1, 0, 0, .null), (.iload_n 2, 1, 0, 0, .null)] (pc' := 19) (ls' := [some (.ref 60), some (.int l1), some (.int l2)]) (st' := [.int l2, .ref 60]) (g' := g) (by decide +kernel) rfl ?_
      obtain ⟨w1, e1, H⟩ := xbind H
      refine xcallV A (ix := 327) (nxt := 22) hrm hz [.int l2] [] 1767 (c_X12_isThere_60 hS _ e1) ok_X12_isThere (by decide +kernel) rfl (fun r g1 hq => ?_)
      rw [hq.1, hq.2]
      show xW k S 0 0 22 [some (.ref 60), some (.int l1), some (.int l2)] [.int w1] g
      refine xif_eq A (9) 31 25 (by decide +kernel) (fun h3 => ?_) (fun h3 => ?_)
      · rw [if_pos h3] at H
        refine xb A [(.iinc 2 1, 3, 0, 0, .null)] (pc' := 34) (ls' := [some (.ref 60), some (.int l1), some (.int (l2 + 1))]) (st' := []) (g' := g) (by decide +kernel) rfl ?_
        refine xgoto A (-30) 4 (by decide +kernel) ?_
        exact ih _ _ H
      · rw [if_neg h3] at H
        refine xb A [(.iload_n 1, 1, 0, 0, .null), (.iconst 1, 1, 0, 0, .int 1), (.iload_n 2, 1, 0, 0, .null), (.ishl, 1, 0, 0, .null), (.ior, 1, 0, 0, .null), (.istore_n 1, 1, 0, 0, .null), (.iinc 2 1, 3, 0, 0, .null)] (pc' := 34) (ls' := [some (.ref 60), some (.int (l1 ||| ((1 : Int32) <<< (l2 &&& 31)))), some (.int (l2 + 1))]) (st' := []) (g' := g) (by decide +kernel) rfl ?_
        refine xgoto A (-30) 4 (by decide +kernel) ?_
        exact ih _ _ H
set_option maxRecDepth 20000 in
theorem c_X12_thereBits_60 {S : List xSh} (hS : xpf SH2 S) {g : xG}  (out : Int32) (H : f_X12_thereBits_60  g = some out) : xC mX12_thereBits 1 21 0 0 S [.ref 60] g S (fun r g' => r = some (.int out) ∧ g' = g) := by
  have H : (f_X12_thereBits_60_4 g xN 0 0) = some out := H
  refine xC.of 12 SH2 [some (.ref 60), none, none] hS (by decide +kernel) rfl (fun _ _ => Nat.le_of_ble_eq_true rfl) (fun _ _ => rfl) ?_
  intro k A hR hrm hz
  refine xb A [(.iconst 0, 1, 0, 0, .int 0), (.istore_n 1, 1, 0, 0, .null), (.iconst 0, 1, 0, 0, .int 0), (.istore_n 2, 1, 0, 0, .null)] (pc' := 4) (ls' := [some (.ref 60), some (.int 0), some (.int 0)]) (st' := []) (g' := g) (by decide +kernel) rfl ?_
  exact t_X12_thereBits_60_4 hS A hR hrm hz _ _ _ H
def f_X12_bits_4  : Nat → Int32 → Int32 → Int32 → Option (Int32)
  | 0, _, _, _ => none
  | n + 1, l0, l1, l2 =>
    if 10 ≤ l2 then
      some l1
    else
      f_X12_bits_4 n l0 (l1 + ((l0 >>> (l2 &&& 31)) &&& 1)) (l2 + 1)
def f_X12_bits (p0 : Int32) : Option (Int32) :=
  f_X12_bits_4 xN p0 0 0
set_option maxRecDepth 20000 in
theorem t_X12_bits_4 {k : xK} {S : List xSh} {g : xG} {out : Int32} (hS : xpf SH2 S) (A : xAt k mX12_bits.2.1 12 SH2 S) (hR : xRet k 0 0 S (fun r g' => r = some (.int out) ∧ g' = g) mX12_bits.2.2.2) (hrm : xrm k = { frames := 0, cells := 0, slots := 0, locals := 0 }) (hz : xhs k = xb0 k + S.length)   : ∀ (n : Nat) (l0 : Int32) (l1 : Int32) (l2 : Int32), f_X12_bits_4 n l0 l1 l2 = some out → xW k S 0 0 4 [some (.int l0), some (.int l1), some (.int l2)] [] g := by
  intro n
  induction n with
  | zero => intro l0 l1 l2 H; exact absurd H (by simp [f_X12_bits_4])
  | succ n ih =>
    intro l0 l1 l2 H
    have H : (if 10 ≤ l2 then
  some l1
else
  f_X12_bits_4 n l0 (l1 + ((l0 >>> (l2 &&& 31)) &&& 1)) (l2 + 1)) = some out := H
    refine xb A [(.iload_n 2, 1, 0, 0, .null), (.bipush 10, 2, 0, 0, .int 10)] (pc' := 7) (ls' := [some (.int l0), some (.int l1), some (.int l2)]) (st' := [.int 10, .int l2]) (g' := g) (by decide +kernel) rfl ?_
    refine xic_ge A (17) 24 10 (by decide +kernel) (fun h1 => ?_) (fun h1 => ?_)
    · rw [if_pos h1] at H
      refine xb A [(.iload_n 1, 1, 0, 0, .null)] (pc' := 25) (ls' := [some (.int l0), some (.int l1), some (.int l2)]) (st' := [.int l1]) (g' := g) (by decide +kernel) rfl ?_
      obtain rfl := Option.some.inj H
      exact xret_i A hR hz (by decide +kernel) rfl ⟨rfl, rfl⟩
    · rw [if_neg h1] at H
      refine xb A [(.iload_n 1, 1, 0, 0, .null), (.iload_n 0, 1, 0, 0, .null), (.iload_n 2, 1, 0, 0, .null), (.ishr, 1, 0, 0, .null), (.iconst 1, 1, 0, 0, .int 1), (.iand, 1, 0, 0, .null), (.iadd, 1, 0, 0, .null), (.istore_n 1, 1, 0, 0, .null), (.iinc 2 1, 3, 0, 0, .null)] (pc' := 21) (ls' := [some (.int l0), some (.int (l1 + ((l0 >>> (l2 &&& 31)) &&& 1))), some (.int (l2 + 1))]) (st' := []) (g' := g) (by decide +kernel) rfl ?_
      refine xgoto A (-17) 4 (by decide +kernel) ?_
      exact ih _ _ _ H
set_option maxRecDepth 20000 in
theorem c_X12_bits {S : List xSh} (hS : xpf SH2 S) {g : xG} {p0 : Int32} (out : Int32) (H : f_X12_bits p0 = some out) : xC mX12_bits 0 0 0 0 S [.int p0] g S (fun r g' => r = some (.int out) ∧ g' = g) := by
  have H : (f_X12_bits_4 xN p0 0 0) = some out := H
  refine xC.of 12 SH2 [some (.int p0), none, none] hS (by decide +kernel) rfl (fun _ _ => Nat.le_of_ble_eq_true rfl) (fun _ _ => rfl) ?_
  intro k A hR hrm hz
  refine xb A [(.iconst 0, 1, 0, 0, .int 0), (.istore_n 1, 1, 0, 0, .null), (.iconst 0, 1, 0, 0, .int 0), (.istore_n 2, 1, 0, 0, .null)] (pc' := 4) (ls' := [some (.int p0), some (.int 0), some (.int 0)]) (st' := []) (g' := g) (by decide +kernel) rfl ?_
  exact t_X12_bits_4 hS A hR hrm hz _ _ _ _ H
def fp_X12_looks_60 : List (Nat × Option Nat) := [(91, none)]
def f_X12_looks_60 (p1 : Int32) (p2 : Int32) (g : xG) : Option (xG) :=
  xg (¬ ((0 : Int32) < 0 ∨ 9 ≤ (0 : Int32).toNatClampNeg)) (
    xg (¬ ((12 + p1) < 0 ∨ 40 ≤ (12 + p1).toNatClampNeg)) (
      xg (¬ ((1 : Int32) < 0 ∨ 9 ≤ (1 : Int32).toNatClampNeg)) (
        xg (¬ (((6 * (g.1 60 18)) + p1) < 0 ∨ 12 ≤ ((6 * (g.1 60 18)) + p1).toNatClampNeg)) (
          xg (¬ ((2 : Int32) < 0 ∨ 9 ≤ (2 : Int32).toNatClampNeg)) (
            xg (¬ ((18 + p1) < 0 ∨ 40 ≤ (18 + p1).toNatClampNeg)) (
              xg (¬ ((3 : Int32) < 0 ∨ 9 ≤ (3 : Int32).toNatClampNeg)) (
                xg (¬ ((37 : Int32) < 0 ∨ 40 ≤ (37 : Int32).toNatClampNeg)) (
                  xg (¬ ((4 : Int32) < 0 ∨ 9 ≤ (4 : Int32).toNatClampNeg)) (
                    xg (¬ ((5 : Int32) < 0 ∨ 9 ≤ (5 : Int32).toNatClampNeg)) (
                      xg (¬ ((6 : Int32) < 0 ∨ 9 ≤ (6 : Int32).toNatClampNeg)) (
                        (f_X12_thereBits_60 (xupd (xupd (xupd (xupd (xupd (xupd (xupd g.1 91 (0 : Int32).toNatClampNeg p2) 91 (1 : Int32).toNatClampNeg (g.1 94 (12 + p1).toNatClampNeg)) 91 (2 : Int32).toNatClampNeg (g.1 76 ((6 * (g.1 60 18)) + p1).toNatClampNeg)) 91 (3 : Int32).toNatClampNeg (g.1 94 (18 + p1).toNatClampNeg)) 91 (4 : Int32).toNatClampNeg (g.1 94 (37 : Int32).toNatClampNeg)) 91 (5 : Int32).toNatClampNeg p1) 91 (6 : Int32).toNatClampNeg 0, g.2)).bind fun w1 =>
                        (f_X12_bits w1).bind fun w2 =>
                        xg (¬ ((7 : Int32) < 0 ∨ 9 ≤ (7 : Int32).toNatClampNeg)) (
                          xg (¬ ((24 + p1) < 0 ∨ 40 ≤ (24 + p1).toNatClampNeg)) (
                            xg (¬ ((8 : Int32) < 0 ∨ 9 ≤ (8 : Int32).toNatClampNeg)) (
                              some (xupd (xupd (xupd (xupd (xupd (xupd (xupd (xupd (xupd g.1 91 (0 : Int32).toNatClampNeg p2) 91 (1 : Int32).toNatClampNeg (g.1 94 (12 + p1).toNatClampNeg)) 91 (2 : Int32).toNatClampNeg (g.1 76 ((6 * (g.1 60 18)) + p1).toNatClampNeg)) 91 (3 : Int32).toNatClampNeg (g.1 94 (18 + p1).toNatClampNeg)) 91 (4 : Int32).toNatClampNeg (g.1 94 (37 : Int32).toNatClampNeg)) 91 (5 : Int32).toNatClampNeg p1) 91 (6 : Int32).toNatClampNeg 0) 91 (7 : Int32).toNatClampNeg w2) 91 (8 : Int32).toNatClampNeg (g.1 94 (24 + p1).toNatClampNeg), g.2)))))))))))))))
set_option maxRecDepth 20000 in
theorem c_X12_looks_60 {S : List xSh} (hS : xpf SH2 S) {g : xG} {p1 : Int32} {p2 : Int32} (out : xG) (H : f_X12_looks_60 p1 p2 g = some out) : xC mX12_looks 2 43 0 0 S [.ref 60, .int p1, .int p2] g S (fun r g' => r = none ∧ g' = out) := by
  have H : (xg (¬ ((0 : Int32) < 0 ∨ 9 ≤ (0 : Int32).toNatClampNeg)) (
  xg (¬ ((12 + p1) < 0 ∨ 40 ≤ (12 + p1).toNatClampNeg)) (
    xg (¬ ((1 : Int32) < 0 ∨ 9 ≤ (1 : Int32).toNatClampNeg)) (
      xg (¬ (((6 * (g.1 60 18)) + p1) < 0 ∨ 12 ≤ ((6 * (g.1 60 18)) + p1).toNatClampNeg)) (
        xg (¬ ((2 : Int32) < 0 ∨ 9 ≤ (2 : Int32).toNatClampNeg)) (
          xg (¬ ((18 + p1) < 0 ∨ 40 ≤ (18 + p1).toNatClampNeg)) (
            xg (¬ ((3 : Int32) < 0 ∨ 9 ≤ (3 : Int32).toNatClampNeg)) (
              xg (¬ ((37 : Int32) < 0 ∨ 40 ≤ (37 : Int32).toNatClampNeg)) (
                xg (¬ ((4 : Int32) < 0 ∨ 9 ≤ (4 : Int32).toNatClampNeg)) (
                  xg (¬ ((5 : Int32) < 0 ∨ 9 ≤ (5 : Int32).toNatClampNeg)) (
                    xg (¬ ((6 : Int32) < 0 ∨ 9 ≤ (6 : Int32).toNatClampNeg)) (
                      (f_X12_thereBits_60 (xupd (xupd (xupd (xupd (xupd (xupd (xupd g.1 91 (0 : Int32).toNatClampNeg p2) 91 (1 : Int32).toNatClampNeg (g.1 94 (12 + p1).toNatClampNeg)) 91 (2 : Int32).toNatClampNeg (g.1 76 ((6 * (g.1 60 18)) + p1).toNatClampNeg)) 91 (3 : Int32).toNatClampNeg (g.1 94 (18 + p1).toNatClampNeg)) 91 (4 : Int32).toNatClampNeg (g.1 94 (37 : Int32).toNatClampNeg)) 91 (5 : Int32).toNatClampNeg p1) 91 (6 : Int32).toNatClampNeg 0, g.2)).bind fun w1 =>
                      (f_X12_bits w1).bind fun w2 =>
                      xg (¬ ((7 : Int32) < 0 ∨ 9 ≤ (7 : Int32).toNatClampNeg)) (
                        xg (¬ ((24 + p1) < 0 ∨ 40 ≤ (24 + p1).toNatClampNeg)) (
                          xg (¬ ((8 : Int32) < 0 ∨ 9 ≤ (8 : Int32).toNatClampNeg)) (
                            some (xupd (xupd (xupd (xupd (xupd (xupd (xupd (xupd (xupd g.1 91 (0 : Int32).toNatClampNeg p2) 91 (1 : Int32).toNatClampNeg (g.1 94 (12 + p1).toNatClampNeg)) 91 (2 : Int32).toNatClampNeg (g.1 76 ((6 * (g.1 60 18)) + p1).toNatClampNeg)) 91 (3 : Int32).toNatClampNeg (g.1 94 (18 + p1).toNatClampNeg)) 91 (4 : Int32).toNatClampNeg (g.1 94 (37 : Int32).toNatClampNeg)) 91 (5 : Int32).toNatClampNeg p1) 91 (6 : Int32).toNatClampNeg 0) 91 (7 : Int32).toNatClampNeg w2) 91 (8 : Int32).toNatClampNeg (g.1 94 (24 + p1).toNatClampNeg), g.2)))))))))))))))) = some out := H
  refine xC.of 12 SH2 [some (.ref 60), some (.int p1), some (.int p2)] hS (by decide +kernel) rfl (fun _ _ => Nat.le_of_ble_eq_true rfl) (fun _ _ => rfl) ?_
  intro k A hR hrm hz
  refine xb A [(.aload_n 0, 1, 0, 0, .null), (.getfield 110, 3, 60, 47, .ref 91), (.iconst 0, 1, 0, 0, .int 0), (.iload_n 2, 1, 0, 0, .null)] (pc' := 6) (ls' := [some (.ref 60), some (.int p1), some (.int p2)]) (st' := [.int p2, .int 0, .ref 91]) (g' := g) (by decide +kernel) rfl ?_
  obtain ⟨h1, H⟩ := xg_elim H
  refine xiast A (nxt := 7) (by decide +kernel) (hS _ _ sh_91) h1 ?_
  show xW k S 0 0 7 [some (.ref 60), some (.int p1), some (.int p2)] [] (xupd g.1 91 (0 : Int32).toNatClampNeg p2, g.2)
  refine xb A [(.aload_n 0, 1, 0, 0, .null), (.getfield 110, 3, 60, 47, .ref 91), (.iconst 1, 1, 0, 0, .int 1), (.aload_n 0, 1, 0, 0, .null), (.getfield 119, 3, 60, 51, .ref 94), (.bipush 12, 2, 0, 0, .int 12), (.iload_n 1, 1, 0, 0, .null), (.iadd, 1, 0, 0, .null)] (pc' := 20) (ls' := [some (.ref 60), some (.int p1), some (.int p2)]) (st' := [.int (12 + p1), .ref 94, .int 1, .ref 91]) (g' := (xupd g.1 91 (0 : Int32).toNatClampNeg p2, g.2)) (by decide +kernel) rfl ?_
  obtain ⟨h2, H⟩ := xg_elim H
  refine xiald A (nxt := 21) (by decide +kernel) (hS _ _ sh_94) h2 ?_
  show xW k S 0 0 21 [some (.ref 60), some (.int p1), some (.int p2)] [.int (g.1 94 (12 + p1).toNatClampNeg), .int 1, .ref 91] (xupd g.1 91 (0 : Int32).toNatClampNeg p2, g.2)
  obtain ⟨h3, H⟩ := xg_elim H
  refine xiast A (nxt := 22) (by decide +kernel) (hS _ _ sh_91) h3 ?_
  show xW k S 0 0 22 [some (.ref 60), some (.int p1), some (.int p2)] [] (xupd (xupd g.1 91 (0 : Int32).toNatClampNeg p2) 91 (1 : Int32).toNatClampNeg (g.1 94 (12 + p1).toNatClampNeg), g.2)
  refine xb A [(.aload_n 0, 1, 0, 0, .null), (.getfield 110, 3, 60, 47, .ref 91), (.iconst 2, 1, 0, 0, .int 2), (.aload_n 0, 1, 0, 0, .null), (.getfield 64, 3, 60, 29, .ref 76), (.bipush 6, 2, 0, 0, .int 6), (.aload_n 0, 1, 0, 0, .null), (.getfield 227, 3, 60, 18, .int 0), (.imul, 1, 0, 0, .null), (.iload_n 1, 1, 0, 0, .null), (.iadd, 1, 0, 0, .null)] (pc' := 40) (ls' := [some (.ref 60), some (.int p1), some (.int p2)]) (st' := [.int ((6 * (g.1 60 18)) + p1), .ref 76, .int 2, .ref 91]) (g' := (xupd (xupd g.1 91 (0 : Int32).toNatClampNeg p2) 91 (1 : Int32).toNatClampNeg (g.1 94 (12 + p1).toNatClampNeg), g.2)) (by decide +kernel) rfl ?_
  obtain ⟨h4, H⟩ := xg_elim H
  refine xiald A (nxt := 41) (by decide +kernel) (hS _ _ sh_76) h4 ?_
  show xW k S 0 0 41 [some (.ref 60), some (.int p1), some (.int p2)] [.int (g.1 76 ((6 * (g.1 60 18)) + p1).toNatClampNeg), .int 2, .ref 91] (xupd (xupd g.1 91 (0 : Int32).toNatClampNeg p2) 91 (1 : Int32).toNatClampNeg (g.1 94 (12 + p1).toNatClampNeg), g.2)
  obtain ⟨h5, H⟩ := xg_elim H
  refine xiast A (nxt := 42) (by decide +kernel) (hS _ _ sh_91) h5 ?_
  show xW k S 0 0 42 [some (.ref 60), some (.int p1), some (.int p2)] [] (xupd (xupd (xupd g.1 91 (0 : Int32).toNatClampNeg p2) 91 (1 : Int32).toNatClampNeg (g.1 94 (12 + p1).toNatClampNeg)) 91 (2 : Int32).toNatClampNeg (g.1 76 ((6 * (g.1 60 18)) + p1).toNatClampNeg), g.2)
  refine xb A [(.aload_n 0, 1, 0, 0, .null), (.getfield 110, 3, 60, 47, .ref 91), (.iconst 3, 1, 0, 0, .int 3), (.aload_n 0, 1, 0, 0, .null), (.getfield 119, 3, 60, 51, .ref 94), (.bipush 18, 2, 0, 0, .int 18), (.iload_n 1, 1, 0, 0, .null), (.iadd, 1, 0, 0, .null)] (pc' := 55) (ls' := [some (.ref 60), some (.int p1), some (.int p2)]) (st' := [.int (18 + p1), .ref 94, .int 3, .ref 91]) (g' := (xupd (xupd (xupd g.1 91 (0 : Int32).toNatClampNeg p2) 91 (1 : Int32).toNatClampNeg (g.1 94 (12 + p1).toNatClampNeg)) 91 (2 : Int32).toNatClampNeg (g.1 76 ((6 * (g.1 60 18)) + p1).toNatClampNeg), g.2)) (by decide +kernel) rfl ?_
  obtain ⟨h6, H⟩ := xg_elim H
  refine xiald A (nxt := 56) (by decide +kernel) (hS _ _ sh_94) h6 ?_
  show xW k S 0 0 56 [some (.ref 60), some (.int p1), some (.int p2)] [.int (g.1 94 (18 + p1).toNatClampNeg), .int 3, .ref 91] (xupd (xupd (xupd g.1 91 (0 : Int32).toNatClampNeg p2) 91 (1 : Int32).toNatClampNeg (g.1 94 (12 + p1).toNatClampNeg)) 91 (2 : Int32).toNatClampNeg (g.1 76 ((6 * (g.1 60 18)) + p1).toNatClampNeg), g.2)
  obtain ⟨h7, H⟩ := xg_elim H
  refine xiast A (nxt := 57) (by decide +kernel) (hS _ _ sh_91) h7 ?_
  show xW k S 0 0 57 [some (.ref 60), some (.int p1), some (.int p2)] [] (xupd (xupd (xupd (xupd g.1 91 (0 : Int32).toNatClampNeg p2) 91 (1 : Int32).toNatClampNeg (g.1 94 (12 + p1).toNatClampNeg)) 91 (2 : Int32).toNatClampNeg (g.1 76 ((6 * (g.1 60 18)) + p1).toNatClampNeg)) 91 (3 : Int32).toNatClampNeg (g.1 94 (18 + p1).toNatClampNeg), g.2)
  refine xb A [(.aload_n 0, 1, 0, 0, .null), (.getfield 110, 3, 60, 47, .ref 91), (.iconst 4, 1, 0, 0, .int 4), (.aload_n 0, 1, 0, 0, .null), (.getfield 119, 3, 60, 51, .ref 94), (.bipush 37, 2, 0, 0, .int 37)] (pc' := 68) (ls' := [some (.ref 60), some (.int p1), some (.int p2)]) (st' := [.int 37, .ref 94, .int 4, .ref 91]) (g' := (xupd (xupd (xupd (xupd g.1 91 (0 : Int32).toNatClampNeg p2) 91 (1 : Int32).toNatClampNeg (g.1 94 (12 + p1).toNatClampNeg)) 91 (2 : Int32).toNatClampNeg (g.1 76 ((6 * (g.1 60 18)) + p1).toNatClampNeg)) 91 (3 : Int32).toNatClampNeg (g.1 94 (18 + p1).toNatClampNeg), g.2)) (by decide +kernel) rfl ?_
  obtain ⟨h8, H⟩ := xg_elim H
  refine xiald A (nxt := 69) (by decide +kernel) (hS _ _ sh_94) h8 ?_
  show xW k S 0 0 69 [some (.ref 60), some (.int p1), some (.int p2)] [.int (g.1 94 (37 : Int32).toNatClampNeg), .int 4, .ref 91] (xupd (xupd (xupd (xupd g.1 91 (0 : Int32).toNatClampNeg p2) 91 (1 : Int32).toNatClampNeg (g.1 94 (12 + p1).toNatClampNeg)) 91 (2 : Int32).toNatClampNeg (g.1 76 ((6 * (g.1 60 18)) + p1).toNatClampNeg)) 91 (3 : Int32).toNatClampNeg (g.1 94 (18 + p1).toNatClampNeg), g.2)
  obtain ⟨h9, H⟩ := xg_elim H
  refine xiast A (nxt := 70) (by decide +kernel) (hS _ _ sh_91) h9 ?_
  show xW k S 0 0 70 [some (.ref 60), some (.int p1), some (.int p2)] [] (xupd (xupd (xupd (xupd (xupd g.1 91 (0 : Int32).toNatClampNeg p2) 91 (1 : Int32).toNatClampNeg (g.1 94 (12 + p1).toNatClampNeg)) 91 (2 : Int32).toNatClampNeg (g.1 76 ((6 * (g.1 60 18)) + p1).toNatClampNeg)) 91 (3 : Int32).toNatClampNeg (g.1 94 (18 + p1).toNatClampNeg)) 91 (4 : Int32).toNatClampNeg (g.1 94 (37 : Int32).toNatClampNeg), g.2)
  refine xb A [(.aload_n 0, 1, 0, 0, .null), (.getfield 110, 3, 60, 47, .ref 91), (.iconst 5, 1, 0, 0, .int 5), (.iload_n 1, 1, 0, 0, .null)] (pc' := 76) (ls' := [some (.ref 60), some (.int p1), some (.int p2)]) (st' := [.int p1, .int 5, .ref 91]) (g' := (xupd (xupd (xupd (xupd (xupd g.1 91 (0 : Int32).toNatClampNeg p2) 91 (1 : Int32).toNatClampNeg (g.1 94 (12 + p1).toNatClampNeg)) 91 (2 : Int32).toNatClampNeg (g.1 76 ((6 * (g.1 60 18)) + p1).toNatClampNeg)) 91 (3 : Int32).toNatClampNeg (g.1 94 (18 + p1).toNatClampNeg)) 91 (4 : Int32).toNatClampNeg (g.1 94 (37 : Int32).toNatClampNeg), g.2)) (by decide +kernel) rfl ?_
  obtain ⟨h10, H⟩ := xg_elim H
  refine xiast A (nxt := 77) (by decide +kernel) (hS _ _ sh_91) h10 ?_
  show xW k S 0 0 77 [some (.ref 60), some (.int p1), some (.int p2)] [] (xupd (xupd (xupd (xupd (xupd (xupd g.1 91 (0 : Int32).toNatClampNeg p2) 91 (1 : Int32).toNatClampNeg (g.1 94 (12 + p1).toNatClampNeg)) 91 (2 : Int32).toNatClampNeg (g.1 76 ((6 * (g.1 60 18)) + p1).toNatClampNeg)) 91 (3 : Int32).toNatClampNeg (g.1 94 (18 + p1).toNatClampNeg)) 91 (4 : Int32).toNatClampNeg (g.1 94 (37 : Int32).toNatClampNeg)) 91 (5 : Int32).toNatClampNeg p1, g.2)
  refine xb A [(.aload_n 0, 1, 0, 0, .null), (.getfield 110, 3, 60, 47, .ref 91), (.bipush 6, 2, 0, 0, .int 6), (.iconst 0, 1, 0, 0, .int 0)] (pc' := 84) (ls' := [some (.ref 60), some (.int p1), some (.int p2)]) (st' := [.int 0, .int 6, .ref 91]) (g' := (xupd (xupd (xupd (xupd (xupd (xupd g.1 91 (0 : Int32).toNatClampNeg p2) 91 (1 : Int32).toNatClampNeg (g.1 94 (12 + p1).toNatClampNeg)) 91 (2 : Int32).toNatClampNeg (g.1 76 ((6 * (g.1 60 18)) + p1).toNatClampNeg)) 91 (3 : Int32).toNatClampNeg (g.1 94 (18 + p1).toNatClampNeg)) 91 (4 : Int32).toNatClampNeg (g.1 94 (37 : Int32).toNatClampNeg)) 91 (5 : Int32).toNatClampNeg p1, g.2)) (by decide +kernel) rfl ?_
  obtain ⟨h11, H⟩ := xg_elim H
  refine xiast A (nxt := 85) (by decide +kernel) (hS _ _ sh_91) h11 ?_
  show xW k S 0 0 85 [some (.ref 60), some (.int p1), some (.int p2)] [] (xupd (xupd (xupd (xupd (xupd (xupd (xupd g.1 91 (0 : Int32).toNatClampNeg p2) 91 (1 : Int32).toNatClampNeg (g.1 94 (12 + p1).toNatClampNeg)) 91 (2 : Int32).toNatClampNeg (g.1 76 ((6 * (g.1 60 18)) + p1).toNatClampNeg)) 91 (3 : Int32).toNatClampNeg (g.1 94 (18 + p1).toNatClampNeg)) 91 (4 : Int32).toNatClampNeg (g.1 94 (37 : Int32).toNatClampNeg)) 91 (5 : Int32).toNatClampNeg p1) 91 (6 : Int32).toNatClampNeg 0, g.2)
  refine xb A [(.aload_n 0, 1, 0, 0, .null), (.getfield 110, 3, 60, 47, .ref 91), (.bipush 7, 2, 0, 0, .int 7), (.aload_n 0, 1, 0, 0, .null)] (pc' := 92) (ls' := [some (.ref 60), some (.int p1), some (.int p2)]) (st' := [.ref 60, .int 7, .ref 91]) (g' := (xupd (xupd (xupd (xupd (xupd (xupd (xupd g.1 91 (0 : Int32).toNatClampNeg p2) 91 (1 : Int32).toNatClampNeg (g.1 94 (12 + p1).toNatClampNeg)) 91 (2 : Int32).toNatClampNeg (g.1 76 ((6 * (g.1 60 18)) + p1).toNatClampNeg)) 91 (3 : Int32).toNatClampNeg (g.1 94 (18 + p1).toNatClampNeg)) 91 (4 : Int32).toNatClampNeg (g.1 94 (37 : Int32).toNatClampNeg)) 91 (5 : Int32).toNatClampNeg p1) 91 (6 : Int32).toNatClampNeg 0, g.2)) (by decide +kernel) rfl ?_
  obtain ⟨w1, e1, H⟩ := xbind H
  refine xcallV A (ix := 333) (nxt := 95) hrm hz [] [.int 7, .ref 91] 1763 (c_X12_thereBits_60 hS _ e1) ok_X12_thereBits (by decide +kernel) rfl (fun r g1 hq => ?_)
  rw [hq.1, hq.2]
  show xW k S 0 0 95 [some (.ref 60), some (.int p1), some (.int p2)] [.int w1, .int 7, .ref 91] (xupd (xupd (xupd (xupd (xupd (xupd (xupd g.1 91 (0 : Int32).toNatClampNeg p2) 91 (1 : Int32).toNatClampNeg (g.1 94 (12 + p1).toNatClampNeg)) 91 (2 : Int32).toNatClampNeg (g.1 76 ((6 * (g.1 60 18)) + p1).toNatClampNeg)) 91 (3 : Int32).toNatClampNeg (g.1 94 (18 + p1).toNatClampNeg)) 91 (4 : Int32).toNatClampNeg (g.1 94 (37 : Int32).toNatClampNeg)) 91 (5 : Int32).toNatClampNeg p1) 91 (6 : Int32).toNatClampNeg 0, g.2)
  obtain ⟨w2, e2, H⟩ := xbind H
  refine xcallS A (ix := 336) (nxt := 98) hrm hz [.int w1] [.int 7, .ref 91] 1771 (c_X12_bits hS _ e2) ok_X12_bits (by decide +kernel) rfl (fun r g1 hq => ?_)
  rw [hq.1, hq.2]
  show xW k S 0 0 98 [some (.ref 60), some (.int p1), some (.int p2)] [.int w2, .int 7, .ref 91] (xupd (xupd (xupd (xupd (xupd (xupd (xupd g.1 91 (0 : Int32).toNatClampNeg p2) 91 (1 : Int32).toNatClampNeg (g.1 94 (12 + p1).toNatClampNeg)) 91 (2 : Int32).toNatClampNeg (g.1 76 ((6 * (g.1 60 18)) + p1).toNatClampNeg)) 91 (3 : Int32).toNatClampNeg (g.1 94 (18 + p1).toNatClampNeg)) 91 (4 : Int32).toNatClampNeg (g.1 94 (37 : Int32).toNatClampNeg)) 91 (5 : Int32).toNatClampNeg p1) 91 (6 : Int32).toNatClampNeg 0, g.2)
  obtain ⟨h12, H⟩ := xg_elim H
  refine xiast A (nxt := 99) (by decide +kernel) (hS _ _ sh_91) h12 ?_
  show xW k S 0 0 99 [some (.ref 60), some (.int p1), some (.int p2)] [] (xupd (xupd (xupd (xupd (xupd (xupd (xupd (xupd g.1 91 (0 : Int32).toNatClampNeg p2) 91 (1 : Int32).toNatClampNeg (g.1 94 (12 + p1).toNatClampNeg)) 91 (2 : Int32).toNatClampNeg (g.1 76 ((6 * (g.1 60 18)) + p1).toNatClampNeg)) 91 (3 : Int32).toNatClampNeg (g.1 94 (18 + p1).toNatClampNeg)) 91 (4 : Int32).toNatClampNeg (g.1 94 (37 : Int32).toNatClampNeg)) 91 (5 : Int32).toNatClampNeg p1) 91 (6 : Int32).toNatClampNeg 0) 91 (7 : Int32).toNatClampNeg w2, g.2)
  refine xb A [(.aload_n 0, 1, 0, 0, .null), (.getfield 110, 3, 60, 47, .ref 91), (.bipush 8, 2, 0, 0, .int 8), (.aload_n 0, 1, 0, 0, .null), (.getfield 119, 3, 60, 51, .ref 94), (.bipush 24, 2, 0, 0, .int 24), (.iload_n 1, 1, 0, 0, .null), (.iadd, 1, 0, 0, .null)] (pc' := 113) (ls' := [some (.ref 60), some (.int p1), some (.int p2)]) (st' := [.int (24 + p1), .ref 94, .int 8, .ref 91]) (g' := (xupd (xupd (xupd (xupd (xupd (xupd (xupd (xupd g.1 91 (0 : Int32).toNatClampNeg p2) 91 (1 : Int32).toNatClampNeg (g.1 94 (12 + p1).toNatClampNeg)) 91 (2 : Int32).toNatClampNeg (g.1 76 ((6 * (g.1 60 18)) + p1).toNatClampNeg)) 91 (3 : Int32).toNatClampNeg (g.1 94 (18 + p1).toNatClampNeg)) 91 (4 : Int32).toNatClampNeg (g.1 94 (37 : Int32).toNatClampNeg)) 91 (5 : Int32).toNatClampNeg p1) 91 (6 : Int32).toNatClampNeg 0) 91 (7 : Int32).toNatClampNeg w2, g.2)) (by decide +kernel) rfl ?_
  obtain ⟨h13, H⟩ := xg_elim H
  refine xiald A (nxt := 114) (by decide +kernel) (hS _ _ sh_94) h13 ?_
  show xW k S 0 0 114 [some (.ref 60), some (.int p1), some (.int p2)] [.int (g.1 94 (24 + p1).toNatClampNeg), .int 8, .ref 91] (xupd (xupd (xupd (xupd (xupd (xupd (xupd (xupd g.1 91 (0 : Int32).toNatClampNeg p2) 91 (1 : Int32).toNatClampNeg (g.1 94 (12 + p1).toNatClampNeg)) 91 (2 : Int32).toNatClampNeg (g.1 76 ((6 * (g.1 60 18)) + p1).toNatClampNeg)) 91 (3 : Int32).toNatClampNeg (g.1 94 (18 + p1).toNatClampNeg)) 91 (4 : Int32).toNatClampNeg (g.1 94 (37 : Int32).toNatClampNeg)) 91 (5 : Int32).toNatClampNeg p1) 91 (6 : Int32).toNatClampNeg 0) 91 (7 : Int32).toNatClampNeg w2, g.2)
  obtain ⟨h14, H⟩ := xg_elim H
  refine xiast A (nxt := 115) (by decide +kernel) (hS _ _ sh_91) h14 ?_
  show xW k S 0 0 115 [some (.ref 60), some (.int p1), some (.int p2)] [] (xupd (xupd (xupd (xupd (xupd (xupd (xupd (xupd (xupd g.1 91 (0 : Int32).toNatClampNeg p2) 91 (1 : Int32).toNatClampNeg (g.1 94 (12 + p1).toNatClampNeg)) 91 (2 : Int32).toNatClampNeg (g.1 76 ((6 * (g.1 60 18)) + p1).toNatClampNeg)) 91 (3 : Int32).toNatClampNeg (g.1 94 (18 + p1).toNatClampNeg)) 91 (4 : Int32).toNatClampNeg (g.1 94 (37 : Int32).toNatClampNeg)) 91 (5 : Int32).toNatClampNeg p1) 91 (6 : Int32).toNatClampNeg 0) 91 (7 : Int32).toNatClampNeg w2) 91 (8 : Int32).toNatClampNeg (g.1 94 (24 + p1).toNatClampNeg), g.2)
  obtain rfl := Option.some.inj H
  exact xret_v A hR hz (by decide +kernel) ⟨rfl, rfl⟩
theorem fr_X12_looks_60 {p1 : Int32} {p2 : Int32} {g : xG} (out : xG) (H : f_X12_looks_60 p1 p2 g = some out) : xfrm fp_X12_looks_60 g (out) := by
  have H : (xg (¬ ((0 : Int32) < 0 ∨ 9 ≤ (0 : Int32).toNatClampNeg)) (
  xg (¬ ((12 + p1) < 0 ∨ 40 ≤ (12 + p1).toNatClampNeg)) (
    xg (¬ ((1 : Int32) < 0 ∨ 9 ≤ (1 : Int32).toNatClampNeg)) (
      xg (¬ (((6 * (g.1 60 18)) + p1) < 0 ∨ 12 ≤ ((6 * (g.1 60 18)) + p1).toNatClampNeg)) (
        xg (¬ ((2 : Int32) < 0 ∨ 9 ≤ (2 : Int32).toNatClampNeg)) (
          xg (¬ ((18 + p1) < 0 ∨ 40 ≤ (18 + p1).toNatClampNeg)) (
            xg (¬ ((3 : Int32) < 0 ∨ 9 ≤ (3 : Int32).toNatClampNeg)) (
              xg (¬ ((37 : Int32) < 0 ∨ 40 ≤ (37 : Int32).toNatClampNeg)) (
                xg (¬ ((4 : Int32) < 0 ∨ 9 ≤ (4 : Int32).toNatClampNeg)) (
                  xg (¬ ((5 : Int32) < 0 ∨ 9 ≤ (5 : Int32).toNatClampNeg)) (
                    xg (¬ ((6 : Int32) < 0 ∨ 9 ≤ (6 : Int32).toNatClampNeg)) (
                      (f_X12_thereBits_60 (xupd (xupd (xupd (xupd (xupd (xupd (xupd g.1 91 (0 : Int32).toNatClampNeg p2) 91 (1 : Int32).toNatClampNeg (g.1 94 (12 + p1).toNatClampNeg)) 91 (2 : Int32).toNatClampNeg (g.1 76 ((6 * (g.1 60 18)) + p1).toNatClampNeg)) 91 (3 : Int32).toNatClampNeg (g.1 94 (18 + p1).toNatClampNeg)) 91 (4 : Int32).toNatClampNeg (g.1 94 (37 : Int32).toNatClampNeg)) 91 (5 : Int32).toNatClampNeg p1) 91 (6 : Int32).toNatClampNeg 0, g.2)).bind fun w1 =>
                      (f_X12_bits w1).bind fun w2 =>
                      xg (¬ ((7 : Int32) < 0 ∨ 9 ≤ (7 : Int32).toNatClampNeg)) (
                        xg (¬ ((24 + p1) < 0 ∨ 40 ≤ (24 + p1).toNatClampNeg)) (
                          xg (¬ ((8 : Int32) < 0 ∨ 9 ≤ (8 : Int32).toNatClampNeg)) (
                            some (xupd (xupd (xupd (xupd (xupd (xupd (xupd (xupd (xupd g.1 91 (0 : Int32).toNatClampNeg p2) 91 (1 : Int32).toNatClampNeg (g.1 94 (12 + p1).toNatClampNeg)) 91 (2 : Int32).toNatClampNeg (g.1 76 ((6 * (g.1 60 18)) + p1).toNatClampNeg)) 91 (3 : Int32).toNatClampNeg (g.1 94 (18 + p1).toNatClampNeg)) 91 (4 : Int32).toNatClampNeg (g.1 94 (37 : Int32).toNatClampNeg)) 91 (5 : Int32).toNatClampNeg p1) 91 (6 : Int32).toNatClampNeg 0) 91 (7 : Int32).toNatClampNeg w2) 91 (8 : Int32).toNatClampNeg (g.1 94 (24 + p1).toNatClampNeg), g.2)))))))))))))))) = some out := H
  obtain ⟨h1, H⟩ := xg_elim H
  have hf1 : xfrm fp_X12_looks_60 g ((xupd g.1 91 (0 : Int32).toNatClampNeg p2, g.2)) := xfrm.ua xfrm.rf rfl
  obtain ⟨h2, H⟩ := xg_elim H
  obtain ⟨h3, H⟩ := xg_elim H
  have hf2 : xfrm fp_X12_looks_60 g ((xupd (xupd g.1 91 (0 : Int32).toNatClampNeg p2) 91 (1 : Int32).toNatClampNeg (g.1 94 (12 + p1).toNatClampNeg), g.2)) := xfrm.ua hf1 rfl
  obtain ⟨h4, H⟩ := xg_elim H
  obtain ⟨h5, H⟩ := xg_elim H
  have hf3 : xfrm fp_X12_looks_60 g ((xupd (xupd (xupd g.1 91 (0 : Int32).toNatClampNeg p2) 91 (1 : Int32).toNatClampNeg (g.1 94 (12 + p1).toNatClampNeg)) 91 (2 : Int32).toNatClampNeg (g.1 76 ((6 * (g.1 60 18)) + p1).toNatClampNeg), g.2)) := xfrm.ua hf2 rfl
  obtain ⟨h6, H⟩ := xg_elim H
  obtain ⟨h7, H⟩ := xg_elim H
  have hf4 : xfrm fp_X12_looks_60 g ((xupd (xupd (xupd (xupd g.1 91 (0 : Int32).toNatClampNeg p2) 91 (1 : Int32).toNatClampNeg (g.1 94 (12 + p1).toNatClampNeg)) 91 (2 : Int32).toNatClampNeg (g.1 76 ((6 * (g.1 60 18)) + p1).toNatClampNeg)) 91 (3 : Int32).toNatClampNeg (g.1 94 (18 + p1).toNatClampNeg), g.2)) := xfrm.ua hf3 rfl
  obtain ⟨h8, H⟩ := xg_elim H
  obtain ⟨h9, H⟩ := xg_elim H
  have hf5 : xfrm fp_X12_looks_60 g ((xupd (xupd (xupd (xupd (xupd g.1 91 (0 : Int32).toNatClampNeg p2) 91 (1 : Int32).toNatClampNeg (g.1 94 (12 + p1).toNatClampNeg)) 91 (2 : Int32).toNatClampNeg (g.1 76 ((6 * (g.1 60 18)) + p1).toNatClampNeg)) 91 (3 : Int32).toNatClampNeg (g.1 94 (18 + p1).toNatClampNeg)) 91 (4 : Int32).toNatClampNeg (g.1 94 (37 : Int32).toNatClampNeg), g.2)) := xfrm.ua hf4 rfl
  obtain ⟨h10, H⟩ := xg_elim H
  have hf6 : xfrm fp_X12_looks_60 g ((xupd (xupd (xupd (xupd (xupd (xupd g.1 91 (0 : Int32).toNatClampNeg p2) 91 (1 : Int32).toNatClampNeg (g.1 94 (12 + p1).toNatClampNeg)) 91 (2 : Int32).toNatClampNeg (g.1 76 ((6 * (g.1 60 18)) + p1).toNatClampNeg)) 91 (3 : Int32).toNatClampNeg (g.1 94 (18 + p1).toNatClampNeg)) 91 (4 : Int32).toNatClampNeg (g.1 94 (37 : Int32).toNatClampNeg)) 91 (5 : Int32).toNatClampNeg p1, g.2)) := xfrm.ua hf5 rfl
  obtain ⟨h11, H⟩ := xg_elim H
  have hf7 : xfrm fp_X12_looks_60 g ((xupd (xupd (xupd (xupd (xupd (xupd (xupd g.1 91 (0 : Int32).toNatClampNeg p2) 91 (1 : Int32).toNatClampNeg (g.1 94 (12 + p1).toNatClampNeg)) 91 (2 : Int32).toNatClampNeg (g.1 76 ((6 * (g.1 60 18)) + p1).toNatClampNeg)) 91 (3 : Int32).toNatClampNeg (g.1 94 (18 + p1).toNatClampNeg)) 91 (4 : Int32).toNatClampNeg (g.1 94 (37 : Int32).toNatClampNeg)) 91 (5 : Int32).toNatClampNeg p1) 91 (6 : Int32).toNatClampNeg 0, g.2)) := xfrm.ua hf6 rfl
  obtain ⟨w1, e1, H⟩ := xbind H
  obtain ⟨w2, e2, H⟩ := xbind H
  obtain ⟨h12, H⟩ := xg_elim H
  have hf8 : xfrm fp_X12_looks_60 g ((xupd (xupd (xupd (xupd (xupd (xupd (xupd (xupd g.1 91 (0 : Int32).toNatClampNeg p2) 91 (1 : Int32).toNatClampNeg (g.1 94 (12 + p1).toNatClampNeg)) 91 (2 : Int32).toNatClampNeg (g.1 76 ((6 * (g.1 60 18)) + p1).toNatClampNeg)) 91 (3 : Int32).toNatClampNeg (g.1 94 (18 + p1).toNatClampNeg)) 91 (4 : Int32).toNatClampNeg (g.1 94 (37 : Int32).toNatClampNeg)) 91 (5 : Int32).toNatClampNeg p1) 91 (6 : Int32).toNatClampNeg 0) 91 (7 : Int32).toNatClampNeg w2, g.2)) := xfrm.ua hf7 rfl
  obtain ⟨h13, H⟩ := xg_elim H
  obtain ⟨h14, H⟩ := xg_elim H
  have hf9 : xfrm fp_X12_looks_60 g ((xupd (xupd (xupd (xupd (xupd (xupd (xupd (xupd (xupd g.1 91 (0 : Int32).toNatClampNeg p2) 91 (1 : Int32).toNatClampNeg (g.1 94 (12 + p1).toNatClampNeg)) 91 (2 : Int32).toNatClampNeg (g.1 76 ((6 * (g.1 60 18)) + p1).toNatClampNeg)) 91 (3 : Int32).toNatClampNeg (g.1 94 (18 + p1).toNatClampNeg)) 91 (4 : Int32).toNatClampNeg (g.1 94 (37 : Int32).toNatClampNeg)) 91 (5 : Int32).toNatClampNeg p1) 91 (6 : Int32).toNatClampNeg 0) 91 (7 : Int32).toNatClampNeg w2) 91 (8 : Int32).toNatClampNeg (g.1 94 (24 + p1).toNatClampNeg), g.2)) := xfrm.ua hf8 rfl
  obtain rfl := Option.some.inj H
  exact hf9
def fp_X12_termOf_60 : List (Nat × Option Nat) := [(60, some 49), (92, none)]
def f_X12_termOf_60_104 (k5 : Int32 → Int32 → Int32 → xG → Option (Int32 × xG)) (l2 : Int32) (l3 : Int32) (l4 : Int32) (l5 : Int32) (l6 : Int32) (l7 : Int32) (g : xG) : Option (Int32 × xG) :=
  if l5 = 2 then
    xg (¬ ((l3 - 1) < 0 ∨ 400 ≤ (l3 - 1).toNatClampNeg)) (
      k5 l2 l3 (l4 + 1) (xupd g.1 92 (l3 - 1).toNatClampNeg (l6 + l7), g.2))
  else
    if l5 = 3 then
      xg (¬ ((l3 - 1) < 0 ∨ 400 ≤ (l3 - 1).toNatClampNeg)) (
        k5 l2 l3 (l4 + 1) (xupd g.1 92 (l3 - 1).toNatClampNeg (l6 - l7), g.2))
    else
      if l5 = 4 then
        xg (¬ ((l3 - 1) < 0 ∨ 400 ≤ (l3 - 1).toNatClampNeg)) (
          k5 l2 l3 (l4 + 1) (xupd g.1 92 (l3 - 1).toNatClampNeg (l6 * l7), g.2))
      else
        xg (¬ l7 = 0) (
          xg (¬ ((l3 - 1) < 0 ∨ 400 ≤ (l3 - 1).toNatClampNeg)) (
            k5 l2 l3 (l4 + 1) (xupd g.1 92 (l3 - 1).toNatClampNeg (l6 / l7), g.2)))
def f_X12_termOf_60_5  : Nat → Int32 → Int32 → Int32 → xG → Option (Int32 × xG)
  | 0, _, _, _, _ => none
  | n + 1, l2, l3, l4, g =>
    if l2 ≤ l4 then
      xg (¬ ((0 : Int32) < 0 ∨ 400 ≤ (0 : Int32).toNatClampNeg)) (
        some (g.1 92 (0 : Int32).toNatClampNeg, g))
    else
      xg (¬ (l4 < 0 ∨ 840 ≤ l4.toNatClampNeg)) (
        if 2 ≤ (g.1 88 l4.toNatClampNeg) then
          xg (¬ (((l3 + (-1)) - 1) < 0 ∨ 400 ≤ ((l3 + (-1)) - 1).toNatClampNeg)) (
            xg (¬ ((l3 + (-1)) < 0 ∨ 400 ≤ (l3 + (-1)).toNatClampNeg)) (
              if (g.1 88 l4.toNatClampNeg) = 5 then
                if (g.1 92 (l3 + (-1)).toNatClampNeg) = 0 then
                  some (0, (xupd g.1 60 49 1, g.2))
                else
                  f_X12_termOf_60_104 (f_X12_termOf_60_5 n) l2 (l3 + (-1)) l4 (g.1 88 l4.toNatClampNeg) (g.1 92 ((l3 + (-1)) - 1).toNatClampNeg) (g.1 92 (l3 + (-1)).toNatClampNeg) g
              else
                f_X12_termOf_60_104 (f_X12_termOf_60_5 n) l2 (l3 + (-1)) l4 (g.1 88 l4.toNatClampNeg) (g.1 92 ((l3 + (-1)) - 1).toNatClampNeg) (g.1 92 (l3 + (-1)).toNatClampNeg) g))
        else
          if (g.1 88 l4.toNatClampNeg) = 0 then
            xg (¬ (l4 < 0 ∨ 840 ≤ l4.toNatClampNeg)) (
              xg (¬ (l3 < 0 ∨ 400 ≤ l3.toNatClampNeg)) (
                f_X12_termOf_60_5 n l2 (l3 + 1) (l4 + 1) (xupd g.1 92 l3.toNatClampNeg (g.1 89 l4.toNatClampNeg), g.2)))
          else
            xg (¬ (l4 < 0 ∨ 840 ≤ l4.toNatClampNeg)) (
              xg (¬ ((g.1 89 l4.toNatClampNeg) < 0 ∨ 9 ≤ (g.1 89 l4.toNatClampNeg).toNatClampNeg)) (
                xg (¬ (l3 < 0 ∨ 400 ≤ l3.toNatClampNeg)) (
                  f_X12_termOf_60_5 n l2 (l3 + 1) (l4 + 1) (xupd g.1 92 l3.toNatClampNeg (g.1 91 (g.1 89 l4.toNatClampNeg).toNatClampNeg), g.2)))))
def f_X12_termOf_60 (p1 : Int32) (p2 : Int32) (g : xG) : Option (Int32 × xG) :=
  f_X12_termOf_60_5 xN p2 0 p1 g
set_option maxRecDepth 20000 in
theorem t_X12_termOf_60_104 {k : xK} {S : List xSh} {out : Int32 × xG} (hS : xpf SH2 S) (A : xAt k mX12_termOf.2.1 12 SH2 S) (hR : xRet k 0 0 S (fun r g' => r = some (.int out.1) ∧ g' = out.2) mX12_termOf.2.2.2) (hrm : xrm k = { frames := 0, cells := 0, slots := 0, locals := 0 }) (hz : xhs k = xb0 k + S.length) {k5 : Int32 → Int32 → Int32 → xG → Option (Int32 × xG)} (hk5 : ∀ (l2 : Int32) (l3 : Int32) (l4 : Int32) (g : xG), k5 l2 l3 l4 g = some out → xW k S 0 0 5 [some (.ref 60), none, some (.int l2), some (.int l3), some (.int l4), none, none, none] [] g) : ∀ (l2 : Int32) (l3 : Int32) (l4 : Int32) (l5 : Int32) (l6 : Int32) (l7 : Int32) (g : xG), f_X12_termOf_60_104 k5 l2 l3 l4 l5 l6 l7 g = some out → xW k S 0 0 104 [some (.ref 60), none, some (.int l2), some (.int l3), some (.int l4), some (.int l5), some (.int l6), some (.int l7)] [] g := by
  intro l2 l3 l4 l5 l6 l7 g H
  have H : (if l5 = 2 then
  xg (¬ ((l3 - 1) < 0 ∨ 400 ≤ (l3 - 1).toNatClampNeg)) (
    k5 l2 l3 (l4 + 1) (xupd g.1 92 (l3 - 1).toNatClampNeg (l6 + l7), g.2))
else
  if l5 = 3 then
    xg (¬ ((l3 - 1) < 0 ∨ 400 ≤ (l3 - 1).toNatClampNeg)) (
      k5 l2 l3 (l4 + 1) (xupd g.1 92 (l3 - 1).toNatClampNeg (l6 - l7), g.2))
  else
    if l5 = 4 then
      xg (¬ ((l3 - 1) < 0 ∨ 400 ≤ (l3 - 1).toNatClampNeg)) (
        k5 l2 l3 (l4 + 1) (xupd g.1 92 (l3 - 1).toNatClampNeg (l6 * l7), g.2))
    else
      xg (¬ l7 = 0) (
        xg (¬ ((l3 - 1) < 0 ∨ 400 ≤ (l3 - 1).toNatClampNeg)) (
          k5 l2 l3 (l4 + 1) (xupd g.1 92 (l3 - 1).toNatClampNeg (l6 / l7), g.2)))) = some out := H
  refine xb A [(.aload_n 0, 1, 0, 0, .null), (.getfield 113, 3, 60, 48, .ref 92), (.iload_n 3, 1, 0, 0, .null), (.iconst 1, 1, 0, 0, .int 1), (.isub, 1, 0, 0, .null), (.iload 5, 2, 0, 0, .null), (.iconst 2, 1, 0, 0, .int 2)] (pc' := 114) (ls' := [some (.ref 60), none, some (.int l2), some (.int l3), some (.int l4), some (.int l5), some (.int l6), some (.int l7)]) (st' := [.int 2, .int l5, .int (l3 - 1), .ref 92]) (g' := g) (by decide +kernel) rfl ?_
  refine xic_ne A (11) 125 117 (by decide +kernel) (fun h8 => ?_) (fun h8 => ?_)
  · rw [if_neg h8] at H
    refine xb A [(.iload 5, 2, 0, 0, .null), (.iconst 3, 1, 0, 0, .int 3)] (pc' := 128) (ls' := [some (.ref 60), none, some (.int l2), some (.int l3), some (.int l4), some (.int l5), some (.int l6), some (.int l7)]) (st' := [.int 3, .int l5, .int (l3 - 1), .ref 92]) (g' := g) (by decide +kernel) rfl ?_
    refine xic_ne A (11) 139 131 (by decide +kernel) (fun h9 => ?_) (fun h9 => ?_)
    · rw [if_neg h9] at H
      refine xb A [(.iload 5, 2, 0, 0, .null), (.iconst 4, 1, 0, 0, .int 4)] (pc' := 142) (ls' := [some (.ref 60), none, some (.int l2), some (.int l3), some (.int l4), some (.int l5), some (.int l6), some (.int l7)]) (st' := [.int 4, .int l5, .int (l3 - 1), .ref 92]) (g' := g) (by decide +kernel) rfl ?_
      refine xic_ne A (11) 153 145 (by decide +kernel) (fun h10 => ?_) (fun h10 => ?_)
      · rw [if_neg h10] at H
        refine xb A [(.iload 6, 2, 0, 0, .null), (.iload 7, 2, 0, 0, .null)] (pc' := 157) (ls' := [some (.ref 60), none, some (.int l2), some (.int l3), some (.int l4), some (.int l5), some (.int l6), some (.int l7)]) (st' := [.int l7, .int l6, .int (l3 - 1), .ref 92]) (g' := g) (by decide +kernel) rfl ?_
        obtain ⟨h11, H⟩ := xg_elim H
        refine xidiv A (nxt := 158) (by decide +kernel) h11 ?_
        obtain ⟨h12, H⟩ := xg_elim H
        refine xiast A (nxt := 159) (by decide +kernel) (hS _ _ sh_92) h12 ?_
        show xW k S 0 0 159 [some (.ref 60), none, some (.int l2), some (.int l3), some (.int l4), some (.int l5), some (.int l6), some (.int l7)] [] (xupd g.1 92 (l3 - 1).toNatClampNeg (l6 / l7), g.2)
        refine xb A [(.iinc 4 1, 3, 0, 0, .null)] (pc' := 162) (ls' := [some (.ref 60), none, some (.int l2), some (.int l3), some (.int (l4 + 1)), some (.int l5), some (.int l6), some (.int l7)]) (st' := []) (g' := (xupd g.1 92 (l3 - 1).toNatClampNeg (l6 / l7), g.2)) (by decide +kernel) rfl ?_
        refine xgoto A (-157) 5 (by decide +kernel) ?_
        refine xweak (ls' := [some (.ref 60), none, some (.int l2), some (.int l3), some (.int (l4 + 1)), none, none, none]) (by exact ⟨rfl, ⟨rfl, ⟨rfl, ⟨rfl, trivial⟩⟩⟩⟩) ?_
        exact hk5 _ _ _ _ H
      · rw [if_pos h10] at H
        refine xb A [(.iload 6, 2, 0, 0, .null), (.iload 7, 2, 0, 0, .null), (.imul, 1, 0, 0, .null)] (pc' := 150) (ls' := [some (.ref 60), none, some (.int l2), some (.int l3), some (.int l4), some (.int l5), some (.int l6), some (.int l7)]) (st' := [.int (l6 * l7), .int (l3 - 1), .ref 92]) (g' := g) (by decide +kernel) rfl ?_
        refine xgoto A (8) 158 (by decide +kernel) ?_
        obtain ⟨h13, H⟩ := xg_elim H
        refine xiast A (nxt := 159) (by decide +kernel) (hS _ _ sh_92) h13 ?_
        show xW k S 0 0 159 [some (.ref 60), none, some (.int l2), some (.int l3), some (.int l4), some (.int l5), some (.int l6), some (.int l7)] [] (xupd g.1 92 (l3 - 1).toNatClampNeg (l6 * l7), g.2)
        refine xb A [(.iinc 4 1, 3, 0, 0, .null)] (pc' := 162) (ls' := [some (.ref 60), none, some (.int l2), some (.int l3), some (.int (l4 + 1)), some (.int l5), some (.int l6), some (.int l7)]) (st' := []) (g' := (xupd g.1 92 (l3 - 1).toNatClampNeg (l6 * l7), g.2)) (by decide +kernel) rfl ?_
        refine xgoto A (-157) 5 (by decide +kernel) ?_
        refine xweak (ls' := [some (.ref 60), none, some (.int l2), some (.int l3), some (.int (l4 + 1)), none, none, none]) (by exact ⟨rfl, ⟨rfl, ⟨rfl, ⟨rfl, trivial⟩⟩⟩⟩) ?_
        exact hk5 _ _ _ _ H
    · rw [if_pos h9] at H
      refine xb A [(.iload 6, 2, 0, 0, .null), (.iload 7, 2, 0, 0, .null), (.isub, 1, 0, 0, .null)] (pc' := 136) (ls' := [some (.ref 60), none, some (.int l2), some (.int l3), some (.int l4), some (.int l5), some (.int l6), some (.int l7)]) (st' := [.int (l6 - l7), .int (l3 - 1), .ref 92]) (g' := g) (by decide +kernel) rfl ?_
      refine xgoto A (22) 158 (by decide +kernel) ?_
      obtain ⟨h14, H⟩ := xg_elim H
      refine xiast A (nxt := 159) (by decide +kernel) (hS _ _ sh_92) h14 ?_
      show xW k S 0 0 159 [some (.ref 60), none, some (.int l2), some (.int l3), some (.int l4), some (.int l5), some (.int l6), some (.int l7)] [] (xupd g.1 92 (l3 - 1).toNatClampNeg (l6 - l7), g.2)
      refine xb A [(.iinc 4 1, 3, 0, 0, .null)] (pc' := 162) (ls' := [some (.ref 60), none, some (.int l2), some (.int l3), some (.int (l4 + 1)), some (.int l5), some (.int l6), some (.int l7)]) (st' := []) (g' := (xupd g.1 92 (l3 - 1).toNatClampNeg (l6 - l7), g.2)) (by decide +kernel) rfl ?_
      refine xgoto A (-157) 5 (by decide +kernel) ?_
      refine xweak (ls' := [some (.ref 60), none, some (.int l2), some (.int l3), some (.int (l4 + 1)), none, none, none]) (by exact ⟨rfl, ⟨rfl, ⟨rfl, ⟨rfl, trivial⟩⟩⟩⟩) ?_
      exact hk5 _ _ _ _ H
  · rw [if_pos h8] at H
    refine xb A [(.iload 6, 2, 0, 0, .null), (.iload 7, 2, 0, 0, .null), (.iadd, 1, 0, 0, .null)] (pc' := 122) (ls' := [some (.ref 60), none, some (.int l2), some (.int l3), some (.int l4), some (.int l5), some (.int l6), some (.int l7)]) (st' := [.int (l6 + l7), .int (l3 - 1), .ref 92]) (g' := g) (by decide +kernel) rfl ?_
    refine xgoto A (36) 158 (by decide +kernel) ?_
    obtain ⟨h15, H⟩ := xg_elim H
    refine xiast A (nxt := 159) (by decide +kernel) (hS _ _ sh_92) h15 ?_
    show xW k S 0 0 159 [some (.ref 60), none, some (.int l2), some (.int l3), some (.int l4), some (.int l5), some (.int l6), some (.int l7)] [] (xupd g.1 92 (l3 - 1).toNatClampNeg (l6 + l7), g.2)
    refine xb A [(.iinc 4 1, 3, 0, 0, .null)] (pc' := 162) (ls' := [some (.ref 60), none, some (.int l2), some (.int l3), some (.int (l4 + 1)), some (.int l5), some (.int l6), some (.int l7)]) (st' := []) (g' := (xupd g.1 92 (l3 - 1).toNatClampNeg (l6 + l7), g.2)) (by decide +kernel) rfl ?_
    refine xgoto A (-157) 5 (by decide +kernel) ?_
    refine xweak (ls' := [some (.ref 60), none, some (.int l2), some (.int l3), some (.int (l4 + 1)), none, none, none]) (by exact ⟨rfl, ⟨rfl, ⟨rfl, ⟨rfl, trivial⟩⟩⟩⟩) ?_
    exact hk5 _ _ _ _ H
theorem fr_X12_termOf_60_104 {k5 : Int32 → Int32 → Int32 → xG → Option (Int32 × xG)} (hk5 : ∀ (l2 : Int32) (l3 : Int32) (l4 : Int32) (g : xG) (out : Int32 × xG), k5 l2 l3 l4 g = some out → xfrm fp_X12_termOf_60 g (out.2)) : ∀ (l2 : Int32) (l3 : Int32) (l4 : Int32) (l5 : Int32) (l6 : Int32) (l7 : Int32) (g : xG) (out : Int32 × xG), f_X12_termOf_60_104 k5 l2 l3 l4 l5 l6 l7 g = some out → xfrm fp_X12_termOf_60 g (out.2) := by
  intro l2 l3 l4 l5 l6 l7 g out H
  have H : (if l5 = 2 then
  xg (¬ ((l3 - 1) < 0 ∨ 400 ≤ (l3 - 1).toNatClampNeg)) (
    k5 l2 l3 (l4 + 1) (xupd g.1 92 (l3 - 1).toNatClampNeg (l6 + l7), g.2))
else
  if l5 = 3 then
    xg (¬ ((l3 - 1) < 0 ∨ 400 ≤ (l3 - 1).toNatClampNeg)) (
      k5 l2 l3 (l4 + 1) (xupd g.1 92 (l3 - 1).toNatClampNeg (l6 - l7), g.2))
  else
    if l5 = 4 then
      xg (¬ ((l3 - 1) < 0 ∨ 400 ≤ (l3 - 1).toNatClampNeg)) (
        k5 l2 l3 (l4 + 1) (xupd g.1 92 (l3 - 1).toNatClampNeg (l6 * l7), g.2))
    else
      xg (¬ l7 = 0) (
        xg (¬ ((l3 - 1) < 0 ∨ 400 ≤ (l3 - 1).toNatClampNeg)) (
          k5 l2 l3 (l4 + 1) (xupd g.1 92 (l3 - 1).toNatClampNeg (l6 / l7), g.2)))) = some out := H
  by_cases h8 : l5 = 2
  · rw [if_pos h8] at H
    obtain ⟨h15, H⟩ := xg_elim H
    have hf4 : xfrm fp_X12_termOf_60 g ((xupd g.1 92 (l3 - 1).toNatClampNeg (l6 + l7), g.2)) := xfrm.ua xfrm.rf rfl
    exact xfrm.tr hf4 (hk5 _ _ _ _ _ H) rfl
  · rw [if_neg h8] at H
    by_cases h9 : l5 = 3
    · rw [if_pos h9] at H
      obtain ⟨h14, H⟩ := xg_elim H
      have hf3 : xfrm fp_X12_termOf_60 g ((xupd g.1 92 (l3 - 1).toNatClampNeg (l6 - l7), g.2)) := xfrm.ua xfrm.rf rfl
      exact xfrm.tr hf3 (hk5 _ _ _ _ _ H) rfl
    · rw [if_neg h9] at H
      by_cases h10 : l5 = 4
      · rw [if_pos h10] at H
        obtain ⟨h13, H⟩ := xg_elim H
        have hf2 : xfrm fp_X12_termOf_60 g ((xupd g.1 92 (l3 - 1).toNatClampNeg (l6 * l7), g.2)) := xfrm.ua xfrm.rf rfl
        exact xfrm.tr hf2 (hk5 _ _ _ _ _ H) rfl
      · rw [if_neg h10] at H
        obtain ⟨h11, H⟩ := xg_elim H
        obtain ⟨h12, H⟩ := xg_elim H
        have hf1 : xfrm fp_X12_termOf_60 g ((xupd g.1 92 (l3 - 1).toNatClampNeg (l6 / l7), g.2)) := xfrm.ua xfrm.rf rfl
        exact xfrm.tr hf1 (hk5 _ _ _ _ _ H) rfl
set_option maxRecDepth 20000 in
theorem t_X12_termOf_60_5 {k : xK} {S : List xSh} {out : Int32 × xG} (hS : xpf SH2 S) (A : xAt k mX12_termOf.2.1 12 SH2 S) (hR : xRet k 0 0 S (fun r g' => r = some (.int out.1) ∧ g' = out.2) mX12_termOf.2.2.2) (hrm : xrm k = { frames := 0, cells := 0, slots := 0, locals := 0 }) (hz : xhs k = xb0 k + S.length)   : ∀ (n : Nat) (l2 : Int32) (l3 : Int32) (l4 : Int32) (g : xG), f_X12_termOf_60_5 n l2 l3 l4 g = some out → xW k S 0 0 5 [some (.ref 60), none, some (.int l2), some (.int l3), some (.int l4), none, none, none] [] g := by
  intro n
  induction n with
  | zero => intro l2 l3 l4 g H; exact absurd H (by simp [f_X12_termOf_60_5])
  | succ n ih =>
    intro l2 l3 l4 g H
    have H : (if l2 ≤ l4 then
  xg (¬ ((0 : Int32) < 0 ∨ 400 ≤ (0 : Int32).toNatClampNeg)) (
    some (g.1 92 (0 : Int32).toNatClampNeg, g))
else
  xg (¬ (l4 < 0 ∨ 840 ≤ l4.toNatClampNeg)) (
    if 2 ≤ (g.1 88 l4.toNatClampNeg) then
      xg (¬ (((l3 + (-1)) - 1) < 0 ∨ 400 ≤ ((l3 + (-1)) - 1).toNatClampNeg)) (
        xg (¬ ((l3 + (-1)) < 0 ∨ 400 ≤ (l3 + (-1)).toNatClampNeg)) (
          if (g.1 88 l4.toNatClampNeg) = 5 then
            if (g.1 92 (l3 + (-1)).toNatClampNeg) = 0 then
              some (0, (xupd g.1 60 49 1, g.2))
            else
              f_X12_termOf_60_104 (f_X12_termOf_60_5 n) l2 (l3 + (-1)) l4 (g.1 88 l4.toNatClampNeg) (g.1 92 ((l3 + (-1)) - 1).toNatClampNeg) (g.1 92 (l3 + (-1)).toNatClampNeg) g
          else
            f_X12_termOf_60_104 (f_X12_termOf_60_5 n) l2 (l3 + (-1)) l4 (g.1 88 l4.toNatClampNeg) (g.1 92 ((l3 + (-1)) - 1).toNatClampNeg) (g.1 92 (l3 + (-1)).toNatClampNeg) g))
    else
      if (g.1 88 l4.toNatClampNeg) = 0 then
        xg (¬ (l4 < 0 ∨ 840 ≤ l4.toNatClampNeg)) (
          xg (¬ (l3 < 0 ∨ 400 ≤ l3.toNatClampNeg)) (
            f_X12_termOf_60_5 n l2 (l3 + 1) (l4 + 1) (xupd g.1 92 l3.toNatClampNeg (g.1 89 l4.toNatClampNeg), g.2)))
      else
        xg (¬ (l4 < 0 ∨ 840 ≤ l4.toNatClampNeg)) (
          xg (¬ ((g.1 89 l4.toNatClampNeg) < 0 ∨ 9 ≤ (g.1 89 l4.toNatClampNeg).toNatClampNeg)) (
            xg (¬ (l3 < 0 ∨ 400 ≤ l3.toNatClampNeg)) (
              f_X12_termOf_60_5 n l2 (l3 + 1) (l4 + 1) (xupd g.1 92 l3.toNatClampNeg (g.1 91 (g.1 89 l4.toNatClampNeg).toNatClampNeg), g.2)))))) = some out := H
    refine xb A [(.iload 4, 2, 0, 0, .null), (.iload_n 2, 1, 0, 0, .null)] (pc' := 8) (ls' := [some (.ref 60), none, some (.int l2), some (.int l3), some (.int l4), none, none, none]) (st' := [.int l2, .int l4]) (g' := g) (by decide +kernel) rfl ?_
    refine xic_ge A (157) 165 11 (by decide +kernel) (fun h1 => ?_) (fun h1 => ?_)
    · rw [if_pos h1] at H
      refine xb A [(.aload_n 0, 1, 0, 0, .null), (.getfield 113, 3, 60, 48, .ref 92), (.iconst 0, 1, 0, 0, .int 0)] (pc' := 170) (ls' := [some (.ref 60), none, some (.int l2), some (.int l3), some (.int l4), none, none, none]) (st' := [.int 0, .ref 92]) (g' := g) (by decide +kernel) rfl ?_
      obtain ⟨h2, H⟩ := xg_elim H
      refine xiald A (nxt := 171) (by decide +kernel) (hS _ _ sh_92) h2 ?_
      show xW k S 0 0 171 [some (.ref 60), none, some (.int l2), some (.int l3), some (.int l4), none, none, none] [.int (g.1 92 (0 : Int32).toNatClampNeg)] g
      obtain rfl := Option.some.inj H
      exact xret_i A hR hz (by decide +kernel) rfl ⟨rfl, rfl⟩
    · rw [if_neg h1] at H
      refine xb A [(.aload_n 0, 1, 0, 0, .null), (.getfield 101, 3, 60, 43, .ref 88), (.iload 4, 2, 0, 0, .null)] (pc' := 17) (ls' := [some (.ref 60), none, some (.int l2), some (.int l3), some (.int l4), none, none, none]) (st' := [.int l4, .ref 88]) (g' := g) (by decide +kernel) rfl ?_
      obtain ⟨h3, H⟩ := xg_elim H
      refine xiald A (nxt := 18) (by decide +kernel) (hS _ _ sh_88) h3 ?_
      show xW k S 0 0 18 [some (.ref 60), none, some (.int l2), some (.int l3), some (.int l4), none, none, none] [.int (g.1 88 l4.toNatClampNeg)] g
      refine xb A [(.istore 5, 2, 0, 0, .null), (.iload 5, 2, 0, 0, .null), (.iconst 2, 1, 0, 0, .int 2)] (pc' := 23) (ls' := [some (.ref 60), none, some (.int l2), some (.int l3), some (.int l4), some (.int (g.1 88 l4.toNatClampNeg)), none, none]) (st' := [.int 2, .int (g.1 88 l4.toNatClampNeg)]) (g' := g) (by decide +kernel) rfl ?_
      refine xic_ge A (42) 65 26 (by decide +kernel) (fun h4 => ?_) (fun h4 => ?_)
      · rw [if_pos h4] at H
        refine xb A [(.iinc 3 (-1), 3, 0, 0, .null), (.aload_n 0, 1, 0, 0, .null), (.getfield 113, 3, 60, 48, .ref 92), (.iload_n 3, 1, 0, 0, .null), (.iconst 1, 1, 0, 0, .int 1), (.isub, 1, 0, 0, .null)] (pc' := 75) (ls' := [some (.ref 60), none, some (.int l2), some (.int (l3 + (-1))), some (.int l4), some (.int (g.1 88 l4.toNatClampNeg)), none, none]) (st' := [.int ((l3 + (-1)) - 1), .ref 92]) (g' := g) (by decide +kernel) rfl ?_
        obtain ⟨h5, H⟩ := xg_elim H
        refine xiald A (nxt := 76) (by decide +kernel) (hS _ _ sh_92) h5 ?_
        show xW k S 0 0 76 [some (.ref 60), none, some (.int l2), some (.int (l3 + (-1))), some (.int l4), some (.int (g.1 88 l4.toNatClampNeg)), none, none] [.int (g.1 92 ((l3 + (-1)) - 1).toNatClampNeg)] g
        refine xb A [(.istore 6, 2, 0, 0, .null), (.aload_n 0, 1, 0, 0, .null), (.getfield 113, 3, 60, 48, .ref 92), (.iload_n 3, 1, 0, 0, .null)] (pc' := 83) (ls' := [some (.ref 60), none, some (.int l2), some (.int (l3 + (-1))), some (.int l4), some (.int (g.1 88 l4.toNatClampNeg)), some (.int (g.1 92 ((l3 + (-1)) - 1).toNatClampNeg)), none]) (st' := [.int (l3 + (-1)), .ref 92]) (g' := g) (by decide +kernel) rfl ?_
        obtain ⟨h6, H⟩ := xg_elim H
        refine xiald A (nxt := 84) (by decide +kernel) (hS _ _ sh_92) h6 ?_
        show xW k S 0 0 84 [some (.ref 60), none, some (.int l2), some (.int (l3 + (-1))), some (.int l4), some (.int (g.1 88 l4.toNatClampNeg)), some (.int (g.1 92 ((l3 + (-1)) - 1).toNatClampNeg)), none] [.int (g.1 92 (l3 + (-1)).toNatClampNeg)] g
        refine xb A [(.istore 7, 2, 0, 0, .null), (.iload 5, 2, 0, 0, .null), (.iconst 5, 1, 0, 0, .int 5)] (pc' := 89) (ls' := [some (.ref 60), none, some (.int l2), some (.int (l3 + (-1))), some (.int l4), some (.int (g.1 88 l4.toNatClampNeg)), some (.int (g.1 92 ((l3 + (-1)) - 1).toNatClampNeg)), some (.int (g.1 92 (l3 + (-1)).toNatClampNeg))]) (st' := [.int 5, .int (g.1 88 l4.toNatClampNeg)]) (g' := g) (by decide +kernel) rfl ?_
        refine xic_ne A (15) 104 92 (by decide +kernel) (fun h7 => ?_) (fun h7 => ?_)
        · rw [if_neg h7] at H
          exact t_X12_termOf_60_104 hS A hR hrm hz ih _ _ _ _ _ _ _ H
        · rw [if_pos h7] at H
          refine xb A [(.iload 7, 2, 0, 0, .null)] (pc' := 94) (ls' := [some (.ref 60), none, some (.int l2), some (.int (l3 + (-1))), some (.int l4), some (.int (g.1 88 l4.toNatClampNeg)), some (.int (g.1 92 ((l3 + (-1)) - 1).toNatClampNeg)), some (.int (g.1 92 (l3 + (-1)).toNatClampNeg))]) (st' := [.int (g.1 92 (l3 + (-1)).toNatClampNeg)]) (g' := g) (by decide +kernel) rfl ?_
          refine xif_ne A (10) 104 97 (by decide +kernel) (fun h16 => ?_) (fun h16 => ?_)
          · rw [if_neg h16] at H
            exact t_X12_termOf_60_104 hS A hR hrm hz ih _ _ _ _ _ _ _ H
          · rw [if_pos h16] at H
            refine xb A [(.aload_n 0, 1, 0, 0, .null), (.iconst 1, 1, 0, 0, .int 1), (.putfield 303, 3, 60, 49, .int 1), (.iconst 0, 1, 0, 0, .int 0)] (pc' := 103) (ls' := [some (.ref 60), none, some (.int l2), some (.int (l3 + (-1))), some (.int l4), some (.int (g.1 88 l4.toNatClampNeg)), some (.int (g.1 92 ((l3 + (-1)) - 1).toNatClampNeg)), some (.int (g.1 92 (l3 + (-1)).toNatClampNeg))]) (st' := [.int 0]) (g' := (xupd g.1 60 49 1, g.2)) (by decide +kernel) rfl ?_
            obtain rfl := Option.some.inj H
            exact xret_i A hR hz (by decide +kernel) rfl ⟨rfl, rfl⟩
      · rw [if_neg h4] at H
        refine xb A [(.aload_n 0, 1, 0, 0, .null), (.getfield 113, 3, 60, 48, .ref 92), (.iload_n 3, 1, 0, 0, .null), (.iload 5, 2, 0, 0, .null)] (pc' := 33) (ls' := [some (.ref 60), none, some (.int l2), some (.int l3), some (.int l4), some (.int (g.1 88 l4.toNatClampNeg)), none, none]) (st' := [.int (g.1 88 l4.toNatClampNeg), .int l3, .ref 92]) (g' := g) (by decide +kernel) rfl ?_
        refine xif_ne A (13) 46 36 (by decide +kernel) (fun h17 => ?_) (fun h17 => ?_)
        · rw [if_neg h17] at H
          refine xb A [(.aload_n 0, 1, 0, 0, .null), (.getfield 110, 3, 60, 47, .ref 91), (.aload_n 0, 1, 0, 0, .null), (.getfield 104, 3, 60, 44, .ref 89), (.iload 4, 2, 0, 0, .null)] (pc' := 56) (ls' := [some (.ref 60), none, some (.int l2), some (.int l3), some (.int l4), some (.int (g.1 88 l4.toNatClampNeg)), none, none]) (st' := [.int l4, .ref 89, .ref 91, .int l3, .ref 92]) (g' := g) (by decide +kernel) rfl ?_
          obtain ⟨h18, H⟩ := xg_elim H
          refine xiald A (nxt := 57) (by decide +kernel) (hS _ _ sh_89) h18 ?_
          show xW k S 0 0 57 [some (.ref 60), none, some (.int l2), some (.int l3), some (.int l4), some (.int (g.1 88 l4.toNatClampNeg)), none, none] [.int (g.1 89 l4.toNatClampNeg), .ref 91, .int l3, .ref 92] g
          obtain ⟨h19, H⟩ := xg_elim H
          refine xiald A (nxt := 58) (by decide +kernel) (hS _ _ sh_91) h19 ?_
          show xW k S 0 0 58 [some (.ref 60), none, some (.int l2), some (.int l3), some (.int l4), some (.int (g.1 88 l4.toNatClampNeg)), none, none] [.int (g.1 91 (g.1 89 l4.toNatClampNeg).toNatClampNeg), .int l3, .ref 92] g
          obtain ⟨h20, H⟩ := xg_elim H
          refine xiast A (nxt := 59) (by decide +kernel) (hS _ _ sh_92) h20 ?_
          show xW k S 0 0 59 [some (.ref 60), none, some (.int l2), some (.int l3), some (.int l4), some (.int (g.1 88 l4.toNatClampNeg)), none, none] [] (xupd g.1 92 l3.toNatClampNeg (g.1 91 (g.1 89 l4.toNatClampNeg).toNatClampNeg), g.2)
          refine xb A [(.iinc 3 1, 3, 0, 0, .null)] (pc' := 62) (ls' := [some (.ref 60), none, some (.int l2), some (.int (l3 + 1)), some (.int l4), some (.int (g.1 88 l4.toNatClampNeg)), none, none]) (st' := []) (g' := (xupd g.1 92 l3.toNatClampNeg (g.1 91 (g.1 89 l4.toNatClampNeg).toNatClampNeg), g.2)) (by decide +kernel) rfl ?_
          refine xgoto A (97) 159 (by decide +kernel) ?_
          refine xb A [(.iinc 4 1, 3, 0, 0, .null)] (pc' := 162) (ls' := [some (.ref 60), none, some (.int l2), some (.int (l3 + 1)), some (.int (l4 + 1)), some (.int (g.1 88 l4.toNatClampNeg)), none, none]) (st' := []) (g' := (xupd g.1 92 l3.toNatClampNeg (g.1 91 (g.1 89 l4.toNatClampNeg).toNatClampNeg), g.2)) (by decide +kernel) rfl ?_
          refine xgoto A (-157) 5 (by decide +kernel) ?_
          refine xweak (ls' := [some (.ref 60), none, some (.int l2), some (.int (l3 + 1)), some (.int (l4 + 1)), none, none, none]) (by exact ⟨rfl, ⟨rfl, ⟨rfl, ⟨rfl, trivial⟩⟩⟩⟩) ?_
          exact ih _ _ _ _ H
        · rw [if_pos h17] at H
          refine xb A [(.aload_n 0, 1, 0, 0, .null), (.getfield 104, 3, 60, 44, .ref 89), (.iload 4, 2, 0, 0, .null)] (pc' := 42) (ls' := [some (.ref 60), none, some (.int l2), some (.int l3), some (.int l4), some (.int (g.1 88 l4.toNatClampNeg)), none, none]) (st' := [.int l4, .ref 89, .int l3, .ref 92]) (g' := g) (by decide +kernel) rfl ?_
          obtain ⟨h21, H⟩ := xg_elim H
          refine xiald A (nxt := 43) (by decide +kernel) (hS _ _ sh_89) h21 ?_
          show xW k S 0 0 43 [some (.ref 60), none, some (.int l2), some (.int l3), some (.int l4), some (.int (g.1 88 l4.toNatClampNeg)), none, none] [.int (g.1 89 l4.toNatClampNeg), .int l3, .ref 92] g
          refine xgoto A (15) 58 (by decide +kernel) ?_
          obtain ⟨h22, H⟩ := xg_elim H
          refine xiast A (nxt := 59) (by decide +kernel) (hS _ _ sh_92) h22 ?_
          show xW k S 0 0 59 [some (.ref 60), none, some (.int l2), some (.int l3), some (.int l4), some (.int (g.1 88 l4.toNatClampNeg)), none, none] [] (xupd g.1 92 l3.toNatClampNeg (g.1 89 l4.toNatClampNeg), g.2)
          refine xb A [(.iinc 3 1, 3, 0, 0, .null)] (pc' := 62) (ls' := [some (.ref 60), none, some (.int l2), some (.int (l3 + 1)), some (.int l4), some (.int (g.1 88 l4.toNatClampNeg)), none, none]) (st' := []) (g' := (xupd g.1 92 l3.toNatClampNeg (g.1 89 l4.toNatClampNeg), g.2)) (by decide +kernel) rfl ?_
          refine xgoto A (97) 159 (by decide +kernel) ?_
          refine xb A [(.iinc 4 1, 3, 0, 0, .null)] (pc' := 162) (ls' := [some (.ref 60), none, some (.int l2), some (.int (l3 + 1)), some (.int (l4 + 1)), some (.int (g.1 88 l4.toNatClampNeg)), none, none]) (st' := []) (g' := (xupd g.1 92 l3.toNatClampNeg (g.1 89 l4.toNatClampNeg), g.2)) (by decide +kernel) rfl ?_
          refine xgoto A (-157) 5 (by decide +kernel) ?_
          refine xweak (ls' := [some (.ref 60), none, some (.int l2), some (.int (l3 + 1)), some (.int (l4 + 1)), none, none, none]) (by exact ⟨rfl, ⟨rfl, ⟨rfl, ⟨rfl, trivial⟩⟩⟩⟩) ?_
          exact ih _ _ _ _ H
theorem fr_X12_termOf_60_5   : ∀ (n : Nat) (l2 : Int32) (l3 : Int32) (l4 : Int32) (g : xG) (out : Int32 × xG), f_X12_termOf_60_5 n l2 l3 l4 g = some out → xfrm fp_X12_termOf_60 g (out.2) := by
  intro n
  induction n with
  | zero => intro l2 l3 l4 g out H; exact absurd H (by simp [f_X12_termOf_60_5])
  | succ n ih =>
    intro l2 l3 l4 g out H
    have H : (if l2 ≤ l4 then
  xg (¬ ((0 : Int32) < 0 ∨ 400 ≤ (0 : Int32).toNatClampNeg)) (
    some (g.1 92 (0 : Int32).toNatClampNeg, g))
else
  xg (¬ (l4 < 0 ∨ 840 ≤ l4.toNatClampNeg)) (
    if 2 ≤ (g.1 88 l4.toNatClampNeg) then
      xg (¬ (((l3 + (-1)) - 1) < 0 ∨ 400 ≤ ((l3 + (-1)) - 1).toNatClampNeg)) (
        xg (¬ ((l3 + (-1)) < 0 ∨ 400 ≤ (l3 + (-1)).toNatClampNeg)) (
          if (g.1 88 l4.toNatClampNeg) = 5 then
            if (g.1 92 (l3 + (-1)).toNatClampNeg) = 0 then
              some (0, (xupd g.1 60 49 1, g.2))
            else
              f_X12_termOf_60_104 (f_X12_termOf_60_5 n) l2 (l3 + (-1)) l4 (g.1 88 l4.toNatClampNeg) (g.1 92 ((l3 + (-1)) - 1).toNatClampNeg) (g.1 92 (l3 + (-1)).toNatClampNeg) g
          else
            f_X12_termOf_60_104 (f_X12_termOf_60_5 n) l2 (l3 + (-1)) l4 (g.1 88 l4.toNatClampNeg) (g.1 92 ((l3 + (-1)) - 1).toNatClampNeg) (g.1 92 (l3 + (-1)).toNatClampNeg) g))
    else
      if (g.1 88 l4.toNatClampNeg) = 0 then
        xg (¬ (l4 < 0 ∨ 840 ≤ l4.toNatClampNeg)) (
          xg (¬ (l3 < 0 ∨ 400 ≤ l3.toNatClampNeg)) (
            f_X12_termOf_60_5 n l2 (l3 + 1) (l4 + 1) (xupd g.1 92 l3.toNatClampNeg (g.1 89 l4.toNatClampNeg), g.2)))
      else
        xg (¬ (l4 < 0 ∨ 840 ≤ l4.toNatClampNeg)) (
          xg (¬ ((g.1 89 l4.toNatClampNeg) < 0 ∨ 9 ≤ (g.1 89 l4.toNatClampNeg).toNatClampNeg)) (
            xg (¬ (l3 < 0 ∨ 400 ≤ l3.toNatClampNeg)) (
              f_X12_termOf_60_5 n l2 (l3 + 1) (l4 + 1) (xupd g.1 92 l3.toNatClampNeg (g.1 91 (g.1 89 l4.toNatClampNeg).toNatClampNeg), g.2)))))) = some out := H
    by_cases h1 : l2 ≤ l4
    · rw [if_pos h1] at H
      obtain ⟨h2, H⟩ := xg_elim H
      obtain rfl := Option.some.inj H
      exact xfrm.rf
    · rw [if_neg h1] at H
      obtain ⟨h3, H⟩ := xg_elim H
      by_cases h4 : 2 ≤ (g.1 88 l4.toNatClampNeg)
      · rw [if_pos h4] at H
        obtain ⟨h5, H⟩ := xg_elim H
        obtain ⟨h6, H⟩ := xg_elim H
        by_cases h7 : (g.1 88 l4.toNatClampNeg) = 5
        · rw [if_pos h7] at H
          by_cases h16 : (g.1 92 (l3 + (-1)).toNatClampNeg) = 0
          · rw [if_pos h16] at H
            have hf5 : xfrm fp_X12_termOf_60 g ((xupd g.1 60 49 1, g.2)) := xfrm.up xfrm.rf rfl
            obtain rfl := Option.some.inj H
            exact hf5
          · rw [if_neg h16] at H
            exact xfrm.tr xfrm.rf (fr_X12_termOf_60_104 ih _ _ _ _ _ _ _ _ H) rfl
        · rw [if_neg h7] at H
          exact xfrm.tr xfrm.rf (fr_X12_termOf_60_104 ih _ _ _ _ _ _ _ _ H) rfl
      · rw [if_neg h4] at H
        by_cases h17 : (g.1 88 l4.toNatClampNeg) = 0
        · rw [if_pos h17] at H
          obtain ⟨h21, H⟩ := xg_elim H
          obtain ⟨h22, H⟩ := xg_elim H
          have hf7 : xfrm fp_X12_termOf_60 g ((xupd g.1 92 l3.toNatClampNeg (g.1 89 l4.toNatClampNeg), g.2)) := xfrm.ua xfrm.rf rfl
          exact xfrm.tr hf7 (ih _ _ _ _ _ H) rfl
        · rw [if_neg h17] at H
          obtain ⟨h18, H⟩ := xg_elim H
          obtain ⟨h19, H⟩ := xg_elim H
          obtain ⟨h20, H⟩ := xg_elim H
          have hf6 : xfrm fp_X12_termOf_60 g ((xupd g.1 92 l3.toNatClampNeg (g.1 91 (g.1 89 l4.toNatClampNeg).toNatClampNeg), g.2)) := xfrm.ua xfrm.rf rfl
          exact xfrm.tr hf6 (ih _ _ _ _ _ H) rfl
set_option maxRecDepth 20000 in
theorem c_X12_termOf_60 {S : List xSh} (hS : xpf SH2 S) {g : xG} {p1 : Int32} {p2 : Int32} (out : Int32 × xG) (H : f_X12_termOf_60 p1 p2 g = some out) : xC mX12_termOf 0 0 0 0 S [.ref 60, .int p1, .int p2] g S (fun r g' => r = some (.int out.1) ∧ g' = out.2) := by
  have H : (f_X12_termOf_60_5 xN p2 0 p1 g) = some out := H
  refine xC.of 12 SH2 [some (.ref 60), some (.int p1), some (.int p2), none, none, none, none, none] hS (by decide +kernel) rfl (fun _ _ => Nat.le_of_ble_eq_true rfl) (fun _ _ => rfl) ?_
  intro k A hR hrm hz
  refine xb A [(.iconst 0, 1, 0, 0, .int 0), (.istore_n 3, 1, 0, 0, .null), (.iload_n 1, 1, 0, 0, .null), (.istore 4, 2, 0, 0, .null)] (pc' := 5) (ls' := [some (.ref 60), some (.int p1), some (.int p2), some (.int 0), some (.int p1), none, none, none]) (st' := []) (g' := g) (by decide +kernel) rfl ?_
  refine xweak (ls' := [some (.ref 60), none, some (.int p2), some (.int 0), some (.int p1), none, none, none]) (by exact ⟨rfl, ⟨rfl, ⟨rfl, ⟨rfl, trivial⟩⟩⟩⟩) ?_
  exact t_X12_termOf_60_5 hS A hR hrm hz _ _ _ _ _ H
theorem fr_X12_termOf_60 {p1 : Int32} {p2 : Int32} {g : xG} (out : Int32 × xG) (H : f_X12_termOf_60 p1 p2 g = some out) : xfrm fp_X12_termOf_60 g (out.2) := by
  have H : (f_X12_termOf_60_5 xN p2 0 p1 g) = some out := H
  exact xfrm.tr xfrm.rf (fr_X12_termOf_60_5 _ _ _ _ _ _ H) rfl
def fp_X12_lawTells_60 : List (Nat × Option Nat) := [(60, some 49), (92, none)]
def f_X12_lawTells_60_119  (l4 : Int32) (g : xG) : Option (Int32 × xG) :=
  xg (¬ (l4 < 0 ∨ 260 ≤ l4.toNatClampNeg)) (
    xg (¬ (l4 < 0 ∨ 260 ≤ l4.toNatClampNeg)) (
      (f_X12_termOf_60 (g.1 86 l4.toNatClampNeg) (g.1 87 l4.toNatClampNeg) g).bind fun w1 =>
      if (w1.2.1 60 49) = 0 then
        some (w1.1, w1.2)
      else
        some (0, w1.2)))
def f_X12_lawTells_60_39  : Nat → Int32 → Int32 → xG → Option (Int32 × xG)
  | 0, _, _, _ => none
  | n + 1, l3, l4, g =>
    xg (¬ (l3 < 0 ∨ 8 ≤ l3.toNatClampNeg)) (
      if (g.1 82 l3.toNatClampNeg) ≤ l4 then
        some (0, g)
      else
        xg (¬ (l4 < 0 ∨ 260 ≤ l4.toNatClampNeg)) (
          if (g.1 83 l4.toNatClampNeg) = 0 then
            f_X12_lawTells_60_119 l4 g
          else
            xg (¬ (l4 < 0 ∨ 260 ≤ l4.toNatClampNeg)) (
              xg (¬ (l4 < 0 ∨ 260 ≤ l4.toNatClampNeg)) (
                (f_X12_termOf_60 (g.1 84 l4.toNatClampNeg) (g.1 85 l4.toNatClampNeg) g).bind fun w2 =>
                xg (¬ (l4 < 0 ∨ 260 ≤ l4.toNatClampNeg)) (
                  xg (¬ (l4 < 0 ∨ 260 ≤ l4.toNatClampNeg)) (
                    (f_X12_termOf_60 (w2.2.1 85 l4.toNatClampNeg) (w2.2.1 86 l4.toNatClampNeg) w2.2).bind fun w3 =>
                    if (w3.2.1 60 49) = 0 then
                      if w2.1 < w3.1 then
                        f_X12_lawTells_60_119 l4 w3.2
                      else
                        f_X12_lawTells_60_39 n l3 (l4 + 1) w3.2
                    else
                      some (0, w3.2)))))))
def f_X12_lawTells_60 (p1 : Int32) (p2 : Int32) (g : xG) : Option (Int32 × xG) :=
  xg (¬ (((4 * (g.1 60 18)) + p1) < 0 ∨ 8 ≤ ((4 * (g.1 60 18)) + p1).toNatClampNeg)) (
    xg (¬ (((4 * (g.1 60 18)) + p1) < 0 ∨ 8 ≤ ((4 * (g.1 60 18)) + p1).toNatClampNeg)) (
      if (g.1 81 ((4 * (g.1 60 18)) + p1).toNatClampNeg) = (g.1 82 ((4 * (g.1 60 18)) + p1).toNatClampNeg) then
        some (p2, g)
      else
        xg (¬ (((4 * (g.1 60 18)) + p1) < 0 ∨ 8 ≤ ((4 * (g.1 60 18)) + p1).toNatClampNeg)) (
          f_X12_lawTells_60_39 xN ((4 * (g.1 60 18)) + p1) (g.1 81 ((4 * (g.1 60 18)) + p1).toNatClampNeg) (xupd g.1 60 49 0, g.2))))
set_option maxRecDepth 20000 in
theorem t_X12_lawTells_60_119 {k : xK} {S : List xSh} {out : Int32 × xG} (hS : xpf SH2 S) (A : xAt k mX12_lawTells.2.1 12 SH2 S) (hR : xRet k 0 0 S (fun r g' => r = some (.int out.1) ∧ g' = out.2) mX12_lawTells.2.2.2) (hrm : xrm k = { frames := 1, cells := 0, slots := 0, locals := 27 }) (hz : xhs k = xb0 k + S.length)   : ∀ (l4 : Int32) (g : xG), f_X12_lawTells_60_119 l4 g = some out → xW k S 0 0 119 [some (.ref 60), none, none, none, some (.int l4), none, none] [] g := by
  intro l4 g H
  have H : (xg (¬ (l4 < 0 ∨ 260 ≤ l4.toNatClampNeg)) (
  xg (¬ (l4 < 0 ∨ 260 ≤ l4.toNatClampNeg)) (
    (f_X12_termOf_60 (g.1 86 l4.toNatClampNeg) (g.1 87 l4.toNatClampNeg) g).bind fun w1 =>
    if (w1.2.1 60 49) = 0 then
      some (w1.1, w1.2)
    else
      some (0, w1.2)))) = some out := H
  refine xb A [(.aload_n 0, 1, 0, 0, .null), (.aload_n 0, 1, 0, 0, .null), (.getfield 95, 3, 60, 40, .ref 86), (.iload 4, 2, 0, 0, .null)] (pc' := 126) (ls' := [some (.ref 60), none, none, none, some (.int l4), none, none]) (st' := [.int l4, .ref 86, .ref 60]) (g' := g) (by decide +kernel) rfl ?_
  obtain ⟨h9, H⟩ := xg_elim H
  refine xiald A (nxt := 127) (by decide +kernel) (hS _ _ sh_86) h9 ?_
  show xW k S 0 0 127 [some (.ref 60), none, none, none, some (.int l4), none, none] [.int (g.1 86 l4.toNatClampNeg), .ref 60] g
  refine xb A [(.aload_n 0, 1, 0, 0, .null), (.getfield 98, 3, 60, 41, .ref 87), (.iload 4, 2, 0, 0, .null)] (pc' := 133) (ls' := [some (.ref 60), none, none, none, some (.int l4), none, none]) (st' := [.int l4, .ref 87, .int (g.1 86 l4.toNatClampNeg), .ref 60]) (g' := g) (by decide +kernel) rfl ?_
  obtain ⟨h10, H⟩ := xg_elim H
  refine xiald A (nxt := 134) (by decide +kernel) (hS _ _ sh_87) h10 ?_
  show xW k S 0 0 134 [some (.ref 60), none, none, none, some (.int l4), none, none] [.int (g.1 87 l4.toNatClampNeg), .int (g.1 86 l4.toNatClampNeg), .ref 60] g
  obtain ⟨w1, e1, H⟩ := xbind H
  refine xcallV A (ix := 330) (nxt := 137) hrm hz [.int (g.1 86 l4.toNatClampNeg), .int (g.1 87 l4.toNatClampNeg)] [] 1778 (c_X12_termOf_60 hS _ e1) ok_X12_termOf (by decide +kernel) rfl (fun r g1 hq => ?_)
  rw [hq.1, hq.2]
  show xW k S 0 0 137 [some (.ref 60), none, none, none, some (.int l4), none, none] [.int w1.1] w1.2
  refine xb A [(.istore 5, 2, 0, 0, .null), (.aload_n 0, 1, 0, 0, .null), (.getfield 303, 3, 60, 49, .int 1)] (pc' := 143) (ls' := [some (.ref 60), none, none, none, some (.int l4), some (.int w1.1), none]) (st' := [.int (w1.2.1 60 49)]) (g' := w1.2) (by decide +kernel) rfl ?_
  refine xif_eq A (7) 150 146 (by decide +kernel) (fun h11 => ?_) (fun h11 => ?_)
  · rw [if_pos h11] at H
    refine xb A [(.iload 5, 2, 0, 0, .null)] (pc' := 152) (ls' := [some (.ref 60), none, none, none, some (.int l4), some (.int w1.1), none]) (st' := [.int w1.1]) (g' := w1.2) (by decide +kernel) rfl ?_
    obtain rfl := Option.some.inj H
    exact xret_i A hR hz (by decide +kernel) rfl ⟨rfl, rfl⟩
  · rw [if_neg h11] at H
    refine xb A [(.iconst 0, 1, 0, 0, .int 0)] (pc' := 147) (ls' := [some (.ref 60), none, none, none, some (.int l4), some (.int w1.1), none]) (st' := [.int 0]) (g' := w1.2) (by decide +kernel) rfl ?_
    refine xgoto A (5) 152 (by decide +kernel) ?_
    obtain rfl := Option.some.inj H
    exact xret_i A hR hz (by decide +kernel) rfl ⟨rfl, rfl⟩
theorem fr_X12_lawTells_60_119   : ∀ (l4 : Int32) (g : xG) (out : Int32 × xG), f_X12_lawTells_60_119 l4 g = some out → xfrm fp_X12_lawTells_60 g (out.2) := by
  intro l4 g out H
  have H : (xg (¬ (l4 < 0 ∨ 260 ≤ l4.toNatClampNeg)) (
  xg (¬ (l4 < 0 ∨ 260 ≤ l4.toNatClampNeg)) (
    (f_X12_termOf_60 (g.1 86 l4.toNatClampNeg) (g.1 87 l4.toNatClampNeg) g).bind fun w1 =>
    if (w1.2.1 60 49) = 0 then
      some (w1.1, w1.2)
    else
      some (0, w1.2)))) = some out := H
  obtain ⟨h9, H⟩ := xg_elim H
  obtain ⟨h10, H⟩ := xg_elim H
  obtain ⟨w1, e1, H⟩ := xbind H
  have hf2 : xfrm fp_X12_lawTells_60 g (w1.2) := xfrm.tr xfrm.rf (fr_X12_termOf_60 _ e1) rfl
  by_cases h11 : (w1.2.1 60 49) = 0
  · rw [if_pos h11] at H
    obtain rfl := Option.some.inj H
    exact hf2
  · rw [if_neg h11] at H
    obtain rfl := Option.some.inj H
    exact hf2
set_option maxRecDepth 20000 in
theorem t_X12_lawTells_60_39 {k : xK} {S : List xSh} {out : Int32 × xG} (hS : xpf SH2 S) (A : xAt k mX12_lawTells.2.1 12 SH2 S) (hR : xRet k 0 0 S (fun r g' => r = some (.int out.1) ∧ g' = out.2) mX12_lawTells.2.2.2) (hrm : xrm k = { frames := 1, cells := 0, slots := 0, locals := 27 }) (hz : xhs k = xb0 k + S.length)   : ∀ (n : Nat) (l3 : Int32) (l4 : Int32) (g : xG), f_X12_lawTells_60_39 n l3 l4 g = some out → xW k S 0 0 39 [some (.ref 60), none, none, some (.int l3), some (.int l4), none, none] [] g := by
  intro n
  induction n with
  | zero => intro l3 l4 g H; exact absurd H (by simp [f_X12_lawTells_60_39])
  | succ n ih =>
    intro l3 l4 g H
    have H : (xg (¬ (l3 < 0 ∨ 8 ≤ l3.toNatClampNeg)) (
  if (g.1 82 l3.toNatClampNeg) ≤ l4 then
    some (0, g)
  else
    xg (¬ (l4 < 0 ∨ 260 ≤ l4.toNatClampNeg)) (
      if (g.1 83 l4.toNatClampNeg) = 0 then
        f_X12_lawTells_60_119 l4 g
      else
        xg (¬ (l4 < 0 ∨ 260 ≤ l4.toNatClampNeg)) (
          xg (¬ (l4 < 0 ∨ 260 ≤ l4.toNatClampNeg)) (
            (f_X12_termOf_60 (g.1 84 l4.toNatClampNeg) (g.1 85 l4.toNatClampNeg) g).bind fun w2 =>
            xg (¬ (l4 < 0 ∨ 260 ≤ l4.toNatClampNeg)) (
              xg (¬ (l4 < 0 ∨ 260 ≤ l4.toNatClampNeg)) (
                (f_X12_termOf_60 (w2.2.1 85 l4.toNatClampNeg) (w2.2.1 86 l4.toNatClampNeg) w2.2).bind fun w3 =>
                if (w3.2.1 60 49) = 0 then
                  if w2.1 < w3.1 then
                    f_X12_lawTells_60_119 l4 w3.2
                  else
                    f_X12_lawTells_60_39 n l3 (l4 + 1) w3.2
                else
                  some (0, w3.2)))))))) = some out := H
    refine xb A [(.iload 4, 2, 0, 0, .null), (.aload_n 0, 1, 0, 0, .null), (.getfield 82, 3, 60, 35, .ref 82), (.iload_n 3, 1, 0, 0, .null)] (pc' := 46) (ls' := [some (.ref 60), none, none, some (.int l3), some (.int l4), none, none]) (st' := [.int l3, .ref 82, .int l4]) (g' := g) (by decide +kernel) rfl ?_
    obtain ⟨h5, H⟩ := xg_elim H
    refine xiald A (nxt := 47) (by decide +kernel) (hS _ _ sh_82) h5 ?_
    show xW k S 0 0 47 [some (.ref 60), none, none, some (.int l3), some (.int l4), none, none] [.int (g.1 82 l3.toNatClampNeg), .int l4] g
    refine xic_ge A (112) 159 50 (by decide +kernel) (fun h6 => ?_) (fun h6 => ?_)
    · rw [if_pos h6] at H
      refine xb A [(.iconst 0, 1, 0, 0, .int 0)] (pc' := 160) (ls' := [some (.ref 60), none, none, some (.int l3), some (.int l4), none, none]) (st' := [.int 0]) (g' := g) (by decide +kernel) rfl ?_
      obtain rfl := Option.some.inj H
      exact xret_i A hR hz (by decide +kernel) rfl ⟨rfl, rfl⟩
    · rw [if_neg h6] at H
      refine xb A [(.aload_n 0, 1, 0, 0, .null), (.getfield 85, 3, 60, 37, .ref 83), (.iload 4, 2, 0, 0, .null)] (pc' := 56) (ls' := [some (.ref 60), none, none, some (.int l3), some (.int l4), none, none]) (st' := [.int l4, .ref 83]) (g' := g) (by decide +kernel) rfl ?_
      obtain ⟨h7, H⟩ := xg_elim H
      refine xzald A (nxt := 57) (by decide +kernel) (hS _ _ sh_83) h7 ?_
      show xW k S 0 0 57 [some (.ref 60), none, none, some (.int l3), some (.int l4), none, none] [.int (g.1 83 l4.toNatClampNeg)] g
      refine xif_eq A (62) 119 60 (by decide +kernel) (fun h8 => ?_) (fun h8 => ?_)
      · rw [if_pos h8] at H
        refine xweak (ls' := [some (.ref 60), none, none, none, some (.int l4), none, none]) (by exact ⟨rfl, ⟨rfl, trivial⟩⟩) ?_
        exact t_X12_lawTells_60_119 hS A hR hrm hz _ _ H
      · rw [if_neg h8] at H
        refine xb A [(.aload_n 0, 1, 0, 0, .null), (.aload_n 0, 1, 0, 0, .null), (.getfield 89, 3, 60, 38, .ref 84), (.iload 4, 2, 0, 0, .null)] (pc' := 67) (ls' := [some (.ref 60), none, none, some (.int l3), some (.int l4), none, none]) (st' := [.int l4, .ref 84, .ref 60]) (g' := g) (by decide +kernel) rfl ?_
        obtain ⟨h12, H⟩ := xg_elim H
        refine xiald A (nxt := 68) (by decide +kernel) (hS _ _ sh_84) h12 ?_
        show xW k S 0 0 68 [some (.ref 60), none, none, some (.int l3), some (.int l4), none, none] [.int (g.1 84 l4.toNatClampNeg), .ref 60] g
        refine xb A [(.aload_n 0, 1, 0, 0, .null), (.getfield 92, 3, 60, 39, .ref 85), (.iload 4, 2, 0, 0, .null)] (pc' := 74) (ls' := [some (.ref 60), none, none, some (.int l3), some (.int l4), none, none]) (st' := [.int l4, .ref 85, .int (g.1 84 l4.toNatClampNeg), .ref 60]) (g' := g) (by decide +kernel) rfl ?_
        obtain ⟨h13, H⟩ := xg_elim H
        refine xiald A (nxt := 75) (by decide +kernel) (hS _ _ sh_85) h13 ?_
        show xW k S 0 0 75 [some (.ref 60), none, none, some (.int l3), some (.int l4), none, none] [.int (g.1 85 l4.toNatClampNeg), .int (g.1 84 l4.toNatClampNeg), .ref 60] g
        obtain ⟨w2, e2, H⟩ := xbind H
        refine xcallV A (ix := 330) (nxt := 78) hrm hz [.int (g.1 84 l4.toNatClampNeg), .int (g.1 85 l4.toNatClampNeg)] [] 1778 (c_X12_termOf_60 hS _ e2) ok_X12_termOf (by decide +kernel) rfl (fun r g1 hq => ?_)
        rw [hq.1, hq.2]
        show xW k S 0 0 78 [some (.ref 60), none, none, some (.int l3), some (.int l4), none, none] [.int w2.1] w2.2
        refine xb A [(.istore 5, 2, 0, 0, .null), (.aload_n 0, 1, 0, 0, .null), (.aload_n 0, 1, 0, 0, .null), (.getfield 92, 3, 60, 39, .ref 85), (.iload 4, 2, 0, 0, .null)] (pc' := 87) (ls' := [some (.ref 60), none, none, some (.int l3), some (.int l4), some (.int w2.1), none]) (st' := [.int l4, .ref 85, .ref 60]) (g' := w2.2) (by decide +kernel) rfl ?_
        obtain ⟨h14, H⟩ := xg_elim H
        refine xiald A (nxt := 88) (by decide +kernel) (hS _ _ sh_85) h14 ?_
        show xW k S 0 0 88 [some (.ref 60), none, none, some (.int l3), some (.int l4), some (.int w2.1), none] [.int (w2.2.1 85 l4.toNatClampNeg), .ref 60] w2.2
        refine xb A [(.aload_n 0, 1, 0, 0, .null), (.getfield 95, 3, 60, 40, .ref 86), (.iload 4, 2, 0, 0, .null)] (pc' := 94) (ls' := [some (.ref 60), none, none, some (.int l3), some (.int l4), some (.int w2.1), none]) (st' := [.int l4, .ref 86, .int (w2.2.1 85 l4.toNatClampNeg), .ref 60]) (g' := w2.2) (by decide +kernel) rfl ?_
        obtain ⟨h15, H⟩ := xg_elim H
        refine xiald A (nxt := 95) (by decide +kernel) (hS _ _ sh_86) h15 ?_
        show xW k S 0 0 95 [some (.ref 60), none, none, some (.int l3), some (.int l4), some (.int w2.1), none] [.int (w2.2.1 86 l4.toNatClampNeg), .int (w2.2.1 85 l4.toNatClampNeg), .ref 60] w2.2
        obtain ⟨w3, e3, H⟩ := xbind H
        refine xcallV A (ix := 330) (nxt := 98) hrm hz [.int (w2.2.1 85 l4.toNatClampNeg), .int (w2.2.1 86 l4.toNatClampNeg)] [] 1778 (c_X12_termOf_60 hS _ e3) ok_X12_termOf (by decide +kernel) rfl (fun r g1 hq => ?_)
        rw [hq.1, hq.2]
        show xW k S 0 0 98 [some (.ref 60), none, none, some (.int l3), some (.int l4), some (.int w2.1), none] [.int w3.1] w3.2
        refine xb A [(.istore 6, 2, 0, 0, .null), (.aload_n 0, 1, 0, 0, .null), (.getfield 303, 3, 60, 49, .int 1)] (pc' := 104) (ls' := [some (.ref 60), none, none, some (.int l3), some (.int l4), some (.int w2.1), some (.int w3.1)]) (st' := [.int (w3.2.1 60 49)]) (g' := w3.2) (by decide +kernel) rfl ?_
        refine xif_eq A (5) 109 107 (by decide +kernel) (fun h16 => ?_) (fun h16 => ?_)
        · rw [if_pos h16] at H
          refine xb A [(.iload 5, 2, 0, 0, .null), (.iload 6, 2, 0, 0, .null)] (pc' := 113) (ls' := [some (.ref 60), none, none, some (.int l3), some (.int l4), some (.int w2.1), some (.int w3.1)]) (st' := [.int w3.1, .int w2.1]) (g' := w3.2) (by decide +kernel) rfl ?_
          refine xic_lt A (6) 119 116 (by decide +kernel) (fun h17 => ?_) (fun h17 => ?_)
          · rw [if_pos h17] at H
            refine xweak (ls' := [some (.ref 60), none, none, none, some (.int l4), none, none]) (by exact ⟨rfl, ⟨rfl, trivial⟩⟩) ?_
            exact t_X12_lawTells_60_119 hS A hR hrm hz _ _ H
          · rw [if_neg h17] at H
            refine xgoto A (37) 153 (by decide +kernel) ?_
            refine xb A [(.iinc 4 1, 3, 0, 0, .null)] (pc' := 156) (ls' := [some (.ref 60), none, none, some (.int l3), some (.int (l4 + 1)), some (.int w2.1), some (.int w3.1)]) (st' := []) (g' := w3.2) (by decide +kernel) rfl ?_
            refine xgoto A (-117) 39 (by decide +kernel) ?_
            refine xweak (ls' := [some (.ref 60), none, none, some (.int l3), some (.int (l4 + 1)), none, none]) (by exact ⟨rfl, ⟨rfl, ⟨rfl, trivial⟩⟩⟩) ?_
            exact ih _ _ _ H
        · rw [if_neg h16] at H
          refine xb A [(.iconst 0, 1, 0, 0, .int 0)] (pc' := 108) (ls' := [some (.ref 60), none, none, some (.int l3), some (.int l4), some (.int w2.1), some (.int w3.1)]) (st' := [.int 0]) (g' := w3.2) (by decide +kernel) rfl ?_
          obtain rfl := Option.some.inj H
          exact xret_i A hR hz (by decide +kernel) rfl ⟨rfl, rfl⟩
theorem fr_X12_lawTells_60_39   : ∀ (n : Nat) (l3 : Int32) (l4 : Int32) (g : xG) (out : Int32 × xG), f_X12_lawTells_60_39 n l3 l4 g = some out → xfrm fp_X12_lawTells_60 g (out.2) := by
  intro n
  induction n with
  | zero => intro l3 l4 g out H; exact absurd H (by simp [f_X12_lawTells_60_39])
  | succ n ih =>
    intro l3 l4 g out H
    have H : (xg (¬ (l3 < 0 ∨ 8 ≤ l3.toNatClampNeg)) (
  if (g.1 82 l3.toNatClampNeg) ≤ l4 then
    some (0, g)
  else
    xg (¬ (l4 < 0 ∨ 260 ≤ l4.toNatClampNeg)) (
      if (g.1 83 l4.toNatClampNeg) = 0 then
        f_X12_lawTells_60_119 l4 g
      else
        xg (¬ (l4 < 0 ∨ 260 ≤ l4.toNatClampNeg)) (
          xg (¬ (l4 < 0 ∨ 260 ≤ l4.toNatClampNeg)) (
            (f_X12_termOf_60 (g.1 84 l4.toNatClampNeg) (g.1 85 l4.toNatClampNeg) g).bind fun w2 =>
            xg (¬ (l4 < 0 ∨ 260 ≤ l4.toNatClampNeg)) (
              xg (¬ (l4 < 0 ∨ 260 ≤ l4.toNatClampNeg)) (
                (f_X12_termOf_60 (w2.2.1 85 l4.toNatClampNeg) (w2.2.1 86 l4.toNatClampNeg) w2.2).bind fun w3 =>
                if (w3.2.1 60 49) = 0 then
                  if w2.1 < w3.1 then
                    f_X12_lawTells_60_119 l4 w3.2
                  else
                    f_X12_lawTells_60_39 n l3 (l4 + 1) w3.2
                else
                  some (0, w3.2)))))))) = some out := H
    obtain ⟨h5, H⟩ := xg_elim H
    by_cases h6 : (g.1 82 l3.toNatClampNeg) ≤ l4
    · rw [if_pos h6] at H
      obtain rfl := Option.some.inj H
      exact xfrm.rf
    · rw [if_neg h6] at H
      obtain ⟨h7, H⟩ := xg_elim H
      by_cases h8 : (g.1 83 l4.toNatClampNeg) = 0
      · rw [if_pos h8] at H
        exact xfrm.tr xfrm.rf (fr_X12_lawTells_60_119 _ _ _ H) rfl
      · rw [if_neg h8] at H
        obtain ⟨h12, H⟩ := xg_elim H
        obtain ⟨h13, H⟩ := xg_elim H
        obtain ⟨w2, e2, H⟩ := xbind H
        have hf3 : xfrm fp_X12_lawTells_60 g (w2.2) := xfrm.tr xfrm.rf (fr_X12_termOf_60 _ e2) rfl
        obtain ⟨h14, H⟩ := xg_elim H
        obtain ⟨h15, H⟩ := xg_elim H
        obtain ⟨w3, e3, H⟩ := xbind H
        have hf4 : xfrm fp_X12_lawTells_60 g (w3.2) := xfrm.tr hf3 (fr_X12_termOf_60 _ e3) rfl
        by_cases h16 : (w3.2.1 60 49) = 0
        · rw [if_pos h16] at H
          by_cases h17 : w2.1 < w3.1
          · rw [if_pos h17] at H
            exact xfrm.tr hf4 (fr_X12_lawTells_60_119 _ _ _ H) rfl
          · rw [if_neg h17] at H
            exact xfrm.tr hf4 (ih _ _ _ _ H) rfl
        · rw [if_neg h16] at H
          obtain rfl := Option.some.inj H
          exact hf4
set_option maxRecDepth 20000 in
theorem c_X12_lawTells_60 {S : List xSh} (hS : xpf SH2 S) {g : xG} {p1 : Int32} {p2 : Int32} (out : Int32 × xG) (H : f_X12_lawTells_60 p1 p2 g = some out) : xC mX12_lawTells 1 27 0 0 S [.ref 60, .int p1, .int p2] g S (fun r g' => r = some (.int out.1) ∧ g' = out.2) := by
  have H : (xg (¬ (((4 * (g.1 60 18)) + p1) < 0 ∨ 8 ≤ ((4 * (g.1 60 18)) + p1).toNatClampNeg)) (
  xg (¬ (((4 * (g.1 60 18)) + p1) < 0 ∨ 8 ≤ ((4 * (g.1 60 18)) + p1).toNatClampNeg)) (
    if (g.1 81 ((4 * (g.1 60 18)) + p1).toNatClampNeg) = (g.1 82 ((4 * (g.1 60 18)) + p1).toNatClampNeg) then
      some (p2, g)
    else
      xg (¬ (((4 * (g.1 60 18)) + p1) < 0 ∨ 8 ≤ ((4 * (g.1 60 18)) + p1).toNatClampNeg)) (
        f_X12_lawTells_60_39 xN ((4 * (g.1 60 18)) + p1) (g.1 81 ((4 * (g.1 60 18)) + p1).toNatClampNeg) (xupd g.1 60 49 0, g.2))))) = some out := H
  refine xC.of 12 SH2 [some (.ref 60), some (.int p1), some (.int p2), none, none, none, none] hS (by decide +kernel) rfl (fun _ _ => Nat.le_of_ble_eq_true rfl) (fun _ _ => rfl) ?_
  intro k A hR hrm hz
  refine xb A [(.iconst 4, 1, 0, 0, .int 4), (.aload_n 0, 1, 0, 0, .null), (.getfield 227, 3, 60, 18, .int 0), (.imul, 1, 0, 0, .null), (.iload_n 1, 1, 0, 0, .null), (.iadd, 1, 0, 0, .null), (.istore_n 3, 1, 0, 0, .null), (.aload_n 0, 1, 0, 0, .null), (.getfield 79, 3, 60, 34, .ref 81), (.iload_n 3, 1, 0, 0, .null)] (pc' := 14) (ls' := [some (.ref 60), some (.int p1), some (.int p2), some (.int ((4 * (g.1 60 18)) + p1)), none, none, none]) (st' := [.int ((4 * (g.1 60 18)) + p1), .ref 81]) (g' := g) (by decide +kernel) rfl ?_
  obtain ⟨h1, H⟩ := xg_elim H
  refine xiald A (nxt := 15) (by decide +kernel) (hS _ _ sh_81) h1 ?_
  show xW k S 0 0 15 [some (.ref 60), some (.int p1), some (.int p2), some (.int ((4 * (g.1 60 18)) + p1)), none, none, none] [.int (g.1 81 ((4 * (g.1 60 18)) + p1).toNatClampNeg)] g
  refine xb A [(.aload_n 0, 1, 0, 0, .null), (.getfield 82, 3, 60, 35, .ref 82), (.iload_n 3, 1, 0, 0, .null)] (pc' := 20) (ls' := [some (.ref 60), some (.int p1), some (.int p2), some (.int ((4 * (g.1 60 18)) + p1)), none, none, none]) (st' := [.int ((4 * (g.1 60 18)) + p1), .ref 82, .int (g.1 81 ((4 * (g.1 60 18)) + p1).toNatClampNeg)]) (g' := g) (by decide +kernel) rfl ?_
  obtain ⟨h2, H⟩ := xg_elim H
  refine xiald A (nxt := 21) (by decide +kernel) (hS _ _ sh_82) h2 ?_
  show xW k S 0 0 21 [some (.ref 60), some (.int p1), some (.int p2), some (.int ((4 * (g.1 60 18)) + p1)), none, none, none] [.int (g.1 82 ((4 * (g.1 60 18)) + p1).toNatClampNeg), .int (g.1 81 ((4 * (g.1 60 18)) + p1).toNatClampNeg)] g
  refine xic_ne A (5) 26 24 (by decide +kernel) (fun h3 => ?_) (fun h3 => ?_)
  · rw [if_neg h3] at H
    refine xb A [(.aload_n 0, 1, 0, 0, .null), (.iconst 0, 1, 0, 0, .int 0), (.putfield 303, 3, 60, 49, .int 1), (.aload_n 0, 1, 0, 0, .null), (.getfield 79, 3, 60, 34, .ref 81), (.iload_n 3, 1, 0, 0, .null)] (pc' := 36) (ls' := [some (.ref 60), some (.int p1), some (.int p2), some (.int ((4 * (g.1 60 18)) + p1)), none, none, none]) (st' := [.int ((4 * (g.1 60 18)) + p1), .ref 81]) (g' := (xupd g.1 60 49 0, g.2)) (by decide +kernel) rfl ?_
    obtain ⟨h4, H⟩ := xg_elim H
    refine xiald A (nxt := 37) (by decide +kernel) (hS _ _ sh_81) h4 ?_
    show xW k S 0 0 37 [some (.ref 60), some (.int p1), some (.int p2), some (.int ((4 * (g.1 60 18)) + p1)), none, none, none] [.int (g.1 81 ((4 * (g.1 60 18)) + p1).toNatClampNeg)] (xupd g.1 60 49 0, g.2)
    refine xb A [(.istore 4, 2, 0, 0, .null)] (pc' := 39) (ls' := [some (.ref 60), some (.int p1), some (.int p2), some (.int ((4 * (g.1 60 18)) + p1)), some (.int (g.1 81 ((4 * (g.1 60 18)) + p1).toNatClampNeg)), none, none]) (st' := []) (g' := (xupd g.1 60 49 0, g.2)) (by decide +kernel) rfl ?_
    refine xweak (ls' := [some (.ref 60), none, none, some (.int ((4 * (g.1 60 18)) + p1)), some (.int (g.1 81 ((4 * (g.1 60 18)) + p1).toNatClampNeg)), none, none]) (by exact ⟨rfl, ⟨rfl, ⟨rfl, trivial⟩⟩⟩) ?_
    exact t_X12_lawTells_60_39 hS A hR hrm hz _ _ _ _ H
  · rw [if_pos h3] at H
    refine xb A [(.iload_n 2, 1, 0, 0, .null)] (pc' := 25) (ls' := [some (.ref 60), some (.int p1), some (.int p2), some (.int ((4 * (g.1 60 18)) + p1)), none, none, none]) (st' := [.int p2]) (g' := g) (by decide +kernel) rfl ?_
    obtain rfl := Option.some.inj H
    exact xret_i A hR hz (by decide +kernel) rfl ⟨rfl, rfl⟩
theorem fr_X12_lawTells_60 {p1 : Int32} {p2 : Int32} {g : xG} (out : Int32 × xG) (H : f_X12_lawTells_60 p1 p2 g = some out) : xfrm fp_X12_lawTells_60 g (out.2) := by
  have H : (xg (¬ (((4 * (g.1 60 18)) + p1) < 0 ∨ 8 ≤ ((4 * (g.1 60 18)) + p1).toNatClampNeg)) (
  xg (¬ (((4 * (g.1 60 18)) + p1) < 0 ∨ 8 ≤ ((4 * (g.1 60 18)) + p1).toNatClampNeg)) (
    if (g.1 81 ((4 * (g.1 60 18)) + p1).toNatClampNeg) = (g.1 82 ((4 * (g.1 60 18)) + p1).toNatClampNeg) then
      some (p2, g)
    else
      xg (¬ (((4 * (g.1 60 18)) + p1) < 0 ∨ 8 ≤ ((4 * (g.1 60 18)) + p1).toNatClampNeg)) (
        f_X12_lawTells_60_39 xN ((4 * (g.1 60 18)) + p1) (g.1 81 ((4 * (g.1 60 18)) + p1).toNatClampNeg) (xupd g.1 60 49 0, g.2))))) = some out := H
  obtain ⟨h1, H⟩ := xg_elim H
  obtain ⟨h2, H⟩ := xg_elim H
  by_cases h3 : (g.1 81 ((4 * (g.1 60 18)) + p1).toNatClampNeg) = (g.1 82 ((4 * (g.1 60 18)) + p1).toNatClampNeg)
  · rw [if_pos h3] at H
    obtain rfl := Option.some.inj H
    exact xfrm.rf
  · rw [if_neg h3] at H
    have hf1 : xfrm fp_X12_lawTells_60 g ((xupd g.1 60 49 0, g.2)) := xfrm.up xfrm.rf rfl
    obtain ⟨h4, H⟩ := xg_elim H
    exact xfrm.tr hf1 (fr_X12_lawTells_60_39 _ _ _ _ _ H) rfl
