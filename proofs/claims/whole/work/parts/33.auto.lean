/-! methods, walked by program -/
def f_X12_begins_60_40  : Nat → Int32 → xG → Option (xG)
  | 0, _, _ => none
  | n + 1, l1, g =>
    xg (¬ ((g.1 60 18) < 0 ∨ 2 ≤ (g.1 60 18).toNatClampNeg)) (
      if (g.1 75 (g.1 60 18).toNatClampNeg) ≤ l1 then
        xg (¬ ((38 : Int32) < 0 ∨ 40 ≤ (38 : Int32).toNatClampNeg)) (
          xg (¬ ((g.1 60 18) < 0 ∨ 2 ≤ (g.1 60 18).toNatClampNeg)) (
            some (xupd (xupd (xupd g.1 94 (38 : Int32).toNatClampNeg (-2)) 60 52 (g.1 80 (g.1 60 18).toNatClampNeg)) 60 53 0, g.2)))
      else
        xg (¬ (((6 * (g.1 60 18)) + l1) < 0 ∨ 12 ≤ ((6 * (g.1 60 18)) + l1).toNatClampNeg)) (
          xg (¬ (l1 < 0 ∨ 40 ≤ l1.toNatClampNeg)) (
            f_X12_begins_60_40 n (l1 + 1) (xupd g.1 94 l1.toNatClampNeg (g.1 78 ((6 * (g.1 60 18)) + l1).toNatClampNeg), g.2))))
def f_X12_begins_60_2  : Nat → Int32 → xG → Option (xG)
  | 0, _, _ => none
  | n + 1, l1, g =>
    if 40 ≤ l1 then
      f_X12_begins_60_40 xN 0 g
    else
      if l1 < 6 then
        xg (¬ (l1 < 0 ∨ 40 ≤ l1.toNatClampNeg)) (
          f_X12_begins_60_2 n (l1 + 1) (xupd g.1 94 l1.toNatClampNeg 0, g.2))
      else
        if 12 ≤ l1 then
          xg (¬ (l1 < 0 ∨ 40 ≤ l1.toNatClampNeg)) (
            f_X12_begins_60_2 n (l1 + 1) (xupd g.1 94 l1.toNatClampNeg 0, g.2))
        else
          xg (¬ (l1 < 0 ∨ 40 ≤ l1.toNatClampNeg)) (
            f_X12_begins_60_2 n (l1 + 1) (xupd g.1 94 l1.toNatClampNeg (-2), g.2))
def f_X12_begins_60  (g : xG) : Option (xG) :=
  f_X12_begins_60_2 xN 0 g
set_option maxRecDepth 20000 in
theorem t_X12_begins_60_40 {k : xK} {S : List xSh} {out : xG} (hS : xpf SH2 S) (A : xAt k mX12_begins.2.1 12 SH2 S) (hR : xRet k 0 0 S (fun r g' => r = none ∧ g' = out) mX12_begins.2.2.2) (hrm : xrm k = { frames := 0, cells := 0, slots := 0, locals := 0 }) (hz : xhs k = xb0 k + S.length)   : ∀ (n : Nat) (l1 : Int32) (g : xG), f_X12_begins_60_40 n l1 g = some out → xW k S 0 0 40 [some (.ref 60), some (.int l1)] [] g := by
  intro n
  induction n with
  | zero => intro l1 g H; exact absurd H (by simp [f_X12_begins_60_40])
  | succ n ih =>
    intro l1 g H
    have H : (xg (¬ ((g.1 60 18) < 0 ∨ 2 ≤ (g.1 60 18).toNatClampNeg)) (
  if (g.1 75 (g.1 60 18).toNatClampNeg) ≤ l1 then
    xg (¬ ((38 : Int32) < 0 ∨ 40 ≤ (38 : Int32).toNatClampNeg)) (
      xg (¬ ((g.1 60 18) < 0 ∨ 2 ≤ (g.1 60 18).toNatClampNeg)) (
        some (xupd (xupd (xupd g.1 94 (38 : Int32).toNatClampNeg (-2)) 60 52 (g.1 80 (g.1 60 18).toNatClampNeg)) 60 53 0, g.2)))
  else
    xg (¬ (((6 * (g.1 60 18)) + l1) < 0 ∨ 12 ≤ ((6 * (g.1 60 18)) + l1).toNatClampNeg)) (
      xg (¬ (l1 < 0 ∨ 40 ≤ l1.toNatClampNeg)) (
        f_X12_begins_60_40 n (l1 + 1) (xupd g.1 94 l1.toNatClampNeg (g.1 78 ((6 * (g.1 60 18)) + l1).toNatClampNeg), g.2))))) = some out := H
    refine xb A [(.iload_n 1, 1, 0, 0, .null), (.aload_n 0, 1, 0, 0, .null), (.getfield 61, 3, 60, 28, .ref 75), (.aload_n 0, 1, 0, 0, .null), (.getfield 227, 3, 60, 18, .int 0)] (pc' := 49) (ls' := [some (.ref 60), some (.int l1)]) (st' := [.int (g.1 60 18), .ref 75, .int l1]) (g' := g) (by decide +kernel) rfl ?_
    obtain ⟨h2, H⟩ := xg_elim H
    refine xiald A (nxt := 50) (by decide +kernel) (hS _ _ sh_75) h2 ?_
    show xW k S 0 0 50 [some (.ref 60), some (.int l1)] [.int (g.1 75 (g.1 60 18).toNatClampNeg), .int l1] g
    refine xic_ge A (29) 79 53 (by decide +kernel) (fun h3 => ?_) (fun h3 => ?_)
    · rw [if_pos h3] at H
      refine xb A [(.aload_n 0, 1, 0, 0, .null), (.getfield 119, 3, 60, 51, .ref 94), (.bipush 38, 2, 0, 0, .int 38), (.bipush (-2), 2, 0, 0, .int (-2))] (pc' := 87) (ls' := [some (.ref 60), some (.int l1)]) (st' := [.int (-2), .int 38, .ref 94]) (g' := g) (by decide +kernel) rfl ?_
      obtain ⟨h4, H⟩ := xg_elim H
      refine xiast A (nxt := 88) (by decide +kernel) (hS _ _ sh_94) h4 ?_
      show xW k S 0 0 88 [some (.ref 60), some (.int l1)] [] (xupd g.1 94 (38 : Int32).toNatClampNeg (-2), g.2)
      refine xb A [(.aload_n 0, 1, 0, 0, .null), (.aload_n 0, 1, 0, 0, .null), (.getfield 76, 3, 60, 33, .ref 80), (.aload_n 0, 1, 0, 0, .null), (.getfield 227, 3, 60, 18, .int 0)] (pc' := 97) (ls' := [some (.ref 60), some (.int l1)]) (st' := [.int (g.1 60 18), .ref 80, .ref 60]) (g' := (xupd g.1 94 (38 : Int32).toNatClampNeg (-2), g.2)) (by decide +kernel) rfl ?_
      obtain ⟨h5, H⟩ := xg_elim H
      refine xiald A (nxt := 98) (by decide +kernel) (hS _ _ sh_80) h5 ?_
      show xW k S 0 0 98 [some (.ref 60), some (.int l1)] [.int (g.1 80 (g.1 60 18).toNatClampNeg), .ref 60] (xupd g.1 94 (38 : Int32).toNatClampNeg (-2), g.2)
      refine xb A [(.putfield 311, 3, 60, 52, .int 0), (.aload_n 0, 1, 0, 0, .null), (.iconst 0, 1, 0, 0, .int 0), (.putfield 314, 3, 60, 53, .int 1)] (pc' := 106) (ls' := [some (.ref 60), some (.int l1)]) (st' := []) (g' := (xupd (xupd (xupd g.1 94 (38 : Int32).toNatClampNeg (-2)) 60 52 (g.1 80 (g.1 60 18).toNatClampNeg)) 60 53 0, g.2)) (by decide +kernel) rfl ?_
      obtain rfl := Option.some.inj H
      exact xret_v A hR hz (by decide +kernel) ⟨rfl, rfl⟩
    · rw [if_neg h3] at H
      refine xb A [(.aload_n 0, 1, 0, 0, .null), (.getfield 119, 3, 60, 51, .ref 94), (.iload_n 1, 1, 0, 0, .null), (.aload_n 0, 1, 0, 0, .null), (.getfield 70, 3, 60, 31, .ref 78), (.bipush 6, 2, 0, 0, .int 6), (.aload_n 0, 1, 0, 0, .null), (.getfield 227, 3, 60, 18, .int 0), (.imul, 1, 0, 0, .null), (.iload_n 1, 1, 0, 0, .null), (.iadd, 1, 0, 0, .null)] (pc' := 71) (ls' := [some (.ref 60), some (.int l1)]) (st' := [.int ((6 * (g.1 60 18)) + l1), .ref 78, .int l1, .ref 94]) (g' := g) (by decide +kernel) rfl ?_
      obtain ⟨h6, H⟩ := xg_elim H
      refine xiald A (nxt := 72) (by decide +kernel) (hS _ _ sh_78) h6 ?_
      show xW k S 0 0 72 [some (.ref 60), some (.int l1)] [.int (g.1 78 ((6 * (g.1 60 18)) + l1).toNatClampNeg), .int l1, .ref 94] g
      obtain ⟨h7, H⟩ := xg_elim H
      refine xiast A (nxt := 73) (by decide +kernel) (hS _ _ sh_94) h7 ?_
      show xW k S 0 0 73 [some (.ref 60), some (.int l1)] [] (xupd g.1 94 l1.toNatClampNeg (g.1 78 ((6 * (g.1 60 18)) + l1).toNatClampNeg), g.2)
      refine xb A [(.iinc 1 1, 3, 0, 0, .null)] (pc' := 76) (ls' := [some (.ref 60), some (.int (l1 + 1))]) (st' := []) (g' := (xupd g.1 94 l1.toNatClampNeg (g.1 78 ((6 * (g.1 60 18)) + l1).toNatClampNeg), g.2)) (by decide +kernel) rfl ?_
      refine xgoto A (-36) 40 (by decide +kernel) ?_
      exact ih _ _ H
set_option maxRecDepth 20000 in
theorem t_X12_begins_60_2 {k : xK} {S : List xSh} {out : xG} (hS : xpf SH2 S) (A : xAt k mX12_begins.2.1 12 SH2 S) (hR : xRet k 0 0 S (fun r g' => r = none ∧ g' = out) mX12_begins.2.2.2) (hrm : xrm k = { frames := 0, cells := 0, slots := 0, locals := 0 }) (hz : xhs k = xb0 k + S.length)   : ∀ (n : Nat) (l1 : Int32) (g : xG), f_X12_begins_60_2 n l1 g = some out → xW k S 0 0 2 [some (.ref 60), some (.int l1)] [] g := by
  intro n
  induction n with
  | zero => intro l1 g H; exact absurd H (by simp [f_X12_begins_60_2])
  | succ n ih =>
    intro l1 g H
    have H : (if 40 ≤ l1 then
  f_X12_begins_60_40 xN 0 g
else
  if l1 < 6 then
    xg (¬ (l1 < 0 ∨ 40 ≤ l1.toNatClampNeg)) (
      f_X12_begins_60_2 n (l1 + 1) (xupd g.1 94 l1.toNatClampNeg 0, g.2))
  else
    if 12 ≤ l1 then
      xg (¬ (l1 < 0 ∨ 40 ≤ l1.toNatClampNeg)) (
        f_X12_begins_60_2 n (l1 + 1) (xupd g.1 94 l1.toNatClampNeg 0, g.2))
    else
      xg (¬ (l1 < 0 ∨ 40 ≤ l1.toNatClampNeg)) (
        f_X12_begins_60_2 n (l1 + 1) (xupd g.1 94 l1.toNatClampNeg (-2), g.2))) = some out := H
    refine xb A [(.iload_n 1, 1, 0, 0, .null), (.bipush 40, 2, 0, 0, .int 40)] (pc' := 5) (ls' := [some (.ref 60), some (.int l1)]) (st' := [.int 40, .int l1]) (g' := g) (by decide +kernel) rfl ?_
    refine xic_ge A (33) 38 8 (by decide +kernel) (fun h1 => ?_) (fun h1 => ?_)
    · rw [if_pos h1] at H
      refine xb A [(.iconst 0, 1, 0, 0, .int 0), (.istore_n 1, 1, 0, 0, .null)] (pc' := 40) (ls' := [some (.ref 60), some (.int 0)]) (st' := []) (g' := g) (by decide +kernel) rfl ?_
      exact t_X12_begins_60_40 hS A hR hrm hz _ _ _ H
    · rw [if_neg h1] at H
      refine xb A [(.aload_n 0, 1, 0, 0, .null), (.getfield 119, 3, 60, 51, .ref 94), (.iload_n 1, 1, 0, 0, .null), (.iload_n 1, 1, 0, 0, .null), (.bipush 6, 2, 0, 0, .int 6)] (pc' := 16) (ls' := [some (.ref 60), some (.int l1)]) (st' := [.int 6, .int l1, .int l1, .ref 94]) (g' := g) (by decide +kernel) rfl ?_
      refine xic_lt A (14) 30 19 (by decide +kernel) (fun h8 => ?_) (fun h8 => ?_)
      · rw [if_pos h8] at H
        refine xb A [(.iconst 0, 1, 0, 0, .int 0)] (pc' := 31) (ls' := [some (.ref 60), some (.int l1)]) (st' := [.int 0, .int l1, .ref 94]) (g' := g) (by decide +kernel) rfl ?_
        obtain ⟨h9, H⟩ := xg_elim H
        refine xiast A (nxt := 32) (by decide +kernel) (hS _ _ sh_94) h9 ?_
        show xW k S 0 0 32 [some (.ref 60), some (.int l1)] [] (xupd g.1 94 l1.toNatClampNeg 0, g.2)
        refine xb A [(.iinc 1 1, 3, 0, 0, .null)] (pc' := 35) (ls' := [some (.ref 60), some (.int (l1 + 1))]) (st' := []) (g' := (xupd g.1 94 l1.toNatClampNeg 0, g.2)) (by decide +kernel) rfl ?_
        refine xgoto A (-33) 2 (by decide +kernel) ?_
        exact ih _ _ H
      · rw [if_neg h8] at H
        refine xb A [(.iload_n 1, 1, 0, 0, .null), (.bipush 12, 2, 0, 0, .int 12)] (pc' := 22) (ls' := [some (.ref 60), some (.int l1)]) (st' := [.int 12, .int l1, .int l1, .ref 94]) (g' := g) (by decide +kernel) rfl ?_
        refine xic_ge A (8) 30 25 (by decide +kernel) (fun h10 => ?_) (fun h10 => ?_)
        · rw [if_pos h10] at H
          refine xb A [(.iconst 0, 1, 0, 0, .int 0)] (pc' := 31) (ls' := [some (.ref 60), some (.int l1)]) (st' := [.int 0, .int l1, .ref 94]) (g' := g) (by decide +kernel) rfl ?_
          obtain ⟨h11, H⟩ := xg_elim H
          refine xiast A (nxt := 32) (by decide +kernel) (hS _ _ sh_94) h11 ?_
          show xW k S 0 0 32 [some (.ref 60), some (.int l1)] [] (xupd g.1 94 l1.toNatClampNeg 0, g.2)
          refine xb A [(.iinc 1 1, 3, 0, 0, .null)] (pc' := 35) (ls' := [some (.ref 60), some (.int (l1 + 1))]) (st' := []) (g' := (xupd g.1 94 l1.toNatClampNeg 0, g.2)) (by decide +kernel) rfl ?_
          refine xgoto A (-33) 2 (by decide +kernel) ?_
          exact ih _ _ H
        · rw [if_neg h10] at H
          refine xb A [(.bipush (-2), 2, 0, 0, .int (-2))] (pc' := 27) (ls' := [some (.ref 60), some (.int l1)]) (st' := [.int (-2), .int l1, .ref 94]) (g' := g) (by decide +kernel) rfl ?_
          refine xgoto A (4) 31 (by decide +kernel) ?_
          obtain ⟨h12, H⟩ := xg_elim H
          refine xiast A (nxt := 32) (by decide +kernel) (hS _ _ sh_94) h12 ?_
          show xW k S 0 0 32 [some (.ref 60), some (.int l1)] [] (xupd g.1 94 l1.toNatClampNeg (-2), g.2)
          refine xb A [(.iinc 1 1, 3, 0, 0, .null)] (pc' := 35) (ls' := [some (.ref 60), some (.int (l1 + 1))]) (st' := []) (g' := (xupd g.1 94 l1.toNatClampNeg (-2), g.2)) (by decide +kernel) rfl ?_
          refine xgoto A (-33) 2 (by decide +kernel) ?_
          exact ih _ _ H
set_option maxRecDepth 20000 in
theorem c_X12_begins_60 {S : List xSh} (hS : xpf SH2 S) {g : xG}  (out : xG) (H : f_X12_begins_60  g = some out) : xC mX12_begins 0 0 0 0 S [.ref 60] g S (fun r g' => r = none ∧ g' = out) := by
  have H : (f_X12_begins_60_2 xN 0 g) = some out := H
  refine xC.of 12 SH2 [some (.ref 60), none] hS (by decide +kernel) rfl (fun _ _ => Nat.le_of_ble_eq_true rfl) (fun _ _ => rfl) ?_
  intro k A hR hrm hz
  refine xb A [(.iconst 0, 1, 0, 0, .int 0), (.istore_n 1, 1, 0, 0, .null)] (pc' := 2) (ls' := [some (.ref 60), some (.int 0)]) (st' := []) (g' := g) (by decide +kernel) rfl ?_
  exact t_X12_begins_60_2 hS A hR hrm hz _ _ _ H
def f_X12_keepsRow_60_2  : Nat → Int32 → xG → Option (xG)
  | 0, _, _ => none
  | n + 1, l1, g =>
    if 40 ≤ l1 then
      some g
    else
      xg (¬ (l1 < 0 ∨ 40 ≤ l1.toNatClampNeg)) (
        xg (¬ (l1 < 0 ∨ 40 ≤ l1.toNatClampNeg)) (
          f_X12_keepsRow_60_2 n (l1 + 1) (xupd g.1 93 l1.toNatClampNeg (g.1 94 l1.toNatClampNeg), g.2)))
def f_X12_keepsRow_60  (g : xG) : Option (xG) :=
  f_X12_keepsRow_60_2 xN 0 g
set_option maxRecDepth 20000 in
theorem t_X12_keepsRow_60_2 {k : xK} {S : List xSh} {out : xG} (hS : xpf SH2 S) (A : xAt k mX12_keepsRow.2.1 12 SH2 S) (hR : xRet k 0 0 S (fun r g' => r = none ∧ g' = out) mX12_keepsRow.2.2.2) (hrm : xrm k = { frames := 0, cells := 0, slots := 0, locals := 0 }) (hz : xhs k = xb0 k + S.length)   : ∀ (n : Nat) (l1 : Int32) (g : xG), f_X12_keepsRow_60_2 n l1 g = some out → xW k S 0 0 2 [some (.ref 60), some (.int l1)] [] g := by
  intro n
  induction n with
  | zero => intro l1 g H; exact absurd H (by simp [f_X12_keepsRow_60_2])
  | succ n ih =>
    intro l1 g H
    have H : (if 40 ≤ l1 then
  some g
else
  xg (¬ (l1 < 0 ∨ 40 ≤ l1.toNatClampNeg)) (
    xg (¬ (l1 < 0 ∨ 40 ≤ l1.toNatClampNeg)) (
      f_X12_keepsRow_60_2 n (l1 + 1) (xupd g.1 93 l1.toNatClampNeg (g.1 94 l1.toNatClampNeg), g.2)))) = some out := H
    refine xb A [(.iload_n 1, 1, 0, 0, .null), (.bipush 40, 2, 0, 0, .int 40)] (pc' := 5) (ls' := [some (.ref 60), some (.int l1)]) (st' := [.int 40, .int l1]) (g' := g) (by decide +kernel) rfl ?_
    refine xic_ge A (21) 26 8 (by decide +kernel) (fun h1 => ?_) (fun h1 => ?_)
    · rw [if_pos h1] at H
      obtain rfl := Option.some.inj H
      exact xret_v A hR hz (by decide +kernel) ⟨rfl, rfl⟩
    · rw [if_neg h1] at H
      refine xb A [(.aload_n 0, 1, 0, 0, .null), (.getfield 116, 3, 60, 50, .ref 93), (.iload_n 1, 1, 0, 0, .null), (.aload_n 0, 1, 0, 0, .null), (.getfield 119, 3, 60, 51, .ref 94), (.iload_n 1, 1, 0, 0, .null)] (pc' := 18) (ls' := [some (.ref 60), some (.int l1)]) (st' := [.int l1, .ref 94, .int l1, .ref 93]) (g' := g) (by decide +kernel) rfl ?_
      obtain ⟨h2, H⟩ := xg_elim H
      refine xiald A (nxt := 19) (by decide +kernel) (hS _ _ sh_94) h2 ?_
      show xW k S 0 0 19 [some (.ref 60), some (.int l1)] [.int (g.1 94 l1.toNatClampNeg), .int l1, .ref 93] g
      obtain ⟨h3, H⟩ := xg_elim H
      refine xiast A (nxt := 20) (by decide +kernel) (hS _ _ sh_93) h3 ?_
      show xW k S 0 0 20 [some (.ref 60), some (.int l1)] [] (xupd g.1 93 l1.toNatClampNeg (g.1 94 l1.toNatClampNeg), g.2)
      refine xb A [(.iinc 1 1, 3, 0, 0, .null)] (pc' := 23) (ls' := [some (.ref 60), some (.int (l1 + 1))]) (st' := []) (g' := (xupd g.1 93 l1.toNatClampNeg (g.1 94 l1.toNatClampNeg), g.2)) (by decide +kernel) rfl ?_
      refine xgoto A (-21) 2 (by decide +kernel) ?_
      exact ih _ _ H
set_option maxRecDepth 20000 in
theorem c_X12_keepsRow_60 {S : List xSh} (hS : xpf SH2 S) {g : xG}  (out : xG) (H : f_X12_keepsRow_60  g = some out) : xC mX12_keepsRow 0 0 0 0 S [.ref 60] g S (fun r g' => r = none ∧ g' = out) := by
  have H : (f_X12_keepsRow_60_2 xN 0 g) = some out := H
  refine xC.of 12 SH2 [some (.ref 60), none] hS (by decide +kernel) rfl (fun _ _ => Nat.le_of_ble_eq_true rfl) (fun _ _ => rfl) ?_
  intro k A hR hrm hz
  refine xb A [(.iconst 0, 1, 0, 0, .int 0), (.istore_n 1, 1, 0, 0, .null)] (pc' := 2) (ls' := [some (.ref 60), some (.int 0)]) (st' := []) (g' := g) (by decide +kernel) rfl ?_
  exact t_X12_keepsRow_60_2 hS A hR hrm hz _ _ _ H
def f_X12_read_60_219  : Nat → Int32 → xG → Option (Int32 × xG)
  | 0, _, _ => none
  | n + 1, l1, g =>
    if 3 ≤ l1 then
      some (0, g)
    else
      xg (¬ (l1 < 0 ∨ 3 ≤ l1.toNatClampNeg)) (
        f_X12_read_60_219 n (l1 + 1) (xupd g.1 101 l1.toNatClampNeg (0 &&& 1), g.2))
def f_X12_read_60_164  (s0 : Int32) (g : xG) : Option (Int32 × xG) :=
  if (g.1 60 13) ≤ 0 then
    if (g.1 60 15) ≤ 0 then
      (f_X12_begins_60 (xupd (xupd g.1 60 17 s0) 60 18 (g.1 60 19), g.2)).bind fun w3 =>
      (f_X12_keepsRow_60 w3).bind fun w4 =>
      f_X12_read_60_219 xN 0 (xupd (xupd w4.1 60 55 0) 60 58 0, w4.2)
    else
      some (g.1 60 15, (xupd g.1 60 17 s0, g.2))
  else
    some (g.1 60 13, (xupd g.1 60 17 s0, g.2))
def f_X12_read_60_134   (g : xG) : Option (Int32 × xG) :=
  if (g.1 60 13) ≤ 0 then
    if (g.1 60 15) ≤ 0 then
      f_X12_read_60_164 (-1) g
    else
      f_X12_read_60_164 (g.1 60 16) g
  else
    f_X12_read_60_164 (g.1 60 14) g
def f_X12_read_60_112  : Nat → xG → Option (Int32 × xG)
  | 0, _ => none
  | n + 1, g =>
    if (g.1 60 13) = 0 then
      (f_X12_is_60 0 g).bind fun w5 =>
      if w5 = 0 then
        (f_X12_tellOne_60 g).bind fun w6 =>
        f_X12_read_60_112 n w6
      else
        f_X12_read_60_134 g
    else
      f_X12_read_60_134 g
def f_X12_read_60_10  : Nat → Int32 → xG → Option (Int32 × xG)
  | 0, _, _ => none
  | n + 1, l1, g =>
    if (g.1 60 4) ≤ l1 then
      (f_X12_cut_60 (xupd g.1 60 2 0, g.2)).bind fun w1 =>
      (f_X12_plain_60 (1 - (w1.1 60 18)) (xupd (xupd (xupd (xupd (xupd (xupd w1.1 60 11 0) 60 12 0) 60 13 0) 60 15 0) 60 19 (1 - (w1.1 60 18))) 60 20 0, w1.2)).bind fun w2 =>
      f_X12_read_60_112 xN (xupd (xupd w2.1 60 36 (130 * (w2.1 60 19))) 60 42 (420 * (w2.1 60 19)), w2.2)
    else
      xg (¬ (l1 < 0 ∨ 2000 ≤ l1.toNatClampNeg)) (
        xg (¬ (l1 < 0 ∨ 2000 ≤ l1.toNatClampNeg)) (
          f_X12_read_60_10 n (l1 + 1) (xupd g.1 62 l1.toNatClampNeg ((g.1 61 l1.toNatClampNeg).toInt8.toInt32), g.2)))
def f_X12_read_60  (g : xG) : Option (Int32 × xG) :=
  f_X12_read_60_10 xN 0 (xupd g.1 60 4 (g.1 60 2), g.2)
set_option maxRecDepth 20000 in
theorem t_X12_read_60_219 {k : xK} {S : List xSh} {out : Int32 × xG} (hS : xpf SH2 S) (A : xAt k mX12_read.2.1 12 SH2 S) (hR : xRet k 0 0 S (fun r g' => r = some (.int out.1) ∧ g' = out.2) mX12_read.2.2.2) (hrm : xrm k = { frames := 7, cells := 0, slots := 0, locals := 147 }) (hz : xhs k = xb0 k + S.length)   : ∀ (n : Nat) (l1 : Int32) (g : xG), f_X12_read_60_219 n l1 g = some out → xW k S 0 0 219 [some (.ref 60), some (.int l1)] [] g := by
  intro n
  induction n with
  | zero => intro l1 g H; exact absurd H (by simp [f_X12_read_60_219])
  | succ n ih =>
    intro l1 g H
    have H : (if 3 ≤ l1 then
  some (0, g)
else
  xg (¬ (l1 < 0 ∨ 3 ≤ l1.toNatClampNeg)) (
    f_X12_read_60_219 n (l1 + 1) (xupd g.1 101 l1.toNatClampNeg (0 &&& 1), g.2))) = some out := H
    refine xb A [(.iload_n 1, 1, 0, 0, .null), (.iconst 3, 1, 0, 0, .int 3)] (pc' := 221) (ls' := [some (.ref 60), some (.int l1)]) (st' := [.int 3, .int l1]) (g' := g) (by decide +kernel) rfl ?_
    refine xic_ge A (16) 237 224 (by decide +kernel) (fun h7 => ?_) (fun h7 => ?_)
    · rw [if_pos h7] at H
      refine xb A [(.iconst 0, 1, 0, 0, .int 0)] (pc' := 238) (ls' := [some (.ref 60), some (.int l1)]) (st' := [.int 0]) (g' := g) (by decide +kernel) rfl ?_
      obtain rfl := Option.some.inj H
      exact xret_i A hR hz (by decide +kernel) rfl ⟨rfl, rfl⟩
    · rw [if_neg h7] at H
      refine xb A [(.aload_n 0, 1, 0, 0, .null), (.getfield 140, 3, 60, 62, .ref 101), (.iload_n 1, 1, 0, 0, .null), (.iconst 0, 1, 0, 0, .int 0)] (pc' := 230) (ls' := [some (.ref 60), some (.int l1)]) (st' := [.int 0, .int l1, .ref 101]) (g' := g) (by decide +kernel) rfl ?_
      obtain ⟨h8, H⟩ := xg_elim H
      refine xzast A (nxt := 231) (by decide +kernel) (hS _ _ sh_101) h8 ?_
      show xW k S 0 0 231 [some (.ref 60), some (.int l1)] [] (xupd g.1 101 l1.toNatClampNeg (0 &&& 1), g.2)
      refine xb A [(.iinc 1 1, 3, 0, 0, .null)] (pc' := 234) (ls' := [some (.ref 60), some (.int (l1 + 1))]) (st' := []) (g' := (xupd g.1 101 l1.toNatClampNeg (0 &&& 1), g.2)) (by decide +kernel) rfl ?_
      refine xgoto A (-15) 219 (by decide +kernel) ?_
      exact ih _ _ H
set_option maxRecDepth 20000 in
theorem t_X12_read_60_164 {k : xK} {S : List xSh} {out : Int32 × xG} (hS : xpf SH2 S) (A : xAt k mX12_read.2.1 12 SH2 S) (hR : xRet k 0 0 S (fun r g' => r = some (.int out.1) ∧ g' = out.2) mX12_read.2.2.2) (hrm : xrm k = { frames := 7, cells := 0, slots := 0, locals := 147 }) (hz : xhs k = xb0 k + S.length)   : ∀ (s0 : Int32) (g : xG), f_X12_read_60_164 s0 g = some out → xW k S 0 0 164 [some (.ref 60), none] [.int s0, .ref 60] g := by
  intro s0 g H
  have H : (if (g.1 60 13) ≤ 0 then
  if (g.1 60 15) ≤ 0 then
    (f_X12_begins_60 (xupd (xupd g.1 60 17 s0) 60 18 (g.1 60 19), g.2)).bind fun w3 =>
    (f_X12_keepsRow_60 w3).bind fun w4 =>
    f_X12_read_60_219 xN 0 (xupd (xupd w4.1 60 55 0) 60 58 0, w4.2)
  else
    some (g.1 60 15, (xupd g.1 60 17 s0, g.2))
else
  some (g.1 60 13, (xupd g.1 60 17 s0, g.2))) = some out := H
  refine xb A [(.putfield 37, 3, 60, 17, .int 0), (.aload_n 0, 1, 0, 0, .null), (.getfield 197, 3, 60, 13, .int 0)] (pc' := 171) (ls' := [some (.ref 60), none]) (st' := [.int (g.1 60 13)]) (g' := (xupd g.1 60 17 s0, g.2)) (by decide +kernel) rfl ?_
  refine xif_le A (8) 179 174 (by decide +kernel) (fun h5 => ?_) (fun h5 => ?_)
  · rw [if_pos h5] at H
    refine xb A [(.aload_n 0, 1, 0, 0, .null), (.getfield 206, 3, 60, 15, .int 0)] (pc' := 183) (ls' := [some (.ref 60), none]) (st' := [.int (g.1 60 15)]) (g' := (xupd g.1 60 17 s0, g.2)) (by decide +kernel) rfl ?_
    refine xif_le A (8) 191 186 (by decide +kernel) (fun h6 => ?_) (fun h6 => ?_)
    · rw [if_pos h6] at H
      refine xb A [(.aload_n 0, 1, 0, 0, .null), (.aload_n 0, 1, 0, 0, .null), (.getfield 230, 3, 60, 19, .int 0), (.putfield 227, 3, 60, 18, .int 0), (.aload_n 0, 1, 0, 0, .null)] (pc' := 200) (ls' := [some (.ref 60), none]) (st' := [.ref 60]) (g' := (xupd (xupd g.1 60 17 s0) 60 18 (g.1 60 19), g.2)) (by decide +kernel) rfl ?_
      obtain ⟨w3, e3, H⟩ := xbind H
      refine xcallV A (ix := 154) (nxt := 203) hrm hz [] [] 1370 (c_X12_begins_60 hS _ e3) ok_X12_begins (by decide +kernel) rfl (fun r g1 hq => ?_)
      rw [hq.1, hq.2]
      show xW k S 0 0 203 [some (.ref 60), none] [] w3
      refine xb A [(.aload_n 0, 1, 0, 0, .null)] (pc' := 204) (ls' := [some (.ref 60), none]) (st' := [.ref 60]) (g' := w3) (by decide +kernel) rfl ?_
      obtain ⟨w4, e4, H⟩ := xbind H
      refine xcallV A (ix := 157) (nxt := 207) hrm hz [] [] 1374 (c_X12_keepsRow_60 hS _ e4) ok_X12_keepsRow (by decide +kernel) rfl (fun r g1 hq => ?_)
      rw [hq.1, hq.2]
      show xW k S 0 0 207 [some (.ref 60), none] [] w4
      refine xb A [(.aload_n 0, 1, 0, 0, .null), (.iconst 0, 1, 0, 0, .int 0), (.putfield 245, 3, 60, 55, .int 0), (.aload_n 0, 1, 0, 0, .null), (.iconst 0, 1, 0, 0, .int 0), (.putfield 248, 3, 60, 58, .int 0), (.iconst 0, 1, 0, 0, .int 0), (.istore_n 1, 1, 0, 0, .null)] (pc' := 219) (ls' := [some (.ref 60), some (.int 0)]) (st' := []) (g' := (xupd (xupd w4.1 60 55 0) 60 58 0, w4.2)) (by decide +kernel) rfl ?_
      exact t_X12_read_60_219 hS A hR hrm hz _ _ _ H
    · rw [if_neg h6] at H
      refine xb A [(.aload_n 0, 1, 0, 0, .null), (.getfield 206, 3, 60, 15, .int 0)] (pc' := 190) (ls' := [some (.ref 60), none]) (st' := [.int (g.1 60 15)]) (g' := (xupd g.1 60 17 s0, g.2)) (by decide +kernel) rfl ?_
      obtain rfl := Option.some.inj H
      exact xret_i A hR hz (by decide +kernel) rfl ⟨rfl, rfl⟩
  · rw [if_neg h5] at H
    refine xb A [(.aload_n 0, 1, 0, 0, .null), (.getfield 197, 3, 60, 13, .int 0)] (pc' := 178) (ls' := [some (.ref 60), none]) (st' := [.int (g.1 60 13)]) (g' := (xupd g.1 60 17 s0, g.2)) (by decide +kernel) rfl ?_
    obtain rfl := Option.some.inj H
    exact xret_i A hR hz (by decide +kernel) rfl ⟨rfl, rfl⟩
set_option maxRecDepth 20000 in
theorem t_X12_read_60_134 {k : xK} {S : List xSh} {out : Int32 × xG} (hS : xpf SH2 S) (A : xAt k mX12_read.2.1 12 SH2 S) (hR : xRet k 0 0 S (fun r g' => r = some (.int out.1) ∧ g' = out.2) mX12_read.2.2.2) (hrm : xrm k = { frames := 7, cells := 0, slots := 0, locals := 147 }) (hz : xhs k = xb0 k + S.length)   : ∀ (g : xG), f_X12_read_60_134 g = some out → xW k S 0 0 134 [some (.ref 60), none] [] g := by
  intro g H
  have H : (if (g.1 60 13) ≤ 0 then
  if (g.1 60 15) ≤ 0 then
    f_X12_read_60_164 (-1) g
  else
    f_X12_read_60_164 (g.1 60 16) g
else
  f_X12_read_60_164 (g.1 60 14) g) = some out := H
  refine xb A [(.aload_n 0, 1, 0, 0, .null), (.aload_n 0, 1, 0, 0, .null), (.getfield 197, 3, 60, 13, .int 0)] (pc' := 139) (ls' := [some (.ref 60), none]) (st' := [.int (g.1 60 13), .ref 60]) (g' := g) (by decide +kernel) rfl ?_
  refine xif_le A (10) 149 142 (by decide +kernel) (fun h3 => ?_) (fun h3 => ?_)
  · rw [if_pos h3] at H
    refine xb A [(.aload_n 0, 1, 0, 0, .null), (.getfield 206, 3, 60, 15, .int 0)] (pc' := 153) (ls' := [some (.ref 60), none]) (st' := [.int (g.1 60 15), .ref 60]) (g' := g) (by decide +kernel) rfl ?_
    refine xif_le A (10) 163 156 (by decide +kernel) (fun h4 => ?_) (fun h4 => ?_)
    · rw [if_pos h4] at H
      refine xb A [(.iconst (-1), 1, 0, 0, .int (-1))] (pc' := 164) (ls' := [some (.ref 60), none]) (st' := [.int (-1), .ref 60]) (g' := g) (by decide +kernel) rfl ?_
      exact t_X12_read_60_164 hS A hR hrm hz _ _ H
    · rw [if_neg h4] at H
      refine xb A [(.aload_n 0, 1, 0, 0, .null), (.getfield 209, 3, 60, 16, .int 0)] (pc' := 160) (ls' := [some (.ref 60), none]) (st' := [.int (g.1 60 16), .ref 60]) (g' := g) (by decide +kernel) rfl ?_
      refine xgoto A (4) 164 (by decide +kernel) ?_
      exact t_X12_read_60_164 hS A hR hrm hz _ _ H
  · rw [if_neg h3] at H
    refine xb A [(.aload_n 0, 1, 0, 0, .null), (.getfield 203, 3, 60, 14, .int 0)] (pc' := 146) (ls' := [some (.ref 60), none]) (st' := [.int (g.1 60 14), .ref 60]) (g' := g) (by decide +kernel) rfl ?_
    refine xgoto A (18) 164 (by decide +kernel) ?_
    exact t_X12_read_60_164 hS A hR hrm hz _ _ H
set_option maxRecDepth 20000 in
theorem t_X12_read_60_112 {k : xK} {S : List xSh} {out : Int32 × xG} (hS : xpf SH2 S) (A : xAt k mX12_read.2.1 12 SH2 S) (hR : xRet k 0 0 S (fun r g' => r = some (.int out.1) ∧ g' = out.2) mX12_read.2.2.2) (hrm : xrm k = { frames := 7, cells := 0, slots := 0, locals := 147 }) (hz : xhs k = xb0 k + S.length)   : ∀ (n : Nat) (g : xG), f_X12_read_60_112 n g = some out → xW k S 0 0 112 [some (.ref 60), none] [] g := by
  intro n
  induction n with
  | zero => intro g H; exact absurd H (by simp [f_X12_read_60_112])
  | succ n ih =>
    intro g H
    have H : (if (g.1 60 13) = 0 then
  (f_X12_is_60 0 g).bind fun w5 =>
  if w5 = 0 then
    (f_X12_tellOne_60 g).bind fun w6 =>
    f_X12_read_60_112 n w6
  else
    f_X12_read_60_134 g
else
  f_X12_read_60_134 g) = some out := H
    refine xb A [(.aload_n 0, 1, 0, 0, .null), (.getfield 197, 3, 60, 13, .int 0)] (pc' := 116) (ls' := [some (.ref 60), none]) (st' := [.int (g.1 60 13)]) (g' := g) (by decide +kernel) rfl ?_
    refine xif_ne A (18) 134 119 (by decide +kernel) (fun h2 => ?_) (fun h2 => ?_)
    · rw [if_neg h2] at H
      exact t_X12_read_60_134 hS A hR hrm hz _ H
    · rw [if_pos h2] at H
      refine xb A [(.aload_n 0, 1, 0, 0, .null), (.iconst 0, 1, 0, 0, .int 0)] (pc' := 121) (ls' := [some (.ref 60), none]) (st' := [.int 0, .ref 60]) (g' := g) (by decide +kernel) rfl ?_
      obtain ⟨w5, e5, H⟩ := xbind H
      refine xcallV A (ix := 215) (nxt := 124) hrm hz [.int 0] [] 1608 (c_X12_is_60 hS _ e5) ok_X12_is (by decide +kernel) rfl (fun r g1 hq => ?_)
      rw [hq.1, hq.2]
      show xW k S 0 0 124 [some (.ref 60), none] [.int w5] g
      refine xif_ne A (10) 134 127 (by decide +kernel) (fun h9 => ?_) (fun h9 => ?_)
      · rw [if_neg h9] at H
        exact t_X12_read_60_134 hS A hR hrm hz _ H
      · rw [if_pos h9] at H
        refine xb A [(.aload_n 0, 1, 0, 0, .null)] (pc' := 128) (ls' := [some (.ref 60), none]) (st' := [.ref 60]) (g' := g) (by decide +kernel) rfl ?_
        obtain ⟨w6, e6, H⟩ := xbind H
        refine xcallV A (ix := 242) (nxt := 131) hrm hz [] [] 1612 (c_X12_tellOne_60 hS _ e6) ok_X12_tellOne (by decide +kernel) rfl (fun r g1 hq => ?_)
        rw [hq.1, hq.2]
        show xW k S 0 0 131 [some (.ref 60), none] [] w6
        refine xgoto A (-19) 112 (by decide +kernel) ?_
        exact ih _ H
set_option maxRecDepth 20000 in
theorem t_X12_read_60_10 {k : xK} {S : List xSh} {out : Int32 × xG} (hS : xpf SH2 S) (A : xAt k mX12_read.2.1 12 SH2 S) (hR : xRet k 0 0 S (fun r g' => r = some (.int out.1) ∧ g' = out.2) mX12_read.2.2.2) (hrm : xrm k = { frames := 7, cells := 0, slots := 0, locals := 147 }) (hz : xhs k = xb0 k + S.length)   : ∀ (n : Nat) (l1 : Int32) (g : xG), f_X12_read_60_10 n l1 g = some out → xW k S 0 0 10 [some (.ref 60), some (.int l1)] [] g := by
  intro n
  induction n with
  | zero => intro l1 g H; exact absurd H (by simp [f_X12_read_60_10])
  | succ n ih =>
    intro l1 g H
    have H : (if (g.1 60 4) ≤ l1 then
  (f_X12_cut_60 (xupd g.1 60 2 0, g.2)).bind fun w1 =>
  (f_X12_plain_60 (1 - (w1.1 60 18)) (xupd (xupd (xupd (xupd (xupd (xupd w1.1 60 11 0) 60 12 0) 60 13 0) 60 15 0) 60 19 (1 - (w1.1 60 18))) 60 20 0, w1.2)).bind fun w2 =>
  f_X12_read_60_112 xN (xupd (xupd w2.1 60 36 (130 * (w2.1 60 19))) 60 42 (420 * (w2.1 60 19)), w2.2)
else
  xg (¬ (l1 < 0 ∨ 2000 ≤ l1.toNatClampNeg)) (
    xg (¬ (l1 < 0 ∨ 2000 ≤ l1.toNatClampNeg)) (
      f_X12_read_60_10 n (l1 + 1) (xupd g.1 62 l1.toNatClampNeg ((g.1 61 l1.toNatClampNeg).toInt8.toInt32), g.2)))) = some out := H
    refine xb A [(.iload_n 1, 1, 0, 0, .null), (.aload_n 0, 1, 0, 0, .null), (.getfield 166, 3, 60, 4, .int 0)] (pc' := 15) (ls' := [some (.ref 60), some (.int l1)]) (st' := [.int (g.1 60 4), .int l1]) (g' := g) (by decide +kernel) rfl ?_
    refine xic_ge A (21) 36 18 (by decide +kernel) (fun h1 => ?_) (fun h1 => ?_)
    · rw [if_pos h1] at H
      refine xb A [(.aload_n 0, 1, 0, 0, .null), (.iconst 0, 1, 0, 0, .int 0), (.putfield 160, 3, 60, 2, .int 0), (.aload_n 0, 1, 0, 0, .null)] (pc' := 42) (ls' := [some (.ref 60), some (.int l1)]) (st' := [.ref 60]) (g' := (xupd g.1 60 2 0, g.2)) (by decide +kernel) rfl ?_
      obtain ⟨w1, e1, H⟩ := xbind H
      refine xcallV A (ix := 221) (nxt := 45) hrm hz [] [] 1586 (c_X12_cut_60 hS _ e1) ok_X12_cut (by decide +kernel) rfl (fun r g1 hq => ?_)
      rw [hq.1, hq.2]
      show xW k S 0 0 45 [some (.ref 60), some (.int l1)] [] w1
      refine xb A [(.aload_n 0, 1, 0, 0, .null), (.iconst 0, 1, 0, 0, .int 0), (.putfield 200, 3, 60, 11, .int 0), (.aload_n 0, 1, 0, 0, .null), (.iconst 0, 1, 0, 0, .int 0), (.putfield 224, 3, 60, 12, .int 0), (.aload_n 0, 1, 0, 0, .null), (.iconst 0, 1, 0, 0, .int 0), (.putfield 197, 3, 60, 13, .int 0), (.aload_n 0, 1, 0, 0, .null), (.iconst 0, 1, 0, 0, .int 0), (.putfield 206, 3, 60, 15, .int 0), (.aload_n 0, 1, 0, 0, .null), (.iconst 1, 1, 0, 0, .int 1), (.aload_n 0, 1, 0, 0, .null), (.getfield 227, 3, 60, 18, .int 0), (.isub, 1, 0, 0, .null), (.putfield 230, 3, 60, 19, .int 0), (.aload_n 0, 1, 0, 0, .null), (.iconst 0, 1, 0, 0, .int 0), (.putfield 233, 3, 60, 20, .int 0), (.aload_n 0, 1, 0, 0, .null), (.aload_n 0, 1, 0, 0, .null), (.getfield 230, 3, 60, 19, .int 0)] (pc' := 85) (ls' := [some (.ref 60), some (.int l1)]) (st' := [.int (1 - (w1.1 60 18)), .ref 60]) (g' := (xupd (xupd (xupd (xupd (xupd (xupd w1.1 60 11 0) 60 12 0) 60 13 0) 60 15 0) 60 19 (1 - (w1.1 60 18))) 60 20 0, w1.2)) (by decide +kernel) rfl ?_
      obtain ⟨w2, e2, H⟩ := xbind H
      refine xcallV A (ix := 146) (nxt := 88) hrm hz [.int (1 - (w1.1 60 18))] [] 1359 (c_X12_plain_60 hS _ e2) ok_X12_plain (by decide +kernel) rfl (fun r g1 hq => ?_)
      rw [hq.1, hq.2]
      show xW k S 0 0 88 [some (.ref 60), some (.int l1)] [] w2
      refine xb A [(.aload_n 0, 1, 0, 0, .null), (.sipush 130, 3, 0, 0, .int 130), (.aload_n 0, 1, 0, 0, .null), (.getfield 230, 3, 60, 19, .int 0), (.imul, 1, 0, 0, .null), (.putfield 236, 3, 60, 36, .int 0), (.aload_n 0, 1, 0, 0, .null), (.sipush 420, 3, 0, 0, .int 420), (.aload_n 0, 1, 0, 0, .null), (.getfield 230, 3, 60, 19, .int 0), (.imul, 1, 0, 0, .null), (.putfield 239, 3, 60, 42, .int 0)] (pc' := 112) (ls' := [some (.ref 60), some (.int l1)]) (st' := []) (g' := (xupd (xupd w2.1 60 36 (130 * (w2.1 60 19))) 60 42 (420 * (w2.1 60 19)), w2.2)) (by decide +kernel) rfl ?_
      refine xweak (ls' := [some (.ref 60), none]) (by exact ⟨rfl, trivial⟩) ?_
      exact t_X12_read_60_112 hS A hR hrm hz _ _ H
    · rw [if_neg h1] at H
      refine xb A [(.aload_n 0, 1, 0, 0, .null), (.getfield 17, 3, 60, 3, .ref 62), (.iload_n 1, 1, 0, 0, .null), (.aload_n 0, 1, 0, 0, .null), (.getfield 13, 3, 60, 1, .ref 61), (.iload_n 1, 1, 0, 0, .null)] (pc' := 28) (ls' := [some (.ref 60), some (.int l1)]) (st' := [.int l1, .ref 61, .int l1, .ref 62]) (g' := g) (by decide +kernel) rfl ?_
      obtain ⟨h10, H⟩ := xg_elim H
      refine xbald A (nxt := 29) (by decide +kernel) (hS _ _ sh_61) h10 ?_
      show xW k S 0 0 29 [some (.ref 60), some (.int l1)] [.int (g.1 61 l1.toNatClampNeg), .int l1, .ref 62] g
      obtain ⟨h11, H⟩ := xg_elim H
      refine xbast A (nxt := 30) (by decide +kernel) (hS _ _ sh_62) h11 ?_
      show xW k S 0 0 30 [some (.ref 60), some (.int l1)] [] (xupd g.1 62 l1.toNatClampNeg ((g.1 61 l1.toNatClampNeg).toInt8.toInt32), g.2)
      refine xb A [(.iinc 1 1, 3, 0, 0, .null)] (pc' := 33) (ls' := [some (.ref 60), some (.int (l1 + 1))]) (st' := []) (g' := (xupd g.1 62 l1.toNatClampNeg ((g.1 61 l1.toNatClampNeg).toInt8.toInt32), g.2)) (by decide +kernel) rfl ?_
      refine xgoto A (-23) 10 (by decide +kernel) ?_
      exact ih _ _ H
set_option maxRecDepth 20000 in
theorem c_X12_read_60 {S : List xSh} (hS : xpf SH2 S) {g : xG}  (out : Int32 × xG) (H : f_X12_read_60  g = some out) : xC mX12_read 7 147 0 0 S [.ref 60] g S (fun r g' => r = some (.int out.1) ∧ g' = out.2) := by
  have H : (f_X12_read_60_10 xN 0 (xupd g.1 60 4 (g.1 60 2), g.2)) = some out := H
  refine xC.of 12 SH2 [some (.ref 60), none] hS (by decide +kernel) rfl (fun _ _ => Nat.le_of_ble_eq_true rfl) (fun _ _ => rfl) ?_
  intro k A hR hrm hz
  refine xb A [(.aload_n 0, 1, 0, 0, .null), (.aload_n 0, 1, 0, 0, .null), (.getfield 160, 3, 60, 2, .int 0), (.putfield 166, 3, 60, 4, .int 0), (.iconst 0, 1, 0, 0, .int 0), (.istore_n 1, 1, 0, 0, .null)] (pc' := 10) (ls' := [some (.ref 60), some (.int 0)]) (st' := []) (g' := (xupd g.1 60 4 (g.1 60 2), g.2)) (by decide +kernel) rfl ?_
  exact t_X12_read_60_10 hS A hR hrm hz _ _ _ H
def f_X12_place_60  (g : xG) : Int32 :=
  g.1 60 17
set_option maxRecDepth 20000 in
theorem c_X12_place_60 {S : List xSh} (hS : xpf SH2 S) {g : xG}  (out : Int32) (H : f_X12_place_60  g = out) : xC mX12_place 0 0 0 0 S [.ref 60] g S (fun r g' => r = some (.int out) ∧ g' = g) := by
  have H : (g.1 60 17) = out := H
  refine xC.of 12 SH2 [some (.ref 60)] hS (by decide +kernel) rfl (fun _ _ => Nat.le_of_ble_eq_true rfl) (fun _ _ => rfl) ?_
  intro k A hR hrm hz
  refine xb A [(.aload_n 0, 1, 0, 0, .null), (.getfield 37, 3, 60, 17, .int 0)] (pc' := 4) (ls' := [some (.ref 60)]) (st' := [.int (g.1 60 17)]) (g' := g) (by decide +kernel) rfl ?_
  subst H
  exact xret_i A hR hz (by decide +kernel) rfl ⟨rfl, rfl⟩
def f_X12_in (p0 : Int32) (p1 : Int32) (p2 : Int32) (g : xG) : Int32 :=
  if p0 < p1 then
    0
  else
    if p2 < p0 then
      0
    else
      1
set_option maxRecDepth 20000 in
theorem c_X12_in {S : List xSh} (hS : xpf SH2 S) {g : xG} {p0 : Int32} {p1 : Int32} {p2 : Int32} (out : Int32) (H : f_X12_in p0 p1 p2 g = out) : xC mX12_in 0 0 0 0 S [.int p0, .int p1, .int p2] g S (fun r g' => r = some (.int out) ∧ g' = g) := by
  have H : (if p0 < p1 then
  0
else
  if p2 < p0 then
    0
  else
    1) = out := H
  refine xC.of 12 SH2 [some (.int p0), some (.int p1), some (.int p2)] hS (by decide +kernel) rfl (fun _ _ => Nat.le_of_ble_eq_true rfl) (fun _ _ => rfl) ?_
  intro k A hR hrm hz
  refine xb A [(.iload_n 0, 1, 0, 0, .null), (.iload_n 1, 1, 0, 0, .null)] (pc' := 2) (ls' := [some (.int p0), some (.int p1), some (.int p2)]) (st' := [.int p1, .int p0]) (g' := g) (by decide +kernel) rfl ?_
  refine xic_lt A (12) 14 5 (by decide +kernel) (fun h1 => ?_) (fun h1 => ?_)
  · rw [if_pos h1] at H
    refine xb A [(.iconst 0, 1, 0, 0, .int 0)] (pc' := 15) (ls' := [some (.int p0), some (.int p1), some (.int p2)]) (st' := [.int 0]) (g' := g) (by decide +kernel) rfl ?_
    subst H
    exact xret_i A hR hz (by decide +kernel) rfl ⟨rfl, rfl⟩
  · rw [if_neg h1] at H
    refine xb A [(.iload_n 0, 1, 0, 0, .null), (.iload_n 2, 1, 0, 0, .null)] (pc' := 7) (ls' := [some (.int p0), some (.int p1), some (.int p2)]) (st' := [.int p2, .int p0]) (g' := g) (by decide +kernel) rfl ?_
    refine xic_gt A (7) 14 10 (by decide +kernel) (fun h2 => ?_) (fun h2 => ?_)
    · rw [if_pos h2] at H
      refine xb A [(.iconst 0, 1, 0, 0, .int 0)] (pc' := 15) (ls' := [some (.int p0), some (.int p1), some (.int p2)]) (st' := [.int 0]) (g' := g) (by decide +kernel) rfl ?_
      subst H
      exact xret_i A hR hz (by decide +kernel) rfl ⟨rfl, rfl⟩
    · rw [if_neg h2] at H
      refine xb A [(.iconst 1, 1, 0, 0, .int 1)] (pc' := 11) (ls' := [some (.int p0), some (.int p1), some (.int p2)]) (st' := [.int 1]) (g' := g) (by decide +kernel) rfl ?_
      refine xgoto A (4) 15 (by decide +kernel) ?_
      subst H
      exact xret_i A hR hz (by decide +kernel) rfl ⟨rfl, rfl⟩
def f_X12_isTown_60 (p1 : Int32) (g : xG) : Option (Int32) :=
  xg (¬ ((g.1 60 18) < 0 ∨ 2 ≤ (g.1 60 18).toNatClampNeg)) (
    some (f_X12_in p1 0 ((g.1 70 (g.1 60 18).toNatClampNeg) - 1) g))
set_option maxRecDepth 20000 in
theorem c_X12_isTown_60 {S : List xSh} (hS : xpf SH2 S) {g : xG} {p1 : Int32} (out : Int32) (H : f_X12_isTown_60 p1 g = some out) : xC mX12_isTown 1 22 0 0 S [.ref 60, .int p1] g S (fun r g' => r = some (.int out) ∧ g' = g) := by
  have H : (xg (¬ ((g.1 60 18) < 0 ∨ 2 ≤ (g.1 60 18).toNatClampNeg)) (
  some (f_X12_in p1 0 ((g.1 70 (g.1 60 18).toNatClampNeg) - 1) g))) = some out := H
  refine xC.of 12 SH2 [some (.ref 60), some (.int p1)] hS (by decide +kernel) rfl (fun _ _ => Nat.le_of_ble_eq_true rfl) (fun _ _ => rfl) ?_
  intro k A hR hrm hz
  refine xb A [(.iload_n 1, 1, 0, 0, .null), (.iconst 0, 1, 0, 0, .int 0), (.aload_n 0, 1, 0, 0, .null), (.getfield 46, 3, 60, 23, .ref 70), (.aload_n 0, 1, 0, 0, .null), (.getfield 227, 3, 60, 18, .int 0)] (pc' := 10) (ls' := [some (.ref 60), some (.int p1)]) (st' := [.int (g.1 60 18), .ref 70, .int 0, .int p1]) (g' := g) (by decide +kernel) rfl ?_
  obtain ⟨h1, H⟩ := xg_elim H
  refine xiald A (nxt := 11) (by decide +kernel) (hS _ _ sh_70) h1 ?_
  show xW k S 0 0 11 [some (.ref 60), some (.int p1)] [.int (g.1 70 (g.1 60 18).toNatClampNeg), .int 0, .int p1] g
  refine xb A [(.iconst 1, 1, 0, 0, .int 1), (.isub, 1, 0, 0, .null)] (pc' := 13) (ls' := [some (.ref 60), some (.int p1)]) (st' := [.int ((g.1 70 (g.1 60 18).toNatClampNeg) - 1), .int 0, .int p1]) (g' := g) (by decide +kernel) rfl ?_
  refine xcallS A (ix := 307) (nxt := 16) hrm hz [.int p1, .int 0, .int ((g.1 70 (g.1 60 18).toNatClampNeg) - 1)] [] 1696 (c_X12_in hS _ rfl) ok_X12_in (by decide +kernel) rfl (fun r g1 hq => ?_)
  rw [hq.1, hq.2]
  show xW k S 0 0 16 [some (.ref 60), some (.int p1)] [.int (f_X12_in p1 0 ((g.1 70 (g.1 60 18).toNatClampNeg) - 1) g)] g
  obtain rfl := Option.some.inj H
  exact xret_i A hR hz (by decide +kernel) (by first | rfl | exact nar_x _ _) ⟨rfl, rfl⟩
def f_X12_fillsFar_60_206 (k190 : Int32 → xG → Option (xG)) (k198 : Int32 → Int32 → xG → Option (xG)) : Nat → Int32 → Int32 → Int32 → xG → Option (xG)
  | 0, _, _, _, _ => none
  | n + 1, l1, l2, l3, g =>
    if 7 ≤ l3 then
      k198 l1 (l2 + 1) g
    else
      xg (¬ (((7 * l2) + l1) < 0 ∨ 49 ≤ ((7 * l2) + l1).toNatClampNeg)) (
        xg (¬ (((7 * l1) + l3) < 0 ∨ 49 ≤ ((7 * l1) + l3).toNatClampNeg)) (
          xg (¬ (((7 * l2) + l3) < 0 ∨ 49 ≤ ((7 * l2) + l3).toNatClampNeg)) (
            if (g.1 95 ((7 * l2) + l3).toNatClampNeg) ≤ ((g.1 95 ((7 * l2) + l1).toNatClampNeg) + (g.1 95 ((7 * l1) + l3).toNatClampNeg)) then
              f_X12_fillsFar_60_206 k190 k198 n l1 l2 (l3 + 1) g
            else
              xg (¬ (((7 * l2) + l1) < 0 ∨ 49 ≤ ((7 * l2) + l1).toNatClampNeg)) (
                xg (¬ (((7 * l1) + l3) < 0 ∨ 49 ≤ ((7 * l1) + l3).toNatClampNeg)) (
                  xg (¬ (((7 * l2) + l3) < 0 ∨ 49 ≤ ((7 * l2) + l3).toNatClampNeg)) (
                    f_X12_fillsFar_60_206 k190 k198 n l1 l2 (l3 + 1) (xupd g.1 95 ((7 * l2) + l3).toNatClampNeg ((g.1 95 ((7 * l2) + l1).toNatClampNeg) + (g.1 95 ((7 * l1) + l3).toNatClampNeg)), g.2)))))))
def f_X12_fillsFar_60_198 (k190 : Int32 → xG → Option (xG)) : Nat → Int32 → Int32 → xG → Option (xG)
  | 0, _, _, _ => none
  | n + 1, l1, l2, g =>
    if 7 ≤ l2 then
      k190 (l1 + 1) g
    else
      f_X12_fillsFar_60_206 k190 (f_X12_fillsFar_60_198 k190 n) xN l1 l2 0 g
def f_X12_fillsFar_60_190  : Nat → Int32 → xG → Option (xG)
  | 0, _, _ => none
  | n + 1, l1, g =>
    if 7 ≤ l1 then
      some g
    else
      f_X12_fillsFar_60_198 (f_X12_fillsFar_60_190 n) xN l1 0 g
def f_X12_fillsFar_60_40  : Nat → Int32 → xG → Option (xG)
  | 0, _, _ => none
  | n + 1, l1, g =>
    xg (¬ ((g.1 60 18) < 0 ∨ 2 ≤ (g.1 60 18).toNatClampNeg)) (
      if (g.1 71 (g.1 60 18).toNatClampNeg) ≤ l1 then
        f_X12_fillsFar_60_190 xN 0 g
      else
        xg (¬ ((36 : Int32) < 0 ∨ 40 ≤ (36 : Int32).toNatClampNeg)) (
          if (((g.1 94 (36 : Int32).toNatClampNeg) >>> (l1 &&& 31)) &&& 1) = 1 then
            f_X12_fillsFar_60_40 n (l1 + 1) g
          else
            xg (¬ (((10 * (g.1 60 18)) + l1) < 0 ∨ 20 ≤ ((10 * (g.1 60 18)) + l1).toNatClampNeg)) (
              xg (¬ (((10 * (g.1 60 18)) + l1) < 0 ∨ 20 ≤ ((10 * (g.1 60 18)) + l1).toNatClampNeg)) (
                xg (¬ (((10 * (g.1 60 18)) + l1) < 0 ∨ 20 ≤ ((10 * (g.1 60 18)) + l1).toNatClampNeg)) (
                  xg (¬ (((7 * (g.1 72 ((10 * (g.1 60 18)) + l1).toNatClampNeg)) + (g.1 73 ((10 * (g.1 60 18)) + l1).toNatClampNeg)) < 0 ∨ 49 ≤ ((7 * (g.1 72 ((10 * (g.1 60 18)) + l1).toNatClampNeg)) + (g.1 73 ((10 * (g.1 60 18)) + l1).toNatClampNeg)).toNatClampNeg)) (
                    if (g.1 74 ((10 * (g.1 60 18)) + l1).toNatClampNeg) < (g.1 95 ((7 * (g.1 72 ((10 * (g.1 60 18)) + l1).toNatClampNeg)) + (g.1 73 ((10 * (g.1 60 18)) + l1).toNatClampNeg)).toNatClampNeg) then
                      xg (¬ (((10 * (g.1 60 18)) + l1) < 0 ∨ 20 ≤ ((10 * (g.1 60 18)) + l1).toNatClampNeg)) (
                        xg (¬ (((7 * (g.1 72 ((10 * (g.1 60 18)) + l1).toNatClampNeg)) + (g.1 73 ((10 * (g.1 60 18)) + l1).toNatClampNeg)) < 0 ∨ 49 ≤ ((7 * (g.1 72 ((10 * (g.1 60 18)) + l1).toNatClampNeg)) + (g.1 73 ((10 * (g.1 60 18)) + l1).toNatClampNeg)).toNatClampNeg)) (
                          xg (¬ (((10 * (g.1 60 18)) + l1) < 0 ∨ 20 ≤ ((10 * (g.1 60 18)) + l1).toNatClampNeg)) (
                            xg (¬ (((7 * (g.1 73 ((10 * (g.1 60 18)) + l1).toNatClampNeg)) + (g.1 72 ((10 * (g.1 60 18)) + l1).toNatClampNeg)) < 0 ∨ 49 ≤ ((7 * (g.1 73 ((10 * (g.1 60 18)) + l1).toNatClampNeg)) + (g.1 72 ((10 * (g.1 60 18)) + l1).toNatClampNeg)).toNatClampNeg)) (
                              f_X12_fillsFar_60_40 n (l1 + 1) (xupd (xupd g.1 95 ((7 * (g.1 72 ((10 * (g.1 60 18)) + l1).toNatClampNeg)) + (g.1 73 ((10 * (g.1 60 18)) + l1).toNatClampNeg)).toNatClampNeg (g.1 74 ((10 * (g.1 60 18)) + l1).toNatClampNeg)) 95 ((7 * (g.1 73 ((10 * (g.1 60 18)) + l1).toNatClampNeg)) + (g.1 72 ((10 * (g.1 60 18)) + l1).toNatClampNeg)).toNatClampNeg (g.1 74 ((10 * (g.1 60 18)) + l1).toNatClampNeg), g.2)))))
                    else
                      f_X12_fillsFar_60_40 n (l1 + 1) g))))))
def f_X12_fillsFar_60_2  : Nat → Int32 → xG → Option (xG)
  | 0, _, _ => none
  | n + 1, l1, g =>
    if 49 ≤ l1 then
      f_X12_fillsFar_60_40 xN 0 g
    else
      xg (¬ 7 = 0) (
        xg (¬ 7 = 0) (
          if (l1 / 7) = (l1 - l1 / 7 * 7) then
            xg (¬ (l1 < 0 ∨ 49 ≤ l1.toNatClampNeg)) (
              f_X12_fillsFar_60_2 n (l1 + 1) (xupd g.1 95 l1.toNatClampNeg 0, g.2))
          else
            xg (¬ (l1 < 0 ∨ 49 ≤ l1.toNatClampNeg)) (
              f_X12_fillsFar_60_2 n (l1 + 1) (xupd g.1 95 l1.toNatClampNeg 999, g.2))))
def f_X12_fillsFar_60  (g : xG) : Option (xG) :=
  f_X12_fillsFar_60_2 xN 0 g
set_option maxRecDepth 20000 in
theorem t_X12_fillsFar_60_206 {k : xK} {S : List xSh} {out : xG} (hS : xpf SH2 S) (A : xAt k mX12_fillsFar.2.1 12 SH2 S) (hR : xRet k 0 0 S (fun r g' => r = none ∧ g' = out) mX12_fillsFar.2.2.2) (hrm : xrm k = { frames := 0, cells := 0, slots := 0, locals := 0 }) (hz : xhs k = xb0 k + S.length) {k190 : Int32 → xG → Option (xG)} {k198 : Int32 → Int32 → xG → Option (xG)} (hk190 : ∀ (l1 : Int32) (g : xG), k190 l1 g = some out → xW k S 0 0 190 [some (.ref 60), some (.int l1), none, none] [] g) (hk198 : ∀ (l1 : Int32) (l2 : Int32) (g : xG), k198 l1 l2 g = some out → xW k S 0 0 198 [some (.ref 60), some (.int l1), some (.int l2), none] [] g) : ∀ (n : Nat) (l1 : Int32) (l2 : Int32) (l3 : Int32) (g : xG), f_X12_fillsFar_60_206 k190 k198 n l1 l2 l3 g = some out → xW k S 0 0 206 [some (.ref 60), some (.int l1), some (.int l2), some (.int l3)] [] g := by
  intro n
  induction n with
  | zero => intro l1 l2 l3 g H; exact absurd H (by simp [f_X12_fillsFar_60_206])
  | succ n ih =>
    intro l1 l2 l3 g H
    have H : (if 7 ≤ l3 then
  k198 l1 (l2 + 1) g
else
  xg (¬ (((7 * l2) + l1) < 0 ∨ 49 ≤ ((7 * l2) + l1).toNatClampNeg)) (
    xg (¬ (((7 * l1) + l3) < 0 ∨ 49 ≤ ((7 * l1) + l3).toNatClampNeg)) (
      xg (¬ (((7 * l2) + l3) < 0 ∨ 49 ≤ ((7 * l2) + l3).toNatClampNeg)) (
        if (g.1 95 ((7 * l2) + l3).toNatClampNeg) ≤ ((g.1 95 ((7 * l2) + l1).toNatClampNeg) + (g.1 95 ((7 * l1) + l3).toNatClampNeg)) then
          f_X12_fillsFar_60_206 k190 k198 n l1 l2 (l3 + 1) g
        else
          xg (¬ (((7 * l2) + l1) < 0 ∨ 49 ≤ ((7 * l2) + l1).toNatClampNeg)) (
            xg (¬ (((7 * l1) + l3) < 0 ∨ 49 ≤ ((7 * l1) + l3).toNatClampNeg)) (
              xg (¬ (((7 * l2) + l3) < 0 ∨ 49 ≤ ((7 * l2) + l3).toNatClampNeg)) (
                f_X12_fillsFar_60_206 k190 k198 n l1 l2 (l3 + 1) (xupd g.1 95 ((7 * l2) + l3).toNatClampNeg ((g.1 95 ((7 * l2) + l1).toNatClampNeg) + (g.1 95 ((7 * l1) + l3).toNatClampNeg)), g.2)))))))) = some out := H
    refine xb A [(.iload_n 3, 1, 0, 0, .null), (.bipush 7, 2, 0, 0, .int 7)] (pc' := 209) (ls' := [some (.ref 60), some (.int l1), some (.int l2), some (.int l3)]) (st' := [.int 7, .int l3]) (g' := g) (by decide +kernel) rfl ?_
    refine xic_ge A (80) 289 212 (by decide +kernel) (fun h6 => ?_) (fun h6 => ?_)
    · rw [if_pos h6] at H
      refine xb A [(.iinc 2 1, 3, 0, 0, .null)] (pc' := 292) (ls' := [some (.ref 60), some (.int l1), some (.int (l2 + 1)), some (.int l3)]) (st' := []) (g' := g) (by decide +kernel) rfl ?_
      refine xgoto A (-94) 198 (by decide +kernel) ?_
      refine xweak (ls' := [some (.ref 60), some (.int l1), some (.int (l2 + 1)), none]) (by exact ⟨rfl, ⟨rfl, ⟨rfl, trivial⟩⟩⟩) ?_
      exact hk198 _ _ _ H
    · rw [if_neg h6] at H
      refine xb A [(.aload_n 0, 1, 0, 0, .null), (.getfield 122, 3, 60, 54, .ref 95), (.bipush 7, 2, 0, 0, .int 7), (.iload_n 2, 1, 0, 0, .null), (.imul, 1, 0, 0, .null), (.iload_n 1, 1, 0, 0, .null), (.iadd, 1, 0, 0, .null)] (pc' := 222) (ls' := [some (.ref 60), some (.int l1), some (.int l2), some (.int l3)]) (st' := [.int ((7 * l2) + l1), .ref 95]) (g' := g) (by decide +kernel) rfl ?_
      obtain ⟨h7, H⟩ := xg_elim H
      refine xiald A (nxt := 223) (by decide +kernel) (hS _ _ sh_95) h7 ?_
      show xW k S 0 0 223 [some (.ref 60), some (.int l1), some (.int l2), some (.int l3)] [.int (g.1 95 ((7 * l2) + l1).toNatClampNeg)] g
      refine xb A [(.aload_n 0, 1, 0, 0, .null), (.getfield 122, 3, 60, 54, .ref 95), (.bipush 7, 2, 0, 0, .int 7), (.iload_n 1, 1, 0, 0, .null), (.imul, 1, 0, 0, .null), (.iload_n 3, 1, 0, 0, .null), (.iadd, 1, 0, 0, .null)] (pc' := 233) (ls' := [some (.ref 60), some (.int l1), some (.int l2), some (.int l3)]) (st' := [.int ((7 * l1) + l3), .ref 95, .int (g.1 95 ((7 * l2) + l1).toNatClampNeg)]) (g' := g) (by decide +kernel) rfl ?_
      obtain ⟨h8, H⟩ := xg_elim H
      refine xiald A (nxt := 234) (by decide +kernel) (hS _ _ sh_95) h8 ?_
      show xW k S 0 0 234 [some (.ref 60), some (.int l1), some (.int l2), some (.int l3)] [.int (g.1 95 ((7 * l1) + l3).toNatClampNeg), .int (g.1 95 ((7 * l2) + l1).toNatClampNeg)] g
      refine xb A [(.iadd, 1, 0, 0, .null), (.aload_n 0, 1, 0, 0, .null), (.getfield 122, 3, 60, 54, .ref 95), (.bipush 7, 2, 0, 0, .int 7), (.iload_n 2, 1, 0, 0, .null), (.imul, 1, 0, 0, .null), (.iload_n 3, 1, 0, 0, .null), (.iadd, 1, 0, 0, .null)] (pc' := 245) (ls' := [some (.ref 60), some (.int l1), some (.int l2), some (.int l3)]) (st' := [.int ((7 * l2) + l3), .ref 95, .int ((g.1 95 ((7 * l2) + l1).toNatClampNeg) + (g.1 95 ((7 * l1) + l3).toNatClampNeg))]) (g' := g) (by decide +kernel) rfl ?_
      obtain ⟨h9, H⟩ := xg_elim H
      refine xiald A (nxt := 246) (by decide +kernel) (hS _ _ sh_95) h9 ?_
      show xW k S 0 0 246 [some (.ref 60), some (.int l1), some (.int l2), some (.int l3)] [.int (g.1 95 ((7 * l2) + l3).toNatClampNeg), .int ((g.1 95 ((7 * l2) + l1).toNatClampNeg) + (g.1 95 ((7 * l1) + l3).toNatClampNeg))] g
      refine xic_ge A (37) 283 249 (by decide +kernel) (fun h10 => ?_) (fun h10 => ?_)
      · rw [if_pos h10] at H
        refine xb A [(.iinc 3 1, 3, 0, 0, .null)] (pc' := 286) (ls' := [some (.ref 60), some (.int l1), some (.int l2), some (.int (l3 + 1))]) (st' := []) (g' := g) (by decide +kernel) rfl ?_
        refine xgoto A (-80) 206 (by decide +kernel) ?_
        exact ih _ _ _ _ H
      · rw [if_neg h10] at H
        refine xb A [(.aload_n 0, 1, 0, 0, .null), (.getfield 122, 3, 60, 54, .ref 95), (.bipush 7, 2, 0, 0, .int 7), (.iload_n 2, 1, 0, 0, .null), (.imul, 1, 0, 0, .null), (.iload_n 3, 1, 0, 0, .null), (.iadd, 1, 0, 0, .null), (.aload_n 0, 1, 0, 0, .null), (.getfield 122, 3, 60, 54, .ref 95), (.bipush 7, 2, 0, 0, .int 7), (.iload_n 2, 1, 0, 0, .null), (.imul, 1, 0, 0, .null), (.iload_n 1, 1, 0, 0, .null), (.iadd, 1, 0, 0, .null)] (pc' := 269) (ls' := [some (.ref 60), some (.int l1), some (.int l2), some (.int l3)]) (st' := [.int ((7 * l2) + l1), .ref 95, .int ((7 * l2) + l3), .ref 95]) (g' := g) (by decide +kernel) rfl ?_
        obtain ⟨h11, H⟩ := xg_elim H
        refine xiald A (nxt := 270) (by decide +kernel) (hS _ _ sh_95) h11 ?_
        show xW k S 0 0 270 [some (.ref 60), some (.int l1), some (.int l2), some (.int l3)] [.int (g.1 95 ((7 * l2) + l1).toNatClampNeg), .int ((7 * l2) + l3), .ref 95] g
        refine xb A [(.aload_n 0, 1, 0, 0, .null), (.getfield 122, 3, 60, 54, .ref 95), (.bipush 7, 2, 0, 0, .int 7), (.iload_n 1, 1, 0, 0, .null), (.imul, 1, 0, 0, .null), (.iload_n 3, 1, 0, 0, .null), (.iadd, 1, 0, 0, .null)] (pc' := 280) (ls' := [some (.ref 60), some (.int l1), some (.int l2), some (.int l3)]) (st' := [.int ((7 * l1) + l3), .ref 95, .int (g.1 95 ((7 * l2) + l1).toNatClampNeg), .int ((7 * l2) + l3), .ref 95]) (g' := g) (by decide +kernel) rfl ?_
        obtain ⟨h12, H⟩ := xg_elim H
        refine xiald A (nxt := 281) (by decide +kernel) (hS _ _ sh_95) h12 ?_
        show xW k S 0 0 281 [some (.ref 60), some (.int l1), some (.int l2), some (.int l3)] [.int (g.1 95 ((7 * l1) + l3).toNatClampNeg), .int (g.1 95 ((7 * l2) + l1).toNatClampNeg), .int ((7 * l2) + l3), .ref 95] g
        refine xb A [(.iadd, 1, 0, 0, .null)] (pc' := 282) (ls' := [some (.ref 60), some (.int l1), some (.int l2), some (.int l3)]) (st' := [.int ((g.1 95 ((7 * l2) + l1).toNatClampNeg) + (g.1 95 ((7 * l1) + l3).toNatClampNeg)), .int ((7 * l2) + l3), .ref 95]) (g' := g) (by decide +kernel) rfl ?_
        obtain ⟨h13, H⟩ := xg_elim H
        refine xiast A (nxt := 283) (by decide +kernel) (hS _ _ sh_95) h13 ?_
        show xW k S 0 0 283 [some (.ref 60), some (.int l1), some (.int l2), some (.int l3)] [] (xupd g.1 95 ((7 * l2) + l3).toNatClampNeg ((g.1 95 ((7 * l2) + l1).toNatClampNeg) + (g.1 95 ((7 * l1) + l3).toNatClampNeg)), g.2)
        refine xb A [(.iinc 3 1, 3, 0, 0, .null)] (pc' := 286) (ls' := [some (.ref 60), some (.int l1), some (.int l2), some (.int (l3 + 1))]) (st' := []) (g' := (xupd g.1 95 ((7 * l2) + l3).toNatClampNeg ((g.1 95 ((7 * l2) + l1).toNatClampNeg) + (g.1 95 ((7 * l1) + l3).toNatClampNeg)), g.2)) (by decide +kernel) rfl ?_
        refine xgoto A (-80) 206 (by decide +kernel) ?_
        exact ih _ _ _ _ H
set_option maxRecDepth 20000 in
theorem t_X12_fillsFar_60_198 {k : xK} {S : List xSh} {out : xG} (hS : xpf SH2 S) (A : xAt k mX12_fillsFar.2.1 12 SH2 S) (hR : xRet k 0 0 S (fun r g' => r = none ∧ g' = out) mX12_fillsFar.2.2.2) (hrm : xrm k = { frames := 0, cells := 0, slots := 0, locals := 0 }) (hz : xhs k = xb0 k + S.length) {k190 : Int32 → xG → Option (xG)} (hk190 : ∀ (l1 : Int32) (g : xG), k190 l1 g = some out → xW k S 0 0 190 [some (.ref 60), some (.int l1), none, none] [] g) : ∀ (n : Nat) (l1 : Int32) (l2 : Int32) (g : xG), f_X12_fillsFar_60_198 k190 n l1 l2 g = some out → xW k S 0 0 198 [some (.ref 60), some (.int l1), some (.int l2), none] [] g := by
  intro n
  induction n with
  | zero => intro l1 l2 g H; exact absurd H (by simp [f_X12_fillsFar_60_198])
  | succ n ih =>
    intro l1 l2 g H
    have H : (if 7 ≤ l2 then
  k190 (l1 + 1) g
else
  f_X12_fillsFar_60_206 k190 (f_X12_fillsFar_60_198 k190 n) xN l1 l2 0 g) = some out := H
    refine xb A [(.iload_n 2, 1, 0, 0, .null), (.bipush 7, 2, 0, 0, .int 7)] (pc' := 201) (ls' := [some (.ref 60), some (.int l1), some (.int l2), none]) (st' := [.int 7, .int l2]) (g' := g) (by decide +kernel) rfl ?_
    refine xic_ge A (94) 295 204 (by decide +kernel) (fun h5 => ?_) (fun h5 => ?_)
    · rw [if_pos h5] at H
      refine xb A [(.iinc 1 1, 3, 0, 0, .null)] (pc' := 298) (ls' := [some (.ref 60), some (.int (l1 + 1)), some (.int l2), none]) (st' := []) (g' := g) (by decide +kernel) rfl ?_
      refine xgoto A (-108) 190 (by decide +kernel) ?_
      refine xweak (ls' := [some (.ref 60), some (.int (l1 + 1)), none, none]) (by exact ⟨rfl, ⟨rfl, trivial⟩⟩) ?_
      exact hk190 _ _ H
    · rw [if_neg h5] at H
      refine xb A [(.iconst 0, 1, 0, 0, .int 0), (.istore_n 3, 1, 0, 0, .null)] (pc' := 206) (ls' := [some (.ref 60), some (.int l1), some (.int l2), some (.int 0)]) (st' := []) (g' := g) (by decide +kernel) rfl ?_
      exact t_X12_fillsFar_60_206 hS A hR hrm hz hk190 ih _ _ _ _ _ H
set_option maxRecDepth 20000 in
theorem t_X12_fillsFar_60_190 {k : xK} {S : List xSh} {out : xG} (hS : xpf SH2 S) (A : xAt k mX12_fillsFar.2.1 12 SH2 S) (hR : xRet k 0 0 S (fun r g' => r = none ∧ g' = out) mX12_fillsFar.2.2.2) (hrm : xrm k = { frames := 0, cells := 0, slots := 0, locals := 0 }) (hz : xhs k = xb0 k + S.length)   : ∀ (n : Nat) (l1 : Int32) (g : xG), f_X12_fillsFar_60_190 n l1 g = some out → xW k S 0 0 190 [some (.ref 60), some (.int l1), none, none] [] g := by
  intro n
  induction n with
  | zero => intro l1 g H; exact absurd H (by simp [f_X12_fillsFar_60_190])
  | succ n ih =>
    intro l1 g H
    have H : (if 7 ≤ l1 then
  some g
else
  f_X12_fillsFar_60_198 (f_X12_fillsFar_60_190 n) xN l1 0 g) = some out := H
    refine xb A [(.iload_n 1, 1, 0, 0, .null), (.bipush 7, 2, 0, 0, .int 7)] (pc' := 193) (ls' := [some (.ref 60), some (.int l1), none, none]) (st' := [.int 7, .int l1]) (g' := g) (by decide +kernel) rfl ?_
    refine xic_ge A (108) 301 196 (by decide +kernel) (fun h4 => ?_) (fun h4 => ?_)
    · rw [if_pos h4] at H
      obtain rfl := Option.some.inj H
      exact xret_v A hR hz (by decide +kernel) ⟨rfl, rfl⟩
    · rw [if_neg h4] at H
      refine xb A [(.iconst 0, 1, 0, 0, .int 0), (.istore_n 2, 1, 0, 0, .null)] (pc' := 198) (ls' := [some (.ref 60), some (.int l1), some (.int 0), none]) (st' := []) (g' := g) (by decide +kernel) rfl ?_
      exact t_X12_fillsFar_60_198 hS A hR hrm hz ih _ _ _ _ H
set_option maxRecDepth 20000 in
theorem t_X12_fillsFar_60_40 {k : xK} {S : List xSh} {out : xG} (hS : xpf SH2 S) (A : xAt k mX12_fillsFar.2.1 12 SH2 S) (hR : xRet k 0 0 S (fun r g' => r = none ∧ g' = out) mX12_fillsFar.2.2.2) (hrm : xrm k = { frames := 0, cells := 0, slots := 0, locals := 0 }) (hz : xhs k = xb0 k + S.length)   : ∀ (n : Nat) (l1 : Int32) (g : xG), f_X12_fillsFar_60_40 n l1 g = some out → xW k S 0 0 40 [some (.ref 60), some (.int l1), none, none] [] g := by
  intro n
  induction n with
  | zero => intro l1 g H; exact absurd H (by simp [f_X12_fillsFar_60_40])
  | succ n ih =>
    intro l1 g H
    have H : (xg (¬ ((g.1 60 18) < 0 ∨ 2 ≤ (g.1 60 18).toNatClampNeg)) (
  if (g.1 71 (g.1 60 18).toNatClampNeg) ≤ l1 then
    f_X12_fillsFar_60_190 xN 0 g
  else
    xg (¬ ((36 : Int32) < 0 ∨ 40 ≤ (36 : Int32).toNatClampNeg)) (
      if (((g.1 94 (36 : Int32).toNatClampNeg) >>> (l1 &&& 31)) &&& 1) = 1 then
        f_X12_fillsFar_60_40 n (l1 + 1) g
      else
        xg (¬ (((10 * (g.1 60 18)) + l1) < 0 ∨ 20 ≤ ((10 * (g.1 60 18)) + l1).toNatClampNeg)) (
          xg (¬ (((10 * (g.1 60 18)) + l1) < 0 ∨ 20 ≤ ((10 * (g.1 60 18)) + l1).toNatClampNeg)) (
            xg (¬ (((10 * (g.1 60 18)) + l1) < 0 ∨ 20 ≤ ((10 * (g.1 60 18)) + l1).toNatClampNeg)) (
              xg (¬ (((7 * (g.1 72 ((10 * (g.1 60 18)) + l1).toNatClampNeg)) + (g.1 73 ((10 * (g.1 60 18)) + l1).toNatClampNeg)) < 0 ∨ 49 ≤ ((7 * (g.1 72 ((10 * (g.1 60 18)) + l1).toNatClampNeg)) + (g.1 73 ((10 * (g.1 60 18)) + l1).toNatClampNeg)).toNatClampNeg)) (
                if (g.1 74 ((10 * (g.1 60 18)) + l1).toNatClampNeg) < (g.1 95 ((7 * (g.1 72 ((10 * (g.1 60 18)) + l1).toNatClampNeg)) + (g.1 73 ((10 * (g.1 60 18)) + l1).toNatClampNeg)).toNatClampNeg) then
                  xg (¬ (((10 * (g.1 60 18)) + l1) < 0 ∨ 20 ≤ ((10 * (g.1 60 18)) + l1).toNatClampNeg)) (
                    xg (¬ (((7 * (g.1 72 ((10 * (g.1 60 18)) + l1).toNatClampNeg)) + (g.1 73 ((10 * (g.1 60 18)) + l1).toNatClampNeg)) < 0 ∨ 49 ≤ ((7 * (g.1 72 ((10 * (g.1 60 18)) + l1).toNatClampNeg)) + (g.1 73 ((10 * (g.1 60 18)) + l1).toNatClampNeg)).toNatClampNeg)) (
                      xg (¬ (((10 * (g.1 60 18)) + l1) < 0 ∨ 20 ≤ ((10 * (g.1 60 18)) + l1).toNatClampNeg)) (
                        xg (¬ (((7 * (g.1 73 ((10 * (g.1 60 18)) + l1).toNatClampNeg)) + (g.1 72 ((10 * (g.1 60 18)) + l1).toNatClampNeg)) < 0 ∨ 49 ≤ ((7 * (g.1 73 ((10 * (g.1 60 18)) + l1).toNatClampNeg)) + (g.1 72 ((10 * (g.1 60 18)) + l1).toNatClampNeg)).toNatClampNeg)) (
                          f_X12_fillsFar_60_40 n (l1 + 1) (xupd (xupd g.1 95 ((7 * (g.1 72 ((10 * (g.1 60 18)) + l1).toNatClampNeg)) + (g.1 73 ((10 * (g.1 60 18)) + l1).toNatClampNeg)).toNatClampNeg (g.1 74 ((10 * (g.1 60 18)) + l1).toNatClampNeg)) 95 ((7 * (g.1 73 ((10 * (g.1 60 18)) + l1).toNatClampNeg)) + (g.1 72 ((10 * (g.1 60 18)) + l1).toNatClampNeg)).toNatClampNeg (g.1 74 ((10 * (g.1 60 18)) + l1).toNatClampNeg), g.2)))))
                else
                  f_X12_fillsFar_60_40 n (l1 + 1) g))))))) = some out := H
    refine xb A [(.iload_n 1, 1, 0, 0, .null), (.aload_n 0, 1, 0, 0, .null), (.getfield 49, 3, 60, 24, .ref 71), (.aload_n 0, 1, 0, 0, .null), (.getfield 227, 3, 60, 18, .int 0)] (pc' := 49) (ls' := [some (.ref 60), some (.int l1), none, none]) (st' := [.int (g.1 60 18), .ref 71, .int l1]) (g' := g) (by decide +kernel) rfl ?_
    obtain ⟨h2, H⟩ := xg_elim H
    refine xiald A (nxt := 50) (by decide +kernel) (hS _ _ sh_71) h2 ?_
    show xW k S 0 0 50 [some (.ref 60), some (.int l1), none, none] [.int (g.1 71 (g.1 60 18).toNatClampNeg), .int l1] g
    refine xic_ge A (138) 188 53 (by decide +kernel) (fun h3 => ?_) (fun h3 => ?_)
    · rw [if_pos h3] at H
      refine xb A [(.iconst 0, 1, 0, 0, .int 0), (.istore_n 1, 1, 0, 0, .null)] (pc' := 190) (ls' := [some (.ref 60), some (.int 0), none, none]) (st' := []) (g' := g) (by decide +kernel) rfl ?_
      exact t_X12_fillsFar_60_190 hS A hR hrm hz _ _ _ H
    · rw [if_neg h3] at H
      refine xb A [(.aload_n 0, 1, 0, 0, .null), (.getfield 119, 3, 60, 51, .ref 94), (.bipush 36, 2, 0, 0, .int 36)] (pc' := 59) (ls' := [some (.ref 60), some (.int l1), none, none]) (st' := [.int 36, .ref 94]) (g' := g) (by decide +kernel) rfl ?_
      obtain ⟨h14, H⟩ := xg_elim H
      refine xiald A (nxt := 60) (by decide +kernel) (hS _ _ sh_94) h14 ?_
      show xW k S 0 0 60 [some (.ref 60), some (.int l1), none, none] [.int (g.1 94 (36 : Int32).toNatClampNeg)] g
      refine xb A [(.iload_n 1, 1, 0, 0, .null), (.ishr, 1, 0, 0, .null), (.iconst 1, 1, 0, 0, .int 1), (.iand, 1, 0, 0, .null), (.iconst 1, 1, 0, 0, .int 1)] (pc' := 65) (ls' := [some (.ref 60), some (.int l1), none, none]) (st' := [.int 1, .int (((g.1 94 (36 : Int32).toNatClampNeg) >>> (l1 &&& 31)) &&& 1)]) (g' := g) (by decide +kernel) rfl ?_
      refine xic_ne A (6) 71 68 (by decide +kernel) (fun h15 => ?_) (fun h15 => ?_)
      · rw [if_neg h15] at H
        refine xb A [(.aload_n 0, 1, 0, 0, .null), (.getfield 52, 3, 60, 25, .ref 72), (.bipush 10, 2, 0, 0, .int 10), (.aload_n 0, 1, 0, 0, .null), (.getfield 227, 3, 60, 18, .int 0), (.imul, 1, 0, 0, .null), (.iload_n 1, 1, 0, 0, .null), (.iadd, 1, 0, 0, .null)] (pc' := 84) (ls' := [some (.ref 60), some (.int l1), none, none]) (st' := [.int ((10 * (g.1 60 18)) + l1), .ref 72]) (g' := g) (by decide +kernel) rfl ?_
        obtain ⟨h16, H⟩ := xg_elim H
        refine xiald A (nxt := 85) (by decide +kernel) (hS _ _ sh_72) h16 ?_
        show xW k S 0 0 85 [some (.ref 60), some (.int l1), none, none] [.int (g.1 72 ((10 * (g.1 60 18)) + l1).toNatClampNeg)] g
        refine xb A [(.istore_n 2, 1, 0, 0, .null), (.aload_n 0, 1, 0, 0, .null), (.getfield 55, 3, 60, 26, .ref 73), (.bipush 10, 2, 0, 0, .int 10), (.aload_n 0, 1, 0, 0, .null), (.getfield 227, 3, 60, 18, .int 0), (.imul, 1, 0, 0, .null), (.iload_n 1, 1, 0, 0, .null), (.iadd, 1, 0, 0, .null)] (pc' := 99) (ls' := [some (.ref 60), some (.int l1), some (.int (g.1 72 ((10 * (g.1 60 18)) + l1).toNatClampNeg)), none]) (st' := [.int ((10 * (g.1 60 18)) + l1), .ref 73]) (g' := g) (by decide +kernel) rfl ?_
        obtain ⟨h17, H⟩ := xg_elim H
        refine xiald A (nxt := 100) (by decide +kernel) (hS _ _ sh_73) h17 ?_
        show xW k S 0 0 100 [some (.ref 60), some (.int l1), some (.int (g.1 72 ((10 * (g.1 60 18)) + l1).toNatClampNeg)), none] [.int (g.1 73 ((10 * (g.1 60 18)) + l1).toNatClampNeg)] g
        refine xb A [(.istore_n 3, 1, 0, 0, .null), (.aload_n 0, 1, 0, 0, .null), (.getfield 58, 3, 60, 27, .ref 74), (.bipush 10, 2, 0, 0, .int 10), (.aload_n 0, 1, 0, 0, .null), (.getfield 227, 3, 60, 18, .int 0), (.imul, 1, 0, 0, .null), (.iload_n 1, 1, 0, 0, .null), (.iadd, 1, 0, 0, .null)] (pc' := 114) (ls' := [some (.ref 60), some (.int l1), some (.int (g.1 72 ((10 * (g.1 60 18)) + l1).toNatClampNeg)), some (.int (g.1 73 ((10 * (g.1 60 18)) + l1).toNatClampNeg))]) (st' := [.int ((10 * (g.1 60 18)) + l1), .ref 74]) (g' := g) (by decide +kernel) rfl ?_
        obtain ⟨h18, H⟩ := xg_elim H
        refine xiald A (nxt := 115) (by decide +kernel) (hS _ _ sh_74) h18 ?_
        show xW k S 0 0 115 [some (.ref 60), some (.int l1), some (.int (g.1 72 ((10 * (g.1 60 18)) + l1).toNatClampNeg)), some (.int (g.1 73 ((10 * (g.1 60 18)) + l1).toNatClampNeg))] [.int (g.1 74 ((10 * (g.1 60 18)) + l1).toNatClampNeg)] g
        refine xb A [(.aload_n 0, 1, 0, 0, .null), (.getfield 122, 3, 60, 54, .ref 95), (.bipush 7, 2, 0, 0, .int 7), (.iload_n 2, 1, 0, 0, .null), (.imul, 1, 0, 0, .null), (.iload_n 3, 1, 0, 0, .null), (.iadd, 1, 0, 0, .null)] (pc' := 125) (ls' := [some (.ref 60), some (.int l1), some (.int (g.1 72 ((10 * (g.1 60 18)) + l1).toNatClampNeg)), some (.int (g.1 73 ((10 * (g.1 60 18)) + l1).toNatClampNeg))]) (st' := [.int ((7 * (g.1 72 ((10 * (g.1 60 18)) + l1).toNatClampNeg)) + (g.1 73 ((10 * (g.1 60 18)) + l1).toNatClampNeg)), .ref 95, .int (g.1 74 ((10 * (g.1 60 18)) + l1).toNatClampNeg)]) (g' := g) (by decide +kernel) rfl ?_
        obtain ⟨h19, H⟩ := xg_elim H
        refine xiald A (nxt := 126) (by decide +kernel) (hS _ _ sh_95) h19 ?_
        show xW k S 0 0 126 [some (.ref 60), some (.int l1), some (.int (g.1 72 ((10 * (g.1 60 18)) + l1).toNatClampNeg)), some (.int (g.1 73 ((10 * (g.1 60 18)) + l1).toNatClampNeg))] [.int (g.1 95 ((7 * (g.1 72 ((10 * (g.1 60 18)) + l1).toNatClampNeg)) + (g.1 73 ((10 * (g.1 60 18)) + l1).toNatClampNeg)).toNatClampNeg), .int (g.1 74 ((10 * (g.1 60 18)) + l1).toNatClampNeg)] g
        refine xic_lt A (6) 132 129 (by decide +kernel) (fun h20 => ?_) (fun h20 => ?_)
        · rw [if_pos h20] at H
          refine xb A [(.aload_n 0, 1, 0, 0, .null), (.getfield 122, 3, 60, 54, .ref 95), (.bipush 7, 2, 0, 0, .int 7), (.iload_n 2, 1, 0, 0, .null), (.imul, 1, 0, 0, .null), (.iload_n 3, 1, 0, 0, .null), (.iadd, 1, 0, 0, .null), (.aload_n 0, 1, 0, 0, .null), (.getfield 58, 3, 60, 27, .ref 74), (.bipush 10, 2, 0, 0, .int 10), (.aload_n 0, 1, 0, 0, .null), (.getfield 227, 3, 60, 18, .int 0), (.imul, 1, 0, 0, .null), (.iload_n 1, 1, 0, 0, .null), (.iadd, 1, 0, 0, .null)] (pc' := 155) (ls' := [some (.ref 60), some (.int l1), some (.int (g.1 72 ((10 * (g.1 60 18)) + l1).toNatClampNeg)), some (.int (g.1 73 ((10 * (g.1 60 18)) + l1).toNatClampNeg))]) (st' := [.int ((10 * (g.1 60 18)) + l1), .ref 74, .int ((7 * (g.1 72 ((10 * (g.1 60 18)) + l1).toNatClampNeg)) + (g.1 73 ((10 * (g.1 60 18)) + l1).toNatClampNeg)), .ref 95]) (g' := g) (by decide +kernel) rfl ?_
          obtain ⟨h21, H⟩ := xg_elim H
          refine xiald A (nxt := 156) (by decide +kernel) (hS _ _ sh_74) h21 ?_
          show xW k S 0 0 156 [some (.ref 60), some (.int l1), some (.int (g.1 72 ((10 * (g.1 60 18)) + l1).toNatClampNeg)), some (.int (g.1 73 ((10 * (g.1 60 18)) + l1).toNatClampNeg))] [.int (g.1 74 ((10 * (g.1 60 18)) + l1).toNatClampNeg), .int ((7 * (g.1 72 ((10 * (g.1 60 18)) + l1).toNatClampNeg)) + (g.1 73 ((10 * (g.1 60 18)) + l1).toNatClampNeg)), .ref 95] g
          obtain ⟨h22, H⟩ := xg_elim H
          refine xiast A (nxt := 157) (by decide +kernel) (hS _ _ sh_95) h22 ?_
          show xW k S 0 0 157 [some (.ref 60), some (.int l1), some (.int (g.1 72 ((10 * (g.1 60 18)) + l1).toNatClampNeg)), some (.int (g.1 73 ((10 * (g.1 60 18)) + l1).toNatClampNeg))] [] (xupd g.1 95 ((7 * (g.1 72 ((10 * (g.1 60 18)) + l1).toNatClampNeg)) + (g.1 73 ((10 * (g.1 60 18)) + l1).toNatClampNeg)).toNatClampNeg (g.1 74 ((10 * (g.1 60 18)) + l1).toNatClampNeg), g.2)
          refine xb A [(.aload_n 0, 1, 0, 0, .null), (.getfield 122, 3, 60, 54, .ref 95), (.bipush 7, 2, 0, 0, .int 7), (.iload_n 3, 1, 0, 0, .null), (.imul, 1, 0, 0, .null), (.iload_n 2, 1, 0, 0, .null), (.iadd, 1, 0, 0, .null), (.aload_n 0, 1, 0, 0, .null), (.getfield 58, 3, 60, 27, .ref 74), (.bipush 10, 2, 0, 0, .int 10), (.aload_n 0, 1, 0, 0, .null), (.getfield 227, 3, 60, 18, .int 0), (.imul, 1, 0, 0, .null), (.iload_n 1, 1, 0, 0, .null), (.iadd, 1, 0, 0, .null)] (pc' := 180) (ls' := [some (.ref 60), some (.int l1), some (.int (g.1 72 ((10 * (g.1 60 18)) + l1).toNatClampNeg)), some (.int (g.1 73 ((10 * (g.1 60 18)) + l1).toNatClampNeg))]) (st' := [.int ((10 * (g.1 60 18)) + l1), .ref 74, .int ((7 * (g.1 73 ((10 * (g.1 60 18)) + l1).toNatClampNeg)) + (g.1 72 ((10 * (g.1 60 18)) + l1).toNatClampNeg)), .ref 95]) (g' := (xupd g.1 95 ((7 * (g.1 72 ((10 * (g.1 60 18)) + l1).toNatClampNeg)) + (g.1 73 ((10 * (g.1 60 18)) + l1).toNatClampNeg)).toNatClampNeg (g.1 74 ((10 * (g.1 60 18)) + l1).toNatClampNeg), g.2)) (by decide +kernel) rfl ?_
          obtain ⟨h23, H⟩ := xg_elim H
          refine xiald A (nxt := 181) (by decide +kernel) (hS _ _ sh_74) h23 ?_
          show xW k S 0 0 181 [some (.ref 60), some (.int l1), some (.int (g.1 72 ((10 * (g.1 60 18)) + l1).toNatClampNeg)), some (.int (g.1 73 ((10 * (g.1 60 18)) + l1).toNatClampNeg))] [.int (g.1 74 ((10 * (g.1 60 18)) + l1).toNatClampNeg), .int ((7 * (g.1 73 ((10 * (g.1 60 18)) + l1).toNatClampNeg)) + (g.1 72 ((10 * (g.1 60 18)) + l1).toNatClampNeg)), .ref 95] (xupd g.1 95 ((7 * (g.1 72 ((10 * (g.1 60 18)) + l1).toNatClampNeg)) + (g.1 73 ((10 * (g.1 60 18)) + l1).toNatClampNeg)).toNatClampNeg (g.1 74 ((10 * (g.1 60 18)) + l1).toNatClampNeg), g.2)
          obtain ⟨h24, H⟩ := xg_elim H
          refine xiast A (nxt := 182) (by decide +kernel) (hS _ _ sh_95) h24 ?_
          show xW k S 0 0 182 [some (.ref 60), some (.int l1), some (.int (g.1 72 ((10 * (g.1 60 18)) + l1).toNatClampNeg)), some (.int (g.1 73 ((10 * (g.1 60 18)) + l1).toNatClampNeg))] [] (xupd (xupd g.1 95 ((7 * (g.1 72 ((10 * (g.1 60 18)) + l1).toNatClampNeg)) + (g.1 73 ((10 * (g.1 60 18)) + l1).toNatClampNeg)).toNatClampNeg (g.1 74 ((10 * (g.1 60 18)) + l1).toNatClampNeg)) 95 ((7 * (g.1 73 ((10 * (g.1 60 18)) + l1).toNatClampNeg)) + (g.1 72 ((10 * (g.1 60 18)) + l1).toNatClampNeg)).toNatClampNeg (g.1 74 ((10 * (g.1 60 18)) + l1).toNatClampNeg), g.2)
          refine xb A [(.iinc 1 1, 3, 0, 0, .null)] (pc' := 185) (ls' := [some (.ref 60), some (.int (l1 + 1)), some (.int (g.1 72 ((10 * (g.1 60 18)) + l1).toNatClampNeg)), some (.int (g.1 73 ((10 * (g.1 60 18)) + l1).toNatClampNeg))]) (st' := []) (g' := (xupd (xupd g.1 95 ((7 * (g.1 72 ((10 * (g.1 60 18)) + l1).toNatClampNeg)) + (g.1 73 ((10 * (g.1 60 18)) + l1).toNatClampNeg)).toNatClampNeg (g.1 74 ((10 * (g.1 60 18)) + l1).toNatClampNeg)) 95 ((7 * (g.1 73 ((10 * (g.1 60 18)) + l1).toNatClampNeg)) + (g.1 72 ((10 * (g.1 60 18)) + l1).toNatClampNeg)).toNatClampNeg (g.1 74 ((10 * (g.1 60 18)) + l1).toNatClampNeg), g.2)) (by decide +kernel) rfl ?_
          refine xgoto A (-145) 40 (by decide +kernel) ?_
          refine xweak (ls' := [some (.ref 60), some (.int (l1 + 1)), none, none]) (by exact ⟨rfl, ⟨rfl, trivial⟩⟩) ?_
          exact ih _ _ H
        · rw [if_neg h20] at H
          refine xgoto A (53) 182 (by decide +kernel) ?_
          refine xb A [(.iinc 1 1, 3, 0, 0, .null)] (pc' := 185) (ls' := [some (.ref 60), some (.int (l1 + 1)), some (.int (g.1 72 ((10 * (g.1 60 18)) + l1).toNatClampNeg)), some (.int (g.1 73 ((10 * (g.1 60 18)) + l1).toNatClampNeg))]) (st' := []) (g' := g) (by decide +kernel) rfl ?_
          refine xgoto A (-145) 40 (by decide +kernel) ?_
          refine xweak (ls' := [some (.ref 60), some (.int (l1 + 1)), none, none]) (by exact ⟨rfl, ⟨rfl, trivial⟩⟩) ?_
          exact ih _ _ H
      · rw [if_pos h15] at H
        refine xgoto A (114) 182 (by decide +kernel) ?_
        refine xb A [(.iinc 1 1, 3, 0, 0, .null)] (pc' := 185) (ls' := [some (.ref 60), some (.int (l1 + 1)), none, none]) (st' := []) (g' := g) (by decide +kernel) rfl ?_
        refine xgoto A (-145) 40 (by decide +kernel) ?_
        exact ih _ _ H
set_option maxRecDepth 20000 in
theorem t_X12_fillsFar_60_2 {k : xK} {S : List xSh} {out : xG} (hS : xpf SH2 S) (A : xAt k mX12_fillsFar.2.1 12 SH2 S) (hR : xRet k 0 0 S (fun r g' => r = none ∧ g' = out) mX12_fillsFar.2.2.2) (hrm : xrm k = { frames := 0, cells := 0, slots := 0, locals := 0 }) (hz : xhs k = xb0 k + S.length)   : ∀ (n : Nat) (l1 : Int32) (g : xG), f_X12_fillsFar_60_2 n l1 g = some out → xW k S 0 0 2 [some (.ref 60), some (.int l1), none, none] [] g := by
  intro n
  induction n with
  | zero => intro l1 g H; exact absurd H (by simp [f_X12_fillsFar_60_2])
  | succ n ih =>
    intro l1 g H
    have H : (if 49 ≤ l1 then
  f_X12_fillsFar_60_40 xN 0 g
else
  xg (¬ 7 = 0) (
    xg (¬ 7 = 0) (
      if (l1 / 7) = (l1 - l1 / 7 * 7) then
        xg (¬ (l1 < 0 ∨ 49 ≤ l1.toNatClampNeg)) (
          f_X12_fillsFar_60_2 n (l1 + 1) (xupd g.1 95 l1.toNatClampNeg 0, g.2))
      else
        xg (¬ (l1 < 0 ∨ 49 ≤ l1.toNatClampNeg)) (
          f_X12_fillsFar_60_2 n (l1 + 1) (xupd g.1 95 l1.toNatClampNeg 999, g.2))))) = some out := H
    refine xb A [(.iload_n 1, 1, 0, 0, .null), (.bipush 49, 2, 0, 0, .int 49)] (pc' := 5) (ls' := [some (.ref 60), some (.int l1), none, none]) (st' := [.int 49, .int l1]) (g' := g) (by decide +kernel) rfl ?_
    refine xic_ge A (33) 38 8 (by decide +kernel) (fun h1 => ?_) (fun h1 => ?_)
    · rw [if_pos h1] at H
      refine xb A [(.iconst 0, 1, 0, 0, .int 0), (.istore_n 1, 1, 0, 0, .null)] (pc' := 40) (ls' := [some (.ref 60), some (.int 0), none, none]) (st' := []) (g' := g) (by decide +kernel) rfl ?_
      exact t_X12_fillsFar_60_40 hS A hR hrm hz _ _ _ H
    · rw [if_neg h1] at H
      refine xb A [(.aload_n 0, 1, 0, 0, .null), (.getfield 122, 3, 60, 54, .ref 95), (.iload_n 1, 1, 0, 0, .null), (.iload_n 1, 1, 0, 0, .null), (.bipush 7, 2, 0, 0, .int 7)] (pc' := 16) (ls' := [some (.ref 60), some (.int l1), none, none]) (st' := [.int 7, .int l1, .int l1, .ref 95]) (g' := g) (by decide +kernel) rfl ?_
      obtain ⟨h25, H⟩ := xg_elim H
      refine xidiv A (nxt := 17) (by decide +kernel) h25 ?_
      refine xb A [(.iload_n 1, 1, 0, 0, .null), (.bipush 7, 2, 0, 0, .int 7)] (pc' := 20) (ls' := [some (.ref 60), some (.int l1), none, none]) (st' := [.int 7, .int l1, .int (l1 / 7), .int l1, .ref 95]) (g' := g) (by decide +kernel) rfl ?_
      obtain ⟨h26, H⟩ := xg_elim H
      refine xirem A (nxt := 21) (by decide +kernel) h26 ?_
      refine xic_ne A (7) 28 24 (by decide +kernel) (fun h27 => ?_) (fun h27 => ?_)
      · rw [if_neg h27] at H
        refine xb A [(.sipush 999, 3, 0, 0, .int 999)] (pc' := 31) (ls' := [some (.ref 60), some (.int l1), none, none]) (st' := [.int 999, .int l1, .ref 95]) (g' := g) (by decide +kernel) rfl ?_
        obtain ⟨h28, H⟩ := xg_elim H
        refine xiast A (nxt := 32) (by decide +kernel) (hS _ _ sh_95) h28 ?_
        show xW k S 0 0 32 [some (.ref 60), some (.int l1), none, none] [] (xupd g.1 95 l1.toNatClampNeg 999, g.2)
        refine xb A [(.iinc 1 1, 3, 0, 0, .null)] (pc' := 35) (ls' := [some (.ref 60), some (.int (l1 + 1)), none, none]) (st' := []) (g' := (xupd g.1 95 l1.toNatClampNeg 999, g.2)) (by decide +kernel) rfl ?_
        refine xgoto A (-33) 2 (by decide +kernel) ?_
        exact ih _ _ H
      · rw [if_pos h27] at H
        refine xb A [(.iconst 0, 1, 0, 0, .int 0)] (pc' := 25) (ls' := [some (.ref 60), some (.int l1), none, none]) (st' := [.int 0, .int l1, .ref 95]) (g' := g) (by decide +kernel) rfl ?_
        refine xgoto A (6) 31 (by decide +kernel) ?_
        obtain ⟨h29, H⟩ := xg_elim H
        refine xiast A (nxt := 32) (by decide +kernel) (hS _ _ sh_95) h29 ?_
        show xW k S 0 0 32 [some (.ref 60), some (.int l1), none, none] [] (xupd g.1 95 l1.toNatClampNeg 0, g.2)
        refine xb A [(.iinc 1 1, 3, 0, 0, .null)] (pc' := 35) (ls' := [some (.ref 60), some (.int (l1 + 1)), none, none]) (st' := []) (g' := (xupd g.1 95 l1.toNatClampNeg 0, g.2)) (by decide +kernel) rfl ?_
        refine xgoto A (-33) 2 (by decide +kernel) ?_
        exact ih _ _ H
set_option maxRecDepth 20000 in
theorem c_X12_fillsFar_60 {S : List xSh} (hS : xpf SH2 S) {g : xG}  (out : xG) (H : f_X12_fillsFar_60  g = some out) : xC mX12_fillsFar 0 0 0 0 S [.ref 60] g S (fun r g' => r = none ∧ g' = out) := by
  have H : (f_X12_fillsFar_60_2 xN 0 g) = some out := H
  refine xC.of 12 SH2 [some (.ref 60), none, none, none] hS (by decide +kernel) rfl (fun _ _ => Nat.le_of_ble_eq_true rfl) (fun _ _ => rfl) ?_
  intro k A hR hrm hz
  refine xb A [(.iconst 0, 1, 0, 0, .int 0), (.istore_n 1, 1, 0, 0, .null)] (pc' := 2) (ls' := [some (.ref 60), some (.int 0), none, none]) (st' := []) (g' := g) (by decide +kernel) rfl ?_
  exact t_X12_fillsFar_60_2 hS A hR hrm hz _ _ _ H
def f_X12_copies_60_2  : Nat → Int32 → xG → Option (xG)
  | 0, _, _ => none
  | n + 1, l1, g =>
    if 40 ≤ l1 then
      xg (¬ ((g.1 60 18) < 0 ∨ 2 ≤ (g.1 60 18).toNatClampNeg)) (
        (f_X12_fillsFar_60 (xupd (xupd g.1 60 52 (g.1 80 (g.1 60 18).toNatClampNeg)) 60 53 0, g.2)).bind fun w1 =>
        some w1)
    else
      xg (¬ (l1 < 0 ∨ 40 ≤ l1.toNatClampNeg)) (
        xg (¬ (l1 < 0 ∨ 40 ≤ l1.toNatClampNeg)) (
          f_X12_copies_60_2 n (l1 + 1) (xupd g.1 94 l1.toNatClampNeg (g.1 93 l1.toNatClampNeg), g.2)))
def f_X12_copies_60  (g : xG) : Option (xG) :=
  f_X12_copies_60_2 xN 0 g
set_option maxRecDepth 20000 in
theorem t_X12_copies_60_2 {k : xK} {S : List xSh} {out : xG} (hS : xpf SH2 S) (A : xAt k mX12_copies.2.1 12 SH2 S) (hR : xRet k 0 0 S (fun r g' => r = none ∧ g' = out) mX12_copies.2.2.2) (hrm : xrm k = { frames := 1, cells := 0, slots := 0, locals := 23 }) (hz : xhs k = xb0 k + S.length)   : ∀ (n : Nat) (l1 : Int32) (g : xG), f_X12_copies_60_2 n l1 g = some out → xW k S 0 0 2 [some (.ref 60), some (.int l1)] [] g := by
  intro n
  induction n with
  | zero => intro l1 g H; exact absurd H (by simp [f_X12_copies_60_2])
  | succ n ih =>
    intro l1 g H
    have H : (if 40 ≤ l1 then
  xg (¬ ((g.1 60 18) < 0 ∨ 2 ≤ (g.1 60 18).toNatClampNeg)) (
    (f_X12_fillsFar_60 (xupd (xupd g.1 60 52 (g.1 80 (g.1 60 18).toNatClampNeg)) 60 53 0, g.2)).bind fun w1 =>
    some w1)
else
  xg (¬ (l1 < 0 ∨ 40 ≤ l1.toNatClampNeg)) (
    xg (¬ (l1 < 0 ∨ 40 ≤ l1.toNatClampNeg)) (
      f_X12_copies_60_2 n (l1 + 1) (xupd g.1 94 l1.toNatClampNeg (g.1 93 l1.toNatClampNeg), g.2)))) = some out := H
    refine xb A [(.iload_n 1, 1, 0, 0, .null), (.bipush 40, 2, 0, 0, .int 40)] (pc' := 5) (ls' := [some (.ref 60), some (.int l1)]) (st' := [.int 40, .int l1]) (g' := g) (by decide +kernel) rfl ?_
    refine xic_ge A (21) 26 8 (by decide +kernel) (fun h1 => ?_) (fun h1 => ?_)
    · rw [if_pos h1] at H
      refine xb A [(.aload_n 0, 1, 0, 0, .null), (.aload_n 0, 1, 0, 0, .null), (.getfield 76, 3, 60, 33, .ref 80), (.aload_n 0, 1, 0, 0, .null), (.getfield 227, 3, 60, 18, .int 0)] (pc' := 35) (ls' := [some (.ref 60), some (.int l1)]) (st' := [.int (g.1 60 18), .ref 80, .ref 60]) (g' := g) (by decide +kernel) rfl ?_
      obtain ⟨h2, H⟩ := xg_elim H
      refine xiald A (nxt := 36) (by decide +kernel) (hS _ _ sh_80) h2 ?_
      show xW k S 0 0 36 [some (.ref 60), some (.int l1)] [.int (g.1 80 (g.1 60 18).toNatClampNeg), .ref 60] g
      refine xb A [(.putfield 311, 3, 60, 52, .int 0), (.aload_n 0, 1, 0, 0, .null), (.iconst 0, 1, 0, 0, .int 0), (.putfield 314, 3, 60, 53, .int 1), (.aload_n 0, 1, 0, 0, .null)] (pc' := 45) (ls' := [some (.ref 60), some (.int l1)]) (st' := [.ref 60]) (g' := (xupd (xupd g.1 60 52 (g.1 80 (g.1 60 18).toNatClampNeg)) 60 53 0, g.2)) (by decide +kernel) rfl ?_
      obtain ⟨w1, e1, H⟩ := xbind H
      refine xcallV A (ix := 317) (nxt := 48) hrm hz [] [] 1703 (c_X12_fillsFar_60 hS _ e1) ok_X12_fillsFar (by decide +kernel) rfl (fun r g1 hq => ?_)
      rw [hq.1, hq.2]
      show xW k S 0 0 48 [some (.ref 60), some (.int l1)] [] w1
      obtain rfl := Option.some.inj H
      exact xret_v A hR hz (by decide +kernel) ⟨rfl, rfl⟩
    · rw [if_neg h1] at H
      refine xb A [(.aload_n 0, 1, 0, 0, .null), (.getfield 119, 3, 60, 51, .ref 94), (.iload_n 1, 1, 0, 0, .null), (.aload_n 0, 1, 0, 0, .null), (.getfield 116, 3, 60, 50, .ref 93), (.iload_n 1, 1, 0, 0, .null)] (pc' := 18) (ls' := [some (.ref 60), some (.int l1)]) (st' := [.int l1, .ref 93, .int l1, .ref 94]) (g' := g) (by decide +kernel) rfl ?_
      obtain ⟨h3, H⟩ := xg_elim H
      refine xiald A (nxt := 19) (by decide +kernel) (hS _ _ sh_93) h3 ?_
      show xW k S 0 0 19 [some (.ref 60), some (.int l1)] [.int (g.1 93 l1.toNatClampNeg), .int l1, .ref 94] g
      obtain ⟨h4, H⟩ := xg_elim H
      refine xiast A (nxt := 20) (by decide +kernel) (hS _ _ sh_94) h4 ?_
      show xW k S 0 0 20 [some (.ref 60), some (.int l1)] [] (xupd g.1 94 l1.toNatClampNeg (g.1 93 l1.toNatClampNeg), g.2)
      refine xb A [(.iinc 1 1, 3, 0, 0, .null)] (pc' := 23) (ls' := [some (.ref 60), some (.int (l1 + 1))]) (st' := []) (g' := (xupd g.1 94 l1.toNatClampNeg (g.1 93 l1.toNatClampNeg), g.2)) (by decide +kernel) rfl ?_
      refine xgoto A (-21) 2 (by decide +kernel) ?_
      exact ih _ _ H
set_option maxRecDepth 20000 in
theorem c_X12_copies_60 {S : List xSh} (hS : xpf SH2 S) {g : xG}  (out : xG) (H : f_X12_copies_60  g = some out) : xC mX12_copies 1 23 0 0 S [.ref 60] g S (fun r g' => r = none ∧ g' = out) := by
  have H : (f_X12_copies_60_2 xN 0 g) = some out := H
  refine xC.of 12 SH2 [some (.ref 60), none] hS (by decide +kernel) rfl (fun _ _ => Nat.le_of_ble_eq_true rfl) (fun _ _ => rfl) ?_
  intro k A hR hrm hz
  refine xb A [(.iconst 0, 1, 0, 0, .int 0), (.istore_n 1, 1, 0, 0, .null)] (pc' := 2) (ls' := [some (.ref 60), some (.int 0)]) (st' := []) (g' := g) (by decide +kernel) rfl ?_
  exact t_X12_copies_60_2 hS A hR hrm hz _ _ _ H
def f_X12_farFrom_60 (p1 : Int32) (g : xG) : Option (Int32) :=
  xg (¬ ((g.1 60 18) < 0 ∨ 2 ≤ (g.1 60 18).toNatClampNeg)) (
    xg (¬ (((7 * p1) + (g.1 79 (g.1 60 18).toNatClampNeg)) < 0 ∨ 49 ≤ ((7 * p1) + (g.1 79 (g.1 60 18).toNatClampNeg)).toNatClampNeg)) (
      some (g.1 95 ((7 * p1) + (g.1 79 (g.1 60 18).toNatClampNeg)).toNatClampNeg)))
set_option maxRecDepth 20000 in
theorem c_X12_farFrom_60 {S : List xSh} (hS : xpf SH2 S) {g : xG} {p1 : Int32} (out : Int32) (H : f_X12_farFrom_60 p1 g = some out) : xC mX12_farFrom 0 0 0 0 S [.ref 60, .int p1] g S (fun r g' => r = some (.int out) ∧ g' = g) := by
  have H : (xg (¬ ((g.1 60 18) < 0 ∨ 2 ≤ (g.1 60 18).toNatClampNeg)) (
  xg (¬ (((7 * p1) + (g.1 79 (g.1 60 18).toNatClampNeg)) < 0 ∨ 49 ≤ ((7 * p1) + (g.1 79 (g.1 60 18).toNatClampNeg)).toNatClampNeg)) (
    some (g.1 95 ((7 * p1) + (g.1 79 (g.1 60 18).toNatClampNeg)).toNatClampNeg)))) = some out := H
  refine xC.of 12 SH2 [some (.ref 60), some (.int p1)] hS (by decide +kernel) rfl (fun _ _ => Nat.le_of_ble_eq_true rfl) (fun _ _ => rfl) ?_
  intro k A hR hrm hz
  refine xb A [(.aload_n 0, 1, 0, 0, .null), (.getfield 122, 3, 60, 54, .ref 95), (.bipush 7, 2, 0, 0, .int 7), (.iload_n 1, 1, 0, 0, .null), (.imul, 1, 0, 0, .null), (.aload_n 0, 1, 0, 0, .null), (.getfield 73, 3, 60, 32, .ref 79), (.aload_n 0, 1, 0, 0, .null), (.getfield 227, 3, 60, 18, .int 0)] (pc' := 16) (ls' := [some (.ref 60), some (.int p1)]) (st' := [.int (g.1 60 18), .ref 79, .int (7 * p1), .ref 95]) (g' := g) (by decide +kernel) rfl ?_
  obtain ⟨h1, H⟩ := xg_elim H
  refine xiald A (nxt := 17) (by decide +kernel) (hS _ _ sh_79) h1 ?_
  show xW k S 0 0 17 [some (.ref 60), some (.int p1)] [.int (g.1 79 (g.1 60 18).toNatClampNeg), .int (7 * p1), .ref 95] g
  refine xb A [(.iadd, 1, 0, 0, .null)] (pc' := 18) (ls' := [some (.ref 60), some (.int p1)]) (st' := [.int ((7 * p1) + (g.1 79 (g.1 60 18).toNatClampNeg)), .ref 95]) (g' := g) (by decide +kernel) rfl ?_
  obtain ⟨h2, H⟩ := xg_elim H
  refine xiald A (nxt := 19) (by decide +kernel) (hS _ _ sh_95) h2 ?_
  show xW k S 0 0 19 [some (.ref 60), some (.int p1)] [.int (g.1 95 ((7 * p1) + (g.1 79 (g.1 60 18).toNatClampNeg)).toNatClampNeg)] g
  obtain rfl := Option.some.inj H
  exact xret_i A hR hz (by decide +kernel) rfl ⟨rfl, rfl⟩
def f_X12_whoAt_60_4  (g : xG) : Nat → Int32 → Int32 → Int32 → Option (Int32)
  | 0, _, _, _ => none
  | n + 1, l1, l2, l3 =>
    xg (¬ ((g.1 60 18) < 0 ∨ 2 ≤ (g.1 60 18).toNatClampNeg)) (
      if (g.1 75 (g.1 60 18).toNatClampNeg) ≤ l3 then
        some l2
      else
        xg (¬ (l3 < 0 ∨ 40 ≤ l3.toNatClampNeg)) (
          if (g.1 94 l3.toNatClampNeg) = l1 then
            f_X12_whoAt_60_4 g n l1 (l2 ||| (1 <<< (l3 &&& 31))) (l3 + 1)
          else
            f_X12_whoAt_60_4 g n l1 l2 (l3 + 1)))
def f_X12_whoAt_60 (p1 : Int32) (g : xG) : Option (Int32) :=
  f_X12_whoAt_60_4 g xN p1 0 0
set_option maxRecDepth 20000 in
theorem t_X12_whoAt_60_4 {k : xK} {S : List xSh} {g : xG} {out : Int32} (hS : xpf SH2 S) (A : xAt k mX12_whoAt.2.1 12 SH2 S) (hR : xRet k 0 0 S (fun r g' => r = some (.int out) ∧ g' = g) mX12_whoAt.2.2.2) (hrm : xrm k = { frames := 0, cells := 0, slots := 0, locals := 0 }) (hz : xhs k = xb0 k + S.length)   : ∀ (n : Nat) (l1 : Int32) (l2 : Int32) (l3 : Int32), f_X12_whoAt_60_4 g n l1 l2 l3 = some out → xW k S 0 0 4 [some (.ref 60), some (.int l1), some (.int l2), some (.int l3)] [] g := by
  intro n
  induction n with
  | zero => intro l1 l2 l3 H; exact absurd H (by simp [f_X12_whoAt_60_4])
  | succ n ih =>
    intro l1 l2 l3 H
    have H : (xg (¬ ((g.1 60 18) < 0 ∨ 2 ≤ (g.1 60 18).toNatClampNeg)) (
  if (g.1 75 (g.1 60 18).toNatClampNeg) ≤ l3 then
    some l2
  else
    xg (¬ (l3 < 0 ∨ 40 ≤ l3.toNatClampNeg)) (
      if (g.1 94 l3.toNatClampNeg) = l1 then
        f_X12_whoAt_60_4 g n l1 (l2 ||| (1 <<< (l3 &&& 31))) (l3 + 1)
      else
        f_X12_whoAt_60_4 g n l1 l2 (l3 + 1)))) = some out := H
    refine xb A [(.iload_n 3, 1, 0, 0, .null), (.aload_n 0, 1, 0, 0, .null), (.getfield 61, 3, 60, 28, .ref 75), (.aload_n 0, 1, 0, 0, .null), (.getfield 227, 3, 60, 18, .int 0)] (pc' := 13) (ls' := [some (.ref 60), some (.int l1), some (.int l2), some (.int l3)]) (st' := [.int (g.1 60 18), .ref 75, .int l3]) (g' := g) (by decide +kernel) rfl ?_
    obtain ⟨h1, H⟩ := xg_elim H
    refine xiald A (nxt := 14) (by decide +kernel) (hS _ _ sh_75) h1 ?_
    show xW k S 0 0 14 [some (.ref 60), some (.int l1), some (.int l2), some (.int l3)] [.int (g.1 75 (g.1 60 18).toNatClampNeg), .int l3] g
    refine xic_ge A (25) 39 17 (by decide +kernel) (fun h2 => ?_) (fun h2 => ?_)
    · rw [if_pos h2] at H
      refine xb A [(.iload_n 2, 1, 0, 0, .null)] (pc' := 40) (ls' := [some (.ref 60), some (.int l1), some (.int l2), some (.int l3)]) (st' := [.int l2]) (g' := g) (by decide +kernel) rfl ?_
      obtain rfl := Option.some.inj H
      exact xret_i A hR hz (by decide +kernel) rfl ⟨rfl, rfl⟩
    · rw [if_neg h2] at H
      refine xb A [(.aload_n 0, 1, 0, 0, .null), (.getfield 119, 3, 60, 51, .ref 94), (.iload_n 3, 1, 0, 0, .null)] (pc' := 22) (ls' := [some (.ref 60), some (.int l1), some (.int l2), some (.int l3)]) (st' := [.int l3, .ref 94]) (g' := g) (by decide +kernel) rfl ?_
      obtain ⟨h3, H⟩ := xg_elim H
      refine xiald A (nxt := 23) (by decide +kernel) (hS _ _ sh_94) h3 ?_
      show xW k S 0 0 23 [some (.ref 60), some (.int l1), some (.int l2), some (.int l3)] [.int (g.1 94 l3.toNatClampNeg)] g
      refine xb A [(.iload_n 1, 1, 0, 0, .null)] (pc' := 24) (ls' := [some (.ref 60), some (.int l1), some (.int l2), some (.int l3)]) (st' := [.int l1, .int (g.1 94 l3.toNatClampNeg)]) (g' := g) (by decide +kernel) rfl ?_
      refine xic_ne A (9) 33 27 (by decide +kernel) (fun h4 => ?_) (fun h4 => ?_)
      · rw [if_neg h4] at H
        refine xb A [(.iinc 3 1, 3, 0, 0, .null)] (pc' := 36) (ls' := [some (.ref 60), some (.int l1), some (.int l2), some (.int (l3 + 1))]) (st' := []) (g' := g) (by decide +kernel) rfl ?_
        refine xgoto A (-32) 4 (by decide +kernel) ?_
        exact ih _ _ _ H
      · rw [if_pos h4] at H
        refine xb A [(.iload_n 2, 1, 0, 0, .null), (.iconst 1, 1, 0, 0, .int 1), (.iload_n 3, 1, 0, 0, .null), (.ishl, 1, 0, 0, .null), (.ior, 1, 0, 0, .null), (.istore_n 2, 1, 0, 0, .null), (.iinc 3 1, 3, 0, 0, .null)] (pc' := 36) (ls' := [some (.ref 60), some (.int l1), some (.int (l2 ||| (1 <<< (l3 &&& 31)))), some (.int (l3 + 1))]) (st' := []) (g' := g) (by decide +kernel) rfl ?_
        refine xgoto A (-32) 4 (by decide +kernel) ?_
        exact ih _ _ _ H
set_option maxRecDepth 20000 in
theorem c_X12_whoAt_60 {S : List xSh} (hS : xpf SH2 S) {g : xG} {p1 : Int32} (out : Int32) (H : f_X12_whoAt_60 p1 g = some out) : xC mX12_whoAt 0 0 0 0 S [.ref 60, .int p1] g S (fun r g' => r = some (.int out) ∧ g' = g) := by
  have H : (f_X12_whoAt_60_4 g xN p1 0 0) = some out := H
  refine xC.of 12 SH2 [some (.ref 60), some (.int p1), none, none] hS (by decide +kernel) rfl (fun _ _ => Nat.le_of_ble_eq_true rfl) (fun _ _ => rfl) ?_
  intro k A hR hrm hz
  refine xb A [(.iconst 0, 1, 0, 0, .int 0), (.istore_n 2, 1, 0, 0, .null), (.iconst 0, 1, 0, 0, .int 0), (.istore_n 3, 1, 0, 0, .null)] (pc' := 4) (ls' := [some (.ref 60), some (.int p1), some (.int 0), some (.int 0)]) (st' := []) (g' := g) (by decide +kernel) rfl ?_
  exact t_X12_whoAt_60_4 hS A hR hrm hz _ _ _ _ H
def f_X12_isOpen_60 (p1 : Int32) (g : xG) : Option (Int32) :=
  xg (¬ ((36 : Int32) < 0 ∨ 40 ≤ (36 : Int32).toNatClampNeg)) (
    if (((g.1 94 (36 : Int32).toNatClampNeg) >>> (p1 &&& 31)) &&& 1) = 0 then
      some 1
    else
      some 0)
set_option maxRecDepth 20000 in
theorem c_X12_isOpen_60 {S : List xSh} (hS : xpf SH2 S) {g : xG} {p1 : Int32} (out : Int32) (H : f_X12_isOpen_60 p1 g = some out) : xC mX12_isOpen 0 0 0 0 S [.ref 60, .int p1] g S (fun r g' => r = some (.int out) ∧ g' = g) := by
  have H : (xg (¬ ((36 : Int32) < 0 ∨ 40 ≤ (36 : Int32).toNatClampNeg)) (
  if (((g.1 94 (36 : Int32).toNatClampNeg) >>> (p1 &&& 31)) &&& 1) = 0 then
    some 1
  else
    some 0)) = some out := H
  refine xC.of 12 SH2 [some (.ref 60), some (.int p1)] hS (by decide +kernel) rfl (fun _ _ => Nat.le_of_ble_eq_true rfl) (fun _ _ => rfl) ?_
  intro k A hR hrm hz
  refine xb A [(.aload_n 0, 1, 0, 0, .null), (.getfield 119, 3, 60, 51, .ref 94), (.bipush 36, 2, 0, 0, .int 36)] (pc' := 6) (ls' := [some (.ref 60), some (.int p1)]) (st' := [.int 36, .ref 94]) (g' := g) (by decide +kernel) rfl ?_
  obtain ⟨h1, H⟩ := xg_elim H
  refine xiald A (nxt := 7) (by decide +kernel) (hS _ _ sh_94) h1 ?_
  show xW k S 0 0 7 [some (.ref 60), some (.int p1)] [.int (g.1 94 (36 : Int32).toNatClampNeg)] g
  refine xb A [(.iload_n 1, 1, 0, 0, .null), (.ishr, 1, 0, 0, .null), (.iconst 1, 1, 0, 0, .int 1), (.iand, 1, 0, 0, .null)] (pc' := 11) (ls' := [some (.ref 60), some (.int p1)]) (st' := [.int (((g.1 94 (36 : Int32).toNatClampNeg) >>> (p1 &&& 31)) &&& 1)]) (g' := g) (by decide +kernel) rfl ?_
  refine xif_ne A (7) 18 14 (by decide +kernel) (fun h2 => ?_) (fun h2 => ?_)
  · rw [if_neg h2] at H
    refine xb A [(.iconst 0, 1, 0, 0, .int 0)] (pc' := 19) (ls' := [some (.ref 60), some (.int p1)]) (st' := [.int 0]) (g' := g) (by decide +kernel) rfl ?_
    obtain rfl := Option.some.inj H
    exact xret_i A hR hz (by decide +kernel) rfl ⟨rfl, rfl⟩
  · rw [if_pos h2] at H
    refine xb A [(.iconst 1, 1, 0, 0, .int 1)] (pc' := 15) (ls' := [some (.ref 60), some (.int p1)]) (st' := [.int 1]) (g' := g) (by decide +kernel) rfl ?_
    refine xgoto A (4) 19 (by decide +kernel) ?_
    obtain rfl := Option.some.inj H
    exact xret_i A hR hz (by decide +kernel) rfl ⟨rfl, rfl⟩
def f_X12_isEnd_60 (p1 : Int32) (p2 : Int32) (g : xG) : Option (Int32) :=
  xg (¬ (((10 * (g.1 60 18)) + p1) < 0 ∨ 20 ≤ ((10 * (g.1 60 18)) + p1).toNatClampNeg)) (
    if (g.1 72 ((10 * (g.1 60 18)) + p1).toNatClampNeg) = p2 then
      some 1
    else
      xg (¬ (((10 * (g.1 60 18)) + p1) < 0 ∨ 20 ≤ ((10 * (g.1 60 18)) + p1).toNatClampNeg)) (
        if (g.1 73 ((10 * (g.1 60 18)) + p1).toNatClampNeg) = p2 then
          some 1
        else
          some 0))
set_option maxRecDepth 20000 in
theorem c_X12_isEnd_60 {S : List xSh} (hS : xpf SH2 S) {g : xG} {p1 : Int32} {p2 : Int32} (out : Int32) (H : f_X12_isEnd_60 p1 p2 g = some out) : xC mX12_isEnd 0 0 0 0 S [.ref 60, .int p1, .int p2] g S (fun r g' => r = some (.int out) ∧ g' = g) := by
  have H : (xg (¬ (((10 * (g.1 60 18)) + p1) < 0 ∨ 20 ≤ ((10 * (g.1 60 18)) + p1).toNatClampNeg)) (
  if (g.1 72 ((10 * (g.1 60 18)) + p1).toNatClampNeg) = p2 then
    some 1
  else
    xg (¬ (((10 * (g.1 60 18)) + p1) < 0 ∨ 20 ≤ ((10 * (g.1 60 18)) + p1).toNatClampNeg)) (
      if (g.1 73 ((10 * (g.1 60 18)) + p1).toNatClampNeg) = p2 then
        some 1
      else
        some 0))) = some out := H
  refine xC.of 12 SH2 [some (.ref 60), some (.int p1), some (.int p2)] hS (by decide +kernel) rfl (fun _ _ => Nat.le_of_ble_eq_true rfl) (fun _ _ => rfl) ?_
  intro k A hR hrm hz
  refine xb A [(.aload_n 0, 1, 0, 0, .null), (.getfield 52, 3, 60, 25, .ref 72), (.bipush 10, 2, 0, 0, .int 10), (.aload_n 0, 1, 0, 0, .null), (.getfield 227, 3, 60, 18, .int 0), (.imul, 1, 0, 0, .null), (.iload_n 1, 1, 0, 0, .null), (.iadd, 1, 0, 0, .null)] (pc' := 13) (ls' := [some (.ref 60), some (.int p1), some (.int p2)]) (st' := [.int ((10 * (g.1 60 18)) + p1), .ref 72]) (g' := g) (by decide +kernel) rfl ?_
  obtain ⟨h1, H⟩ := xg_elim H
  refine xiald A (nxt := 14) (by decide +kernel) (hS _ _ sh_72) h1 ?_
  show xW k S 0 0 14 [some (.ref 60), some (.int p1), some (.int p2)] [.int (g.1 72 ((10 * (g.1 60 18)) + p1).toNatClampNeg)] g
  refine xb A [(.iload_n 2, 1, 0, 0, .null)] (pc' := 15) (ls' := [some (.ref 60), some (.int p1), some (.int p2)]) (st' := [.int p2, .int (g.1 72 ((10 * (g.1 60 18)) + p1).toNatClampNeg)]) (g' := g) (by decide +kernel) rfl ?_
  refine xic_eq A (21) 36 18 (by decide +kernel) (fun h2 => ?_) (fun h2 => ?_)
  · rw [if_pos h2] at H
    refine xb A [(.iconst 1, 1, 0, 0, .int 1)] (pc' := 37) (ls' := [some (.ref 60), some (.int p1), some (.int p2)]) (st' := [.int 1]) (g' := g) (by decide +kernel) rfl ?_
    refine xgoto A (4) 41 (by decide +kernel) ?_
    obtain rfl := Option.some.inj H
    exact xret_i A hR hz (by decide +kernel) rfl ⟨rfl, rfl⟩
  · rw [if_neg h2] at H
    refine xb A [(.aload_n 0, 1, 0, 0, .null), (.getfield 55, 3, 60, 26, .ref 73), (.bipush 10, 2, 0, 0, .int 10), (.aload_n 0, 1, 0, 0, .null), (.getfield 227, 3, 60, 18, .int 0), (.imul, 1, 0, 0, .null), (.iload_n 1, 1, 0, 0, .null), (.iadd, 1, 0, 0, .null)] (pc' := 31) (ls' := [some (.ref 60), some (.int p1), some (.int p2)]) (st' := [.int ((10 * (g.1 60 18)) + p1), .ref 73]) (g' := g) (by decide +kernel) rfl ?_
    obtain ⟨h3, H⟩ := xg_elim H
    refine xiald A (nxt := 32) (by decide +kernel) (hS _ _ sh_73) h3 ?_
    show xW k S 0 0 32 [some (.ref 60), some (.int p1), some (.int p2)] [.int (g.1 73 ((10 * (g.1 60 18)) + p1).toNatClampNeg)] g
    refine xb A [(.iload_n 2, 1, 0, 0, .null)] (pc' := 33) (ls' := [some (.ref 60), some (.int p1), some (.int p2)]) (st' := [.int p2, .int (g.1 73 ((10 * (g.1 60 18)) + p1).toNatClampNeg)]) (g' := g) (by decide +kernel) rfl ?_
    refine xic_ne A (7) 40 36 (by decide +kernel) (fun h4 => ?_) (fun h4 => ?_)
    · rw [if_neg h4] at H
      refine xb A [(.iconst 0, 1, 0, 0, .int 0)] (pc' := 41) (ls' := [some (.ref 60), some (.int p1), some (.int p2)]) (st' := [.int 0]) (g' := g) (by decide +kernel) rfl ?_
      obtain rfl := Option.some.inj H
      exact xret_i A hR hz (by decide +kernel) rfl ⟨rfl, rfl⟩
    · rw [if_pos h4] at H
      refine xb A [(.iconst 1, 1, 0, 0, .int 1)] (pc' := 37) (ls' := [some (.ref 60), some (.int p1), some (.int p2)]) (st' := [.int 1]) (g' := g) (by decide +kernel) rfl ?_
      refine xgoto A (4) 41 (by decide +kernel) ?_
      obtain rfl := Option.some.inj H
      exact xret_i A hR hz (by decide +kernel) rfl ⟨rfl, rfl⟩
def f_X12_roadBits_60_4  (g : xG) : Nat → Int32 → Int32 → Int32 → Option (Int32)
  | 0, _, _, _ => none
  | n + 1, l1, l2, l3 =>
    xg (¬ ((g.1 60 18) < 0 ∨ 2 ≤ (g.1 60 18).toNatClampNeg)) (
      if (g.1 71 (g.1 60 18).toNatClampNeg) ≤ l3 then
        some l2
      else
        (f_X12_isOpen_60 l3 g).bind fun w1 =>
        if w1 = 0 then
          f_X12_roadBits_60_4 g n l1 l2 (l3 + 1)
        else
          (f_X12_isEnd_60 l3 l1 g).bind fun w2 =>
          if w2 = 0 then
            f_X12_roadBits_60_4 g n l1 l2 (l3 + 1)
          else
            f_X12_roadBits_60_4 g n l1 (l2 ||| (1 <<< (l3 &&& 31))) (l3 + 1))
def f_X12_roadBits_60 (p1 : Int32) (g : xG) : Option (Int32) :=
  f_X12_roadBits_60_4 g xN p1 0 0
set_option maxRecDepth 20000 in
theorem t_X12_roadBits_60_4 {k : xK} {S : List xSh} {g : xG} {out : Int32} (hS : xpf SH2 S) (A : xAt k mX12_roadBits.2.1 12 SH2 S) (hR : xRet k 0 0 S (fun r g' => r = some (.int out) ∧ g' = g) mX12_roadBits.2.2.2) (hrm : xrm k = { frames := 1, cells := 0, slots := 0, locals := 22 }) (hz : xhs k = xb0 k + S.length)   : ∀ (n : Nat) (l1 : Int32) (l2 : Int32) (l3 : Int32), f_X12_roadBits_60_4 g n l1 l2 l3 = some out → xW k S 0 0 4 [some (.ref 60), some (.int l1), some (.int l2), some (.int l3)] [] g := by
  intro n
  induction n with
  | zero => intro l1 l2 l3 H; exact absurd H (by simp [f_X12_roadBits_60_4])
  | succ n ih =>
    intro l1 l2 l3 H
    have H : (xg (¬ ((g.1 60 18) < 0 ∨ 2 ≤ (g.1 60 18).toNatClampNeg)) (
  if (g.1 71 (g.1 60 18).toNatClampNeg) ≤ l3 then
    some l2
  else
    (f_X12_isOpen_60 l3 g).bind fun w1 =>
    if w1 = 0 then
      f_X12_roadBits_60_4 g n l1 l2 (l3 + 1)
    else
      (f_X12_isEnd_60 l3 l1 g).bind fun w2 =>
      if w2 = 0 then
        f_X12_roadBits_60_4 g n l1 l2 (l3 + 1)
      else
        f_X12_roadBits_60_4 g n l1 (l2 ||| (1 <<< (l3 &&& 31))) (l3 + 1))) = some out := H
    refine xb A [(.iload_n 3, 1, 0, 0, .null), (.aload_n 0, 1, 0, 0, .null), (.getfield 49, 3, 60, 24, .ref 71), (.aload_n 0, 1, 0, 0, .null), (.getfield 227, 3, 60, 18, .int 0)] (pc' := 13) (ls' := [some (.ref 60), some (.int l1), some (.int l2), some (.int l3)]) (st' := [.int (g.1 60 18), .ref 71, .int l3]) (g' := g) (by decide +kernel) rfl ?_
    obtain ⟨h1, H⟩ := xg_elim H
    refine xiald A (nxt := 14) (by decide +kernel) (hS _ _ sh_71) h1 ?_
    show xW k S 0 0 14 [some (.ref 60), some (.int l1), some (.int l2), some (.int l3)] [.int (g.1 71 (g.1 60 18).toNatClampNeg), .int l3] g
    refine xic_ge A (32) 46 17 (by decide +kernel) (fun h2 => ?_) (fun h2 => ?_)
    · rw [if_pos h2] at H
      refine xb A [(.iload_n 2, 1, 0, 0, .null)] (pc' := 47) (ls' := [some (.ref 60), some (.int l1), some (.int l2), some (.int l3)]) (st' := [.int l2]) (g' := g) (by decide +kernel) rfl ?_
      obtain rfl := Option.some.inj H
      exact xret_i A hR hz (by decide +kernel) rfl ⟨rfl, rfl⟩
    · rw [if_neg h2] at H
      refine xb A [(.aload_n 0, 1, 0, 0, .null), (.iload_n 3, 1, 0, 0, .null)] (pc' := 19) (ls' := [some (.ref 60), some (.int l1), some (.int l2), some (.int l3)]) (st' := [.int l3, .ref 60]) (g' := g) (by decide +kernel) rfl ?_
      obtain ⟨w1, e1, H⟩ := xbind H
      refine xcallV A (ix := 372) (nxt := 22) hrm hz [.int l3] [] 1711 (c_X12_isOpen_60 hS _ e1) ok_X12_isOpen (by decide +kernel) rfl (fun r g1 hq => ?_)
      rw [hq.1, hq.2]
      show xW k S 0 0 22 [some (.ref 60), some (.int l1), some (.int l2), some (.int l3)] [.int w1] g
      refine xif_eq A (18) 40 25 (by decide +kernel) (fun h3 => ?_) (fun h3 => ?_)
      · rw [if_pos h3] at H
        refine xb A [(.iinc 3 1, 3, 0, 0, .null)] (pc' := 43) (ls' := [some (.ref 60), some (.int l1), some (.int l2), some (.int (l3 + 1))]) (st' := []) (g' := g) (by decide +kernel) rfl ?_
        refine xgoto A (-39) 4 (by decide +kernel) ?_
        exact ih _ _ _ H
      · rw [if_neg h3] at H
        refine xb A [(.aload_n 0, 1, 0, 0, .null), (.iload_n 3, 1, 0, 0, .null), (.iload_n 1, 1, 0, 0, .null)] (pc' := 28) (ls' := [some (.ref 60), some (.int l1), some (.int l2), some (.int l3)]) (st' := [.int l1, .int l3, .ref 60]) (g' := g) (by decide +kernel) rfl ?_
        obtain ⟨w2, e2, H⟩ := xbind H
        refine xcallV A (ix := 375) (nxt := 31) hrm hz [.int l3, .int l1] [] 1715 (c_X12_isEnd_60 hS _ e2) ok_X12_isEnd (by decide +kernel) rfl (fun r g1 hq => ?_)
        rw [hq.1, hq.2]
        show xW k S 0 0 31 [some (.ref 60), some (.int l1), some (.int l2), some (.int l3)] [.int w2] g
        refine xif_eq A (9) 40 34 (by decide +kernel) (fun h4 => ?_) (fun h4 => ?_)
        · rw [if_pos h4] at H
          refine xb A [(.iinc 3 1, 3, 0, 0, .null)] (pc' := 43) (ls' := [some (.ref 60), some (.int l1), some (.int l2), some (.int (l3 + 1))]) (st' := []) (g' := g) (by decide +kernel) rfl ?_
          refine xgoto A (-39) 4 (by decide +kernel) ?_
          exact ih _ _ _ H
        · rw [if_neg h4] at H
          refine xb A [(.iload_n 2, 1, 0, 0, .null), (.iconst 1, 1, 0, 0, .int 1), (.iload_n 3, 1, 0, 0, .null), (.ishl, 1, 0, 0, .null), (.ior, 1, 0, 0, .null), (.istore_n 2, 1, 0, 0, .null), (.iinc 3 1, 3, 0, 0, .null)] (pc' := 43) (ls' := [some (.ref 60), some (.int l1), some (.int (l2 ||| (1 <<< (l3 &&& 31)))), some (.int (l3 + 1))]) (st' := []) (g' := g) (by decide +kernel) rfl ?_
          refine xgoto A (-39) 4 (by decide +kernel) ?_
          exact ih _ _ _ H
set_option maxRecDepth 20000 in
theorem c_X12_roadBits_60 {S : List xSh} (hS : xpf SH2 S) {g : xG} {p1 : Int32} (out : Int32) (H : f_X12_roadBits_60 p1 g = some out) : xC mX12_roadBits 1 22 0 0 S [.ref 60, .int p1] g S (fun r g' => r = some (.int out) ∧ g' = g) := by
  have H : (f_X12_roadBits_60_4 g xN p1 0 0) = some out := H
  refine xC.of 12 SH2 [some (.ref 60), some (.int p1), none, none] hS (by decide +kernel) rfl (fun _ _ => Nat.le_of_ble_eq_true rfl) (fun _ _ => rfl) ?_
  intro k A hR hrm hz
  refine xb A [(.iconst 0, 1, 0, 0, .int 0), (.istore_n 2, 1, 0, 0, .null), (.iconst 0, 1, 0, 0, .int 0), (.istore_n 3, 1, 0, 0, .null)] (pc' := 4) (ls' := [some (.ref 60), some (.int p1), some (.int 0), some (.int 0)]) (st' := []) (g' := g) (by decide +kernel) rfl ?_
  exact t_X12_roadBits_60_4 hS A hR hrm hz _ _ _ _ H
def f_X12_town_60 (p1 : Int32) (p2 : Int32) (g : xG) : Option (Int32 × xG) :=
  (f_X12_isTown_60 p1 g).bind fun w1 =>
  if w1 = 0 then
    some ((-1), g)
  else
    (f_X12_copies_60 g).bind fun w2 =>
    if p2 = 0 then
      xg (¬ ((w2.1 60 18) < 0 ∨ 2 ≤ (w2.1 60 18).toNatClampNeg)) (
        if (w2.1 79 (w2.1 60 18).toNatClampNeg) = p1 then
          some (1, w2)
        else
          some (0, w2))
    else
      if p2 = 1 then
        (f_X12_roadBits_60 p1 w2).bind fun w3 =>
        some (w3, w2)
      else
        if p2 = 2 then
          (f_X12_whoAt_60 p1 w2).bind fun w4 =>
          some (w4, w2)
        else
          if p2 = 3 then
            (f_X12_farFrom_60 p1 w2).bind fun w5 =>
            some (w5, w2)
          else
            some ((-1), w2)
set_option maxRecDepth 20000 in
theorem c_X12_town_60 {S : List xSh} (hS : xpf SH2 S) {g : xG} {p1 : Int32} {p2 : Int32} (out : Int32 × xG) (H : f_X12_town_60 p1 p2 g = some out) : xC mX12_town 2 45 0 0 S [.ref 60, .int p1, .int p2] g S (fun r g' => r = some (.int out.1) ∧ g' = out.2) := by
  have H : ((f_X12_isTown_60 p1 g).bind fun w1 =>
if w1 = 0 then
  some ((-1), g)
else
  (f_X12_copies_60 g).bind fun w2 =>
  if p2 = 0 then
    xg (¬ ((w2.1 60 18) < 0 ∨ 2 ≤ (w2.1 60 18).toNatClampNeg)) (
      if (w2.1 79 (w2.1 60 18).toNatClampNeg) = p1 then
        some (1, w2)
      else
        some (0, w2))
  else
    if p2 = 1 then
      (f_X12_roadBits_60 p1 w2).bind fun w3 =>
      some (w3, w2)
    else
      if p2 = 2 then
        (f_X12_whoAt_60 p1 w2).bind fun w4 =>
        some (w4, w2)
      else
        if p2 = 3 then
          (f_X12_farFrom_60 p1 w2).bind fun w5 =>
          some (w5, w2)
        else
          some ((-1), w2)) = some out := H
  refine xC.of 12 SH2 [some (.ref 60), some (.int p1), some (.int p2)] hS (by decide +kernel) rfl (fun _ _ => Nat.le_of_ble_eq_true rfl) (fun _ _ => rfl) ?_
  intro k A hR hrm hz
  refine xb A [(.aload_n 0, 1, 0, 0, .null), (.iload_n 1, 1, 0, 0, .null)] (pc' := 2) (ls' := [some (.ref 60), some (.int p1), some (.int p2)]) (st' := [.int p1, .ref 60]) (g' := g) (by decide +kernel) rfl ?_
  obtain ⟨w1, e1, H⟩ := xbind H
  refine xcallV A (ix := 413) (nxt := 5) hrm hz [.int p1] [] 1692 (c_X12_isTown_60 hS _ e1) ok_X12_isTown (by decide +kernel) rfl (fun r g1 hq => ?_)
  rw [hq.1, hq.2]
  show xW k S 0 0 5 [some (.ref 60), some (.int p1), some (.int p2)] [.int w1] g
  refine xif_ne A (5) 10 8 (by decide +kernel) (fun h1 => ?_) (fun h1 => ?_)
  · rw [if_neg h1] at H
    refine xb A [(.aload_n 0, 1, 0, 0, .null)] (pc' := 11) (ls' := [some (.ref 60), some (.int p1), some (.int p2)]) (st' := [.ref 60]) (g' := g) (by decide +kernel) rfl ?_
    obtain ⟨w2, e2, H⟩ := xbind H
    refine xcallV A (ix := 320) (nxt := 14) hrm hz [] [] 1699 (c_X12_copies_60 hS _ e2) ok_X12_copies (by decide +kernel) rfl (fun r g1 hq => ?_)
    rw [hq.1, hq.2]
    show xW k S 0 0 14 [some (.ref 60), some (.int p1), some (.int p2)] [] w2
    refine xb A [(.iload_n 2, 1, 0, 0, .null)] (pc' := 15) (ls' := [some (.ref 60), some (.int p1), some (.int p2)]) (st' := [.int p2]) (g' := w2) (by decide +kernel) rfl ?_
    by_cases h2 : p2 = 0
    · rw [if_pos h2] at H
      refine xtabIn A (dflt := 66) (lo := 0) (hi := 3) (off := 29) (offs := #[(29), (48), (54), (60)]) (len := 29) (tgt := 44) (0) (by rw [h2]; rfl) (by decide +kernel) ?_
      refine xb A [(.aload_n 0, 1, 0, 0, .null), (.getfield 73, 3, 60, 32, .ref 79), (.aload_n 0, 1, 0, 0, .null), (.getfield 227, 3, 60, 18, .int 0)] (pc' := 52) (ls' := [some (.ref 60), some (.int p1), some (.int p2)]) (st' := [.int (w2.1 60 18), .ref 79]) (g' := w2) (by decide +kernel) rfl ?_
      obtain ⟨h3, H⟩ := xg_elim H
      refine xiald A (nxt := 53) (by decide +kernel) (hS _ _ sh_79) h3 ?_
      show xW k S 0 0 53 [some (.ref 60), some (.int p1), some (.int p2)] [.int (w2.1 79 (w2.1 60 18).toNatClampNeg)] w2
      refine xb A [(.iload_n 1, 1, 0, 0, .null)] (pc' := 54) (ls' := [some (.ref 60), some (.int p1), some (.int p2)]) (st' := [.int p1, .int (w2.1 79 (w2.1 60 18).toNatClampNeg)]) (g' := w2) (by decide +kernel) rfl ?_
      refine xic_ne A (7) 61 57 (by decide +kernel) (fun h4 => ?_) (fun h4 => ?_)
      · rw [if_neg h4] at H
        refine xb A [(.iconst 0, 1, 0, 0, .int 0)] (pc' := 62) (ls' := [some (.ref 60), some (.int p1), some (.int p2)]) (st' := [.int 0]) (g' := w2) (by decide +kernel) rfl ?_
        obtain rfl := Option.some.inj H
        exact xret_i A hR hz (by decide +kernel) rfl ⟨rfl, rfl⟩
      · rw [if_pos h4] at H
        refine xb A [(.iconst 1, 1, 0, 0, .int 1)] (pc' := 58) (ls' := [some (.ref 60), some (.int p1), some (.int p2)]) (st' := [.int 1]) (g' := w2) (by decide +kernel) rfl ?_
        refine xgoto A (4) 62 (by decide +kernel) ?_
        obtain rfl := Option.some.inj H
        exact xret_i A hR hz (by decide +kernel) rfl ⟨rfl, rfl⟩
    · rw [if_neg h2] at H
      by_cases h5 : p2 = 1
      · rw [if_pos h5] at H
        refine xtabIn A (dflt := 66) (lo := 0) (hi := 3) (off := 48) (offs := #[(29), (48), (54), (60)]) (len := 29) (tgt := 63) (1) (by rw [h5]; rfl) (by decide +kernel) ?_
        refine xb A [(.aload_n 0, 1, 0, 0, .null), (.iload_n 1, 1, 0, 0, .null)] (pc' := 65) (ls' := [some (.ref 60), some (.int p1), some (.int p2)]) (st' := [.int p1, .ref 60]) (g' := w2) (by decide +kernel) rfl ?_
        obtain ⟨w3, e3, H⟩ := xbind H
        refine xcallV A (ix := 416) (nxt := 68) hrm hz [.int p1] [] 1707 (c_X12_roadBits_60 hS _ e3) ok_X12_roadBits (by decide +kernel) rfl (fun r g1 hq => ?_)
        rw [hq.1, hq.2]
        show xW k S 0 0 68 [some (.ref 60), some (.int p1), some (.int p2)] [.int w3] w2
        obtain rfl := Option.some.inj H
        exact xret_i A hR hz (by decide +kernel) rfl ⟨rfl, rfl⟩
      · rw [if_neg h5] at H
        by_cases h6 : p2 = 2
        · rw [if_pos h6] at H
          refine xtabIn A (dflt := 66) (lo := 0) (hi := 3) (off := 54) (offs := #[(29), (48), (54), (60)]) (len := 29) (tgt := 69) (2) (by rw [h6]; rfl) (by decide +kernel) ?_
          refine xb A [(.aload_n 0, 1, 0, 0, .null), (.iload_n 1, 1, 0, 0, .null)] (pc' := 71) (ls' := [some (.ref 60), some (.int p1), some (.int p2)]) (st' := [.int p1, .ref 60]) (g' := w2) (by decide +kernel) rfl ?_
          obtain ⟨w4, e4, H⟩ := xbind H
          refine xcallV A (ix := 419) (nxt := 74) hrm hz [.int p1] [] 1719 (c_X12_whoAt_60 hS _ e4) ok_X12_whoAt (by decide +kernel) rfl (fun r g1 hq => ?_)
          rw [hq.1, hq.2]
          show xW k S 0 0 74 [some (.ref 60), some (.int p1), some (.int p2)] [.int w4] w2
          obtain rfl := Option.some.inj H
          exact xret_i A hR hz (by decide +kernel) rfl ⟨rfl, rfl⟩
        · rw [if_neg h6] at H
          by_cases h7 : p2 = 3
          · rw [if_pos h7] at H
            refine xtabIn A (dflt := 66) (lo := 0) (hi := 3) (off := 60) (offs := #[(29), (48), (54), (60)]) (len := 29) (tgt := 75) (3) (by rw [h7]; rfl) (by decide +kernel) ?_
            refine xb A [(.aload_n 0, 1, 0, 0, .null), (.iload_n 1, 1, 0, 0, .null)] (pc' := 77) (ls' := [some (.ref 60), some (.int p1), some (.int p2)]) (st' := [.int p1, .ref 60]) (g' := w2) (by decide +kernel) rfl ?_
            obtain ⟨w5, e5, H⟩ := xbind H
            refine xcallV A (ix := 342) (nxt := 80) hrm hz [.int p1] [] 1723 (c_X12_farFrom_60 hS _ e5) ok_X12_farFrom (by decide +kernel) rfl (fun r g1 hq => ?_)
            rw [hq.1, hq.2]
            show xW k S 0 0 80 [some (.ref 60), some (.int p1), some (.int p2)] [.int w5] w2
            obtain rfl := Option.some.inj H
            exact xret_i A hR hz (by decide +kernel) rfl ⟨rfl, rfl⟩
          · rw [if_neg h7] at H
            refine xtabOut A (dflt := 66) (lo := 0) (hi := 3) (offs := #[(29), (48), (54), (60)]) (len := 29) (tgt := 81) (by decide +kernel) ?_ ?_
            · have e0 := lv_neT (a := 0) h2 rfl; have e1 := lv_neT (a := 1) h5 rfl; have e2 := lv_neT (a := 2) h6 rfl; have e3 := lv_neT (a := 3) h7 rfl; omega
            · skip
              refine xb A [(.iconst (-1), 1, 0, 0, .int (-1))] (pc' := 82) (ls' := [some (.ref 60), some (.int p1), some (.int p2)]) (st' := [.int (-1)]) (g' := w2) (by decide +kernel) rfl ?_
              obtain rfl := Option.some.inj H
              exact xret_i A hR hz (by decide +kernel) rfl ⟨rfl, rfl⟩
  · rw [if_pos h1] at H
    refine xb A [(.iconst (-1), 1, 0, 0, .int (-1))] (pc' := 9) (ls' := [some (.ref 60), some (.int p1), some (.int p2)]) (st' := [.int (-1)]) (g' := g) (by decide +kernel) rfl ?_
    obtain rfl := Option.some.inj H
    exact xret_i A hR hz (by decide +kernel) rfl ⟨rfl, rfl⟩
