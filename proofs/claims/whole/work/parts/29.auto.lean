/-! methods, walked by program -/
def fp_X12_token_60 : List (Nat × Option Nat) := [(60, some 10), (63, none), (64, none), (65, none), (66, none)]
def f_X12_token_60 (p1 : Int32) (p2 : Int32) (p3 : Int32) (p4 : Int64) (g : xG) : Option (xG) :=
  xg (¬ ((g.1 60 10) < 0 ∨ 403 ≤ (g.1 60 10).toNatClampNeg)) (
    xg (¬ ((g.1 60 10) < 0 ∨ 403 ≤ (g.1 60 10).toNatClampNeg)) (
      xg (¬ ((g.1 60 10) < 0 ∨ 403 ≤ (g.1 60 10).toNatClampNeg)) (
        xg (¬ ((g.1 60 10) < 0 ∨ 403 ≤ (g.1 60 10).toNatClampNeg)) (
          some (xupd (xupd (xupd (xupd g.1 63 (g.1 60 10).toNatClampNeg p1) 64 (g.1 60 10).toNatClampNeg p2) 65 (g.1 60 10).toNatClampNeg p3) 60 10 ((g.1 60 10) + 1), xupdL g.2 66 (g.1 60 10).toNatClampNeg p4)))))
set_option maxRecDepth 20000 in
theorem c_X12_token_60 {S : List xSh} (hS : xpf SH2 S) {g : xG} {p1 : Int32} {p2 : Int32} {p3 : Int32} {p4 : Int64} (out : xG) (H : f_X12_token_60 p1 p2 p3 p4 g = some out) : xC mX12_token 0 0 0 0 S [.ref 60, .int p1, .int p2, .int p3, .long p4] g S (fun r g' => r = none ∧ g' = out) := by
  have H : (xg (¬ ((g.1 60 10) < 0 ∨ 403 ≤ (g.1 60 10).toNatClampNeg)) (
  xg (¬ ((g.1 60 10) < 0 ∨ 403 ≤ (g.1 60 10).toNatClampNeg)) (
    xg (¬ ((g.1 60 10) < 0 ∨ 403 ≤ (g.1 60 10).toNatClampNeg)) (
      xg (¬ ((g.1 60 10) < 0 ∨ 403 ≤ (g.1 60 10).toNatClampNeg)) (
        some (xupd (xupd (xupd (xupd g.1 63 (g.1 60 10).toNatClampNeg p1) 64 (g.1 60 10).toNatClampNeg p2) 65 (g.1 60 10).toNatClampNeg p3) 60 10 ((g.1 60 10) + 1), xupdL g.2 66 (g.1 60 10).toNatClampNeg p4)))))) = some out := H
  refine xC.of 12 SH2 [some (.ref 60), some (.int p1), some (.int p2), some (.int p3), some (.long p4), none] hS (by decide +kernel) rfl (fun _ _ => Nat.le_of_ble_eq_true rfl) (fun _ _ => rfl) ?_
  intro k A hR hrm hz
  refine xb A [(.aload_n 0, 1, 0, 0, .null), (.getfield 20, 3, 60, 5, .ref 63), (.aload_n 0, 1, 0, 0, .null), (.getfield 175, 3, 60, 10, .int 0), (.iload_n 1, 1, 0, 0, .null)] (pc' := 9) (ls' := [some (.ref 60), some (.int p1), some (.int p2), some (.int p3), some (.long p4), none]) (st' := [.int p1, .int (g.1 60 10), .ref 63]) (g' := g) (by decide +kernel) rfl ?_
  obtain ⟨h1, H⟩ := xg_elim H
  refine xiast A (nxt := 10) (by decide +kernel) (hS _ _ sh_63) h1 ?_
  show xW k S 0 0 10 [some (.ref 60), some (.int p1), some (.int p2), some (.int p3), some (.long p4), none] [] (xupd g.1 63 (g.1 60 10).toNatClampNeg p1, g.2)
  refine xb A [(.aload_n 0, 1, 0, 0, .null), (.getfield 24, 3, 60, 6, .ref 64), (.aload_n 0, 1, 0, 0, .null), (.getfield 175, 3, 60, 10, .int 0), (.iload_n 2, 1, 0, 0, .null)] (pc' := 19) (ls' := [some (.ref 60), some (.int p1), some (.int p2), some (.int p3), some (.long p4), none]) (st' := [.int p2, .int (g.1 60 10), .ref 64]) (g' := (xupd g.1 63 (g.1 60 10).toNatClampNeg p1, g.2)) (by decide +kernel) rfl ?_
  obtain ⟨h2, H⟩ := xg_elim H
  refine xiast A (nxt := 20) (by decide +kernel) (hS _ _ sh_64) h2 ?_
  show xW k S 0 0 20 [some (.ref 60), some (.int p1), some (.int p2), some (.int p3), some (.long p4), none] [] (xupd (xupd g.1 63 (g.1 60 10).toNatClampNeg p1) 64 (g.1 60 10).toNatClampNeg p2, g.2)
  refine xb A [(.aload_n 0, 1, 0, 0, .null), (.getfield 27, 3, 60, 7, .ref 65), (.aload_n 0, 1, 0, 0, .null), (.getfield 175, 3, 60, 10, .int 0), (.iload_n 3, 1, 0, 0, .null)] (pc' := 29) (ls' := [some (.ref 60), some (.int p1), some (.int p2), some (.int p3), some (.long p4), none]) (st' := [.int p3, .int (g.1 60 10), .ref 65]) (g' := (xupd (xupd g.1 63 (g.1 60 10).toNatClampNeg p1) 64 (g.1 60 10).toNatClampNeg p2, g.2)) (by decide +kernel) rfl ?_
  obtain ⟨h3, H⟩ := xg_elim H
  refine xiast A (nxt := 30) (by decide +kernel) (hS _ _ sh_65) h3 ?_
  show xW k S 0 0 30 [some (.ref 60), some (.int p1), some (.int p2), some (.int p3), some (.long p4), none] [] (xupd (xupd (xupd g.1 63 (g.1 60 10).toNatClampNeg p1) 64 (g.1 60 10).toNatClampNeg p2) 65 (g.1 60 10).toNatClampNeg p3, g.2)
  refine xb A [(.aload_n 0, 1, 0, 0, .null), (.getfield 30, 3, 60, 8, .ref 66), (.aload_n 0, 1, 0, 0, .null), (.getfield 175, 3, 60, 10, .int 0), (.lload 4, 2, 0, 0, .null)] (pc' := 40) (ls' := [some (.ref 60), some (.int p1), some (.int p2), some (.int p3), some (.long p4), none]) (st' := [.long p4, .int (g.1 60 10), .ref 66]) (g' := (xupd (xupd (xupd g.1 63 (g.1 60 10).toNatClampNeg p1) 64 (g.1 60 10).toNatClampNeg p2) 65 (g.1 60 10).toNatClampNeg p3, g.2)) (by decide +kernel) rfl ?_
  obtain ⟨h4, H⟩ := xg_elim H
  refine xlast A (nxt := 41) (by decide +kernel) (hS _ _ sh_66) h4 ?_
  show xW k S 0 0 41 [some (.ref 60), some (.int p1), some (.int p2), some (.int p3), some (.long p4), none] [] (xupd (xupd (xupd g.1 63 (g.1 60 10).toNatClampNeg p1) 64 (g.1 60 10).toNatClampNeg p2) 65 (g.1 60 10).toNatClampNeg p3, xupdL g.2 66 (g.1 60 10).toNatClampNeg p4)
  refine xb A [(.aload_n 0, 1, 0, 0, .null), (.dup, 1, 0, 0, .null), (.getfield 175, 3, 60, 10, .int 0), (.iconst 1, 1, 0, 0, .int 1), (.iadd, 1, 0, 0, .null), (.putfield 175, 3, 60, 10, .int 0)] (pc' := 51) (ls' := [some (.ref 60), some (.int p1), some (.int p2), some (.int p3), some (.long p4), none]) (st' := []) (g' := (xupd (xupd (xupd (xupd g.1 63 (g.1 60 10).toNatClampNeg p1) 64 (g.1 60 10).toNatClampNeg p2) 65 (g.1 60 10).toNatClampNeg p3) 60 10 ((g.1 60 10) + 1), xupdL g.2 66 (g.1 60 10).toNatClampNeg p4)) (by decide +kernel) rfl ?_
  obtain rfl := Option.some.inj H
  exact xret_v A hR hz (by decide +kernel) ⟨rfl, rfl⟩
theorem fr_X12_token_60 {p1 : Int32} {p2 : Int32} {p3 : Int32} {p4 : Int64} {g : xG} (out : xG) (H : f_X12_token_60 p1 p2 p3 p4 g = some out) : xfrm fp_X12_token_60 g (out) := by
  have H : (xg (¬ ((g.1 60 10) < 0 ∨ 403 ≤ (g.1 60 10).toNatClampNeg)) (
  xg (¬ ((g.1 60 10) < 0 ∨ 403 ≤ (g.1 60 10).toNatClampNeg)) (
    xg (¬ ((g.1 60 10) < 0 ∨ 403 ≤ (g.1 60 10).toNatClampNeg)) (
      xg (¬ ((g.1 60 10) < 0 ∨ 403 ≤ (g.1 60 10).toNatClampNeg)) (
        some (xupd (xupd (xupd (xupd g.1 63 (g.1 60 10).toNatClampNeg p1) 64 (g.1 60 10).toNatClampNeg p2) 65 (g.1 60 10).toNatClampNeg p3) 60 10 ((g.1 60 10) + 1), xupdL g.2 66 (g.1 60 10).toNatClampNeg p4)))))) = some out := H
  obtain ⟨h1, H⟩ := xg_elim H
  have hf1 : xfrm fp_X12_token_60 g ((xupd g.1 63 (g.1 60 10).toNatClampNeg p1, g.2)) := xfrm.ua xfrm.rf rfl
  obtain ⟨h2, H⟩ := xg_elim H
  have hf2 : xfrm fp_X12_token_60 g ((xupd (xupd g.1 63 (g.1 60 10).toNatClampNeg p1) 64 (g.1 60 10).toNatClampNeg p2, g.2)) := xfrm.ua hf1 rfl
  obtain ⟨h3, H⟩ := xg_elim H
  have hf3 : xfrm fp_X12_token_60 g ((xupd (xupd (xupd g.1 63 (g.1 60 10).toNatClampNeg p1) 64 (g.1 60 10).toNatClampNeg p2) 65 (g.1 60 10).toNatClampNeg p3, g.2)) := xfrm.ua hf2 rfl
  obtain ⟨h4, H⟩ := xg_elim H
  have hf4 : xfrm fp_X12_token_60 g ((xupd (xupd (xupd g.1 63 (g.1 60 10).toNatClampNeg p1) 64 (g.1 60 10).toNatClampNeg p2) 65 (g.1 60 10).toNatClampNeg p3, xupdL g.2 66 (g.1 60 10).toNatClampNeg p4)) := xfrm.ul hf3 rfl
  have hf5 : xfrm fp_X12_token_60 g ((xupd (xupd (xupd (xupd g.1 63 (g.1 60 10).toNatClampNeg p1) 64 (g.1 60 10).toNatClampNeg p2) 65 (g.1 60 10).toNatClampNeg p3) 60 10 ((g.1 60 10) + 1), xupdL g.2 66 (g.1 60 10).toNatClampNeg p4)) := xfrm.up hf4 rfl
  obtain rfl := Option.some.inj H
  exact hf5
def f_X12_isLetter (p0 : Int32) : Int32 :=
  if p0 < 97 then
    0
  else
    if 122 < p0 then
      0
    else
      1
set_option maxRecDepth 20000 in
theorem c_X12_isLetter {S : List xSh} (hS : xpf SH2 S) {g : xG} {p0 : Int32} (out : Int32) (H : f_X12_isLetter p0 = out) : xC mX12_isLetter 0 0 0 0 S [.int p0] g S (fun r g' => r = some (.int out) ∧ g' = g) := by
  have H : (if p0 < 97 then
  0
else
  if 122 < p0 then
    0
  else
    1) = out := H
  refine xC.of 12 SH2 [some (.int p0)] hS (by decide +kernel) rfl (fun _ _ => Nat.le_of_ble_eq_true rfl) (fun _ _ => rfl) ?_
  intro k A hR hrm hz
  refine xb A [(.iload_n 0, 1, 0, 0, .null), (.bipush 97, 2, 0, 0, .int 97)] (pc' := 3) (ls' := [some (.int p0)]) (st' := [.int 97, .int p0]) (g' := g) (by decide +kernel) rfl ?_
  refine xic_lt A (13) 16 6 (by decide +kernel) (fun h1 => ?_) (fun h1 => ?_)
  · rw [if_pos h1] at H
    refine xb A [(.iconst 0, 1, 0, 0, .int 0)] (pc' := 17) (ls' := [some (.int p0)]) (st' := [.int 0]) (g' := g) (by decide +kernel) rfl ?_
    subst H
    exact xret_i A hR hz (by decide +kernel) rfl ⟨rfl, rfl⟩
  · rw [if_neg h1] at H
    refine xb A [(.iload_n 0, 1, 0, 0, .null), (.bipush 122, 2, 0, 0, .int 122)] (pc' := 9) (ls' := [some (.int p0)]) (st' := [.int 122, .int p0]) (g' := g) (by decide +kernel) rfl ?_
    refine xic_gt A (7) 16 12 (by decide +kernel) (fun h2 => ?_) (fun h2 => ?_)
    · rw [if_pos h2] at H
      refine xb A [(.iconst 0, 1, 0, 0, .int 0)] (pc' := 17) (ls' := [some (.int p0)]) (st' := [.int 0]) (g' := g) (by decide +kernel) rfl ?_
      subst H
      exact xret_i A hR hz (by decide +kernel) rfl ⟨rfl, rfl⟩
    · rw [if_neg h2] at H
      refine xb A [(.iconst 1, 1, 0, 0, .int 1)] (pc' := 13) (ls' := [some (.int p0)]) (st' := [.int 1]) (g' := g) (by decide +kernel) rfl ?_
      refine xgoto A (4) 17 (by decide +kernel) ?_
      subst H
      exact xret_i A hR hz (by decide +kernel) rfl ⟨rfl, rfl⟩
def f_X12_appends (p0 : Int64) (p2 : Int32) : Int64 :=
  if p2 = 0 then
    p0
  else
    (27 * p0) + (((p2 - 97) + 1).toInt64)
set_option maxRecDepth 20000 in
theorem c_X12_appends {S : List xSh} (hS : xpf SH2 S) {g : xG} {p0 : Int64} {p2 : Int32} (out : Int64) (H : f_X12_appends p0 p2 = out) : xC mX12_appends 0 0 0 0 S [.long p0, .int p2] g S (fun r g' => r = some (.long out) ∧ g' = g) := by
  have H : (if p2 = 0 then
  p0
else
  (27 * p0) + (((p2 - 97) + 1).toInt64)) = out := H
  refine xC.of 12 SH2 [some (.long p0), none, some (.int p2)] hS (by decide +kernel) rfl (fun _ _ => Nat.le_of_ble_eq_true rfl) (fun _ _ => rfl) ?_
  intro k A hR hrm hz
  refine xb A [(.iload_n 2, 1, 0, 0, .null)] (pc' := 1) (ls' := [some (.long p0), none, some (.int p2)]) (st' := [.int p2]) (g' := g) (by decide +kernel) rfl ?_
  refine xif_ne A (7) 8 4 (by decide +kernel) (fun h1 => ?_) (fun h1 => ?_)
  · rw [if_neg h1] at H
    refine xb A [(.ldc2_w 169, 3, 0, 0, .long 27), (.lload_n 0, 1, 0, 0, .null), (.lmul, 1, 0, 0, .null), (.iload_n 2, 1, 0, 0, .null), (.bipush 97, 2, 0, 0, .int 97), (.isub, 1, 0, 0, .null), (.iconst 1, 1, 0, 0, .int 1), (.iadd, 1, 0, 0, .null), (.i2l, 1, 0, 0, .null), (.ladd, 1, 0, 0, .null)] (pc' := 21) (ls' := [some (.long p0), none, some (.int p2)]) (st' := [.long ((27 * p0) + (((p2 - 97) + 1).toInt64))]) (g' := g) (by decide +kernel) rfl ?_
    subst H
    exact xret_l A hR hz (by decide +kernel) ⟨rfl, rfl⟩
  · rw [if_pos h1] at H
    refine xb A [(.lload_n 0, 1, 0, 0, .null)] (pc' := 5) (ls' := [some (.long p0), none, some (.int p2)]) (st' := [.long p0]) (g' := g) (by decide +kernel) rfl ?_
    refine xgoto A (16) 21 (by decide +kernel) ?_
    subst H
    exact xret_l A hR hz (by decide +kernel) ⟨rfl, rfl⟩
def f_X12_isDigit (p0 : Int32) : Int32 :=
  if p0 < 48 then
    0
  else
    if 57 < p0 then
      0
    else
      1
set_option maxRecDepth 20000 in
theorem c_X12_isDigit {S : List xSh} (hS : xpf SH2 S) {g : xG} {p0 : Int32} (out : Int32) (H : f_X12_isDigit p0 = out) : xC mX12_isDigit 0 0 0 0 S [.int p0] g S (fun r g' => r = some (.int out) ∧ g' = g) := by
  have H : (if p0 < 48 then
  0
else
  if 57 < p0 then
    0
  else
    1) = out := H
  refine xC.of 12 SH2 [some (.int p0)] hS (by decide +kernel) rfl (fun _ _ => Nat.le_of_ble_eq_true rfl) (fun _ _ => rfl) ?_
  intro k A hR hrm hz
  refine xb A [(.iload_n 0, 1, 0, 0, .null), (.bipush 48, 2, 0, 0, .int 48)] (pc' := 3) (ls' := [some (.int p0)]) (st' := [.int 48, .int p0]) (g' := g) (by decide +kernel) rfl ?_
  refine xic_lt A (13) 16 6 (by decide +kernel) (fun h1 => ?_) (fun h1 => ?_)
  · rw [if_pos h1] at H
    refine xb A [(.iconst 0, 1, 0, 0, .int 0)] (pc' := 17) (ls' := [some (.int p0)]) (st' := [.int 0]) (g' := g) (by decide +kernel) rfl ?_
    subst H
    exact xret_i A hR hz (by decide +kernel) rfl ⟨rfl, rfl⟩
  · rw [if_neg h1] at H
    refine xb A [(.iload_n 0, 1, 0, 0, .null), (.bipush 57, 2, 0, 0, .int 57)] (pc' := 9) (ls' := [some (.int p0)]) (st' := [.int 57, .int p0]) (g' := g) (by decide +kernel) rfl ?_
    refine xic_gt A (7) 16 12 (by decide +kernel) (fun h2 => ?_) (fun h2 => ?_)
    · rw [if_pos h2] at H
      refine xb A [(.iconst 0, 1, 0, 0, .int 0)] (pc' := 17) (ls' := [some (.int p0)]) (st' := [.int 0]) (g' := g) (by decide +kernel) rfl ?_
      subst H
      exact xret_i A hR hz (by decide +kernel) rfl ⟨rfl, rfl⟩
    · rw [if_neg h2] at H
      refine xb A [(.iconst 1, 1, 0, 0, .int 1)] (pc' := 13) (ls' := [some (.int p0)]) (st' := [.int 1]) (g' := g) (by decide +kernel) rfl ?_
      refine xgoto A (4) 17 (by decide +kernel) ?_
      subst H
      exact xret_i A hR hz (by decide +kernel) rfl ⟨rfl, rfl⟩
def fp_X12_sign_60 : List (Nat × Option Nat) := [(60, some 10), (63, none), (64, none), (65, none), (66, none)]
def f_X12_sign_60_85  (l1 : Int32) (l2 : Int32) (l4 : Int32) (g : xG) : Option (Int32 × xG) :=
  if l2 = 60 then
    (f_X12_token_60 13 l1 0 0 g).bind fun w2 =>
    some (1, w2)
  else
    (f_X12_token_60 l4 l1 0 0 g).bind fun w1 =>
    some (1, w1)
def f_X12_sign_60_75  (l1 : Int32) (l2 : Int32) (l4 : Int32) (g : xG) : Option (Int32 × xG) :=
  if l2 = 47 then
    f_X12_sign_60_85 l1 l2 15 g
  else
    f_X12_sign_60_85 l1 l2 l4 g
def f_X12_sign_60_65  (l1 : Int32) (l2 : Int32) (l4 : Int32) (g : xG) : Option (Int32 × xG) :=
  if l2 = 42 then
    f_X12_sign_60_75 l1 l2 10 g
  else
    f_X12_sign_60_75 l1 l2 l4 g
def f_X12_sign_60_55  (l1 : Int32) (l2 : Int32) (l4 : Int32) (g : xG) : Option (Int32 × xG) :=
  if l2 = 45 then
    f_X12_sign_60_65 l1 l2 9 g
  else
    f_X12_sign_60_65 l1 l2 l4 g
def f_X12_sign_60_43  (l1 : Int32) (l2 : Int32) (s0 : Int32) (g : xG) : Option (Int32 × xG) :=
  if l2 = 43 then
    f_X12_sign_60_55 l1 l2 8 g
  else
    f_X12_sign_60_55 l1 l2 s0 g
def f_X12_sign_60 (p1 : Int32) (p2 : Int32) (p3 : Int32) (g : xG) : Option (Int32 × xG) :=
  if p2 = 59 then
    f_X12_sign_60_43 p1 p2 4 g
  else
    if p2 = 61 then
      f_X12_sign_60_43 p1 p2 5 g
    else
      if p2 = 40 then
        f_X12_sign_60_43 p1 p2 6 g
      else
        if p2 = 41 then
          f_X12_sign_60_43 p1 p2 7 g
        else
          f_X12_sign_60_43 p1 p2 3 g
set_option maxRecDepth 20000 in
theorem t_X12_sign_60_85 {k : xK} {S : List xSh} {out : Int32 × xG} (hS : xpf SH2 S) (A : xAt k mX12_sign.2.1 12 SH2 S) (hR : xRet k 0 0 S (fun r g' => r = some (.int out.1) ∧ g' = out.2) mX12_sign.2.2.2) (hrm : xrm k = { frames := 1, cells := 0, slots := 0, locals := 25 }) (hz : xhs k = xb0 k + S.length)   : ∀ (l1 : Int32) (l2 : Int32) (l4 : Int32) (g : xG), f_X12_sign_60_85 l1 l2 l4 g = some out → xW k S 0 0 85 [some (.ref 60), some (.int l1), some (.int l2), none, some (.int l4)] [] g := by
  intro l1 l2 l4 g H
  have H : (if l2 = 60 then
  (f_X12_token_60 13 l1 0 0 g).bind fun w2 =>
  some (1, w2)
else
  (f_X12_token_60 l4 l1 0 0 g).bind fun w1 =>
  some (1, w1)) = some out := H
  refine xb A [(.iload_n 2, 1, 0, 0, .null), (.bipush 60, 2, 0, 0, .int 60)] (pc' := 88) (ls' := [some (.ref 60), some (.int l1), some (.int l2), none, some (.int l4)]) (st' := [.int 60, .int l2]) (g' := g) (by decide +kernel) rfl ?_
  refine xic_ne A (7) 95 91 (by decide +kernel) (fun h9 => ?_) (fun h9 => ?_)
  · rw [if_neg h9] at H
    refine xb A [(.aload_n 0, 1, 0, 0, .null), (.iload 4, 2, 0, 0, .null), (.iload_n 1, 1, 0, 0, .null), (.iconst 0, 1, 0, 0, .int 0), (.lconst 0, 1, 0, 0, .long 0)] (pc' := 101) (ls' := [some (.ref 60), some (.int l1), some (.int l2), none, some (.int l4)]) (st' := [.long 0, .int 0, .int l1, .int l4, .ref 60]) (g' := g) (by decide +kernel) rfl ?_
    obtain ⟨w1, e1, H⟩ := xbind H
    refine xcallV A (ix := 182) (nxt := 104) hrm hz [.int l4, .int l1, .int 0, .long 0] [] 1594 (c_X12_token_60 hS _ e1) ok_X12_token (by decide +kernel) rfl (fun r g1 hq => ?_)
    rw [hq.1, hq.2]
    show xW k S 0 0 104 [some (.ref 60), some (.int l1), some (.int l2), none, some (.int l4)] [] w1
    refine xb A [(.iconst 1, 1, 0, 0, .int 1)] (pc' := 105) (ls' := [some (.ref 60), some (.int l1), some (.int l2), none, some (.int l4)]) (st' := [.int 1]) (g' := w1) (by decide +kernel) rfl ?_
    obtain rfl := Option.some.inj H
    exact xret_i A hR hz (by decide +kernel) rfl ⟨rfl, rfl⟩
  · rw [if_pos h9] at H
    refine xb A [(.bipush 13, 2, 0, 0, .int 13), (.istore 4, 2, 0, 0, .null), (.aload_n 0, 1, 0, 0, .null), (.iload 4, 2, 0, 0, .null), (.iload_n 1, 1, 0, 0, .null), (.iconst 0, 1, 0, 0, .int 0), (.lconst 0, 1, 0, 0, .long 0)] (pc' := 101) (ls' := [some (.ref 60), some (.int l1), some (.int l2), none, some (.int 13)]) (st' := [.long 0, .int 0, .int l1, .int 13, .ref 60]) (g' := g) (by decide +kernel) rfl ?_
    obtain ⟨w2, e2, H⟩ := xbind H
    refine xcallV A (ix := 182) (nxt := 104) hrm hz [.int 13, .int l1, .int 0, .long 0] [] 1594 (c_X12_token_60 hS _ e2) ok_X12_token (by decide +kernel) rfl (fun r g1 hq => ?_)
    rw [hq.1, hq.2]
    show xW k S 0 0 104 [some (.ref 60), some (.int l1), some (.int l2), none, some (.int 13)] [] w2
    refine xb A [(.iconst 1, 1, 0, 0, .int 1)] (pc' := 105) (ls' := [some (.ref 60), some (.int l1), some (.int l2), none, some (.int 13)]) (st' := [.int 1]) (g' := w2) (by decide +kernel) rfl ?_
    obtain rfl := Option.some.inj H
    exact xret_i A hR hz (by decide +kernel) rfl ⟨rfl, rfl⟩
theorem fr_X12_sign_60_85   : ∀ (l1 : Int32) (l2 : Int32) (l4 : Int32) (g : xG) (out : Int32 × xG), f_X12_sign_60_85 l1 l2 l4 g = some out → xfrm fp_X12_sign_60 g (out.2) := by
  intro l1 l2 l4 g out H
  have H : (if l2 = 60 then
  (f_X12_token_60 13 l1 0 0 g).bind fun w2 =>
  some (1, w2)
else
  (f_X12_token_60 l4 l1 0 0 g).bind fun w1 =>
  some (1, w1)) = some out := H
  by_cases h9 : l2 = 60
  · rw [if_pos h9] at H
    obtain ⟨w2, e2, H⟩ := xbind H
    have hf2 : xfrm fp_X12_sign_60 g (w2) := xfrm.tr xfrm.rf (fr_X12_token_60 _ e2) rfl
    obtain rfl := Option.some.inj H
    exact hf2
  · rw [if_neg h9] at H
    obtain ⟨w1, e1, H⟩ := xbind H
    have hf1 : xfrm fp_X12_sign_60 g (w1) := xfrm.tr xfrm.rf (fr_X12_token_60 _ e1) rfl
    obtain rfl := Option.some.inj H
    exact hf1
set_option maxRecDepth 20000 in
theorem t_X12_sign_60_75 {k : xK} {S : List xSh} {out : Int32 × xG} (hS : xpf SH2 S) (A : xAt k mX12_sign.2.1 12 SH2 S) (hR : xRet k 0 0 S (fun r g' => r = some (.int out.1) ∧ g' = out.2) mX12_sign.2.2.2) (hrm : xrm k = { frames := 1, cells := 0, slots := 0, locals := 25 }) (hz : xhs k = xb0 k + S.length)   : ∀ (l1 : Int32) (l2 : Int32) (l4 : Int32) (g : xG), f_X12_sign_60_75 l1 l2 l4 g = some out → xW k S 0 0 75 [some (.ref 60), some (.int l1), some (.int l2), none, some (.int l4)] [] g := by
  intro l1 l2 l4 g H
  have H : (if l2 = 47 then
  f_X12_sign_60_85 l1 l2 15 g
else
  f_X12_sign_60_85 l1 l2 l4 g) = some out := H
  refine xb A [(.iload_n 2, 1, 0, 0, .null), (.bipush 47, 2, 0, 0, .int 47)] (pc' := 78) (ls' := [some (.ref 60), some (.int l1), some (.int l2), none, some (.int l4)]) (st' := [.int 47, .int l2]) (g' := g) (by decide +kernel) rfl ?_
  refine xic_ne A (7) 85 81 (by decide +kernel) (fun h8 => ?_) (fun h8 => ?_)
  · rw [if_neg h8] at H
    exact t_X12_sign_60_85 hS A hR hrm hz _ _ _ _ H
  · rw [if_pos h8] at H
    refine xb A [(.bipush 15, 2, 0, 0, .int 15), (.istore 4, 2, 0, 0, .null)] (pc' := 85) (ls' := [some (.ref 60), some (.int l1), some (.int l2), none, some (.int 15)]) (st' := []) (g' := g) (by decide +kernel) rfl ?_
    exact t_X12_sign_60_85 hS A hR hrm hz _ _ _ _ H
theorem fr_X12_sign_60_75   : ∀ (l1 : Int32) (l2 : Int32) (l4 : Int32) (g : xG) (out : Int32 × xG), f_X12_sign_60_75 l1 l2 l4 g = some out → xfrm fp_X12_sign_60 g (out.2) := by
  intro l1 l2 l4 g out H
  have H : (if l2 = 47 then
  f_X12_sign_60_85 l1 l2 15 g
else
  f_X12_sign_60_85 l1 l2 l4 g) = some out := H
  by_cases h8 : l2 = 47
  · rw [if_pos h8] at H
    exact xfrm.tr xfrm.rf (fr_X12_sign_60_85 _ _ _ _ _ H) rfl
  · rw [if_neg h8] at H
    exact xfrm.tr xfrm.rf (fr_X12_sign_60_85 _ _ _ _ _ H) rfl
set_option maxRecDepth 20000 in
theorem t_X12_sign_60_65 {k : xK} {S : List xSh} {out : Int32 × xG} (hS : xpf SH2 S) (A : xAt k mX12_sign.2.1 12 SH2 S) (hR : xRet k 0 0 S (fun r g' => r = some (.int out.1) ∧ g' = out.2) mX12_sign.2.2.2) (hrm : xrm k = { frames := 1, cells := 0, slots := 0, locals := 25 }) (hz : xhs k = xb0 k + S.length)   : ∀ (l1 : Int32) (l2 : Int32) (l4 : Int32) (g : xG), f_X12_sign_60_65 l1 l2 l4 g = some out → xW k S 0 0 65 [some (.ref 60), some (.int l1), some (.int l2), none, some (.int l4)] [] g := by
  intro l1 l2 l4 g H
  have H : (if l2 = 42 then
  f_X12_sign_60_75 l1 l2 10 g
else
  f_X12_sign_60_75 l1 l2 l4 g) = some out := H
  refine xb A [(.iload_n 2, 1, 0, 0, .null), (.bipush 42, 2, 0, 0, .int 42)] (pc' := 68) (ls' := [some (.ref 60), some (.int l1), some (.int l2), none, some (.int l4)]) (st' := [.int 42, .int l2]) (g' := g) (by decide +kernel) rfl ?_
  refine xic_ne A (7) 75 71 (by decide +kernel) (fun h7 => ?_) (fun h7 => ?_)
  · rw [if_neg h7] at H
    exact t_X12_sign_60_75 hS A hR hrm hz _ _ _ _ H
  · rw [if_pos h7] at H
    refine xb A [(.bipush 10, 2, 0, 0, .int 10), (.istore 4, 2, 0, 0, .null)] (pc' := 75) (ls' := [some (.ref 60), some (.int l1), some (.int l2), none, some (.int 10)]) (st' := []) (g' := g) (by decide +kernel) rfl ?_
    exact t_X12_sign_60_75 hS A hR hrm hz _ _ _ _ H
theorem fr_X12_sign_60_65   : ∀ (l1 : Int32) (l2 : Int32) (l4 : Int32) (g : xG) (out : Int32 × xG), f_X12_sign_60_65 l1 l2 l4 g = some out → xfrm fp_X12_sign_60 g (out.2) := by
  intro l1 l2 l4 g out H
  have H : (if l2 = 42 then
  f_X12_sign_60_75 l1 l2 10 g
else
  f_X12_sign_60_75 l1 l2 l4 g) = some out := H
  by_cases h7 : l2 = 42
  · rw [if_pos h7] at H
    exact xfrm.tr xfrm.rf (fr_X12_sign_60_75 _ _ _ _ _ H) rfl
  · rw [if_neg h7] at H
    exact xfrm.tr xfrm.rf (fr_X12_sign_60_75 _ _ _ _ _ H) rfl
set_option maxRecDepth 20000 in
theorem t_X12_sign_60_55 {k : xK} {S : List xSh} {out : Int32 × xG} (hS : xpf SH2 S) (A : xAt k mX12_sign.2.1 12 SH2 S) (hR : xRet k 0 0 S (fun r g' => r = some (.int out.1) ∧ g' = out.2) mX12_sign.2.2.2) (hrm : xrm k = { frames := 1, cells := 0, slots := 0, locals := 25 }) (hz : xhs k = xb0 k + S.length)   : ∀ (l1 : Int32) (l2 : Int32) (l4 : Int32) (g : xG), f_X12_sign_60_55 l1 l2 l4 g = some out → xW k S 0 0 55 [some (.ref 60), some (.int l1), some (.int l2), none, some (.int l4)] [] g := by
  intro l1 l2 l4 g H
  have H : (if l2 = 45 then
  f_X12_sign_60_65 l1 l2 9 g
else
  f_X12_sign_60_65 l1 l2 l4 g) = some out := H
  refine xb A [(.iload_n 2, 1, 0, 0, .null), (.bipush 45, 2, 0, 0, .int 45)] (pc' := 58) (ls' := [some (.ref 60), some (.int l1), some (.int l2), none, some (.int l4)]) (st' := [.int 45, .int l2]) (g' := g) (by decide +kernel) rfl ?_
  refine xic_ne A (7) 65 61 (by decide +kernel) (fun h6 => ?_) (fun h6 => ?_)
  · rw [if_neg h6] at H
    exact t_X12_sign_60_65 hS A hR hrm hz _ _ _ _ H
  · rw [if_pos h6] at H
    refine xb A [(.bipush 9, 2, 0, 0, .int 9), (.istore 4, 2, 0, 0, .null)] (pc' := 65) (ls' := [some (.ref 60), some (.int l1), some (.int l2), none, some (.int 9)]) (st' := []) (g' := g) (by decide +kernel) rfl ?_
    exact t_X12_sign_60_65 hS A hR hrm hz _ _ _ _ H
theorem fr_X12_sign_60_55   : ∀ (l1 : Int32) (l2 : Int32) (l4 : Int32) (g : xG) (out : Int32 × xG), f_X12_sign_60_55 l1 l2 l4 g = some out → xfrm fp_X12_sign_60 g (out.2) := by
  intro l1 l2 l4 g out H
  have H : (if l2 = 45 then
  f_X12_sign_60_65 l1 l2 9 g
else
  f_X12_sign_60_65 l1 l2 l4 g) = some out := H
  by_cases h6 : l2 = 45
  · rw [if_pos h6] at H
    exact xfrm.tr xfrm.rf (fr_X12_sign_60_65 _ _ _ _ _ H) rfl
  · rw [if_neg h6] at H
    exact xfrm.tr xfrm.rf (fr_X12_sign_60_65 _ _ _ _ _ H) rfl
set_option maxRecDepth 20000 in
theorem t_X12_sign_60_43 {k : xK} {S : List xSh} {out : Int32 × xG} (hS : xpf SH2 S) (A : xAt k mX12_sign.2.1 12 SH2 S) (hR : xRet k 0 0 S (fun r g' => r = some (.int out.1) ∧ g' = out.2) mX12_sign.2.2.2) (hrm : xrm k = { frames := 1, cells := 0, slots := 0, locals := 25 }) (hz : xhs k = xb0 k + S.length)   : ∀ (l1 : Int32) (l2 : Int32) (s0 : Int32) (g : xG), f_X12_sign_60_43 l1 l2 s0 g = some out → xW k S 0 0 43 [some (.ref 60), some (.int l1), some (.int l2), none, none] [.int s0] g := by
  intro l1 l2 s0 g H
  have H : (if l2 = 43 then
  f_X12_sign_60_55 l1 l2 8 g
else
  f_X12_sign_60_55 l1 l2 s0 g) = some out := H
  refine xb A [(.istore 4, 2, 0, 0, .null), (.iload_n 2, 1, 0, 0, .null), (.bipush 43, 2, 0, 0, .int 43)] (pc' := 48) (ls' := [some (.ref 60), some (.int l1), some (.int l2), none, some (.int s0)]) (st' := [.int 43, .int l2]) (g' := g) (by decide +kernel) rfl ?_
  refine xic_ne A (7) 55 51 (by decide +kernel) (fun h5 => ?_) (fun h5 => ?_)
  · rw [if_neg h5] at H
    exact t_X12_sign_60_55 hS A hR hrm hz _ _ _ _ H
  · rw [if_pos h5] at H
    refine xb A [(.bipush 8, 2, 0, 0, .int 8), (.istore 4, 2, 0, 0, .null)] (pc' := 55) (ls' := [some (.ref 60), some (.int l1), some (.int l2), none, some (.int 8)]) (st' := []) (g' := g) (by decide +kernel) rfl ?_
    exact t_X12_sign_60_55 hS A hR hrm hz _ _ _ _ H
theorem fr_X12_sign_60_43   : ∀ (l1 : Int32) (l2 : Int32) (s0 : Int32) (g : xG) (out : Int32 × xG), f_X12_sign_60_43 l1 l2 s0 g = some out → xfrm fp_X12_sign_60 g (out.2) := by
  intro l1 l2 s0 g out H
  have H : (if l2 = 43 then
  f_X12_sign_60_55 l1 l2 8 g
else
  f_X12_sign_60_55 l1 l2 s0 g) = some out := H
  by_cases h5 : l2 = 43
  · rw [if_pos h5] at H
    exact xfrm.tr xfrm.rf (fr_X12_sign_60_55 _ _ _ _ _ H) rfl
  · rw [if_neg h5] at H
    exact xfrm.tr xfrm.rf (fr_X12_sign_60_55 _ _ _ _ _ H) rfl
set_option maxRecDepth 20000 in
theorem c_X12_sign_60 {S : List xSh} (hS : xpf SH2 S) {g : xG} {p1 : Int32} {p2 : Int32} {p3 : Int32} (out : Int32 × xG) (H : f_X12_sign_60 p1 p2 p3 g = some out) : xC mX12_sign 1 25 0 0 S [.ref 60, .int p1, .int p2, .int p3] g S (fun r g' => r = some (.int out.1) ∧ g' = out.2) := by
  have H : (if p2 = 59 then
  f_X12_sign_60_43 p1 p2 4 g
else
  if p2 = 61 then
    f_X12_sign_60_43 p1 p2 5 g
  else
    if p2 = 40 then
      f_X12_sign_60_43 p1 p2 6 g
    else
      if p2 = 41 then
        f_X12_sign_60_43 p1 p2 7 g
      else
        f_X12_sign_60_43 p1 p2 3 g) = some out := H
  refine xC.of 12 SH2 [some (.ref 60), some (.int p1), some (.int p2), some (.int p3), none] hS (by decide +kernel) rfl (fun _ _ => Nat.le_of_ble_eq_true rfl) (fun _ _ => rfl) ?_
  intro k A hR hrm hz
  refine xb A [(.iload_n 2, 1, 0, 0, .null), (.bipush 59, 2, 0, 0, .int 59)] (pc' := 3) (ls' := [some (.ref 60), some (.int p1), some (.int p2), some (.int p3), none]) (st' := [.int 59, .int p2]) (g' := g) (by decide +kernel) rfl ?_
  refine xic_ne A (7) 10 6 (by decide +kernel) (fun h1 => ?_) (fun h1 => ?_)
  · rw [if_neg h1] at H
    refine xb A [(.iload_n 2, 1, 0, 0, .null), (.bipush 61, 2, 0, 0, .int 61)] (pc' := 13) (ls' := [some (.ref 60), some (.int p1), some (.int p2), some (.int p3), none]) (st' := [.int 61, .int p2]) (g' := g) (by decide +kernel) rfl ?_
    refine xic_ne A (7) 20 16 (by decide +kernel) (fun h2 => ?_) (fun h2 => ?_)
    · rw [if_neg h2] at H
      refine xb A [(.iload_n 2, 1, 0, 0, .null), (.bipush 40, 2, 0, 0, .int 40)] (pc' := 23) (ls' := [some (.ref 60), some (.int p1), some (.int p2), some (.int p3), none]) (st' := [.int 40, .int p2]) (g' := g) (by decide +kernel) rfl ?_
      refine xic_ne A (8) 31 26 (by decide +kernel) (fun h3 => ?_) (fun h3 => ?_)
      · rw [if_neg h3] at H
        refine xb A [(.iload_n 2, 1, 0, 0, .null), (.bipush 41, 2, 0, 0, .int 41)] (pc' := 34) (ls' := [some (.ref 60), some (.int p1), some (.int p2), some (.int p3), none]) (st' := [.int 41, .int p2]) (g' := g) (by decide +kernel) rfl ?_
        refine xic_ne A (8) 42 37 (by decide +kernel) (fun h4 => ?_) (fun h4 => ?_)
        · rw [if_neg h4] at H
          refine xb A [(.iconst 3, 1, 0, 0, .int 3)] (pc' := 43) (ls' := [some (.ref 60), some (.int p1), some (.int p2), some (.int p3), none]) (st' := [.int 3]) (g' := g) (by decide +kernel) rfl ?_
          refine xweak (ls' := [some (.ref 60), some (.int p1), some (.int p2), none, none]) (by exact ⟨rfl, ⟨rfl, ⟨rfl, trivial⟩⟩⟩) ?_
          exact t_X12_sign_60_43 hS A hR hrm hz _ _ _ _ H
        · rw [if_pos h4] at H
          refine xb A [(.bipush 7, 2, 0, 0, .int 7)] (pc' := 39) (ls' := [some (.ref 60), some (.int p1), some (.int p2), some (.int p3), none]) (st' := [.int 7]) (g' := g) (by decide +kernel) rfl ?_
          refine xgoto A (4) 43 (by decide +kernel) ?_
          refine xweak (ls' := [some (.ref 60), some (.int p1), some (.int p2), none, none]) (by exact ⟨rfl, ⟨rfl, ⟨rfl, trivial⟩⟩⟩) ?_
          exact t_X12_sign_60_43 hS A hR hrm hz _ _ _ _ H
      · rw [if_pos h3] at H
        refine xb A [(.bipush 6, 2, 0, 0, .int 6)] (pc' := 28) (ls' := [some (.ref 60), some (.int p1), some (.int p2), some (.int p3), none]) (st' := [.int 6]) (g' := g) (by decide +kernel) rfl ?_
        refine xgoto A (15) 43 (by decide +kernel) ?_
        refine xweak (ls' := [some (.ref 60), some (.int p1), some (.int p2), none, none]) (by exact ⟨rfl, ⟨rfl, ⟨rfl, trivial⟩⟩⟩) ?_
        exact t_X12_sign_60_43 hS A hR hrm hz _ _ _ _ H
    · rw [if_pos h2] at H
      refine xb A [(.iconst 5, 1, 0, 0, .int 5)] (pc' := 17) (ls' := [some (.ref 60), some (.int p1), some (.int p2), some (.int p3), none]) (st' := [.int 5]) (g' := g) (by decide +kernel) rfl ?_
      refine xgoto A (26) 43 (by decide +kernel) ?_
      refine xweak (ls' := [some (.ref 60), some (.int p1), some (.int p2), none, none]) (by exact ⟨rfl, ⟨rfl, ⟨rfl, trivial⟩⟩⟩) ?_
      exact t_X12_sign_60_43 hS A hR hrm hz _ _ _ _ H
  · rw [if_pos h1] at H
    refine xb A [(.iconst 4, 1, 0, 0, .int 4)] (pc' := 7) (ls' := [some (.ref 60), some (.int p1), some (.int p2), some (.int p3), none]) (st' := [.int 4]) (g' := g) (by decide +kernel) rfl ?_
    refine xgoto A (36) 43 (by decide +kernel) ?_
    refine xweak (ls' := [some (.ref 60), some (.int p1), some (.int p2), none, none]) (by exact ⟨rfl, ⟨rfl, ⟨rfl, trivial⟩⟩⟩) ?_
    exact t_X12_sign_60_43 hS A hR hrm hz _ _ _ _ H
theorem fr_X12_sign_60 {p1 : Int32} {p2 : Int32} {p3 : Int32} {g : xG} (out : Int32 × xG) (H : f_X12_sign_60 p1 p2 p3 g = some out) : xfrm fp_X12_sign_60 g (out.2) := by
  have H : (if p2 = 59 then
  f_X12_sign_60_43 p1 p2 4 g
else
  if p2 = 61 then
    f_X12_sign_60_43 p1 p2 5 g
  else
    if p2 = 40 then
      f_X12_sign_60_43 p1 p2 6 g
    else
      if p2 = 41 then
        f_X12_sign_60_43 p1 p2 7 g
      else
        f_X12_sign_60_43 p1 p2 3 g) = some out := H
  by_cases h1 : p2 = 59
  · rw [if_pos h1] at H
    exact xfrm.tr xfrm.rf (fr_X12_sign_60_43 _ _ _ _ _ H) rfl
  · rw [if_neg h1] at H
    by_cases h2 : p2 = 61
    · rw [if_pos h2] at H
      exact xfrm.tr xfrm.rf (fr_X12_sign_60_43 _ _ _ _ _ H) rfl
    · rw [if_neg h2] at H
      by_cases h3 : p2 = 40
      · rw [if_pos h3] at H
        exact xfrm.tr xfrm.rf (fr_X12_sign_60_43 _ _ _ _ _ H) rfl
      · rw [if_neg h3] at H
        by_cases h4 : p2 = 41
        · rw [if_pos h4] at H
          exact xfrm.tr xfrm.rf (fr_X12_sign_60_43 _ _ _ _ _ H) rfl
        · rw [if_neg h4] at H
          exact xfrm.tr xfrm.rf (fr_X12_sign_60_43 _ _ _ _ _ H) rfl
def fp_X12_cut_60 : List (Nat × Option Nat) := [(60, some 10), (63, none), (64, none), (65, none), (66, none)]
def f_X12_cut_60_208 (k7 : Int32 → xG → Option (xG)) : Nat → Int32 → Int32 → Int32 → xG → Option (xG)
  | 0, _, _, _, _ => none
  | n + 1, l1, l3, l4, g =>
    (f_X12_byteAt_60 (l1 + l3) g).bind fun w4 =>
    if (f_X12_isDigit w4) = 0 then
      if l3 ≤ 4 then
        (f_X12_token_60 2 l1 l4 0 g).bind fun w5 =>
        k7 (l1 + l3) w5
      else
        (f_X12_token_60 3 l1 l4 0 g).bind fun w6 =>
        k7 (l1 + l3) w6
    else
      if 4 ≤ l3 then
        f_X12_cut_60_208 k7 n l1 (l3 + 1) l4 g
      else
        (f_X12_byteAt_60 (l1 + l3) g).bind fun w7 =>
        f_X12_cut_60_208 k7 n l1 (l3 + 1) (((10 * l4) + w7) - 48) g
def f_X12_cut_60_179 (k7 : Int32 → xG → Option (xG)) (l1 : Int32) (l3 : Int32) (l4 : Int64) (l6 : Int32) (g : xG) : Option (xG) :=
  (f_X12_token_60 l6 l1 0 l4 g).bind fun w9 =>
  k7 (l1 + l3) w9
def f_X12_cut_60_146 (k7 : Int32 → xG → Option (xG)) : Nat → Int32 → Int32 → Int64 → Int32 → Int32 → xG → Option (xG)
  | 0, _, _, _, _, _, _ => none
  | n + 1, l1, l3, l4, l6, l7, g =>
    if 21 ≤ l7 then
      f_X12_cut_60_179 k7 l1 l3 l4 l6 g
    else
      xg (¬ (l7 < 0 ∨ 21 ≤ l7.toNatClampNeg)) (
        if (lg_cmp (g.2 67 l7.toNatClampNeg) l4) = 0 then
          f_X12_cut_60_146 k7 n l1 l3 l4 (20 + l7) (l7 + 1) g
        else
          f_X12_cut_60_146 k7 n l1 l3 l4 l6 (l7 + 1) g)
def f_X12_cut_60_135 (k7 : Int32 → xG → Option (xG)) (l1 : Int32) (l3 : Int32) (l4 : Int64) (s0 : Int32) (g : xG) : Option (xG) :=
  if 8 < l3 then
    f_X12_cut_60_179 k7 l1 l3 l4 s0 g
  else
    f_X12_cut_60_146 k7 xN l1 l3 l4 s0 0 g
def f_X12_cut_60_85 (k7 : Int32 → xG → Option (xG)) : Nat → Int32 → Int32 → Int64 → xG → Option (xG)
  | 0, _, _, _, _ => none
  | n + 1, l1, l3, l4, g =>
    (f_X12_byteAt_60 (l1 + l3) g).bind fun w8 =>
    if (f_X12_isLetter w8) = 0 then
      if l3 ≤ 8 then
        f_X12_cut_60_135 k7 l1 l3 l4 1 g
      else
        f_X12_cut_60_135 k7 l1 l3 l4 3 g
    else
      if 8 ≤ l3 then
        f_X12_cut_60_85 k7 n l1 (l3 + 1) l4 g
      else
        (f_X12_byteAt_60 (l1 + l3) g).bind fun w10 =>
        f_X12_cut_60_85 k7 n l1 (l3 + 1) (f_X12_appends l4 w10) g
def f_X12_cut_60_7  : Nat → Int32 → xG → Option (xG)
  | 0, _, _ => none
  | n + 1, l1, g =>
    if 400 < (g.1 60 10) then
      some g
    else
      (f_X12_byteAt_60 l1 g).bind fun w1 =>
      if l1 < (g.1 60 4) then
        if w1 = 9 then
          f_X12_cut_60_7 n (l1 + 1) g
        else
          if w1 = 10 then
            f_X12_cut_60_7 n (l1 + 1) g
          else
            if w1 = 13 then
              f_X12_cut_60_7 n (l1 + 1) g
            else
              if w1 = 32 then
                f_X12_cut_60_7 n (l1 + 1) g
              else
                if (f_X12_isLetter w1) = 0 then
                  if (f_X12_isDigit w1) = 0 then
                    (f_X12_byteAt_60 (l1 + 1) g).bind fun w2 =>
                    (f_X12_sign_60 l1 w1 w2 g).bind fun w3 =>
                    f_X12_cut_60_7 n (l1 + w3.1) w3.2
                  else
                    f_X12_cut_60_208 (f_X12_cut_60_7 n) xN l1 0 0 g
                else
                  f_X12_cut_60_85 (f_X12_cut_60_7 n) xN l1 0 0 g
      else
        (f_X12_token_60 0 (g.1 60 4) 0 0 g).bind fun w11 =>
        some w11
def f_X12_cut_60  (g : xG) : Option (xG) :=
  f_X12_cut_60_7 xN 0 (xupd g.1 60 10 0, g.2)
set_option maxRecDepth 20000 in
theorem t_X12_cut_60_208 {k : xK} {S : List xSh} {out : xG} (hS : xpf SH2 S) (A : xAt k mX12_cut.2.1 12 SH2 S) (hR : xRet k 0 0 S (fun r g' => r = none ∧ g' = out) mX12_cut.2.2.2) (hrm : xrm k = { frames := 2, cells := 0, slots := 0, locals := 49 }) (hz : xhs k = xb0 k + S.length) {k7 : Int32 → xG → Option (xG)} (hk7 : ∀ (l1 : Int32) (g : xG), k7 l1 g = some out → xW k S 0 0 7 [some (.ref 60), some (.int l1), none, none, none, none, none, none] [] g) : ∀ (n : Nat) (l1 : Int32) (l3 : Int32) (l4 : Int32) (g : xG), f_X12_cut_60_208 k7 n l1 l3 l4 g = some out → xW k S 0 0 208 [some (.ref 60), some (.int l1), none, some (.int l3), some (.int l4), none, none, none] [] g := by
  intro n
  induction n with
  | zero => intro l1 l3 l4 g H; exact absurd H (by simp [f_X12_cut_60_208])
  | succ n ih =>
    intro l1 l3 l4 g H
    have H : ((f_X12_byteAt_60 (l1 + l3) g).bind fun w4 =>
if (f_X12_isDigit w4) = 0 then
  if l3 ≤ 4 then
    (f_X12_token_60 2 l1 l4 0 g).bind fun w5 =>
    k7 (l1 + l3) w5
  else
    (f_X12_token_60 3 l1 l4 0 g).bind fun w6 =>
    k7 (l1 + l3) w6
else
  if 4 ≤ l3 then
    f_X12_cut_60_208 k7 n l1 (l3 + 1) l4 g
  else
    (f_X12_byteAt_60 (l1 + l3) g).bind fun w7 =>
    f_X12_cut_60_208 k7 n l1 (l3 + 1) (((10 * l4) + w7) - 48) g) = some out := H
    refine xb A [(.aload_n 0, 1, 0, 0, .null), (.iload_n 1, 1, 0, 0, .null), (.iload_n 3, 1, 0, 0, .null), (.iadd, 1, 0, 0, .null)] (pc' := 212) (ls' := [some (.ref 60), some (.int l1), none, some (.int l3), some (.int l4), none, none, none]) (st' := [.int (l1 + l3), .ref 60]) (g' := g) (by decide +kernel) rfl ?_
    obtain ⟨w4, e4, H⟩ := xbind H
    refine xcallV A (ix := 178) (nxt := 215) hrm hz [.int (l1 + l3)] [] 1590 (c_X12_byteAt_60 hS _ e4) ok_X12_byteAt (by decide +kernel) rfl (fun r g1 hq => ?_)
    rw [hq.1, hq.2]
    show xW k S 0 0 215 [some (.ref 60), some (.int l1), none, some (.int l3), some (.int l4), none, none, none] [.int w4] g
    refine xcallS A (ix := 190) (nxt := 218) hrm hz [.int w4] [] 1601 (c_X12_isDigit hS _ rfl) ok_X12_isDigit (by decide +kernel) rfl (fun r g1 hq => ?_)
    rw [hq.1, hq.2]
    show xW k S 0 0 218 [some (.ref 60), some (.int l1), none, some (.int l3), some (.int l4), none, none, none] [.int (f_X12_isDigit w4)] g
    refine xif_eq A (32) 250 221 (by decide +kernel) (fun h9 => ?_) (fun h9 => ?_)
    · rw [if_pos h9] at H
      refine xb A [(.aload_n 0, 1, 0, 0, .null), (.iload_n 3, 1, 0, 0, .null), (.iconst 4, 1, 0, 0, .int 4)] (pc' := 253) (ls' := [some (.ref 60), some (.int l1), none, some (.int l3), some (.int l4), none, none, none]) (st' := [.int 4, .int l3, .ref 60]) (g' := g) (by decide +kernel) rfl ?_
      refine xic_le A (7) 260 256 (by decide +kernel) (fun h10 => ?_) (fun h10 => ?_)
      · rw [if_pos h10] at H
        refine xb A [(.iconst 2, 1, 0, 0, .int 2), (.iload_n 1, 1, 0, 0, .null), (.iload 4, 2, 0, 0, .null), (.lconst 0, 1, 0, 0, .long 0)] (pc' := 265) (ls' := [some (.ref 60), some (.int l1), none, some (.int l3), some (.int l4), none, none, none]) (st' := [.long 0, .int l4, .int l1, .int 2, .ref 60]) (g' := g) (by decide +kernel) rfl ?_
        obtain ⟨w5, e5, H⟩ := xbind H
        refine xcallV A (ix := 182) (nxt := 268) hrm hz [.int 2, .int l1, .int l4, .long 0] [] 1594 (c_X12_token_60 hS _ e5) ok_X12_token (by decide +kernel) rfl (fun r g1 hq => ?_)
        rw [hq.1, hq.2]
        show xW k S 0 0 268 [some (.ref 60), some (.int l1), none, some (.int l3), some (.int l4), none, none, none] [] w5
        refine xb A [(.iload_n 1, 1, 0, 0, .null), (.iload_n 3, 1, 0, 0, .null), (.iadd, 1, 0, 0, .null), (.istore_n 1, 1, 0, 0, .null)] (pc' := 272) (ls' := [some (.ref 60), some (.int (l1 + l3)), none, some (.int l3), some (.int l4), none, none, none]) (st' := []) (g' := w5) (by decide +kernel) rfl ?_
        refine xgoto A (19) 291 (by decide +kernel) ?_
        refine xgoto A (-284) 7 (by decide +kernel) ?_
        refine xweak (ls' := [some (.ref 60), some (.int (l1 + l3)), none, none, none, none, none, none]) (by exact ⟨rfl, ⟨rfl, trivial⟩⟩) ?_
        exact hk7 _ _ H
      · rw [if_neg h10] at H
        refine xb A [(.iconst 3, 1, 0, 0, .int 3)] (pc' := 257) (ls' := [some (.ref 60), some (.int l1), none, some (.int l3), some (.int l4), none, none, none]) (st' := [.int 3, .ref 60]) (g' := g) (by decide +kernel) rfl ?_
        refine xgoto A (4) 261 (by decide +kernel) ?_
        refine xb A [(.iload_n 1, 1, 0, 0, .null), (.iload 4, 2, 0, 0, .null), (.lconst 0, 1, 0, 0, .long 0)] (pc' := 265) (ls' := [some (.ref 60), some (.int l1), none, some (.int l3), some (.int l4), none, none, none]) (st' := [.long 0, .int l4, .int l1, .int 3, .ref 60]) (g' := g) (by decide +kernel) rfl ?_
        obtain ⟨w6, e6, H⟩ := xbind H
        refine xcallV A (ix := 182) (nxt := 268) hrm hz [.int 3, .int l1, .int l4, .long 0] [] 1594 (c_X12_token_60 hS _ e6) ok_X12_token (by decide +kernel) rfl (fun r g1 hq => ?_)
        rw [hq.1, hq.2]
        show xW k S 0 0 268 [some (.ref 60), some (.int l1), none, some (.int l3), some (.int l4), none, none, none] [] w6
        refine xb A [(.iload_n 1, 1, 0, 0, .null), (.iload_n 3, 1, 0, 0, .null), (.iadd, 1, 0, 0, .null), (.istore_n 1, 1, 0, 0, .null)] (pc' := 272) (ls' := [some (.ref 60), some (.int (l1 + l3)), none, some (.int l3), some (.int l4), none, none, none]) (st' := []) (g' := w6) (by decide +kernel) rfl ?_
        refine xgoto A (19) 291 (by decide +kernel) ?_
        refine xgoto A (-284) 7 (by decide +kernel) ?_
        refine xweak (ls' := [some (.ref 60), some (.int (l1 + l3)), none, none, none, none, none, none]) (by exact ⟨rfl, ⟨rfl, trivial⟩⟩) ?_
        exact hk7 _ _ H
    · rw [if_neg h9] at H
      refine xb A [(.iload_n 3, 1, 0, 0, .null), (.iconst 4, 1, 0, 0, .int 4)] (pc' := 223) (ls' := [some (.ref 60), some (.int l1), none, some (.int l3), some (.int l4), none, none, none]) (st' := [.int 4, .int l3]) (g' := g) (by decide +kernel) rfl ?_
      refine xic_ge A (21) 244 226 (by decide +kernel) (fun h11 => ?_) (fun h11 => ?_)
      · rw [if_pos h11] at H
        refine xb A [(.iinc 3 1, 3, 0, 0, .null)] (pc' := 247) (ls' := [some (.ref 60), some (.int l1), none, some (.int (l3 + 1)), some (.int l4), none, none, none]) (st' := []) (g' := g) (by decide +kernel) rfl ?_
        refine xgoto A (-39) 208 (by decide +kernel) ?_
        exact ih _ _ _ _ H
      · rw [if_neg h11] at H
        refine xb A [(.bipush 10, 2, 0, 0, .int 10), (.iload 4, 2, 0, 0, .null), (.imul, 1, 0, 0, .null), (.aload_n 0, 1, 0, 0, .null), (.iload_n 1, 1, 0, 0, .null), (.iload_n 3, 1, 0, 0, .null), (.iadd, 1, 0, 0, .null)] (pc' := 235) (ls' := [some (.ref 60), some (.int l1), none, some (.int l3), some (.int l4), none, none, none]) (st' := [.int (l1 + l3), .ref 60, .int (10 * l4)]) (g' := g) (by decide +kernel) rfl ?_
        obtain ⟨w7, e7, H⟩ := xbind H
        refine xcallV A (ix := 178) (nxt := 238) hrm hz [.int (l1 + l3)] [.int (10 * l4)] 1590 (c_X12_byteAt_60 hS _ e7) ok_X12_byteAt (by decide +kernel) rfl (fun r g1 hq => ?_)
        rw [hq.1, hq.2]
        show xW k S 0 0 238 [some (.ref 60), some (.int l1), none, some (.int l3), some (.int l4), none, none, none] [.int w7, .int (10 * l4)] g
        refine xb A [(.iadd, 1, 0, 0, .null), (.bipush 48, 2, 0, 0, .int 48), (.isub, 1, 0, 0, .null), (.istore 4, 2, 0, 0, .null), (.iinc 3 1, 3, 0, 0, .null)] (pc' := 247) (ls' := [some (.ref 60), some (.int l1), none, some (.int (l3 + 1)), some (.int (((10 * l4) + w7) - 48)), none, none, none]) (st' := []) (g' := g) (by decide +kernel) rfl ?_
        refine xgoto A (-39) 208 (by decide +kernel) ?_
        exact ih _ _ _ _ H
theorem fr_X12_cut_60_208 {k7 : Int32 → xG → Option (xG)} (hk7 : ∀ (l1 : Int32) (g : xG) (out : xG), k7 l1 g = some out → xfrm fp_X12_cut_60 g (out)) : ∀ (n : Nat) (l1 : Int32) (l3 : Int32) (l4 : Int32) (g : xG) (out : xG), f_X12_cut_60_208 k7 n l1 l3 l4 g = some out → xfrm fp_X12_cut_60 g (out) := by
  intro n
  induction n with
  | zero => intro l1 l3 l4 g out H; exact absurd H (by simp [f_X12_cut_60_208])
  | succ n ih =>
    intro l1 l3 l4 g out H
    have H : ((f_X12_byteAt_60 (l1 + l3) g).bind fun w4 =>
if (f_X12_isDigit w4) = 0 then
  if l3 ≤ 4 then
    (f_X12_token_60 2 l1 l4 0 g).bind fun w5 =>
    k7 (l1 + l3) w5
  else
    (f_X12_token_60 3 l1 l4 0 g).bind fun w6 =>
    k7 (l1 + l3) w6
else
  if 4 ≤ l3 then
    f_X12_cut_60_208 k7 n l1 (l3 + 1) l4 g
  else
    (f_X12_byteAt_60 (l1 + l3) g).bind fun w7 =>
    f_X12_cut_60_208 k7 n l1 (l3 + 1) (((10 * l4) + w7) - 48) g) = some out := H
    obtain ⟨w4, e4, H⟩ := xbind H
    by_cases h9 : (f_X12_isDigit w4) = 0
    · rw [if_pos h9] at H
      by_cases h10 : l3 ≤ 4
      · rw [if_pos h10] at H
        obtain ⟨w5, e5, H⟩ := xbind H
        have hf3 : xfrm fp_X12_cut_60 g (w5) := xfrm.tr xfrm.rf (fr_X12_token_60 _ e5) rfl
        exact xfrm.tr hf3 (hk7 _ _ _ H) rfl
      · rw [if_neg h10] at H
        obtain ⟨w6, e6, H⟩ := xbind H
        have hf4 : xfrm fp_X12_cut_60 g (w6) := xfrm.tr xfrm.rf (fr_X12_token_60 _ e6) rfl
        exact xfrm.tr hf4 (hk7 _ _ _ H) rfl
    · rw [if_neg h9] at H
      by_cases h11 : 4 ≤ l3
      · rw [if_pos h11] at H
        exact xfrm.tr xfrm.rf (ih _ _ _ _ _ H) rfl
      · rw [if_neg h11] at H
        obtain ⟨w7, e7, H⟩ := xbind H
        exact xfrm.tr xfrm.rf (ih _ _ _ _ _ H) rfl
set_option maxRecDepth 20000 in
theorem t_X12_cut_60_179 {k : xK} {S : List xSh} {out : xG} (hS : xpf SH2 S) (A : xAt k mX12_cut.2.1 12 SH2 S) (hR : xRet k 0 0 S (fun r g' => r = none ∧ g' = out) mX12_cut.2.2.2) (hrm : xrm k = { frames := 2, cells := 0, slots := 0, locals := 49 }) (hz : xhs k = xb0 k + S.length) {k7 : Int32 → xG → Option (xG)} (hk7 : ∀ (l1 : Int32) (g : xG), k7 l1 g = some out → xW k S 0 0 7 [some (.ref 60), some (.int l1), none, none, none, none, none, none] [] g) : ∀ (l1 : Int32) (l3 : Int32) (l4 : Int64) (l6 : Int32) (g : xG), f_X12_cut_60_179 k7 l1 l3 l4 l6 g = some out → xW k S 0 0 179 [some (.ref 60), some (.int l1), none, some (.int l3), some (.long l4), none, some (.int l6), none] [] g := by
  intro l1 l3 l4 l6 g H
  have H : ((f_X12_token_60 l6 l1 0 l4 g).bind fun w9 =>
k7 (l1 + l3) w9) = some out := H
  refine xb A [(.aload_n 0, 1, 0, 0, .null), (.iload 6, 2, 0, 0, .null), (.iload_n 1, 1, 0, 0, .null), (.iconst 0, 1, 0, 0, .int 0), (.lload 4, 2, 0, 0, .null)] (pc' := 186) (ls' := [some (.ref 60), some (.int l1), none, some (.int l3), some (.long l4), none, some (.int l6), none]) (st' := [.long l4, .int 0, .int l1, .int l6, .ref 60]) (g' := g) (by decide +kernel) rfl ?_
  obtain ⟨w9, e9, H⟩ := xbind H
  refine xcallV A (ix := 182) (nxt := 189) hrm hz [.int l6, .int l1, .int 0, .long l4] [] 1594 (c_X12_token_60 hS _ e9) ok_X12_token (by decide +kernel) rfl (fun r g1 hq => ?_)
  rw [hq.1, hq.2]
  show xW k S 0 0 189 [some (.ref 60), some (.int l1), none, some (.int l3), some (.long l4), none, some (.int l6), none] [] w9
  refine xb A [(.iload_n 1, 1, 0, 0, .null), (.iload_n 3, 1, 0, 0, .null), (.iadd, 1, 0, 0, .null), (.istore_n 1, 1, 0, 0, .null)] (pc' := 193) (ls' := [some (.ref 60), some (.int (l1 + l3)), none, some (.int l3), some (.long l4), none, some (.int l6), none]) (st' := []) (g' := w9) (by decide +kernel) rfl ?_
  refine xgoto A (98) 291 (by decide +kernel) ?_
  refine xgoto A (-284) 7 (by decide +kernel) ?_
  refine xweak (ls' := [some (.ref 60), some (.int (l1 + l3)), none, none, none, none, none, none]) (by exact ⟨rfl, ⟨rfl, trivial⟩⟩) ?_
  exact hk7 _ _ H
theorem fr_X12_cut_60_179 {k7 : Int32 → xG → Option (xG)} (hk7 : ∀ (l1 : Int32) (g : xG) (out : xG), k7 l1 g = some out → xfrm fp_X12_cut_60 g (out)) : ∀ (l1 : Int32) (l3 : Int32) (l4 : Int64) (l6 : Int32) (g : xG) (out : xG), f_X12_cut_60_179 k7 l1 l3 l4 l6 g = some out → xfrm fp_X12_cut_60 g (out) := by
  intro l1 l3 l4 l6 g out H
  have H : ((f_X12_token_60 l6 l1 0 l4 g).bind fun w9 =>
k7 (l1 + l3) w9) = some out := H
  obtain ⟨w9, e9, H⟩ := xbind H
  have hf5 : xfrm fp_X12_cut_60 g (w9) := xfrm.tr xfrm.rf (fr_X12_token_60 _ e9) rfl
  exact xfrm.tr hf5 (hk7 _ _ _ H) rfl
set_option maxRecDepth 20000 in
theorem t_X12_cut_60_146 {k : xK} {S : List xSh} {out : xG} (hS : xpf SH2 S) (A : xAt k mX12_cut.2.1 12 SH2 S) (hR : xRet k 0 0 S (fun r g' => r = none ∧ g' = out) mX12_cut.2.2.2) (hrm : xrm k = { frames := 2, cells := 0, slots := 0, locals := 49 }) (hz : xhs k = xb0 k + S.length) {k7 : Int32 → xG → Option (xG)} (hk7 : ∀ (l1 : Int32) (g : xG), k7 l1 g = some out → xW k S 0 0 7 [some (.ref 60), some (.int l1), none, none, none, none, none, none] [] g) : ∀ (n : Nat) (l1 : Int32) (l3 : Int32) (l4 : Int64) (l6 : Int32) (l7 : Int32) (g : xG), f_X12_cut_60_146 k7 n l1 l3 l4 l6 l7 g = some out → xW k S 0 0 146 [some (.ref 60), some (.int l1), none, some (.int l3), some (.long l4), none, some (.int l6), some (.int l7)] [] g := by
  intro n
  induction n with
  | zero => intro l1 l3 l4 l6 l7 g H; exact absurd H (by simp [f_X12_cut_60_146])
  | succ n ih =>
    intro l1 l3 l4 l6 l7 g H
    have H : (if 21 ≤ l7 then
  f_X12_cut_60_179 k7 l1 l3 l4 l6 g
else
  xg (¬ (l7 < 0 ∨ 21 ≤ l7.toNatClampNeg)) (
    if (lg_cmp (g.2 67 l7.toNatClampNeg) l4) = 0 then
      f_X12_cut_60_146 k7 n l1 l3 l4 (20 + l7) (l7 + 1) g
    else
      f_X12_cut_60_146 k7 n l1 l3 l4 l6 (l7 + 1) g)) = some out := H
    refine xb A [(.iload 7, 2, 0, 0, .null), (.bipush 21, 2, 0, 0, .int 21)] (pc' := 150) (ls' := [some (.ref 60), some (.int l1), none, some (.int l3), some (.long l4), none, some (.int l6), some (.int l7)]) (st' := [.int 21, .int l7]) (g' := g) (by decide +kernel) rfl ?_
    refine xic_ge A (29) 179 153 (by decide +kernel) (fun h15 => ?_) (fun h15 => ?_)
    · rw [if_pos h15] at H
      refine xweak (ls' := [some (.ref 60), some (.int l1), none, some (.int l3), some (.long l4), none, some (.int l6), none]) (by exact ⟨rfl, ⟨rfl, ⟨rfl, ⟨rfl, ⟨rfl, trivial⟩⟩⟩⟩⟩) ?_
      exact t_X12_cut_60_179 hS A hR hrm hz hk7 _ _ _ _ _ H
    · rw [if_neg h15] at H
      refine xb A [(.aload_n 0, 1, 0, 0, .null), (.getfield 34, 3, 60, 9, .ref 67), (.iload 7, 2, 0, 0, .null)] (pc' := 159) (ls' := [some (.ref 60), some (.int l1), none, some (.int l3), some (.long l4), none, some (.int l6), some (.int l7)]) (st' := [.int l7, .ref 67]) (g' := g) (by decide +kernel) rfl ?_
      obtain ⟨h16, H⟩ := xg_elim H
      refine xlald A (nxt := 160) (by decide +kernel) (hS _ _ sh_67) h16 ?_
      show xW k S 0 0 160 [some (.ref 60), some (.int l1), none, some (.int l3), some (.long l4), none, some (.int l6), some (.int l7)] [.long (g.2 67 l7.toNatClampNeg)] g
      refine xb A [(.lload 4, 2, 0, 0, .null), (.lcmp, 1, 0, 0, .null)] (pc' := 163) (ls' := [some (.ref 60), some (.int l1), none, some (.int l3), some (.long l4), none, some (.int l6), some (.int l7)]) (st' := [.int (lg_cmp (g.2 67 l7.toNatClampNeg) l4)]) (g' := g) (by decide +kernel) rfl ?_
      refine xif_ne A (10) 173 166 (by decide +kernel) (fun h17 => ?_) (fun h17 => ?_)
      · rw [if_neg h17] at H
        refine xb A [(.iinc 7 1, 3, 0, 0, .null)] (pc' := 176) (ls' := [some (.ref 60), some (.int l1), none, some (.int l3), some (.long l4), none, some (.int l6), some (.int (l7 + 1))]) (st' := []) (g' := g) (by decide +kernel) rfl ?_
        refine xgoto A (-30) 146 (by decide +kernel) ?_
        exact ih _ _ _ _ _ _ H
      · rw [if_pos h17] at H
        refine xb A [(.bipush 20, 2, 0, 0, .int 20), (.iload 7, 2, 0, 0, .null), (.iadd, 1, 0, 0, .null), (.istore 6, 2, 0, 0, .null), (.iinc 7 1, 3, 0, 0, .null)] (pc' := 176) (ls' := [some (.ref 60), some (.int l1), none, some (.int l3), some (.long l4), none, some (.int (20 + l7)), some (.int (l7 + 1))]) (st' := []) (g' := g) (by decide +kernel) rfl ?_
        refine xgoto A (-30) 146 (by decide +kernel) ?_
        exact ih _ _ _ _ _ _ H
theorem fr_X12_cut_60_146 {k7 : Int32 → xG → Option (xG)} (hk7 : ∀ (l1 : Int32) (g : xG) (out : xG), k7 l1 g = some out → xfrm fp_X12_cut_60 g (out)) : ∀ (n : Nat) (l1 : Int32) (l3 : Int32) (l4 : Int64) (l6 : Int32) (l7 : Int32) (g : xG) (out : xG), f_X12_cut_60_146 k7 n l1 l3 l4 l6 l7 g = some out → xfrm fp_X12_cut_60 g (out) := by
  intro n
  induction n with
  | zero => intro l1 l3 l4 l6 l7 g out H; exact absurd H (by simp [f_X12_cut_60_146])
  | succ n ih =>
    intro l1 l3 l4 l6 l7 g out H
    have H : (if 21 ≤ l7 then
  f_X12_cut_60_179 k7 l1 l3 l4 l6 g
else
  xg (¬ (l7 < 0 ∨ 21 ≤ l7.toNatClampNeg)) (
    if (lg_cmp (g.2 67 l7.toNatClampNeg) l4) = 0 then
      f_X12_cut_60_146 k7 n l1 l3 l4 (20 + l7) (l7 + 1) g
    else
      f_X12_cut_60_146 k7 n l1 l3 l4 l6 (l7 + 1) g)) = some out := H
    by_cases h15 : 21 ≤ l7
    · rw [if_pos h15] at H
      exact xfrm.tr xfrm.rf (fr_X12_cut_60_179 hk7 _ _ _ _ _ _ H) rfl
    · rw [if_neg h15] at H
      obtain ⟨h16, H⟩ := xg_elim H
      by_cases h17 : (lg_cmp (g.2 67 l7.toNatClampNeg) l4) = 0
      · rw [if_pos h17] at H
        exact xfrm.tr xfrm.rf (ih _ _ _ _ _ _ _ H) rfl
      · rw [if_neg h17] at H
        exact xfrm.tr xfrm.rf (ih _ _ _ _ _ _ _ H) rfl
set_option maxRecDepth 20000 in
theorem t_X12_cut_60_135 {k : xK} {S : List xSh} {out : xG} (hS : xpf SH2 S) (A : xAt k mX12_cut.2.1 12 SH2 S) (hR : xRet k 0 0 S (fun r g' => r = none ∧ g' = out) mX12_cut.2.2.2) (hrm : xrm k = { frames := 2, cells := 0, slots := 0, locals := 49 }) (hz : xhs k = xb0 k + S.length) {k7 : Int32 → xG → Option (xG)} (hk7 : ∀ (l1 : Int32) (g : xG), k7 l1 g = some out → xW k S 0 0 7 [some (.ref 60), some (.int l1), none, none, none, none, none, none] [] g) : ∀ (l1 : Int32) (l3 : Int32) (l4 : Int64) (s0 : Int32) (g : xG), f_X12_cut_60_135 k7 l1 l3 l4 s0 g = some out → xW k S 0 0 135 [some (.ref 60), some (.int l1), none, some (.int l3), some (.long l4), none, none, none] [.int s0] g := by
  intro l1 l3 l4 s0 g H
  have H : (if 8 < l3 then
  f_X12_cut_60_179 k7 l1 l3 l4 s0 g
else
  f_X12_cut_60_146 k7 xN l1 l3 l4 s0 0 g) = some out := H
  refine xb A [(.istore 6, 2, 0, 0, .null), (.iload_n 3, 1, 0, 0, .null), (.bipush 8, 2, 0, 0, .int 8)] (pc' := 140) (ls' := [some (.ref 60), some (.int l1), none, some (.int l3), some (.long l4), none, some (.int s0), none]) (st' := [.int 8, .int l3]) (g' := g) (by decide +kernel) rfl ?_
  refine xic_gt A (39) 179 143 (by decide +kernel) (fun h14 => ?_) (fun h14 => ?_)
  · rw [if_pos h14] at H
    exact t_X12_cut_60_179 hS A hR hrm hz hk7 _ _ _ _ _ H
  · rw [if_neg h14] at H
    refine xb A [(.iconst 0, 1, 0, 0, .int 0), (.istore 7, 2, 0, 0, .null)] (pc' := 146) (ls' := [some (.ref 60), some (.int l1), none, some (.int l3), some (.long l4), none, some (.int s0), some (.int 0)]) (st' := []) (g' := g) (by decide +kernel) rfl ?_
    exact t_X12_cut_60_146 hS A hR hrm hz hk7 _ _ _ _ _ _ _ H
theorem fr_X12_cut_60_135 {k7 : Int32 → xG → Option (xG)} (hk7 : ∀ (l1 : Int32) (g : xG) (out : xG), k7 l1 g = some out → xfrm fp_X12_cut_60 g (out)) : ∀ (l1 : Int32) (l3 : Int32) (l4 : Int64) (s0 : Int32) (g : xG) (out : xG), f_X12_cut_60_135 k7 l1 l3 l4 s0 g = some out → xfrm fp_X12_cut_60 g (out) := by
  intro l1 l3 l4 s0 g out H
  have H : (if 8 < l3 then
  f_X12_cut_60_179 k7 l1 l3 l4 s0 g
else
  f_X12_cut_60_146 k7 xN l1 l3 l4 s0 0 g) = some out := H
  by_cases h14 : 8 < l3
  · rw [if_pos h14] at H
    exact xfrm.tr xfrm.rf (fr_X12_cut_60_179 hk7 _ _ _ _ _ _ H) rfl
  · rw [if_neg h14] at H
    exact xfrm.tr xfrm.rf (fr_X12_cut_60_146 hk7 _ _ _ _ _ _ _ _ H) rfl
set_option maxRecDepth 20000 in
theorem t_X12_cut_60_85 {k : xK} {S : List xSh} {out : xG} (hS : xpf SH2 S) (A : xAt k mX12_cut.2.1 12 SH2 S) (hR : xRet k 0 0 S (fun r g' => r = none ∧ g' = out) mX12_cut.2.2.2) (hrm : xrm k = { frames := 2, cells := 0, slots := 0, locals := 49 }) (hz : xhs k = xb0 k + S.length) {k7 : Int32 → xG → Option (xG)} (hk7 : ∀ (l1 : Int32) (g : xG), k7 l1 g = some out → xW k S 0 0 7 [some (.ref 60), some (.int l1), none, none, none, none, none, none] [] g) : ∀ (n : Nat) (l1 : Int32) (l3 : Int32) (l4 : Int64) (g : xG), f_X12_cut_60_85 k7 n l1 l3 l4 g = some out → xW k S 0 0 85 [some (.ref 60), some (.int l1), none, some (.int l3), some (.long l4), none, none, none] [] g := by
  intro n
  induction n with
  | zero => intro l1 l3 l4 g H; exact absurd H (by simp [f_X12_cut_60_85])
  | succ n ih =>
    intro l1 l3 l4 g H
    have H : ((f_X12_byteAt_60 (l1 + l3) g).bind fun w8 =>
if (f_X12_isLetter w8) = 0 then
  if l3 ≤ 8 then
    f_X12_cut_60_135 k7 l1 l3 l4 1 g
  else
    f_X12_cut_60_135 k7 l1 l3 l4 3 g
else
  if 8 ≤ l3 then
    f_X12_cut_60_85 k7 n l1 (l3 + 1) l4 g
  else
    (f_X12_byteAt_60 (l1 + l3) g).bind fun w10 =>
    f_X12_cut_60_85 k7 n l1 (l3 + 1) (f_X12_appends l4 w10) g) = some out := H
    refine xb A [(.aload_n 0, 1, 0, 0, .null), (.iload_n 1, 1, 0, 0, .null), (.iload_n 3, 1, 0, 0, .null), (.iadd, 1, 0, 0, .null)] (pc' := 89) (ls' := [some (.ref 60), some (.int l1), none, some (.int l3), some (.long l4), none, none, none]) (st' := [.int (l1 + l3), .ref 60]) (g' := g) (by decide +kernel) rfl ?_
    obtain ⟨w8, e8, H⟩ := xbind H
    refine xcallV A (ix := 178) (nxt := 92) hrm hz [.int (l1 + l3)] [] 1590 (c_X12_byteAt_60 hS _ e8) ok_X12_byteAt (by decide +kernel) rfl (fun r g1 hq => ?_)
    rw [hq.1, hq.2]
    show xW k S 0 0 92 [some (.ref 60), some (.int l1), none, some (.int l3), some (.long l4), none, none, none] [.int w8] g
    refine xcallS A (ix := 186) (nxt := 95) hrm hz [.int w8] [] 1598 (c_X12_isLetter hS _ rfl) ok_X12_isLetter (by decide +kernel) rfl (fun r g1 hq => ?_)
    rw [hq.1, hq.2]
    show xW k S 0 0 95 [some (.ref 60), some (.int l1), none, some (.int l3), some (.long l4), none, none, none] [.int (f_X12_isLetter w8)] g
    refine xif_eq A (29) 124 98 (by decide +kernel) (fun h12 => ?_) (fun h12 => ?_)
    · rw [if_pos h12] at H
      refine xb A [(.iload_n 3, 1, 0, 0, .null), (.bipush 8, 2, 0, 0, .int 8)] (pc' := 127) (ls' := [some (.ref 60), some (.int l1), none, some (.int l3), some (.long l4), none, none, none]) (st' := [.int 8, .int l3]) (g' := g) (by decide +kernel) rfl ?_
      refine xic_le A (7) 134 130 (by decide +kernel) (fun h13 => ?_) (fun h13 => ?_)
      · rw [if_pos h13] at H
        refine xb A [(.iconst 1, 1, 0, 0, .int 1)] (pc' := 135) (ls' := [some (.ref 60), some (.int l1), none, some (.int l3), some (.long l4), none, none, none]) (st' := [.int 1]) (g' := g) (by decide +kernel) rfl ?_
        exact t_X12_cut_60_135 hS A hR hrm hz hk7 _ _ _ _ _ H
      · rw [if_neg h13] at H
        refine xb A [(.iconst 3, 1, 0, 0, .int 3)] (pc' := 131) (ls' := [some (.ref 60), some (.int l1), none, some (.int l3), some (.long l4), none, none, none]) (st' := [.int 3]) (g' := g) (by decide +kernel) rfl ?_
        refine xgoto A (4) 135 (by decide +kernel) ?_
        exact t_X12_cut_60_135 hS A hR hrm hz hk7 _ _ _ _ _ H
    · rw [if_neg h12] at H
      refine xb A [(.iload_n 3, 1, 0, 0, .null), (.bipush 8, 2, 0, 0, .int 8)] (pc' := 101) (ls' := [some (.ref 60), some (.int l1), none, some (.int l3), some (.long l4), none, none, none]) (st' := [.int 8, .int l3]) (g' := g) (by decide +kernel) rfl ?_
      refine xic_ge A (17) 118 104 (by decide +kernel) (fun h18 => ?_) (fun h18 => ?_)
      · rw [if_pos h18] at H
        refine xb A [(.iinc 3 1, 3, 0, 0, .null)] (pc' := 121) (ls' := [some (.ref 60), some (.int l1), none, some (.int (l3 + 1)), some (.long l4), none, none, none]) (st' := []) (g' := g) (by decide +kernel) rfl ?_
        refine xgoto A (-36) 85 (by decide +kernel) ?_
        exact ih _ _ _ _ H
      · rw [if_neg h18] at H
        refine xb A [(.lload 4, 2, 0, 0, .null), (.aload_n 0, 1, 0, 0, .null), (.iload_n 1, 1, 0, 0, .null), (.iload_n 3, 1, 0, 0, .null), (.iadd, 1, 0, 0, .null)] (pc' := 110) (ls' := [some (.ref 60), some (.int l1), none, some (.int l3), some (.long l4), none, none, none]) (st' := [.int (l1 + l3), .ref 60, .long l4]) (g' := g) (by decide +kernel) rfl ?_
        obtain ⟨w10, e10, H⟩ := xbind H
        refine xcallV A (ix := 178) (nxt := 113) hrm hz [.int (l1 + l3)] [.long l4] 1590 (c_X12_byteAt_60 hS _ e10) ok_X12_byteAt (by decide +kernel) rfl (fun r g1 hq => ?_)
        rw [hq.1, hq.2]
        show xW k S 0 0 113 [some (.ref 60), some (.int l1), none, some (.int l3), some (.long l4), none, none, none] [.int w10, .long l4] g
        refine xcallS A (ix := 171) (nxt := 116) hrm hz [.long l4, .int w10] [] 1366 (c_X12_appends hS _ rfl) ok_X12_appends (by decide +kernel) rfl (fun r g1 hq => ?_)
        rw [hq.1, hq.2]
        show xW k S 0 0 116 [some (.ref 60), some (.int l1), none, some (.int l3), some (.long l4), none, none, none] [.long (f_X12_appends l4 w10)] g
        refine xb A [(.lstore 4, 2, 0, 0, .null), (.iinc 3 1, 3, 0, 0, .null)] (pc' := 121) (ls' := [some (.ref 60), some (.int l1), none, some (.int (l3 + 1)), some (.long (f_X12_appends l4 w10)), none, none, none]) (st' := []) (g' := g) (by decide +kernel) rfl ?_
        refine xgoto A (-36) 85 (by decide +kernel) ?_
        exact ih _ _ _ _ H
theorem fr_X12_cut_60_85 {k7 : Int32 → xG → Option (xG)} (hk7 : ∀ (l1 : Int32) (g : xG) (out : xG), k7 l1 g = some out → xfrm fp_X12_cut_60 g (out)) : ∀ (n : Nat) (l1 : Int32) (l3 : Int32) (l4 : Int64) (g : xG) (out : xG), f_X12_cut_60_85 k7 n l1 l3 l4 g = some out → xfrm fp_X12_cut_60 g (out) := by
  intro n
  induction n with
  | zero => intro l1 l3 l4 g out H; exact absurd H (by simp [f_X12_cut_60_85])
  | succ n ih =>
    intro l1 l3 l4 g out H
    have H : ((f_X12_byteAt_60 (l1 + l3) g).bind fun w8 =>
if (f_X12_isLetter w8) = 0 then
  if l3 ≤ 8 then
    f_X12_cut_60_135 k7 l1 l3 l4 1 g
  else
    f_X12_cut_60_135 k7 l1 l3 l4 3 g
else
  if 8 ≤ l3 then
    f_X12_cut_60_85 k7 n l1 (l3 + 1) l4 g
  else
    (f_X12_byteAt_60 (l1 + l3) g).bind fun w10 =>
    f_X12_cut_60_85 k7 n l1 (l3 + 1) (f_X12_appends l4 w10) g) = some out := H
    obtain ⟨w8, e8, H⟩ := xbind H
    by_cases h12 : (f_X12_isLetter w8) = 0
    · rw [if_pos h12] at H
      by_cases h13 : l3 ≤ 8
      · rw [if_pos h13] at H
        exact xfrm.tr xfrm.rf (fr_X12_cut_60_135 hk7 _ _ _ _ _ _ H) rfl
      · rw [if_neg h13] at H
        exact xfrm.tr xfrm.rf (fr_X12_cut_60_135 hk7 _ _ _ _ _ _ H) rfl
    · rw [if_neg h12] at H
      by_cases h18 : 8 ≤ l3
      · rw [if_pos h18] at H
        exact xfrm.tr xfrm.rf (ih _ _ _ _ _ H) rfl
      · rw [if_neg h18] at H
        obtain ⟨w10, e10, H⟩ := xbind H
        exact xfrm.tr xfrm.rf (ih _ _ _ _ _ H) rfl
set_option maxRecDepth 20000 in
theorem t_X12_cut_60_7 {k : xK} {S : List xSh} {out : xG} (hS : xpf SH2 S) (A : xAt k mX12_cut.2.1 12 SH2 S) (hR : xRet k 0 0 S (fun r g' => r = none ∧ g' = out) mX12_cut.2.2.2) (hrm : xrm k = { frames := 2, cells := 0, slots := 0, locals := 49 }) (hz : xhs k = xb0 k + S.length)   : ∀ (n : Nat) (l1 : Int32) (g : xG), f_X12_cut_60_7 n l1 g = some out → xW k S 0 0 7 [some (.ref 60), some (.int l1), none, none, none, none, none, none] [] g := by
  intro n
  induction n with
  | zero => intro l1 g H; exact absurd H (by simp [f_X12_cut_60_7])
  | succ n ih =>
    intro l1 g H
    have H : (if 400 < (g.1 60 10) then
  some g
else
  (f_X12_byteAt_60 l1 g).bind fun w1 =>
  if l1 < (g.1 60 4) then
    if w1 = 9 then
      f_X12_cut_60_7 n (l1 + 1) g
    else
      if w1 = 10 then
        f_X12_cut_60_7 n (l1 + 1) g
      else
        if w1 = 13 then
          f_X12_cut_60_7 n (l1 + 1) g
        else
          if w1 = 32 then
            f_X12_cut_60_7 n (l1 + 1) g
          else
            if (f_X12_isLetter w1) = 0 then
              if (f_X12_isDigit w1) = 0 then
                (f_X12_byteAt_60 (l1 + 1) g).bind fun w2 =>
                (f_X12_sign_60 l1 w1 w2 g).bind fun w3 =>
                f_X12_cut_60_7 n (l1 + w3.1) w3.2
              else
                f_X12_cut_60_208 (f_X12_cut_60_7 n) xN l1 0 0 g
            else
              f_X12_cut_60_85 (f_X12_cut_60_7 n) xN l1 0 0 g
  else
    (f_X12_token_60 0 (g.1 60 4) 0 0 g).bind fun w11 =>
    some w11) = some out := H
    refine xb A [(.aload_n 0, 1, 0, 0, .null), (.getfield 175, 3, 60, 10, .int 0), (.sipush 400, 3, 0, 0, .int 400)] (pc' := 14) (ls' := [some (.ref 60), some (.int l1), none, none, none, none, none, none]) (st' := [.int 400, .int (g.1 60 10)]) (g' := g) (by decide +kernel) rfl ?_
    refine xic_gt A (280) 294 17 (by decide +kernel) (fun h1 => ?_) (fun h1 => ?_)
    · rw [if_pos h1] at H
      obtain rfl := Option.some.inj H
      exact xret_v A hR hz (by decide +kernel) ⟨rfl, rfl⟩
    · rw [if_neg h1] at H
      refine xb A [(.aload_n 0, 1, 0, 0, .null), (.iload_n 1, 1, 0, 0, .null)] (pc' := 19) (ls' := [some (.ref 60), some (.int l1), none, none, none, none, none, none]) (st' := [.int l1, .ref 60]) (g' := g) (by decide +kernel) rfl ?_
      obtain ⟨w1, e1, H⟩ := xbind H
      refine xcallV A (ix := 178) (nxt := 22) hrm hz [.int l1] [] 1590 (c_X12_byteAt_60 hS _ e1) ok_X12_byteAt (by decide +kernel) rfl (fun r g1 hq => ?_)
      rw [hq.1, hq.2]
      show xW k S 0 0 22 [some (.ref 60), some (.int l1), none, none, none, none, none, none] [.int w1] g
      refine xb A [(.istore_n 2, 1, 0, 0, .null), (.iload_n 1, 1, 0, 0, .null), (.aload_n 0, 1, 0, 0, .null), (.getfield 166, 3, 60, 4, .int 0)] (pc' := 28) (ls' := [some (.ref 60), some (.int l1), some (.int w1), none, none, none, none, none]) (st' := [.int (g.1 60 4), .int l1]) (g' := g) (by decide +kernel) rfl ?_
      refine xic_lt A (15) 43 31 (by decide +kernel) (fun h2 => ?_) (fun h2 => ?_)
      · rw [if_pos h2] at H
        refine xb A [(.iload_n 2, 1, 0, 0, .null), (.bipush 9, 2, 0, 0, .int 9)] (pc' := 46) (ls' := [some (.ref 60), some (.int l1), some (.int w1), none, none, none, none, none]) (st' := [.int 9, .int w1]) (g' := g) (by decide +kernel) rfl ?_
        refine xic_eq A (21) 67 49 (by decide +kernel) (fun h3 => ?_) (fun h3 => ?_)
        · rw [if_pos h3] at H
          refine xb A [(.iinc 1 1, 3, 0, 0, .null)] (pc' := 70) (ls' := [some (.ref 60), some (.int (l1 + 1)), some (.int w1), none, none, none, none, none]) (st' := []) (g' := g) (by decide +kernel) rfl ?_
          refine xgoto A (221) 291 (by decide +kernel) ?_
          refine xgoto A (-284) 7 (by decide +kernel) ?_
          refine xweak (ls' := [some (.ref 60), some (.int (l1 + 1)), none, none, none, none, none, none]) (by exact ⟨rfl, ⟨rfl, trivial⟩⟩) ?_
          exact ih _ _ H
        · rw [if_neg h3] at H
          refine xb A [(.iload_n 2, 1, 0, 0, .null), (.bipush 10, 2, 0, 0, .int 10)] (pc' := 52) (ls' := [some (.ref 60), some (.int l1), some (.int w1), none, none, none, none, none]) (st' := [.int 10, .int w1]) (g' := g) (by decide +kernel) rfl ?_
          refine xic_eq A (15) 67 55 (by decide +kernel) (fun h4 => ?_) (fun h4 => ?_)
          · rw [if_pos h4] at H
            refine xb A [(.iinc 1 1, 3, 0, 0, .null)] (pc' := 70) (ls' := [some (.ref 60), some (.int (l1 + 1)), some (.int w1), none, none, none, none, none]) (st' := []) (g' := g) (by decide +kernel) rfl ?_
            refine xgoto A (221) 291 (by decide +kernel) ?_
            refine xgoto A (-284) 7 (by decide +kernel) ?_
            refine xweak (ls' := [some (.ref 60), some (.int (l1 + 1)), none, none, none, none, none, none]) (by exact ⟨rfl, ⟨rfl, trivial⟩⟩) ?_
            exact ih _ _ H
          · rw [if_neg h4] at H
            refine xb A [(.iload_n 2, 1, 0, 0, .null), (.bipush 13, 2, 0, 0, .int 13)] (pc' := 58) (ls' := [some (.ref 60), some (.int l1), some (.int w1), none, none, none, none, none]) (st' := [.int 13, .int w1]) (g' := g) (by decide +kernel) rfl ?_
            refine xic_eq A (9) 67 61 (by decide +kernel) (fun h5 => ?_) (fun h5 => ?_)
            · rw [if_pos h5] at H
              refine xb A [(.iinc 1 1, 3, 0, 0, .null)] (pc' := 70) (ls' := [some (.ref 60), some (.int (l1 + 1)), some (.int w1), none, none, none, none, none]) (st' := []) (g' := g) (by decide +kernel) rfl ?_
              refine xgoto A (221) 291 (by decide +kernel) ?_
              refine xgoto A (-284) 7 (by decide +kernel) ?_
              refine xweak (ls' := [some (.ref 60), some (.int (l1 + 1)), none, none, none, none, none, none]) (by exact ⟨rfl, ⟨rfl, trivial⟩⟩) ?_
              exact ih _ _ H
            · rw [if_neg h5] at H
              refine xb A [(.iload_n 2, 1, 0, 0, .null), (.bipush 32, 2, 0, 0, .int 32)] (pc' := 64) (ls' := [some (.ref 60), some (.int l1), some (.int w1), none, none, none, none, none]) (st' := [.int 32, .int w1]) (g' := g) (by decide +kernel) rfl ?_
              refine xic_ne A (9) 73 67 (by decide +kernel) (fun h6 => ?_) (fun h6 => ?_)
              · rw [if_neg h6] at H
                refine xb A [(.iload_n 2, 1, 0, 0, .null)] (pc' := 74) (ls' := [some (.ref 60), some (.int l1), some (.int w1), none, none, none, none, none]) (st' := [.int w1]) (g' := g) (by decide +kernel) rfl ?_
                refine xcallS A (ix := 186) (nxt := 77) hrm hz [.int w1] [] 1598 (c_X12_isLetter hS _ rfl) ok_X12_isLetter (by decide +kernel) rfl (fun r g1 hq => ?_)
                rw [hq.1, hq.2]
                show xW k S 0 0 77 [some (.ref 60), some (.int l1), some (.int w1), none, none, none, none, none] [.int (f_X12_isLetter w1)] g
                refine xif_eq A (119) 196 80 (by decide +kernel) (fun h7 => ?_) (fun h7 => ?_)
                · rw [if_pos h7] at H
                  refine xb A [(.iload_n 2, 1, 0, 0, .null)] (pc' := 197) (ls' := [some (.ref 60), some (.int l1), some (.int w1), none, none, none, none, none]) (st' := [.int w1]) (g' := g) (by decide +kernel) rfl ?_
                  refine xcallS A (ix := 190) (nxt := 200) hrm hz [.int w1] [] 1601 (c_X12_isDigit hS _ rfl) ok_X12_isDigit (by decide +kernel) rfl (fun r g1 hq => ?_)
                  rw [hq.1, hq.2]
                  show xW k S 0 0 200 [some (.ref 60), some (.int l1), some (.int w1), none, none, none, none, none] [.int (f_X12_isDigit w1)] g
                  refine xif_eq A (75) 275 203 (by decide +kernel) (fun h8 => ?_) (fun h8 => ?_)
                  · rw [if_pos h8] at H
                    refine xb A [(.iload_n 1, 1, 0, 0, .null), (.aload_n 0, 1, 0, 0, .null), (.iload_n 1, 1, 0, 0, .null), (.iload_n 2, 1, 0, 0, .null), (.aload_n 0, 1, 0, 0, .null), (.iload_n 1, 1, 0, 0, .null), (.iconst 1, 1, 0, 0, .int 1), (.iadd, 1, 0, 0, .null)] (pc' := 283) (ls' := [some (.ref 60), some (.int l1), some (.int w1), none, none, none, none, none]) (st' := [.int (l1 + 1), .ref 60, .int w1, .int l1, .ref 60, .int l1]) (g' := g) (by decide +kernel) rfl ?_
                    obtain ⟨w2, e2, H⟩ := xbind H
                    refine xcallV A (ix := 178) (nxt := 286) hrm hz [.int (l1 + 1)] [.int w1, .int l1, .ref 60, .int l1] 1590 (c_X12_byteAt_60 hS _ e2) ok_X12_byteAt (by decide +kernel) rfl (fun r g1 hq => ?_)
                    rw [hq.1, hq.2]
                    show xW k S 0 0 286 [some (.ref 60), some (.int l1), some (.int w1), none, none, none, none, none] [.int w2, .int w1, .int l1, .ref 60, .int l1] g
                    obtain ⟨w3, e3, H⟩ := xbind H
                    refine xcallV A (ix := 193) (nxt := 289) hrm hz [.int l1, .int w1, .int w2] [.int l1] 1604 (c_X12_sign_60 hS _ e3) ok_X12_sign (by decide +kernel) rfl (fun r g1 hq => ?_)
                    rw [hq.1, hq.2]
                    show xW k S 0 0 289 [some (.ref 60), some (.int l1), some (.int w1), none, none, none, none, none] [.int w3.1, .int l1] w3.2
                    refine xb A [(.iadd, 1, 0, 0, .null), (.istore_n 1, 1, 0, 0, .null)] (pc' := 291) (ls' := [some (.ref 60), some (.int (l1 + w3.1)), some (.int w1), none, none, none, none, none]) (st' := []) (g' := w3.2) (by decide +kernel) rfl ?_
                    refine xgoto A (-284) 7 (by decide +kernel) ?_
                    refine xweak (ls' := [some (.ref 60), some (.int (l1 + w3.1)), none, none, none, none, none, none]) (by exact ⟨rfl, ⟨rfl, trivial⟩⟩) ?_
                    exact ih _ _ H
                  · rw [if_neg h8] at H
                    refine xb A [(.iconst 0, 1, 0, 0, .int 0), (.istore_n 3, 1, 0, 0, .null), (.iconst 0, 1, 0, 0, .int 0), (.istore 4, 2, 0, 0, .null)] (pc' := 208) (ls' := [some (.ref 60), some (.int l1), some (.int w1), some (.int 0), some (.int 0), none, none, none]) (st' := []) (g' := g) (by decide +kernel) rfl ?_
                    refine xweak (ls' := [some (.ref 60), some (.int l1), none, some (.int 0), some (.int 0), none, none, none]) (by exact ⟨rfl, ⟨rfl, ⟨rfl, ⟨rfl, trivial⟩⟩⟩⟩) ?_
                    exact t_X12_cut_60_208 hS A hR hrm hz ih _ _ _ _ _ H
                · rw [if_neg h7] at H
                  refine xb A [(.iconst 0, 1, 0, 0, .int 0), (.istore_n 3, 1, 0, 0, .null), (.lconst 0, 1, 0, 0, .long 0), (.lstore 4, 2, 0, 0, .null)] (pc' := 85) (ls' := [some (.ref 60), some (.int l1), some (.int w1), some (.int 0), some (.long 0), none, none, none]) (st' := []) (g' := g) (by decide +kernel) rfl ?_
                  refine xweak (ls' := [some (.ref 60), some (.int l1), none, some (.int 0), some (.long 0), none, none, none]) (by exact ⟨rfl, ⟨rfl, ⟨rfl, ⟨rfl, trivial⟩⟩⟩⟩) ?_
                  exact t_X12_cut_60_85 hS A hR hrm hz ih _ _ _ _ _ H
              · rw [if_pos h6] at H
                refine xb A [(.iinc 1 1, 3, 0, 0, .null)] (pc' := 70) (ls' := [some (.ref 60), some (.int (l1 + 1)), some (.int w1), none, none, none, none, none]) (st' := []) (g' := g) (by decide +kernel) rfl ?_
                refine xgoto A (221) 291 (by decide +kernel) ?_
                refine xgoto A (-284) 7 (by decide +kernel) ?_
                refine xweak (ls' := [some (.ref 60), some (.int (l1 + 1)), none, none, none, none, none, none]) (by exact ⟨rfl, ⟨rfl, trivial⟩⟩) ?_
                exact ih _ _ H
      · rw [if_neg h2] at H
        refine xb A [(.aload_n 0, 1, 0, 0, .null), (.iconst 0, 1, 0, 0, .int 0), (.aload_n 0, 1, 0, 0, .null), (.getfield 166, 3, 60, 4, .int 0), (.iconst 0, 1, 0, 0, .int 0), (.lconst 0, 1, 0, 0, .long 0)] (pc' := 39) (ls' := [some (.ref 60), some (.int l1), some (.int w1), none, none, none, none, none]) (st' := [.long 0, .int 0, .int (g.1 60 4), .int 0, .ref 60]) (g' := g) (by decide +kernel) rfl ?_
        obtain ⟨w11, e11, H⟩ := xbind H
        refine xcallV A (ix := 182) (nxt := 42) hrm hz [.int 0, .int (g.1 60 4), .int 0, .long 0] [] 1594 (c_X12_token_60 hS _ e11) ok_X12_token (by decide +kernel) rfl (fun r g1 hq => ?_)
        rw [hq.1, hq.2]
        show xW k S 0 0 42 [some (.ref 60), some (.int l1), some (.int w1), none, none, none, none, none] [] w11
        obtain rfl := Option.some.inj H
        exact xret_v A hR hz (by decide +kernel) ⟨rfl, rfl⟩
theorem fr_X12_cut_60_7   : ∀ (n : Nat) (l1 : Int32) (g : xG) (out : xG), f_X12_cut_60_7 n l1 g = some out → xfrm fp_X12_cut_60 g (out) := by
  intro n
  induction n with
  | zero => intro l1 g out H; exact absurd H (by simp [f_X12_cut_60_7])
  | succ n ih =>
    intro l1 g out H
    have H : (if 400 < (g.1 60 10) then
  some g
else
  (f_X12_byteAt_60 l1 g).bind fun w1 =>
  if l1 < (g.1 60 4) then
    if w1 = 9 then
      f_X12_cut_60_7 n (l1 + 1) g
    else
      if w1 = 10 then
        f_X12_cut_60_7 n (l1 + 1) g
      else
        if w1 = 13 then
          f_X12_cut_60_7 n (l1 + 1) g
        else
          if w1 = 32 then
            f_X12_cut_60_7 n (l1 + 1) g
          else
            if (f_X12_isLetter w1) = 0 then
              if (f_X12_isDigit w1) = 0 then
                (f_X12_byteAt_60 (l1 + 1) g).bind fun w2 =>
                (f_X12_sign_60 l1 w1 w2 g).bind fun w3 =>
                f_X12_cut_60_7 n (l1 + w3.1) w3.2
              else
                f_X12_cut_60_208 (f_X12_cut_60_7 n) xN l1 0 0 g
            else
              f_X12_cut_60_85 (f_X12_cut_60_7 n) xN l1 0 0 g
  else
    (f_X12_token_60 0 (g.1 60 4) 0 0 g).bind fun w11 =>
    some w11) = some out := H
    by_cases h1 : 400 < (g.1 60 10)
    · rw [if_pos h1] at H
      obtain rfl := Option.some.inj H
      exact xfrm.rf
    · rw [if_neg h1] at H
      obtain ⟨w1, e1, H⟩ := xbind H
      by_cases h2 : l1 < (g.1 60 4)
      · rw [if_pos h2] at H
        by_cases h3 : w1 = 9
        · rw [if_pos h3] at H
          exact xfrm.tr xfrm.rf (ih _ _ _ H) rfl
        · rw [if_neg h3] at H
          by_cases h4 : w1 = 10
          · rw [if_pos h4] at H
            exact xfrm.tr xfrm.rf (ih _ _ _ H) rfl
          · rw [if_neg h4] at H
            by_cases h5 : w1 = 13
            · rw [if_pos h5] at H
              exact xfrm.tr xfrm.rf (ih _ _ _ H) rfl
            · rw [if_neg h5] at H
              by_cases h6 : w1 = 32
              · rw [if_pos h6] at H
                exact xfrm.tr xfrm.rf (ih _ _ _ H) rfl
              · rw [if_neg h6] at H
                by_cases h7 : (f_X12_isLetter w1) = 0
                · rw [if_pos h7] at H
                  by_cases h8 : (f_X12_isDigit w1) = 0
                  · rw [if_pos h8] at H
                    obtain ⟨w2, e2, H⟩ := xbind H
                    obtain ⟨w3, e3, H⟩ := xbind H
                    have hf2 : xfrm fp_X12_cut_60 g (w3.2) := xfrm.tr xfrm.rf (fr_X12_sign_60 _ e3) rfl
                    exact xfrm.tr hf2 (ih _ _ _ H) rfl
                  · rw [if_neg h8] at H
                    exact xfrm.tr xfrm.rf (fr_X12_cut_60_208 ih _ _ _ _ _ _ H) rfl
                · rw [if_neg h7] at H
                  exact xfrm.tr xfrm.rf (fr_X12_cut_60_85 ih _ _ _ _ _ _ H) rfl
      · rw [if_neg h2] at H
        obtain ⟨w11, e11, H⟩ := xbind H
        have hf6 : xfrm fp_X12_cut_60 g (w11) := xfrm.tr xfrm.rf (fr_X12_token_60 _ e11) rfl
        obtain rfl := Option.some.inj H
        exact hf6
set_option maxRecDepth 20000 in
theorem c_X12_cut_60 {S : List xSh} (hS : xpf SH2 S) {g : xG}  (out : xG) (H : f_X12_cut_60  g = some out) : xC mX12_cut 2 49 0 0 S [.ref 60] g S (fun r g' => r = none ∧ g' = out) := by
  have H : (f_X12_cut_60_7 xN 0 (xupd g.1 60 10 0, g.2)) = some out := H
  refine xC.of 12 SH2 [some (.ref 60), none, none, none, none, none, none, none] hS (by decide +kernel) rfl (fun _ _ => Nat.le_of_ble_eq_true rfl) (fun _ _ => rfl) ?_
  intro k A hR hrm hz
  refine xb A [(.aload_n 0, 1, 0, 0, .null), (.iconst 0, 1, 0, 0, .int 0), (.putfield 175, 3, 60, 10, .int 0), (.iconst 0, 1, 0, 0, .int 0), (.istore_n 1, 1, 0, 0, .null)] (pc' := 7) (ls' := [some (.ref 60), some (.int 0), none, none, none, none, none, none]) (st' := []) (g' := (xupd g.1 60 10 0, g.2)) (by decide +kernel) rfl ?_
  exact t_X12_cut_60_7 hS A hR hrm hz _ _ _ H
theorem fr_X12_cut_60  {g : xG} (out : xG) (H : f_X12_cut_60  g = some out) : xfrm fp_X12_cut_60 g (out) := by
  have H : (f_X12_cut_60_7 xN 0 (xupd g.1 60 10 0, g.2)) = some out := H
  have hf1 : xfrm fp_X12_cut_60 g ((xupd g.1 60 10 0, g.2)) := xfrm.up xfrm.rf rfl
  exact xfrm.tr hf1 (fr_X12_cut_60_7 _ _ _ _ H) rfl
def fp_X12_plain_60 : List (Nat × Option Nat) := [(70, none), (71, none), (75, none), (79, none), (80, none), (81, none), (82, none)]
def f_X12_plain_60_37  : Nat → Int32 → Int32 → xG → Option (xG)
  | 0, _, _, _ => none
  | n + 1, l1, l2, g =>
    if 4 ≤ l2 then
      some g
    else
      xg (¬ (((4 * l1) + l2) < 0 ∨ 8 ≤ ((4 * l1) + l2).toNatClampNeg)) (
        xg (¬ (((4 * l1) + l2) < 0 ∨ 8 ≤ ((4 * l1) + l2).toNatClampNeg)) (
          f_X12_plain_60_37 n l1 (l2 + 1) (xupd (xupd g.1 81 ((4 * l1) + l2).toNatClampNeg 0) 82 ((4 * l1) + l2).toNatClampNeg 0, g.2)))
def f_X12_plain_60 (p1 : Int32) (g : xG) : Option (xG) :=
  xg (¬ (p1 < 0 ∨ 2 ≤ p1.toNatClampNeg)) (
    xg (¬ (p1 < 0 ∨ 2 ≤ p1.toNatClampNeg)) (
      xg (¬ (p1 < 0 ∨ 2 ≤ p1.toNatClampNeg)) (
        xg (¬ (p1 < 0 ∨ 2 ≤ p1.toNatClampNeg)) (
          xg (¬ (p1 < 0 ∨ 2 ≤ p1.toNatClampNeg)) (
            f_X12_plain_60_37 xN p1 0 (xupd (xupd (xupd (xupd (xupd g.1 70 p1.toNatClampNeg 0) 71 p1.toNatClampNeg 0) 75 p1.toNatClampNeg 0) 79 p1.toNatClampNeg 0) 80 p1.toNatClampNeg 0, g.2))))))
set_option maxRecDepth 20000 in
theorem t_X12_plain_60_37 {k : xK} {S : List xSh} {out : xG} (hS : xpf SH2 S) (A : xAt k mX12_plain.2.1 12 SH2 S) (hR : xRet k 0 0 S (fun r g' => r = none ∧ g' = out) mX12_plain.2.2.2) (hrm : xrm k = { frames := 0, cells := 0, slots := 0, locals := 0 }) (hz : xhs k = xb0 k + S.length)   : ∀ (n : Nat) (l1 : Int32) (l2 : Int32) (g : xG), f_X12_plain_60_37 n l1 l2 g = some out → xW k S 0 0 37 [some (.ref 60), some (.int l1), some (.int l2)] [] g := by
  intro n
  induction n with
  | zero => intro l1 l2 g H; exact absurd H (by simp [f_X12_plain_60_37])
  | succ n ih =>
    intro l1 l2 g H
    have H : (if 4 ≤ l2 then
  some g
else
  xg (¬ (((4 * l1) + l2) < 0 ∨ 8 ≤ ((4 * l1) + l2).toNatClampNeg)) (
    xg (¬ (((4 * l1) + l2) < 0 ∨ 8 ≤ ((4 * l1) + l2).toNatClampNeg)) (
      f_X12_plain_60_37 n l1 (l2 + 1) (xupd (xupd g.1 81 ((4 * l1) + l2).toNatClampNeg 0) 82 ((4 * l1) + l2).toNatClampNeg 0, g.2)))) = some out := H
    refine xb A [(.iload_n 2, 1, 0, 0, .null), (.iconst 4, 1, 0, 0, .int 4)] (pc' := 39) (ls' := [some (.ref 60), some (.int l1), some (.int l2)]) (st' := [.int 4, .int l2]) (g' := g) (by decide +kernel) rfl ?_
    refine xic_ge A (31) 70 42 (by decide +kernel) (fun h6 => ?_) (fun h6 => ?_)
    · rw [if_pos h6] at H
      obtain rfl := Option.some.inj H
      exact xret_v A hR hz (by decide +kernel) ⟨rfl, rfl⟩
    · rw [if_neg h6] at H
      refine xb A [(.aload_n 0, 1, 0, 0, .null), (.getfield 79, 3, 60, 34, .ref 81), (.iconst 4, 1, 0, 0, .int 4), (.iload_n 1, 1, 0, 0, .null), (.imul, 1, 0, 0, .null), (.iload_n 2, 1, 0, 0, .null), (.iadd, 1, 0, 0, .null), (.iconst 0, 1, 0, 0, .int 0)] (pc' := 52) (ls' := [some (.ref 60), some (.int l1), some (.int l2)]) (st' := [.int 0, .int ((4 * l1) + l2), .ref 81]) (g' := g) (by decide +kernel) rfl ?_
      obtain ⟨h7, H⟩ := xg_elim H
      refine xiast A (nxt := 53) (by decide +kernel) (hS _ _ sh_81) h7 ?_
      show xW k S 0 0 53 [some (.ref 60), some (.int l1), some (.int l2)] [] (xupd g.1 81 ((4 * l1) + l2).toNatClampNeg 0, g.2)
      refine xb A [(.aload_n 0, 1, 0, 0, .null), (.getfield 82, 3, 60, 35, .ref 82), (.iconst 4, 1, 0, 0, .int 4), (.iload_n 1, 1, 0, 0, .null), (.imul, 1, 0, 0, .null), (.iload_n 2, 1, 0, 0, .null), (.iadd, 1, 0, 0, .null), (.iconst 0, 1, 0, 0, .int 0)] (pc' := 63) (ls' := [some (.ref 60), some (.int l1), some (.int l2)]) (st' := [.int 0, .int ((4 * l1) + l2), .ref 82]) (g' := (xupd g.1 81 ((4 * l1) + l2).toNatClampNeg 0, g.2)) (by decide +kernel) rfl ?_
      obtain ⟨h8, H⟩ := xg_elim H
      refine xiast A (nxt := 64) (by decide +kernel) (hS _ _ sh_82) h8 ?_
      show xW k S 0 0 64 [some (.ref 60), some (.int l1), some (.int l2)] [] (xupd (xupd g.1 81 ((4 * l1) + l2).toNatClampNeg 0) 82 ((4 * l1) + l2).toNatClampNeg 0, g.2)
      refine xb A [(.iinc 2 1, 3, 0, 0, .null)] (pc' := 67) (ls' := [some (.ref 60), some (.int l1), some (.int (l2 + 1))]) (st' := []) (g' := (xupd (xupd g.1 81 ((4 * l1) + l2).toNatClampNeg 0) 82 ((4 * l1) + l2).toNatClampNeg 0, g.2)) (by decide +kernel) rfl ?_
      refine xgoto A (-30) 37 (by decide +kernel) ?_
      exact ih _ _ _ H
theorem fr_X12_plain_60_37   : ∀ (n : Nat) (l1 : Int32) (l2 : Int32) (g : xG) (out : xG), f_X12_plain_60_37 n l1 l2 g = some out → xfrm fp_X12_plain_60 g (out) := by
  intro n
  induction n with
  | zero => intro l1 l2 g out H; exact absurd H (by simp [f_X12_plain_60_37])
  | succ n ih =>
    intro l1 l2 g out H
    have H : (if 4 ≤ l2 then
  some g
else
  xg (¬ (((4 * l1) + l2) < 0 ∨ 8 ≤ ((4 * l1) + l2).toNatClampNeg)) (
    xg (¬ (((4 * l1) + l2) < 0 ∨ 8 ≤ ((4 * l1) + l2).toNatClampNeg)) (
      f_X12_plain_60_37 n l1 (l2 + 1) (xupd (xupd g.1 81 ((4 * l1) + l2).toNatClampNeg 0) 82 ((4 * l1) + l2).toNatClampNeg 0, g.2)))) = some out := H
    by_cases h6 : 4 ≤ l2
    · rw [if_pos h6] at H
      obtain rfl := Option.some.inj H
      exact xfrm.rf
    · rw [if_neg h6] at H
      obtain ⟨h7, H⟩ := xg_elim H
      have hf6 : xfrm fp_X12_plain_60 g ((xupd g.1 81 ((4 * l1) + l2).toNatClampNeg 0, g.2)) := xfrm.ua xfrm.rf rfl
      obtain ⟨h8, H⟩ := xg_elim H
      have hf7 : xfrm fp_X12_plain_60 g ((xupd (xupd g.1 81 ((4 * l1) + l2).toNatClampNeg 0) 82 ((4 * l1) + l2).toNatClampNeg 0, g.2)) := xfrm.ua hf6 rfl
      exact xfrm.tr hf7 (ih _ _ _ _ H) rfl
set_option maxRecDepth 20000 in
theorem c_X12_plain_60 {S : List xSh} (hS : xpf SH2 S) {g : xG} {p1 : Int32} (out : xG) (H : f_X12_plain_60 p1 g = some out) : xC mX12_plain 0 0 0 0 S [.ref 60, .int p1] g S (fun r g' => r = none ∧ g' = out) := by
  have H : (xg (¬ (p1 < 0 ∨ 2 ≤ p1.toNatClampNeg)) (
  xg (¬ (p1 < 0 ∨ 2 ≤ p1.toNatClampNeg)) (
    xg (¬ (p1 < 0 ∨ 2 ≤ p1.toNatClampNeg)) (
      xg (¬ (p1 < 0 ∨ 2 ≤ p1.toNatClampNeg)) (
        xg (¬ (p1 < 0 ∨ 2 ≤ p1.toNatClampNeg)) (
          f_X12_plain_60_37 xN p1 0 (xupd (xupd (xupd (xupd (xupd g.1 70 p1.toNatClampNeg 0) 71 p1.toNatClampNeg 0) 75 p1.toNatClampNeg 0) 79 p1.toNatClampNeg 0) 80 p1.toNatClampNeg 0, g.2))))))) = some out := H
  refine xC.of 12 SH2 [some (.ref 60), some (.int p1), none] hS (by decide +kernel) rfl (fun _ _ => Nat.le_of_ble_eq_true rfl) (fun _ _ => rfl) ?_
  intro k A hR hrm hz
  refine xb A [(.aload_n 0, 1, 0, 0, .null), (.getfield 46, 3, 60, 23, .ref 70), (.iload_n 1, 1, 0, 0, .null), (.iconst 0, 1, 0, 0, .int 0)] (pc' := 6) (ls' := [some (.ref 60), some (.int p1), none]) (st' := [.int 0, .int p1, .ref 70]) (g' := g) (by decide +kernel) rfl ?_
  obtain ⟨h1, H⟩ := xg_elim H
  refine xiast A (nxt := 7) (by decide +kernel) (hS _ _ sh_70) h1 ?_
  show xW k S 0 0 7 [some (.ref 60), some (.int p1), none] [] (xupd g.1 70 p1.toNatClampNeg 0, g.2)
  refine xb A [(.aload_n 0, 1, 0, 0, .null), (.getfield 49, 3, 60, 24, .ref 71), (.iload_n 1, 1, 0, 0, .null), (.iconst 0, 1, 0, 0, .int 0)] (pc' := 13) (ls' := [some (.ref 60), some (.int p1), none]) (st' := [.int 0, .int p1, .ref 71]) (g' := (xupd g.1 70 p1.toNatClampNeg 0, g.2)) (by decide +kernel) rfl ?_
  obtain ⟨h2, H⟩ := xg_elim H
  refine xiast A (nxt := 14) (by decide +kernel) (hS _ _ sh_71) h2 ?_
  show xW k S 0 0 14 [some (.ref 60), some (.int p1), none] [] (xupd (xupd g.1 70 p1.toNatClampNeg 0) 71 p1.toNatClampNeg 0, g.2)
  refine xb A [(.aload_n 0, 1, 0, 0, .null), (.getfield 61, 3, 60, 28, .ref 75), (.iload_n 1, 1, 0, 0, .null), (.iconst 0, 1, 0, 0, .int 0)] (pc' := 20) (ls' := [some (.ref 60), some (.int p1), none]) (st' := [.int 0, .int p1, .ref 75]) (g' := (xupd (xupd g.1 70 p1.toNatClampNeg 0) 71 p1.toNatClampNeg 0, g.2)) (by decide +kernel) rfl ?_
  obtain ⟨h3, H⟩ := xg_elim H
  refine xiast A (nxt := 21) (by decide +kernel) (hS _ _ sh_75) h3 ?_
  show xW k S 0 0 21 [some (.ref 60), some (.int p1), none] [] (xupd (xupd (xupd g.1 70 p1.toNatClampNeg 0) 71 p1.toNatClampNeg 0) 75 p1.toNatClampNeg 0, g.2)
  refine xb A [(.aload_n 0, 1, 0, 0, .null), (.getfield 73, 3, 60, 32, .ref 79), (.iload_n 1, 1, 0, 0, .null), (.iconst 0, 1, 0, 0, .int 0)] (pc' := 27) (ls' := [some (.ref 60), some (.int p1), none]) (st' := [.int 0, .int p1, .ref 79]) (g' := (xupd (xupd (xupd g.1 70 p1.toNatClampNeg 0) 71 p1.toNatClampNeg 0) 75 p1.toNatClampNeg 0, g.2)) (by decide +kernel) rfl ?_
  obtain ⟨h4, H⟩ := xg_elim H
  refine xiast A (nxt := 28) (by decide +kernel) (hS _ _ sh_79) h4 ?_
  show xW k S 0 0 28 [some (.ref 60), some (.int p1), none] [] (xupd (xupd (xupd (xupd g.1 70 p1.toNatClampNeg 0) 71 p1.toNatClampNeg 0) 75 p1.toNatClampNeg 0) 79 p1.toNatClampNeg 0, g.2)
  refine xb A [(.aload_n 0, 1, 0, 0, .null), (.getfield 76, 3, 60, 33, .ref 80), (.iload_n 1, 1, 0, 0, .null), (.iconst 0, 1, 0, 0, .int 0)] (pc' := 34) (ls' := [some (.ref 60), some (.int p1), none]) (st' := [.int 0, .int p1, .ref 80]) (g' := (xupd (xupd (xupd (xupd g.1 70 p1.toNatClampNeg 0) 71 p1.toNatClampNeg 0) 75 p1.toNatClampNeg 0) 79 p1.toNatClampNeg 0, g.2)) (by decide +kernel) rfl ?_
  obtain ⟨h5, H⟩ := xg_elim H
  refine xiast A (nxt := 35) (by decide +kernel) (hS _ _ sh_80) h5 ?_
  show xW k S 0 0 35 [some (.ref 60), some (.int p1), none] [] (xupd (xupd (xupd (xupd (xupd g.1 70 p1.toNatClampNeg 0) 71 p1.toNatClampNeg 0) 75 p1.toNatClampNeg 0) 79 p1.toNatClampNeg 0) 80 p1.toNatClampNeg 0, g.2)
  refine xb A [(.iconst 0, 1, 0, 0, .int 0), (.istore_n 2, 1, 0, 0, .null)] (pc' := 37) (ls' := [some (.ref 60), some (.int p1), some (.int 0)]) (st' := []) (g' := (xupd (xupd (xupd (xupd (xupd g.1 70 p1.toNatClampNeg 0) 71 p1.toNatClampNeg 0) 75 p1.toNatClampNeg 0) 79 p1.toNatClampNeg 0) 80 p1.toNatClampNeg 0, g.2)) (by decide +kernel) rfl ?_
  exact t_X12_plain_60_37 hS A hR hrm hz _ _ _ _ H
theorem fr_X12_plain_60 {p1 : Int32} {g : xG} (out : xG) (H : f_X12_plain_60 p1 g = some out) : xfrm fp_X12_plain_60 g (out) := by
  have H : (xg (¬ (p1 < 0 ∨ 2 ≤ p1.toNatClampNeg)) (
  xg (¬ (p1 < 0 ∨ 2 ≤ p1.toNatClampNeg)) (
    xg (¬ (p1 < 0 ∨ 2 ≤ p1.toNatClampNeg)) (
      xg (¬ (p1 < 0 ∨ 2 ≤ p1.toNatClampNeg)) (
        xg (¬ (p1 < 0 ∨ 2 ≤ p1.toNatClampNeg)) (
          f_X12_plain_60_37 xN p1 0 (xupd (xupd (xupd (xupd (xupd g.1 70 p1.toNatClampNeg 0) 71 p1.toNatClampNeg 0) 75 p1.toNatClampNeg 0) 79 p1.toNatClampNeg 0) 80 p1.toNatClampNeg 0, g.2))))))) = some out := H
  obtain ⟨h1, H⟩ := xg_elim H
  have hf1 : xfrm fp_X12_plain_60 g ((xupd g.1 70 p1.toNatClampNeg 0, g.2)) := xfrm.ua xfrm.rf rfl
  obtain ⟨h2, H⟩ := xg_elim H
  have hf2 : xfrm fp_X12_plain_60 g ((xupd (xupd g.1 70 p1.toNatClampNeg 0) 71 p1.toNatClampNeg 0, g.2)) := xfrm.ua hf1 rfl
  obtain ⟨h3, H⟩ := xg_elim H
  have hf3 : xfrm fp_X12_plain_60 g ((xupd (xupd (xupd g.1 70 p1.toNatClampNeg 0) 71 p1.toNatClampNeg 0) 75 p1.toNatClampNeg 0, g.2)) := xfrm.ua hf2 rfl
  obtain ⟨h4, H⟩ := xg_elim H
  have hf4 : xfrm fp_X12_plain_60 g ((xupd (xupd (xupd (xupd g.1 70 p1.toNatClampNeg 0) 71 p1.toNatClampNeg 0) 75 p1.toNatClampNeg 0) 79 p1.toNatClampNeg 0, g.2)) := xfrm.ua hf3 rfl
  obtain ⟨h5, H⟩ := xg_elim H
  have hf5 : xfrm fp_X12_plain_60 g ((xupd (xupd (xupd (xupd (xupd g.1 70 p1.toNatClampNeg 0) 71 p1.toNatClampNeg 0) 75 p1.toNatClampNeg 0) 79 p1.toNatClampNeg 0) 80 p1.toNatClampNeg 0, g.2)) := xfrm.ua hf4 rfl
  exact xfrm.tr hf5 (fr_X12_plain_60_37 _ _ _ _ _ H) rfl
def f_X12_is_60 (p1 : Int32) (g : xG) : Option (Int32) :=
  if (g.1 60 13) = 0 then
    xg (¬ ((g.1 60 11) < 0 ∨ 403 ≤ (g.1 60 11).toNatClampNeg)) (
      if (g.1 63 (g.1 60 11).toNatClampNeg) = p1 then
        some 1
      else
        some 0)
  else
    some 0
set_option maxRecDepth 20000 in
theorem c_X12_is_60 {S : List xSh} (hS : xpf SH2 S) {g : xG} {p1 : Int32} (out : Int32) (H : f_X12_is_60 p1 g = some out) : xC mX12_is 0 0 0 0 S [.ref 60, .int p1] g S (fun r g' => r = some (.int out) ∧ g' = g) := by
  have H : (if (g.1 60 13) = 0 then
  xg (¬ ((g.1 60 11) < 0 ∨ 403 ≤ (g.1 60 11).toNatClampNeg)) (
    if (g.1 63 (g.1 60 11).toNatClampNeg) = p1 then
      some 1
    else
      some 0)
else
  some 0) = some out := H
  refine xC.of 12 SH2 [some (.ref 60), some (.int p1)] hS (by decide +kernel) rfl (fun _ _ => Nat.le_of_ble_eq_true rfl) (fun _ _ => rfl) ?_
  intro k A hR hrm hz
  refine xb A [(.aload_n 0, 1, 0, 0, .null), (.getfield 197, 3, 60, 13, .int 0)] (pc' := 4) (ls' := [some (.ref 60), some (.int p1)]) (st' := [.int (g.1 60 13)]) (g' := g) (by decide +kernel) rfl ?_
  refine xif_ne A (20) 24 7 (by decide +kernel) (fun h1 => ?_) (fun h1 => ?_)
  · rw [if_neg h1] at H
    refine xb A [(.iconst 0, 1, 0, 0, .int 0)] (pc' := 25) (ls' := [some (.ref 60), some (.int p1)]) (st' := [.int 0]) (g' := g) (by decide +kernel) rfl ?_
    obtain rfl := Option.some.inj H
    exact xret_i A hR hz (by decide +kernel) rfl ⟨rfl, rfl⟩
  · rw [if_pos h1] at H
    refine xb A [(.aload_n 0, 1, 0, 0, .null), (.getfield 20, 3, 60, 5, .ref 63), (.aload_n 0, 1, 0, 0, .null), (.getfield 200, 3, 60, 11, .int 0)] (pc' := 15) (ls' := [some (.ref 60), some (.int p1)]) (st' := [.int (g.1 60 11), .ref 63]) (g' := g) (by decide +kernel) rfl ?_
    obtain ⟨h2, H⟩ := xg_elim H
    refine xiald A (nxt := 16) (by decide +kernel) (hS _ _ sh_63) h2 ?_
    show xW k S 0 0 16 [some (.ref 60), some (.int p1)] [.int (g.1 63 (g.1 60 11).toNatClampNeg)] g
    refine xb A [(.iload_n 1, 1, 0, 0, .null)] (pc' := 17) (ls' := [some (.ref 60), some (.int p1)]) (st' := [.int p1, .int (g.1 63 (g.1 60 11).toNatClampNeg)]) (g' := g) (by decide +kernel) rfl ?_
    refine xic_ne A (7) 24 20 (by decide +kernel) (fun h3 => ?_) (fun h3 => ?_)
    · rw [if_neg h3] at H
      refine xb A [(.iconst 0, 1, 0, 0, .int 0)] (pc' := 25) (ls' := [some (.ref 60), some (.int p1)]) (st' := [.int 0]) (g' := g) (by decide +kernel) rfl ?_
      obtain rfl := Option.some.inj H
      exact xret_i A hR hz (by decide +kernel) rfl ⟨rfl, rfl⟩
    · rw [if_pos h3] at H
      refine xb A [(.iconst 1, 1, 0, 0, .int 1)] (pc' := 21) (ls' := [some (.ref 60), some (.int p1)]) (st' := [.int 1]) (g' := g) (by decide +kernel) rfl ?_
      refine xgoto A (4) 25 (by decide +kernel) ?_
      obtain rfl := Option.some.inj H
      exact xret_i A hR hz (by decide +kernel) rfl ⟨rfl, rfl⟩
def fp_X12_fail_60 : List (Nat × Option Nat) := [(60, some 13), (60, some 14)]
def f_X12_fail_60 (p1 : Int32) (g : xG) : Option (xG) :=
  if (g.1 60 13) ≤ 0 then
    xg (¬ ((g.1 60 11) < 0 ∨ 403 ≤ (g.1 60 11).toNatClampNeg)) (
      some (xupd (xupd g.1 60 13 p1) 60 14 (g.1 64 (g.1 60 11).toNatClampNeg), g.2))
  else
    some g
set_option maxRecDepth 20000 in
theorem c_X12_fail_60 {S : List xSh} (hS : xpf SH2 S) {g : xG} {p1 : Int32} (out : xG) (H : f_X12_fail_60 p1 g = some out) : xC mX12_fail 0 0 0 0 S [.ref 60, .int p1] g S (fun r g' => r = none ∧ g' = out) := by
  have H : (if (g.1 60 13) ≤ 0 then
  xg (¬ ((g.1 60 11) < 0 ∨ 403 ≤ (g.1 60 11).toNatClampNeg)) (
    some (xupd (xupd g.1 60 13 p1) 60 14 (g.1 64 (g.1 60 11).toNatClampNeg), g.2))
else
  some g) = some out := H
  refine xC.of 12 SH2 [some (.ref 60), some (.int p1)] hS (by decide +kernel) rfl (fun _ _ => Nat.le_of_ble_eq_true rfl) (fun _ _ => rfl) ?_
  intro k A hR hrm hz
  refine xb A [(.aload_n 0, 1, 0, 0, .null), (.getfield 197, 3, 60, 13, .int 0)] (pc' := 4) (ls' := [some (.ref 60), some (.int p1)]) (st' := [.int (g.1 60 13)]) (g' := g) (by decide +kernel) rfl ?_
  refine xif_le A (4) 8 7 (by decide +kernel) (fun h1 => ?_) (fun h1 => ?_)
  · rw [if_pos h1] at H
    refine xb A [(.aload_n 0, 1, 0, 0, .null), (.iload_n 1, 1, 0, 0, .null), (.putfield 197, 3, 60, 13, .int 0), (.aload_n 0, 1, 0, 0, .null), (.aload_n 0, 1, 0, 0, .null), (.getfield 24, 3, 60, 6, .ref 64), (.aload_n 0, 1, 0, 0, .null), (.getfield 200, 3, 60, 11, .int 0)] (pc' := 22) (ls' := [some (.ref 60), some (.int p1)]) (st' := [.int (g.1 60 11), .ref 64, .ref 60]) (g' := (xupd g.1 60 13 p1, g.2)) (by decide +kernel) rfl ?_
    obtain ⟨h2, H⟩ := xg_elim H
    refine xiald A (nxt := 23) (by decide +kernel) (hS _ _ sh_64) h2 ?_
    show xW k S 0 0 23 [some (.ref 60), some (.int p1)] [.int (g.1 64 (g.1 60 11).toNatClampNeg), .ref 60] (xupd g.1 60 13 p1, g.2)
    refine xb A [(.putfield 203, 3, 60, 14, .int 0)] (pc' := 26) (ls' := [some (.ref 60), some (.int p1)]) (st' := []) (g' := (xupd (xupd g.1 60 13 p1) 60 14 (g.1 64 (g.1 60 11).toNatClampNeg), g.2)) (by decide +kernel) rfl ?_
    obtain rfl := Option.some.inj H
    exact xret_v A hR hz (by decide +kernel) ⟨rfl, rfl⟩
  · rw [if_neg h1] at H
    obtain rfl := Option.some.inj H
    exact xret_v A hR hz (by decide +kernel) ⟨rfl, rfl⟩
theorem fr_X12_fail_60 {p1 : Int32} {g : xG} (out : xG) (H : f_X12_fail_60 p1 g = some out) : xfrm fp_X12_fail_60 g (out) := by
  have H : (if (g.1 60 13) ≤ 0 then
  xg (¬ ((g.1 60 11) < 0 ∨ 403 ≤ (g.1 60 11).toNatClampNeg)) (
    some (xupd (xupd g.1 60 13 p1) 60 14 (g.1 64 (g.1 60 11).toNatClampNeg), g.2))
else
  some g) = some out := H
  by_cases h1 : (g.1 60 13) ≤ 0
  · rw [if_pos h1] at H
    have hf1 : xfrm fp_X12_fail_60 g ((xupd g.1 60 13 p1, g.2)) := xfrm.up xfrm.rf rfl
    obtain ⟨h2, H⟩ := xg_elim H
    have hf2 : xfrm fp_X12_fail_60 g ((xupd (xupd g.1 60 13 p1) 60 14 (g.1 64 (g.1 60 11).toNatClampNeg), g.2)) := xfrm.up hf1 rfl
    obtain rfl := Option.some.inj H
    exact hf2
  · rw [if_neg h1] at H
    obtain rfl := Option.some.inj H
    exact xfrm.rf
def fp_X12_goesOn_60 : List (Nat × Option Nat) := [(60, some 11), (60, some 13), (60, some 14)]
def f_X12_goesOn_60  (g : xG) : Option (xG) :=
  if (g.1 60 11) = 400 then
    (f_X12_fail_60 2 g).bind fun w1 =>
    some w1
  else
    some (xupd g.1 60 11 ((g.1 60 11) + 1), g.2)
set_option maxRecDepth 20000 in
theorem c_X12_goesOn_60 {S : List xSh} (hS : xpf SH2 S) {g : xG}  (out : xG) (H : f_X12_goesOn_60  g = some out) : xC mX12_goesOn 1 21 0 0 S [.ref 60] g S (fun r g' => r = none ∧ g' = out) := by
  have H : (if (g.1 60 11) = 400 then
  (f_X12_fail_60 2 g).bind fun w1 =>
  some w1
else
  some (xupd g.1 60 11 ((g.1 60 11) + 1), g.2)) = some out := H
  refine xC.of 12 SH2 [some (.ref 60)] hS (by decide +kernel) rfl (fun _ _ => Nat.le_of_ble_eq_true rfl) (fun _ _ => rfl) ?_
  intro k A hR hrm hz
  refine xb A [(.aload_n 0, 1, 0, 0, .null), (.getfield 200, 3, 60, 11, .int 0), (.sipush 400, 3, 0, 0, .int 400)] (pc' := 7) (ls' := [some (.ref 60)]) (st' := [.int 400, .int (g.1 60 11)]) (g' := g) (by decide +kernel) rfl ?_
  refine xic_ne A (11) 18 10 (by decide +kernel) (fun h1 => ?_) (fun h1 => ?_)
  · rw [if_neg h1] at H
    refine xb A [(.aload_n 0, 1, 0, 0, .null), (.dup, 1, 0, 0, .null), (.getfield 200, 3, 60, 11, .int 0), (.iconst 1, 1, 0, 0, .int 1), (.iadd, 1, 0, 0, .null), (.putfield 200, 3, 60, 11, .int 0)] (pc' := 28) (ls' := [some (.ref 60)]) (st' := []) (g' := (xupd g.1 60 11 ((g.1 60 11) + 1), g.2)) (by decide +kernel) rfl ?_
    obtain rfl := Option.some.inj H
    exact xret_v A hR hz (by decide +kernel) ⟨rfl, rfl⟩
  · rw [if_pos h1] at H
    refine xb A [(.aload_n 0, 1, 0, 0, .null), (.iconst 2, 1, 0, 0, .int 2)] (pc' := 12) (ls' := [some (.ref 60)]) (st' := [.int 2, .ref 60]) (g' := g) (by decide +kernel) rfl ?_
    obtain ⟨w1, e1, H⟩ := xbind H
    refine xcallV A (ix := 212) (nxt := 15) hrm hz [.int 2] [] 1620 (c_X12_fail_60 hS _ e1) ok_X12_fail (by decide +kernel) rfl (fun r g1 hq => ?_)
    rw [hq.1, hq.2]
    show xW k S 0 0 15 [some (.ref 60)] [] w1
    refine xgoto A (13) 28 (by decide +kernel) ?_
    obtain rfl := Option.some.inj H
    exact xret_v A hR hz (by decide +kernel) ⟨rfl, rfl⟩
theorem fr_X12_goesOn_60  {g : xG} (out : xG) (H : f_X12_goesOn_60  g = some out) : xfrm fp_X12_goesOn_60 g (out) := by
  have H : (if (g.1 60 11) = 400 then
  (f_X12_fail_60 2 g).bind fun w1 =>
  some w1
else
  some (xupd g.1 60 11 ((g.1 60 11) + 1), g.2)) = some out := H
  by_cases h1 : (g.1 60 11) = 400
  · rw [if_pos h1] at H
    obtain ⟨w1, e1, H⟩ := xbind H
    have hf2 : xfrm fp_X12_goesOn_60 g (w1) := xfrm.tr xfrm.rf (fr_X12_fail_60 _ e1) rfl
    obtain rfl := Option.some.inj H
    exact hf2
  · rw [if_neg h1] at H
    have hf1 : xfrm fp_X12_goesOn_60 g ((xupd g.1 60 11 ((g.1 60 11) + 1), g.2)) := xfrm.up xfrm.rf rfl
    obtain rfl := Option.some.inj H
    exact hf1
def fp_X12_wrong_60 : List (Nat × Option Nat) := [(60, some 15), (60, some 16)]
def f_X12_wrong_60 (p1 : Int32) (p2 : Int32) (g : xG) : Option (xG) :=
  xg (¬ (p2 < 0 ∨ 403 ≤ p2.toNatClampNeg)) (
    if 0 < (g.1 60 13) then
      some g
    else
      if (g.1 60 15) = 0 then
        some (xupd (xupd g.1 60 15 p1) 60 16 (g.1 64 p2.toNatClampNeg), g.2)
      else
        if (g.1 60 16) < (g.1 64 p2.toNatClampNeg) then
          some g
        else
          if (g.1 64 p2.toNatClampNeg) = (g.1 60 16) then
            if p1 < (g.1 60 15) then
              some (xupd (xupd g.1 60 15 p1) 60 16 (g.1 64 p2.toNatClampNeg), g.2)
            else
              some g
          else
            some (xupd (xupd g.1 60 15 p1) 60 16 (g.1 64 p2.toNatClampNeg), g.2))
set_option maxRecDepth 20000 in
theorem c_X12_wrong_60 {S : List xSh} (hS : xpf SH2 S) {g : xG} {p1 : Int32} {p2 : Int32} (out : xG) (H : f_X12_wrong_60 p1 p2 g = some out) : xC mX12_wrong 0 0 0 0 S [.ref 60, .int p1, .int p2] g S (fun r g' => r = none ∧ g' = out) := by
  have H : (xg (¬ (p2 < 0 ∨ 403 ≤ p2.toNatClampNeg)) (
  if 0 < (g.1 60 13) then
    some g
  else
    if (g.1 60 15) = 0 then
      some (xupd (xupd g.1 60 15 p1) 60 16 (g.1 64 p2.toNatClampNeg), g.2)
    else
      if (g.1 60 16) < (g.1 64 p2.toNatClampNeg) then
        some g
      else
        if (g.1 64 p2.toNatClampNeg) = (g.1 60 16) then
          if p1 < (g.1 60 15) then
            some (xupd (xupd g.1 60 15 p1) 60 16 (g.1 64 p2.toNatClampNeg), g.2)
          else
            some g
        else
          some (xupd (xupd g.1 60 15 p1) 60 16 (g.1 64 p2.toNatClampNeg), g.2))) = some out := H
  refine xC.of 12 SH2 [some (.ref 60), some (.int p1), some (.int p2), none] hS (by decide +kernel) rfl (fun _ _ => Nat.le_of_ble_eq_true rfl) (fun _ _ => rfl) ?_
  intro k A hR hrm hz
  refine xb A [(.aload_n 0, 1, 0, 0, .null), (.getfield 24, 3, 60, 6, .ref 64), (.iload_n 2, 1, 0, 0, .null)] (pc' := 5) (ls' := [some (.ref 60), some (.int p1), some (.int p2), none]) (st' := [.int p2, .ref 64]) (g' := g) (by decide +kernel) rfl ?_
  obtain ⟨h1, H⟩ := xg_elim H
  refine xiald A (nxt := 6) (by decide +kernel) (hS _ _ sh_64) h1 ?_
  show xW k S 0 0 6 [some (.ref 60), some (.int p1), some (.int p2), none] [.int (g.1 64 p2.toNatClampNeg)] g
  refine xb A [(.istore_n 3, 1, 0, 0, .null), (.aload_n 0, 1, 0, 0, .null), (.getfield 197, 3, 60, 13, .int 0)] (pc' := 11) (ls' := [some (.ref 60), some (.int p1), some (.int p2), some (.int (g.1 64 p2.toNatClampNeg))]) (st' := [.int (g.1 60 13)]) (g' := g) (by decide +kernel) rfl ?_
  refine xif_gt A (34) 45 14 (by decide +kernel) (fun h2 => ?_) (fun h2 => ?_)
  · rw [if_pos h2] at H
    obtain rfl := Option.some.inj H
    exact xret_v A hR hz (by decide +kernel) ⟨rfl, rfl⟩
  · rw [if_neg h2] at H
    refine xb A [(.aload_n 0, 1, 0, 0, .null), (.getfield 206, 3, 60, 15, .int 0)] (pc' := 18) (ls' := [some (.ref 60), some (.int p1), some (.int p2), some (.int (g.1 64 p2.toNatClampNeg))]) (st' := [.int (g.1 60 15)]) (g' := g) (by decide +kernel) rfl ?_
    refine xif_eq A (28) 46 21 (by decide +kernel) (fun h3 => ?_) (fun h3 => ?_)
    · rw [if_pos h3] at H
      refine xb A [(.aload_n 0, 1, 0, 0, .null), (.iload_n 1, 1, 0, 0, .null), (.putfield 206, 3, 60, 15, .int 0), (.aload_n 0, 1, 0, 0, .null), (.iload_n 3, 1, 0, 0, .null), (.putfield 209, 3, 60, 16, .int 0)] (pc' := 56) (ls' := [some (.ref 60), some (.int p1), some (.int p2), some (.int (g.1 64 p2.toNatClampNeg))]) (st' := []) (g' := (xupd (xupd g.1 60 15 p1) 60 16 (g.1 64 p2.toNatClampNeg), g.2)) (by decide +kernel) rfl ?_
      obtain rfl := Option.some.inj H
      exact xret_v A hR hz (by decide +kernel) ⟨rfl, rfl⟩
    · rw [if_neg h3] at H
      refine xb A [(.iload_n 3, 1, 0, 0, .null), (.aload_n 0, 1, 0, 0, .null), (.getfield 209, 3, 60, 16, .int 0)] (pc' := 26) (ls' := [some (.ref 60), some (.int p1), some (.int p2), some (.int (g.1 64 p2.toNatClampNeg))]) (st' := [.int (g.1 60 16), .int (g.1 64 p2.toNatClampNeg)]) (g' := g) (by decide +kernel) rfl ?_
      refine xic_gt A (19) 45 29 (by decide +kernel) (fun h4 => ?_) (fun h4 => ?_)
      · rw [if_pos h4] at H
        obtain rfl := Option.some.inj H
        exact xret_v A hR hz (by decide +kernel) ⟨rfl, rfl⟩
      · rw [if_neg h4] at H
        refine xb A [(.iload_n 3, 1, 0, 0, .null), (.aload_n 0, 1, 0, 0, .null), (.getfield 209, 3, 60, 16, .int 0)] (pc' := 34) (ls' := [some (.ref 60), some (.int p1), some (.int p2), some (.int (g.1 64 p2.toNatClampNeg))]) (st' := [.int (g.1 60 16), .int (g.1 64 p2.toNatClampNeg)]) (g' := g) (by decide +kernel) rfl ?_
        refine xic_ne A (12) 46 37 (by decide +kernel) (fun h5 => ?_) (fun h5 => ?_)
        · rw [if_neg h5] at H
          refine xb A [(.aload_n 0, 1, 0, 0, .null), (.iload_n 1, 1, 0, 0, .null), (.putfield 206, 3, 60, 15, .int 0), (.aload_n 0, 1, 0, 0, .null), (.iload_n 3, 1, 0, 0, .null), (.putfield 209, 3, 60, 16, .int 0)] (pc' := 56) (ls' := [some (.ref 60), some (.int p1), some (.int p2), some (.int (g.1 64 p2.toNatClampNeg))]) (st' := []) (g' := (xupd (xupd g.1 60 15 p1) 60 16 (g.1 64 p2.toNatClampNeg), g.2)) (by decide +kernel) rfl ?_
          obtain rfl := Option.some.inj H
          exact xret_v A hR hz (by decide +kernel) ⟨rfl, rfl⟩
        · rw [if_pos h5] at H
          refine xb A [(.iload_n 1, 1, 0, 0, .null), (.aload_n 0, 1, 0, 0, .null), (.getfield 206, 3, 60, 15, .int 0)] (pc' := 42) (ls' := [some (.ref 60), some (.int p1), some (.int p2), some (.int (g.1 64 p2.toNatClampNeg))]) (st' := [.int (g.1 60 15), .int p1]) (g' := g) (by decide +kernel) rfl ?_
          refine xic_lt A (4) 46 45 (by decide +kernel) (fun h6 => ?_) (fun h6 => ?_)
          · rw [if_pos h6] at H
            refine xb A [(.aload_n 0, 1, 0, 0, .null), (.iload_n 1, 1, 0, 0, .null), (.putfield 206, 3, 60, 15, .int 0), (.aload_n 0, 1, 0, 0, .null), (.iload_n 3, 1, 0, 0, .null), (.putfield 209, 3, 60, 16, .int 0)] (pc' := 56) (ls' := [some (.ref 60), some (.int p1), some (.int p2), some (.int (g.1 64 p2.toNatClampNeg))]) (st' := []) (g' := (xupd (xupd g.1 60 15 p1) 60 16 (g.1 64 p2.toNatClampNeg), g.2)) (by decide +kernel) rfl ?_
            obtain rfl := Option.some.inj H
            exact xret_v A hR hz (by decide +kernel) ⟨rfl, rfl⟩
          · rw [if_neg h6] at H
            obtain rfl := Option.some.inj H
            exact xret_v A hR hz (by decide +kernel) ⟨rfl, rfl⟩
theorem fr_X12_wrong_60 {p1 : Int32} {p2 : Int32} {g : xG} (out : xG) (H : f_X12_wrong_60 p1 p2 g = some out) : xfrm fp_X12_wrong_60 g (out) := by
  have H : (xg (¬ (p2 < 0 ∨ 403 ≤ p2.toNatClampNeg)) (
  if 0 < (g.1 60 13) then
    some g
  else
    if (g.1 60 15) = 0 then
      some (xupd (xupd g.1 60 15 p1) 60 16 (g.1 64 p2.toNatClampNeg), g.2)
    else
      if (g.1 60 16) < (g.1 64 p2.toNatClampNeg) then
        some g
      else
        if (g.1 64 p2.toNatClampNeg) = (g.1 60 16) then
          if p1 < (g.1 60 15) then
            some (xupd (xupd g.1 60 15 p1) 60 16 (g.1 64 p2.toNatClampNeg), g.2)
          else
            some g
        else
          some (xupd (xupd g.1 60 15 p1) 60 16 (g.1 64 p2.toNatClampNeg), g.2))) = some out := H
  obtain ⟨h1, H⟩ := xg_elim H
  by_cases h2 : 0 < (g.1 60 13)
  · rw [if_pos h2] at H
    obtain rfl := Option.some.inj H
    exact xfrm.rf
  · rw [if_neg h2] at H
    by_cases h3 : (g.1 60 15) = 0
    · rw [if_pos h3] at H
      have hf1 : xfrm fp_X12_wrong_60 g ((xupd g.1 60 15 p1, g.2)) := xfrm.up xfrm.rf rfl
      have hf2 : xfrm fp_X12_wrong_60 g ((xupd (xupd g.1 60 15 p1) 60 16 (g.1 64 p2.toNatClampNeg), g.2)) := xfrm.up hf1 rfl
      obtain rfl := Option.some.inj H
      exact hf2
    · rw [if_neg h3] at H
      by_cases h4 : (g.1 60 16) < (g.1 64 p2.toNatClampNeg)
      · rw [if_pos h4] at H
        obtain rfl := Option.some.inj H
        exact xfrm.rf
      · rw [if_neg h4] at H
        by_cases h5 : (g.1 64 p2.toNatClampNeg) = (g.1 60 16)
        · rw [if_pos h5] at H
          by_cases h6 : p1 < (g.1 60 15)
          · rw [if_pos h6] at H
            have hf5 : xfrm fp_X12_wrong_60 g ((xupd g.1 60 15 p1, g.2)) := xfrm.up xfrm.rf rfl
            have hf6 : xfrm fp_X12_wrong_60 g ((xupd (xupd g.1 60 15 p1) 60 16 (g.1 64 p2.toNatClampNeg), g.2)) := xfrm.up hf5 rfl
            obtain rfl := Option.some.inj H
            exact hf6
          · rw [if_neg h6] at H
            obtain rfl := Option.some.inj H
            exact xfrm.rf
        · rw [if_neg h5] at H
          have hf3 : xfrm fp_X12_wrong_60 g ((xupd g.1 60 15 p1, g.2)) := xfrm.up xfrm.rf rfl
          have hf4 : xfrm fp_X12_wrong_60 g ((xupd (xupd g.1 60 15 p1) 60 16 (g.1 64 p2.toNatClampNeg), g.2)) := xfrm.up hf3 rfl
          obtain rfl := Option.some.inj H
          exact hf4
def fp_X12_bounded_60 : List (Nat × Option Nat) := [(60, some 11), (60, some 13), (60, some 14), (60, some 15), (60, some 16)]
def f_X12_bounded_60 (p1 : Int32) (p2 : Int32) (g : xG) : Option (Int32 × xG) :=
  if 0 < (g.1 60 13) then
    (f_X12_fail_60 1 g).bind fun w1 =>
    some (p1, w1)
  else
    (f_X12_is_60 2 g).bind fun w2 =>
    if w2 = 0 then
      (f_X12_fail_60 1 g).bind fun w8 =>
      some (p1, w8)
    else
      xg (¬ ((g.1 60 11) < 0 ∨ 403 ≤ (g.1 60 11).toNatClampNeg)) (
        if (g.1 65 (g.1 60 11).toNatClampNeg) < p1 then
          (f_X12_wrong_60 5 (g.1 60 11) g).bind fun w3 =>
          (f_X12_goesOn_60 w3).bind fun w4 =>
          some (g.1 65 (g.1 60 11).toNatClampNeg, w4)
        else
          if (g.1 65 (g.1 60 11).toNatClampNeg) ≤ p2 then
            (f_X12_goesOn_60 g).bind fun w5 =>
            some (g.1 65 (g.1 60 11).toNatClampNeg, w5)
          else
            (f_X12_wrong_60 5 (g.1 60 11) g).bind fun w6 =>
            (f_X12_goesOn_60 w6).bind fun w7 =>
            some (g.1 65 (g.1 60 11).toNatClampNeg, w7))
set_option maxRecDepth 20000 in
theorem c_X12_bounded_60 {S : List xSh} (hS : xpf SH2 S) {g : xG} {p1 : Int32} {p2 : Int32} (out : Int32 × xG) (H : f_X12_bounded_60 p1 p2 g = some out) : xC mX12_bounded 2 41 0 0 S [.ref 60, .int p1, .int p2] g S (fun r g' => r = some (.int out.1) ∧ g' = out.2) := by
  have H : (if 0 < (g.1 60 13) then
  (f_X12_fail_60 1 g).bind fun w1 =>
  some (p1, w1)
else
  (f_X12_is_60 2 g).bind fun w2 =>
  if w2 = 0 then
    (f_X12_fail_60 1 g).bind fun w8 =>
    some (p1, w8)
  else
    xg (¬ ((g.1 60 11) < 0 ∨ 403 ≤ (g.1 60 11).toNatClampNeg)) (
      if (g.1 65 (g.1 60 11).toNatClampNeg) < p1 then
        (f_X12_wrong_60 5 (g.1 60 11) g).bind fun w3 =>
        (f_X12_goesOn_60 w3).bind fun w4 =>
        some (g.1 65 (g.1 60 11).toNatClampNeg, w4)
      else
        if (g.1 65 (g.1 60 11).toNatClampNeg) ≤ p2 then
          (f_X12_goesOn_60 g).bind fun w5 =>
          some (g.1 65 (g.1 60 11).toNatClampNeg, w5)
        else
          (f_X12_wrong_60 5 (g.1 60 11) g).bind fun w6 =>
          (f_X12_goesOn_60 w6).bind fun w7 =>
          some (g.1 65 (g.1 60 11).toNatClampNeg, w7))) = some out := H
  refine xC.of 12 SH2 [some (.ref 60), some (.int p1), some (.int p2), none] hS (by decide +kernel) rfl (fun _ _ => Nat.le_of_ble_eq_true rfl) (fun _ _ => rfl) ?_
  intro k A hR hrm hz
  refine xb A [(.aload_n 0, 1, 0, 0, .null), (.getfield 197, 3, 60, 13, .int 0)] (pc' := 4) (ls' := [some (.ref 60), some (.int p1), some (.int p2), none]) (st' := [.int (g.1 60 13)]) (g' := g) (by decide +kernel) rfl ?_
  refine xif_gt A (11) 15 7 (by decide +kernel) (fun h1 => ?_) (fun h1 => ?_)
  · rw [if_pos h1] at H
    refine xb A [(.aload_n 0, 1, 0, 0, .null), (.iconst 1, 1, 0, 0, .int 1)] (pc' := 17) (ls' := [some (.ref 60), some (.int p1), some (.int p2), none]) (st' := [.int 1, .ref 60]) (g' := g) (by decide +kernel) rfl ?_
    obtain ⟨w1, e1, H⟩ := xbind H
    refine xcallV A (ix := 212) (nxt := 20) hrm hz [.int 1] [] 1620 (c_X12_fail_60 hS _ e1) ok_X12_fail (by decide +kernel) rfl (fun r g1 hq => ?_)
    rw [hq.1, hq.2]
    show xW k S 0 0 20 [some (.ref 60), some (.int p1), some (.int p2), none] [] w1
    refine xb A [(.iload_n 1, 1, 0, 0, .null)] (pc' := 21) (ls' := [some (.ref 60), some (.int p1), some (.int p2), none]) (st' := [.int p1]) (g' := w1) (by decide +kernel) rfl ?_
    obtain rfl := Option.some.inj H
    exact xret_i A hR hz (by decide +kernel) rfl ⟨rfl, rfl⟩
  · rw [if_neg h1] at H
    refine xb A [(.aload_n 0, 1, 0, 0, .null), (.iconst 2, 1, 0, 0, .int 2)] (pc' := 9) (ls' := [some (.ref 60), some (.int p1), some (.int p2), none]) (st' := [.int 2, .ref 60]) (g' := g) (by decide +kernel) rfl ?_
    obtain ⟨w2, e2, H⟩ := xbind H
    refine xcallV A (ix := 215) (nxt := 12) hrm hz [.int 2] [] 1608 (c_X12_is_60 hS _ e2) ok_X12_is (by decide +kernel) rfl (fun r g1 hq => ?_)
    rw [hq.1, hq.2]
    show xW k S 0 0 12 [some (.ref 60), some (.int p1), some (.int p2), none] [.int w2] g
    refine xif_ne A (10) 22 15 (by decide +kernel) (fun h2 => ?_) (fun h2 => ?_)
    · rw [if_neg h2] at H
      refine xb A [(.aload_n 0, 1, 0, 0, .null), (.getfield 27, 3, 60, 7, .ref 65), (.aload_n 0, 1, 0, 0, .null), (.getfield 200, 3, 60, 11, .int 0)] (pc' := 30) (ls' := [some (.ref 60), some (.int p1), some (.int p2), none]) (st' := [.int (g.1 60 11), .ref 65]) (g' := g) (by decide +kernel) rfl ?_
      obtain ⟨h3, H⟩ := xg_elim H
      refine xiald A (nxt := 31) (by decide +kernel) (hS _ _ sh_65) h3 ?_
      show xW k S 0 0 31 [some (.ref 60), some (.int p1), some (.int p2), none] [.int (g.1 65 (g.1 60 11).toNatClampNeg)] g
      refine xb A [(.istore_n 3, 1, 0, 0, .null), (.iload_n 3, 1, 0, 0, .null), (.iload_n 1, 1, 0, 0, .null)] (pc' := 34) (ls' := [some (.ref 60), some (.int p1), some (.int p2), some (.int (g.1 65 (g.1 60 11).toNatClampNeg))]) (st' := [.int p1, .int (g.1 65 (g.1 60 11).toNatClampNeg)]) (g' := g) (by decide +kernel) rfl ?_
      refine xic_lt A (8) 42 37 (by decide +kernel) (fun h4 => ?_) (fun h4 => ?_)
      · rw [if_pos h4] at H
        refine xb A [(.aload_n 0, 1, 0, 0, .null), (.iconst 5, 1, 0, 0, .int 5), (.aload_n 0, 1, 0, 0, .null), (.getfield 200, 3, 60, 11, .int 0)] (pc' := 48) (ls' := [some (.ref 60), some (.int p1), some (.int p2), some (.int (g.1 65 (g.1 60 11).toNatClampNeg))]) (st' := [.int (g.1 60 11), .int 5, .ref 60]) (g' := g) (by decide +kernel) rfl ?_
        obtain ⟨w3, e3, H⟩ := xbind H
        refine xcallV A (ix := 281) (nxt := 51) hrm hz [.int 5, .int (g.1 60 11)] [] 1636 (c_X12_wrong_60 hS _ e3) ok_X12_wrong (by decide +kernel) rfl (fun r g1 hq => ?_)
        rw [hq.1, hq.2]
        show xW k S 0 0 51 [some (.ref 60), some (.int p1), some (.int p2), some (.int (g.1 65 (g.1 60 11).toNatClampNeg))] [] w3
        refine xb A [(.aload_n 0, 1, 0, 0, .null)] (pc' := 52) (ls' := [some (.ref 60), some (.int p1), some (.int p2), some (.int (g.1 65 (g.1 60 11).toNatClampNeg))]) (st' := [.ref 60]) (g' := w3) (by decide +kernel) rfl ?_
        obtain ⟨w4, e4, H⟩ := xbind H
        refine xcallV A (ix := 218) (nxt := 55) hrm hz [] [] 1624 (c_X12_goesOn_60 hS _ e4) ok_X12_goesOn (by decide +kernel) rfl (fun r g1 hq => ?_)
        rw [hq.1, hq.2]
        show xW k S 0 0 55 [some (.ref 60), some (.int p1), some (.int p2), some (.int (g.1 65 (g.1 60 11).toNatClampNeg))] [] w4
        refine xb A [(.iload_n 3, 1, 0, 0, .null)] (pc' := 56) (ls' := [some (.ref 60), some (.int p1), some (.int p2), some (.int (g.1 65 (g.1 60 11).toNatClampNeg))]) (st' := [.int (g.1 65 (g.1 60 11).toNatClampNeg)]) (g' := w4) (by decide +kernel) rfl ?_
        obtain rfl := Option.some.inj H
        exact xret_i A hR hz (by decide +kernel) rfl ⟨rfl, rfl⟩
      · rw [if_neg h4] at H
        refine xb A [(.iload_n 3, 1, 0, 0, .null), (.iload_n 2, 1, 0, 0, .null)] (pc' := 39) (ls' := [some (.ref 60), some (.int p1), some (.int p2), some (.int (g.1 65 (g.1 60 11).toNatClampNeg))]) (st' := [.int p2, .int (g.1 65 (g.1 60 11).toNatClampNeg)]) (g' := g) (by decide +kernel) rfl ?_
        refine xic_le A (12) 51 42 (by decide +kernel) (fun h5 => ?_) (fun h5 => ?_)
        · rw [if_pos h5] at H
          refine xb A [(.aload_n 0, 1, 0, 0, .null)] (pc' := 52) (ls' := [some (.ref 60), some (.int p1), some (.int p2), some (.int (g.1 65 (g.1 60 11).toNatClampNeg))]) (st' := [.ref 60]) (g' := g) (by decide +kernel) rfl ?_
          obtain ⟨w5, e5, H⟩ := xbind H
          refine xcallV A (ix := 218) (nxt := 55) hrm hz [] [] 1624 (c_X12_goesOn_60 hS _ e5) ok_X12_goesOn (by decide +kernel) rfl (fun r g1 hq => ?_)
          rw [hq.1, hq.2]
          show xW k S 0 0 55 [some (.ref 60), some (.int p1), some (.int p2), some (.int (g.1 65 (g.1 60 11).toNatClampNeg))] [] w5
          refine xb A [(.iload_n 3, 1, 0, 0, .null)] (pc' := 56) (ls' := [some (.ref 60), some (.int p1), some (.int p2), some (.int (g.1 65 (g.1 60 11).toNatClampNeg))]) (st' := [.int (g.1 65 (g.1 60 11).toNatClampNeg)]) (g' := w5) (by decide +kernel) rfl ?_
          obtain rfl := Option.some.inj H
          exact xret_i A hR hz (by decide +kernel) rfl ⟨rfl, rfl⟩
        · rw [if_neg h5] at H
          refine xb A [(.aload_n 0, 1, 0, 0, .null), (.iconst 5, 1, 0, 0, .int 5), (.aload_n 0, 1, 0, 0, .null), (.getfield 200, 3, 60, 11, .int 0)] (pc' := 48) (ls' := [some (.ref 60), some (.int p1), some (.int p2), some (.int (g.1 65 (g.1 60 11).toNatClampNeg))]) (st' := [.int (g.1 60 11), .int 5, .ref 60]) (g' := g) (by decide +kernel) rfl ?_
          obtain ⟨w6, e6, H⟩ := xbind H
          refine xcallV A (ix := 281) (nxt := 51) hrm hz [.int 5, .int (g.1 60 11)] [] 1636 (c_X12_wrong_60 hS _ e6) ok_X12_wrong (by decide +kernel) rfl (fun r g1 hq => ?_)
          rw [hq.1, hq.2]
          show xW k S 0 0 51 [some (.ref 60), some (.int p1), some (.int p2), some (.int (g.1 65 (g.1 60 11).toNatClampNeg))] [] w6
          refine xb A [(.aload_n 0, 1, 0, 0, .null)] (pc' := 52) (ls' := [some (.ref 60), some (.int p1), some (.int p2), some (.int (g.1 65 (g.1 60 11).toNatClampNeg))]) (st' := [.ref 60]) (g' := w6) (by decide +kernel) rfl ?_
          obtain ⟨w7, e7, H⟩ := xbind H
          refine xcallV A (ix := 218) (nxt := 55) hrm hz [] [] 1624 (c_X12_goesOn_60 hS _ e7) ok_X12_goesOn (by decide +kernel) rfl (fun r g1 hq => ?_)
          rw [hq.1, hq.2]
          show xW k S 0 0 55 [some (.ref 60), some (.int p1), some (.int p2), some (.int (g.1 65 (g.1 60 11).toNatClampNeg))] [] w7
          refine xb A [(.iload_n 3, 1, 0, 0, .null)] (pc' := 56) (ls' := [some (.ref 60), some (.int p1), some (.int p2), some (.int (g.1 65 (g.1 60 11).toNatClampNeg))]) (st' := [.int (g.1 65 (g.1 60 11).toNatClampNeg)]) (g' := w7) (by decide +kernel) rfl ?_
          obtain rfl := Option.some.inj H
          exact xret_i A hR hz (by decide +kernel) rfl ⟨rfl, rfl⟩
    · rw [if_pos h2] at H
      refine xb A [(.aload_n 0, 1, 0, 0, .null), (.iconst 1, 1, 0, 0, .int 1)] (pc' := 17) (ls' := [some (.ref 60), some (.int p1), some (.int p2), none]) (st' := [.int 1, .ref 60]) (g' := g) (by decide +kernel) rfl ?_
      obtain ⟨w8, e8, H⟩ := xbind H
      refine xcallV A (ix := 212) (nxt := 20) hrm hz [.int 1] [] 1620 (c_X12_fail_60 hS _ e8) ok_X12_fail (by decide +kernel) rfl (fun r g1 hq => ?_)
      rw [hq.1, hq.2]
      show xW k S 0 0 20 [some (.ref 60), some (.int p1), some (.int p2), none] [] w8
      refine xb A [(.iload_n 1, 1, 0, 0, .null)] (pc' := 21) (ls' := [some (.ref 60), some (.int p1), some (.int p2), none]) (st' := [.int p1]) (g' := w8) (by decide +kernel) rfl ?_
      obtain rfl := Option.some.inj H
      exact xret_i A hR hz (by decide +kernel) rfl ⟨rfl, rfl⟩
theorem fr_X12_bounded_60 {p1 : Int32} {p2 : Int32} {g : xG} (out : Int32 × xG) (H : f_X12_bounded_60 p1 p2 g = some out) : xfrm fp_X12_bounded_60 g (out.2) := by
  have H : (if 0 < (g.1 60 13) then
  (f_X12_fail_60 1 g).bind fun w1 =>
  some (p1, w1)
else
  (f_X12_is_60 2 g).bind fun w2 =>
  if w2 = 0 then
    (f_X12_fail_60 1 g).bind fun w8 =>
    some (p1, w8)
  else
    xg (¬ ((g.1 60 11) < 0 ∨ 403 ≤ (g.1 60 11).toNatClampNeg)) (
      if (g.1 65 (g.1 60 11).toNatClampNeg) < p1 then
        (f_X12_wrong_60 5 (g.1 60 11) g).bind fun w3 =>
        (f_X12_goesOn_60 w3).bind fun w4 =>
        some (g.1 65 (g.1 60 11).toNatClampNeg, w4)
      else
        if (g.1 65 (g.1 60 11).toNatClampNeg) ≤ p2 then
          (f_X12_goesOn_60 g).bind fun w5 =>
          some (g.1 65 (g.1 60 11).toNatClampNeg, w5)
        else
          (f_X12_wrong_60 5 (g.1 60 11) g).bind fun w6 =>
          (f_X12_goesOn_60 w6).bind fun w7 =>
          some (g.1 65 (g.1 60 11).toNatClampNeg, w7))) = some out := H
  by_cases h1 : 0 < (g.1 60 13)
  · rw [if_pos h1] at H
    obtain ⟨w1, e1, H⟩ := xbind H
    have hf1 : xfrm fp_X12_bounded_60 g (w1) := xfrm.tr xfrm.rf (fr_X12_fail_60 _ e1) rfl
    obtain rfl := Option.some.inj H
    exact hf1
  · rw [if_neg h1] at H
    obtain ⟨w2, e2, H⟩ := xbind H
    by_cases h2 : w2 = 0
    · rw [if_pos h2] at H
      obtain ⟨w8, e8, H⟩ := xbind H
      have hf7 : xfrm fp_X12_bounded_60 g (w8) := xfrm.tr xfrm.rf (fr_X12_fail_60 _ e8) rfl
      obtain rfl := Option.some.inj H
      exact hf7
    · rw [if_neg h2] at H
      obtain ⟨h3, H⟩ := xg_elim H
      by_cases h4 : (g.1 65 (g.1 60 11).toNatClampNeg) < p1
      · rw [if_pos h4] at H
        obtain ⟨w3, e3, H⟩ := xbind H
        have hf2 : xfrm fp_X12_bounded_60 g (w3) := xfrm.tr xfrm.rf (fr_X12_wrong_60 _ e3) rfl
        obtain ⟨w4, e4, H⟩ := xbind H
        have hf3 : xfrm fp_X12_bounded_60 g (w4) := xfrm.tr hf2 (fr_X12_goesOn_60 _ e4) rfl
        obtain rfl := Option.some.inj H
        exact hf3
      · rw [if_neg h4] at H
        by_cases h5 : (g.1 65 (g.1 60 11).toNatClampNeg) ≤ p2
        · rw [if_pos h5] at H
          obtain ⟨w5, e5, H⟩ := xbind H
          have hf4 : xfrm fp_X12_bounded_60 g (w5) := xfrm.tr xfrm.rf (fr_X12_goesOn_60 _ e5) rfl
          obtain rfl := Option.some.inj H
          exact hf4
        · rw [if_neg h5] at H
          obtain ⟨w6, e6, H⟩ := xbind H
          have hf5 : xfrm fp_X12_bounded_60 g (w6) := xfrm.tr xfrm.rf (fr_X12_wrong_60 _ e6) rfl
          obtain ⟨w7, e7, H⟩ := xbind H
          have hf6 : xfrm fp_X12_bounded_60 g (w7) := xfrm.tr hf5 (fr_X12_goesOn_60 _ e7) rfl
          obtain rfl := Option.some.inj H
          exact hf6
def fp_X12_must_60 : List (Nat × Option Nat) := [(60, some 11), (60, some 13), (60, some 14)]
def f_X12_must_60 (p1 : Int32) (g : xG) : Option (xG) :=
  (f_X12_is_60 p1 g).bind fun w1 =>
  if w1 = 0 then
    (f_X12_fail_60 1 g).bind fun w2 =>
    some w2
  else
    (f_X12_goesOn_60 g).bind fun w3 =>
    some w3
set_option maxRecDepth 20000 in
theorem c_X12_must_60 {S : List xSh} (hS : xpf SH2 S) {g : xG} {p1 : Int32} (out : xG) (H : f_X12_must_60 p1 g = some out) : xC mX12_must 2 41 0 0 S [.ref 60, .int p1] g S (fun r g' => r = none ∧ g' = out) := by
  have H : ((f_X12_is_60 p1 g).bind fun w1 =>
if w1 = 0 then
  (f_X12_fail_60 1 g).bind fun w2 =>
  some w2
else
  (f_X12_goesOn_60 g).bind fun w3 =>
  some w3) = some out := H
  refine xC.of 12 SH2 [some (.ref 60), some (.int p1)] hS (by decide +kernel) rfl (fun _ _ => Nat.le_of_ble_eq_true rfl) (fun _ _ => rfl) ?_
  intro k A hR hrm hz
  refine xb A [(.aload_n 0, 1, 0, 0, .null), (.iload_n 1, 1, 0, 0, .null)] (pc' := 2) (ls' := [some (.ref 60), some (.int p1)]) (st' := [.int p1, .ref 60]) (g' := g) (by decide +kernel) rfl ?_
  obtain ⟨w1, e1, H⟩ := xbind H
  refine xcallV A (ix := 215) (nxt := 5) hrm hz [.int p1] [] 1608 (c_X12_is_60 hS _ e1) ok_X12_is (by decide +kernel) rfl (fun r g1 hq => ?_)
  rw [hq.1, hq.2]
  show xW k S 0 0 5 [some (.ref 60), some (.int p1)] [.int w1] g
  refine xif_eq A (10) 15 8 (by decide +kernel) (fun h1 => ?_) (fun h1 => ?_)
  · rw [if_pos h1] at H
    refine xb A [(.aload_n 0, 1, 0, 0, .null), (.iconst 1, 1, 0, 0, .int 1)] (pc' := 17) (ls' := [some (.ref 60), some (.int p1)]) (st' := [.int 1, .ref 60]) (g' := g) (by decide +kernel) rfl ?_
    obtain ⟨w2, e2, H⟩ := xbind H
    refine xcallV A (ix := 212) (nxt := 20) hrm hz [.int 1] [] 1620 (c_X12_fail_60 hS _ e2) ok_X12_fail (by decide +kernel) rfl (fun r g1 hq => ?_)
    rw [hq.1, hq.2]
    show xW k S 0 0 20 [some (.ref 60), some (.int p1)] [] w2
    obtain rfl := Option.some.inj H
    exact xret_v A hR hz (by decide +kernel) ⟨rfl, rfl⟩
  · rw [if_neg h1] at H
    refine xb A [(.aload_n 0, 1, 0, 0, .null)] (pc' := 9) (ls' := [some (.ref 60), some (.int p1)]) (st' := [.ref 60]) (g' := g) (by decide +kernel) rfl ?_
    obtain ⟨w3, e3, H⟩ := xbind H
    refine xcallV A (ix := 218) (nxt := 12) hrm hz [] [] 1624 (c_X12_goesOn_60 hS _ e3) ok_X12_goesOn (by decide +kernel) rfl (fun r g1 hq => ?_)
    rw [hq.1, hq.2]
    show xW k S 0 0 12 [some (.ref 60), some (.int p1)] [] w3
    refine xgoto A (8) 20 (by decide +kernel) ?_
    obtain rfl := Option.some.inj H
    exact xret_v A hR hz (by decide +kernel) ⟨rfl, rfl⟩
theorem fr_X12_must_60 {p1 : Int32} {g : xG} (out : xG) (H : f_X12_must_60 p1 g = some out) : xfrm fp_X12_must_60 g (out) := by
  have H : ((f_X12_is_60 p1 g).bind fun w1 =>
if w1 = 0 then
  (f_X12_fail_60 1 g).bind fun w2 =>
  some w2
else
  (f_X12_goesOn_60 g).bind fun w3 =>
  some w3) = some out := H
  obtain ⟨w1, e1, H⟩ := xbind H
  by_cases h1 : w1 = 0
  · rw [if_pos h1] at H
    obtain ⟨w2, e2, H⟩ := xbind H
    have hf1 : xfrm fp_X12_must_60 g (w2) := xfrm.tr xfrm.rf (fr_X12_fail_60 _ e2) rfl
    obtain rfl := Option.some.inj H
    exact hf1
  · rw [if_neg h1] at H
    obtain ⟨w3, e3, H⟩ := xbind H
    have hf2 : xfrm fp_X12_must_60 g (w3) := xfrm.tr xfrm.rf (fr_X12_goesOn_60 _ e3) rfl
    obtain rfl := Option.some.inj H
    exact hf2
def fp_X12_emit_60 : List (Nat × Option Nat) := [(60, some 42), (88, none), (89, none)]
def f_X12_emit_60 (p1 : Int32) (p2 : Int32) (g : xG) : Option (xG) :=
  xg (¬ ((g.1 60 42) < 0 ∨ 840 ≤ (g.1 60 42).toNatClampNeg)) (
    xg (¬ ((g.1 60 42) < 0 ∨ 840 ≤ (g.1 60 42).toNatClampNeg)) (
      some (xupd (xupd (xupd g.1 88 (g.1 60 42).toNatClampNeg p1) 89 (g.1 60 42).toNatClampNeg p2) 60 42 ((g.1 60 42) + 1), g.2)))
set_option maxRecDepth 20000 in
theorem c_X12_emit_60 {S : List xSh} (hS : xpf SH2 S) {g : xG} {p1 : Int32} {p2 : Int32} (out : xG) (H : f_X12_emit_60 p1 p2 g = some out) : xC mX12_emit 0 0 0 0 S [.ref 60, .int p1, .int p2] g S (fun r g' => r = none ∧ g' = out) := by
  have H : (xg (¬ ((g.1 60 42) < 0 ∨ 840 ≤ (g.1 60 42).toNatClampNeg)) (
  xg (¬ ((g.1 60 42) < 0 ∨ 840 ≤ (g.1 60 42).toNatClampNeg)) (
    some (xupd (xupd (xupd g.1 88 (g.1 60 42).toNatClampNeg p1) 89 (g.1 60 42).toNatClampNeg p2) 60 42 ((g.1 60 42) + 1), g.2)))) = some out := H
  refine xC.of 12 SH2 [some (.ref 60), some (.int p1), some (.int p2)] hS (by decide +kernel) rfl (fun _ _ => Nat.le_of_ble_eq_true rfl) (fun _ _ => rfl) ?_
  intro k A hR hrm hz
  refine xb A [(.aload_n 0, 1, 0, 0, .null), (.getfield 101, 3, 60, 43, .ref 88), (.aload_n 0, 1, 0, 0, .null), (.getfield 239, 3, 60, 42, .int 0), (.iload_n 1, 1, 0, 0, .null)] (pc' := 9) (ls' := [some (.ref 60), some (.int p1), some (.int p2)]) (st' := [.int p1, .int (g.1 60 42), .ref 88]) (g' := g) (by decide +kernel) rfl ?_
  obtain ⟨h1, H⟩ := xg_elim H
  refine xiast A (nxt := 10) (by decide +kernel) (hS _ _ sh_88) h1 ?_
  show xW k S 0 0 10 [some (.ref 60), some (.int p1), some (.int p2)] [] (xupd g.1 88 (g.1 60 42).toNatClampNeg p1, g.2)
  refine xb A [(.aload_n 0, 1, 0, 0, .null), (.getfield 104, 3, 60, 44, .ref 89), (.aload_n 0, 1, 0, 0, .null), (.getfield 239, 3, 60, 42, .int 0), (.iload_n 2, 1, 0, 0, .null)] (pc' := 19) (ls' := [some (.ref 60), some (.int p1), some (.int p2)]) (st' := [.int p2, .int (g.1 60 42), .ref 89]) (g' := (xupd g.1 88 (g.1 60 42).toNatClampNeg p1, g.2)) (by decide +kernel) rfl ?_
  obtain ⟨h2, H⟩ := xg_elim H
  refine xiast A (nxt := 20) (by decide +kernel) (hS _ _ sh_89) h2 ?_
  show xW k S 0 0 20 [some (.ref 60), some (.int p1), some (.int p2)] [] (xupd (xupd g.1 88 (g.1 60 42).toNatClampNeg p1) 89 (g.1 60 42).toNatClampNeg p2, g.2)
  refine xb A [(.aload_n 0, 1, 0, 0, .null), (.dup, 1, 0, 0, .null), (.getfield 239, 3, 60, 42, .int 0), (.iconst 1, 1, 0, 0, .int 1), (.iadd, 1, 0, 0, .null), (.putfield 239, 3, 60, 42, .int 0)] (pc' := 30) (ls' := [some (.ref 60), some (.int p1), some (.int p2)]) (st' := []) (g' := (xupd (xupd (xupd g.1 88 (g.1 60 42).toNatClampNeg p1) 89 (g.1 60 42).toNatClampNeg p2) 60 42 ((g.1 60 42) + 1), g.2)) (by decide +kernel) rfl ?_
  obtain rfl := Option.some.inj H
  exact xret_v A hR hz (by decide +kernel) ⟨rfl, rfl⟩
theorem fr_X12_emit_60 {p1 : Int32} {p2 : Int32} {g : xG} (out : xG) (H : f_X12_emit_60 p1 p2 g = some out) : xfrm fp_X12_emit_60 g (out) := by
  have H : (xg (¬ ((g.1 60 42) < 0 ∨ 840 ≤ (g.1 60 42).toNatClampNeg)) (
  xg (¬ ((g.1 60 42) < 0 ∨ 840 ≤ (g.1 60 42).toNatClampNeg)) (
    some (xupd (xupd (xupd g.1 88 (g.1 60 42).toNatClampNeg p1) 89 (g.1 60 42).toNatClampNeg p2) 60 42 ((g.1 60 42) + 1), g.2)))) = some out := H
  obtain ⟨h1, H⟩ := xg_elim H
  have hf1 : xfrm fp_X12_emit_60 g ((xupd g.1 88 (g.1 60 42).toNatClampNeg p1, g.2)) := xfrm.ua xfrm.rf rfl
  obtain ⟨h2, H⟩ := xg_elim H
  have hf2 : xfrm fp_X12_emit_60 g ((xupd (xupd g.1 88 (g.1 60 42).toNatClampNeg p1) 89 (g.1 60 42).toNatClampNeg p2, g.2)) := xfrm.ua hf1 rfl
  have hf3 : xfrm fp_X12_emit_60 g ((xupd (xupd (xupd g.1 88 (g.1 60 42).toNatClampNeg p1) 89 (g.1 60 42).toNatClampNeg p2) 60 42 ((g.1 60 42) + 1), g.2)) := xfrm.up hf2 rfl
  obtain rfl := Option.some.inj H
  exact hf3
def fp_X12_unit_60 : List (Nat × Option Nat) := [(60, some 11), (60, some 13), (60, some 14), (60, some 42), (88, none), (89, none)]
def f_X12_unit_60  (g : xG) : Option (xG) :=
  (f_X12_is_60 2 g).bind fun w1 =>
  if w1 = 0 then
    if (g.1 60 13) = 0 then
      xg (¬ ((g.1 60 11) < 0 ∨ 403 ≤ (g.1 60 11).toNatClampNeg)) (
        if (g.1 63 (g.1 60 11).toNatClampNeg) < 32 then
          (f_X12_fail_60 1 g).bind fun w3 =>
          some w3
        else
          xg (¬ ((g.1 60 11) < 0 ∨ 403 ≤ (g.1 60 11).toNatClampNeg)) (
            if 40 < (g.1 63 (g.1 60 11).toNatClampNeg) then
              (f_X12_fail_60 1 g).bind fun w4 =>
              some w4
            else
              xg (¬ ((g.1 60 11) < 0 ∨ 403 ≤ (g.1 60 11).toNatClampNeg)) (
                (f_X12_emit_60 1 ((g.1 63 (g.1 60 11).toNatClampNeg) - 32) g).bind fun w5 =>
                (f_X12_goesOn_60 w5).bind fun w6 =>
                some w6)))
    else
      (f_X12_fail_60 1 g).bind fun w2 =>
      some w2
  else
    xg (¬ ((g.1 60 11) < 0 ∨ 403 ≤ (g.1 60 11).toNatClampNeg)) (
      (f_X12_emit_60 0 (g.1 65 (g.1 60 11).toNatClampNeg) g).bind fun w7 =>
      (f_X12_goesOn_60 w7).bind fun w8 =>
      some w8)
set_option maxRecDepth 20000 in
theorem c_X12_unit_60 {S : List xSh} (hS : xpf SH2 S) {g : xG}  (out : xG) (H : f_X12_unit_60  g = some out) : xC mX12_unit 2 41 0 0 S [.ref 60] g S (fun r g' => r = none ∧ g' = out) := by
  have H : ((f_X12_is_60 2 g).bind fun w1 =>
if w1 = 0 then
  if (g.1 60 13) = 0 then
    xg (¬ ((g.1 60 11) < 0 ∨ 403 ≤ (g.1 60 11).toNatClampNeg)) (
      if (g.1 63 (g.1 60 11).toNatClampNeg) < 32 then
        (f_X12_fail_60 1 g).bind fun w3 =>
        some w3
      else
        xg (¬ ((g.1 60 11) < 0 ∨ 403 ≤ (g.1 60 11).toNatClampNeg)) (
          if 40 < (g.1 63 (g.1 60 11).toNatClampNeg) then
            (f_X12_fail_60 1 g).bind fun w4 =>
            some w4
          else
            xg (¬ ((g.1 60 11) < 0 ∨ 403 ≤ (g.1 60 11).toNatClampNeg)) (
              (f_X12_emit_60 1 ((g.1 63 (g.1 60 11).toNatClampNeg) - 32) g).bind fun w5 =>
              (f_X12_goesOn_60 w5).bind fun w6 =>
              some w6)))
  else
    (f_X12_fail_60 1 g).bind fun w2 =>
    some w2
else
  xg (¬ ((g.1 60 11) < 0 ∨ 403 ≤ (g.1 60 11).toNatClampNeg)) (
    (f_X12_emit_60 0 (g.1 65 (g.1 60 11).toNatClampNeg) g).bind fun w7 =>
    (f_X12_goesOn_60 w7).bind fun w8 =>
    some w8)) = some out := H
  refine xC.of 12 SH2 [some (.ref 60)] hS (by decide +kernel) rfl (fun _ _ => Nat.le_of_ble_eq_true rfl) (fun _ _ => rfl) ?_
  intro k A hR hrm hz
  refine xb A [(.aload_n 0, 1, 0, 0, .null), (.iconst 2, 1, 0, 0, .int 2)] (pc' := 2) (ls' := [some (.ref 60)]) (st' := [.int 2, .ref 60]) (g' := g) (by decide +kernel) rfl ?_
  obtain ⟨w1, e1, H⟩ := xbind H
  refine xcallV A (ix := 215) (nxt := 5) hrm hz [.int 2] [] 1608 (c_X12_is_60 hS _ e1) ok_X12_is (by decide +kernel) rfl (fun r g1 hq => ?_)
  rw [hq.1, hq.2]
  show xW k S 0 0 5 [some (.ref 60)] [.int w1] g
  refine xif_eq A (24) 29 8 (by decide +kernel) (fun h1 => ?_) (fun h1 => ?_)
  · rw [if_pos h1] at H
    refine xb A [(.aload_n 0, 1, 0, 0, .null), (.getfield 197, 3, 60, 13, .int 0)] (pc' := 33) (ls' := [some (.ref 60)]) (st' := [.int (g.1 60 13)]) (g' := g) (by decide +kernel) rfl ?_
    refine xif_ne A (55) 88 36 (by decide +kernel) (fun h2 => ?_) (fun h2 => ?_)
    · rw [if_neg h2] at H
      refine xb A [(.aload_n 0, 1, 0, 0, .null), (.iconst 1, 1, 0, 0, .int 1)] (pc' := 90) (ls' := [some (.ref 60)]) (st' := [.int 1, .ref 60]) (g' := g) (by decide +kernel) rfl ?_
      obtain ⟨w2, e2, H⟩ := xbind H
      refine xcallV A (ix := 212) (nxt := 93) hrm hz [.int 1] [] 1620 (c_X12_fail_60 hS _ e2) ok_X12_fail (by decide +kernel) rfl (fun r g1 hq => ?_)
      rw [hq.1, hq.2]
      show xW k S 0 0 93 [some (.ref 60)] [] w2
      obtain rfl := Option.some.inj H
      exact xret_v A hR hz (by decide +kernel) ⟨rfl, rfl⟩
    · rw [if_pos h2] at H
      refine xb A [(.aload_n 0, 1, 0, 0, .null), (.getfield 20, 3, 60, 5, .ref 63), (.aload_n 0, 1, 0, 0, .null), (.getfield 200, 3, 60, 11, .int 0)] (pc' := 44) (ls' := [some (.ref 60)]) (st' := [.int (g.1 60 11), .ref 63]) (g' := g) (by decide +kernel) rfl ?_
      obtain ⟨h3, H⟩ := xg_elim H
      refine xiald A (nxt := 45) (by decide +kernel) (hS _ _ sh_63) h3 ?_
      show xW k S 0 0 45 [some (.ref 60)] [.int (g.1 63 (g.1 60 11).toNatClampNeg)] g
      refine xb A [(.bipush 32, 2, 0, 0, .int 32)] (pc' := 47) (ls' := [some (.ref 60)]) (st' := [.int 32, .int (g.1 63 (g.1 60 11).toNatClampNeg)]) (g' := g) (by decide +kernel) rfl ?_
      refine xic_lt A (41) 88 50 (by decide +kernel) (fun h4 => ?_) (fun h4 => ?_)
      · rw [if_pos h4] at H
        refine xb A [(.aload_n 0, 1, 0, 0, .null), (.iconst 1, 1, 0, 0, .int 1)] (pc' := 90) (ls' := [some (.ref 60)]) (st' := [.int 1, .ref 60]) (g' := g) (by decide +kernel) rfl ?_
        obtain ⟨w3, e3, H⟩ := xbind H
        refine xcallV A (ix := 212) (nxt := 93) hrm hz [.int 1] [] 1620 (c_X12_fail_60 hS _ e3) ok_X12_fail (by decide +kernel) rfl (fun r g1 hq => ?_)
        rw [hq.1, hq.2]
        show xW k S 0 0 93 [some (.ref 60)] [] w3
        obtain rfl := Option.some.inj H
        exact xret_v A hR hz (by decide +kernel) ⟨rfl, rfl⟩
      · rw [if_neg h4] at H
        refine xb A [(.aload_n 0, 1, 0, 0, .null), (.getfield 20, 3, 60, 5, .ref 63), (.aload_n 0, 1, 0, 0, .null), (.getfield 200, 3, 60, 11, .int 0)] (pc' := 58) (ls' := [some (.ref 60)]) (st' := [.int (g.1 60 11), .ref 63]) (g' := g) (by decide +kernel) rfl ?_
        obtain ⟨h5, H⟩ := xg_elim H
        refine xiald A (nxt := 59) (by decide +kernel) (hS _ _ sh_63) h5 ?_
        show xW k S 0 0 59 [some (.ref 60)] [.int (g.1 63 (g.1 60 11).toNatClampNeg)] g
        refine xb A [(.bipush 40, 2, 0, 0, .int 40)] (pc' := 61) (ls' := [some (.ref 60)]) (st' := [.int 40, .int (g.1 63 (g.1 60 11).toNatClampNeg)]) (g' := g) (by decide +kernel) rfl ?_
        refine xic_gt A (27) 88 64 (by decide +kernel) (fun h6 => ?_) (fun h6 => ?_)
        · rw [if_pos h6] at H
          refine xb A [(.aload_n 0, 1, 0, 0, .null), (.iconst 1, 1, 0, 0, .int 1)] (pc' := 90) (ls' := [some (.ref 60)]) (st' := [.int 1, .ref 60]) (g' := g) (by decide +kernel) rfl ?_
          obtain ⟨w4, e4, H⟩ := xbind H
          refine xcallV A (ix := 212) (nxt := 93) hrm hz [.int 1] [] 1620 (c_X12_fail_60 hS _ e4) ok_X12_fail (by decide +kernel) rfl (fun r g1 hq => ?_)
          rw [hq.1, hq.2]
          show xW k S 0 0 93 [some (.ref 60)] [] w4
          obtain rfl := Option.some.inj H
          exact xret_v A hR hz (by decide +kernel) ⟨rfl, rfl⟩
        · rw [if_neg h6] at H
          refine xb A [(.aload_n 0, 1, 0, 0, .null), (.iconst 1, 1, 0, 0, .int 1), (.aload_n 0, 1, 0, 0, .null), (.getfield 20, 3, 60, 5, .ref 63), (.aload_n 0, 1, 0, 0, .null), (.getfield 200, 3, 60, 11, .int 0)] (pc' := 74) (ls' := [some (.ref 60)]) (st' := [.int (g.1 60 11), .ref 63, .int 1, .ref 60]) (g' := g) (by decide +kernel) rfl ?_
          obtain ⟨h7, H⟩ := xg_elim H
          refine xiald A (nxt := 75) (by decide +kernel) (hS _ _ sh_63) h7 ?_
          show xW k S 0 0 75 [some (.ref 60)] [.int (g.1 63 (g.1 60 11).toNatClampNeg), .int 1, .ref 60] g
          refine xb A [(.bipush 32, 2, 0, 0, .int 32), (.isub, 1, 0, 0, .null)] (pc' := 78) (ls' := [some (.ref 60)]) (st' := [.int ((g.1 63 (g.1 60 11).toNatClampNeg) - 32), .int 1, .ref 60]) (g' := g) (by decide +kernel) rfl ?_
          obtain ⟨w5, e5, H⟩ := xbind H
          refine xcallV A (ix := 293) (nxt := 81) hrm hz [.int 1, .int ((g.1 63 (g.1 60 11).toNatClampNeg) - 32)] [] 1672 (c_X12_emit_60 hS _ e5) ok_X12_emit (by decide +kernel) rfl (fun r g1 hq => ?_)
          rw [hq.1, hq.2]
          show xW k S 0 0 81 [some (.ref 60)] [] w5
          refine xb A [(.aload_n 0, 1, 0, 0, .null)] (pc' := 82) (ls' := [some (.ref 60)]) (st' := [.ref 60]) (g' := w5) (by decide +kernel) rfl ?_
          obtain ⟨w6, e6, H⟩ := xbind H
          refine xcallV A (ix := 218) (nxt := 85) hrm hz [] [] 1624 (c_X12_goesOn_60 hS _ e6) ok_X12_goesOn (by decide +kernel) rfl (fun r g1 hq => ?_)
          rw [hq.1, hq.2]
          show xW k S 0 0 85 [some (.ref 60)] [] w6
          refine xgoto A (8) 93 (by decide +kernel) ?_
          obtain rfl := Option.some.inj H
          exact xret_v A hR hz (by decide +kernel) ⟨rfl, rfl⟩
  · rw [if_neg h1] at H
    refine xb A [(.aload_n 0, 1, 0, 0, .null), (.iconst 0, 1, 0, 0, .int 0), (.aload_n 0, 1, 0, 0, .null), (.getfield 27, 3, 60, 7, .ref 65), (.aload_n 0, 1, 0, 0, .null), (.getfield 200, 3, 60, 11, .int 0)] (pc' := 18) (ls' := [some (.ref 60)]) (st' := [.int (g.1 60 11), .ref 65, .int 0, .ref 60]) (g' := g) (by decide +kernel) rfl ?_
    obtain ⟨h8, H⟩ := xg_elim H
    refine xiald A (nxt := 19) (by decide +kernel) (hS _ _ sh_65) h8 ?_
    show xW k S 0 0 19 [some (.ref 60)] [.int (g.1 65 (g.1 60 11).toNatClampNeg), .int 0, .ref 60] g
    obtain ⟨w7, e7, H⟩ := xbind H
    refine xcallV A (ix := 293) (nxt := 22) hrm hz [.int 0, .int (g.1 65 (g.1 60 11).toNatClampNeg)] [] 1672 (c_X12_emit_60 hS _ e7) ok_X12_emit (by decide +kernel) rfl (fun r g1 hq => ?_)
    rw [hq.1, hq.2]
    show xW k S 0 0 22 [some (.ref 60)] [] w7
    refine xb A [(.aload_n 0, 1, 0, 0, .null)] (pc' := 23) (ls' := [some (.ref 60)]) (st' := [.ref 60]) (g' := w7) (by decide +kernel) rfl ?_
    obtain ⟨w8, e8, H⟩ := xbind H
    refine xcallV A (ix := 218) (nxt := 26) hrm hz [] [] 1624 (c_X12_goesOn_60 hS _ e8) ok_X12_goesOn (by decide +kernel) rfl (fun r g1 hq => ?_)
    rw [hq.1, hq.2]
    show xW k S 0 0 26 [some (.ref 60)] [] w8
    refine xgoto A (67) 93 (by decide +kernel) ?_
    obtain rfl := Option.some.inj H
    exact xret_v A hR hz (by decide +kernel) ⟨rfl, rfl⟩
theorem fr_X12_unit_60  {g : xG} (out : xG) (H : f_X12_unit_60  g = some out) : xfrm fp_X12_unit_60 g (out) := by
  have H : ((f_X12_is_60 2 g).bind fun w1 =>
if w1 = 0 then
  if (g.1 60 13) = 0 then
    xg (¬ ((g.1 60 11) < 0 ∨ 403 ≤ (g.1 60 11).toNatClampNeg)) (
      if (g.1 63 (g.1 60 11).toNatClampNeg) < 32 then
        (f_X12_fail_60 1 g).bind fun w3 =>
        some w3
      else
        xg (¬ ((g.1 60 11) < 0 ∨ 403 ≤ (g.1 60 11).toNatClampNeg)) (
          if 40 < (g.1 63 (g.1 60 11).toNatClampNeg) then
            (f_X12_fail_60 1 g).bind fun w4 =>
            some w4
          else
            xg (¬ ((g.1 60 11) < 0 ∨ 403 ≤ (g.1 60 11).toNatClampNeg)) (
              (f_X12_emit_60 1 ((g.1 63 (g.1 60 11).toNatClampNeg) - 32) g).bind fun w5 =>
              (f_X12_goesOn_60 w5).bind fun w6 =>
              some w6)))
  else
    (f_X12_fail_60 1 g).bind fun w2 =>
    some w2
else
  xg (¬ ((g.1 60 11) < 0 ∨ 403 ≤ (g.1 60 11).toNatClampNeg)) (
    (f_X12_emit_60 0 (g.1 65 (g.1 60 11).toNatClampNeg) g).bind fun w7 =>
    (f_X12_goesOn_60 w7).bind fun w8 =>
    some w8)) = some out := H
  obtain ⟨w1, e1, H⟩ := xbind H
  by_cases h1 : w1 = 0
  · rw [if_pos h1] at H
    by_cases h2 : (g.1 60 13) = 0
    · rw [if_pos h2] at H
      obtain ⟨h3, H⟩ := xg_elim H
      by_cases h4 : (g.1 63 (g.1 60 11).toNatClampNeg) < 32
      · rw [if_pos h4] at H
        obtain ⟨w3, e3, H⟩ := xbind H
        have hf2 : xfrm fp_X12_unit_60 g (w3) := xfrm.tr xfrm.rf (fr_X12_fail_60 _ e3) rfl
        obtain rfl := Option.some.inj H
        exact hf2
      · rw [if_neg h4] at H
        obtain ⟨h5, H⟩ := xg_elim H
        by_cases h6 : 40 < (g.1 63 (g.1 60 11).toNatClampNeg)
        · rw [if_pos h6] at H
          obtain ⟨w4, e4, H⟩ := xbind H
          have hf3 : xfrm fp_X12_unit_60 g (w4) := xfrm.tr xfrm.rf (fr_X12_fail_60 _ e4) rfl
          obtain rfl := Option.some.inj H
          exact hf3
        · rw [if_neg h6] at H
          obtain ⟨h7, H⟩ := xg_elim H
          obtain ⟨w5, e5, H⟩ := xbind H
          have hf4 : xfrm fp_X12_unit_60 g (w5) := xfrm.tr xfrm.rf (fr_X12_emit_60 _ e5) rfl
          obtain ⟨w6, e6, H⟩ := xbind H
          have hf5 : xfrm fp_X12_unit_60 g (w6) := xfrm.tr hf4 (fr_X12_goesOn_60 _ e6) rfl
          obtain rfl := Option.some.inj H
          exact hf5
    · rw [if_neg h2] at H
      obtain ⟨w2, e2, H⟩ := xbind H
      have hf1 : xfrm fp_X12_unit_60 g (w2) := xfrm.tr xfrm.rf (fr_X12_fail_60 _ e2) rfl
      obtain rfl := Option.some.inj H
      exact hf1
  · rw [if_neg h1] at H
    obtain ⟨h8, H⟩ := xg_elim H
    obtain ⟨w7, e7, H⟩ := xbind H
    have hf6 : xfrm fp_X12_unit_60 g (w7) := xfrm.tr xfrm.rf (fr_X12_emit_60 _ e7) rfl
    obtain ⟨w8, e8, H⟩ := xbind H
    have hf7 : xfrm fp_X12_unit_60 g (w8) := xfrm.tr hf6 (fr_X12_goesOn_60 _ e8) rfl
    obtain rfl := Option.some.inj H
    exact hf7
def fp_X12_comesOut_60 : List (Nat × Option Nat) := [(60, some 42), (60, some 46), (88, none), (89, none)]
def f_X12_comesOut_60_42 (k0 : Int32 → xG → Option (xG)) (l1 : Int32) (l2 : Int32) (g : xG) : Option (xG) :=
  if l2 = 8 then
    (f_X12_emit_60 2 0 (xupd g.1 60 46 ((g.1 60 46) - 1), g.2)).bind fun w4 =>
    k0 l1 w4
  else
    if l2 = 9 then
      (f_X12_emit_60 3 0 (xupd g.1 60 46 ((g.1 60 46) - 1), g.2)).bind fun w3 =>
      k0 l1 w3
    else
      if l2 = 10 then
        (f_X12_emit_60 4 0 (xupd g.1 60 46 ((g.1 60 46) - 1), g.2)).bind fun w2 =>
        k0 l1 w2
      else
        (f_X12_emit_60 5 0 (xupd g.1 60 46 ((g.1 60 46) - 1), g.2)).bind fun w1 =>
        k0 l1 w1
def f_X12_comesOut_60_0  : Nat → Int32 → xG → Option (xG)
  | 0, _, _ => none
  | n + 1, l1, g =>
    if (g.1 60 46) ≤ 0 then
      some g
    else
      xg (¬ (((g.1 60 46) - 1) < 0 ∨ 64 ≤ ((g.1 60 46) - 1).toNatClampNeg)) (
        if (g.1 90 ((g.1 60 46) - 1).toNatClampNeg) = 6 then
          some g
        else
          if l1 = 0 then
            f_X12_comesOut_60_42 (f_X12_comesOut_60_0 n) l1 (g.1 90 ((g.1 60 46) - 1).toNatClampNeg) g
          else
            if (g.1 90 ((g.1 60 46) - 1).toNatClampNeg) = 8 then
              some g
            else
              if (g.1 90 ((g.1 60 46) - 1).toNatClampNeg) = 9 then
                some g
              else
                f_X12_comesOut_60_42 (f_X12_comesOut_60_0 n) l1 (g.1 90 ((g.1 60 46) - 1).toNatClampNeg) g)
def f_X12_comesOut_60 (p1 : Int32) (g : xG) : Option (xG) :=
  f_X12_comesOut_60_0 xN p1 g
set_option maxRecDepth 20000 in
theorem t_X12_comesOut_60_42 {k : xK} {S : List xSh} {out : xG} (hS : xpf SH2 S) (A : xAt k mX12_comesOut.2.1 12 SH2 S) (hR : xRet k 0 0 S (fun r g' => r = none ∧ g' = out) mX12_comesOut.2.2.2) (hrm : xrm k = { frames := 1, cells := 0, slots := 0, locals := 22 }) (hz : xhs k = xb0 k + S.length) {k0 : Int32 → xG → Option (xG)} (hk0 : ∀ (l1 : Int32) (g : xG), k0 l1 g = some out → xW k S 0 0 0 [some (.ref 60), some (.int l1), none] [] g) : ∀ (l1 : Int32) (l2 : Int32) (g : xG), f_X12_comesOut_60_42 k0 l1 l2 g = some out → xW k S 0 0 42 [some (.ref 60), some (.int l1), some (.int l2)] [] g := by
  intro l1 l2 g H
  have H : (if l2 = 8 then
  (f_X12_emit_60 2 0 (xupd g.1 60 46 ((g.1 60 46) - 1), g.2)).bind fun w4 =>
  k0 l1 w4
else
  if l2 = 9 then
    (f_X12_emit_60 3 0 (xupd g.1 60 46 ((g.1 60 46) - 1), g.2)).bind fun w3 =>
    k0 l1 w3
  else
    if l2 = 10 then
      (f_X12_emit_60 4 0 (xupd g.1 60 46 ((g.1 60 46) - 1), g.2)).bind fun w2 =>
      k0 l1 w2
    else
      (f_X12_emit_60 5 0 (xupd g.1 60 46 ((g.1 60 46) - 1), g.2)).bind fun w1 =>
      k0 l1 w1) = some out := H
  refine xb A [(.aload_n 0, 1, 0, 0, .null), (.dup, 1, 0, 0, .null), (.getfield 290, 3, 60, 46, .int 0), (.iconst 1, 1, 0, 0, .int 1), (.isub, 1, 0, 0, .null), (.putfield 290, 3, 60, 46, .int 0), (.aload_n 0, 1, 0, 0, .null), (.iload_n 2, 1, 0, 0, .null), (.bipush 8, 2, 0, 0, .int 8)] (pc' := 56) (ls' := [some (.ref 60), some (.int l1), some (.int l2)]) (st' := [.int 8, .int l2, .ref 60]) (g' := (xupd g.1 60 46 ((g.1 60 46) - 1), g.2)) (by decide +kernel) rfl ?_
  refine xic_ne A (7) 63 59 (by decide +kernel) (fun h5 => ?_) (fun h5 => ?_)
  · rw [if_neg h5] at H
    refine xb A [(.iload_n 2, 1, 0, 0, .null), (.bipush 9, 2, 0, 0, .int 9)] (pc' := 66) (ls' := [some (.ref 60), some (.int l1), some (.int l2)]) (st' := [.int 9, .int l2, .ref 60]) (g' := (xupd g.1 60 46 ((g.1 60 46) - 1), g.2)) (by decide +kernel) rfl ?_
    refine xic_ne A (7) 73 69 (by decide +kernel) (fun h6 => ?_) (fun h6 => ?_)
    · rw [if_neg h6] at H
      refine xb A [(.iload_n 2, 1, 0, 0, .null), (.bipush 10, 2, 0, 0, .int 10)] (pc' := 76) (ls' := [some (.ref 60), some (.int l1), some (.int l2)]) (st' := [.int 10, .int l2, .ref 60]) (g' := (xupd g.1 60 46 ((g.1 60 46) - 1), g.2)) (by decide +kernel) rfl ?_
      refine xic_ne A (7) 83 79 (by decide +kernel) (fun h7 => ?_) (fun h7 => ?_)
      · rw [if_neg h7] at H
        refine xb A [(.iconst 5, 1, 0, 0, .int 5), (.iconst 0, 1, 0, 0, .int 0)] (pc' := 85) (ls' := [some (.ref 60), some (.int l1), some (.int l2)]) (st' := [.int 0, .int 5, .ref 60]) (g' := (xupd g.1 60 46 ((g.1 60 46) - 1), g.2)) (by decide +kernel) rfl ?_
        obtain ⟨w1, e1, H⟩ := xbind H
        refine xcallV A (ix := 293) (nxt := 88) hrm hz [.int 5, .int 0] [] 1672 (c_X12_emit_60 hS _ e1) ok_X12_emit (by decide +kernel) rfl (fun r g1 hq => ?_)
        rw [hq.1, hq.2]
        show xW k S 0 0 88 [some (.ref 60), some (.int l1), some (.int l2)] [] w1
        refine xgoto A (-88) 0 (by decide +kernel) ?_
        refine xweak (ls' := [some (.ref 60), some (.int l1), none]) (by exact ⟨rfl, ⟨rfl, trivial⟩⟩) ?_
        exact hk0 _ _ H
      · rw [if_pos h7] at H
        refine xb A [(.iconst 4, 1, 0, 0, .int 4)] (pc' := 80) (ls' := [some (.ref 60), some (.int l1), some (.int l2)]) (st' := [.int 4, .ref 60]) (g' := (xupd g.1 60 46 ((g.1 60 46) - 1), g.2)) (by decide +kernel) rfl ?_
        refine xgoto A (4) 84 (by decide +kernel) ?_
        refine xb A [(.iconst 0, 1, 0, 0, .int 0)] (pc' := 85) (ls' := [some (.ref 60), some (.int l1), some (.int l2)]) (st' := [.int 0, .int 4, .ref 60]) (g' := (xupd g.1 60 46 ((g.1 60 46) - 1), g.2)) (by decide +kernel) rfl ?_
        obtain ⟨w2, e2, H⟩ := xbind H
        refine xcallV A (ix := 293) (nxt := 88) hrm hz [.int 4, .int 0] [] 1672 (c_X12_emit_60 hS _ e2) ok_X12_emit (by decide +kernel) rfl (fun r g1 hq => ?_)
        rw [hq.1, hq.2]
        show xW k S 0 0 88 [some (.ref 60), some (.int l1), some (.int l2)] [] w2
        refine xgoto A (-88) 0 (by decide +kernel) ?_
        refine xweak (ls' := [some (.ref 60), some (.int l1), none]) (by exact ⟨rfl, ⟨rfl, trivial⟩⟩) ?_
        exact hk0 _ _ H
    · rw [if_pos h6] at H
      refine xb A [(.iconst 3, 1, 0, 0, .int 3)] (pc' := 70) (ls' := [some (.ref 60), some (.int l1), some (.int l2)]) (st' := [.int 3, .ref 60]) (g' := (xupd g.1 60 46 ((g.1 60 46) - 1), g.2)) (by decide +kernel) rfl ?_
      refine xgoto A (14) 84 (by decide +kernel) ?_
      refine xb A [(.iconst 0, 1, 0, 0, .int 0)] (pc' := 85) (ls' := [some (.ref 60), some (.int l1), some (.int l2)]) (st' := [.int 0, .int 3, .ref 60]) (g' := (xupd g.1 60 46 ((g.1 60 46) - 1), g.2)) (by decide +kernel) rfl ?_
      obtain ⟨w3, e3, H⟩ := xbind H
      refine xcallV A (ix := 293) (nxt := 88) hrm hz [.int 3, .int 0] [] 1672 (c_X12_emit_60 hS _ e3) ok_X12_emit (by decide +kernel) rfl (fun r g1 hq => ?_)
      rw [hq.1, hq.2]
      show xW k S 0 0 88 [some (.ref 60), some (.int l1), some (.int l2)] [] w3
      refine xgoto A (-88) 0 (by decide +kernel) ?_
      refine xweak (ls' := [some (.ref 60), some (.int l1), none]) (by exact ⟨rfl, ⟨rfl, trivial⟩⟩) ?_
      exact hk0 _ _ H
  · rw [if_pos h5] at H
    refine xb A [(.iconst 2, 1, 0, 0, .int 2)] (pc' := 60) (ls' := [some (.ref 60), some (.int l1), some (.int l2)]) (st' := [.int 2, .ref 60]) (g' := (xupd g.1 60 46 ((g.1 60 46) - 1), g.2)) (by decide +kernel) rfl ?_
    refine xgoto A (24) 84 (by decide +kernel) ?_
    refine xb A [(.iconst 0, 1, 0, 0, .int 0)] (pc' := 85) (ls' := [some (.ref 60), some (.int l1), some (.int l2)]) (st' := [.int 0, .int 2, .ref 60]) (g' := (xupd g.1 60 46 ((g.1 60 46) - 1), g.2)) (by decide +kernel) rfl ?_
    obtain ⟨w4, e4, H⟩ := xbind H
    refine xcallV A (ix := 293) (nxt := 88) hrm hz [.int 2, .int 0] [] 1672 (c_X12_emit_60 hS _ e4) ok_X12_emit (by decide +kernel) rfl (fun r g1 hq => ?_)
    rw [hq.1, hq.2]
    show xW k S 0 0 88 [some (.ref 60), some (.int l1), some (.int l2)] [] w4
    refine xgoto A (-88) 0 (by decide +kernel) ?_
    refine xweak (ls' := [some (.ref 60), some (.int l1), none]) (by exact ⟨rfl, ⟨rfl, trivial⟩⟩) ?_
    exact hk0 _ _ H
theorem fr_X12_comesOut_60_42 {k0 : Int32 → xG → Option (xG)} (hk0 : ∀ (l1 : Int32) (g : xG) (out : xG), k0 l1 g = some out → xfrm fp_X12_comesOut_60 g (out)) : ∀ (l1 : Int32) (l2 : Int32) (g : xG) (out : xG), f_X12_comesOut_60_42 k0 l1 l2 g = some out → xfrm fp_X12_comesOut_60 g (out) := by
  intro l1 l2 g out H
  have H : (if l2 = 8 then
  (f_X12_emit_60 2 0 (xupd g.1 60 46 ((g.1 60 46) - 1), g.2)).bind fun w4 =>
  k0 l1 w4
else
  if l2 = 9 then
    (f_X12_emit_60 3 0 (xupd g.1 60 46 ((g.1 60 46) - 1), g.2)).bind fun w3 =>
    k0 l1 w3
  else
    if l2 = 10 then
      (f_X12_emit_60 4 0 (xupd g.1 60 46 ((g.1 60 46) - 1), g.2)).bind fun w2 =>
      k0 l1 w2
    else
      (f_X12_emit_60 5 0 (xupd g.1 60 46 ((g.1 60 46) - 1), g.2)).bind fun w1 =>
      k0 l1 w1) = some out := H
  have hf1 : xfrm fp_X12_comesOut_60 g ((xupd g.1 60 46 ((g.1 60 46) - 1), g.2)) := xfrm.up xfrm.rf rfl
  by_cases h5 : l2 = 8
  · rw [if_pos h5] at H
    obtain ⟨w4, e4, H⟩ := xbind H
    have hf5 : xfrm fp_X12_comesOut_60 g (w4) := xfrm.tr hf1 (fr_X12_emit_60 _ e4) rfl
    exact xfrm.tr hf5 (hk0 _ _ _ H) rfl
  · rw [if_neg h5] at H
    by_cases h6 : l2 = 9
    · rw [if_pos h6] at H
      obtain ⟨w3, e3, H⟩ := xbind H
      have hf4 : xfrm fp_X12_comesOut_60 g (w3) := xfrm.tr hf1 (fr_X12_emit_60 _ e3) rfl
      exact xfrm.tr hf4 (hk0 _ _ _ H) rfl
    · rw [if_neg h6] at H
      by_cases h7 : l2 = 10
      · rw [if_pos h7] at H
        obtain ⟨w2, e2, H⟩ := xbind H
        have hf3 : xfrm fp_X12_comesOut_60 g (w2) := xfrm.tr hf1 (fr_X12_emit_60 _ e2) rfl
        exact xfrm.tr hf3 (hk0 _ _ _ H) rfl
      · rw [if_neg h7] at H
        obtain ⟨w1, e1, H⟩ := xbind H
        have hf2 : xfrm fp_X12_comesOut_60 g (w1) := xfrm.tr hf1 (fr_X12_emit_60 _ e1) rfl
        exact xfrm.tr hf2 (hk0 _ _ _ H) rfl
set_option maxRecDepth 20000 in
theorem t_X12_comesOut_60_0 {k : xK} {S : List xSh} {out : xG} (hS : xpf SH2 S) (A : xAt k mX12_comesOut.2.1 12 SH2 S) (hR : xRet k 0 0 S (fun r g' => r = none ∧ g' = out) mX12_comesOut.2.2.2) (hrm : xrm k = { frames := 1, cells := 0, slots := 0, locals := 22 }) (hz : xhs k = xb0 k + S.length)   : ∀ (n : Nat) (l1 : Int32) (g : xG), f_X12_comesOut_60_0 n l1 g = some out → xW k S 0 0 0 [some (.ref 60), some (.int l1), none] [] g := by
  intro n
  induction n with
  | zero => intro l1 g H; exact absurd H (by simp [f_X12_comesOut_60_0])
  | succ n ih =>
    intro l1 g H
    have H : (if (g.1 60 46) ≤ 0 then
  some g
else
  xg (¬ (((g.1 60 46) - 1) < 0 ∨ 64 ≤ ((g.1 60 46) - 1).toNatClampNeg)) (
    if (g.1 90 ((g.1 60 46) - 1).toNatClampNeg) = 6 then
      some g
    else
      if l1 = 0 then
        f_X12_comesOut_60_42 (f_X12_comesOut_60_0 n) l1 (g.1 90 ((g.1 60 46) - 1).toNatClampNeg) g
      else
        if (g.1 90 ((g.1 60 46) - 1).toNatClampNeg) = 8 then
          some g
        else
          if (g.1 90 ((g.1 60 46) - 1).toNatClampNeg) = 9 then
            some g
          else
            f_X12_comesOut_60_42 (f_X12_comesOut_60_0 n) l1 (g.1 90 ((g.1 60 46) - 1).toNatClampNeg) g)) = some out := H
    refine xb A [(.aload_n 0, 1, 0, 0, .null), (.getfield 290, 3, 60, 46, .int 0)] (pc' := 4) (ls' := [some (.ref 60), some (.int l1), none]) (st' := [.int (g.1 60 46)]) (g' := g) (by decide +kernel) rfl ?_
    refine xif_le A (87) 91 7 (by decide +kernel) (fun h1 => ?_) (fun h1 => ?_)
    · rw [if_pos h1] at H
      obtain rfl := Option.some.inj H
      exact xret_v A hR hz (by decide +kernel) ⟨rfl, rfl⟩
    · rw [if_neg h1] at H
      refine xb A [(.aload_n 0, 1, 0, 0, .null), (.getfield 107, 3, 60, 45, .ref 90), (.aload_n 0, 1, 0, 0, .null), (.getfield 290, 3, 60, 46, .int 0), (.iconst 1, 1, 0, 0, .int 1), (.isub, 1, 0, 0, .null)] (pc' := 17) (ls' := [some (.ref 60), some (.int l1), none]) (st' := [.int ((g.1 60 46) - 1), .ref 90]) (g' := g) (by decide +kernel) rfl ?_
      obtain ⟨h2, H⟩ := xg_elim H
      refine xiald A (nxt := 18) (by decide +kernel) (hS _ _ sh_90) h2 ?_
      show xW k S 0 0 18 [some (.ref 60), some (.int l1), none] [.int (g.1 90 ((g.1 60 46) - 1).toNatClampNeg)] g
      refine xb A [(.istore_n 2, 1, 0, 0, .null), (.iload_n 2, 1, 0, 0, .null), (.bipush 6, 2, 0, 0, .int 6)] (pc' := 22) (ls' := [some (.ref 60), some (.int l1), some (.int (g.1 90 ((g.1 60 46) - 1).toNatClampNeg))]) (st' := [.int 6, .int (g.1 90 ((g.1 60 46) - 1).toNatClampNeg)]) (g' := g) (by decide +kernel) rfl ?_
      refine xic_eq A (19) 41 25 (by decide +kernel) (fun h3 => ?_) (fun h3 => ?_)
      · rw [if_pos h3] at H
        obtain rfl := Option.some.inj H
        exact xret_v A hR hz (by decide +kernel) ⟨rfl, rfl⟩
      · rw [if_neg h3] at H
        refine xb A [(.iload_n 1, 1, 0, 0, .null)] (pc' := 26) (ls' := [some (.ref 60), some (.int l1), some (.int (g.1 90 ((g.1 60 46) - 1).toNatClampNeg))]) (st' := [.int l1]) (g' := g) (by decide +kernel) rfl ?_
        refine xif_eq A (16) 42 29 (by decide +kernel) (fun h4 => ?_) (fun h4 => ?_)
        · rw [if_pos h4] at H
          exact t_X12_comesOut_60_42 hS A hR hrm hz ih _ _ _ H
        · rw [if_neg h4] at H
          refine xb A [(.iload_n 2, 1, 0, 0, .null), (.bipush 8, 2, 0, 0, .int 8)] (pc' := 32) (ls' := [some (.ref 60), some (.int l1), some (.int (g.1 90 ((g.1 60 46) - 1).toNatClampNeg))]) (st' := [.int 8, .int (g.1 90 ((g.1 60 46) - 1).toNatClampNeg)]) (g' := g) (by decide +kernel) rfl ?_
          refine xic_eq A (9) 41 35 (by decide +kernel) (fun h8 => ?_) (fun h8 => ?_)
          · rw [if_pos h8] at H
            obtain rfl := Option.some.inj H
            exact xret_v A hR hz (by decide +kernel) ⟨rfl, rfl⟩
          · rw [if_neg h8] at H
            refine xb A [(.iload_n 2, 1, 0, 0, .null), (.bipush 9, 2, 0, 0, .int 9)] (pc' := 38) (ls' := [some (.ref 60), some (.int l1), some (.int (g.1 90 ((g.1 60 46) - 1).toNatClampNeg))]) (st' := [.int 9, .int (g.1 90 ((g.1 60 46) - 1).toNatClampNeg)]) (g' := g) (by decide +kernel) rfl ?_
            refine xic_ne A (4) 42 41 (by decide +kernel) (fun h9 => ?_) (fun h9 => ?_)
            · rw [if_neg h9] at H
              exact t_X12_comesOut_60_42 hS A hR hrm hz ih _ _ _ H
            · rw [if_pos h9] at H
              obtain rfl := Option.some.inj H
              exact xret_v A hR hz (by decide +kernel) ⟨rfl, rfl⟩
theorem fr_X12_comesOut_60_0   : ∀ (n : Nat) (l1 : Int32) (g : xG) (out : xG), f_X12_comesOut_60_0 n l1 g = some out → xfrm fp_X12_comesOut_60 g (out) := by
  intro n
  induction n with
  | zero => intro l1 g out H; exact absurd H (by simp [f_X12_comesOut_60_0])
  | succ n ih =>
    intro l1 g out H
    have H : (if (g.1 60 46) ≤ 0 then
  some g
else
  xg (¬ (((g.1 60 46) - 1) < 0 ∨ 64 ≤ ((g.1 60 46) - 1).toNatClampNeg)) (
    if (g.1 90 ((g.1 60 46) - 1).toNatClampNeg) = 6 then
      some g
    else
      if l1 = 0 then
        f_X12_comesOut_60_42 (f_X12_comesOut_60_0 n) l1 (g.1 90 ((g.1 60 46) - 1).toNatClampNeg) g
      else
        if (g.1 90 ((g.1 60 46) - 1).toNatClampNeg) = 8 then
          some g
        else
          if (g.1 90 ((g.1 60 46) - 1).toNatClampNeg) = 9 then
            some g
          else
            f_X12_comesOut_60_42 (f_X12_comesOut_60_0 n) l1 (g.1 90 ((g.1 60 46) - 1).toNatClampNeg) g)) = some out := H
    by_cases h1 : (g.1 60 46) ≤ 0
    · rw [if_pos h1] at H
      obtain rfl := Option.some.inj H
      exact xfrm.rf
    · rw [if_neg h1] at H
      obtain ⟨h2, H⟩ := xg_elim H
      by_cases h3 : (g.1 90 ((g.1 60 46) - 1).toNatClampNeg) = 6
      · rw [if_pos h3] at H
        obtain rfl := Option.some.inj H
        exact xfrm.rf
      · rw [if_neg h3] at H
        by_cases h4 : l1 = 0
        · rw [if_pos h4] at H
          exact xfrm.tr xfrm.rf (fr_X12_comesOut_60_42 ih _ _ _ _ H) rfl
        · rw [if_neg h4] at H
          by_cases h8 : (g.1 90 ((g.1 60 46) - 1).toNatClampNeg) = 8
          · rw [if_pos h8] at H
            obtain rfl := Option.some.inj H
            exact xfrm.rf
          · rw [if_neg h8] at H
            by_cases h9 : (g.1 90 ((g.1 60 46) - 1).toNatClampNeg) = 9
            · rw [if_pos h9] at H
              obtain rfl := Option.some.inj H
              exact xfrm.rf
            · rw [if_neg h9] at H
              exact xfrm.tr xfrm.rf (fr_X12_comesOut_60_42 ih _ _ _ _ H) rfl
set_option maxRecDepth 20000 in
theorem c_X12_comesOut_60 {S : List xSh} (hS : xpf SH2 S) {g : xG} {p1 : Int32} (out : xG) (H : f_X12_comesOut_60 p1 g = some out) : xC mX12_comesOut 1 22 0 0 S [.ref 60, .int p1] g S (fun r g' => r = none ∧ g' = out) := by
  have H : (f_X12_comesOut_60_0 xN p1 g) = some out := H
  refine xC.of 12 SH2 [some (.ref 60), some (.int p1), none] hS (by decide +kernel) rfl (fun _ _ => Nat.le_of_ble_eq_true rfl) (fun _ _ => rfl) ?_
  intro k A hR hrm hz
  exact t_X12_comesOut_60_0 hS A hR hrm hz _ _ _ H
theorem fr_X12_comesOut_60 {p1 : Int32} {g : xG} (out : xG) (H : f_X12_comesOut_60 p1 g = some out) : xfrm fp_X12_comesOut_60 g (out) := by
  have H : (f_X12_comesOut_60_0 xN p1 g) = some out := H
  exact xfrm.tr xfrm.rf (fr_X12_comesOut_60_0 _ _ _ _ H) rfl
