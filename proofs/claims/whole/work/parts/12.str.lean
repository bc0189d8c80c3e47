/-! the methods of String, walked by program -/
def f_J3_checkIndex_8e157_z4 (p0 : Int32) (p1 : Int32) : Option (Int32) :=
  if p0 < 0 then
    none
  else
    if p0 < p1 then
      some p0
    else
      none
set_option maxRecDepth 20000 in
theorem c_J3_checkIndex_8e157_z4 {S : List xSh} (hS : xpf SH0 S) {g : xG} {p0 : Int32} {p1 : Int32} (out : Int32) (H : f_J3_checkIndex_8e157_z4 p0 p1 = some out) : xC mJ3_checkIndex_8e157 0 0 0 0 S [.int p0, .int p1, .retAddr 4] g S (fun r g' => r = some (.int out) ∧ g' = g) := by
  have H : (if p0 < 0 then
  none
else
  if p0 < p1 then
    some p0
  else
    none) = some out := H
  refine xC.ofF 20 SH0 [some (.int p0), some (.int p1), some (.retAddr 4)] hS (by decide +kernel) rfl (fun b0 fz hf => ?_) ?_
  · rcases hf 4 with e4 | ⟨a4, e4⟩ <;> exact ⟨by simp [xlc, lv_args, lg_sl, xad, Value.category, e4] <;> exact Nat.le_of_ble_eq_true rfl, by simp [xlc, lv_args, lg_sl, xad, Value.category, e4]⟩
  intro k A hR hrm hz
  refine xb A [(.iload_n 0, 1, 0, 0, .null)] (pc' := 1) (ls' := [some (.int p0), some (.int p1), some (.retAddr 4)]) (st' := [.int p0]) (g' := g) (by decide +kernel) rfl ?_
  refine xif_lt A (8) 9 4 (by decide +kernel) (fun h1 => ?_) (fun h1 => ?_)
  · rw [if_pos h1] at H
    cases H
  · rw [if_neg h1] at H
    refine xb A [(.iload_n 0, 1, 0, 0, .null), (.iload_n 1, 1, 0, 0, .null)] (pc' := 6) (ls' := [some (.int p0), some (.int p1), some (.retAddr 4)]) (st' := [.int p1, .int p0]) (g' := g) (by decide +kernel) rfl ?_
    refine xic_lt A (10) 16 9 (by decide +kernel) (fun h2 => ?_) (fun h2 => ?_)
    · rw [if_pos h2] at H
      refine xb A [(.iload_n 0, 1, 0, 0, .null)] (pc' := 17) (ls' := [some (.int p0), some (.int p1), some (.retAddr 4)]) (st' := [.int p0]) (g' := g) (by decide +kernel) rfl ?_
      obtain rfl := Option.some.inj H
      exact xret_i A hR hz (by decide +kernel) rfl ⟨rfl, rfl⟩
    · rw [if_neg h2] at H
      cases H
def f_J0_checkIndex_df160 (p0 : Int32) (p1 : Int32) : Option (Unit) :=
  (f_J3_checkIndex_8e157_z4 p0 p1).bind fun w1 =>
  some ()
set_option maxRecDepth 20000 in
theorem c_J0_checkIndex_df160 {S : List xSh} (hS : xpf SH0 S) {g : xG} {p0 : Int32} {p1 : Int32} (out : Unit) (H : f_J0_checkIndex_df160 p0 p1 = some out) : xC mJ0_checkIndex_df160 1 22 0 0 S [.int p0, .int p1] g S (fun r g' => r = none ∧ g' = g) := by
  have H : ((f_J3_checkIndex_8e157_z4 p0 p1).bind fun w1 =>
some ()) = some out := H
  refine xC.of 17 SH0 [some (.int p0), some (.int p1)] hS (by decide +kernel) rfl (fun _ _ => Nat.le_of_ble_eq_true rfl) (fun _ _ => rfl) ?_
  intro k A hR hrm hz
  refine xb A [(.iload_n 0, 1, 0, 0, .null), (.iload_n 1, 1, 0, 0, .null)] (pc' := 2) (ls' := [some (.int p0), some (.int p1)]) (st' := [.int p1, .int p0]) (g' := g) (by decide +kernel) rfl ?_
  refine xgsF A (ix := 1053) (nxt := 5) 265 (by decide +kernel) ?_
  show xW k S 0 0 5 [some (.int p0), some (.int p1)] [.retAddr 4, .int p1, .int p0] g
  obtain ⟨w1, e1, H⟩ := xbind H
  refine xcallS A (ix := 1059) (nxt := 8) hrm hz [.int p0, .int p1, .retAddr 4] [] 267 (c_J3_checkIndex_8e157_z4 hS _ e1) ok_J3_checkIndex_8e157 (by decide +kernel) rfl (fun r g1 hq => ?_)
  rw [hq.1, hq.2]
  show xW k S 0 0 8 [some (.int p0), some (.int p1)] [.int w1] g
  refine xb A [(.pop, 1, 0, 0, .null)] (pc' := 9) (ls' := [some (.int p0), some (.int p1)]) (st' := []) (g' := g) (by decide +kernel) rfl ?_
  obtain rfl := Option.some.inj H
  exact xret_v A hR hz (by decide +kernel) ⟨rfl, rfl⟩
def f_J1_charAt_3b067_z1 (p1 : Int32) : Option (Int32) :=
  (f_J0_checkIndex_df160 p1 122).bind fun w1 =>
  xg (¬ (p1 < 0 ∨ 122 ≤ p1.toNatClampNeg)) (
    some ((((xbyt 1 p1.toNatClampNeg) &&& 255).toUInt32 % 65536).toInt32))
set_option maxRecDepth 20000 in
theorem c_J1_charAt_3b067_z1 {S : List xSh} (hS : xpf SH0 S) {g : xG} {p1 : Int32} (out : Int32) (H : f_J1_charAt_3b067_z1 p1 = some out) : xC mJ1_charAt_3b067 2 43 0 0 S [.retAddr 1, .int p1] g S (fun r g' => r = some (.int out) ∧ g' = g) := by
  have H : ((f_J0_checkIndex_df160 p1 122).bind fun w1 =>
xg (¬ (p1 < 0 ∨ 122 ≤ p1.toNatClampNeg)) (
  some ((((xbyt 1 p1.toNatClampNeg) &&& 255).toUInt32 % 65536).toInt32))) = some out := H
  refine xC.ofF 18 SH0 [some (.retAddr 1), some (.int p1)] hS (by decide +kernel) rfl (fun b0 fz hf => ?_) ?_
  · rcases hf 1 with e1 | ⟨a1, e1⟩ <;> exact ⟨by simp [xlc, lv_args, lg_sl, xad, Value.category, e1] <;> exact Nat.le_of_ble_eq_true rfl, by simp [xlc, lv_args, lg_sl, xad, Value.category, e1]⟩
  intro k A hR hrm hz
  refine xb A [(.iload_n 1, 1, 0, 0, .null), (.aload_n 0, 1, 0, 0, .null)] (pc' := 2) (ls' := [some (.retAddr 1), some (.int p1)]) (st' := [.retAddr 1, .int p1]) (g' := g) (by decide +kernel) rfl ?_
  refine xfzlen A (z := 122) (nxt := 3) (by decide +kernel) ?_
  show xW k S 0 0 3 [some (.retAddr 1), some (.int p1)] [.int 122, .int p1] g
  obtain ⟨w1, e1, H⟩ := xbind H
  refine xcallS A (ix := 9) (nxt := 6) hrm hz [.int p1, .int 122] [] 262 (c_J0_checkIndex_df160 hS _ e1) ok_J0_checkIndex_df160 (by decide +kernel) rfl (fun r g1 hq => ?_)
  rw [hq.1, hq.2]
  show xW k S 0 0 6 [some (.retAddr 1), some (.int p1)] [] g
  refine xb A [(.aload_n 0, 1, 0, 0, .null), (.iload_n 1, 1, 0, 0, .null)] (pc' := 8) (ls' := [some (.retAddr 1), some (.int p1)]) (st' := [.int p1, .retAddr 1]) (g' := g) (by decide +kernel) rfl ?_
  obtain ⟨h1, H⟩ := xg_elim H
  refine xfzald A (z := 122) (nxt := 9) (by decide +kernel) h1 ?_
  refine xb A [(.sipush 255, 3, 0, 0, .int 255), (.iand, 1, 0, 0, .null), (.i2c, 1, 0, 0, .null)] (pc' := 14) (ls' := [some (.retAddr 1), some (.int p1)]) (st' := [.int ((((xbyt 1 p1.toNatClampNeg) &&& 255).toUInt32 % 65536).toInt32)]) (g' := g) (by decide +kernel) rfl ?_
  obtain rfl := Option.some.inj H
  exact xret_i A hR hz (by decide +kernel) (pk_nc _) ⟨rfl, rfl⟩
theorem nar_c1 {p1 : Int32} {w : Int32} (e : f_J1_charAt_3b067_z1 p1 = some w) : narrow .char (.int w) = .int w := by
  unfold f_J1_charAt_3b067_z1 at e
  obtain ⟨w1, e1, e⟩ := xbind e
  obtain ⟨h, e⟩ := xg_elim e
  obtain rfl := Option.some.inj e
  exact pk_nc _
def f_J0_isLatin1_aae02_z0  : Int32 :=
  if (1 : Int32) = 0 then
    0
  else
    if (0 : Int32) = 0 then
      1
    else
      0
set_option maxRecDepth 20000 in
theorem c_J0_isLatin1_aae02_z0 {S : List xSh} (hS : xpf SH0 S) {g : xG}  (out : Int32) (H : f_J0_isLatin1_aae02_z0  = out) : xC mJ0_isLatin1_aae02 0 0 0 0 S [.retAddr 0] g S (fun r g' => r = some (.int out) ∧ g' = g) := by
  have H : (if (1 : Int32) = 0 then
  0
else
  if (0 : Int32) = 0 then
    1
  else
    0) = out := H
  refine xC.ofF 17 SH0 [some (.retAddr 0)] hS (by decide +kernel) rfl (fun b0 fz hf => ?_) ?_
  · rcases hf 0 with e0 | ⟨a0, e0⟩ <;> exact ⟨by simp [xlc, lv_args, lg_sl, xad, Value.category, e0] <;> exact Nat.le_of_ble_eq_true rfl, by simp [xlc, lv_args, lg_sl, xad, Value.category, e0]⟩
  intro k A hR hrm hz
  refine xgsC A (ix := 38) (nxt := 3) 249 (by decide +kernel) ?_
  show xW k S 0 0 3 [some (.retAddr 0)] [.int 1] g
  refine xif_eq A (14) 17 6 (by decide +kernel) (fun h1 => ?_) (fun h1 => ?_)
  · rw [if_pos h1] at H
    refine xb A [(.iconst 0, 1, 0, 0, .int 0)] (pc' := 18) (ls' := [some (.retAddr 0)]) (st' := [.int 0]) (g' := g) (by decide +kernel) rfl ?_
    subst H
    exact xret_i A hR hz (by decide +kernel) rfl ⟨rfl, rfl⟩
  · rw [if_neg h1] at H
    refine xb A [(.aload_n 0, 1, 0, 0, .null)] (pc' := 7) (ls' := [some (.retAddr 0)]) (st' := [.retAddr 0]) (g' := g) (by decide +kernel) rfl ?_
    refine xfzcod A (ix := 15) (nxt := 10) 2049 (by decide +kernel) ?_
    show xW k S 0 0 10 [some (.retAddr 0)] [.int 0] g
    refine xif_ne A (7) 17 13 (by decide +kernel) (fun h2 => ?_) (fun h2 => ?_)
    · rw [if_neg h2] at H
      refine xb A [(.iconst 0, 1, 0, 0, .int 0)] (pc' := 18) (ls' := [some (.retAddr 0)]) (st' := [.int 0]) (g' := g) (by decide +kernel) rfl ?_
      subst H
      exact xret_i A hR hz (by decide +kernel) rfl ⟨rfl, rfl⟩
    · rw [if_pos h2] at H
      refine xb A [(.iconst 1, 1, 0, 0, .int 1)] (pc' := 14) (ls' := [some (.retAddr 0)]) (st' := [.int 1]) (g' := g) (by decide +kernel) rfl ?_
      refine xgoto A (4) 18 (by decide +kernel) ?_
      subst H
      exact xret_i A hR hz (by decide +kernel) rfl ⟨rfl, rfl⟩
def f_J0_charAt_5068e_z0 (p1 : Int32) : Option (Int32) :=
  if (f_J0_isLatin1_aae02_z0 ) = 0 then
    none
  else
    (f_J1_charAt_3b067_z1 p1).bind fun w1 =>
    some w1
set_option maxRecDepth 20000 in
theorem c_J0_charAt_5068e_z0 {S : List xSh} (hS : xpf SH0 S) {g : xG} {p1 : Int32} (out : Int32) (H : f_J0_charAt_5068e_z0 p1 = some out) : xC mJ0_charAt_5068e 3 64 0 0 S [.retAddr 0, .int p1] g S (fun r g' => r = some (.int out) ∧ g' = g) := by
  have H : (if (f_J0_isLatin1_aae02_z0 ) = 0 then
  none
else
  (f_J1_charAt_3b067_z1 p1).bind fun w1 =>
  some w1) = some out := H
  refine xC.ofF 17 SH0 [some (.retAddr 0), some (.int p1)] hS (by decide +kernel) rfl (fun b0 fz hf => ?_) ?_
  · rcases hf 0 with e0 | ⟨a0, e0⟩ <;> exact ⟨by simp [xlc, lv_args, lg_sl, xad, Value.category, e0] <;> exact Nat.le_of_ble_eq_true rfl, by simp [xlc, lv_args, lg_sl, xad, Value.category, e0]⟩
  intro k A hR hrm hz
  refine xb A [(.aload_n 0, 1, 0, 0, .null)] (pc' := 1) (ls' := [some (.retAddr 0), some (.int p1)]) (st' := [.retAddr 0]) (g' := g) (by decide +kernel) rfl ?_
  refine xcallF A (ix := 492) (nxt := 4) hrm hz [] [] 255 (c_J0_isLatin1_aae02_z0 hS _ rfl) ok_J0_isLatin1_aae02 (by decide +kernel) rfl (fun r g1 hq => ?_)
  rw [hq.1, hq.2]
  show xW k S 0 0 4 [some (.retAddr 0), some (.int p1)] [.int (f_J0_isLatin1_aae02_z0 )] g
  refine xif_eq A (12) 16 7 (by decide +kernel) (fun h1 => ?_) (fun h1 => ?_)
  · rw [if_pos h1] at H
    cases H
  · rw [if_neg h1] at H
    refine xb A [(.aload_n 0, 1, 0, 0, .null)] (pc' := 8) (ls' := [some (.retAddr 0), some (.int p1)]) (st' := [.retAddr 0]) (g' := g) (by decide +kernel) rfl ?_
    refine xfzval A (v := 1) (ix := 9) (nxt := 11) 2048 (by decide +kernel) ?_
    show xW k S 0 0 11 [some (.retAddr 0), some (.int p1)] [.retAddr 1] g
    refine xb A [(.iload_n 1, 1, 0, 0, .null)] (pc' := 12) (ls' := [some (.retAddr 0), some (.int p1)]) (st' := [.int p1, .retAddr 1]) (g' := g) (by decide +kernel) rfl ?_
    obtain ⟨w1, e1, H⟩ := xbind H
    refine xcallS A (ix := 495) (nxt := 15) hrm hz [.retAddr 1, .int p1] [] 259 (c_J1_charAt_3b067_z1 hS _ e1) ok_J1_charAt_3b067 (by decide +kernel) rfl (fun r g1 hq => ?_)
    rw [hq.1, hq.2]
    show xW k S 0 0 15 [some (.retAddr 0), some (.int p1)] [.int w1] g
    obtain rfl := Option.some.inj H
    exact xret_i A hR hz (by decide +kernel) (nar_c1 e1) ⟨rfl, rfl⟩
def f_J0_coder_7d493_z0  : Int32 :=
  if (1 : Int32) = 0 then
    1
  else
    0
set_option maxRecDepth 20000 in
theorem c_J0_coder_7d493_z0 {S : List xSh} (hS : xpf SH0 S) {g : xG}  (out : Int32) (H : f_J0_coder_7d493_z0  = out) : xC mJ0_coder_7d493 0 0 0 0 S [.retAddr 0] g S (fun r g' => r = some (.int out) ∧ g' = g) := by
  have H : (if (1 : Int32) = 0 then
  1
else
  0) = out := H
  refine xC.ofF 17 SH0 [some (.retAddr 0)] hS (by decide +kernel) rfl (fun b0 fz hf => ?_) ?_
  · rcases hf 0 with e0 | ⟨a0, e0⟩ <;> exact ⟨by simp [xlc, lv_args, lg_sl, xad, Value.category, e0] <;> exact Nat.le_of_ble_eq_true rfl, by simp [xlc, lv_args, lg_sl, xad, Value.category, e0]⟩
  intro k A hR hrm hz
  refine xgsC A (ix := 38) (nxt := 3) 249 (by decide +kernel) ?_
  show xW k S 0 0 3 [some (.retAddr 0)] [.int 1] g
  refine xif_eq A (10) 13 6 (by decide +kernel) (fun h1 => ?_) (fun h1 => ?_)
  · rw [if_pos h1] at H
    refine xb A [(.iconst 1, 1, 0, 0, .int 1)] (pc' := 14) (ls' := [some (.retAddr 0)]) (st' := [.int 1]) (g' := g) (by decide +kernel) rfl ?_
    subst H
    exact xret_i A hR hz (by decide +kernel) rfl ⟨rfl, rfl⟩
  · rw [if_neg h1] at H
    refine xb A [(.aload_n 0, 1, 0, 0, .null)] (pc' := 7) (ls' := [some (.retAddr 0)]) (st' := [.retAddr 0]) (g' := g) (by decide +kernel) rfl ?_
    refine xfzcod A (ix := 15) (nxt := 10) 2049 (by decide +kernel) ?_
    show xW k S 0 0 10 [some (.retAddr 0)] [.int 0] g
    refine xgoto A (4) 14 (by decide +kernel) ?_
    subst H
    exact xret_i A hR hz (by decide +kernel) rfl ⟨rfl, rfl⟩
def f_J0_length_8abf5_z0  : Int32 :=
  (122 : Int32) >>> ((f_J0_coder_7d493_z0 ) &&& 31)
set_option maxRecDepth 20000 in
theorem c_J0_length_8abf5_z0 {S : List xSh} (hS : xpf SH0 S) {g : xG}  (out : Int32) (H : f_J0_length_8abf5_z0  = out) : xC mJ0_length_8abf5 1 20 0 0 S [.retAddr 0] g S (fun r g' => r = some (.int out) ∧ g' = g) := by
  have H : ((122 : Int32) >>> ((f_J0_coder_7d493_z0 ) &&& 31)) = out := H
  refine xC.ofF 17 SH0 [some (.retAddr 0)] hS (by decide +kernel) rfl (fun b0 fz hf => ?_) ?_
  · rcases hf 0 with e0 | ⟨a0, e0⟩ <;> exact ⟨by simp [xlc, lv_args, lg_sl, xad, Value.category, e0] <;> exact Nat.le_of_ble_eq_true rfl, by simp [xlc, lv_args, lg_sl, xad, Value.category, e0]⟩
  intro k A hR hrm hz
  refine xb A [(.aload_n 0, 1, 0, 0, .null)] (pc' := 1) (ls' := [some (.retAddr 0)]) (st' := [.retAddr 0]) (g' := g) (by decide +kernel) rfl ?_
  refine xfzval A (v := 1) (ix := 9) (nxt := 4) 2048 (by decide +kernel) ?_
  show xW k S 0 0 4 [some (.retAddr 0)] [.retAddr 1] g
  refine xfzlen A (z := 122) (nxt := 5) (by decide +kernel) ?_
  show xW k S 0 0 5 [some (.retAddr 0)] [.int 122] g
  refine xb A [(.aload_n 0, 1, 0, 0, .null)] (pc' := 6) (ls' := [some (.retAddr 0)]) (st' := [.retAddr 0, .int 122]) (g' := g) (by decide +kernel) rfl ?_
  refine xcallF A (ix := 335) (nxt := 9) hrm hz [] [.int 122] 245 (c_J0_coder_7d493_z0 hS _ rfl) ok_J0_coder_7d493 (by decide +kernel) rfl (fun r g1 hq => ?_)
  rw [hq.1, hq.2]
  show xW k S 0 0 9 [some (.retAddr 0)] [.int (f_J0_coder_7d493_z0 ), .int 122] g
  refine xb A [(.ishr, 1, 0, 0, .null)] (pc' := 10) (ls' := [some (.retAddr 0)]) (st' := [.int ((122 : Int32) >>> ((f_J0_coder_7d493_z0 ) &&& 31))]) (g' := g) (by decide +kernel) rfl ?_
  subst H
  exact xret_i A hR hz (by decide +kernel) rfl ⟨rfl, rfl⟩
def f_J0_isLatin1_aae02_z2  : Int32 :=
  if (1 : Int32) = 0 then
    0
  else
    if (0 : Int32) = 0 then
      1
    else
      0
set_option maxRecDepth 20000 in
theorem c_J0_isLatin1_aae02_z2 {S : List xSh} (hS : xpf SH0 S) {g : xG}  (out : Int32) (H : f_J0_isLatin1_aae02_z2  = out) : xC mJ0_isLatin1_aae02 0 0 0 0 S [.retAddr 2] g S (fun r g' => r = some (.int out) ∧ g' = g) := by
  have H : (if (1 : Int32) = 0 then
  0
else
  if (0 : Int32) = 0 then
    1
  else
    0) = out := H
  refine xC.ofF 17 SH0 [some (.retAddr 2)] hS (by decide +kernel) rfl (fun b0 fz hf => ?_) ?_
  · rcases hf 2 with e2 | ⟨a2, e2⟩ <;> exact ⟨by simp [xlc, lv_args, lg_sl, xad, Value.category, e2] <;> exact Nat.le_of_ble_eq_true rfl, by simp [xlc, lv_args, lg_sl, xad, Value.category, e2]⟩
  intro k A hR hrm hz
  refine xgsC A (ix := 38) (nxt := 3) 249 (by decide +kernel) ?_
  show xW k S 0 0 3 [some (.retAddr 2)] [.int 1] g
  refine xif_eq A (14) 17 6 (by decide +kernel) (fun h1 => ?_) (fun h1 => ?_)
  · rw [if_pos h1] at H
    refine xb A [(.iconst 0, 1, 0, 0, .int 0)] (pc' := 18) (ls' := [some (.retAddr 2)]) (st' := [.int 0]) (g' := g) (by decide +kernel) rfl ?_
    subst H
    exact xret_i A hR hz (by decide +kernel) rfl ⟨rfl, rfl⟩
  · rw [if_neg h1] at H
    refine xb A [(.aload_n 0, 1, 0, 0, .null)] (pc' := 7) (ls' := [some (.retAddr 2)]) (st' := [.retAddr 2]) (g' := g) (by decide +kernel) rfl ?_
    refine xfzcod A (ix := 15) (nxt := 10) 2049 (by decide +kernel) ?_
    show xW k S 0 0 10 [some (.retAddr 2)] [.int 0] g
    refine xif_ne A (7) 17 13 (by decide +kernel) (fun h2 => ?_) (fun h2 => ?_)
    · rw [if_neg h2] at H
      refine xb A [(.iconst 0, 1, 0, 0, .int 0)] (pc' := 18) (ls' := [some (.retAddr 2)]) (st' := [.int 0]) (g' := g) (by decide +kernel) rfl ?_
      subst H
      exact xret_i A hR hz (by decide +kernel) rfl ⟨rfl, rfl⟩
    · rw [if_pos h2] at H
      refine xb A [(.iconst 1, 1, 0, 0, .int 1)] (pc' := 14) (ls' := [some (.retAddr 2)]) (st' := [.int 1]) (g' := g) (by decide +kernel) rfl ?_
      refine xgoto A (4) 18 (by decide +kernel) ?_
      subst H
      exact xret_i A hR hz (by decide +kernel) rfl ⟨rfl, rfl⟩
def f_J0_coder_7d493_z2  : Int32 :=
  if (1 : Int32) = 0 then
    1
  else
    0
set_option maxRecDepth 20000 in
theorem c_J0_coder_7d493_z2 {S : List xSh} (hS : xpf SH0 S) {g : xG}  (out : Int32) (H : f_J0_coder_7d493_z2  = out) : xC mJ0_coder_7d493 0 0 0 0 S [.retAddr 2] g S (fun r g' => r = some (.int out) ∧ g' = g) := by
  have H : (if (1 : Int32) = 0 then
  1
else
  0) = out := H
  refine xC.ofF 17 SH0 [some (.retAddr 2)] hS (by decide +kernel) rfl (fun b0 fz hf => ?_) ?_
  · rcases hf 2 with e2 | ⟨a2, e2⟩ <;> exact ⟨by simp [xlc, lv_args, lg_sl, xad, Value.category, e2] <;> exact Nat.le_of_ble_eq_true rfl, by simp [xlc, lv_args, lg_sl, xad, Value.category, e2]⟩
  intro k A hR hrm hz
  refine xgsC A (ix := 38) (nxt := 3) 249 (by decide +kernel) ?_
  show xW k S 0 0 3 [some (.retAddr 2)] [.int 1] g
  refine xif_eq A (10) 13 6 (by decide +kernel) (fun h1 => ?_) (fun h1 => ?_)
  · rw [if_pos h1] at H
    refine xb A [(.iconst 1, 1, 0, 0, .int 1)] (pc' := 14) (ls' := [some (.retAddr 2)]) (st' := [.int 1]) (g' := g) (by decide +kernel) rfl ?_
    subst H
    exact xret_i A hR hz (by decide +kernel) rfl ⟨rfl, rfl⟩
  · rw [if_neg h1] at H
    refine xb A [(.aload_n 0, 1, 0, 0, .null)] (pc' := 7) (ls' := [some (.retAddr 2)]) (st' := [.retAddr 2]) (g' := g) (by decide +kernel) rfl ?_
    refine xfzcod A (ix := 15) (nxt := 10) 2049 (by decide +kernel) ?_
    show xW k S 0 0 10 [some (.retAddr 2)] [.int 0] g
    refine xgoto A (4) 14 (by decide +kernel) ?_
    subst H
    exact xret_i A hR hz (by decide +kernel) rfl ⟨rfl, rfl⟩
def f_J0_length_8abf5_z2  : Int32 :=
  (9 : Int32) >>> ((f_J0_coder_7d493_z2 ) &&& 31)
set_option maxRecDepth 20000 in
theorem c_J0_length_8abf5_z2 {S : List xSh} (hS : xpf SH0 S) {g : xG}  (out : Int32) (H : f_J0_length_8abf5_z2  = out) : xC mJ0_length_8abf5 1 20 0 0 S [.retAddr 2] g S (fun r g' => r = some (.int out) ∧ g' = g) := by
  have H : ((9 : Int32) >>> ((f_J0_coder_7d493_z2 ) &&& 31)) = out := H
  refine xC.ofF 17 SH0 [some (.retAddr 2)] hS (by decide +kernel) rfl (fun b0 fz hf => ?_) ?_
  · rcases hf 2 with e2 | ⟨a2, e2⟩ <;> exact ⟨by simp [xlc, lv_args, lg_sl, xad, Value.category, e2] <;> exact Nat.le_of_ble_eq_true rfl, by simp [xlc, lv_args, lg_sl, xad, Value.category, e2]⟩
  intro k A hR hrm hz
  refine xb A [(.aload_n 0, 1, 0, 0, .null)] (pc' := 1) (ls' := [some (.retAddr 2)]) (st' := [.retAddr 2]) (g' := g) (by decide +kernel) rfl ?_
  refine xfzval A (v := 3) (ix := 9) (nxt := 4) 2048 (by decide +kernel) ?_
  show xW k S 0 0 4 [some (.retAddr 2)] [.retAddr 3] g
  refine xfzlen A (z := 9) (nxt := 5) (by decide +kernel) ?_
  show xW k S 0 0 5 [some (.retAddr 2)] [.int 9] g
  refine xb A [(.aload_n 0, 1, 0, 0, .null)] (pc' := 6) (ls' := [some (.retAddr 2)]) (st' := [.retAddr 2, .int 9]) (g' := g) (by decide +kernel) rfl ?_
  refine xcallF A (ix := 335) (nxt := 9) hrm hz [] [.int 9] 245 (c_J0_coder_7d493_z2 hS _ rfl) ok_J0_coder_7d493 (by decide +kernel) rfl (fun r g1 hq => ?_)
  rw [hq.1, hq.2]
  show xW k S 0 0 9 [some (.retAddr 2)] [.int (f_J0_coder_7d493_z2 ), .int 9] g
  refine xb A [(.ishr, 1, 0, 0, .null)] (pc' := 10) (ls' := [some (.retAddr 2)]) (st' := [.int ((9 : Int32) >>> ((f_J0_coder_7d493_z2 ) &&& 31))]) (g' := g) (by decide +kernel) rfl ?_
  subst H
  exact xret_i A hR hz (by decide +kernel) rfl ⟨rfl, rfl⟩
def f_J1_canEncode_9a6ad (p0 : Int32) : Int32 :=
  if p0 < 0 then
    0
  else
    if 255 < p0 then
      0
    else
      1
set_option maxRecDepth 20000 in
theorem c_J1_canEncode_9a6ad {S : List xSh} (hS : xpf SH0 S) {g : xG} {p0 : Int32} (out : Int32) (H : f_J1_canEncode_9a6ad p0 = out) : xC mJ1_canEncode_9a6ad 0 0 0 0 S [.int p0] g S (fun r g' => r = some (.int out) ∧ g' = g) := by
  have H : (if p0 < 0 then
  0
else
  if 255 < p0 then
    0
  else
    1) = out := H
  refine xC.of 18 SH0 [some (.int p0)] hS (by decide +kernel) rfl (fun _ _ => Nat.le_of_ble_eq_true rfl) (fun _ _ => rfl) ?_
  intro k A hR hrm hz
  refine xb A [(.iload_n 0, 1, 0, 0, .null)] (pc' := 1) (ls' := [some (.int p0)]) (st' := [.int p0]) (g' := g) (by decide +kernel) rfl ?_
  refine xif_lt A (14) 15 4 (by decide +kernel) (fun h1 => ?_) (fun h1 => ?_)
  · rw [if_pos h1] at H
    refine xb A [(.iconst 0, 1, 0, 0, .int 0)] (pc' := 16) (ls' := [some (.int p0)]) (st' := [.int 0]) (g' := g) (by decide +kernel) rfl ?_
    subst H
    exact xret_i A hR hz (by decide +kernel) rfl ⟨rfl, rfl⟩
  · rw [if_neg h1] at H
    refine xb A [(.iload_n 0, 1, 0, 0, .null), (.sipush 255, 3, 0, 0, .int 255)] (pc' := 8) (ls' := [some (.int p0)]) (st' := [.int 255, .int p0]) (g' := g) (by decide +kernel) rfl ?_
    refine xic_gt A (7) 15 11 (by decide +kernel) (fun h2 => ?_) (fun h2 => ?_)
    · rw [if_pos h2] at H
      refine xb A [(.iconst 0, 1, 0, 0, .int 0)] (pc' := 16) (ls' := [some (.int p0)]) (st' := [.int 0]) (g' := g) (by decide +kernel) rfl ?_
      subst H
      exact xret_i A hR hz (by decide +kernel) rfl ⟨rfl, rfl⟩
    · rw [if_neg h2] at H
      refine xb A [(.iconst 1, 1, 0, 0, .int 1)] (pc' := 12) (ls' := [some (.int p0)]) (st' := [.int 1]) (g' := g) (by decide +kernel) rfl ?_
      refine xgoto A (4) 16 (by decide +kernel) ?_
      subst H
      exact xret_i A hR hz (by decide +kernel) rfl ⟨rfl, rfl⟩
def f_J1_indexOfChar_4cfef_z3_7  : Nat → Int32 → Int32 → Int32 → Option (Int32)
  | 0, _, _, _ => none
  | n + 1, l3, l4, l5 =>
    if l3 ≤ l5 then
      some (-1)
    else
      xg (¬ (l5 < 0 ∨ 9 ≤ l5.toNatClampNeg)) (
        if (xbyt 3 l5.toNatClampNeg) = l4 then
          some l5
        else
          f_J1_indexOfChar_4cfef_z3_7 n l3 l4 (l5 + 1))
def f_J1_indexOfChar_4cfef_z3 (p1 : Int32) (p2 : Int32) (p3 : Int32) : Option (Int32) :=
  f_J1_indexOfChar_4cfef_z3_7 xN p3 p1.toInt8.toInt32 p2
set_option maxRecDepth 20000 in
theorem t_J1_indexOfChar_4cfef_z3_7 {k : xK} {S : List xSh} {g : xG} {out : Int32} (hS : xpf SH0 S) (A : xAt k mJ1_indexOfChar_4cfef.2.1 18 SH0 S) (hR : xRet k 0 0 S (fun r g' => r = some (.int out) ∧ g' = g) mJ1_indexOfChar_4cfef.2.2.2) (hrm : xrm k = { frames := 0, cells := 0, slots := 0, locals := 0 }) (hz : xhs k = xb0 k + S.length)   : ∀ (n : Nat) (l3 : Int32) (l4 : Int32) (l5 : Int32), f_J1_indexOfChar_4cfef_z3_7 n l3 l4 l5 = some out → xW k S 0 0 7 [some (.retAddr 3), none, none, some (.int l3), some (.int l4), some (.int l5)] [] g := by
  intro n
  induction n with
  | zero => intro l3 l4 l5 H; exact absurd H (by simp [f_J1_indexOfChar_4cfef_z3_7])
  | succ n ih =>
    intro l3 l4 l5 H
    have H : (if l3 ≤ l5 then
  some (-1)
else
  xg (¬ (l5 < 0 ∨ 9 ≤ l5.toNatClampNeg)) (
    if (xbyt 3 l5.toNatClampNeg) = l4 then
      some l5
    else
      f_J1_indexOfChar_4cfef_z3_7 n l3 l4 (l5 + 1))) = some out := H
    refine xb A [(.iload 5, 2, 0, 0, .null), (.iload_n 3, 1, 0, 0, .null)] (pc' := 10) (ls' := [some (.retAddr 3), none, none, some (.int l3), some (.int l4), some (.int l5)]) (st' := [.int l3, .int l5]) (g' := g) (by decide +kernel) rfl ?_
    refine xic_ge A (21) 31 13 (by decide +kernel) (fun h1 => ?_) (fun h1 => ?_)
    · rw [if_pos h1] at H
      refine xb A [(.iconst (-1), 1, 0, 0, .int (-1))] (pc' := 32) (ls' := [some (.retAddr 3), none, none, some (.int l3), some (.int l4), some (.int l5)]) (st' := [.int (-1)]) (g' := g) (by decide +kernel) rfl ?_
      obtain rfl := Option.some.inj H
      exact xret_i A hR hz (by decide +kernel) rfl ⟨rfl, rfl⟩
    · rw [if_neg h1] at H
      refine xb A [(.aload_n 0, 1, 0, 0, .null), (.iload 5, 2, 0, 0, .null)] (pc' := 16) (ls' := [some (.retAddr 3), none, none, some (.int l3), some (.int l4), some (.int l5)]) (st' := [.int l5, .retAddr 3]) (g' := g) (by decide +kernel) rfl ?_
      obtain ⟨h2, H⟩ := xg_elim H
      refine xfzald A (z := 9) (nxt := 17) (by decide +kernel) h2 ?_
      refine xb A [(.iload 4, 2, 0, 0, .null)] (pc' := 19) (ls' := [some (.retAddr 3), none, none, some (.int l3), some (.int l4), some (.int l5)]) (st' := [.int l4, .int (xbyt 3 l5.toNatClampNeg)]) (g' := g) (by decide +kernel) rfl ?_
      refine xic_ne A (6) 25 22 (by decide +kernel) (fun h3 => ?_) (fun h3 => ?_)
      · rw [if_neg h3] at H
        refine xb A [(.iinc 5 1, 3, 0, 0, .null)] (pc' := 28) (ls' := [some (.retAddr 3), none, none, some (.int l3), some (.int l4), some (.int (l5 + 1))]) (st' := []) (g' := g) (by decide +kernel) rfl ?_
        refine xgoto A (-21) 7 (by decide +kernel) ?_
        exact ih _ _ _ H
      · rw [if_pos h3] at H
        refine xb A [(.iload 5, 2, 0, 0, .null)] (pc' := 24) (ls' := [some (.retAddr 3), none, none, some (.int l3), some (.int l4), some (.int l5)]) (st' := [.int l5]) (g' := g) (by decide +kernel) rfl ?_
        obtain rfl := Option.some.inj H
        exact xret_i A hR hz (by decide +kernel) rfl ⟨rfl, rfl⟩
set_option maxRecDepth 20000 in
theorem c_J1_indexOfChar_4cfef_z3 {S : List xSh} (hS : xpf SH0 S) {g : xG} {p1 : Int32} {p2 : Int32} {p3 : Int32} (out : Int32) (H : f_J1_indexOfChar_4cfef_z3 p1 p2 p3 = some out) : xC mJ1_indexOfChar_4cfef 0 0 0 0 S [.retAddr 3, .int p1, .int p2, .int p3] g S (fun r g' => r = some (.int out) ∧ g' = g) := by
  have H : (f_J1_indexOfChar_4cfef_z3_7 xN p3 p1.toInt8.toInt32 p2) = some out := H
  refine xC.ofF 18 SH0 [some (.retAddr 3), some (.int p1), some (.int p2), some (.int p3), none, none] hS (by decide +kernel) rfl (fun b0 fz hf => ?_) ?_
  · rcases hf 3 with e3 | ⟨a3, e3⟩ <;> exact ⟨by simp [xlc, lv_args, lg_sl, xad, Value.category, e3] <;> exact Nat.le_of_ble_eq_true rfl, by simp [xlc, lv_args, lg_sl, xad, Value.category, e3]⟩
  intro k A hR hrm hz
  refine xb A [(.iload_n 1, 1, 0, 0, .null), (.i2b, 1, 0, 0, .null), (.istore 4, 2, 0, 0, .null), (.iload_n 2, 1, 0, 0, .null), (.istore 5, 2, 0, 0, .null)] (pc' := 7) (ls' := [some (.retAddr 3), some (.int p1), some (.int p2), some (.int p3), some (.int p1.toInt8.toInt32), some (.int p2)]) (st' := []) (g' := g) (by decide +kernel) rfl ?_
  refine xweak (ls' := [some (.retAddr 3), none, none, some (.int p3), some (.int p1.toInt8.toInt32), some (.int p2)]) (by exact ⟨rfl, ⟨rfl, ⟨rfl, ⟨rfl, trivial⟩⟩⟩⟩) ?_
  exact t_J1_indexOfChar_4cfef_z3_7 hS A hR hrm hz _ _ _ _ H
def f_J1_indexOf_4cfef_z3 (p1 : Int32) (p2 : Int32) (p3 : Int32) : Option (Int32) :=
  if (f_J1_canEncode_9a6ad p1) = 0 then
    some (-1)
  else
    if (xmax p2 0) < (xmin p3 9) then
      (f_J1_indexOfChar_4cfef_z3 p1 (xmax p2 0) (xmin p3 9)).bind fun w1 =>
      some w1
    else
      some (-1)
set_option maxRecDepth 20000 in
theorem c_J1_indexOf_4cfef_z3 {S : List xSh} (hS : xpf SH0 S) {g : xG} {p1 : Int32} {p2 : Int32} {p3 : Int32} (out : Int32) (H : f_J1_indexOf_4cfef_z3 p1 p2 p3 = some out) : xC mJ1_indexOf_4cfef 1 25 0 0 S [.retAddr 3, .int p1, .int p2, .int p3] g S (fun r g' => r = some (.int out) ∧ g' = g) := by
  have H : (if (f_J1_canEncode_9a6ad p1) = 0 then
  some (-1)
else
  if (xmax p2 0) < (xmin p3 9) then
    (f_J1_indexOfChar_4cfef_z3 p1 (xmax p2 0) (xmin p3 9)).bind fun w1 =>
    some w1
  else
    some (-1)) = some out := H
  refine xC.ofF 18 SH0 [some (.retAddr 3), some (.int p1), some (.int p2), some (.int p3)] hS (by decide +kernel) rfl (fun b0 fz hf => ?_) ?_
  · rcases hf 3 with e3 | ⟨a3, e3⟩ <;> exact ⟨by simp [xlc, lv_args, lg_sl, xad, Value.category, e3] <;> exact Nat.le_of_ble_eq_true rfl, by simp [xlc, lv_args, lg_sl, xad, Value.category, e3]⟩
  intro k A hR hrm hz
  refine xb A [(.iload_n 1, 1, 0, 0, .null)] (pc' := 1) (ls' := [some (.retAddr 3), some (.int p1), some (.int p2), some (.int p3)]) (st' := [.int p1]) (g' := g) (by decide +kernel) rfl ?_
  refine xcallS A (ix := 88) (nxt := 4) hrm hz [.int p1] [] 656 (c_J1_canEncode_9a6ad hS _ rfl) ok_J1_canEncode_9a6ad (by decide +kernel) rfl (fun r g1 hq => ?_)
  rw [hq.1, hq.2]
  show xW k S 0 0 4 [some (.retAddr 3), some (.int p1), some (.int p2), some (.int p3)] [.int (f_J1_canEncode_9a6ad p1)] g
  refine xif_ne A (5) 9 7 (by decide +kernel) (fun h1 => ?_) (fun h1 => ?_)
  · rw [if_neg h1] at H
    refine xb A [(.iload_n 2, 1, 0, 0, .null), (.iconst 0, 1, 0, 0, .int 0)] (pc' := 11) (ls' := [some (.retAddr 3), some (.int p1), some (.int p2), some (.int p3)]) (st' := [.int 0, .int p2]) (g' := g) (by decide +kernel) rfl ?_
    refine xmmax A (ix := 92) (nxt := 14) hrm [] 659 (by decide +kernel) rfl ?_
    refine xb A [(.istore_n 2, 1, 0, 0, .null), (.iload_n 3, 1, 0, 0, .null), (.aload_n 0, 1, 0, 0, .null)] (pc' := 17) (ls' := [some (.retAddr 3), some (.int p1), some (.int (xmax p2 0)), some (.int p3)]) (st' := [.retAddr 3, .int p3]) (g' := g) (by decide +kernel) rfl ?_
    refine xfzlen A (z := 9) (nxt := 18) (by decide +kernel) ?_
    show xW k S 0 0 18 [some (.retAddr 3), some (.int p1), some (.int (xmax p2 0)), some (.int p3)] [.int 9, .int p3] g
    refine xmmin A (ix := 38) (nxt := 21) hrm [] 660 (by decide +kernel) rfl ?_
    refine xb A [(.istore_n 3, 1, 0, 0, .null), (.iload_n 2, 1, 0, 0, .null), (.iload_n 3, 1, 0, 0, .null)] (pc' := 24) (ls' := [some (.retAddr 3), some (.int p1), some (.int (xmax p2 0)), some (.int (xmin p3 9))]) (st' := [.int (xmin p3 9), .int (xmax p2 0)]) (g' := g) (by decide +kernel) rfl ?_
    refine xic_lt A (5) 29 27 (by decide +kernel) (fun h2 => ?_) (fun h2 => ?_)
    · rw [if_pos h2] at H
      refine xb A [(.aload_n 0, 1, 0, 0, .null), (.iload_n 1, 1, 0, 0, .null), (.iload_n 2, 1, 0, 0, .null), (.iload_n 3, 1, 0, 0, .null)] (pc' := 33) (ls' := [some (.retAddr 3), some (.int p1), some (.int (xmax p2 0)), some (.int (xmin p3 9))]) (st' := [.int (xmin p3 9), .int (xmax p2 0), .int p1, .retAddr 3]) (g' := g) (by decide +kernel) rfl ?_
      obtain ⟨w1, e1, H⟩ := xbind H
      refine xcallS A (ix := 95) (nxt := 36) hrm hz [.retAddr 3, .int p1, .int (xmax p2 0), .int (xmin p3 9)] [] 663 (c_J1_indexOfChar_4cfef_z3 hS _ e1) ok_J1_indexOfChar_4cfef (by decide +kernel) rfl (fun r g1 hq => ?_)
      rw [hq.1, hq.2]
      show xW k S 0 0 36 [some (.retAddr 3), some (.int p1), some (.int (xmax p2 0)), some (.int (xmin p3 9))] [.int w1] g
      obtain rfl := Option.some.inj H
      exact xret_i A hR hz (by decide +kernel) rfl ⟨rfl, rfl⟩
    · rw [if_neg h2] at H
      refine xb A [(.iconst (-1), 1, 0, 0, .int (-1))] (pc' := 28) (ls' := [some (.retAddr 3), some (.int p1), some (.int (xmax p2 0)), some (.int (xmin p3 9))]) (st' := [.int (-1)]) (g' := g) (by decide +kernel) rfl ?_
      obtain rfl := Option.some.inj H
      exact xret_i A hR hz (by decide +kernel) rfl ⟨rfl, rfl⟩
  · rw [if_pos h1] at H
    refine xb A [(.iconst (-1), 1, 0, 0, .int (-1))] (pc' := 8) (ls' := [some (.retAddr 3), some (.int p1), some (.int p2), some (.int p3)]) (st' := [.int (-1)]) (g' := g) (by decide +kernel) rfl ?_
    obtain rfl := Option.some.inj H
    exact xret_i A hR hz (by decide +kernel) rfl ⟨rfl, rfl⟩
def f_J0_indexOf_7cf53_z2 (p1 : Int32) (p2 : Int32) : Option (Int32) :=
  if (f_J0_isLatin1_aae02_z2 ) = 0 then
    none
  else
    (f_J1_indexOf_4cfef_z3 p1 p2 (f_J0_length_8abf5_z2 )).bind fun w1 =>
    some w1
set_option maxRecDepth 20000 in
theorem c_J0_indexOf_7cf53_z2 {S : List xSh} (hS : xpf SH0 S) {g : xG} {p1 : Int32} {p2 : Int32} (out : Int32) (H : f_J0_indexOf_7cf53_z2 p1 p2 = some out) : xC mJ0_indexOf_7cf53 2 48 0 0 S [.retAddr 2, .int p1, .int p2] g S (fun r g' => r = some (.int out) ∧ g' = g) := by
  have H : (if (f_J0_isLatin1_aae02_z2 ) = 0 then
  none
else
  (f_J1_indexOf_4cfef_z3 p1 p2 (f_J0_length_8abf5_z2 )).bind fun w1 =>
  some w1) = some out := H
  refine xC.ofF 17 SH0 [some (.retAddr 2), some (.int p1), some (.int p2)] hS (by decide +kernel) rfl (fun b0 fz hf => ?_) ?_
  · rcases hf 2 with e2 | ⟨a2, e2⟩ <;> exact ⟨by simp [xlc, lv_args, lg_sl, xad, Value.category, e2] <;> exact Nat.le_of_ble_eq_true rfl, by simp [xlc, lv_args, lg_sl, xad, Value.category, e2]⟩
  intro k A hR hrm hz
  refine xb A [(.aload_n 0, 1, 0, 0, .null)] (pc' := 1) (ls' := [some (.retAddr 2), some (.int p1), some (.int p2)]) (st' := [.retAddr 2]) (g' := g) (by decide +kernel) rfl ?_
  refine xcallF A (ix := 492) (nxt := 4) hrm hz [] [] 255 (c_J0_isLatin1_aae02_z2 hS _ rfl) ok_J0_isLatin1_aae02 (by decide +kernel) rfl (fun r g1 hq => ?_)
  rw [hq.1, hq.2]
  show xW k S 0 0 4 [some (.retAddr 2), some (.int p1), some (.int p2)] [.int (f_J0_isLatin1_aae02_z2 )] g
  refine xif_eq A (19) 23 7 (by decide +kernel) (fun h1 => ?_) (fun h1 => ?_)
  · rw [if_pos h1] at H
    cases H
  · rw [if_neg h1] at H
    refine xb A [(.aload_n 0, 1, 0, 0, .null)] (pc' := 8) (ls' := [some (.retAddr 2), some (.int p1), some (.int p2)]) (st' := [.retAddr 2]) (g' := g) (by decide +kernel) rfl ?_
    refine xfzval A (v := 3) (ix := 9) (nxt := 11) 2048 (by decide +kernel) ?_
    show xW k S 0 0 11 [some (.retAddr 2), some (.int p1), some (.int p2)] [.retAddr 3] g
    refine xb A [(.iload_n 1, 1, 0, 0, .null), (.iload_n 2, 1, 0, 0, .null), (.aload_n 0, 1, 0, 0, .null)] (pc' := 14) (ls' := [some (.retAddr 2), some (.int p1), some (.int p2)]) (st' := [.retAddr 2, .int p2, .int p1, .retAddr 3]) (g' := g) (by decide +kernel) rfl ?_
    refine xcallF A (ix := 505) (nxt := 17) hrm hz [] [.int p2, .int p1, .retAddr 3] 652 (c_J0_length_8abf5_z2 hS _ rfl) ok_J0_length_8abf5 (by decide +kernel) rfl (fun r g1 hq => ?_)
    rw [hq.1, hq.2]
    show xW k S 0 0 17 [some (.retAddr 2), some (.int p1), some (.int p2)] [.int (f_J0_length_8abf5_z2 ), .int p2, .int p1, .retAddr 3] g
    obtain ⟨w1, e1, H⟩ := xbind H
    refine xcallS A (ix := 637) (nxt := 20) hrm hz [.retAddr 3, .int p1, .int p2, .int (f_J0_length_8abf5_z2 )] [] 653 (c_J1_indexOf_4cfef_z3 hS _ e1) ok_J1_indexOf_4cfef (by decide +kernel) rfl (fun r g1 hq => ?_)
    rw [hq.1, hq.2]
    show xW k S 0 0 20 [some (.retAddr 2), some (.int p1), some (.int p2)] [.int w1] g
    refine xgoto A (16) 36 (by decide +kernel) ?_
    obtain rfl := Option.some.inj H
    exact xret_i A hR hz (by decide +kernel) rfl ⟨rfl, rfl⟩
def f_J0_indexOf_0f7a4_z2 (p1 : Int32) : Option (Int32) :=
  (f_J0_indexOf_7cf53_z2 p1 0).bind fun w1 =>
  some w1
set_option maxRecDepth 20000 in
theorem c_J0_indexOf_0f7a4_z2 {S : List xSh} (hS : xpf SH0 S) {g : xG} {p1 : Int32} (out : Int32) (H : f_J0_indexOf_0f7a4_z2 p1 = some out) : xC mJ0_indexOf_0f7a4 3 70 0 0 S [.retAddr 2, .int p1] g S (fun r g' => r = some (.int out) ∧ g' = g) := by
  have H : ((f_J0_indexOf_7cf53_z2 p1 0).bind fun w1 =>
some w1) = some out := H
  refine xC.ofF 17 SH0 [some (.retAddr 2), some (.int p1)] hS (by decide +kernel) rfl (fun b0 fz hf => ?_) ?_
  · rcases hf 2 with e2 | ⟨a2, e2⟩ <;> exact ⟨by simp [xlc, lv_args, lg_sl, xad, Value.category, e2] <;> exact Nat.le_of_ble_eq_true rfl, by simp [xlc, lv_args, lg_sl, xad, Value.category, e2]⟩
  intro k A hR hrm hz
  refine xb A [(.aload_n 0, 1, 0, 0, .null), (.iload_n 1, 1, 0, 0, .null), (.iconst 0, 1, 0, 0, .int 0)] (pc' := 3) (ls' := [some (.retAddr 2), some (.int p1)]) (st' := [.int 0, .int p1, .retAddr 2]) (g' := g) (by decide +kernel) rfl ?_
  obtain ⟨w1, e1, H⟩ := xbind H
  refine xcallF A (ix := 633) (nxt := 6) hrm hz [.int p1, .int 0] [] 648 (c_J0_indexOf_7cf53_z2 hS _ e1) ok_J0_indexOf_7cf53 (by decide +kernel) rfl (fun r g1 hq => ?_)
  rw [hq.1, hq.2]
  show xW k S 0 0 6 [some (.retAddr 2), some (.int p1)] [.int w1] g
  obtain rfl := Option.some.inj H
  exact xret_i A hR hz (by decide +kernel) rfl ⟨rfl, rfl⟩
def f_X9_withLetter (p0 : Int64) (p2 : Int32) : Int64 :=
  (p0 * 27) + (((p2 - 97) + 1).toInt64)
set_option maxRecDepth 20000 in
theorem c_X9_withLetter {S : List xSh} (hS : xpf SH0 S) {g : xG} {p0 : Int64} {p2 : Int32} (out : Int64) (H : f_X9_withLetter p0 p2 = out) : xC mX9_withLetter 0 0 0 0 S [.long p0, .int p2] g S (fun r g' => r = some (.long out) ∧ g' = g) := by
  have H : ((p0 * 27) + (((p2 - 97) + 1).toInt64)) = out := H
  refine xC.of 9 SH0 [some (.long p0), none, some (.int p2)] hS (by decide +kernel) rfl (fun _ _ => Nat.le_of_ble_eq_true rfl) (fun _ _ => rfl) ?_
  intro k A hR hrm hz
  refine xb A [(.lload_n 0, 1, 0, 0, .null), (.ldc2_w 45, 3, 0, 0, .long 27), (.lmul, 1, 0, 0, .null), (.iload_n 2, 1, 0, 0, .null), (.bipush 97, 2, 0, 0, .int 97), (.isub, 1, 0, 0, .null), (.iconst 1, 1, 0, 0, .int 1), (.iadd, 1, 0, 0, .null), (.i2l, 1, 0, 0, .null), (.ladd, 1, 0, 0, .null)] (pc' := 13) (ls' := [some (.long p0), none, some (.int p2)]) (st' := [.long ((p0 * 27) + (((p2 - 97) + 1).toInt64))]) (g' := g) (by decide +kernel) rfl ?_
  subst H
  exact xret_l A hR hz (by decide +kernel) ⟨rfl, rfl⟩
def f_X9_kindBegunBy_54  (l0 : Int32) : Option (Int32) :=
  (f_J0_indexOf_0f7a4_z2 ((l0.toUInt32 % 65536).toInt32)).bind fun w1 =>
  if w1 < 0 then
    some 1
  else
    some (4 + w1)
def f_X9_kindBegunBy_40  (l0 : Int32) : Option (Int32) :=
  if l0 < 48 then
    f_X9_kindBegunBy_54 l0
  else
    if 57 < l0 then
      f_X9_kindBegunBy_54 l0
    else
      some 3
def f_X9_kindBegunBy (p0 : Int32) : Option (Int32) :=
  if p0 = 9 then
    some 0
  else
    if p0 = 10 then
      some 0
    else
      if p0 = 13 then
        some 0
      else
        if p0 = 32 then
          some 0
        else
          if p0 < 97 then
            f_X9_kindBegunBy_40 p0
          else
            if 122 < p0 then
              f_X9_kindBegunBy_40 p0
            else
              some 2
set_option maxRecDepth 20000 in
theorem t_X9_kindBegunBy_54 {k : xK} {S : List xSh} {g : xG} {out : Int32} (hS : xpf SH1 S) (A : xAt k mX9_kindBegunBy.2.1 9 SH1 S) (hR : xRet k 0 0 S (fun r g' => r = some (.int out) ∧ g' = g) mX9_kindBegunBy.2.2.2) (hrm : xrm k = { frames := 4, cells := 0, slots := 0, locals := 91 }) (hz : xhs k = xb0 k + S.length)   : ∀ (l0 : Int32), f_X9_kindBegunBy_54 l0 = some out → xW k S 0 0 54 [some (.int l0), none] [] g := by
  intro l0 H
  have H : ((f_J0_indexOf_0f7a4_z2 ((l0.toUInt32 % 65536).toInt32)).bind fun w1 =>
if w1 < 0 then
  some 1
else
  some (4 + w1)) = some out := H
  refine xldcS A (u := 2) (ix := 97) (nxt := 56) (by decide +kernel) ?_
  show xW k S 0 0 56 [some (.int l0), none] [.retAddr 2] g
  refine xb A [(.iload_n 0, 1, 0, 0, .null), (.i2c, 1, 0, 0, .null)] (pc' := 58) (ls' := [some (.int l0), none]) (st' := [.int ((l0.toUInt32 % 65536).toInt32), .retAddr 2]) (g' := g) (by decide +kernel) rfl ?_
  obtain ⟨w1, e1, H⟩ := xbind H
  refine xcallF A (ix := 99) (nxt := 61) hrm hz [.int ((l0.toUInt32 % 65536).toInt32)] [] 644 (c_J0_indexOf_0f7a4_z2 xS0 _ e1) ok_J0_indexOf_0f7a4 (by decide +kernel) rfl (fun r g1 hq => ?_)
  rw [hq.1, hq.2]
  show xW k S 0 0 61 [some (.int l0), none] [.int w1] g
  refine xb A [(.istore_n 1, 1, 0, 0, .null), (.iload_n 1, 1, 0, 0, .null)] (pc' := 63) (ls' := [some (.int l0), some (.int w1)]) (st' := [.int w1]) (g' := g) (by decide +kernel) rfl ?_
  refine xif_lt A (9) 72 66 (by decide +kernel) (fun h7 => ?_) (fun h7 => ?_)
  · rw [if_pos h7] at H
    refine xb A [(.iconst 1, 1, 0, 0, .int 1)] (pc' := 73) (ls' := [some (.int l0), some (.int w1)]) (st' := [.int 1]) (g' := g) (by decide +kernel) rfl ?_
    obtain rfl := Option.some.inj H
    exact xret_i A hR hz (by decide +kernel) rfl ⟨rfl, rfl⟩
  · rw [if_neg h7] at H
    refine xb A [(.iconst 4, 1, 0, 0, .int 4), (.iload_n 1, 1, 0, 0, .null), (.iadd, 1, 0, 0, .null)] (pc' := 69) (ls' := [some (.int l0), some (.int w1)]) (st' := [.int (4 + w1)]) (g' := g) (by decide +kernel) rfl ?_
    refine xgoto A (4) 73 (by decide +kernel) ?_
    obtain rfl := Option.some.inj H
    exact xret_i A hR hz (by decide +kernel) rfl ⟨rfl, rfl⟩
set_option maxRecDepth 20000 in
theorem t_X9_kindBegunBy_40 {k : xK} {S : List xSh} {g : xG} {out : Int32} (hS : xpf SH1 S) (A : xAt k mX9_kindBegunBy.2.1 9 SH1 S) (hR : xRet k 0 0 S (fun r g' => r = some (.int out) ∧ g' = g) mX9_kindBegunBy.2.2.2) (hrm : xrm k = { frames := 4, cells := 0, slots := 0, locals := 91 }) (hz : xhs k = xb0 k + S.length)   : ∀ (l0 : Int32), f_X9_kindBegunBy_40 l0 = some out → xW k S 0 0 40 [some (.int l0), none] [] g := by
  intro l0 H
  have H : (if l0 < 48 then
  f_X9_kindBegunBy_54 l0
else
  if 57 < l0 then
    f_X9_kindBegunBy_54 l0
  else
    some 3) = some out := H
  refine xb A [(.iload_n 0, 1, 0, 0, .null), (.bipush 48, 2, 0, 0, .int 48)] (pc' := 43) (ls' := [some (.int l0), none]) (st' := [.int 48, .int l0]) (g' := g) (by decide +kernel) rfl ?_
  refine xic_lt A (11) 54 46 (by decide +kernel) (fun h6 => ?_) (fun h6 => ?_)
  · rw [if_pos h6] at H
    exact t_X9_kindBegunBy_54 hS A hR hrm hz _ H
  · rw [if_neg h6] at H
    refine xb A [(.iload_n 0, 1, 0, 0, .null), (.bipush 57, 2, 0, 0, .int 57)] (pc' := 49) (ls' := [some (.int l0), none]) (st' := [.int 57, .int l0]) (g' := g) (by decide +kernel) rfl ?_
    refine xic_gt A (5) 54 52 (by decide +kernel) (fun h8 => ?_) (fun h8 => ?_)
    · rw [if_pos h8] at H
      exact t_X9_kindBegunBy_54 hS A hR hrm hz _ H
    · rw [if_neg h8] at H
      refine xb A [(.iconst 3, 1, 0, 0, .int 3)] (pc' := 53) (ls' := [some (.int l0), none]) (st' := [.int 3]) (g' := g) (by decide +kernel) rfl ?_
      obtain rfl := Option.some.inj H
      exact xret_i A hR hz (by decide +kernel) rfl ⟨rfl, rfl⟩
set_option maxRecDepth 20000 in
theorem c_X9_kindBegunBy {S : List xSh} (hS : xpf SH1 S) {g : xG} {p0 : Int32} (out : Int32) (H : f_X9_kindBegunBy p0 = some out) : xC mX9_kindBegunBy 4 91 0 0 S [.int p0] g S (fun r g' => r = some (.int out) ∧ g' = g) := by
  have H : (if p0 = 9 then
  some 0
else
  if p0 = 10 then
    some 0
  else
    if p0 = 13 then
      some 0
    else
      if p0 = 32 then
        some 0
      else
        if p0 < 97 then
          f_X9_kindBegunBy_40 p0
        else
          if 122 < p0 then
            f_X9_kindBegunBy_40 p0
          else
            some 2) = some out := H
  refine xC.of 9 SH1 [some (.int p0), none] hS (by decide +kernel) rfl (fun _ _ => Nat.le_of_ble_eq_true rfl) (fun _ _ => rfl) ?_
  intro k A hR hrm hz
  refine xb A [(.iload_n 0, 1, 0, 0, .null), (.bipush 9, 2, 0, 0, .int 9)] (pc' := 3) (ls' := [some (.int p0), none]) (st' := [.int 9, .int p0]) (g' := g) (by decide +kernel) rfl ?_
  refine xic_eq A (21) 24 6 (by decide +kernel) (fun h1 => ?_) (fun h1 => ?_)
  · rw [if_pos h1] at H
    refine xb A [(.iconst 0, 1, 0, 0, .int 0)] (pc' := 25) (ls' := [some (.int p0), none]) (st' := [.int 0]) (g' := g) (by decide +kernel) rfl ?_
    obtain rfl := Option.some.inj H
    exact xret_i A hR hz (by decide +kernel) rfl ⟨rfl, rfl⟩
  · rw [if_neg h1] at H
    refine xb A [(.iload_n 0, 1, 0, 0, .null), (.bipush 10, 2, 0, 0, .int 10)] (pc' := 9) (ls' := [some (.int p0), none]) (st' := [.int 10, .int p0]) (g' := g) (by decide +kernel) rfl ?_
    refine xic_eq A (15) 24 12 (by decide +kernel) (fun h2 => ?_) (fun h2 => ?_)
    · rw [if_pos h2] at H
      refine xb A [(.iconst 0, 1, 0, 0, .int 0)] (pc' := 25) (ls' := [some (.int p0), none]) (st' := [.int 0]) (g' := g) (by decide +kernel) rfl ?_
      obtain rfl := Option.some.inj H
      exact xret_i A hR hz (by decide +kernel) rfl ⟨rfl, rfl⟩
    · rw [if_neg h2] at H
      refine xb A [(.iload_n 0, 1, 0, 0, .null), (.bipush 13, 2, 0, 0, .int 13)] (pc' := 15) (ls' := [some (.int p0), none]) (st' := [.int 13, .int p0]) (g' := g) (by decide +kernel) rfl ?_
      refine xic_eq A (9) 24 18 (by decide +kernel) (fun h3 => ?_) (fun h3 => ?_)
      · rw [if_pos h3] at H
        refine xb A [(.iconst 0, 1, 0, 0, .int 0)] (pc' := 25) (ls' := [some (.int p0), none]) (st' := [.int 0]) (g' := g) (by decide +kernel) rfl ?_
        obtain rfl := Option.some.inj H
        exact xret_i A hR hz (by decide +kernel) rfl ⟨rfl, rfl⟩
      · rw [if_neg h3] at H
        refine xb A [(.iload_n 0, 1, 0, 0, .null), (.bipush 32, 2, 0, 0, .int 32)] (pc' := 21) (ls' := [some (.int p0), none]) (st' := [.int 32, .int p0]) (g' := g) (by decide +kernel) rfl ?_
        refine xic_ne A (5) 26 24 (by decide +kernel) (fun h4 => ?_) (fun h4 => ?_)
        · rw [if_neg h4] at H
          refine xb A [(.iload_n 0, 1, 0, 0, .null), (.bipush 97, 2, 0, 0, .int 97)] (pc' := 29) (ls' := [some (.int p0), none]) (st' := [.int 97, .int p0]) (g' := g) (by decide +kernel) rfl ?_
          refine xic_lt A (11) 40 32 (by decide +kernel) (fun h5 => ?_) (fun h5 => ?_)
          · rw [if_pos h5] at H
            exact t_X9_kindBegunBy_40 hS A hR hrm hz _ H
          · rw [if_neg h5] at H
            refine xb A [(.iload_n 0, 1, 0, 0, .null), (.bipush 122, 2, 0, 0, .int 122)] (pc' := 35) (ls' := [some (.int p0), none]) (st' := [.int 122, .int p0]) (g' := g) (by decide +kernel) rfl ?_
            refine xic_gt A (5) 40 38 (by decide +kernel) (fun h9 => ?_) (fun h9 => ?_)
            · rw [if_pos h9] at H
              exact t_X9_kindBegunBy_40 hS A hR hrm hz _ H
            · rw [if_neg h9] at H
              refine xb A [(.iconst 2, 1, 0, 0, .int 2)] (pc' := 39) (ls' := [some (.int p0), none]) (st' := [.int 2]) (g' := g) (by decide +kernel) rfl ?_
              obtain rfl := Option.some.inj H
              exact xret_i A hR hz (by decide +kernel) rfl ⟨rfl, rfl⟩
        · rw [if_pos h4] at H
          refine xb A [(.iconst 0, 1, 0, 0, .int 0)] (pc' := 25) (ls' := [some (.int p0), none]) (st' := [.int 0]) (g' := g) (by decide +kernel) rfl ?_
          obtain rfl := Option.some.inj H
          exact xret_i A hR hz (by decide +kernel) rfl ⟨rfl, rfl⟩
