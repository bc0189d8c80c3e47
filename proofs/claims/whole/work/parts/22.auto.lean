/-! methods, walked by program -/
def fp_X4_copyFrom_3_23 : List (Nat × Option Nat) := [(3, some 9), (3, some 10), (3, some 11), (3, some 12), (3, some 13), (5, none), (6, none), (7, none), (9, none), (10, none), (11, none), (12, some 4), (13, none), (14, none), (15, none)]
def f_X4_copyFrom_3_23  (g : xG) : xG :=
  xl (xcopy g 25 5 10) fun w1 =>
  xl (xcopy w1 26 6 10) fun w2 =>
  xl (xcopy w2 27 7 10) fun w3 =>
  xl (xcopy w3 29 9 6) fun w4 =>
  xl (xcopy w4 30 10 6) fun w5 =>
  xl (xcopy w5 31 11 6) fun w6 =>
  xl (f_X2_copyFrom_12_32 w6) fun w7 =>
  (xupd (xupd (xupd (xupd (xupd w7.1 3 9 (w7.1 23 9)) 3 10 (w7.1 23 10)) 3 11 (w7.1 23 11)) 3 12 (w7.1 23 12)) 3 13 (w7.1 23 13), w7.2)
set_option maxRecDepth 20000 in
theorem c_X4_copyFrom_3_23 {S : List xSh} (hS : xpf SH1 S) {g : xG}  (out : xG) (H : f_X4_copyFrom_3_23  g = out) : xC mX4_copyFrom 2 43 0 0 S [.ref 3, .ref 23] g S (fun r g' => r = none ∧ g' = out) := by
  have H : (xl (xcopy g 25 5 10) fun w1 =>
xl (xcopy w1 26 6 10) fun w2 =>
xl (xcopy w2 27 7 10) fun w3 =>
xl (xcopy w3 29 9 6) fun w4 =>
xl (xcopy w4 30 10 6) fun w5 =>
xl (xcopy w5 31 11 6) fun w6 =>
xl (f_X2_copyFrom_12_32 w6) fun w7 =>
(xupd (xupd (xupd (xupd (xupd w7.1 3 9 (w7.1 23 9)) 3 10 (w7.1 23 10)) 3 11 (w7.1 23 11)) 3 12 (w7.1 23 12)) 3 13 (w7.1 23 13), w7.2)) = out := H
  refine xC.of 4 SH1 [some (.ref 3), some (.ref 23)] hS (by decide +kernel) rfl (fun _ _ => Nat.le_of_ble_eq_true rfl) (fun _ _ => rfl) ?_
  intro k A hR hrm hz
  refine xb A [(.aload_n 1, 1, 0, 0, .null), (.getfield 15, 3, 23, 1, .ref 25), (.aload_n 0, 1, 0, 0, .null), (.getfield 15, 3, 3, 1, .ref 5)] (pc' := 8) (ls' := [some (.ref 3), some (.ref 23)]) (st' := [.ref 5, .ref 25]) (g' := g) (by decide +kernel) rfl ?_
  obtain ⟨w1, e1, H⟩ := xl_elim H
  refine xcallSN A (ix := 63) (nxt := 11) (host := "NoonRinger") hrm hz [.ref 25, .ref 5] [] 21 (c_X11_copyAll (hS _ _ sh_25) (hS _ _ sh_5) (by decide) (by decide)) ok_X11_copyAll (by decide +kernel) rfl (fun r g1 hq => ?_)
  rw [hq.1, hq.2]
  rw [e1]
  show xW k S 0 0 11 [some (.ref 3), some (.ref 23)] [] w1
  refine xb A [(.aload_n 1, 1, 0, 0, .null), (.getfield 19, 3, 23, 2, .ref 26), (.aload_n 0, 1, 0, 0, .null), (.getfield 19, 3, 3, 2, .ref 6)] (pc' := 19) (ls' := [some (.ref 3), some (.ref 23)]) (st' := [.ref 6, .ref 26]) (g' := w1) (by decide +kernel) rfl ?_
  obtain ⟨w2, e2, H⟩ := xl_elim H
  refine xcallSN A (ix := 63) (nxt := 22) (host := "NoonRinger") hrm hz [.ref 26, .ref 6] [] 21 (c_X11_copyAll (hS _ _ sh_26) (hS _ _ sh_6) (by decide) (by decide)) ok_X11_copyAll (by decide +kernel) rfl (fun r g1 hq => ?_)
  rw [hq.1, hq.2]
  rw [e2]
  show xW k S 0 0 22 [some (.ref 3), some (.ref 23)] [] w2
  refine xb A [(.aload_n 1, 1, 0, 0, .null), (.getfield 22, 3, 23, 3, .ref 27), (.aload_n 0, 1, 0, 0, .null), (.getfield 22, 3, 3, 3, .ref 7)] (pc' := 30) (ls' := [some (.ref 3), some (.ref 23)]) (st' := [.ref 7, .ref 27]) (g' := w2) (by decide +kernel) rfl ?_
  obtain ⟨w3, e3, H⟩ := xl_elim H
  refine xcallSN A (ix := 63) (nxt := 33) (host := "NoonRinger") hrm hz [.ref 27, .ref 7] [] 21 (c_X11_copyAll (hS _ _ sh_27) (hS _ _ sh_7) (by decide) (by decide)) ok_X11_copyAll (by decide +kernel) rfl (fun r g1 hq => ?_)
  rw [hq.1, hq.2]
  rw [e3]
  show xW k S 0 0 33 [some (.ref 3), some (.ref 23)] [] w3
  refine xb A [(.aload_n 1, 1, 0, 0, .null), (.getfield 28, 3, 23, 5, .ref 29), (.aload_n 0, 1, 0, 0, .null), (.getfield 28, 3, 3, 5, .ref 9)] (pc' := 41) (ls' := [some (.ref 3), some (.ref 23)]) (st' := [.ref 9, .ref 29]) (g' := w3) (by decide +kernel) rfl ?_
  obtain ⟨w4, e4, H⟩ := xl_elim H
  refine xcallSN A (ix := 63) (nxt := 44) (host := "NoonRinger") hrm hz [.ref 29, .ref 9] [] 21 (c_X11_copyAll (hS _ _ sh_29) (hS _ _ sh_9) (by decide) (by decide)) ok_X11_copyAll (by decide +kernel) rfl (fun r g1 hq => ?_)
  rw [hq.1, hq.2]
  rw [e4]
  show xW k S 0 0 44 [some (.ref 3), some (.ref 23)] [] w4
  refine xb A [(.aload_n 1, 1, 0, 0, .null), (.getfield 31, 3, 23, 6, .ref 30), (.aload_n 0, 1, 0, 0, .null), (.getfield 31, 3, 3, 6, .ref 10)] (pc' := 52) (ls' := [some (.ref 3), some (.ref 23)]) (st' := [.ref 10, .ref 30]) (g' := w4) (by decide +kernel) rfl ?_
  obtain ⟨w5, e5, H⟩ := xl_elim H
  refine xcallSN A (ix := 63) (nxt := 55) (host := "NoonRinger") hrm hz [.ref 30, .ref 10] [] 21 (c_X11_copyAll (hS _ _ sh_30) (hS _ _ sh_10) (by decide) (by decide)) ok_X11_copyAll (by decide +kernel) rfl (fun r g1 hq => ?_)
  rw [hq.1, hq.2]
  rw [e5]
  show xW k S 0 0 55 [some (.ref 3), some (.ref 23)] [] w5
  refine xb A [(.aload_n 1, 1, 0, 0, .null), (.getfield 34, 3, 23, 7, .ref 31), (.aload_n 0, 1, 0, 0, .null), (.getfield 34, 3, 3, 7, .ref 11)] (pc' := 63) (ls' := [some (.ref 3), some (.ref 23)]) (st' := [.ref 11, .ref 31]) (g' := w5) (by decide +kernel) rfl ?_
  obtain ⟨w6, e6, H⟩ := xl_elim H
  refine xcallSN A (ix := 63) (nxt := 66) (host := "NoonRinger") hrm hz [.ref 31, .ref 11] [] 21 (c_X11_copyAll (hS _ _ sh_31) (hS _ _ sh_11) (by decide) (by decide)) ok_X11_copyAll (by decide +kernel) rfl (fun r g1 hq => ?_)
  rw [hq.1, hq.2]
  rw [e6]
  show xW k S 0 0 66 [some (.ref 3), some (.ref 23)] [] w6
  refine xb A [(.aload_n 0, 1, 0, 0, .null), (.getfield 40, 3, 3, 8, .ref 12), (.aload_n 1, 1, 0, 0, .null), (.getfield 40, 3, 23, 8, .ref 32)] (pc' := 74) (ls' := [some (.ref 3), some (.ref 23)]) (st' := [.ref 32, .ref 12]) (g' := w6) (by decide +kernel) rfl ?_
  obtain ⟨w7, e7, H⟩ := xl_elim H
  refine xcallV A (ix := 67) (nxt := 77) hrm hz [.ref 32] [] 880 (c_X2_copyFrom_12_32 hS _ e7) ok_X2_copyFrom (by decide +kernel) rfl (fun r g1 hq => ?_)
  rw [hq.1, hq.2]
  show xW k S 0 0 77 [some (.ref 3), some (.ref 23)] [] w7
  refine xb A [(.aload_n 0, 1, 0, 0, .null), (.aload_n 1, 1, 0, 0, .null), (.getfield 44, 3, 23, 9, .int 0), (.putfield 44, 3, 3, 9, .int 0), (.aload_n 0, 1, 0, 0, .null), (.aload_n 1, 1, 0, 0, .null), (.getfield 48, 3, 23, 10, .int 0), (.putfield 48, 3, 3, 10, .int 0), (.aload_n 0, 1, 0, 0, .null), (.aload_n 1, 1, 0, 0, .null), (.getfield 51, 3, 23, 11, .int 0), (.putfield 51, 3, 3, 11, .int 0), (.aload_n 0, 1, 0, 0, .null), (.aload_n 1, 1, 0, 0, .null), (.getfield 54, 3, 23, 12, .int 0), (.putfield 54, 3, 3, 12, .int 0), (.aload_n 0, 1, 0, 0, .null), (.aload_n 1, 1, 0, 0, .null), (.getfield 57, 3, 23, 13, .int 0), (.putfield 57, 3, 3, 13, .int 0)] (pc' := 117) (ls' := [some (.ref 3), some (.ref 23)]) (st' := []) (g' := (xupd (xupd (xupd (xupd (xupd w7.1 3 9 (w7.1 23 9)) 3 10 (w7.1 23 10)) 3 11 (w7.1 23 11)) 3 12 (w7.1 23 12)) 3 13 (w7.1 23 13), w7.2)) (by decide +kernel) rfl ?_
  subst H
  exact xret_v A hR hz (by decide +kernel) ⟨rfl, rfl⟩
theorem fr_X4_copyFrom_3_23  {g : xG} (out : xG) (H : f_X4_copyFrom_3_23  g = out) : xfrm fp_X4_copyFrom_3_23 g (out) := by
  have H : (xl (xcopy g 25 5 10) fun w1 =>
xl (xcopy w1 26 6 10) fun w2 =>
xl (xcopy w2 27 7 10) fun w3 =>
xl (xcopy w3 29 9 6) fun w4 =>
xl (xcopy w4 30 10 6) fun w5 =>
xl (xcopy w5 31 11 6) fun w6 =>
xl (f_X2_copyFrom_12_32 w6) fun w7 =>
(xupd (xupd (xupd (xupd (xupd w7.1 3 9 (w7.1 23 9)) 3 10 (w7.1 23 10)) 3 11 (w7.1 23 11)) 3 12 (w7.1 23 12)) 3 13 (w7.1 23 13), w7.2)) = out := H
  obtain ⟨w1, e1, H⟩ := xl_elim H
  have hf1 : xfrm fp_X4_copyFrom_3_23 g (w1) := xfrm_xcopy xfrm.rf rfl e1
  obtain ⟨w2, e2, H⟩ := xl_elim H
  have hf2 : xfrm fp_X4_copyFrom_3_23 g (w2) := xfrm_xcopy hf1 rfl e2
  obtain ⟨w3, e3, H⟩ := xl_elim H
  have hf3 : xfrm fp_X4_copyFrom_3_23 g (w3) := xfrm_xcopy hf2 rfl e3
  obtain ⟨w4, e4, H⟩ := xl_elim H
  have hf4 : xfrm fp_X4_copyFrom_3_23 g (w4) := xfrm_xcopy hf3 rfl e4
  obtain ⟨w5, e5, H⟩ := xl_elim H
  have hf5 : xfrm fp_X4_copyFrom_3_23 g (w5) := xfrm_xcopy hf4 rfl e5
  obtain ⟨w6, e6, H⟩ := xl_elim H
  have hf6 : xfrm fp_X4_copyFrom_3_23 g (w6) := xfrm_xcopy hf5 rfl e6
  obtain ⟨w7, e7, H⟩ := xl_elim H
  have hf7 : xfrm fp_X4_copyFrom_3_23 g (w7) := xfrm.tr hf6 (fr_X2_copyFrom_12_32 _ e7) rfl
  have hf8 : xfrm fp_X4_copyFrom_3_23 g ((xupd w7.1 3 9 (w7.1 23 9), w7.2)) := xfrm.up hf7 rfl
  have hf9 : xfrm fp_X4_copyFrom_3_23 g ((xupd (xupd w7.1 3 9 (w7.1 23 9)) 3 10 (w7.1 23 10), w7.2)) := xfrm.up hf8 rfl
  have hf10 : xfrm fp_X4_copyFrom_3_23 g ((xupd (xupd (xupd w7.1 3 9 (w7.1 23 9)) 3 10 (w7.1 23 10)) 3 11 (w7.1 23 11), w7.2)) := xfrm.up hf9 rfl
  have hf11 : xfrm fp_X4_copyFrom_3_23 g ((xupd (xupd (xupd (xupd w7.1 3 9 (w7.1 23 9)) 3 10 (w7.1 23 10)) 3 11 (w7.1 23 11)) 3 12 (w7.1 23 12), w7.2)) := xfrm.up hf10 rfl
  have hf12 : xfrm fp_X4_copyFrom_3_23 g ((xupd (xupd (xupd (xupd (xupd w7.1 3 9 (w7.1 23 9)) 3 10 (w7.1 23 10)) 3 11 (w7.1 23 11)) 3 12 (w7.1 23 12)) 3 13 (w7.1 23 13), w7.2)) := xfrm.up hf11 rfl
  subst H
  exact hf12
def fp_X6_set_48 : List (Nat × Option Nat) := [(49, none)]
def f_X6_set_48 (p1 : Int32) (p2 : Int32) (g : xG) : xG :=
  xl (xput g 49 35 p1 p2) fun w1 =>
  w1
set_option maxRecDepth 20000 in
theorem c_X6_set_48 {S : List xSh} (hS : xpf SH1 S) {g : xG} {p1 : Int32} {p2 : Int32} (out : xG) (H : f_X6_set_48 p1 p2 g = out) : xC mX6_set 1 22 0 0 S [.ref 48, .int p1, .int p2] g S (fun r g' => r = none ∧ g' = out) := by
  have H : (xl (xput g 49 35 p1 p2) fun w1 =>
w1) = out := H
  refine xC.of 6 SH1 [some (.ref 48), some (.int p1), some (.int p2)] hS (by decide +kernel) rfl (fun _ _ => Nat.le_of_ble_eq_true rfl) (fun _ _ => rfl) ?_
  intro k A hR hrm hz
  refine xb A [(.aload_n 0, 1, 0, 0, .null), (.getfield 11, 3, 48, 0, .ref 49), (.iload_n 1, 1, 0, 0, .null), (.iload_n 2, 1, 0, 0, .null)] (pc' := 6) (ls' := [some (.ref 48), some (.int p1), some (.int p2)]) (st' := [.int p2, .int p1, .ref 49]) (g' := g) (by decide +kernel) rfl ?_
  obtain ⟨w1, e1, H⟩ := xl_elim H
  refine xcallSN A (ix := 19) (nxt := 9) (host := "NoonRinger") hrm hz [.ref 49, .int p1, .int p2] [] 7 (c_X11_put (hS _ _ sh_49) (by decide)) ok_X11_put (by decide +kernel) rfl (fun r g1 hq => ?_)
  rw [hq.1, hq.2]
  rw [e1]
  show xW k S 0 0 9 [some (.ref 48), some (.int p1), some (.int p2)] [] w1
  subst H
  exact xret_v A hR hz (by decide +kernel) ⟨rfl, rfl⟩
theorem fr_X6_set_48 {p1 : Int32} {p2 : Int32} {g : xG} (out : xG) (H : f_X6_set_48 p1 p2 g = out) : xfrm fp_X6_set_48 g (out) := by
  have H : (xl (xput g 49 35 p1 p2) fun w1 =>
w1) = out := H
  obtain ⟨w1, e1, H⟩ := xl_elim H
  have hf1 : xfrm fp_X6_set_48 g (w1) := xfrm_xput xfrm.rf rfl e1
  subst H
  exact hf1
def f_X4_people_3  (g : xG) : Int32 :=
  g.1 3 11
set_option maxRecDepth 20000 in
theorem c_X4_people_3 {S : List xSh} (hS : xpf SH1 S) {g : xG}  (out : Int32) (H : f_X4_people_3  g = out) : xC mX4_people 0 0 0 0 S [.ref 3] g S (fun r g' => r = some (.int out) ∧ g' = g) := by
  have H : (g.1 3 11) = out := H
  refine xC.of 4 SH1 [some (.ref 3)] hS (by decide +kernel) rfl (fun _ _ => Nat.le_of_ble_eq_true rfl) (fun _ _ => rfl) ?_
  intro k A hR hrm hz
  refine xb A [(.aload_n 0, 1, 0, 0, .null), (.getfield 51, 3, 3, 11, .int 0)] (pc' := 4) (ls' := [some (.ref 3)]) (st' := [.int (g.1 3 11)]) (g' := g) (by decide +kernel) rfl ?_
  subst H
  exact xret_i A hR hz (by decide +kernel) rfl ⟨rfl, rfl⟩
def f_X4_firstPlaceOf_3 (p1 : Int32) (g : xG) : Int32 :=
  xat g 11 6 p1
set_option maxRecDepth 20000 in
theorem c_X4_firstPlaceOf_3 {S : List xSh} (hS : xpf SH1 S) {g : xG} {p1 : Int32} (out : Int32) (H : f_X4_firstPlaceOf_3 p1 g = out) : xC mX4_firstPlaceOf 1 21 0 0 S [.ref 3, .int p1] g S (fun r g' => r = some (.int out) ∧ g' = g) := by
  have H : (xat g 11 6 p1) = out := H
  refine xC.of 4 SH1 [some (.ref 3), some (.int p1)] hS (by decide +kernel) rfl (fun _ _ => Nat.le_of_ble_eq_true rfl) (fun _ _ => rfl) ?_
  intro k A hR hrm hz
  refine xb A [(.aload_n 0, 1, 0, 0, .null), (.getfield 34, 3, 3, 7, .ref 11), (.iload_n 1, 1, 0, 0, .null)] (pc' := 5) (ls' := [some (.ref 3), some (.int p1)]) (st' := [.int p1, .ref 11]) (g' := g) (by decide +kernel) rfl ?_
  refine xcallSN A (ix := 87) (nxt := 8) (host := "NoonRinger") hrm hz [.ref 11, .int p1] [] 8 (c_X11_at (hS _ _ sh_11) (by decide)) ok_X11_at (by decide +kernel) rfl (fun r g1 hq => ?_)
  rw [hq.1, hq.2]
  show xW k S 0 0 8 [some (.ref 3), some (.int p1)] [.int (xat g 11 6 p1)] g
  subst H
  exact xret_i A hR hz (by decide +kernel) rfl ⟨rfl, rfl⟩
def fp_X6_setOf_48 : List (Nat × Option Nat) := [(49, none)]
def f_X6_setOf_48 (p1 : Int32) (p2 : Int32) (p3 : Int32) (g : xG) : xG :=
  xl (xput g 49 35 (p2 + p1) p3) fun w1 =>
  w1
set_option maxRecDepth 20000 in
theorem c_X6_setOf_48 {S : List xSh} (hS : xpf SH1 S) {g : xG} {p1 : Int32} {p2 : Int32} {p3 : Int32} (out : xG) (H : f_X6_setOf_48 p1 p2 p3 g = out) : xC mX6_setOf 1 22 0 0 S [.ref 48, .int p1, .int p2, .int p3] g S (fun r g' => r = none ∧ g' = out) := by
  have H : (xl (xput g 49 35 (p2 + p1) p3) fun w1 =>
w1) = out := H
  refine xC.of 6 SH1 [some (.ref 48), some (.int p1), some (.int p2), some (.int p3)] hS (by decide +kernel) rfl (fun _ _ => Nat.le_of_ble_eq_true rfl) (fun _ _ => rfl) ?_
  intro k A hR hrm hz
  refine xb A [(.aload_n 0, 1, 0, 0, .null), (.getfield 11, 3, 48, 0, .ref 49), (.iload_n 2, 1, 0, 0, .null), (.iload_n 1, 1, 0, 0, .null), (.iadd, 1, 0, 0, .null), (.iload_n 3, 1, 0, 0, .null)] (pc' := 8) (ls' := [some (.ref 48), some (.int p1), some (.int p2), some (.int p3)]) (st' := [.int p3, .int (p2 + p1), .ref 49]) (g' := g) (by decide +kernel) rfl ?_
  obtain ⟨w1, e1, H⟩ := xl_elim H
  refine xcallSN A (ix := 19) (nxt := 11) (host := "NoonRinger") hrm hz [.ref 49, .int (p2 + p1), .int p3] [] 7 (c_X11_put (hS _ _ sh_49) (by decide)) ok_X11_put (by decide +kernel) rfl (fun r g1 hq => ?_)
  rw [hq.1, hq.2]
  rw [e1]
  show xW k S 0 0 11 [some (.ref 48), some (.int p1), some (.int p2), some (.int p3)] [] w1
  subst H
  exact xret_v A hR hz (by decide +kernel) ⟨rfl, rfl⟩
theorem fr_X6_setOf_48 {p1 : Int32} {p2 : Int32} {p3 : Int32} {g : xG} (out : xG) (H : f_X6_setOf_48 p1 p2 p3 g = out) : xfrm fp_X6_setOf_48 g (out) := by
  have H : (xl (xput g 49 35 (p2 + p1) p3) fun w1 =>
w1) = out := H
  obtain ⟨w1, e1, H⟩ := xl_elim H
  have hf1 : xfrm fp_X6_setOf_48 g (w1) := xfrm_xput xfrm.rf rfl e1
  subst H
  exact hf1
def fp_X6_begin_48_3 : List (Nat × Option Nat) := [(49, none)]
def f_X6_begin_48_3_33  : Nat → Int32 → xG → Option (xG)
  | 0, _, _ => none
  | n + 1, l2, g =>
    if (f_X4_people_3 g) ≤ l2 then
      some g
    else
      xl (f_X6_setOf_48 l2 5 (f_X4_firstPlaceOf_3 l2 g) g) fun w2 =>
      xl (f_X6_setOf_48 l2 11 (-2) w2) fun w3 =>
      f_X6_begin_48_3_33 n (l2 + 1) w3
def f_X6_begin_48_3_2  : Nat → Int32 → xG → Option (xG)
  | 0, _, _ => none
  | n + 1, l2, g =>
    if 35 ≤ l2 then
      xl (f_X6_set_48 1 (-2) g) fun w1 =>
      f_X6_begin_48_3_33 xN 0 w1
    else
      xg (¬ (l2 < 0 ∨ 35 ≤ l2.toNatClampNeg)) (
        f_X6_begin_48_3_2 n (l2 + 1) (xupd g.1 49 l2.toNatClampNeg 0, g.2))
def f_X6_begin_48_3  (g : xG) : Option (xG) :=
  f_X6_begin_48_3_2 xN 0 g
set_option maxRecDepth 20000 in
theorem t_X6_begin_48_3_33 {k : xK} {S : List xSh} {out : xG} (hS : xpf SH1 S) (A : xAt k mX6_begin.2.1 6 SH1 S) (hR : xRet k 0 0 S (fun r g' => r = none ∧ g' = out) mX6_begin.2.2.2) (hrm : xrm k = { frames := 2, cells := 0, slots := 0, locals := 45 }) (hz : xhs k = xb0 k + S.length)   : ∀ (n : Nat) (l2 : Int32) (g : xG), f_X6_begin_48_3_33 n l2 g = some out → xW k S 0 0 33 [some (.ref 48), some (.ref 3), some (.int l2)] [] g := by
  intro n
  induction n with
  | zero => intro l2 g H; exact absurd H (by simp [f_X6_begin_48_3_33])
  | succ n ih =>
    intro l2 g H
    have H : (if (f_X4_people_3 g) ≤ l2 then
  some g
else
  xl (f_X6_setOf_48 l2 5 (f_X4_firstPlaceOf_3 l2 g) g) fun w2 =>
  xl (f_X6_setOf_48 l2 11 (-2) w2) fun w3 =>
  f_X6_begin_48_3_33 n (l2 + 1) w3) = some out := H
    refine xb A [(.iload_n 2, 1, 0, 0, .null), (.aload_n 1, 1, 0, 0, .null)] (pc' := 35) (ls' := [some (.ref 48), some (.ref 3), some (.int l2)]) (st' := [.ref 3, .int l2]) (g' := g) (by decide +kernel) rfl ?_
    refine xcallV A (ix := 27) (nxt := 38) hrm hz [] [.int l2] 474 (c_X4_people_3 hS _ rfl) ok_X4_people (by decide +kernel) rfl (fun r g1 hq => ?_)
    rw [hq.1, hq.2]
    show xW k S 0 0 38 [some (.ref 48), some (.ref 3), some (.int l2)] [.int (f_X4_people_3 g), .int l2] g
    refine xic_ge A (29) 67 41 (by decide +kernel) (fun h2 => ?_) (fun h2 => ?_)
    · rw [if_pos h2] at H
      obtain rfl := Option.some.inj H
      exact xret_v A hR hz (by decide +kernel) ⟨rfl, rfl⟩
    · rw [if_neg h2] at H
      refine xb A [(.aload_n 0, 1, 0, 0, .null), (.iload_n 2, 1, 0, 0, .null), (.iconst 5, 1, 0, 0, .int 5), (.aload_n 1, 1, 0, 0, .null), (.iload_n 2, 1, 0, 0, .null)] (pc' := 46) (ls' := [some (.ref 48), some (.ref 3), some (.int l2)]) (st' := [.int l2, .ref 3, .int 5, .int l2, .ref 48]) (g' := g) (by decide +kernel) rfl ?_
      refine xcallV A (ix := 33) (nxt := 49) hrm hz [.int l2] [.int 5, .int l2, .ref 48] 478 (c_X4_firstPlaceOf_3 hS _ rfl) ok_X4_firstPlaceOf (by decide +kernel) rfl (fun r g1 hq => ?_)
      rw [hq.1, hq.2]
      show xW k S 0 0 49 [some (.ref 48), some (.ref 3), some (.int l2)] [.int (f_X4_firstPlaceOf_3 l2 g), .int 5, .int l2, .ref 48] g
      obtain ⟨w2, e2, H⟩ := xl_elim H
      refine xcallV A (ix := 37) (nxt := 52) hrm hz [.int l2, .int 5, .int (f_X4_firstPlaceOf_3 l2 g)] [] 485 (c_X6_setOf_48 hS _ e2) ok_X6_setOf (by decide +kernel) rfl (fun r g1 hq => ?_)
      rw [hq.1, hq.2]
      show xW k S 0 0 52 [some (.ref 48), some (.ref 3), some (.int l2)] [] w2
      refine xb A [(.aload_n 0, 1, 0, 0, .null), (.iload_n 2, 1, 0, 0, .null), (.bipush 11, 2, 0, 0, .int 11), (.bipush (-2), 2, 0, 0, .int (-2))] (pc' := 58) (ls' := [some (.ref 48), some (.ref 3), some (.int l2)]) (st' := [.int (-2), .int 11, .int l2, .ref 48]) (g' := w2) (by decide +kernel) rfl ?_
      obtain ⟨w3, e3, H⟩ := xl_elim H
      refine xcallV A (ix := 37) (nxt := 61) hrm hz [.int l2, .int 11, .int (-2)] [] 485 (c_X6_setOf_48 hS _ e3) ok_X6_setOf (by decide +kernel) rfl (fun r g1 hq => ?_)
      rw [hq.1, hq.2]
      show xW k S 0 0 61 [some (.ref 48), some (.ref 3), some (.int l2)] [] w3
      refine xb A [(.iinc 2 1, 3, 0, 0, .null)] (pc' := 64) (ls' := [some (.ref 48), some (.ref 3), some (.int (l2 + 1))]) (st' := []) (g' := w3) (by decide +kernel) rfl ?_
      refine xgoto A (-31) 33 (by decide +kernel) ?_
      exact ih _ _ H
theorem fr_X6_begin_48_3_33   : ∀ (n : Nat) (l2 : Int32) (g : xG) (out : xG), f_X6_begin_48_3_33 n l2 g = some out → xfrm fp_X6_begin_48_3 g (out) := by
  intro n
  induction n with
  | zero => intro l2 g out H; exact absurd H (by simp [f_X6_begin_48_3_33])
  | succ n ih =>
    intro l2 g out H
    have H : (if (f_X4_people_3 g) ≤ l2 then
  some g
else
  xl (f_X6_setOf_48 l2 5 (f_X4_firstPlaceOf_3 l2 g) g) fun w2 =>
  xl (f_X6_setOf_48 l2 11 (-2) w2) fun w3 =>
  f_X6_begin_48_3_33 n (l2 + 1) w3) = some out := H
    by_cases h2 : (f_X4_people_3 g) ≤ l2
    · rw [if_pos h2] at H
      obtain rfl := Option.some.inj H
      exact xfrm.rf
    · rw [if_neg h2] at H
      obtain ⟨w2, e2, H⟩ := xl_elim H
      have hf2 : xfrm fp_X6_begin_48_3 g (w2) := xfrm.tr xfrm.rf (fr_X6_setOf_48 _ e2) rfl
      obtain ⟨w3, e3, H⟩ := xl_elim H
      have hf3 : xfrm fp_X6_begin_48_3 g (w3) := xfrm.tr hf2 (fr_X6_setOf_48 _ e3) rfl
      exact xfrm.tr hf3 (ih _ _ _ H) rfl
set_option maxRecDepth 20000 in
theorem t_X6_begin_48_3_2 {k : xK} {S : List xSh} {out : xG} (hS : xpf SH1 S) (A : xAt k mX6_begin.2.1 6 SH1 S) (hR : xRet k 0 0 S (fun r g' => r = none ∧ g' = out) mX6_begin.2.2.2) (hrm : xrm k = { frames := 2, cells := 0, slots := 0, locals := 45 }) (hz : xhs k = xb0 k + S.length)   : ∀ (n : Nat) (l2 : Int32) (g : xG), f_X6_begin_48_3_2 n l2 g = some out → xW k S 0 0 2 [some (.ref 48), some (.ref 3), some (.int l2)] [] g := by
  intro n
  induction n with
  | zero => intro l2 g H; exact absurd H (by simp [f_X6_begin_48_3_2])
  | succ n ih =>
    intro l2 g H
    have H : (if 35 ≤ l2 then
  xl (f_X6_set_48 1 (-2) g) fun w1 =>
  f_X6_begin_48_3_33 xN 0 w1
else
  xg (¬ (l2 < 0 ∨ 35 ≤ l2.toNatClampNeg)) (
    f_X6_begin_48_3_2 n (l2 + 1) (xupd g.1 49 l2.toNatClampNeg 0, g.2))) = some out := H
    refine xb A [(.iload_n 2, 1, 0, 0, .null), (.aload_n 0, 1, 0, 0, .null), (.getfield 11, 3, 48, 0, .ref 49), (.arraylength, 1, 49, 0, .int 35)] (pc' := 8) (ls' := [some (.ref 48), some (.ref 3), some (.int l2)]) (st' := [.int 35, .int l2]) (g' := g) (by decide +kernel) rfl ?_
    refine xic_ge A (16) 24 11 (by decide +kernel) (fun h1 => ?_) (fun h1 => ?_)
    · rw [if_pos h1] at H
      refine xb A [(.aload_n 0, 1, 0, 0, .null), (.iconst 1, 1, 0, 0, .int 1), (.bipush (-2), 2, 0, 0, .int (-2))] (pc' := 28) (ls' := [some (.ref 48), some (.ref 3), some (.int l2)]) (st' := [.int (-2), .int 1, .ref 48]) (g' := g) (by decide +kernel) rfl ?_
      obtain ⟨w1, e1, H⟩ := xl_elim H
      refine xcallV A (ix := 23) (nxt := 31) hrm hz [.int 1, .int (-2)] [] 469 (c_X6_set_48 hS _ e1) ok_X6_set (by decide +kernel) rfl (fun r g1 hq => ?_)
      rw [hq.1, hq.2]
      show xW k S 0 0 31 [some (.ref 48), some (.ref 3), some (.int l2)] [] w1
      refine xb A [(.iconst 0, 1, 0, 0, .int 0), (.istore_n 2, 1, 0, 0, .null)] (pc' := 33) (ls' := [some (.ref 48), some (.ref 3), some (.int 0)]) (st' := []) (g' := w1) (by decide +kernel) rfl ?_
      exact t_X6_begin_48_3_33 hS A hR hrm hz _ _ _ H
    · rw [if_neg h1] at H
      refine xb A [(.aload_n 0, 1, 0, 0, .null), (.getfield 11, 3, 48, 0, .ref 49), (.iload_n 2, 1, 0, 0, .null), (.iconst 0, 1, 0, 0, .int 0)] (pc' := 17) (ls' := [some (.ref 48), some (.ref 3), some (.int l2)]) (st' := [.int 0, .int l2, .ref 49]) (g' := g) (by decide +kernel) rfl ?_
      obtain ⟨h3, H⟩ := xg_elim H
      refine xiast A (nxt := 18) (by decide +kernel) (hS _ _ sh_49) h3 ?_
      show xW k S 0 0 18 [some (.ref 48), some (.ref 3), some (.int l2)] [] (xupd g.1 49 l2.toNatClampNeg 0, g.2)
      refine xb A [(.iinc 2 1, 3, 0, 0, .null)] (pc' := 21) (ls' := [some (.ref 48), some (.ref 3), some (.int (l2 + 1))]) (st' := []) (g' := (xupd g.1 49 l2.toNatClampNeg 0, g.2)) (by decide +kernel) rfl ?_
      refine xgoto A (-19) 2 (by decide +kernel) ?_
      exact ih _ _ H
theorem fr_X6_begin_48_3_2   : ∀ (n : Nat) (l2 : Int32) (g : xG) (out : xG), f_X6_begin_48_3_2 n l2 g = some out → xfrm fp_X6_begin_48_3 g (out) := by
  intro n
  induction n with
  | zero => intro l2 g out H; exact absurd H (by simp [f_X6_begin_48_3_2])
  | succ n ih =>
    intro l2 g out H
    have H : (if 35 ≤ l2 then
  xl (f_X6_set_48 1 (-2) g) fun w1 =>
  f_X6_begin_48_3_33 xN 0 w1
else
  xg (¬ (l2 < 0 ∨ 35 ≤ l2.toNatClampNeg)) (
    f_X6_begin_48_3_2 n (l2 + 1) (xupd g.1 49 l2.toNatClampNeg 0, g.2))) = some out := H
    by_cases h1 : 35 ≤ l2
    · rw [if_pos h1] at H
      obtain ⟨w1, e1, H⟩ := xl_elim H
      have hf1 : xfrm fp_X6_begin_48_3 g (w1) := xfrm.tr xfrm.rf (fr_X6_set_48 _ e1) rfl
      exact xfrm.tr hf1 (fr_X6_begin_48_3_33 _ _ _ _ H) rfl
    · rw [if_neg h1] at H
      obtain ⟨h3, H⟩ := xg_elim H
      have hf4 : xfrm fp_X6_begin_48_3 g ((xupd g.1 49 l2.toNatClampNeg 0, g.2)) := xfrm.ua xfrm.rf rfl
      exact xfrm.tr hf4 (ih _ _ _ H) rfl
set_option maxRecDepth 20000 in
theorem c_X6_begin_48_3 {S : List xSh} (hS : xpf SH1 S) {g : xG}  (out : xG) (H : f_X6_begin_48_3  g = some out) : xC mX6_begin 2 45 0 0 S [.ref 48, .ref 3] g S (fun r g' => r = none ∧ g' = out) := by
  have H : (f_X6_begin_48_3_2 xN 0 g) = some out := H
  refine xC.of 6 SH1 [some (.ref 48), some (.ref 3), none] hS (by decide +kernel) rfl (fun _ _ => Nat.le_of_ble_eq_true rfl) (fun _ _ => rfl) ?_
  intro k A hR hrm hz
  refine xb A [(.iconst 0, 1, 0, 0, .int 0), (.istore_n 2, 1, 0, 0, .null)] (pc' := 2) (ls' := [some (.ref 48), some (.ref 3), some (.int 0)]) (st' := []) (g' := g) (by decide +kernel) rfl ?_
  exact t_X6_begin_48_3_2 hS A hR hrm hz _ _ _ H
theorem fr_X6_begin_48_3  {g : xG} (out : xG) (H : f_X6_begin_48_3  g = some out) : xfrm fp_X6_begin_48_3 g (out) := by
  have H : (f_X6_begin_48_3_2 xN 0 g) = some out := H
  exact xfrm.tr xfrm.rf (fr_X6_begin_48_3_2 _ _ _ _ H) rfl
def f_X6_get_48 (p1 : Int32) (g : xG) : Int32 :=
  xat g 49 35 p1
set_option maxRecDepth 20000 in
theorem c_X6_get_48 {S : List xSh} (hS : xpf SH1 S) {g : xG} {p1 : Int32} (out : Int32) (H : f_X6_get_48 p1 g = out) : xC mX6_get 1 21 0 0 S [.ref 48, .int p1] g S (fun r g' => r = some (.int out) ∧ g' = g) := by
  have H : (xat g 49 35 p1) = out := H
  refine xC.of 6 SH1 [some (.ref 48), some (.int p1)] hS (by decide +kernel) rfl (fun _ _ => Nat.le_of_ble_eq_true rfl) (fun _ _ => rfl) ?_
  intro k A hR hrm hz
  refine xb A [(.aload_n 0, 1, 0, 0, .null), (.getfield 11, 3, 48, 0, .ref 49), (.iload_n 1, 1, 0, 0, .null)] (pc' := 5) (ls' := [some (.ref 48), some (.int p1)]) (st' := [.int p1, .ref 49]) (g' := g) (by decide +kernel) rfl ?_
  refine xcallSN A (ix := 15) (nxt := 8) (host := "NoonRinger") hrm hz [.ref 49, .int p1] [] 9 (c_X11_at (hS _ _ sh_49) (by decide)) ok_X11_at (by decide +kernel) rfl (fun r g1 hq => ?_)
  rw [hq.1, hq.2]
  show xW k S 0 0 8 [some (.ref 48), some (.int p1)] [.int (xat g 49 35 p1)] g
  subst H
  exact xret_i A hR hz (by decide +kernel) rfl ⟨rfl, rfl⟩
def f_X4_roads_3  (g : xG) : Int32 :=
  g.1 3 10
set_option maxRecDepth 20000 in
theorem c_X4_roads_3 {S : List xSh} (hS : xpf SH1 S) {g : xG}  (out : Int32) (H : f_X4_roads_3  g = out) : xC mX4_roads 0 0 0 0 S [.ref 3] g S (fun r g' => r = some (.int out) ∧ g' = g) := by
  have H : (g.1 3 10) = out := H
  refine xC.of 4 SH1 [some (.ref 3)] hS (by decide +kernel) rfl (fun _ _ => Nat.le_of_ble_eq_true rfl) (fun _ _ => rfl) ?_
  intro k A hR hrm hz
  refine xb A [(.aload_n 0, 1, 0, 0, .null), (.getfield 48, 3, 3, 10, .int 0)] (pc' := 4) (ls' := [some (.ref 3)]) (st' := [.int (g.1 3 10)]) (g' := g) (by decide +kernel) rfl ?_
  subst H
  exact xret_i A hR hz (by decide +kernel) rfl ⟨rfl, rfl⟩
def f_X4_isRoad_3 (p1 : Int32) (g : xG) : Int32 :=
  if p1 < 0 then
    0
  else
    if (g.1 3 10) ≤ p1 then
      0
    else
      1
set_option maxRecDepth 20000 in
theorem c_X4_isRoad_3 {S : List xSh} (hS : xpf SH1 S) {g : xG} {p1 : Int32} (out : Int32) (H : f_X4_isRoad_3 p1 g = out) : xC mX4_isRoad 0 0 0 0 S [.ref 3, .int p1] g S (fun r g' => r = some (.int out) ∧ g' = g) := by
  have H : (if p1 < 0 then
  0
else
  if (g.1 3 10) ≤ p1 then
    0
  else
    1) = out := H
  refine xC.of 4 SH1 [some (.ref 3), some (.int p1)] hS (by decide +kernel) rfl (fun _ _ => Nat.le_of_ble_eq_true rfl) (fun _ _ => rfl) ?_
  intro k A hR hrm hz
  refine xb A [(.iload_n 1, 1, 0, 0, .null)] (pc' := 1) (ls' := [some (.ref 3), some (.int p1)]) (st' := [.int p1]) (g' := g) (by decide +kernel) rfl ?_
  refine xif_lt A (15) 16 4 (by decide +kernel) (fun h1 => ?_) (fun h1 => ?_)
  · rw [if_pos h1] at H
    refine xb A [(.iconst 0, 1, 0, 0, .int 0)] (pc' := 17) (ls' := [some (.ref 3), some (.int p1)]) (st' := [.int 0]) (g' := g) (by decide +kernel) rfl ?_
    subst H
    exact xret_i A hR hz (by decide +kernel) rfl ⟨rfl, rfl⟩
  · rw [if_neg h1] at H
    refine xb A [(.iload_n 1, 1, 0, 0, .null), (.aload_n 0, 1, 0, 0, .null), (.getfield 48, 3, 3, 10, .int 0)] (pc' := 9) (ls' := [some (.ref 3), some (.int p1)]) (st' := [.int (g.1 3 10), .int p1]) (g' := g) (by decide +kernel) rfl ?_
    refine xic_ge A (7) 16 12 (by decide +kernel) (fun h2 => ?_) (fun h2 => ?_)
    · rw [if_pos h2] at H
      refine xb A [(.iconst 0, 1, 0, 0, .int 0)] (pc' := 17) (ls' := [some (.ref 3), some (.int p1)]) (st' := [.int 0]) (g' := g) (by decide +kernel) rfl ?_
      subst H
      exact xret_i A hR hz (by decide +kernel) rfl ⟨rfl, rfl⟩
    · rw [if_neg h2] at H
      refine xb A [(.iconst 1, 1, 0, 0, .int 1)] (pc' := 13) (ls' := [some (.ref 3), some (.int p1)]) (st' := [.int 1]) (g' := g) (by decide +kernel) rfl ?_
      refine xgoto A (4) 17 (by decide +kernel) ?_
      subst H
      exact xret_i A hR hz (by decide +kernel) rfl ⟨rfl, rfl⟩
def f_X11_bit (p0 : Int32) : Int32 :=
  if p0 < 0 then
    0
  else
    if 31 ≤ p0 then
      0
    else
      (1 : Int32) <<< (p0 &&& 31)
set_option maxRecDepth 20000 in
theorem c_X11_bit {S : List xSh} (hS : xpf SH1 S) {g : xG} {p0 : Int32} (out : Int32) (H : f_X11_bit p0 = out) : xC mX11_bit 0 0 0 0 S [.int p0] g S (fun r g' => r = some (.int out) ∧ g' = g) := by
  have H : (if p0 < 0 then
  0
else
  if 31 ≤ p0 then
    0
  else
    (1 : Int32) <<< (p0 &&& 31)) = out := H
  refine xC.of 11 SH1 [some (.int p0)] hS (by decide +kernel) rfl (fun _ _ => Nat.le_of_ble_eq_true rfl) (fun _ _ => rfl) ?_
  intro k A hR hrm hz
  refine xb A [(.iload_n 0, 1, 0, 0, .null)] (pc' := 1) (ls' := [some (.int p0)]) (st' := [.int p0]) (g' := g) (by decide +kernel) rfl ?_
  refine xif_lt A (15) 16 4 (by decide +kernel) (fun h1 => ?_) (fun h1 => ?_)
  · rw [if_pos h1] at H
    refine xb A [(.iconst 0, 1, 0, 0, .int 0)] (pc' := 17) (ls' := [some (.int p0)]) (st' := [.int 0]) (g' := g) (by decide +kernel) rfl ?_
    subst H
    exact xret_i A hR hz (by decide +kernel) rfl ⟨rfl, rfl⟩
  · rw [if_neg h1] at H
    refine xb A [(.iload_n 0, 1, 0, 0, .null), (.bipush 31, 2, 0, 0, .int 31)] (pc' := 7) (ls' := [some (.int p0)]) (st' := [.int 31, .int p0]) (g' := g) (by decide +kernel) rfl ?_
    refine xic_ge A (9) 16 10 (by decide +kernel) (fun h2 => ?_) (fun h2 => ?_)
    · rw [if_pos h2] at H
      refine xb A [(.iconst 0, 1, 0, 0, .int 0)] (pc' := 17) (ls' := [some (.int p0)]) (st' := [.int 0]) (g' := g) (by decide +kernel) rfl ?_
      subst H
      exact xret_i A hR hz (by decide +kernel) rfl ⟨rfl, rfl⟩
    · rw [if_neg h2] at H
      refine xb A [(.iconst 1, 1, 0, 0, .int 1), (.iload_n 0, 1, 0, 0, .null), (.ishl, 1, 0, 0, .null)] (pc' := 13) (ls' := [some (.int p0)]) (st' := [.int ((1 : Int32) <<< (p0 &&& 31))]) (g' := g) (by decide +kernel) rfl ?_
      refine xgoto A (4) 17 (by decide +kernel) ?_
      subst H
      exact xret_i A hR hz (by decide +kernel) rfl ⟨rfl, rfl⟩
def f_X10_isOpen_38 (p1 : Int32) (g : xG) : Int32 :=
  if (f_X4_isRoad_3 p1 g) = 0 then
    0
  else
    if ((g.1 38 2) &&& (f_X11_bit p1)) = 0 then
      1
    else
      0
set_option maxRecDepth 20000 in
theorem c_X10_isOpen_38 {S : List xSh} (hS : xpf SH1 S) {g : xG} {p1 : Int32} (out : Int32) (H : f_X10_isOpen_38 p1 g = out) : xC mX10_isOpen 1 21 0 0 S [.ref 38, .int p1] g S (fun r g' => r = some (.int out) ∧ g' = g) := by
  have H : (if (f_X4_isRoad_3 p1 g) = 0 then
  0
else
  if ((g.1 38 2) &&& (f_X11_bit p1)) = 0 then
    1
  else
    0) = out := H
  refine xC.of 10 SH1 [some (.ref 38), some (.int p1)] hS (by decide +kernel) rfl (fun _ _ => Nat.le_of_ble_eq_true rfl) (fun _ _ => rfl) ?_
  intro k A hR hrm hz
  refine xb A [(.aload_n 0, 1, 0, 0, .null), (.getfield 15, 3, 38, 0, .ref 3), (.iload_n 1, 1, 0, 0, .null)] (pc' := 5) (ls' := [some (.ref 38), some (.int p1)]) (st' := [.int p1, .ref 3]) (g' := g) (by decide +kernel) rfl ?_
  refine xcallV A (ix := 65) (nxt := 8) hrm hz [.int p1] [] 506 (c_X4_isRoad_3 hS _ rfl) ok_X4_isRoad (by decide +kernel) rfl (fun r g1 hq => ?_)
  rw [hq.1, hq.2]
  show xW k S 0 0 8 [some (.ref 38), some (.int p1)] [.int (f_X4_isRoad_3 p1 g)] g
  refine xif_eq A (19) 27 11 (by decide +kernel) (fun h1 => ?_) (fun h1 => ?_)
  · rw [if_pos h1] at H
    refine xb A [(.iconst 0, 1, 0, 0, .int 0)] (pc' := 28) (ls' := [some (.ref 38), some (.int p1)]) (st' := [.int 0]) (g' := g) (by decide +kernel) rfl ?_
    subst H
    exact xret_i A hR hz (by decide +kernel) rfl ⟨rfl, rfl⟩
  · rw [if_neg h1] at H
    refine xb A [(.aload_n 0, 1, 0, 0, .null), (.getfield 19, 3, 38, 2, .int 0), (.iload_n 1, 1, 0, 0, .null)] (pc' := 16) (ls' := [some (.ref 38), some (.int p1)]) (st' := [.int p1, .int (g.1 38 2)]) (g' := g) (by decide +kernel) rfl ?_
    refine xcallSN A (ix := 68) (nxt := 19) (host := "NoonRinger") hrm hz [.int p1] [.int (g.1 38 2)] 10 (c_X11_bit hS _ rfl) ok_X11_bit (by decide +kernel) rfl (fun r g1 hq => ?_)
    rw [hq.1, hq.2]
    show xW k S 0 0 19 [some (.ref 38), some (.int p1)] [.int (f_X11_bit p1), .int (g.1 38 2)] g
    refine xb A [(.iand, 1, 0, 0, .null)] (pc' := 20) (ls' := [some (.ref 38), some (.int p1)]) (st' := [.int ((g.1 38 2) &&& (f_X11_bit p1))]) (g' := g) (by decide +kernel) rfl ?_
    refine xif_ne A (7) 27 23 (by decide +kernel) (fun h2 => ?_) (fun h2 => ?_)
    · rw [if_neg h2] at H
      refine xb A [(.iconst 0, 1, 0, 0, .int 0)] (pc' := 28) (ls' := [some (.ref 38), some (.int p1)]) (st' := [.int 0]) (g' := g) (by decide +kernel) rfl ?_
      subst H
      exact xret_i A hR hz (by decide +kernel) rfl ⟨rfl, rfl⟩
    · rw [if_pos h2] at H
      refine xb A [(.iconst 1, 1, 0, 0, .int 1)] (pc' := 24) (ls' := [some (.ref 38), some (.int p1)]) (st' := [.int 1]) (g' := g) (by decide +kernel) rfl ?_
      refine xgoto A (4) 28 (by decide +kernel) ?_
      subst H
      exact xret_i A hR hz (by decide +kernel) rfl ⟨rfl, rfl⟩
def f_X4_oneEndOf_3 (p1 : Int32) (g : xG) : Int32 :=
  xat g 5 10 p1
set_option maxRecDepth 20000 in
theorem c_X4_oneEndOf_3 {S : List xSh} (hS : xpf SH1 S) {g : xG} {p1 : Int32} (out : Int32) (H : f_X4_oneEndOf_3 p1 g = out) : xC mX4_oneEndOf 1 21 0 0 S [.ref 3, .int p1] g S (fun r g' => r = some (.int out) ∧ g' = g) := by
  have H : (xat g 5 10 p1) = out := H
  refine xC.of 4 SH1 [some (.ref 3), some (.int p1)] hS (by decide +kernel) rfl (fun _ _ => Nat.le_of_ble_eq_true rfl) (fun _ _ => rfl) ?_
  intro k A hR hrm hz
  refine xb A [(.aload_n 0, 1, 0, 0, .null), (.getfield 15, 3, 3, 1, .ref 5), (.iload_n 1, 1, 0, 0, .null)] (pc' := 5) (ls' := [some (.ref 3), some (.int p1)]) (st' := [.int p1, .ref 5]) (g' := g) (by decide +kernel) rfl ?_
  refine xcallSN A (ix := 87) (nxt := 8) (host := "NoonRinger") hrm hz [.ref 5, .int p1] [] 8 (c_X11_at (hS _ _ sh_5) (by decide)) ok_X11_at (by decide +kernel) rfl (fun r g1 hq => ?_)
  rw [hq.1, hq.2]
  show xW k S 0 0 8 [some (.ref 3), some (.int p1)] [.int (xat g 5 10 p1)] g
  subst H
  exact xret_i A hR hz (by decide +kernel) rfl ⟨rfl, rfl⟩
def f_X4_otherEndOf_3 (p1 : Int32) (g : xG) : Int32 :=
  xat g 6 10 p1
set_option maxRecDepth 20000 in
theorem c_X4_otherEndOf_3 {S : List xSh} (hS : xpf SH1 S) {g : xG} {p1 : Int32} (out : Int32) (H : f_X4_otherEndOf_3 p1 g = out) : xC mX4_otherEndOf 1 21 0 0 S [.ref 3, .int p1] g S (fun r g' => r = some (.int out) ∧ g' = g) := by
  have H : (xat g 6 10 p1) = out := H
  refine xC.of 4 SH1 [some (.ref 3), some (.int p1)] hS (by decide +kernel) rfl (fun _ _ => Nat.le_of_ble_eq_true rfl) (fun _ _ => rfl) ?_
  intro k A hR hrm hz
  refine xb A [(.aload_n 0, 1, 0, 0, .null), (.getfield 19, 3, 3, 2, .ref 6), (.iload_n 1, 1, 0, 0, .null)] (pc' := 5) (ls' := [some (.ref 3), some (.int p1)]) (st' := [.int p1, .ref 6]) (g' := g) (by decide +kernel) rfl ?_
  refine xcallSN A (ix := 87) (nxt := 8) (host := "NoonRinger") hrm hz [.ref 6, .int p1] [] 8 (c_X11_at (hS _ _ sh_6) (by decide)) ok_X11_at (by decide +kernel) rfl (fun r g1 hq => ?_)
  rw [hq.1, hq.2]
  show xW k S 0 0 8 [some (.ref 3), some (.int p1)] [.int (xat g 6 10 p1)] g
  subst H
  exact xret_i A hR hz (by decide +kernel) rfl ⟨rfl, rfl⟩
def f_X4_milesOf_3 (p1 : Int32) (g : xG) : Int32 :=
  xat g 7 10 p1
set_option maxRecDepth 20000 in
theorem c_X4_milesOf_3 {S : List xSh} (hS : xpf SH1 S) {g : xG} {p1 : Int32} (out : Int32) (H : f_X4_milesOf_3 p1 g = out) : xC mX4_milesOf 1 21 0 0 S [.ref 3, .int p1] g S (fun r g' => r = some (.int out) ∧ g' = g) := by
  have H : (xat g 7 10 p1) = out := H
  refine xC.of 4 SH1 [some (.ref 3), some (.int p1)] hS (by decide +kernel) rfl (fun _ _ => Nat.le_of_ble_eq_true rfl) (fun _ _ => rfl) ?_
  intro k A hR hrm hz
  refine xb A [(.aload_n 0, 1, 0, 0, .null), (.getfield 22, 3, 3, 3, .ref 7), (.iload_n 1, 1, 0, 0, .null)] (pc' := 5) (ls' := [some (.ref 3), some (.int p1)]) (st' := [.int p1, .ref 7]) (g' := g) (by decide +kernel) rfl ?_
  refine xcallSN A (ix := 87) (nxt := 8) (host := "NoonRinger") hrm hz [.ref 7, .int p1] [] 8 (c_X11_at (hS _ _ sh_7) (by decide)) ok_X11_at (by decide +kernel) rfl (fun r g1 hq => ?_)
  rw [hq.1, hq.2]
  show xW k S 0 0 8 [some (.ref 3), some (.int p1)] [.int (xat g 7 10 p1)] g
  subst H
  exact xret_i A hR hz (by decide +kernel) rfl ⟨rfl, rfl⟩
def f_X4_isTown_3 (p1 : Int32) (g : xG) : Int32 :=
  if p1 < 0 then
    0
  else
    if (g.1 3 9) ≤ p1 then
      0
    else
      1
set_option maxRecDepth 20000 in
theorem c_X4_isTown_3 {S : List xSh} (hS : xpf SH1 S) {g : xG} {p1 : Int32} (out : Int32) (H : f_X4_isTown_3 p1 g = out) : xC mX4_isTown 0 0 0 0 S [.ref 3, .int p1] g S (fun r g' => r = some (.int out) ∧ g' = g) := by
  have H : (if p1 < 0 then
  0
else
  if (g.1 3 9) ≤ p1 then
    0
  else
    1) = out := H
  refine xC.of 4 SH1 [some (.ref 3), some (.int p1)] hS (by decide +kernel) rfl (fun _ _ => Nat.le_of_ble_eq_true rfl) (fun _ _ => rfl) ?_
  intro k A hR hrm hz
  refine xb A [(.iload_n 1, 1, 0, 0, .null)] (pc' := 1) (ls' := [some (.ref 3), some (.int p1)]) (st' := [.int p1]) (g' := g) (by decide +kernel) rfl ?_
  refine xif_lt A (15) 16 4 (by decide +kernel) (fun h1 => ?_) (fun h1 => ?_)
  · rw [if_pos h1] at H
    refine xb A [(.iconst 0, 1, 0, 0, .int 0)] (pc' := 17) (ls' := [some (.ref 3), some (.int p1)]) (st' := [.int 0]) (g' := g) (by decide +kernel) rfl ?_
    subst H
    exact xret_i A hR hz (by decide +kernel) rfl ⟨rfl, rfl⟩
  · rw [if_neg h1] at H
    refine xb A [(.iload_n 1, 1, 0, 0, .null), (.aload_n 0, 1, 0, 0, .null), (.getfield 44, 3, 3, 9, .int 0)] (pc' := 9) (ls' := [some (.ref 3), some (.int p1)]) (st' := [.int (g.1 3 9), .int p1]) (g' := g) (by decide +kernel) rfl ?_
    refine xic_ge A (7) 16 12 (by decide +kernel) (fun h2 => ?_) (fun h2 => ?_)
    · rw [if_pos h2] at H
      refine xb A [(.iconst 0, 1, 0, 0, .int 0)] (pc' := 17) (ls' := [some (.ref 3), some (.int p1)]) (st' := [.int 0]) (g' := g) (by decide +kernel) rfl ?_
      subst H
      exact xret_i A hR hz (by decide +kernel) rfl ⟨rfl, rfl⟩
    · rw [if_neg h2] at H
      refine xb A [(.iconst 1, 1, 0, 0, .int 1)] (pc' := 13) (ls' := [some (.ref 3), some (.int p1)]) (st' := [.int 1]) (g' := g) (by decide +kernel) rfl ?_
      refine xgoto A (4) 17 (by decide +kernel) ?_
      subst H
      exact xret_i A hR hz (by decide +kernel) rfl ⟨rfl, rfl⟩
def f_X10_between_38 (p1 : Int32) (p2 : Int32) (g : xG) : Int32 :=
  if (f_X4_isTown_3 p1 g) = 0 then
    999
  else
    if (f_X4_isTown_3 p2 g) = 0 then
      999
    else
      xat g 39 49 ((p1 * 7) + p2)
set_option maxRecDepth 20000 in
theorem c_X10_between_38 {S : List xSh} (hS : xpf SH1 S) {g : xG} {p1 : Int32} {p2 : Int32} (out : Int32) (H : f_X10_between_38 p1 p2 g = out) : xC mX10_between 1 21 0 0 S [.ref 38, .int p1, .int p2] g S (fun r g' => r = some (.int out) ∧ g' = g) := by
  have H : (if (f_X4_isTown_3 p1 g) = 0 then
  999
else
  if (f_X4_isTown_3 p2 g) = 0 then
    999
  else
    xat g 39 49 ((p1 * 7) + p2)) = out := H
  refine xC.of 10 SH1 [some (.ref 38), some (.int p1), some (.int p2)] hS (by decide +kernel) rfl (fun _ _ => Nat.le_of_ble_eq_true rfl) (fun _ _ => rfl) ?_
  intro k A hR hrm hz
  refine xb A [(.aload_n 0, 1, 0, 0, .null), (.getfield 15, 3, 38, 0, .ref 3), (.iload_n 1, 1, 0, 0, .null)] (pc' := 5) (ls' := [some (.ref 38), some (.int p1), some (.int p2)]) (st' := [.int p1, .ref 3]) (g' := g) (by decide +kernel) rfl ?_
  refine xcallV A (ix := 58) (nxt := 8) hrm hz [.int p1] [] 533 (c_X4_isTown_3 hS _ rfl) ok_X4_isTown (by decide +kernel) rfl (fun r g1 hq => ?_)
  rw [hq.1, hq.2]
  show xW k S 0 0 8 [some (.ref 38), some (.int p1), some (.int p2)] [.int (f_X4_isTown_3 p1 g)] g
  refine xif_eq A (30) 38 11 (by decide +kernel) (fun h1 => ?_) (fun h1 => ?_)
  · rw [if_pos h1] at H
    refine xb A [(.sipush 999, 3, 0, 0, .int 999)] (pc' := 41) (ls' := [some (.ref 38), some (.int p1), some (.int p2)]) (st' := [.int 999]) (g' := g) (by decide +kernel) rfl ?_
    subst H
    exact xret_i A hR hz (by decide +kernel) rfl ⟨rfl, rfl⟩
  · rw [if_neg h1] at H
    refine xb A [(.aload_n 0, 1, 0, 0, .null), (.getfield 15, 3, 38, 0, .ref 3), (.iload_n 2, 1, 0, 0, .null)] (pc' := 16) (ls' := [some (.ref 38), some (.int p1), some (.int p2)]) (st' := [.int p2, .ref 3]) (g' := g) (by decide +kernel) rfl ?_
    refine xcallV A (ix := 58) (nxt := 19) hrm hz [.int p2] [] 533 (c_X4_isTown_3 hS _ rfl) ok_X4_isTown (by decide +kernel) rfl (fun r g1 hq => ?_)
    rw [hq.1, hq.2]
    show xW k S 0 0 19 [some (.ref 38), some (.int p1), some (.int p2)] [.int (f_X4_isTown_3 p2 g)] g
    refine xif_eq A (19) 38 22 (by decide +kernel) (fun h2 => ?_) (fun h2 => ?_)
    · rw [if_pos h2] at H
      refine xb A [(.sipush 999, 3, 0, 0, .int 999)] (pc' := 41) (ls' := [some (.ref 38), some (.int p1), some (.int p2)]) (st' := [.int 999]) (g' := g) (by decide +kernel) rfl ?_
      subst H
      exact xret_i A hR hz (by decide +kernel) rfl ⟨rfl, rfl⟩
    · rw [if_neg h2] at H
      refine xb A [(.aload_n 0, 1, 0, 0, .null), (.getfield 9, 3, 38, 1, .ref 39), (.iload_n 1, 1, 0, 0, .null), (.bipush 7, 2, 0, 0, .int 7), (.imul, 1, 0, 0, .null), (.iload_n 2, 1, 0, 0, .null), (.iadd, 1, 0, 0, .null)] (pc' := 32) (ls' := [some (.ref 38), some (.int p1), some (.int p2)]) (st' := [.int ((p1 * 7) + p2), .ref 39]) (g' := g) (by decide +kernel) rfl ?_
      refine xcallSN A (ix := 61) (nxt := 35) (host := "NoonRinger") hrm hz [.ref 39, .int ((p1 * 7) + p2)] [] 11 (c_X11_at (hS _ _ sh_39) (by decide)) ok_X11_at (by decide +kernel) rfl (fun r g1 hq => ?_)
      rw [hq.1, hq.2]
      show xW k S 0 0 35 [some (.ref 38), some (.int p1), some (.int p2)] [.int (xat g 39 49 ((p1 * 7) + p2))] g
      refine xgoto A (6) 41 (by decide +kernel) ?_
      subst H
      exact xret_i A hR hz (by decide +kernel) rfl ⟨rfl, rfl⟩
def fp_X10_shorten_38 : List (Nat × Option Nat) := [(39, none)]
def f_X10_shorten_38 (p1 : Int32) (p2 : Int32) (p3 : Int32) (g : xG) : xG :=
  if (f_X10_between_38 p1 p2 g) ≤ p3 then
    g
  else
    xl (xput g 39 49 ((p1 * 7) + p2) p3) fun w1 =>
    w1
set_option maxRecDepth 20000 in
theorem c_X10_shorten_38 {S : List xSh} (hS : xpf SH1 S) {g : xG} {p1 : Int32} {p2 : Int32} {p3 : Int32} (out : xG) (H : f_X10_shorten_38 p1 p2 p3 g = out) : xC mX10_shorten 2 43 0 0 S [.ref 38, .int p1, .int p2, .int p3] g S (fun r g' => r = none ∧ g' = out) := by
  have H : (if (f_X10_between_38 p1 p2 g) ≤ p3 then
  g
else
  xl (xput g 39 49 ((p1 * 7) + p2) p3) fun w1 =>
  w1) = out := H
  refine xC.of 10 SH1 [some (.ref 38), some (.int p1), some (.int p2), some (.int p3)] hS (by decide +kernel) rfl (fun _ _ => Nat.le_of_ble_eq_true rfl) (fun _ _ => rfl) ?_
  intro k A hR hrm hz
  refine xb A [(.iload_n 3, 1, 0, 0, .null), (.aload_n 0, 1, 0, 0, .null), (.iload_n 1, 1, 0, 0, .null), (.iload_n 2, 1, 0, 0, .null)] (pc' := 4) (ls' := [some (.ref 38), some (.int p1), some (.int p2), some (.int p3)]) (st' := [.int p2, .int p1, .ref 38, .int p3]) (g' := g) (by decide +kernel) rfl ?_
  refine xcallV A (ix := 50) (nxt := 7) hrm hz [.int p1, .int p2] [.int p3] 529 (c_X10_between_38 hS _ rfl) ok_X10_between (by decide +kernel) rfl (fun r g1 hq => ?_)
  rw [hq.1, hq.2]
  show xW k S 0 0 7 [some (.ref 38), some (.int p1), some (.int p2), some (.int p3)] [.int (f_X10_between_38 p1 p2 g), .int p3] g
  refine xic_ge A (17) 24 10 (by decide +kernel) (fun h1 => ?_) (fun h1 => ?_)
  · rw [if_pos h1] at H
    subst H
    exact xret_v A hR hz (by decide +kernel) ⟨rfl, rfl⟩
  · rw [if_neg h1] at H
    refine xb A [(.aload_n 0, 1, 0, 0, .null), (.getfield 9, 3, 38, 1, .ref 39), (.iload_n 1, 1, 0, 0, .null), (.bipush 7, 2, 0, 0, .int 7), (.imul, 1, 0, 0, .null), (.iload_n 2, 1, 0, 0, .null), (.iadd, 1, 0, 0, .null), (.iload_n 3, 1, 0, 0, .null)] (pc' := 21) (ls' := [some (.ref 38), some (.int p1), some (.int p2), some (.int p3)]) (st' := [.int p3, .int ((p1 * 7) + p2), .ref 39]) (g' := g) (by decide +kernel) rfl ?_
    obtain ⟨w1, e1, H⟩ := xl_elim H
    refine xcallSN A (ix := 54) (nxt := 24) (host := "NoonRinger") hrm hz [.ref 39, .int ((p1 * 7) + p2), .int p3] [] 12 (c_X11_put (hS _ _ sh_39) (by decide)) ok_X11_put (by decide +kernel) rfl (fun r g1 hq => ?_)
    rw [hq.1, hq.2]
    rw [e1]
    show xW k S 0 0 24 [some (.ref 38), some (.int p1), some (.int p2), some (.int p3)] [] w1
    subst H
    exact xret_v A hR hz (by decide +kernel) ⟨rfl, rfl⟩
theorem fr_X10_shorten_38 {p1 : Int32} {p2 : Int32} {p3 : Int32} {g : xG} (out : xG) (H : f_X10_shorten_38 p1 p2 p3 g = out) : xfrm fp_X10_shorten_38 g (out) := by
  have H : (if (f_X10_between_38 p1 p2 g) ≤ p3 then
  g
else
  xl (xput g 39 49 ((p1 * 7) + p2) p3) fun w1 =>
  w1) = out := H
  by_cases h1 : (f_X10_between_38 p1 p2 g) ≤ p3
  · rw [if_pos h1] at H
    subst H
    exact xfrm.rf
  · rw [if_neg h1] at H
    obtain ⟨w1, e1, H⟩ := xl_elim H
    have hf1 : xfrm fp_X10_shorten_38 g (w1) := xfrm_xput xfrm.rf rfl e1
    subst H
    exact hf1
def f_X4_towns_3  (g : xG) : Int32 :=
  g.1 3 9
set_option maxRecDepth 20000 in
theorem c_X4_towns_3 {S : List xSh} (hS : xpf SH1 S) {g : xG}  (out : Int32) (H : f_X4_towns_3  g = out) : xC mX4_towns 0 0 0 0 S [.ref 3] g S (fun r g' => r = some (.int out) ∧ g' = g) := by
  have H : (g.1 3 9) = out := H
  refine xC.of 4 SH1 [some (.ref 3)] hS (by decide +kernel) rfl (fun _ _ => Nat.le_of_ble_eq_true rfl) (fun _ _ => rfl) ?_
  intro k A hR hrm hz
  refine xb A [(.aload_n 0, 1, 0, 0, .null), (.getfield 44, 3, 3, 9, .int 0)] (pc' := 4) (ls' := [some (.ref 3)]) (st' := [.int (g.1 3 9)]) (g' := g) (by decide +kernel) rfl ?_
  subst H
  exact xret_i A hR hz (by decide +kernel) rfl ⟨rfl, rfl⟩
def fp_X10_measure_38 : List (Nat × Option Nat) := [(38, some 2), (39, none)]
def f_X10_measure_38_158 (k131 : Int32 → xG → Option (xG)) (k144 : Int32 → Int32 → xG → Option (xG)) : Nat → Int32 → Int32 → Int32 → xG → Option (xG)
  | 0, _, _, _, _ => none
  | n + 1, l2, l3, l4, g =>
    if (f_X4_towns_3 g) ≤ l4 then
      k144 l2 (l3 + 1) g
    else
      xl (f_X10_shorten_38 l3 l4 ((f_X10_between_38 l3 l2 g) + (f_X10_between_38 l2 l4 g)) g) fun w1 =>
      f_X10_measure_38_158 k131 k144 n l2 l3 (l4 + 1) w1
def f_X10_measure_38_144 (k131 : Int32 → xG → Option (xG)) : Nat → Int32 → Int32 → xG → Option (xG)
  | 0, _, _, _ => none
  | n + 1, l2, l3, g =>
    if (f_X4_towns_3 g) ≤ l3 then
      k131 (l2 + 1) g
    else
      f_X10_measure_38_158 k131 (f_X10_measure_38_144 k131 n) xN l2 l3 0 g
def f_X10_measure_38_131  : Nat → Int32 → xG → Option (xG)
  | 0, _, _ => none
  | n + 1, l2, g =>
    if (f_X4_towns_3 g) ≤ l2 then
      some g
    else
      f_X10_measure_38_144 (f_X10_measure_38_131 n) xN l2 0 g
def f_X10_measure_38_48  : Nat → Int32 → xG → Option (xG)
  | 0, _, _ => none
  | n + 1, l2, g =>
    if (f_X4_roads_3 g) ≤ l2 then
      f_X10_measure_38_131 xN 0 g
    else
      if (f_X10_isOpen_38 l2 g) = 0 then
        f_X10_measure_38_48 n (l2 + 1) g
      else
        xl (f_X10_shorten_38 (f_X4_oneEndOf_3 l2 g) (f_X4_otherEndOf_3 l2 g) (f_X4_milesOf_3 l2 g) g) fun w2 =>
        xl (f_X10_shorten_38 (f_X4_otherEndOf_3 l2 w2) (f_X4_oneEndOf_3 l2 w2) (f_X4_milesOf_3 l2 w2) w2) fun w3 =>
        f_X10_measure_38_48 n (l2 + 1) w3
def f_X10_measure_38_7  : Nat → Int32 → xG → Option (xG)
  | 0, _, _ => none
  | n + 1, l2, g =>
    if 49 ≤ l2 then
      f_X10_measure_38_48 xN 0 g
    else
      xg (¬ (7 : Int32) = 0) (
        xg (¬ (7 : Int32) = 0) (
          if (l2 / 7) = (l2 - l2 / 7 * 7) then
            xg (¬ (l2 < 0 ∨ 49 ≤ l2.toNatClampNeg)) (
              f_X10_measure_38_7 n (l2 + 1) (xupd g.1 39 l2.toNatClampNeg 0, g.2))
          else
            xg (¬ (l2 < 0 ∨ 49 ≤ l2.toNatClampNeg)) (
              f_X10_measure_38_7 n (l2 + 1) (xupd g.1 39 l2.toNatClampNeg 999, g.2))))
def f_X10_measure_38 (p1 : Int32) (g : xG) : Option (xG) :=
  f_X10_measure_38_7 xN 0 (xupd g.1 38 2 p1, g.2)
set_option maxRecDepth 20000 in
theorem t_X10_measure_38_158 {k : xK} {S : List xSh} {out : xG} (hS : xpf SH1 S) (A : xAt k mX10_measure.2.1 10 SH1 S) (hR : xRet k 0 0 S (fun r g' => r = none ∧ g' = out) mX10_measure.2.2.2) (hrm : xrm k = { frames := 3, cells := 0, slots := 0, locals := 66 }) (hz : xhs k = xb0 k + S.length) {k131 : Int32 → xG → Option (xG)} {k144 : Int32 → Int32 → xG → Option (xG)} (hk131 : ∀ (l2 : Int32) (g : xG), k131 l2 g = some out → xW k S 0 0 131 [some (.ref 38), none, some (.int l2), none, none] [] g) (hk144 : ∀ (l2 : Int32) (l3 : Int32) (g : xG), k144 l2 l3 g = some out → xW k S 0 0 144 [some (.ref 38), none, some (.int l2), some (.int l3), none] [] g) : ∀ (n : Nat) (l2 : Int32) (l3 : Int32) (l4 : Int32) (g : xG), f_X10_measure_38_158 k131 k144 n l2 l3 l4 g = some out → xW k S 0 0 158 [some (.ref 38), none, some (.int l2), some (.int l3), some (.int l4)] [] g := by
  intro n
  induction n with
  | zero => intro l2 l3 l4 g H; exact absurd H (by simp [f_X10_measure_38_158])
  | succ n ih =>
    intro l2 l3 l4 g H
    have H : (if (f_X4_towns_3 g) ≤ l4 then
  k144 l2 (l3 + 1) g
else
  xl (f_X10_shorten_38 l3 l4 ((f_X10_between_38 l3 l2 g) + (f_X10_between_38 l2 l4 g)) g) fun w1 =>
  f_X10_measure_38_158 k131 k144 n l2 l3 (l4 + 1) w1) = some out := H
    refine xb A [(.iload 4, 2, 0, 0, .null), (.aload_n 0, 1, 0, 0, .null), (.getfield 15, 3, 38, 0, .ref 3)] (pc' := 164) (ls' := [some (.ref 38), none, some (.int l2), some (.int l3), some (.int l4)]) (st' := [.ref 3, .int l4]) (g' := g) (by decide +kernel) rfl ?_
    refine xcallV A (ix := 47) (nxt := 167) hrm hz [] [.int l4] 539 (c_X4_towns_3 hS _ rfl) ok_X4_towns (by decide +kernel) rfl (fun r g1 hq => ?_)
    rw [hq.1, hq.2]
    show xW k S 0 0 167 [some (.ref 38), none, some (.int l2), some (.int l3), some (.int l4)] [.int (f_X4_towns_3 g), .int l4] g
    refine xic_ge A (30) 197 170 (by decide +kernel) (fun h5 => ?_) (fun h5 => ?_)
    · rw [if_pos h5] at H
      refine xb A [(.iinc 3 1, 3, 0, 0, .null)] (pc' := 200) (ls' := [some (.ref 38), none, some (.int l2), some (.int (l3 + 1)), some (.int l4)]) (st' := []) (g' := g) (by decide +kernel) rfl ?_
      refine xgoto A (-56) 144 (by decide +kernel) ?_
      refine xweak (ls' := [some (.ref 38), none, some (.int l2), some (.int (l3 + 1)), none]) (by exact ⟨rfl, ⟨rfl, ⟨rfl, trivial⟩⟩⟩) ?_
      exact hk144 _ _ _ H
    · rw [if_neg h5] at H
      refine xb A [(.aload_n 0, 1, 0, 0, .null), (.iload_n 3, 1, 0, 0, .null), (.iload 4, 2, 0, 0, .null), (.aload_n 0, 1, 0, 0, .null), (.iload_n 3, 1, 0, 0, .null), (.iload_n 2, 1, 0, 0, .null)] (pc' := 177) (ls' := [some (.ref 38), none, some (.int l2), some (.int l3), some (.int l4)]) (st' := [.int l2, .int l3, .ref 38, .int l4, .int l3, .ref 38]) (g' := g) (by decide +kernel) rfl ?_
      refine xcallV A (ix := 50) (nxt := 180) hrm hz [.int l3, .int l2] [.int l4, .int l3, .ref 38] 529 (c_X10_between_38 hS _ rfl) ok_X10_between (by decide +kernel) rfl (fun r g1 hq => ?_)
      rw [hq.1, hq.2]
      show xW k S 0 0 180 [some (.ref 38), none, some (.int l2), some (.int l3), some (.int l4)] [.int (f_X10_between_38 l3 l2 g), .int l4, .int l3, .ref 38] g
      refine xb A [(.aload_n 0, 1, 0, 0, .null), (.iload_n 2, 1, 0, 0, .null), (.iload 4, 2, 0, 0, .null)] (pc' := 184) (ls' := [some (.ref 38), none, some (.int l2), some (.int l3), some (.int l4)]) (st' := [.int l4, .int l2, .ref 38, .int (f_X10_between_38 l3 l2 g), .int l4, .int l3, .ref 38]) (g' := g) (by decide +kernel) rfl ?_
      refine xcallV A (ix := 50) (nxt := 187) hrm hz [.int l2, .int l4] [.int (f_X10_between_38 l3 l2 g), .int l4, .int l3, .ref 38] 529 (c_X10_between_38 hS _ rfl) ok_X10_between (by decide +kernel) rfl (fun r g1 hq => ?_)
      rw [hq.1, hq.2]
      show xW k S 0 0 187 [some (.ref 38), none, some (.int l2), some (.int l3), some (.int l4)] [.int (f_X10_between_38 l2 l4 g), .int (f_X10_between_38 l3 l2 g), .int l4, .int l3, .ref 38] g
      refine xb A [(.iadd, 1, 0, 0, .null)] (pc' := 188) (ls' := [some (.ref 38), none, some (.int l2), some (.int l3), some (.int l4)]) (st' := [.int ((f_X10_between_38 l3 l2 g) + (f_X10_between_38 l2 l4 g)), .int l4, .int l3, .ref 38]) (g' := g) (by decide +kernel) rfl ?_
      obtain ⟨w1, e1, H⟩ := xl_elim H
      refine xcallV A (ix := 43) (nxt := 191) hrm hz [.int l3, .int l4, .int ((f_X10_between_38 l3 l2 g) + (f_X10_between_38 l2 l4 g))] [] 525 (c_X10_shorten_38 hS _ e1) ok_X10_shorten (by decide +kernel) rfl (fun r g1 hq => ?_)
      rw [hq.1, hq.2]
      show xW k S 0 0 191 [some (.ref 38), none, some (.int l2), some (.int l3), some (.int l4)] [] w1
      refine xb A [(.iinc 4 1, 3, 0, 0, .null)] (pc' := 194) (ls' := [some (.ref 38), none, some (.int l2), some (.int l3), some (.int (l4 + 1))]) (st' := []) (g' := w1) (by decide +kernel) rfl ?_
      refine xgoto A (-36) 158 (by decide +kernel) ?_
      exact ih _ _ _ _ H
theorem fr_X10_measure_38_158 {k131 : Int32 → xG → Option (xG)} {k144 : Int32 → Int32 → xG → Option (xG)} (hk131 : ∀ (l2 : Int32) (g : xG) (out : xG), k131 l2 g = some out → xfrm fp_X10_measure_38 g (out)) (hk144 : ∀ (l2 : Int32) (l3 : Int32) (g : xG) (out : xG), k144 l2 l3 g = some out → xfrm fp_X10_measure_38 g (out)) : ∀ (n : Nat) (l2 : Int32) (l3 : Int32) (l4 : Int32) (g : xG) (out : xG), f_X10_measure_38_158 k131 k144 n l2 l3 l4 g = some out → xfrm fp_X10_measure_38 g (out) := by
  intro n
  induction n with
  | zero => intro l2 l3 l4 g out H; exact absurd H (by simp [f_X10_measure_38_158])
  | succ n ih =>
    intro l2 l3 l4 g out H
    have H : (if (f_X4_towns_3 g) ≤ l4 then
  k144 l2 (l3 + 1) g
else
  xl (f_X10_shorten_38 l3 l4 ((f_X10_between_38 l3 l2 g) + (f_X10_between_38 l2 l4 g)) g) fun w1 =>
  f_X10_measure_38_158 k131 k144 n l2 l3 (l4 + 1) w1) = some out := H
    by_cases h5 : (f_X4_towns_3 g) ≤ l4
    · rw [if_pos h5] at H
      exact xfrm.tr xfrm.rf (hk144 _ _ _ _ H) rfl
    · rw [if_neg h5] at H
      obtain ⟨w1, e1, H⟩ := xl_elim H
      have hf2 : xfrm fp_X10_measure_38 g (w1) := xfrm.tr xfrm.rf (fr_X10_shorten_38 _ e1) rfl
      exact xfrm.tr hf2 (ih _ _ _ _ _ H) rfl
set_option maxRecDepth 20000 in
theorem t_X10_measure_38_144 {k : xK} {S : List xSh} {out : xG} (hS : xpf SH1 S) (A : xAt k mX10_measure.2.1 10 SH1 S) (hR : xRet k 0 0 S (fun r g' => r = none ∧ g' = out) mX10_measure.2.2.2) (hrm : xrm k = { frames := 3, cells := 0, slots := 0, locals := 66 }) (hz : xhs k = xb0 k + S.length) {k131 : Int32 → xG → Option (xG)} (hk131 : ∀ (l2 : Int32) (g : xG), k131 l2 g = some out → xW k S 0 0 131 [some (.ref 38), none, some (.int l2), none, none] [] g) : ∀ (n : Nat) (l2 : Int32) (l3 : Int32) (g : xG), f_X10_measure_38_144 k131 n l2 l3 g = some out → xW k S 0 0 144 [some (.ref 38), none, some (.int l2), some (.int l3), none] [] g := by
  intro n
  induction n with
  | zero => intro l2 l3 g H; exact absurd H (by simp [f_X10_measure_38_144])
  | succ n ih =>
    intro l2 l3 g H
    have H : (if (f_X4_towns_3 g) ≤ l3 then
  k131 (l2 + 1) g
else
  f_X10_measure_38_158 k131 (f_X10_measure_38_144 k131 n) xN l2 l3 0 g) = some out := H
    refine xb A [(.iload_n 3, 1, 0, 0, .null), (.aload_n 0, 1, 0, 0, .null), (.getfield 15, 3, 38, 0, .ref 3)] (pc' := 149) (ls' := [some (.ref 38), none, some (.int l2), some (.int l3), none]) (st' := [.ref 3, .int l3]) (g' := g) (by decide +kernel) rfl ?_
    refine xcallV A (ix := 47) (nxt := 152) hrm hz [] [.int l3] 539 (c_X4_towns_3 hS _ rfl) ok_X4_towns (by decide +kernel) rfl (fun r g1 hq => ?_)
    rw [hq.1, hq.2]
    show xW k S 0 0 152 [some (.ref 38), none, some (.int l2), some (.int l3), none] [.int (f_X4_towns_3 g), .int l3] g
    refine xic_ge A (51) 203 155 (by decide +kernel) (fun h4 => ?_) (fun h4 => ?_)
    · rw [if_pos h4] at H
      refine xb A [(.iinc 2 1, 3, 0, 0, .null)] (pc' := 206) (ls' := [some (.ref 38), none, some (.int (l2 + 1)), some (.int l3), none]) (st' := []) (g' := g) (by decide +kernel) rfl ?_
      refine xgoto A (-75) 131 (by decide +kernel) ?_
      refine xweak (ls' := [some (.ref 38), none, some (.int (l2 + 1)), none, none]) (by exact ⟨rfl, ⟨rfl, trivial⟩⟩) ?_
      exact hk131 _ _ H
    · rw [if_neg h4] at H
      refine xb A [(.iconst 0, 1, 0, 0, .int 0), (.istore 4, 2, 0, 0, .null)] (pc' := 158) (ls' := [some (.ref 38), none, some (.int l2), some (.int l3), some (.int 0)]) (st' := []) (g' := g) (by decide +kernel) rfl ?_
      exact t_X10_measure_38_158 hS A hR hrm hz hk131 ih _ _ _ _ _ H
theorem fr_X10_measure_38_144 {k131 : Int32 → xG → Option (xG)} (hk131 : ∀ (l2 : Int32) (g : xG) (out : xG), k131 l2 g = some out → xfrm fp_X10_measure_38 g (out)) : ∀ (n : Nat) (l2 : Int32) (l3 : Int32) (g : xG) (out : xG), f_X10_measure_38_144 k131 n l2 l3 g = some out → xfrm fp_X10_measure_38 g (out) := by
  intro n
  induction n with
  | zero => intro l2 l3 g out H; exact absurd H (by simp [f_X10_measure_38_144])
  | succ n ih =>
    intro l2 l3 g out H
    have H : (if (f_X4_towns_3 g) ≤ l3 then
  k131 (l2 + 1) g
else
  f_X10_measure_38_158 k131 (f_X10_measure_38_144 k131 n) xN l2 l3 0 g) = some out := H
    by_cases h4 : (f_X4_towns_3 g) ≤ l3
    · rw [if_pos h4] at H
      exact xfrm.tr xfrm.rf (hk131 _ _ _ H) rfl
    · rw [if_neg h4] at H
      exact xfrm.tr xfrm.rf (fr_X10_measure_38_158 hk131 ih _ _ _ _ _ _ H) rfl
set_option maxRecDepth 20000 in
theorem t_X10_measure_38_131 {k : xK} {S : List xSh} {out : xG} (hS : xpf SH1 S) (A : xAt k mX10_measure.2.1 10 SH1 S) (hR : xRet k 0 0 S (fun r g' => r = none ∧ g' = out) mX10_measure.2.2.2) (hrm : xrm k = { frames := 3, cells := 0, slots := 0, locals := 66 }) (hz : xhs k = xb0 k + S.length)   : ∀ (n : Nat) (l2 : Int32) (g : xG), f_X10_measure_38_131 n l2 g = some out → xW k S 0 0 131 [some (.ref 38), none, some (.int l2), none, none] [] g := by
  intro n
  induction n with
  | zero => intro l2 g H; exact absurd H (by simp [f_X10_measure_38_131])
  | succ n ih =>
    intro l2 g H
    have H : (if (f_X4_towns_3 g) ≤ l2 then
  some g
else
  f_X10_measure_38_144 (f_X10_measure_38_131 n) xN l2 0 g) = some out := H
    refine xb A [(.iload_n 2, 1, 0, 0, .null), (.aload_n 0, 1, 0, 0, .null), (.getfield 15, 3, 38, 0, .ref 3)] (pc' := 136) (ls' := [some (.ref 38), none, some (.int l2), none, none]) (st' := [.ref 3, .int l2]) (g' := g) (by decide +kernel) rfl ?_
    refine xcallV A (ix := 47) (nxt := 139) hrm hz [] [.int l2] 539 (c_X4_towns_3 hS _ rfl) ok_X4_towns (by decide +kernel) rfl (fun r g1 hq => ?_)
    rw [hq.1, hq.2]
    show xW k S 0 0 139 [some (.ref 38), none, some (.int l2), none, none] [.int (f_X4_towns_3 g), .int l2] g
    refine xic_ge A (70) 209 142 (by decide +kernel) (fun h3 => ?_) (fun h3 => ?_)
    · rw [if_pos h3] at H
      obtain rfl := Option.some.inj H
      exact xret_v A hR hz (by decide +kernel) ⟨rfl, rfl⟩
    · rw [if_neg h3] at H
      refine xb A [(.iconst 0, 1, 0, 0, .int 0), (.istore_n 3, 1, 0, 0, .null)] (pc' := 144) (ls' := [some (.ref 38), none, some (.int l2), some (.int 0), none]) (st' := []) (g' := g) (by decide +kernel) rfl ?_
      exact t_X10_measure_38_144 hS A hR hrm hz ih _ _ _ _ H
theorem fr_X10_measure_38_131   : ∀ (n : Nat) (l2 : Int32) (g : xG) (out : xG), f_X10_measure_38_131 n l2 g = some out → xfrm fp_X10_measure_38 g (out) := by
  intro n
  induction n with
  | zero => intro l2 g out H; exact absurd H (by simp [f_X10_measure_38_131])
  | succ n ih =>
    intro l2 g out H
    have H : (if (f_X4_towns_3 g) ≤ l2 then
  some g
else
  f_X10_measure_38_144 (f_X10_measure_38_131 n) xN l2 0 g) = some out := H
    by_cases h3 : (f_X4_towns_3 g) ≤ l2
    · rw [if_pos h3] at H
      obtain rfl := Option.some.inj H
      exact xfrm.rf
    · rw [if_neg h3] at H
      exact xfrm.tr xfrm.rf (fr_X10_measure_38_144 ih _ _ _ _ _ H) rfl
set_option maxRecDepth 20000 in
theorem t_X10_measure_38_48 {k : xK} {S : List xSh} {out : xG} (hS : xpf SH1 S) (A : xAt k mX10_measure.2.1 10 SH1 S) (hR : xRet k 0 0 S (fun r g' => r = none ∧ g' = out) mX10_measure.2.2.2) (hrm : xrm k = { frames := 3, cells := 0, slots := 0, locals := 66 }) (hz : xhs k = xb0 k + S.length)   : ∀ (n : Nat) (l2 : Int32) (g : xG), f_X10_measure_38_48 n l2 g = some out → xW k S 0 0 48 [some (.ref 38), none, some (.int l2), none, none] [] g := by
  intro n
  induction n with
  | zero => intro l2 g H; exact absurd H (by simp [f_X10_measure_38_48])
  | succ n ih =>
    intro l2 g H
    have H : (if (f_X4_roads_3 g) ≤ l2 then
  f_X10_measure_38_131 xN 0 g
else
  if (f_X10_isOpen_38 l2 g) = 0 then
    f_X10_measure_38_48 n (l2 + 1) g
  else
    xl (f_X10_shorten_38 (f_X4_oneEndOf_3 l2 g) (f_X4_otherEndOf_3 l2 g) (f_X4_milesOf_3 l2 g) g) fun w2 =>
    xl (f_X10_shorten_38 (f_X4_otherEndOf_3 l2 w2) (f_X4_oneEndOf_3 l2 w2) (f_X4_milesOf_3 l2 w2) w2) fun w3 =>
    f_X10_measure_38_48 n (l2 + 1) w3) = some out := H
    refine xb A [(.iload_n 2, 1, 0, 0, .null), (.aload_n 0, 1, 0, 0, .null), (.getfield 15, 3, 38, 0, .ref 3)] (pc' := 53) (ls' := [some (.ref 38), none, some (.int l2), none, none]) (st' := [.ref 3, .int l2]) (g' := g) (by decide +kernel) rfl ?_
    refine xcallV A (ix := 23) (nxt := 56) hrm hz [] [.int l2] 498 (c_X4_roads_3 hS _ rfl) ok_X4_roads (by decide +kernel) rfl (fun r g1 hq => ?_)
    rw [hq.1, hq.2]
    show xW k S 0 0 56 [some (.ref 38), none, some (.int l2), none, none] [.int (f_X4_roads_3 g), .int l2] g
    refine xic_ge A (73) 129 59 (by decide +kernel) (fun h2 => ?_) (fun h2 => ?_)
    · rw [if_pos h2] at H
      refine xb A [(.iconst 0, 1, 0, 0, .int 0), (.istore_n 2, 1, 0, 0, .null)] (pc' := 131) (ls' := [some (.ref 38), none, some (.int 0), none, none]) (st' := []) (g' := g) (by decide +kernel) rfl ?_
      exact t_X10_measure_38_131 hS A hR hrm hz _ _ _ H
    · rw [if_neg h2] at H
      refine xb A [(.aload_n 0, 1, 0, 0, .null), (.iload_n 2, 1, 0, 0, .null)] (pc' := 61) (ls' := [some (.ref 38), none, some (.int l2), none, none]) (st' := [.int l2, .ref 38]) (g' := g) (by decide +kernel) rfl ?_
      refine xcallV A (ix := 29) (nxt := 64) hrm hz [.int l2] [] 502 (c_X10_isOpen_38 hS _ rfl) ok_X10_isOpen (by decide +kernel) rfl (fun r g1 hq => ?_)
      rw [hq.1, hq.2]
      show xW k S 0 0 64 [some (.ref 38), none, some (.int l2), none, none] [.int (f_X10_isOpen_38 l2 g)] g
      refine xif_eq A (59) 123 67 (by decide +kernel) (fun h6 => ?_) (fun h6 => ?_)
      · rw [if_pos h6] at H
        refine xb A [(.iinc 2 1, 3, 0, 0, .null)] (pc' := 126) (ls' := [some (.ref 38), none, some (.int (l2 + 1)), none, none]) (st' := []) (g' := g) (by decide +kernel) rfl ?_
        refine xgoto A (-78) 48 (by decide +kernel) ?_
        exact ih _ _ H
      · rw [if_neg h6] at H
        refine xb A [(.aload_n 0, 1, 0, 0, .null), (.aload_n 0, 1, 0, 0, .null), (.getfield 15, 3, 38, 0, .ref 3), (.iload_n 2, 1, 0, 0, .null)] (pc' := 73) (ls' := [some (.ref 38), none, some (.int l2), none, none]) (st' := [.int l2, .ref 3, .ref 38]) (g' := g) (by decide +kernel) rfl ?_
        refine xcallV A (ix := 33) (nxt := 76) hrm hz [.int l2] [.ref 38] 513 (c_X4_oneEndOf_3 hS _ rfl) ok_X4_oneEndOf (by decide +kernel) rfl (fun r g1 hq => ?_)
        rw [hq.1, hq.2]
        show xW k S 0 0 76 [some (.ref 38), none, some (.int l2), none, none] [.int (f_X4_oneEndOf_3 l2 g), .ref 38] g
        refine xb A [(.aload_n 0, 1, 0, 0, .null), (.getfield 15, 3, 38, 0, .ref 3), (.iload_n 2, 1, 0, 0, .null)] (pc' := 81) (ls' := [some (.ref 38), none, some (.int l2), none, none]) (st' := [.int l2, .ref 3, .int (f_X4_oneEndOf_3 l2 g), .ref 38]) (g' := g) (by decide +kernel) rfl ?_
        refine xcallV A (ix := 37) (nxt := 84) hrm hz [.int l2] [.int (f_X4_oneEndOf_3 l2 g), .ref 38] 517 (c_X4_otherEndOf_3 hS _ rfl) ok_X4_otherEndOf (by decide +kernel) rfl (fun r g1 hq => ?_)
        rw [hq.1, hq.2]
        show xW k S 0 0 84 [some (.ref 38), none, some (.int l2), none, none] [.int (f_X4_otherEndOf_3 l2 g), .int (f_X4_oneEndOf_3 l2 g), .ref 38] g
        refine xb A [(.aload_n 0, 1, 0, 0, .null), (.getfield 15, 3, 38, 0, .ref 3), (.iload_n 2, 1, 0, 0, .null)] (pc' := 89) (ls' := [some (.ref 38), none, some (.int l2), none, none]) (st' := [.int l2, .ref 3, .int (f_X4_otherEndOf_3 l2 g), .int (f_X4_oneEndOf_3 l2 g), .ref 38]) (g' := g) (by decide +kernel) rfl ?_
        refine xcallV A (ix := 40) (nxt := 92) hrm hz [.int l2] [.int (f_X4_otherEndOf_3 l2 g), .int (f_X4_oneEndOf_3 l2 g), .ref 38] 521 (c_X4_milesOf_3 hS _ rfl) ok_X4_milesOf (by decide +kernel) rfl (fun r g1 hq => ?_)
        rw [hq.1, hq.2]
        show xW k S 0 0 92 [some (.ref 38), none, some (.int l2), none, none] [.int (f_X4_milesOf_3 l2 g), .int (f_X4_otherEndOf_3 l2 g), .int (f_X4_oneEndOf_3 l2 g), .ref 38] g
        obtain ⟨w2, e2, H⟩ := xl_elim H
        refine xcallV A (ix := 43) (nxt := 95) hrm hz [.int (f_X4_oneEndOf_3 l2 g), .int (f_X4_otherEndOf_3 l2 g), .int (f_X4_milesOf_3 l2 g)] [] 525 (c_X10_shorten_38 hS _ e2) ok_X10_shorten (by decide +kernel) rfl (fun r g1 hq => ?_)
        rw [hq.1, hq.2]
        show xW k S 0 0 95 [some (.ref 38), none, some (.int l2), none, none] [] w2
        refine xb A [(.aload_n 0, 1, 0, 0, .null), (.aload_n 0, 1, 0, 0, .null), (.getfield 15, 3, 38, 0, .ref 3), (.iload_n 2, 1, 0, 0, .null)] (pc' := 101) (ls' := [some (.ref 38), none, some (.int l2), none, none]) (st' := [.int l2, .ref 3, .ref 38]) (g' := w2) (by decide +kernel) rfl ?_
        refine xcallV A (ix := 37) (nxt := 104) hrm hz [.int l2] [.ref 38] 517 (c_X4_otherEndOf_3 hS _ rfl) ok_X4_otherEndOf (by decide +kernel) rfl (fun r g1 hq => ?_)
        rw [hq.1, hq.2]
        show xW k S 0 0 104 [some (.ref 38), none, some (.int l2), none, none] [.int (f_X4_otherEndOf_3 l2 w2), .ref 38] w2
        refine xb A [(.aload_n 0, 1, 0, 0, .null), (.getfield 15, 3, 38, 0, .ref 3), (.iload_n 2, 1, 0, 0, .null)] (pc' := 109) (ls' := [some (.ref 38), none, some (.int l2), none, none]) (st' := [.int l2, .ref 3, .int (f_X4_otherEndOf_3 l2 w2), .ref 38]) (g' := w2) (by decide +kernel) rfl ?_
        refine xcallV A (ix := 33) (nxt := 112) hrm hz [.int l2] [.int (f_X4_otherEndOf_3 l2 w2), .ref 38] 513 (c_X4_oneEndOf_3 hS _ rfl) ok_X4_oneEndOf (by decide +kernel) rfl (fun r g1 hq => ?_)
        rw [hq.1, hq.2]
        show xW k S 0 0 112 [some (.ref 38), none, some (.int l2), none, none] [.int (f_X4_oneEndOf_3 l2 w2), .int (f_X4_otherEndOf_3 l2 w2), .ref 38] w2
        refine xb A [(.aload_n 0, 1, 0, 0, .null), (.getfield 15, 3, 38, 0, .ref 3), (.iload_n 2, 1, 0, 0, .null)] (pc' := 117) (ls' := [some (.ref 38), none, some (.int l2), none, none]) (st' := [.int l2, .ref 3, .int (f_X4_oneEndOf_3 l2 w2), .int (f_X4_otherEndOf_3 l2 w2), .ref 38]) (g' := w2) (by decide +kernel) rfl ?_
        refine xcallV A (ix := 40) (nxt := 120) hrm hz [.int l2] [.int (f_X4_oneEndOf_3 l2 w2), .int (f_X4_otherEndOf_3 l2 w2), .ref 38] 521 (c_X4_milesOf_3 hS _ rfl) ok_X4_milesOf (by decide +kernel) rfl (fun r g1 hq => ?_)
        rw [hq.1, hq.2]
        show xW k S 0 0 120 [some (.ref 38), none, some (.int l2), none, none] [.int (f_X4_milesOf_3 l2 w2), .int (f_X4_oneEndOf_3 l2 w2), .int (f_X4_otherEndOf_3 l2 w2), .ref 38] w2
        obtain ⟨w3, e3, H⟩ := xl_elim H
        refine xcallV A (ix := 43) (nxt := 123) hrm hz [.int (f_X4_otherEndOf_3 l2 w2), .int (f_X4_oneEndOf_3 l2 w2), .int (f_X4_milesOf_3 l2 w2)] [] 525 (c_X10_shorten_38 hS _ e3) ok_X10_shorten (by decide +kernel) rfl (fun r g1 hq => ?_)
        rw [hq.1, hq.2]
        show xW k S 0 0 123 [some (.ref 38), none, some (.int l2), none, none] [] w3
        refine xb A [(.iinc 2 1, 3, 0, 0, .null)] (pc' := 126) (ls' := [some (.ref 38), none, some (.int (l2 + 1)), none, none]) (st' := []) (g' := w3) (by decide +kernel) rfl ?_
        refine xgoto A (-78) 48 (by decide +kernel) ?_
        exact ih _ _ H
theorem fr_X10_measure_38_48   : ∀ (n : Nat) (l2 : Int32) (g : xG) (out : xG), f_X10_measure_38_48 n l2 g = some out → xfrm fp_X10_measure_38 g (out) := by
  intro n
  induction n with
  | zero => intro l2 g out H; exact absurd H (by simp [f_X10_measure_38_48])
  | succ n ih =>
    intro l2 g out H
    have H : (if (f_X4_roads_3 g) ≤ l2 then
  f_X10_measure_38_131 xN 0 g
else
  if (f_X10_isOpen_38 l2 g) = 0 then
    f_X10_measure_38_48 n (l2 + 1) g
  else
    xl (f_X10_shorten_38 (f_X4_oneEndOf_3 l2 g) (f_X4_otherEndOf_3 l2 g) (f_X4_milesOf_3 l2 g) g) fun w2 =>
    xl (f_X10_shorten_38 (f_X4_otherEndOf_3 l2 w2) (f_X4_oneEndOf_3 l2 w2) (f_X4_milesOf_3 l2 w2) w2) fun w3 =>
    f_X10_measure_38_48 n (l2 + 1) w3) = some out := H
    by_cases h2 : (f_X4_roads_3 g) ≤ l2
    · rw [if_pos h2] at H
      exact xfrm.tr xfrm.rf (fr_X10_measure_38_131 _ _ _ _ H) rfl
    · rw [if_neg h2] at H
      by_cases h6 : (f_X10_isOpen_38 l2 g) = 0
      · rw [if_pos h6] at H
        exact xfrm.tr xfrm.rf (ih _ _ _ H) rfl
      · rw [if_neg h6] at H
        obtain ⟨w2, e2, H⟩ := xl_elim H
        have hf3 : xfrm fp_X10_measure_38 g (w2) := xfrm.tr xfrm.rf (fr_X10_shorten_38 _ e2) rfl
        obtain ⟨w3, e3, H⟩ := xl_elim H
        have hf4 : xfrm fp_X10_measure_38 g (w3) := xfrm.tr hf3 (fr_X10_shorten_38 _ e3) rfl
        exact xfrm.tr hf4 (ih _ _ _ H) rfl
set_option maxRecDepth 20000 in
theorem t_X10_measure_38_7 {k : xK} {S : List xSh} {out : xG} (hS : xpf SH1 S) (A : xAt k mX10_measure.2.1 10 SH1 S) (hR : xRet k 0 0 S (fun r g' => r = none ∧ g' = out) mX10_measure.2.2.2) (hrm : xrm k = { frames := 3, cells := 0, slots := 0, locals := 66 }) (hz : xhs k = xb0 k + S.length)   : ∀ (n : Nat) (l2 : Int32) (g : xG), f_X10_measure_38_7 n l2 g = some out → xW k S 0 0 7 [some (.ref 38), none, some (.int l2), none, none] [] g := by
  intro n
  induction n with
  | zero => intro l2 g H; exact absurd H (by simp [f_X10_measure_38_7])
  | succ n ih =>
    intro l2 g H
    have H : (if 49 ≤ l2 then
  f_X10_measure_38_48 xN 0 g
else
  xg (¬ (7 : Int32) = 0) (
    xg (¬ (7 : Int32) = 0) (
      if (l2 / 7) = (l2 - l2 / 7 * 7) then
        xg (¬ (l2 < 0 ∨ 49 ≤ l2.toNatClampNeg)) (
          f_X10_measure_38_7 n (l2 + 1) (xupd g.1 39 l2.toNatClampNeg 0, g.2))
      else
        xg (¬ (l2 < 0 ∨ 49 ≤ l2.toNatClampNeg)) (
          f_X10_measure_38_7 n (l2 + 1) (xupd g.1 39 l2.toNatClampNeg 999, g.2))))) = some out := H
    refine xb A [(.iload_n 2, 1, 0, 0, .null), (.aload_n 0, 1, 0, 0, .null), (.getfield 9, 3, 38, 1, .ref 39), (.arraylength, 1, 39, 0, .int 49)] (pc' := 13) (ls' := [some (.ref 38), none, some (.int l2), none, none]) (st' := [.int 49, .int l2]) (g' := g) (by decide +kernel) rfl ?_
    refine xic_ge A (33) 46 16 (by decide +kernel) (fun h1 => ?_) (fun h1 => ?_)
    · rw [if_pos h1] at H
      refine xb A [(.iconst 0, 1, 0, 0, .int 0), (.istore_n 2, 1, 0, 0, .null)] (pc' := 48) (ls' := [some (.ref 38), none, some (.int 0), none, none]) (st' := []) (g' := g) (by decide +kernel) rfl ?_
      exact t_X10_measure_38_48 hS A hR hrm hz _ _ _ H
    · rw [if_neg h1] at H
      refine xb A [(.aload_n 0, 1, 0, 0, .null), (.getfield 9, 3, 38, 1, .ref 39), (.iload_n 2, 1, 0, 0, .null), (.iload_n 2, 1, 0, 0, .null), (.bipush 7, 2, 0, 0, .int 7)] (pc' := 24) (ls' := [some (.ref 38), none, some (.int l2), none, none]) (st' := [.int 7, .int l2, .int l2, .ref 39]) (g' := g) (by decide +kernel) rfl ?_
      obtain ⟨h7, H⟩ := xg_elim H
      refine xidiv A (nxt := 25) (by decide +kernel) h7 ?_
      refine xb A [(.iload_n 2, 1, 0, 0, .null), (.bipush 7, 2, 0, 0, .int 7)] (pc' := 28) (ls' := [some (.ref 38), none, some (.int l2), none, none]) (st' := [.int 7, .int l2, .int (l2 / 7), .int l2, .ref 39]) (g' := g) (by decide +kernel) rfl ?_
      obtain ⟨h8, H⟩ := xg_elim H
      refine xirem A (nxt := 29) (by decide +kernel) h8 ?_
      refine xic_ne A (7) 36 32 (by decide +kernel) (fun h9 => ?_) (fun h9 => ?_)
      · rw [if_neg h9] at H
        refine xb A [(.sipush 999, 3, 0, 0, .int 999)] (pc' := 39) (ls' := [some (.ref 38), none, some (.int l2), none, none]) (st' := [.int 999, .int l2, .ref 39]) (g' := g) (by decide +kernel) rfl ?_
        obtain ⟨h10, H⟩ := xg_elim H
        refine xiast A (nxt := 40) (by decide +kernel) (hS _ _ sh_39) h10 ?_
        show xW k S 0 0 40 [some (.ref 38), none, some (.int l2), none, none] [] (xupd g.1 39 l2.toNatClampNeg 999, g.2)
        refine xb A [(.iinc 2 1, 3, 0, 0, .null)] (pc' := 43) (ls' := [some (.ref 38), none, some (.int (l2 + 1)), none, none]) (st' := []) (g' := (xupd g.1 39 l2.toNatClampNeg 999, g.2)) (by decide +kernel) rfl ?_
        refine xgoto A (-36) 7 (by decide +kernel) ?_
        exact ih _ _ H
      · rw [if_pos h9] at H
        refine xb A [(.iconst 0, 1, 0, 0, .int 0)] (pc' := 33) (ls' := [some (.ref 38), none, some (.int l2), none, none]) (st' := [.int 0, .int l2, .ref 39]) (g' := g) (by decide +kernel) rfl ?_
        refine xgoto A (6) 39 (by decide +kernel) ?_
        obtain ⟨h11, H⟩ := xg_elim H
        refine xiast A (nxt := 40) (by decide +kernel) (hS _ _ sh_39) h11 ?_
        show xW k S 0 0 40 [some (.ref 38), none, some (.int l2), none, none] [] (xupd g.1 39 l2.toNatClampNeg 0, g.2)
        refine xb A [(.iinc 2 1, 3, 0, 0, .null)] (pc' := 43) (ls' := [some (.ref 38), none, some (.int (l2 + 1)), none, none]) (st' := []) (g' := (xupd g.1 39 l2.toNatClampNeg 0, g.2)) (by decide +kernel) rfl ?_
        refine xgoto A (-36) 7 (by decide +kernel) ?_
        exact ih _ _ H
theorem fr_X10_measure_38_7   : ∀ (n : Nat) (l2 : Int32) (g : xG) (out : xG), f_X10_measure_38_7 n l2 g = some out → xfrm fp_X10_measure_38 g (out) := by
  intro n
  induction n with
  | zero => intro l2 g out H; exact absurd H (by simp [f_X10_measure_38_7])
  | succ n ih =>
    intro l2 g out H
    have H : (if 49 ≤ l2 then
  f_X10_measure_38_48 xN 0 g
else
  xg (¬ (7 : Int32) = 0) (
    xg (¬ (7 : Int32) = 0) (
      if (l2 / 7) = (l2 - l2 / 7 * 7) then
        xg (¬ (l2 < 0 ∨ 49 ≤ l2.toNatClampNeg)) (
          f_X10_measure_38_7 n (l2 + 1) (xupd g.1 39 l2.toNatClampNeg 0, g.2))
      else
        xg (¬ (l2 < 0 ∨ 49 ≤ l2.toNatClampNeg)) (
          f_X10_measure_38_7 n (l2 + 1) (xupd g.1 39 l2.toNatClampNeg 999, g.2))))) = some out := H
    by_cases h1 : 49 ≤ l2
    · rw [if_pos h1] at H
      exact xfrm.tr xfrm.rf (fr_X10_measure_38_48 _ _ _ _ H) rfl
    · rw [if_neg h1] at H
      obtain ⟨h7, H⟩ := xg_elim H
      obtain ⟨h8, H⟩ := xg_elim H
      by_cases h9 : (l2 / 7) = (l2 - l2 / 7 * 7)
      · rw [if_pos h9] at H
        obtain ⟨h11, H⟩ := xg_elim H
        have hf6 : xfrm fp_X10_measure_38 g ((xupd g.1 39 l2.toNatClampNeg 0, g.2)) := xfrm.ua xfrm.rf rfl
        exact xfrm.tr hf6 (ih _ _ _ H) rfl
      · rw [if_neg h9] at H
        obtain ⟨h10, H⟩ := xg_elim H
        have hf5 : xfrm fp_X10_measure_38 g ((xupd g.1 39 l2.toNatClampNeg 999, g.2)) := xfrm.ua xfrm.rf rfl
        exact xfrm.tr hf5 (ih _ _ _ H) rfl
set_option maxRecDepth 20000 in
theorem c_X10_measure_38 {S : List xSh} (hS : xpf SH1 S) {g : xG} {p1 : Int32} (out : xG) (H : f_X10_measure_38 p1 g = some out) : xC mX10_measure 3 66 0 0 S [.ref 38, .int p1] g S (fun r g' => r = none ∧ g' = out) := by
  have H : (f_X10_measure_38_7 xN 0 (xupd g.1 38 2 p1, g.2)) = some out := H
  refine xC.of 10 SH1 [some (.ref 38), some (.int p1), none, none, none] hS (by decide +kernel) rfl (fun _ _ => Nat.le_of_ble_eq_true rfl) (fun _ _ => rfl) ?_
  intro k A hR hrm hz
  refine xb A [(.aload_n 0, 1, 0, 0, .null), (.iload_n 1, 1, 0, 0, .null), (.putfield 19, 3, 38, 2, .int 0), (.iconst 0, 1, 0, 0, .int 0), (.istore_n 2, 1, 0, 0, .null)] (pc' := 7) (ls' := [some (.ref 38), some (.int p1), some (.int 0), none, none]) (st' := []) (g' := (xupd g.1 38 2 p1, g.2)) (by decide +kernel) rfl ?_
  refine xweak (ls' := [some (.ref 38), none, some (.int 0), none, none]) (by exact ⟨rfl, ⟨rfl, trivial⟩⟩) ?_
  exact t_X10_measure_38_7 hS A hR hrm hz _ _ _ H
theorem fr_X10_measure_38 {p1 : Int32} {g : xG} (out : xG) (H : f_X10_measure_38 p1 g = some out) : xfrm fp_X10_measure_38 g (out) := by
  have H : (f_X10_measure_38_7 xN 0 (xupd g.1 38 2 p1, g.2)) = some out := H
  have hf1 : xfrm fp_X10_measure_38 g ((xupd g.1 38 2 p1, g.2)) := xfrm.up xfrm.rf rfl
  exact xfrm.tr hf1 (fr_X10_measure_38_7 _ _ _ _ H) rfl
def fp_X0_clear_56 : List (Nat × Option Nat) := [(56, some 5)]
def f_X0_clear_56  (g : xG) : xG :=
  (xupd g.1 56 5 0, g.2)
set_option maxRecDepth 20000 in
theorem c_X0_clear_56 {S : List xSh} (hS : xpf SH1 S) {g : xG}  (out : xG) (H : f_X0_clear_56  g = out) : xC mX0_clear 0 0 0 0 S [.ref 56] g S (fun r g' => r = none ∧ g' = out) := by
  have H : ((xupd g.1 56 5 0, g.2)) = out := H
  refine xC.of 0 SH1 [some (.ref 56)] hS (by decide +kernel) rfl (fun _ _ => Nat.le_of_ble_eq_true rfl) (fun _ _ => rfl) ?_
  intro k A hR hrm hz
  refine xb A [(.aload_n 0, 1, 0, 0, .null), (.iconst 0, 1, 0, 0, .int 0), (.putfield 30, 3, 56, 5, .int 0)] (pc' := 5) (ls' := [some (.ref 56)]) (st' := []) (g' := (xupd g.1 56 5 0, g.2)) (by decide +kernel) rfl ?_
  subst H
  exact xret_v A hR hz (by decide +kernel) ⟨rfl, rfl⟩
theorem fr_X0_clear_56  {g : xG} (out : xG) (H : f_X0_clear_56  g = out) : xfrm fp_X0_clear_56 g (out) := by
  have H : ((xupd g.1 56 5 0, g.2)) = out := H
  have hf1 : xfrm fp_X0_clear_56 g ((xupd g.1 56 5 0, g.2)) := xfrm.up xfrm.rf rfl
  subst H
  exact hf1
def fp_X11_beginAnew_0 : List (Nat × Option Nat) := [(0, some 13), (0, some 15), (38, some 2), (39, none), (49, none), (56, some 5)]
def f_X11_beginAnew_0  (g : xG) : Option (xG) :=
  (f_X6_begin_48_3 g).bind fun w1 =>
  (f_X10_measure_38 (f_X6_get_48 4 w1) w1).bind fun w2 =>
  xl (f_X0_clear_56 w2) fun w3 =>
  some (xupd (xupd w3.1 0 13 0) 0 15 0, w3.2)
set_option maxRecDepth 20000 in
theorem c_X11_beginAnew_0 {S : List xSh} (hS : xpf SH1 S) {g : xG}  (out : xG) (H : f_X11_beginAnew_0  g = some out) : xC mX11_beginAnew 4 90 0 0 S [.ref 0] g S (fun r g' => r = none ∧ g' = out) := by
  have H : ((f_X6_begin_48_3 g).bind fun w1 =>
(f_X10_measure_38 (f_X6_get_48 4 w1) w1).bind fun w2 =>
xl (f_X0_clear_56 w2) fun w3 =>
some (xupd (xupd w3.1 0 13 0) 0 15 0, w3.2)) = some out := H
  refine xC.of 11 SH1 [some (.ref 0)] hS (by decide +kernel) rfl (fun _ _ => Nat.le_of_ble_eq_true rfl) (fun _ _ => rfl) ?_
  intro k A hR hrm hz
  refine xb A [(.aload_n 0, 1, 0, 0, .null), (.getfield 66, 3, 0, 8, .ref 48), (.aload_n 0, 1, 0, 0, .null), (.getfield 19, 3, 0, 1, .ref 3)] (pc' := 8) (ls' := [some (.ref 0)]) (st' := [.ref 3, .ref 48]) (g' := g) (by decide +kernel) rfl ?_
  obtain ⟨w1, e1, H⟩ := xbind H
  refine xcallV A (ix := 132) (nxt := 11) hrm hz [.ref 3] [] 465 (c_X6_begin_48_3 hS _ e1) ok_X6_begin (by decide +kernel) rfl (fun r g1 hq => ?_)
  rw [hq.1, hq.2]
  show xW k S 0 0 11 [some (.ref 0)] [] w1
  refine xb A [(.aload_n 0, 1, 0, 0, .null), (.getfield 37, 3, 0, 3, .ref 38), (.aload_n 0, 1, 0, 0, .null), (.getfield 66, 3, 0, 8, .ref 48), (.iconst 4, 1, 0, 0, .int 4)] (pc' := 20) (ls' := [some (.ref 0)]) (st' := [.int 4, .ref 48, .ref 38]) (g' := w1) (by decide +kernel) rfl ?_
  refine xcallV A (ix := 135) (nxt := 23) hrm hz [.int 4] [.ref 38] 489 (c_X6_get_48 hS _ rfl) ok_X6_get (by decide +kernel) rfl (fun r g1 hq => ?_)
  rw [hq.1, hq.2]
  show xW k S 0 0 23 [some (.ref 0)] [.int (f_X6_get_48 4 w1), .ref 38] w1
  obtain ⟨w2, e2, H⟩ := xbind H
  refine xcallV A (ix := 139) (nxt := 26) hrm hz [.int (f_X6_get_48 4 w1)] [] 494 (c_X10_measure_38 hS _ e2) ok_X10_measure (by decide +kernel) rfl (fun r g1 hq => ?_)
  rw [hq.1, hq.2]
  show xW k S 0 0 26 [some (.ref 0)] [] w2
  refine xb A [(.aload_n 0, 1, 0, 0, .null), (.getfield 90, 3, 0, 12, .ref 56)] (pc' := 30) (ls' := [some (.ref 0)]) (st' := [.ref 56]) (g' := w2) (by decide +kernel) rfl ?_
  obtain ⟨w3, e3, H⟩ := xl_elim H
  refine xcallV A (ix := 142) (nxt := 33) hrm hz [] [] 543 (c_X0_clear_56 hS _ e3) ok_X0_clear (by decide +kernel) rfl (fun r g1 hq => ?_)
  rw [hq.1, hq.2]
  show xW k S 0 0 33 [some (.ref 0)] [] w3
  refine xb A [(.aload_n 0, 1, 0, 0, .null), (.iconst 0, 1, 0, 0, .int 0), (.putfield 143, 3, 0, 13, .int 0), (.aload_n 0, 1, 0, 0, .null), (.iconst 0, 1, 0, 0, .int 0), (.putfield 146, 3, 0, 15, .int 0)] (pc' := 43) (ls' := [some (.ref 0)]) (st' := []) (g' := (xupd (xupd w3.1 0 13 0) 0 15 0, w3.2)) (by decide +kernel) rfl ?_
  obtain rfl := Option.some.inj H
  exact xret_v A hR hz (by decide +kernel) ⟨rfl, rfl⟩
theorem fr_X11_beginAnew_0  {g : xG} (out : xG) (H : f_X11_beginAnew_0  g = some out) : xfrm fp_X11_beginAnew_0 g (out) := by
  have H : ((f_X6_begin_48_3 g).bind fun w1 =>
(f_X10_measure_38 (f_X6_get_48 4 w1) w1).bind fun w2 =>
xl (f_X0_clear_56 w2) fun w3 =>
some (xupd (xupd w3.1 0 13 0) 0 15 0, w3.2)) = some out := H
  obtain ⟨w1, e1, H⟩ := xbind H
  have hf1 : xfrm fp_X11_beginAnew_0 g (w1) := xfrm.tr xfrm.rf (fr_X6_begin_48_3 _ e1) rfl
  obtain ⟨w2, e2, H⟩ := xbind H
  have hf2 : xfrm fp_X11_beginAnew_0 g (w2) := xfrm.tr hf1 (fr_X10_measure_38 _ e2) rfl
  obtain ⟨w3, e3, H⟩ := xl_elim H
  have hf3 : xfrm fp_X11_beginAnew_0 g (w3) := xfrm.tr hf2 (fr_X0_clear_56 _ e3) rfl
  have hf4 : xfrm fp_X11_beginAnew_0 g ((xupd w3.1 0 13 0, w3.2)) := xfrm.up hf3 rfl
  have hf5 : xfrm fp_X11_beginAnew_0 g ((xupd (xupd w3.1 0 13 0) 0 15 0, w3.2)) := xfrm.up hf4 rfl
  obtain rfl := Option.some.inj H
  exact hf5
def fp_X11_read_0 : List (Nat × Option Nat) := [(0, some 13), (0, some 15), (0, some 16), (1, some 1), (3, some 9), (3, some 10), (3, some 11), (3, some 12), (3, some 13), (5, none), (6, none), (7, none), (9, none), (10, none), (11, none), (12, some 4), (13, none), (14, none), (15, none), (17, some 4), (17, some 5), (17, some 6), (17, some 7), (17, some 8), (18, some 4), (18, some 5), (19, none), (20, none), (21, none), (23, some 9), (23, some 10), (23, some 11), (23, some 12), (23, some 13), (24, none), (25, none), (26, none), (27, none), (28, none), (29, none), (30, none), (31, none), (32, some 4), (33, none), (34, none), (35, none), (37, none), (38, some 2), (39, none), (49, none), (56, some 5)]
def f_X11_read_0  (g : xG) : Option (Int32 × xG) :=
  (f_X3_readText_17 g).bind fun w1 =>
  xl (f_X8_clear_1 (xupd w1.2.1 0 16 (f_X3_faultPlace_17 w1.2), w1.2.2)) fun w2 =>
  if w1.1 = 0 then
    xl (f_X4_copyFrom_3_23 w2) fun w3 =>
    (f_X11_beginAnew_0 w3).bind fun w4 =>
    some (w1.1, w4)
  else
    some (w1.1, w2)
set_option maxRecDepth 20000 in
theorem c_X11_read_0 {S : List xSh} (hS : xpf SH1 S) {g : xG}  (out : Int32 × xG) (H : f_X11_read_0  g = some out) : xC mX11_read 7 159 0 0 S [.ref 0] g S (fun r g' => r = some (.int out.1) ∧ g' = out.2) := by
  have H : ((f_X3_readText_17 g).bind fun w1 =>
xl (f_X8_clear_1 (xupd w1.2.1 0 16 (f_X3_faultPlace_17 w1.2), w1.2.2)) fun w2 =>
if w1.1 = 0 then
  xl (f_X4_copyFrom_3_23 w2) fun w3 =>
  (f_X11_beginAnew_0 w3).bind fun w4 =>
  some (w1.1, w4)
else
  some (w1.1, w2)) = some out := H
  refine xC.of 11 SH1 [some (.ref 0), none] hS (by decide +kernel) rfl (fun _ _ => Nat.le_of_ble_eq_true rfl) (fun _ _ => rfl) ?_
  intro k A hR hrm hz
  refine xb A [(.aload_n 0, 1, 0, 0, .null), (.getfield 28, 3, 0, 2, .ref 17)] (pc' := 4) (ls' := [some (.ref 0), none]) (st' := [.ref 17]) (g' := g) (by decide +kernel) rfl ?_
  obtain ⟨w1, e1, H⟩ := xbind H
  refine xcallV A (ix := 119) (nxt := 7) hrm hz [] [] 627 (c_X3_readText_17 hS _ e1) ok_X3_readText (by decide +kernel) rfl (fun r g1 hq => ?_)
  rw [hq.1, hq.2]
  show xW k S 0 0 7 [some (.ref 0), none] [.int w1.1] w1.2
  refine xb A [(.istore_n 1, 1, 0, 0, .null), (.aload_n 0, 1, 0, 0, .null), (.aload_n 0, 1, 0, 0, .null), (.getfield 28, 3, 0, 2, .ref 17)] (pc' := 13) (ls' := [some (.ref 0), some (.int w1.1)]) (st' := [.ref 17, .ref 0]) (g' := w1.2) (by decide +kernel) rfl ?_
  refine xcallV A (ix := 122) (nxt := 16) hrm hz [] [.ref 0] 860 (c_X3_faultPlace_17 hS _ rfl) ok_X3_faultPlace (by decide +kernel) rfl (fun r g1 hq => ?_)
  rw [hq.1, hq.2]
  show xW k S 0 0 16 [some (.ref 0), some (.int w1.1)] [.int (f_X3_faultPlace_17 w1.2), .ref 0] w1.2
  refine xb A [(.putfield 94, 3, 0, 16, .int 0), (.aload_n 0, 1, 0, 0, .null), (.getfield 10, 3, 0, 0, .ref 1)] (pc' := 23) (ls' := [some (.ref 0), some (.int w1.1)]) (st' := [.ref 1]) (g' := (xupd w1.2.1 0 16 (f_X3_faultPlace_17 w1.2), w1.2.2)) (by decide +kernel) rfl ?_
  obtain ⟨w2, e2, H⟩ := xl_elim H
  refine xcallV A (ix := 124) (nxt := 26) hrm hz [] [] 865 (c_X8_clear_1 hS _ e2) ok_X8_clear (by decide +kernel) rfl (fun r g1 hq => ?_)
  rw [hq.1, hq.2]
  show xW k S 0 0 26 [some (.ref 0), some (.int w1.1)] [] w2
  refine xb A [(.iload_n 1, 1, 0, 0, .null)] (pc' := 27) (ls' := [some (.ref 0), some (.int w1.1)]) (st' := [.int w1.1]) (g' := w2) (by decide +kernel) rfl ?_
  refine xif_ne A (21) 48 30 (by decide +kernel) (fun h1 => ?_) (fun h1 => ?_)
  · rw [if_neg h1] at H
    refine xb A [(.iload_n 1, 1, 0, 0, .null)] (pc' := 49) (ls' := [some (.ref 0), some (.int w1.1)]) (st' := [.int w1.1]) (g' := w2) (by decide +kernel) rfl ?_
    obtain rfl := Option.some.inj H
    exact xret_i A hR hz (by decide +kernel) rfl ⟨rfl, rfl⟩
  · rw [if_pos h1] at H
    refine xb A [(.aload_n 0, 1, 0, 0, .null), (.getfield 19, 3, 0, 1, .ref 3), (.aload_n 0, 1, 0, 0, .null), (.getfield 28, 3, 0, 2, .ref 17)] (pc' := 38) (ls' := [some (.ref 0), some (.int w1.1)]) (st' := [.ref 17, .ref 3]) (g' := w2) (by decide +kernel) rfl ?_
    refine xcallV A (ix := 125) (nxt := 41) hrm hz [] [.ref 3] 869 (c_X3_draft_17 hS) ok_X3_draft (by decide +kernel) rfl (fun r g1 hq => ?_)
    rw [hq.1, hq.2]
    show xW k S 0 0 41 [some (.ref 0), some (.int w1.1)] [.ref 23, .ref 3] w2
    obtain ⟨w3, e3, H⟩ := xl_elim H
    refine xcallV A (ix := 129) (nxt := 44) hrm hz [.ref 23] [] 873 (c_X4_copyFrom_3_23 hS _ e3) ok_X4_copyFrom (by decide +kernel) rfl (fun r g1 hq => ?_)
    rw [hq.1, hq.2]
    show xW k S 0 0 44 [some (.ref 0), some (.int w1.1)] [] w3
    refine xb A [(.aload_n 0, 1, 0, 0, .null)] (pc' := 45) (ls' := [some (.ref 0), some (.int w1.1)]) (st' := [.ref 0]) (g' := w3) (by decide +kernel) rfl ?_
    obtain ⟨w4, e4, H⟩ := xbind H
    refine xcallV A (ix := 101) (nxt := 48) hrm hz [] [] 461 (c_X11_beginAnew_0 hS _ e4) ok_X11_beginAnew (by decide +kernel) rfl (fun r g1 hq => ?_)
    rw [hq.1, hq.2]
    show xW k S 0 0 48 [some (.ref 0), some (.int w1.1)] [] w4
    refine xb A [(.iload_n 1, 1, 0, 0, .null)] (pc' := 49) (ls' := [some (.ref 0), some (.int w1.1)]) (st' := [.int w1.1]) (g' := w4) (by decide +kernel) rfl ?_
    obtain rfl := Option.some.inj H
    exact xret_i A hR hz (by decide +kernel) rfl ⟨rfl, rfl⟩
theorem fr_X11_read_0  {g : xG} (out : Int32 × xG) (H : f_X11_read_0  g = some out) : xfrm fp_X11_read_0 g (out.2) := by
  have H : ((f_X3_readText_17 g).bind fun w1 =>
xl (f_X8_clear_1 (xupd w1.2.1 0 16 (f_X3_faultPlace_17 w1.2), w1.2.2)) fun w2 =>
if w1.1 = 0 then
  xl (f_X4_copyFrom_3_23 w2) fun w3 =>
  (f_X11_beginAnew_0 w3).bind fun w4 =>
  some (w1.1, w4)
else
  some (w1.1, w2)) = some out := H
  obtain ⟨w1, e1, H⟩ := xbind H
  have hf1 : xfrm fp_X11_read_0 g (w1.2) := xfrm.tr xfrm.rf (fr_X3_readText_17 _ e1) rfl
  have hf2 : xfrm fp_X11_read_0 g ((xupd w1.2.1 0 16 (f_X3_faultPlace_17 w1.2), w1.2.2)) := xfrm.up hf1 rfl
  obtain ⟨w2, e2, H⟩ := xl_elim H
  have hf3 : xfrm fp_X11_read_0 g (w2) := xfrm.tr hf2 (fr_X8_clear_1 _ e2) rfl
  by_cases h1 : w1.1 = 0
  · rw [if_pos h1] at H
    obtain ⟨w3, e3, H⟩ := xl_elim H
    have hf4 : xfrm fp_X11_read_0 g (w3) := xfrm.tr hf3 (fr_X4_copyFrom_3_23 _ e3) rfl
    obtain ⟨w4, e4, H⟩ := xbind H
    have hf5 : xfrm fp_X11_read_0 g (w4) := xfrm.tr hf4 (fr_X11_beginAnew_0 _ e4) rfl
    obtain rfl := Option.some.inj H
    exact hf5
  · rw [if_neg h1] at H
    obtain rfl := Option.some.inj H
    exact hf3
def f_X11_place_0  (g : xG) : Int32 :=
  g.1 0 16
set_option maxRecDepth 20000 in
theorem c_X11_place_0 {S : List xSh} (hS : xpf SH1 S) {g : xG}  (out : Int32) (H : f_X11_place_0  g = out) : xC mX11_place 0 0 0 0 S [.ref 0] g S (fun r g' => r = some (.int out) ∧ g' = g) := by
  have H : (g.1 0 16) = out := H
  refine xC.of 11 SH1 [some (.ref 0)] hS (by decide +kernel) rfl (fun _ _ => Nat.le_of_ble_eq_true rfl) (fun _ _ => rfl) ?_
  intro k A hR hrm hz
  refine xb A [(.aload_n 0, 1, 0, 0, .null), (.getfield 94, 3, 0, 16, .int 0)] (pc' := 4) (ls' := [some (.ref 0)]) (st' := [.int (g.1 0 16)]) (g' := g) (by decide +kernel) rfl ?_
  subst H
  exact xret_i A hR hz (by decide +kernel) rfl ⟨rfl, rfl⟩
def f_X4_capital_3  (g : xG) : Int32 :=
  g.1 3 12
set_option maxRecDepth 20000 in
theorem c_X4_capital_3 {S : List xSh} (hS : xpf SH1 S) {g : xG}  (out : Int32) (H : f_X4_capital_3  g = out) : xC mX4_capital 0 0 0 0 S [.ref 3] g S (fun r g' => r = some (.int out) ∧ g' = g) := by
  have H : (g.1 3 12) = out := H
  refine xC.of 4 SH1 [some (.ref 3)] hS (by decide +kernel) rfl (fun _ _ => Nat.le_of_ble_eq_true rfl) (fun _ _ => rfl) ?_
  intro k A hR hrm hz
  refine xb A [(.aload_n 0, 1, 0, 0, .null), (.getfield 54, 3, 3, 12, .int 0)] (pc' := 4) (ls' := [some (.ref 3)]) (st' := [.int (g.1 3 12)]) (g' := g) (by decide +kernel) rfl ?_
  subst H
  exact xret_i A hR hz (by decide +kernel) rfl ⟨rfl, rfl⟩
def f_X6_peopleIn_48_5  (g : xG) : Nat → Int32 → Int32 → Int32 → Int32 → Option (Int32)
  | 0, _, _, _, _ => none
  | n + 1, l1, l2, l3, l4 =>
    if l2 ≤ l4 then
      some l3
    else
      if (xat g 49 35 (5 + l4)) = l1 then
        f_X6_peopleIn_48_5 g n l1 l2 (l3 ||| (f_X11_bit l4)) (l4 + 1)
      else
        f_X6_peopleIn_48_5 g n l1 l2 l3 (l4 + 1)
def f_X6_peopleIn_48 (p1 : Int32) (p2 : Int32) (g : xG) : Option (Int32) :=
  f_X6_peopleIn_48_5 g xN p1 p2 0 0
set_option maxRecDepth 20000 in
theorem t_X6_peopleIn_48_5 {k : xK} {S : List xSh} {g : xG} {out : Int32} (hS : xpf SH1 S) (A : xAt k mX6_peopleIn.2.1 6 SH1 S) (hR : xRet k 0 0 S (fun r g' => r = some (.int out) ∧ g' = g) mX6_peopleIn.2.2.2) (hrm : xrm k = { frames := 1, cells := 0, slots := 0, locals := 21 }) (hz : xhs k = xb0 k + S.length)   : ∀ (n : Nat) (l1 : Int32) (l2 : Int32) (l3 : Int32) (l4 : Int32), f_X6_peopleIn_48_5 g n l1 l2 l3 l4 = some out → xW k S 0 0 5 [some (.ref 48), some (.int l1), some (.int l2), some (.int l3), some (.int l4)] [] g := by
  intro n
  induction n with
  | zero => intro l1 l2 l3 l4 H; exact absurd H (by simp [f_X6_peopleIn_48_5])
  | succ n ih =>
    intro l1 l2 l3 l4 H
    have H : (if l2 ≤ l4 then
  some l3
else
  if (xat g 49 35 (5 + l4)) = l1 then
    f_X6_peopleIn_48_5 g n l1 l2 (l3 ||| (f_X11_bit l4)) (l4 + 1)
  else
    f_X6_peopleIn_48_5 g n l1 l2 l3 (l4 + 1)) = some out := H
    refine xb A [(.iload 4, 2, 0, 0, .null), (.iload_n 2, 1, 0, 0, .null)] (pc' := 8) (ls' := [some (.ref 48), some (.int l1), some (.int l2), some (.int l3), some (.int l4)]) (st' := [.int l2, .int l4]) (g' := g) (by decide +kernel) rfl ?_
    refine xic_ge A (32) 40 11 (by decide +kernel) (fun h1 => ?_) (fun h1 => ?_)
    · rw [if_pos h1] at H
      refine xb A [(.iload_n 3, 1, 0, 0, .null)] (pc' := 41) (ls' := [some (.ref 48), some (.int l1), some (.int l2), some (.int l3), some (.int l4)]) (st' := [.int l3]) (g' := g) (by decide +kernel) rfl ?_
      obtain rfl := Option.some.inj H
      exact xret_i A hR hz (by decide +kernel) rfl ⟨rfl, rfl⟩
    · rw [if_neg h1] at H
      refine xb A [(.aload_n 0, 1, 0, 0, .null), (.getfield 11, 3, 48, 0, .ref 49), (.iconst 5, 1, 0, 0, .int 5), (.iload 4, 2, 0, 0, .null), (.iadd, 1, 0, 0, .null)] (pc' := 19) (ls' := [some (.ref 48), some (.int l1), some (.int l2), some (.int l3), some (.int l4)]) (st' := [.int (5 + l4), .ref 49]) (g' := g) (by decide +kernel) rfl ?_
      refine xcallSN A (ix := 15) (nxt := 22) (host := "NoonRinger") hrm hz [.ref 49, .int (5 + l4)] [] 9 (c_X11_at (hS _ _ sh_49) (by decide)) ok_X11_at (by decide +kernel) rfl (fun r g1 hq => ?_)
      rw [hq.1, hq.2]
      show xW k S 0 0 22 [some (.ref 48), some (.int l1), some (.int l2), some (.int l3), some (.int l4)] [.int (xat g 49 35 (5 + l4))] g
      refine xb A [(.iload_n 1, 1, 0, 0, .null)] (pc' := 23) (ls' := [some (.ref 48), some (.int l1), some (.int l2), some (.int l3), some (.int l4)]) (st' := [.int l1, .int (xat g 49 35 (5 + l4))]) (g' := g) (by decide +kernel) rfl ?_
      refine xic_ne A (11) 34 26 (by decide +kernel) (fun h2 => ?_) (fun h2 => ?_)
      · rw [if_neg h2] at H
        refine xb A [(.iinc 4 1, 3, 0, 0, .null)] (pc' := 37) (ls' := [some (.ref 48), some (.int l1), some (.int l2), some (.int l3), some (.int (l4 + 1))]) (st' := []) (g' := g) (by decide +kernel) rfl ?_
        refine xgoto A (-32) 5 (by decide +kernel) ?_
        exact ih _ _ _ _ H
      · rw [if_pos h2] at H
        refine xb A [(.iload_n 3, 1, 0, 0, .null), (.iload 4, 2, 0, 0, .null)] (pc' := 29) (ls' := [some (.ref 48), some (.int l1), some (.int l2), some (.int l3), some (.int l4)]) (st' := [.int l4, .int l3]) (g' := g) (by decide +kernel) rfl ?_
        refine xcallSN A (ix := 48) (nxt := 32) (host := "NoonRinger") hrm hz [.int l4] [.int l3] 24 (c_X11_bit hS _ rfl) ok_X11_bit (by decide +kernel) rfl (fun r g1 hq => ?_)
        rw [hq.1, hq.2]
        show xW k S 0 0 32 [some (.ref 48), some (.int l1), some (.int l2), some (.int l3), some (.int l4)] [.int (f_X11_bit l4), .int l3] g
        refine xb A [(.ior, 1, 0, 0, .null), (.istore_n 3, 1, 0, 0, .null), (.iinc 4 1, 3, 0, 0, .null)] (pc' := 37) (ls' := [some (.ref 48), some (.int l1), some (.int l2), some (.int (l3 ||| (f_X11_bit l4))), some (.int (l4 + 1))]) (st' := []) (g' := g) (by decide +kernel) rfl ?_
        refine xgoto A (-32) 5 (by decide +kernel) ?_
        exact ih _ _ _ _ H
set_option maxRecDepth 20000 in
theorem c_X6_peopleIn_48 {S : List xSh} (hS : xpf SH1 S) {g : xG} {p1 : Int32} {p2 : Int32} (out : Int32) (H : f_X6_peopleIn_48 p1 p2 g = some out) : xC mX6_peopleIn 1 21 0 0 S [.ref 48, .int p1, .int p2] g S (fun r g' => r = some (.int out) ∧ g' = g) := by
  have H : (f_X6_peopleIn_48_5 g xN p1 p2 0 0) = some out := H
  refine xC.of 6 SH1 [some (.ref 48), some (.int p1), some (.int p2), none, none] hS (by decide +kernel) rfl (fun _ _ => Nat.le_of_ble_eq_true rfl) (fun _ _ => rfl) ?_
  intro k A hR hrm hz
  refine xb A [(.iconst 0, 1, 0, 0, .int 0), (.istore_n 3, 1, 0, 0, .null), (.iconst 0, 1, 0, 0, .int 0), (.istore 4, 2, 0, 0, .null)] (pc' := 5) (ls' := [some (.ref 48), some (.int p1), some (.int p2), some (.int 0), some (.int 0)]) (st' := []) (g' := g) (by decide +kernel) rfl ?_
  exact t_X6_peopleIn_48_5 hS A hR hrm hz _ _ _ _ _ H
def f_X4_acrossFrom_3 (p1 : Int32) (p2 : Int32) (g : xG) : Int32 :=
  if (f_X4_isRoad_3 p2 g) = 0 then
    (-2)
  else
    if (f_X4_oneEndOf_3 p2 g) = p1 then
      f_X4_otherEndOf_3 p2 g
    else
      if (f_X4_otherEndOf_3 p2 g) = p1 then
        f_X4_oneEndOf_3 p2 g
      else
        (-2)
set_option maxRecDepth 20000 in
theorem c_X4_acrossFrom_3 {S : List xSh} (hS : xpf SH1 S) {g : xG} {p1 : Int32} {p2 : Int32} (out : Int32) (H : f_X4_acrossFrom_3 p1 p2 g = out) : xC mX4_acrossFrom 2 42 0 0 S [.ref 3, .int p1, .int p2] g S (fun r g' => r = some (.int out) ∧ g' = g) := by
  have H : (if (f_X4_isRoad_3 p2 g) = 0 then
  (-2)
else
  if (f_X4_oneEndOf_3 p2 g) = p1 then
    f_X4_otherEndOf_3 p2 g
  else
    if (f_X4_otherEndOf_3 p2 g) = p1 then
      f_X4_oneEndOf_3 p2 g
    else
      (-2)) = out := H
  refine xC.of 4 SH1 [some (.ref 3), some (.int p1), some (.int p2)] hS (by decide +kernel) rfl (fun _ _ => Nat.le_of_ble_eq_true rfl) (fun _ _ => rfl) ?_
  intro k A hR hrm hz
  refine xb A [(.aload_n 0, 1, 0, 0, .null), (.iload_n 2, 1, 0, 0, .null)] (pc' := 2) (ls' := [some (.ref 3), some (.int p1), some (.int p2)]) (st' := [.int p2, .ref 3]) (g' := g) (by decide +kernel) rfl ?_
  refine xcallV A (ix := 91) (nxt := 5) hrm hz [.int p2] [] 908 (c_X4_isRoad_3 hS _ rfl) ok_X4_isRoad (by decide +kernel) rfl (fun r g1 hq => ?_)
  rw [hq.1, hq.2]
  show xW k S 0 0 5 [some (.ref 3), some (.int p1), some (.int p2)] [.int (f_X4_isRoad_3 p2 g)] g
  refine xif_ne A (6) 11 8 (by decide +kernel) (fun h1 => ?_) (fun h1 => ?_)
  · rw [if_neg h1] at H
    refine xb A [(.aload_n 0, 1, 0, 0, .null), (.iload_n 2, 1, 0, 0, .null)] (pc' := 13) (ls' := [some (.ref 3), some (.int p1), some (.int p2)]) (st' := [.int p2, .ref 3]) (g' := g) (by decide +kernel) rfl ?_
    refine xcallV A (ix := 95) (nxt := 16) hrm hz [.int p2] [] 909 (c_X4_oneEndOf_3 hS _ rfl) ok_X4_oneEndOf (by decide +kernel) rfl (fun r g1 hq => ?_)
    rw [hq.1, hq.2]
    show xW k S 0 0 16 [some (.ref 3), some (.int p1), some (.int p2)] [.int (f_X4_oneEndOf_3 p2 g)] g
    refine xb A [(.iload_n 1, 1, 0, 0, .null)] (pc' := 17) (ls' := [some (.ref 3), some (.int p1), some (.int p2)]) (st' := [.int p1, .int (f_X4_oneEndOf_3 p2 g)]) (g' := g) (by decide +kernel) rfl ?_
    refine xic_ne A (9) 26 20 (by decide +kernel) (fun h2 => ?_) (fun h2 => ?_)
    · rw [if_neg h2] at H
      refine xb A [(.aload_n 0, 1, 0, 0, .null), (.iload_n 2, 1, 0, 0, .null)] (pc' := 28) (ls' := [some (.ref 3), some (.int p1), some (.int p2)]) (st' := [.int p2, .ref 3]) (g' := g) (by decide +kernel) rfl ?_
      refine xcallV A (ix := 99) (nxt := 31) hrm hz [.int p2] [] 910 (c_X4_otherEndOf_3 hS _ rfl) ok_X4_otherEndOf (by decide +kernel) rfl (fun r g1 hq => ?_)
      rw [hq.1, hq.2]
      show xW k S 0 0 31 [some (.ref 3), some (.int p1), some (.int p2)] [.int (f_X4_otherEndOf_3 p2 g)] g
      refine xb A [(.iload_n 1, 1, 0, 0, .null)] (pc' := 32) (ls' := [some (.ref 3), some (.int p1), some (.int p2)]) (st' := [.int p1, .int (f_X4_otherEndOf_3 p2 g)]) (g' := g) (by decide +kernel) rfl ?_
      refine xic_ne A (11) 43 35 (by decide +kernel) (fun h3 => ?_) (fun h3 => ?_)
      · rw [if_neg h3] at H
        refine xb A [(.bipush (-2), 2, 0, 0, .int (-2))] (pc' := 45) (ls' := [some (.ref 3), some (.int p1), some (.int p2)]) (st' := [.int (-2)]) (g' := g) (by decide +kernel) rfl ?_
        subst H
        exact xret_i A hR hz (by decide +kernel) rfl ⟨rfl, rfl⟩
      · rw [if_pos h3] at H
        refine xb A [(.aload_n 0, 1, 0, 0, .null), (.iload_n 2, 1, 0, 0, .null)] (pc' := 37) (ls' := [some (.ref 3), some (.int p1), some (.int p2)]) (st' := [.int p2, .ref 3]) (g' := g) (by decide +kernel) rfl ?_
        refine xcallV A (ix := 95) (nxt := 40) hrm hz [.int p2] [] 909 (c_X4_oneEndOf_3 hS _ rfl) ok_X4_oneEndOf (by decide +kernel) rfl (fun r g1 hq => ?_)
        rw [hq.1, hq.2]
        show xW k S 0 0 40 [some (.ref 3), some (.int p1), some (.int p2)] [.int (f_X4_oneEndOf_3 p2 g)] g
        refine xgoto A (5) 45 (by decide +kernel) ?_
        subst H
        exact xret_i A hR hz (by decide +kernel) rfl ⟨rfl, rfl⟩
    · rw [if_pos h2] at H
      refine xb A [(.aload_n 0, 1, 0, 0, .null), (.iload_n 2, 1, 0, 0, .null)] (pc' := 22) (ls' := [some (.ref 3), some (.int p1), some (.int p2)]) (st' := [.int p2, .ref 3]) (g' := g) (by decide +kernel) rfl ?_
      refine xcallV A (ix := 99) (nxt := 25) hrm hz [.int p2] [] 910 (c_X4_otherEndOf_3 hS _ rfl) ok_X4_otherEndOf (by decide +kernel) rfl (fun r g1 hq => ?_)
      rw [hq.1, hq.2]
      show xW k S 0 0 25 [some (.ref 3), some (.int p1), some (.int p2)] [.int (f_X4_otherEndOf_3 p2 g)] g
      subst H
      exact xret_i A hR hz (by decide +kernel) rfl ⟨rfl, rfl⟩
  · rw [if_pos h1] at H
    refine xb A [(.bipush (-2), 2, 0, 0, .int (-2))] (pc' := 10) (ls' := [some (.ref 3), some (.int p1), some (.int p2)]) (st' := [.int (-2)]) (g' := g) (by decide +kernel) rfl ?_
    subst H
    exact xret_i A hR hz (by decide +kernel) rfl ⟨rfl, rfl⟩
def f_X7_openRoadsOf_42_4  (g : xG) : Nat → Int32 → Int32 → Int32 → Option (Int32)
  | 0, _, _, _ => none
  | n + 1, l1, l2, l3 =>
    if (f_X4_roads_3 g) ≤ l3 then
      some l2
    else
      if (f_X10_isOpen_38 l3 g) = 0 then
        f_X7_openRoadsOf_42_4 g n l1 l2 (l3 + 1)
      else
        if (f_X4_acrossFrom_3 l1 l3 g) < 0 then
          f_X7_openRoadsOf_42_4 g n l1 l2 (l3 + 1)
        else
          f_X7_openRoadsOf_42_4 g n l1 (l2 ||| (f_X11_bit l3)) (l3 + 1)
def f_X7_openRoadsOf_42 (p1 : Int32) (g : xG) : Option (Int32) :=
  f_X7_openRoadsOf_42_4 g xN p1 0 0
set_option maxRecDepth 20000 in
theorem t_X7_openRoadsOf_42_4 {k : xK} {S : List xSh} {g : xG} {out : Int32} (hS : xpf SH1 S) (A : xAt k mX7_openRoadsOf.2.1 7 SH1 S) (hR : xRet k 0 0 S (fun r g' => r = some (.int out) ∧ g' = g) mX7_openRoadsOf.2.2.2) (hrm : xrm k = { frames := 3, cells := 0, slots := 0, locals := 64 }) (hz : xhs k = xb0 k + S.length)   : ∀ (n : Nat) (l1 : Int32) (l2 : Int32) (l3 : Int32), f_X7_openRoadsOf_42_4 g n l1 l2 l3 = some out → xW k S 0 0 4 [some (.ref 42), some (.int l1), some (.int l2), some (.int l3)] [] g := by
  intro n
  induction n with
  | zero => intro l1 l2 l3 H; exact absurd H (by simp [f_X7_openRoadsOf_42_4])
  | succ n ih =>
    intro l1 l2 l3 H
    have H : (if (f_X4_roads_3 g) ≤ l3 then
  some l2
else
  if (f_X10_isOpen_38 l3 g) = 0 then
    f_X7_openRoadsOf_42_4 g n l1 l2 (l3 + 1)
  else
    if (f_X4_acrossFrom_3 l1 l3 g) < 0 then
      f_X7_openRoadsOf_42_4 g n l1 l2 (l3 + 1)
    else
      f_X7_openRoadsOf_42_4 g n l1 (l2 ||| (f_X11_bit l3)) (l3 + 1)) = some out := H
    refine xb A [(.iload_n 3, 1, 0, 0, .null), (.aload_n 0, 1, 0, 0, .null), (.getfield 15, 3, 42, 0, .ref 3)] (pc' := 9) (ls' := [some (.ref 42), some (.int l1), some (.int l2), some (.int l3)]) (st' := [.ref 3, .int l3]) (g' := g) (by decide +kernel) rfl ?_
    refine xcallV A (ix := 23) (nxt := 12) hrm hz [] [.int l3] 902 (c_X4_roads_3 hS _ rfl) ok_X4_roads (by decide +kernel) rfl (fun r g1 hq => ?_)
    rw [hq.1, hq.2]
    show xW k S 0 0 12 [some (.ref 42), some (.int l1), some (.int l2), some (.int l3)] [.int (f_X4_roads_3 g), .int l3] g
    refine xic_ge A (39) 51 15 (by decide +kernel) (fun h1 => ?_) (fun h1 => ?_)
    · rw [if_pos h1] at H
      refine xb A [(.iload_n 2, 1, 0, 0, .null)] (pc' := 52) (ls' := [some (.ref 42), some (.int l1), some (.int l2), some (.int l3)]) (st' := [.int l2]) (g' := g) (by decide +kernel) rfl ?_
      obtain rfl := Option.some.inj H
      exact xret_i A hR hz (by decide +kernel) rfl ⟨rfl, rfl⟩
    · rw [if_neg h1] at H
      refine xb A [(.aload_n 0, 1, 0, 0, .null), (.getfield 19, 3, 42, 1, .ref 38), (.iload_n 3, 1, 0, 0, .null)] (pc' := 20) (ls' := [some (.ref 42), some (.int l1), some (.int l2), some (.int l3)]) (st' := [.int l3, .ref 38]) (g' := g) (by decide +kernel) rfl ?_
      refine xcallV A (ix := 29) (nxt := 23) hrm hz [.int l3] [] 903 (c_X10_isOpen_38 hS _ rfl) ok_X10_isOpen (by decide +kernel) rfl (fun r g1 hq => ?_)
      rw [hq.1, hq.2]
      show xW k S 0 0 23 [some (.ref 42), some (.int l1), some (.int l2), some (.int l3)] [.int (f_X10_isOpen_38 l3 g)] g
      refine xif_eq A (22) 45 26 (by decide +kernel) (fun h2 => ?_) (fun h2 => ?_)
      · rw [if_pos h2] at H
        refine xb A [(.iinc 3 1, 3, 0, 0, .null)] (pc' := 48) (ls' := [some (.ref 42), some (.int l1), some (.int l2), some (.int (l3 + 1))]) (st' := []) (g' := g) (by decide +kernel) rfl ?_
        refine xgoto A (-44) 4 (by decide +kernel) ?_
        exact ih _ _ _ H
      · rw [if_neg h2] at H
        refine xb A [(.aload_n 0, 1, 0, 0, .null), (.getfield 15, 3, 42, 0, .ref 3), (.iload_n 1, 1, 0, 0, .null), (.iload_n 3, 1, 0, 0, .null)] (pc' := 32) (ls' := [some (.ref 42), some (.int l1), some (.int l2), some (.int l3)]) (st' := [.int l3, .int l1, .ref 3]) (g' := g) (by decide +kernel) rfl ?_
        refine xcallV A (ix := 35) (nxt := 35) hrm hz [.int l1, .int l3] [] 904 (c_X4_acrossFrom_3 hS _ rfl) ok_X4_acrossFrom (by decide +kernel) rfl (fun r g1 hq => ?_)
        rw [hq.1, hq.2]
        show xW k S 0 0 35 [some (.ref 42), some (.int l1), some (.int l2), some (.int l3)] [.int (f_X4_acrossFrom_3 l1 l3 g)] g
        refine xif_lt A (10) 45 38 (by decide +kernel) (fun h3 => ?_) (fun h3 => ?_)
        · rw [if_pos h3] at H
          refine xb A [(.iinc 3 1, 3, 0, 0, .null)] (pc' := 48) (ls' := [some (.ref 42), some (.int l1), some (.int l2), some (.int (l3 + 1))]) (st' := []) (g' := g) (by decide +kernel) rfl ?_
          refine xgoto A (-44) 4 (by decide +kernel) ?_
          exact ih _ _ _ H
        · rw [if_neg h3] at H
          refine xb A [(.iload_n 2, 1, 0, 0, .null), (.iload_n 3, 1, 0, 0, .null)] (pc' := 40) (ls' := [some (.ref 42), some (.int l1), some (.int l2), some (.int l3)]) (st' := [.int l3, .int l2]) (g' := g) (by decide +kernel) rfl ?_
          refine xcallSN A (ix := 39) (nxt := 43) (host := "NoonRinger") hrm hz [.int l3] [.int l2] 23 (c_X11_bit hS _ rfl) ok_X11_bit (by decide +kernel) rfl (fun r g1 hq => ?_)
          rw [hq.1, hq.2]
          show xW k S 0 0 43 [some (.ref 42), some (.int l1), some (.int l2), some (.int l3)] [.int (f_X11_bit l3), .int l2] g
          refine xb A [(.ior, 1, 0, 0, .null), (.istore_n 2, 1, 0, 0, .null), (.iinc 3 1, 3, 0, 0, .null)] (pc' := 48) (ls' := [some (.ref 42), some (.int l1), some (.int (l2 ||| (f_X11_bit l3))), some (.int (l3 + 1))]) (st' := []) (g' := g) (by decide +kernel) rfl ?_
          refine xgoto A (-44) 4 (by decide +kernel) ?_
          exact ih _ _ _ H
set_option maxRecDepth 20000 in
theorem c_X7_openRoadsOf_42 {S : List xSh} (hS : xpf SH1 S) {g : xG} {p1 : Int32} (out : Int32) (H : f_X7_openRoadsOf_42 p1 g = some out) : xC mX7_openRoadsOf 3 64 0 0 S [.ref 42, .int p1] g S (fun r g' => r = some (.int out) ∧ g' = g) := by
  have H : (f_X7_openRoadsOf_42_4 g xN p1 0 0) = some out := H
  refine xC.of 7 SH1 [some (.ref 42), some (.int p1), none, none] hS (by decide +kernel) rfl (fun _ _ => Nat.le_of_ble_eq_true rfl) (fun _ _ => rfl) ?_
  intro k A hR hrm hz
  refine xb A [(.iconst 0, 1, 0, 0, .int 0), (.istore_n 2, 1, 0, 0, .null), (.iconst 0, 1, 0, 0, .int 0), (.istore_n 3, 1, 0, 0, .null)] (pc' := 4) (ls' := [some (.ref 42), some (.int p1), some (.int 0), some (.int 0)]) (st' := []) (g' := g) (by decide +kernel) rfl ?_
  exact t_X7_openRoadsOf_42_4 hS A hR hrm hz _ _ _ _ H
def f_X11_town_0 (p1 : Int32) (p2 : Int32) (g : xG) : Option (Int32) :=
  if (f_X4_isTown_3 p1 g) = 0 then
    some (-1)
  else
    if p2 = 0 then
      if p1 = (f_X4_capital_3 g) then
        some 1
      else
        some 0
    else
      if p2 = 1 then
        (f_X7_openRoadsOf_42 p1 g).bind fun w1 =>
        some w1
      else
        if p2 = 2 then
          (f_X6_peopleIn_48 p1 (f_X4_people_3 g) g).bind fun w2 =>
          some w2
        else
          if p2 = 3 then
            some (f_X10_between_38 p1 (f_X4_capital_3 g) g)
          else
            some (-1)
set_option maxRecDepth 20000 in
theorem c_X11_town_0 {S : List xSh} (hS : xpf SH1 S) {g : xG} {p1 : Int32} {p2 : Int32} (out : Int32) (H : f_X11_town_0 p1 p2 g = some out) : xC mX11_town 4 87 0 0 S [.ref 0, .int p1, .int p2] g S (fun r g' => r = some (.int out) ∧ g' = g) := by
  have H : (if (f_X4_isTown_3 p1 g) = 0 then
  some (-1)
else
  if p2 = 0 then
    if p1 = (f_X4_capital_3 g) then
      some 1
    else
      some 0
  else
    if p2 = 1 then
      (f_X7_openRoadsOf_42 p1 g).bind fun w1 =>
      some w1
    else
      if p2 = 2 then
        (f_X6_peopleIn_48 p1 (f_X4_people_3 g) g).bind fun w2 =>
        some w2
      else
        if p2 = 3 then
          some (f_X10_between_38 p1 (f_X4_capital_3 g) g)
        else
          some (-1)) = some out := H
  refine xC.of 11 SH1 [some (.ref 0), some (.int p1), some (.int p2)] hS (by decide +kernel) rfl (fun _ _ => Nat.le_of_ble_eq_true rfl) (fun _ _ => rfl) ?_
  intro k A hR hrm hz
  refine xb A [(.aload_n 0, 1, 0, 0, .null), (.getfield 19, 3, 0, 1, .ref 3), (.iload_n 1, 1, 0, 0, .null)] (pc' := 5) (ls' := [some (.ref 0), some (.int p1), some (.int p2)]) (st' := [.int p1, .ref 3]) (g' := g) (by decide +kernel) rfl ?_
  refine xcallV A (ix := 149) (nxt := 8) hrm hz [.int p1] [] 893 (c_X4_isTown_3 hS _ rfl) ok_X4_isTown (by decide +kernel) rfl (fun r g1 hq => ?_)
  rw [hq.1, hq.2]
  show xW k S 0 0 8 [some (.ref 0), some (.int p1), some (.int p2)] [.int (f_X4_isTown_3 p1 g)] g
  refine xif_ne A (5) 13 11 (by decide +kernel) (fun h1 => ?_) (fun h1 => ?_)
  · rw [if_neg h1] at H
    refine xb A [(.iload_n 2, 1, 0, 0, .null)] (pc' := 14) (ls' := [some (.ref 0), some (.int p1), some (.int p2)]) (st' := [.int p2]) (g' := g) (by decide +kernel) rfl ?_
    by_cases h2 : p2 = 0
    · rw [if_pos h2] at H
      refine xtabIn A (dflt := 88) (lo := 0) (hi := 3) (off := 30) (offs := #[(30), (47), (56), (72)]) (len := 30) (tgt := 44) (0) (by rw [h2]; rfl) (by decide +kernel) ?_
      refine xb A [(.iload_n 1, 1, 0, 0, .null), (.aload_n 0, 1, 0, 0, .null), (.getfield 19, 3, 0, 1, .ref 3)] (pc' := 49) (ls' := [some (.ref 0), some (.int p1), some (.int p2)]) (st' := [.ref 3, .int p1]) (g' := g) (by decide +kernel) rfl ?_
      refine xcallV A (ix := 152) (nxt := 52) hrm hz [] [.int p1] 894 (c_X4_capital_3 hS _ rfl) ok_X4_capital (by decide +kernel) rfl (fun r g1 hq => ?_)
      rw [hq.1, hq.2]
      show xW k S 0 0 52 [some (.ref 0), some (.int p1), some (.int p2)] [.int (f_X4_capital_3 g), .int p1] g
      refine xic_ne A (7) 59 55 (by decide +kernel) (fun h3 => ?_) (fun h3 => ?_)
      · rw [if_neg h3] at H
        refine xb A [(.iconst 0, 1, 0, 0, .int 0)] (pc' := 60) (ls' := [some (.ref 0), some (.int p1), some (.int p2)]) (st' := [.int 0]) (g' := g) (by decide +kernel) rfl ?_
        obtain rfl := Option.some.inj H
        exact xret_i A hR hz (by decide +kernel) rfl ⟨rfl, rfl⟩
      · rw [if_pos h3] at H
        refine xb A [(.iconst 1, 1, 0, 0, .int 1)] (pc' := 56) (ls' := [some (.ref 0), some (.int p1), some (.int p2)]) (st' := [.int 1]) (g' := g) (by decide +kernel) rfl ?_
        refine xgoto A (4) 60 (by decide +kernel) ?_
        obtain rfl := Option.some.inj H
        exact xret_i A hR hz (by decide +kernel) rfl ⟨rfl, rfl⟩
    · rw [if_neg h2] at H
      by_cases h4 : p2 = 1
      · rw [if_pos h4] at H
        refine xtabIn A (dflt := 88) (lo := 0) (hi := 3) (off := 47) (offs := #[(30), (47), (56), (72)]) (len := 30) (tgt := 61) (1) (by rw [h4]; rfl) (by decide +kernel) ?_
        refine xb A [(.aload_n 0, 1, 0, 0, .null), (.getfield 49, 3, 0, 5, .ref 42), (.iload_n 1, 1, 0, 0, .null)] (pc' := 66) (ls' := [some (.ref 0), some (.int p1), some (.int p2)]) (st' := [.int p1, .ref 42]) (g' := g) (by decide +kernel) rfl ?_
        obtain ⟨w1, e1, H⟩ := xbind H
        refine xcallV A (ix := 155) (nxt := 69) hrm hz [.int p1] [] 898 (c_X7_openRoadsOf_42 hS _ e1) ok_X7_openRoadsOf (by decide +kernel) rfl (fun r g1 hq => ?_)
        rw [hq.1, hq.2]
        show xW k S 0 0 69 [some (.ref 0), some (.int p1), some (.int p2)] [.int w1] g
        obtain rfl := Option.some.inj H
        exact xret_i A hR hz (by decide +kernel) rfl ⟨rfl, rfl⟩
      · rw [if_neg h4] at H
        by_cases h5 : p2 = 2
        · rw [if_pos h5] at H
          refine xtabIn A (dflt := 88) (lo := 0) (hi := 3) (off := 56) (offs := #[(30), (47), (56), (72)]) (len := 30) (tgt := 70) (2) (by rw [h5]; rfl) (by decide +kernel) ?_
          refine xb A [(.aload_n 0, 1, 0, 0, .null), (.getfield 66, 3, 0, 8, .ref 48), (.iload_n 1, 1, 0, 0, .null), (.aload_n 0, 1, 0, 0, .null), (.getfield 19, 3, 0, 1, .ref 3)] (pc' := 79) (ls' := [some (.ref 0), some (.int p1), some (.int p2)]) (st' := [.ref 3, .int p1, .ref 48]) (g' := g) (by decide +kernel) rfl ?_
          refine xcallV A (ix := 158) (nxt := 82) hrm hz [] [.int p1, .ref 48] 912 (c_X4_people_3 hS _ rfl) ok_X4_people (by decide +kernel) rfl (fun r g1 hq => ?_)
          rw [hq.1, hq.2]
          show xW k S 0 0 82 [some (.ref 0), some (.int p1), some (.int p2)] [.int (f_X4_people_3 g), .int p1, .ref 48] g
          obtain ⟨w2, e2, H⟩ := xbind H
          refine xcallV A (ix := 161) (nxt := 85) hrm hz [.int p1, .int (f_X4_people_3 g)] [] 913 (c_X6_peopleIn_48 hS _ e2) ok_X6_peopleIn (by decide +kernel) rfl (fun r g1 hq => ?_)
          rw [hq.1, hq.2]
          show xW k S 0 0 85 [some (.ref 0), some (.int p1), some (.int p2)] [.int w2] g
          obtain rfl := Option.some.inj H
          exact xret_i A hR hz (by decide +kernel) rfl ⟨rfl, rfl⟩
        · rw [if_neg h5] at H
          by_cases h6 : p2 = 3
          · rw [if_pos h6] at H
            refine xtabIn A (dflt := 88) (lo := 0) (hi := 3) (off := 72) (offs := #[(30), (47), (56), (72)]) (len := 30) (tgt := 86) (3) (by rw [h6]; rfl) (by decide +kernel) ?_
            refine xb A [(.aload_n 0, 1, 0, 0, .null), (.getfield 37, 3, 0, 3, .ref 38), (.iload_n 1, 1, 0, 0, .null), (.aload_n 0, 1, 0, 0, .null), (.getfield 19, 3, 0, 1, .ref 3)] (pc' := 95) (ls' := [some (.ref 0), some (.int p1), some (.int p2)]) (st' := [.ref 3, .int p1, .ref 38]) (g' := g) (by decide +kernel) rfl ?_
            refine xcallV A (ix := 152) (nxt := 98) hrm hz [] [.int p1, .ref 38] 894 (c_X4_capital_3 hS _ rfl) ok_X4_capital (by decide +kernel) rfl (fun r g1 hq => ?_)
            rw [hq.1, hq.2]
            show xW k S 0 0 98 [some (.ref 0), some (.int p1), some (.int p2)] [.int (f_X4_capital_3 g), .int p1, .ref 38] g
            refine xcallV A (ix := 165) (nxt := 101) hrm hz [.int p1, .int (f_X4_capital_3 g)] [] 918 (c_X10_between_38 hS _ rfl) ok_X10_between (by decide +kernel) rfl (fun r g1 hq => ?_)
            rw [hq.1, hq.2]
            show xW k S 0 0 101 [some (.ref 0), some (.int p1), some (.int p2)] [.int (f_X10_between_38 p1 (f_X4_capital_3 g) g)] g
            obtain rfl := Option.some.inj H
            exact xret_i A hR hz (by decide +kernel) rfl ⟨rfl, rfl⟩
          · rw [if_neg h6] at H
            refine xtabOut A (dflt := 88) (lo := 0) (hi := 3) (offs := #[(30), (47), (56), (72)]) (len := 30) (tgt := 102) (by decide +kernel) ?_ ?_
            · have e0 := lv_neT (a := 0) h2 rfl; have e1 := lv_neT (a := 1) h4 rfl; have e2 := lv_neT (a := 2) h5 rfl; have e3 := lv_neT (a := 3) h6 rfl; omega
            · skip
              refine xb A [(.iconst (-1), 1, 0, 0, .int (-1))] (pc' := 103) (ls' := [some (.ref 0), some (.int p1), some (.int p2)]) (st' := [.int (-1)]) (g' := g) (by decide +kernel) rfl ?_
              obtain rfl := Option.some.inj H
              exact xret_i A hR hz (by decide +kernel) rfl ⟨rfl, rfl⟩
  · rw [if_pos h1] at H
    refine xb A [(.iconst (-1), 1, 0, 0, .int (-1))] (pc' := 12) (ls' := [some (.ref 0), some (.int p1), some (.int p2)]) (st' := [.int (-1)]) (g' := g) (by decide +kernel) rfl ?_
    obtain rfl := Option.some.inj H
    exact xret_i A hR hz (by decide +kernel) rfl ⟨rfl, rfl⟩
def f_X11_road_0 (p1 : Int32) (p2 : Int32) (g : xG) : Int32 :=
  if (f_X4_isRoad_3 p1 g) = 0 then
    (-1)
  else
    if p2 = 0 then
      f_X4_oneEndOf_3 p1 g
    else
      if p2 = 1 then
        f_X4_otherEndOf_3 p1 g
      else
        if p2 = 2 then
          f_X4_milesOf_3 p1 g
        else
          if p2 = 3 then
            if (f_X10_isOpen_38 p1 g) = 0 then
              0
            else
              1
          else
            (-1)
set_option maxRecDepth 20000 in
theorem c_X11_road_0 {S : List xSh} (hS : xpf SH1 S) {g : xG} {p1 : Int32} {p2 : Int32} (out : Int32) (H : f_X11_road_0 p1 p2 g = out) : xC mX11_road 2 42 0 0 S [.ref 0, .int p1, .int p2] g S (fun r g' => r = some (.int out) ∧ g' = g) := by
  have H : (if (f_X4_isRoad_3 p1 g) = 0 then
  (-1)
else
  if p2 = 0 then
    f_X4_oneEndOf_3 p1 g
  else
    if p2 = 1 then
      f_X4_otherEndOf_3 p1 g
    else
      if p2 = 2 then
        f_X4_milesOf_3 p1 g
      else
        if p2 = 3 then
          if (f_X10_isOpen_38 p1 g) = 0 then
            0
          else
            1
        else
          (-1)) = out := H
  refine xC.of 11 SH1 [some (.ref 0), some (.int p1), some (.int p2)] hS (by decide +kernel) rfl (fun _ _ => Nat.le_of_ble_eq_true rfl) (fun _ _ => rfl) ?_
  intro k A hR hrm hz
  refine xb A [(.aload_n 0, 1, 0, 0, .null), (.getfield 19, 3, 0, 1, .ref 3), (.iload_n 1, 1, 0, 0, .null)] (pc' := 5) (ls' := [some (.ref 0), some (.int p1), some (.int p2)]) (st' := [.int p1, .ref 3]) (g' := g) (by decide +kernel) rfl ?_
  refine xcallV A (ix := 168) (nxt := 8) hrm hz [.int p1] [] 923 (c_X4_isRoad_3 hS _ rfl) ok_X4_isRoad (by decide +kernel) rfl (fun r g1 hq => ?_)
  rw [hq.1, hq.2]
  show xW k S 0 0 8 [some (.ref 0), some (.int p1), some (.int p2)] [.int (f_X4_isRoad_3 p1 g)] g
  refine xif_ne A (5) 13 11 (by decide +kernel) (fun h1 => ?_) (fun h1 => ?_)
  · rw [if_neg h1] at H
    refine xb A [(.iload_n 2, 1, 0, 0, .null)] (pc' := 14) (ls' := [some (.ref 0), some (.int p1), some (.int p2)]) (st' := [.int p2]) (g' := g) (by decide +kernel) rfl ?_
    by_cases h2 : p2 = 0
    · rw [if_pos h2] at H
      refine xtabIn A (dflt := 74) (lo := 0) (hi := 3) (off := 30) (offs := #[(30), (39), (48), (57)]) (len := 30) (tgt := 44) (0) (by rw [h2]; rfl) (by decide +kernel) ?_
      refine xb A [(.aload_n 0, 1, 0, 0, .null), (.getfield 19, 3, 0, 1, .ref 3), (.iload_n 1, 1, 0, 0, .null)] (pc' := 49) (ls' := [some (.ref 0), some (.int p1), some (.int p2)]) (st' := [.int p1, .ref 3]) (g' := g) (by decide +kernel) rfl ?_
      refine xcallV A (ix := 171) (nxt := 52) hrm hz [.int p1] [] 924 (c_X4_oneEndOf_3 hS _ rfl) ok_X4_oneEndOf (by decide +kernel) rfl (fun r g1 hq => ?_)
      rw [hq.1, hq.2]
      show xW k S 0 0 52 [some (.ref 0), some (.int p1), some (.int p2)] [.int (f_X4_oneEndOf_3 p1 g)] g
      subst H
      exact xret_i A hR hz (by decide +kernel) rfl ⟨rfl, rfl⟩
    · rw [if_neg h2] at H
      by_cases h3 : p2 = 1
      · rw [if_pos h3] at H
        refine xtabIn A (dflt := 74) (lo := 0) (hi := 3) (off := 39) (offs := #[(30), (39), (48), (57)]) (len := 30) (tgt := 53) (1) (by rw [h3]; rfl) (by decide +kernel) ?_
        refine xb A [(.aload_n 0, 1, 0, 0, .null), (.getfield 19, 3, 0, 1, .ref 3), (.iload_n 1, 1, 0, 0, .null)] (pc' := 58) (ls' := [some (.ref 0), some (.int p1), some (.int p2)]) (st' := [.int p1, .ref 3]) (g' := g) (by decide +kernel) rfl ?_
        refine xcallV A (ix := 174) (nxt := 61) hrm hz [.int p1] [] 925 (c_X4_otherEndOf_3 hS _ rfl) ok_X4_otherEndOf (by decide +kernel) rfl (fun r g1 hq => ?_)
        rw [hq.1, hq.2]
        show xW k S 0 0 61 [some (.ref 0), some (.int p1), some (.int p2)] [.int (f_X4_otherEndOf_3 p1 g)] g
        subst H
        exact xret_i A hR hz (by decide +kernel) rfl ⟨rfl, rfl⟩
      · rw [if_neg h3] at H
        by_cases h4 : p2 = 2
        · rw [if_pos h4] at H
          refine xtabIn A (dflt := 74) (lo := 0) (hi := 3) (off := 48) (offs := #[(30), (39), (48), (57)]) (len := 30) (tgt := 62) (2) (by rw [h4]; rfl) (by decide +kernel) ?_
          refine xb A [(.aload_n 0, 1, 0, 0, .null), (.getfield 19, 3, 0, 1, .ref 3), (.iload_n 1, 1, 0, 0, .null)] (pc' := 67) (ls' := [some (.ref 0), some (.int p1), some (.int p2)]) (st' := [.int p1, .ref 3]) (g' := g) (by decide +kernel) rfl ?_
          refine xcallV A (ix := 177) (nxt := 70) hrm hz [.int p1] [] 926 (c_X4_milesOf_3 hS _ rfl) ok_X4_milesOf (by decide +kernel) rfl (fun r g1 hq => ?_)
          rw [hq.1, hq.2]
          show xW k S 0 0 70 [some (.ref 0), some (.int p1), some (.int p2)] [.int (f_X4_milesOf_3 p1 g)] g
          subst H
          exact xret_i A hR hz (by decide +kernel) rfl ⟨rfl, rfl⟩
        · rw [if_neg h4] at H
          by_cases h5 : p2 = 3
          · rw [if_pos h5] at H
            refine xtabIn A (dflt := 74) (lo := 0) (hi := 3) (off := 57) (offs := #[(30), (39), (48), (57)]) (len := 30) (tgt := 71) (3) (by rw [h5]; rfl) (by decide +kernel) ?_
            refine xb A [(.aload_n 0, 1, 0, 0, .null), (.getfield 37, 3, 0, 3, .ref 38), (.iload_n 1, 1, 0, 0, .null)] (pc' := 76) (ls' := [some (.ref 0), some (.int p1), some (.int p2)]) (st' := [.int p1, .ref 38]) (g' := g) (by decide +kernel) rfl ?_
            refine xcallV A (ix := 180) (nxt := 79) hrm hz [.int p1] [] 927 (c_X10_isOpen_38 hS _ rfl) ok_X10_isOpen (by decide +kernel) rfl (fun r g1 hq => ?_)
            rw [hq.1, hq.2]
            show xW k S 0 0 79 [some (.ref 0), some (.int p1), some (.int p2)] [.int (f_X10_isOpen_38 p1 g)] g
            refine xif_eq A (7) 86 82 (by decide +kernel) (fun h6 => ?_) (fun h6 => ?_)
            · rw [if_pos h6] at H
              refine xb A [(.iconst 0, 1, 0, 0, .int 0)] (pc' := 87) (ls' := [some (.ref 0), some (.int p1), some (.int p2)]) (st' := [.int 0]) (g' := g) (by decide +kernel) rfl ?_
              subst H
              exact xret_i A hR hz (by decide +kernel) rfl ⟨rfl, rfl⟩
            · rw [if_neg h6] at H
              refine xb A [(.iconst 1, 1, 0, 0, .int 1)] (pc' := 83) (ls' := [some (.ref 0), some (.int p1), some (.int p2)]) (st' := [.int 1]) (g' := g) (by decide +kernel) rfl ?_
              refine xgoto A (4) 87 (by decide +kernel) ?_
              subst H
              exact xret_i A hR hz (by decide +kernel) rfl ⟨rfl, rfl⟩
          · rw [if_neg h5] at H
            refine xtabOut A (dflt := 74) (lo := 0) (hi := 3) (offs := #[(30), (39), (48), (57)]) (len := 30) (tgt := 88) (by decide +kernel) ?_ ?_
            · have e0 := lv_neT (a := 0) h2 rfl; have e1 := lv_neT (a := 1) h3 rfl; have e2 := lv_neT (a := 2) h4 rfl; have e3 := lv_neT (a := 3) h5 rfl; omega
            · skip
              refine xb A [(.iconst (-1), 1, 0, 0, .int (-1))] (pc' := 89) (ls' := [some (.ref 0), some (.int p1), some (.int p2)]) (st' := [.int (-1)]) (g' := g) (by decide +kernel) rfl ?_
              subst H
              exact xret_i A hR hz (by decide +kernel) rfl ⟨rfl, rfl⟩
  · rw [if_pos h1] at H
    refine xb A [(.iconst (-1), 1, 0, 0, .int (-1))] (pc' := 12) (ls' := [some (.ref 0), some (.int p1), some (.int p2)]) (st' := [.int (-1)]) (g' := g) (by decide +kernel) rfl ?_
    subst H
    exact xret_i A hR hz (by decide +kernel) rfl ⟨rfl, rfl⟩
def f_X4_isPerson_3 (p1 : Int32) (g : xG) : Int32 :=
  if p1 < 0 then
    0
  else
    if (g.1 3 11) ≤ p1 then
      0
    else
      1
set_option maxRecDepth 20000 in
theorem c_X4_isPerson_3 {S : List xSh} (hS : xpf SH1 S) {g : xG} {p1 : Int32} (out : Int32) (H : f_X4_isPerson_3 p1 g = out) : xC mX4_isPerson 0 0 0 0 S [.ref 3, .int p1] g S (fun r g' => r = some (.int out) ∧ g' = g) := by
  have H : (if p1 < 0 then
  0
else
  if (g.1 3 11) ≤ p1 then
    0
  else
    1) = out := H
  refine xC.of 4 SH1 [some (.ref 3), some (.int p1)] hS (by decide +kernel) rfl (fun _ _ => Nat.le_of_ble_eq_true rfl) (fun _ _ => rfl) ?_
  intro k A hR hrm hz
  refine xb A [(.iload_n 1, 1, 0, 0, .null)] (pc' := 1) (ls' := [some (.ref 3), some (.int p1)]) (st' := [.int p1]) (g' := g) (by decide +kernel) rfl ?_
  refine xif_lt A (15) 16 4 (by decide +kernel) (fun h1 => ?_) (fun h1 => ?_)
  · rw [if_pos h1] at H
    refine xb A [(.iconst 0, 1, 0, 0, .int 0)] (pc' := 17) (ls' := [some (.ref 3), some (.int p1)]) (st' := [.int 0]) (g' := g) (by decide +kernel) rfl ?_
    subst H
    exact xret_i A hR hz (by decide +kernel) rfl ⟨rfl, rfl⟩
  · rw [if_neg h1] at H
    refine xb A [(.iload_n 1, 1, 0, 0, .null), (.aload_n 0, 1, 0, 0, .null), (.getfield 51, 3, 3, 11, .int 0)] (pc' := 9) (ls' := [some (.ref 3), some (.int p1)]) (st' := [.int (g.1 3 11), .int p1]) (g' := g) (by decide +kernel) rfl ?_
    refine xic_ge A (7) 16 12 (by decide +kernel) (fun h2 => ?_) (fun h2 => ?_)
    · rw [if_pos h2] at H
      refine xb A [(.iconst 0, 1, 0, 0, .int 0)] (pc' := 17) (ls' := [some (.ref 3), some (.int p1)]) (st' := [.int 0]) (g' := g) (by decide +kernel) rfl ?_
      subst H
      exact xret_i A hR hz (by decide +kernel) rfl ⟨rfl, rfl⟩
    · rw [if_neg h2] at H
      refine xb A [(.iconst 1, 1, 0, 0, .int 1)] (pc' := 13) (ls' := [some (.ref 3), some (.int p1)]) (st' := [.int 1]) (g' := g) (by decide +kernel) rfl ?_
      refine xgoto A (4) 17 (by decide +kernel) ?_
      subst H
      exact xret_i A hR hz (by decide +kernel) rfl ⟨rfl, rfl⟩
def f_X4_homeOf_3 (p1 : Int32) (g : xG) : Int32 :=
  xat g 10 6 p1
set_option maxRecDepth 20000 in
theorem c_X4_homeOf_3 {S : List xSh} (hS : xpf SH1 S) {g : xG} {p1 : Int32} (out : Int32) (H : f_X4_homeOf_3 p1 g = out) : xC mX4_homeOf 1 21 0 0 S [.ref 3, .int p1] g S (fun r g' => r = some (.int out) ∧ g' = g) := by
  have H : (xat g 10 6 p1) = out := H
  refine xC.of 4 SH1 [some (.ref 3), some (.int p1)] hS (by decide +kernel) rfl (fun _ _ => Nat.le_of_ble_eq_true rfl) (fun _ _ => rfl) ?_
  intro k A hR hrm hz
  refine xb A [(.aload_n 0, 1, 0, 0, .null), (.getfield 31, 3, 3, 6, .ref 10), (.iload_n 1, 1, 0, 0, .null)] (pc' := 5) (ls' := [some (.ref 3), some (.int p1)]) (st' := [.int p1, .ref 10]) (g' := g) (by decide +kernel) rfl ?_
  refine xcallSN A (ix := 87) (nxt := 8) (host := "NoonRinger") hrm hz [.ref 10, .int p1] [] 8 (c_X11_at (hS _ _ sh_10) (by decide)) ok_X11_at (by decide +kernel) rfl (fun r g1 hq => ?_)
  rw [hq.1, hq.2]
  show xW k S 0 0 8 [some (.ref 3), some (.int p1)] [.int (xat g 10 6 p1)] g
  subst H
  exact xret_i A hR hz (by decide +kernel) rfl ⟨rfl, rfl⟩
theorem c_X4_laws_3 {S : List xSh} (hS : xpf SH1 S) {g : xG}  : xC mX4_laws 0 0 0 0 S [.ref 3] g S (fun r g' => r = some (.ref 12) ∧ g' = g) := by
  refine xC.of 4 SH1 [some (.ref 3)] hS (by decide +kernel) rfl (fun _ _ => Nat.le_of_ble_eq_true rfl) (fun _ _ => rfl) ?_
  intro k A hR hrm hz
  refine xb A [(.aload_n 0, 1, 0, 0, .null), (.getfield 40, 3, 3, 8, .ref 12)] (pc' := 4) (ls' := [some (.ref 3)]) (st' := [.ref 12]) (g' := g) (by decide +kernel) rfl ?_
  exact xret_a A hR hz (by decide +kernel) ⟨rfl, rfl⟩
def f_X6_of_48 (p1 : Int32) (p2 : Int32) (g : xG) : Int32 :=
  xat g 49 35 (p2 + p1)
set_option maxRecDepth 20000 in
theorem c_X6_of_48 {S : List xSh} (hS : xpf SH1 S) {g : xG} {p1 : Int32} {p2 : Int32} (out : Int32) (H : f_X6_of_48 p1 p2 g = out) : xC mX6_of 1 21 0 0 S [.ref 48, .int p1, .int p2] g S (fun r g' => r = some (.int out) ∧ g' = g) := by
  have H : (xat g 49 35 (p2 + p1)) = out := H
  refine xC.of 6 SH1 [some (.ref 48), some (.int p1), some (.int p2)] hS (by decide +kernel) rfl (fun _ _ => Nat.le_of_ble_eq_true rfl) (fun _ _ => rfl) ?_
  intro k A hR hrm hz
  refine xb A [(.aload_n 0, 1, 0, 0, .null), (.getfield 11, 3, 48, 0, .ref 49), (.iload_n 2, 1, 0, 0, .null), (.iload_n 1, 1, 0, 0, .null), (.iadd, 1, 0, 0, .null)] (pc' := 7) (ls' := [some (.ref 48), some (.int p1), some (.int p2)]) (st' := [.int (p2 + p1), .ref 49]) (g' := g) (by decide +kernel) rfl ?_
  refine xcallSN A (ix := 15) (nxt := 10) (host := "NoonRinger") hrm hz [.ref 49, .int (p2 + p1)] [] 9 (c_X11_at (hS _ _ sh_49) (by decide)) ok_X11_at (by decide +kernel) rfl (fun r g1 hq => ?_)
  rw [hq.1, hq.2]
  show xW k S 0 0 10 [some (.ref 48), some (.int p1), some (.int p2)] [.int (xat g 49 35 (p2 + p1))] g
  subst H
  exact xret_i A hR hz (by decide +kernel) rfl ⟨rfl, rfl⟩
def f_X4_honestyOf_3 (p1 : Int32) (g : xG) : Int32 :=
  xat g 9 6 p1
set_option maxRecDepth 20000 in
theorem c_X4_honestyOf_3 {S : List xSh} (hS : xpf SH1 S) {g : xG} {p1 : Int32} (out : Int32) (H : f_X4_honestyOf_3 p1 g = out) : xC mX4_honestyOf 1 21 0 0 S [.ref 3, .int p1] g S (fun r g' => r = some (.int out) ∧ g' = g) := by
  have H : (xat g 9 6 p1) = out := H
  refine xC.of 4 SH1 [some (.ref 3), some (.int p1)] hS (by decide +kernel) rfl (fun _ _ => Nat.le_of_ble_eq_true rfl) (fun _ _ => rfl) ?_
  intro k A hR hrm hz
  refine xb A [(.aload_n 0, 1, 0, 0, .null), (.getfield 28, 3, 3, 5, .ref 9), (.iload_n 1, 1, 0, 0, .null)] (pc' := 5) (ls' := [some (.ref 3), some (.int p1)]) (st' := [.int p1, .ref 9]) (g' := g) (by decide +kernel) rfl ?_
  refine xcallSN A (ix := 87) (nxt := 8) (host := "NoonRinger") hrm hz [.ref 9, .int p1] [] 8 (c_X11_at (hS _ _ sh_9) (by decide)) ok_X11_at (by decide +kernel) rfl (fun r g1 hq => ?_)
  rw [hq.1, hq.2]
  show xW k S 0 0 8 [some (.ref 3), some (.int p1)] [.int (xat g 9 6 p1)] g
  subst H
  exact xret_i A hR hz (by decide +kernel) rfl ⟨rfl, rfl⟩
def f_J6_bitCount_0f7a4 (p0 : Int32) : Int32 :=
  (((((((p0 - (((p0.toUInt32 >>> ((1 : Int32).toUInt32 &&& Int32.toUInt32 31)).toInt32) &&& 1431655765)) &&& 858993459) + ((((p0 - (((p0.toUInt32 >>> ((1 : Int32).toUInt32 &&& Int32.toUInt32 31)).toInt32) &&& 1431655765)).toUInt32 >>> ((2 : Int32).toUInt32 &&& Int32.toUInt32 31)).toInt32) &&& 858993459)) + (((((p0 - (((p0.toUInt32 >>> ((1 : Int32).toUInt32 &&& Int32.toUInt32 31)).toInt32) &&& 1431655765)) &&& 858993459) + ((((p0 - (((p0.toUInt32 >>> ((1 : Int32).toUInt32 &&& Int32.toUInt32 31)).toInt32) &&& 1431655765)).toUInt32 >>> ((2 : Int32).toUInt32 &&& Int32.toUInt32 31)).toInt32) &&& 858993459)).toUInt32 >>> ((4 : Int32).toUInt32 &&& Int32.toUInt32 31)).toInt32)) &&& 252645135) + (((((((p0 - (((p0.toUInt32 >>> ((1 : Int32).toUInt32 &&& Int32.toUInt32 31)).toInt32) &&& 1431655765)) &&& 858993459) + ((((p0 - (((p0.toUInt32 >>> ((1 : Int32).toUInt32 &&& Int32.toUInt32 31)).toInt32) &&& 1431655765)).toUInt32 >>> ((2 : Int32).toUInt32 &&& Int32.toUInt32 31)).toInt32) &&& 858993459)) + (((((p0 - (((p0.toUInt32 >>> ((1 : Int32).toUInt32 &&& Int32.toUInt32 31)).toInt32) &&& 1431655765)) &&& 858993459) + ((((p0 - (((p0.toUInt32 >>> ((1 : Int32).toUInt32 &&& Int32.toUInt32 31)).toInt32) &&& 1431655765)).toUInt32 >>> ((2 : Int32).toUInt32 &&& Int32.toUInt32 31)).toInt32) &&& 858993459)).toUInt32 >>> ((4 : Int32).toUInt32 &&& Int32.toUInt32 31)).toInt32)) &&& 252645135).toUInt32 >>> ((8 : Int32).toUInt32 &&& Int32.toUInt32 31)).toInt32)) + ((((((((p0 - (((p0.toUInt32 >>> ((1 : Int32).toUInt32 &&& Int32.toUInt32 31)).toInt32) &&& 1431655765)) &&& 858993459) + ((((p0 - (((p0.toUInt32 >>> ((1 : Int32).toUInt32 &&& Int32.toUInt32 31)).toInt32) &&& 1431655765)).toUInt32 >>> ((2 : Int32).toUInt32 &&& Int32.toUInt32 31)).toInt32) &&& 858993459)) + (((((p0 - (((p0.toUInt32 >>> ((1 : Int32).toUInt32 &&& Int32.toUInt32 31)).toInt32) &&& 1431655765)) &&& 858993459) + ((((p0 - (((p0.toUInt32 >>> ((1 : Int32).toUInt32 &&& Int32.toUInt32 31)).toInt32) &&& 1431655765)).toUInt32 >>> ((2 : Int32).toUInt32 &&& Int32.toUInt32 31)).toInt32) &&& 858993459)).toUInt32 >>> ((4 : Int32).toUInt32 &&& Int32.toUInt32 31)).toInt32)) &&& 252645135) + (((((((p0 - (((p0.toUInt32 >>> ((1 : Int32).toUInt32 &&& Int32.toUInt32 31)).toInt32) &&& 1431655765)) &&& 858993459) + ((((p0 - (((p0.toUInt32 >>> ((1 : Int32).toUInt32 &&& Int32.toUInt32 31)).toInt32) &&& 1431655765)).toUInt32 >>> ((2 : Int32).toUInt32 &&& Int32.toUInt32 31)).toInt32) &&& 858993459)) + (((((p0 - (((p0.toUInt32 >>> ((1 : Int32).toUInt32 &&& Int32.toUInt32 31)).toInt32) &&& 1431655765)) &&& 858993459) + ((((p0 - (((p0.toUInt32 >>> ((1 : Int32).toUInt32 &&& Int32.toUInt32 31)).toInt32) &&& 1431655765)).toUInt32 >>> ((2 : Int32).toUInt32 &&& Int32.toUInt32 31)).toInt32) &&& 858993459)).toUInt32 >>> ((4 : Int32).toUInt32 &&& Int32.toUInt32 31)).toInt32)) &&& 252645135).toUInt32 >>> ((8 : Int32).toUInt32 &&& Int32.toUInt32 31)).toInt32)).toUInt32 >>> ((16 : Int32).toUInt32 &&& Int32.toUInt32 31)).toInt32)) &&& 63
set_option maxRecDepth 20000 in
theorem c_J6_bitCount_0f7a4 {S : List xSh} (hS : xpf SH1 S) {g : xG} {p0 : Int32} (out : Int32) (H : f_J6_bitCount_0f7a4 p0 = out) : xC mJ6_bitCount_0f7a4 0 0 0 0 S [.int p0] g S (fun r g' => r = some (.int out) ∧ g' = g) := by
  have H : ((((((((p0 - (((p0.toUInt32 >>> ((1 : Int32).toUInt32 &&& Int32.toUInt32 31)).toInt32) &&& 1431655765)) &&& 858993459) + ((((p0 - (((p0.toUInt32 >>> ((1 : Int32).toUInt32 &&& Int32.toUInt32 31)).toInt32) &&& 1431655765)).toUInt32 >>> ((2 : Int32).toUInt32 &&& Int32.toUInt32 31)).toInt32) &&& 858993459)) + (((((p0 - (((p0.toUInt32 >>> ((1 : Int32).toUInt32 &&& Int32.toUInt32 31)).toInt32) &&& 1431655765)) &&& 858993459) + ((((p0 - (((p0.toUInt32 >>> ((1 : Int32).toUInt32 &&& Int32.toUInt32 31)).toInt32) &&& 1431655765)).toUInt32 >>> ((2 : Int32).toUInt32 &&& Int32.toUInt32 31)).toInt32) &&& 858993459)).toUInt32 >>> ((4 : Int32).toUInt32 &&& Int32.toUInt32 31)).toInt32)) &&& 252645135) + (((((((p0 - (((p0.toUInt32 >>> ((1 : Int32).toUInt32 &&& Int32.toUInt32 31)).toInt32) &&& 1431655765)) &&& 858993459) + ((((p0 - (((p0.toUInt32 >>> ((1 : Int32).toUInt32 &&& Int32.toUInt32 31)).toInt32) &&& 1431655765)).toUInt32 >>> ((2 : Int32).toUInt32 &&& Int32.toUInt32 31)).toInt32) &&& 858993459)) + (((((p0 - (((p0.toUInt32 >>> ((1 : Int32).toUInt32 &&& Int32.toUInt32 31)).toInt32) &&& 1431655765)) &&& 858993459) + ((((p0 - (((p0.toUInt32 >>> ((1 : Int32).toUInt32 &&& Int32.toUInt32 31)).toInt32) &&& 1431655765)).toUInt32 >>> ((2 : Int32).toUInt32 &&& Int32.toUInt32 31)).toInt32) &&& 858993459)).toUInt32 >>> ((4 : Int32).toUInt32 &&& Int32.toUInt32 31)).toInt32)) &&& 252645135).toUInt32 >>> ((8 : Int32).toUInt32 &&& Int32.toUInt32 31)).toInt32)) + ((((((((p0 - (((p0.toUInt32 >>> ((1 : Int32).toUInt32 &&& Int32.toUInt32 31)).toInt32) &&& 1431655765)) &&& 858993459) + ((((p0 - (((p0.toUInt32 >>> ((1 : Int32).toUInt32 &&& Int32.toUInt32 31)).toInt32) &&& 1431655765)).toUInt32 >>> ((2 : Int32).toUInt32 &&& Int32.toUInt32 31)).toInt32) &&& 858993459)) + (((((p0 - (((p0.toUInt32 >>> ((1 : Int32).toUInt32 &&& Int32.toUInt32 31)).toInt32) &&& 1431655765)) &&& 858993459) + ((((p0 - (((p0.toUInt32 >>> ((1 : Int32).toUInt32 &&& Int32.toUInt32 31)).toInt32) &&& 1431655765)).toUInt32 >>> ((2 : Int32).toUInt32 &&& Int32.toUInt32 31)).toInt32) &&& 858993459)).toUInt32 >>> ((4 : Int32).toUInt32 &&& Int32.toUInt32 31)).toInt32)) &&& 252645135) + (((((((p0 - (((p0.toUInt32 >>> ((1 : Int32).toUInt32 &&& Int32.toUInt32 31)).toInt32) &&& 1431655765)) &&& 858993459) + ((((p0 - (((p0.toUInt32 >>> ((1 : Int32).toUInt32 &&& Int32.toUInt32 31)).toInt32) &&& 1431655765)).toUInt32 >>> ((2 : Int32).toUInt32 &&& Int32.toUInt32 31)).toInt32) &&& 858993459)) + (((((p0 - (((p0.toUInt32 >>> ((1 : Int32).toUInt32 &&& Int32.toUInt32 31)).toInt32) &&& 1431655765)) &&& 858993459) + ((((p0 - (((p0.toUInt32 >>> ((1 : Int32).toUInt32 &&& Int32.toUInt32 31)).toInt32) &&& 1431655765)).toUInt32 >>> ((2 : Int32).toUInt32 &&& Int32.toUInt32 31)).toInt32) &&& 858993459)).toUInt32 >>> ((4 : Int32).toUInt32 &&& Int32.toUInt32 31)).toInt32)) &&& 252645135).toUInt32 >>> ((8 : Int32).toUInt32 &&& Int32.toUInt32 31)).toInt32)).toUInt32 >>> ((16 : Int32).toUInt32 &&& Int32.toUInt32 31)).toInt32)) &&& 63) = out := H
  refine xC.of 15 SH1 [some (.int p0)] hS (by decide +kernel) rfl (fun _ _ => Nat.le_of_ble_eq_true rfl) (fun _ _ => rfl) ?_
  intro k A hR hrm hz
  refine xb A [(.iload_n 0, 1, 0, 0, .null), (.iload_n 0, 1, 0, 0, .null), (.iconst 1, 1, 0, 0, .int 1), (.iushr, 1, 0, 0, .null), (.ldc_w 265, 3, 0, 0, .int 1431655765), (.iand, 1, 0, 0, .null), (.isub, 1, 0, 0, .null), (.istore_n 0, 1, 0, 0, .null), (.iload_n 0, 1, 0, 0, .null), (.ldc_w 266, 3, 0, 0, .int 858993459), (.iand, 1, 0, 0, .null), (.iload_n 0, 1, 0, 0, .null), (.iconst 2, 1, 0, 0, .int 2), (.iushr, 1, 0, 0, .null), (.ldc_w 266, 3, 0, 0, .int 858993459), (.iand, 1, 0, 0, .null), (.iadd, 1, 0, 0, .null), (.istore_n 0, 1, 0, 0, .null), (.iload_n 0, 1, 0, 0, .null), (.iload_n 0, 1, 0, 0, .null), (.iconst 4, 1, 0, 0, .int 4), (.iushr, 1, 0, 0, .null), (.iadd, 1, 0, 0, .null), (.ldc_w 267, 3, 0, 0, .int 252645135), (.iand, 1, 0, 0, .null), (.istore_n 0, 1, 0, 0, .null), (.iload_n 0, 1, 0, 0, .null), (.iload_n 0, 1, 0, 0, .null), (.bipush 8, 2, 0, 0, .int 8), (.iushr, 1, 0, 0, .null), (.iadd, 1, 0, 0, .null), (.istore_n 0, 1, 0, 0, .null), (.iload_n 0, 1, 0, 0, .null), (.iload_n 0, 1, 0, 0, .null), (.bipush 16, 2, 0, 0, .int 16), (.iushr, 1, 0, 0, .null), (.iadd, 1, 0, 0, .null), (.istore_n 0, 1, 0, 0, .null), (.iload_n 0, 1, 0, 0, .null), (.bipush 63, 2, 0, 0, .int 63), (.iand, 1, 0, 0, .null)] (pc' := 52) (ls' := [some (.int (((((((p0 - (((p0.toUInt32 >>> ((1 : Int32).toUInt32 &&& Int32.toUInt32 31)).toInt32) &&& 1431655765)) &&& 858993459) + ((((p0 - (((p0.toUInt32 >>> ((1 : Int32).toUInt32 &&& Int32.toUInt32 31)).toInt32) &&& 1431655765)).toUInt32 >>> ((2 : Int32).toUInt32 &&& Int32.toUInt32 31)).toInt32) &&& 858993459)) + (((((p0 - (((p0.toUInt32 >>> ((1 : Int32).toUInt32 &&& Int32.toUInt32 31)).toInt32) &&& 1431655765)) &&& 858993459) + ((((p0 - (((p0.toUInt32 >>> ((1 : Int32).toUInt32 &&& Int32.toUInt32 31)).toInt32) &&& 1431655765)).toUInt32 >>> ((2 : Int32).toUInt32 &&& Int32.toUInt32 31)).toInt32) &&& 858993459)).toUInt32 >>> ((4 : Int32).toUInt32 &&& Int32.toUInt32 31)).toInt32)) &&& 252645135) + (((((((p0 - (((p0.toUInt32 >>> ((1 : Int32).toUInt32 &&& Int32.toUInt32 31)).toInt32) &&& 1431655765)) &&& 858993459) + ((((p0 - (((p0.toUInt32 >>> ((1 : Int32).toUInt32 &&& Int32.toUInt32 31)).toInt32) &&& 1431655765)).toUInt32 >>> ((2 : Int32).toUInt32 &&& Int32.toUInt32 31)).toInt32) &&& 858993459)) + (((((p0 - (((p0.toUInt32 >>> ((1 : Int32).toUInt32 &&& Int32.toUInt32 31)).toInt32) &&& 1431655765)) &&& 858993459) + ((((p0 - (((p0.toUInt32 >>> ((1 : Int32).toUInt32 &&& Int32.toUInt32 31)).toInt32) &&& 1431655765)).toUInt32 >>> ((2 : Int32).toUInt32 &&& Int32.toUInt32 31)).toInt32) &&& 858993459)).toUInt32 >>> ((4 : Int32).toUInt32 &&& Int32.toUInt32 31)).toInt32)) &&& 252645135).toUInt32 >>> ((8 : Int32).toUInt32 &&& Int32.toUInt32 31)).toInt32)) + ((((((((p0 - (((p0.toUInt32 >>> ((1 : Int32).toUInt32 &&& Int32.toUInt32 31)).toInt32) &&& 1431655765)) &&& 858993459) + ((((p0 - (((p0.toUInt32 >>> ((1 : Int32).toUInt32 &&& Int32.toUInt32 31)).toInt32) &&& 1431655765)).toUInt32 >>> ((2 : Int32).toUInt32 &&& Int32.toUInt32 31)).toInt32) &&& 858993459)) + (((((p0 - (((p0.toUInt32 >>> ((1 : Int32).toUInt32 &&& Int32.toUInt32 31)).toInt32) &&& 1431655765)) &&& 858993459) + ((((p0 - (((p0.toUInt32 >>> ((1 : Int32).toUInt32 &&& Int32.toUInt32 31)).toInt32) &&& 1431655765)).toUInt32 >>> ((2 : Int32).toUInt32 &&& Int32.toUInt32 31)).toInt32) &&& 858993459)).toUInt32 >>> ((4 : Int32).toUInt32 &&& Int32.toUInt32 31)).toInt32)) &&& 252645135) + (((((((p0 - (((p0.toUInt32 >>> ((1 : Int32).toUInt32 &&& Int32.toUInt32 31)).toInt32) &&& 1431655765)) &&& 858993459) + ((((p0 - (((p0.toUInt32 >>> ((1 : Int32).toUInt32 &&& Int32.toUInt32 31)).toInt32) &&& 1431655765)).toUInt32 >>> ((2 : Int32).toUInt32 &&& Int32.toUInt32 31)).toInt32) &&& 858993459)) + (((((p0 - (((p0.toUInt32 >>> ((1 : Int32).toUInt32 &&& Int32.toUInt32 31)).toInt32) &&& 1431655765)) &&& 858993459) + ((((p0 - (((p0.toUInt32 >>> ((1 : Int32).toUInt32 &&& Int32.toUInt32 31)).toInt32) &&& 1431655765)).toUInt32 >>> ((2 : Int32).toUInt32 &&& Int32.toUInt32 31)).toInt32) &&& 858993459)).toUInt32 >>> ((4 : Int32).toUInt32 &&& Int32.toUInt32 31)).toInt32)) &&& 252645135).toUInt32 >>> ((8 : Int32).toUInt32 &&& Int32.toUInt32 31)).toInt32)).toUInt32 >>> ((16 : Int32).toUInt32 &&& Int32.toUInt32 31)).toInt32)))]) (st' := [.int ((((((((p0 - (((p0.toUInt32 >>> ((1 : Int32).toUInt32 &&& Int32.toUInt32 31)).toInt32) &&& 1431655765)) &&& 858993459) + ((((p0 - (((p0.toUInt32 >>> ((1 : Int32).toUInt32 &&& Int32.toUInt32 31)).toInt32) &&& 1431655765)).toUInt32 >>> ((2 : Int32).toUInt32 &&& Int32.toUInt32 31)).toInt32) &&& 858993459)) + (((((p0 - (((p0.toUInt32 >>> ((1 : Int32).toUInt32 &&& Int32.toUInt32 31)).toInt32) &&& 1431655765)) &&& 858993459) + ((((p0 - (((p0.toUInt32 >>> ((1 : Int32).toUInt32 &&& Int32.toUInt32 31)).toInt32) &&& 1431655765)).toUInt32 >>> ((2 : Int32).toUInt32 &&& Int32.toUInt32 31)).toInt32) &&& 858993459)).toUInt32 >>> ((4 : Int32).toUInt32 &&& Int32.toUInt32 31)).toInt32)) &&& 252645135) + (((((((p0 - (((p0.toUInt32 >>> ((1 : Int32).toUInt32 &&& Int32.toUInt32 31)).toInt32) &&& 1431655765)) &&& 858993459) + ((((p0 - (((p0.toUInt32 >>> ((1 : Int32).toUInt32 &&& Int32.toUInt32 31)).toInt32) &&& 1431655765)).toUInt32 >>> ((2 : Int32).toUInt32 &&& Int32.toUInt32 31)).toInt32) &&& 858993459)) + (((((p0 - (((p0.toUInt32 >>> ((1 : Int32).toUInt32 &&& Int32.toUInt32 31)).toInt32) &&& 1431655765)) &&& 858993459) + ((((p0 - (((p0.toUInt32 >>> ((1 : Int32).toUInt32 &&& Int32.toUInt32 31)).toInt32) &&& 1431655765)).toUInt32 >>> ((2 : Int32).toUInt32 &&& Int32.toUInt32 31)).toInt32) &&& 858993459)).toUInt32 >>> ((4 : Int32).toUInt32 &&& Int32.toUInt32 31)).toInt32)) &&& 252645135).toUInt32 >>> ((8 : Int32).toUInt32 &&& Int32.toUInt32 31)).toInt32)) + ((((((((p0 - (((p0.toUInt32 >>> ((1 : Int32).toUInt32 &&& Int32.toUInt32 31)).toInt32) &&& 1431655765)) &&& 858993459) + ((((p0 - (((p0.toUInt32 >>> ((1 : Int32).toUInt32 &&& Int32.toUInt32 31)).toInt32) &&& 1431655765)).toUInt32 >>> ((2 : Int32).toUInt32 &&& Int32.toUInt32 31)).toInt32) &&& 858993459)) + (((((p0 - (((p0.toUInt32 >>> ((1 : Int32).toUInt32 &&& Int32.toUInt32 31)).toInt32) &&& 1431655765)) &&& 858993459) + ((((p0 - (((p0.toUInt32 >>> ((1 : Int32).toUInt32 &&& Int32.toUInt32 31)).toInt32) &&& 1431655765)).toUInt32 >>> ((2 : Int32).toUInt32 &&& Int32.toUInt32 31)).toInt32) &&& 858993459)).toUInt32 >>> ((4 : Int32).toUInt32 &&& Int32.toUInt32 31)).toInt32)) &&& 252645135) + (((((((p0 - (((p0.toUInt32 >>> ((1 : Int32).toUInt32 &&& Int32.toUInt32 31)).toInt32) &&& 1431655765)) &&& 858993459) + ((((p0 - (((p0.toUInt32 >>> ((1 : Int32).toUInt32 &&& Int32.toUInt32 31)).toInt32) &&& 1431655765)).toUInt32 >>> ((2 : Int32).toUInt32 &&& Int32.toUInt32 31)).toInt32) &&& 858993459)) + (((((p0 - (((p0.toUInt32 >>> ((1 : Int32).toUInt32 &&& Int32.toUInt32 31)).toInt32) &&& 1431655765)) &&& 858993459) + ((((p0 - (((p0.toUInt32 >>> ((1 : Int32).toUInt32 &&& Int32.toUInt32 31)).toInt32) &&& 1431655765)).toUInt32 >>> ((2 : Int32).toUInt32 &&& Int32.toUInt32 31)).toInt32) &&& 858993459)).toUInt32 >>> ((4 : Int32).toUInt32 &&& Int32.toUInt32 31)).toInt32)) &&& 252645135).toUInt32 >>> ((8 : Int32).toUInt32 &&& Int32.toUInt32 31)).toInt32)).toUInt32 >>> ((16 : Int32).toUInt32 &&& Int32.toUInt32 31)).toInt32)) &&& 63)]) (g' := g) (by decide +kernel) rfl ?_
  subst H
  exact xret_i A hR hz (by decide +kernel) rfl ⟨rfl, rfl⟩
def f_X2_mostOf (p0 : Int32) : Int32 :=
  if p0 = 2 then
    99
  else
    if p0 = 3 then
      100
    else
      999
set_option maxRecDepth 20000 in
theorem c_X2_mostOf {S : List xSh} (hS : xpf SH1 S) {g : xG} {p0 : Int32} (out : Int32) (H : f_X2_mostOf p0 = out) : xC mX2_mostOf 0 0 0 0 S [.int p0] g S (fun r g' => r = some (.int out) ∧ g' = g) := by
  have H : (if p0 = 2 then
  99
else
  if p0 = 3 then
    100
  else
    999) = out := H
  refine xC.of 2 SH1 [some (.int p0)] hS (by decide +kernel) rfl (fun _ _ => Nat.le_of_ble_eq_true rfl) (fun _ _ => rfl) ?_
  intro k A hR hrm hz
  refine xb A [(.iload_n 0, 1, 0, 0, .null)] (pc' := 1) (ls' := [some (.int p0)]) (st' := [.int p0]) (g' := g) (by decide +kernel) rfl ?_
  by_cases h1 : p0 = 2
  · rw [if_pos h1] at H
    refine xlook A (dflt := 33) (ps := #[(2, 27), (3, 30)]) (len := 27) (off := 27) (tgt := 28) (by decide +kernel) (by rw [h1]; rfl) ?_
    refine xb A [(.bipush 99, 2, 0, 0, .int 99)] (pc' := 30) (ls' := [some (.int p0)]) (st' := [.int 99]) (g' := g) (by decide +kernel) rfl ?_
    subst H
    exact xret_i A hR hz (by decide +kernel) rfl ⟨rfl, rfl⟩
  · rw [if_neg h1] at H
    by_cases h2 : p0 = 3
    · rw [if_pos h2] at H
      refine xlook A (dflt := 33) (ps := #[(2, 27), (3, 30)]) (len := 27) (off := 30) (tgt := 31) (by decide +kernel) (by rw [h2]; rfl) ?_
      refine xb A [(.bipush 100, 2, 0, 0, .int 100)] (pc' := 33) (ls' := [some (.int p0)]) (st' := [.int 100]) (g' := g) (by decide +kernel) rfl ?_
      subst H
      exact xret_i A hR hz (by decide +kernel) rfl ⟨rfl, rfl⟩
    · rw [if_neg h2] at H
      refine xlook A (dflt := 33) (ps := #[(2, 27), (3, 30)]) (len := 27) (off := 33) (tgt := 34) (by decide +kernel) (by show Op.lookupswitch.offset [(2, 27), (3, 30)] 33 _ = _; rw [lv_osw (a := 2) h1 rfl]; rw [lv_osw (a := 3) h2 rfl]; rfl) ?_
      refine xb A [(.sipush 999, 3, 0, 0, .int 999)] (pc' := 37) (ls' := [some (.int p0)]) (st' := [.int 999]) (g' := g) (by decide +kernel) rfl ?_
      subst H
      exact xret_i A hR hz (by decide +kernel) rfl ⟨rfl, rfl⟩
