/-! methods, walked by program -/
def f_X2_size_32  (g : xG) : Int32 :=
  g.1 32 4
set_option maxRecDepth 20000 in
theorem c_X2_size_32 {S : List xSh} (hS : xpf SH1 S) {g : xG}  (out : Int32) (H : f_X2_size_32  g = out) : xC mX2_size 0 0 0 0 S [.ref 32] g S (fun r g' => r = some (.int out) ∧ g' = g) := by
  have H : (g.1 32 4) = out := H
  refine xC.of 2 SH1 [some (.ref 32)] hS (by decide +kernel) rfl (fun _ _ => Nat.le_of_ble_eq_true rfl) (fun _ _ => rfl) ?_
  intro k A hR hrm hz
  refine xb A [(.aload_n 0, 1, 0, 0, .null), (.getfield 26, 3, 32, 4, .int 0)] (pc' := 4) (ls' := [some (.ref 32)]) (st' := [.int (g.1 32 4)]) (g' := g) (by decide +kernel) rfl ?_
  subst H
  exact xret_i A hR hz (by decide +kernel) rfl ⟨rfl, rfl⟩
def fp_X2_skipToHere_32 : List (Nat × Option Nat) := [(34, none)]
def f_X2_skipToHere_32 (p1 : Int32) (g : xG) : xG :=
  xl (xput g 34 408 p1 (g.1 32 4)) fun w1 =>
  w1
set_option maxRecDepth 20000 in
theorem c_X2_skipToHere_32 {S : List xSh} (hS : xpf SH1 S) {g : xG} {p1 : Int32} (out : xG) (H : f_X2_skipToHere_32 p1 g = out) : xC mX2_skipToHere 1 22 0 0 S [.ref 32, .int p1] g S (fun r g' => r = none ∧ g' = out) := by
  have H : (xl (xput g 34 408 p1 (g.1 32 4)) fun w1 =>
w1) = out := H
  refine xC.of 2 SH1 [some (.ref 32), some (.int p1)] hS (by decide +kernel) rfl (fun _ _ => Nat.le_of_ble_eq_true rfl) (fun _ _ => rfl) ?_
  intro k A hR hrm hz
  refine xb A [(.aload_n 0, 1, 0, 0, .null), (.getfield 17, 3, 32, 1, .ref 34), (.iload_n 1, 1, 0, 0, .null), (.aload_n 0, 1, 0, 0, .null), (.getfield 26, 3, 32, 4, .int 0)] (pc' := 9) (ls' := [some (.ref 32), some (.int p1)]) (st' := [.int (g.1 32 4), .int p1, .ref 34]) (g' := g) (by decide +kernel) rfl ?_
  obtain ⟨w1, e1, H⟩ := xl_elim H
  refine xcallSN A (ix := 42) (nxt := 12) (host := "NoonRinger") hrm hz [.ref 34, .int p1, .int (g.1 32 4)] [] 6 (c_X11_put (hS _ _ sh_34) (by decide)) ok_X11_put (by decide +kernel) rfl (fun r g1 hq => ?_)
  rw [hq.1, hq.2]
  rw [e1]
  show xW k S 0 0 12 [some (.ref 32), some (.int p1)] [] w1
  subst H
  exact xret_v A hR hz (by decide +kernel) ⟨rfl, rfl⟩
theorem fr_X2_skipToHere_32 {p1 : Int32} {g : xG} (out : xG) (H : f_X2_skipToHere_32 p1 g = out) : xfrm fp_X2_skipToHere_32 g (out) := by
  have H : (xl (xput g 34 408 p1 (g.1 32 4)) fun w1 =>
w1) = out := H
  obtain ⟨w1, e1, H⟩ := xl_elim H
  have hf1 : xfrm fp_X2_skipToHere_32 g (w1) := xfrm_xput xfrm.rf rfl e1
  subst H
  exact hf1
def fp_X3_readIf_17 : List (Nat × Option Nat) := [(17, some 4), (17, some 5), (17, some 6), (32, some 4), (33, none), (34, none), (37, none)]
def f_X3_readIf_17  (g : xG) : Option (xG) :=
  (f_X3_take_17 22 g).bind fun w1 =>
  (f_X3_readSum_17 w1).bind fun w2 =>
  (f_X3_take_17 10 w2).bind fun w3 =>
  (f_X3_readSum_17 w3).bind fun w4 =>
  (f_X3_take_17 23 w4).bind fun w5 =>
  xl (f_X2_add_32 3 0 w5) fun w6 =>
  (f_X3_readSum_17 w6).bind fun w7 =>
  (f_X3_take_17 24 w7).bind fun w8 =>
  xl (f_X2_add_32 0 0 w8) fun w9 =>
  xl (f_X2_skipToHere_32 (f_X2_size_32 w5) w9) fun w10 =>
  some w10
set_option maxRecDepth 20000 in
theorem c_X3_readIf_17 {S : List xSh} (hS : xpf SH1 S) {g : xG}  (out : xG) (H : f_X3_readIf_17  g = some out) : xC mX3_readIf 4 90 0 0 S [.ref 17] g S (fun r g' => r = none ∧ g' = out) := by
  have H : ((f_X3_take_17 22 g).bind fun w1 =>
(f_X3_readSum_17 w1).bind fun w2 =>
(f_X3_take_17 10 w2).bind fun w3 =>
(f_X3_readSum_17 w3).bind fun w4 =>
(f_X3_take_17 23 w4).bind fun w5 =>
xl (f_X2_add_32 3 0 w5) fun w6 =>
(f_X3_readSum_17 w6).bind fun w7 =>
(f_X3_take_17 24 w7).bind fun w8 =>
xl (f_X2_add_32 0 0 w8) fun w9 =>
xl (f_X2_skipToHere_32 (f_X2_size_32 w5) w9) fun w10 =>
some w10) = some out := H
  refine xC.of 3 SH1 [some (.ref 17), none, none] hS (by decide +kernel) rfl (fun _ _ => Nat.le_of_ble_eq_true rfl) (fun _ _ => rfl) ?_
  intro k A hR hrm hz
  refine xb A [(.aload_n 0, 1, 0, 0, .null), (.getfield 21, 3, 17, 2, .ref 23)] (pc' := 4) (ls' := [some (.ref 17), none, none]) (st' := [.ref 23]) (g' := g) (by decide +kernel) rfl ?_
  refine xcallV A (ix := 135) (nxt := 7) hrm hz [] [] 821 (c_X4_laws_23 hS) ok_X4_laws (by decide +kernel) rfl (fun r g1 hq => ?_)
  rw [hq.1, hq.2]
  show xW k S 0 0 7 [some (.ref 17), none, none] [.ref 32] g
  refine xb A [(.astore_n 1, 1, 0, 0, .null), (.aload_n 0, 1, 0, 0, .null), (.bipush 22, 2, 0, 0, .int 22)] (pc' := 11) (ls' := [some (.ref 17), some (.ref 32), none]) (st' := [.int 22, .ref 17]) (g' := g) (by decide +kernel) rfl ?_
  obtain ⟨w1, e1, H⟩ := xbind H
  refine xcallV A (ix := 82) (nxt := 14) hrm hz [.int 22] [] 746 (c_X3_take_17 hS _ e1) ok_X3_take (by decide +kernel) rfl (fun r g1 hq => ?_)
  rw [hq.1, hq.2]
  show xW k S 0 0 14 [some (.ref 17), some (.ref 32), none] [] w1
  refine xb A [(.aload_n 0, 1, 0, 0, .null)] (pc' := 15) (ls' := [some (.ref 17), some (.ref 32), none]) (st' := [.ref 17]) (g' := w1) (by decide +kernel) rfl ?_
  obtain ⟨w2, e2, H⟩ := xbind H
  refine xcallV A (ix := 147) (nxt := 18) hrm hz [] [] 830 (c_X3_readSum_17 hS _ e2) ok_X3_readSum (by decide +kernel) rfl (fun r g1 hq => ?_)
  rw [hq.1, hq.2]
  show xW k S 0 0 18 [some (.ref 17), some (.ref 32), none] [] w2
  refine xb A [(.aload_n 0, 1, 0, 0, .null), (.bipush 10, 2, 0, 0, .int 10)] (pc' := 21) (ls' := [some (.ref 17), some (.ref 32), none]) (st' := [.int 10, .ref 17]) (g' := w2) (by decide +kernel) rfl ?_
  obtain ⟨w3, e3, H⟩ := xbind H
  refine xcallV A (ix := 82) (nxt := 24) hrm hz [.int 10] [] 746 (c_X3_take_17 hS _ e3) ok_X3_take (by decide +kernel) rfl (fun r g1 hq => ?_)
  rw [hq.1, hq.2]
  show xW k S 0 0 24 [some (.ref 17), some (.ref 32), none] [] w3
  refine xb A [(.aload_n 0, 1, 0, 0, .null)] (pc' := 25) (ls' := [some (.ref 17), some (.ref 32), none]) (st' := [.ref 17]) (g' := w3) (by decide +kernel) rfl ?_
  obtain ⟨w4, e4, H⟩ := xbind H
  refine xcallV A (ix := 147) (nxt := 28) hrm hz [] [] 830 (c_X3_readSum_17 hS _ e4) ok_X3_readSum (by decide +kernel) rfl (fun r g1 hq => ?_)
  rw [hq.1, hq.2]
  show xW k S 0 0 28 [some (.ref 17), some (.ref 32), none] [] w4
  refine xb A [(.aload_n 0, 1, 0, 0, .null), (.bipush 23, 2, 0, 0, .int 23)] (pc' := 31) (ls' := [some (.ref 17), some (.ref 32), none]) (st' := [.int 23, .ref 17]) (g' := w4) (by decide +kernel) rfl ?_
  obtain ⟨w5, e5, H⟩ := xbind H
  refine xcallV A (ix := 82) (nxt := 34) hrm hz [.int 23] [] 746 (c_X3_take_17 hS _ e5) ok_X3_take (by decide +kernel) rfl (fun r g1 hq => ?_)
  rw [hq.1, hq.2]
  show xW k S 0 0 34 [some (.ref 17), some (.ref 32), none] [] w5
  refine xb A [(.aload_n 1, 1, 0, 0, .null)] (pc' := 35) (ls' := [some (.ref 17), some (.ref 32), none]) (st' := [.ref 32]) (g' := w5) (by decide +kernel) rfl ?_
  refine xcallV A (ix := 153) (nxt := 38) hrm hz [] [] 852 (c_X2_size_32 hS _ rfl) ok_X2_size (by decide +kernel) rfl (fun r g1 hq => ?_)
  rw [hq.1, hq.2]
  show xW k S 0 0 38 [some (.ref 17), some (.ref 32), none] [.int (f_X2_size_32 w5)] w5
  refine xb A [(.istore_n 2, 1, 0, 0, .null), (.aload_n 1, 1, 0, 0, .null), (.iconst 3, 1, 0, 0, .int 3), (.iconst 0, 1, 0, 0, .int 0)] (pc' := 42) (ls' := [some (.ref 17), some (.ref 32), some (.int (f_X2_size_32 w5))]) (st' := [.int 0, .int 3, .ref 32]) (g' := w5) (by decide +kernel) rfl ?_
  obtain ⟨w6, e6, H⟩ := xl_elim H
  refine xcallV A (ix := 150) (nxt := 45) hrm hz [.int 3, .int 0] [] 843 (c_X2_add_32 hS _ e6) ok_X2_add (by decide +kernel) rfl (fun r g1 hq => ?_)
  rw [hq.1, hq.2]
  show xW k S 0 0 45 [some (.ref 17), some (.ref 32), some (.int (f_X2_size_32 w5))] [] w6
  refine xb A [(.aload_n 0, 1, 0, 0, .null)] (pc' := 46) (ls' := [some (.ref 17), some (.ref 32), some (.int (f_X2_size_32 w5))]) (st' := [.ref 17]) (g' := w6) (by decide +kernel) rfl ?_
  obtain ⟨w7, e7, H⟩ := xbind H
  refine xcallV A (ix := 147) (nxt := 49) hrm hz [] [] 830 (c_X3_readSum_17 hS _ e7) ok_X3_readSum (by decide +kernel) rfl (fun r g1 hq => ?_)
  rw [hq.1, hq.2]
  show xW k S 0 0 49 [some (.ref 17), some (.ref 32), some (.int (f_X2_size_32 w5))] [] w7
  refine xb A [(.aload_n 0, 1, 0, 0, .null), (.bipush 24, 2, 0, 0, .int 24)] (pc' := 52) (ls' := [some (.ref 17), some (.ref 32), some (.int (f_X2_size_32 w5))]) (st' := [.int 24, .ref 17]) (g' := w7) (by decide +kernel) rfl ?_
  obtain ⟨w8, e8, H⟩ := xbind H
  refine xcallV A (ix := 82) (nxt := 55) hrm hz [.int 24] [] 746 (c_X3_take_17 hS _ e8) ok_X3_take (by decide +kernel) rfl (fun r g1 hq => ?_)
  rw [hq.1, hq.2]
  show xW k S 0 0 55 [some (.ref 17), some (.ref 32), some (.int (f_X2_size_32 w5))] [] w8
  refine xb A [(.aload_n 1, 1, 0, 0, .null), (.iconst 0, 1, 0, 0, .int 0), (.iconst 0, 1, 0, 0, .int 0)] (pc' := 58) (ls' := [some (.ref 17), some (.ref 32), some (.int (f_X2_size_32 w5))]) (st' := [.int 0, .int 0, .ref 32]) (g' := w8) (by decide +kernel) rfl ?_
  obtain ⟨w9, e9, H⟩ := xl_elim H
  refine xcallV A (ix := 150) (nxt := 61) hrm hz [.int 0, .int 0] [] 843 (c_X2_add_32 hS _ e9) ok_X2_add (by decide +kernel) rfl (fun r g1 hq => ?_)
  rw [hq.1, hq.2]
  show xW k S 0 0 61 [some (.ref 17), some (.ref 32), some (.int (f_X2_size_32 w5))] [] w9
  refine xb A [(.aload_n 1, 1, 0, 0, .null), (.iload_n 2, 1, 0, 0, .null)] (pc' := 63) (ls' := [some (.ref 17), some (.ref 32), some (.int (f_X2_size_32 w5))]) (st' := [.int (f_X2_size_32 w5), .ref 32]) (g' := w9) (by decide +kernel) rfl ?_
  obtain ⟨w10, e10, H⟩ := xl_elim H
  refine xcallV A (ix := 156) (nxt := 66) hrm hz [.int (f_X2_size_32 w5)] [] 856 (c_X2_skipToHere_32 hS _ e10) ok_X2_skipToHere (by decide +kernel) rfl (fun r g1 hq => ?_)
  rw [hq.1, hq.2]
  show xW k S 0 0 66 [some (.ref 17), some (.ref 32), some (.int (f_X2_size_32 w5))] [] w10
  obtain rfl := Option.some.inj H
  exact xret_v A hR hz (by decide +kernel) ⟨rfl, rfl⟩
theorem fr_X3_readIf_17  {g : xG} (out : xG) (H : f_X3_readIf_17  g = some out) : xfrm fp_X3_readIf_17 g (out) := by
  have H : ((f_X3_take_17 22 g).bind fun w1 =>
(f_X3_readSum_17 w1).bind fun w2 =>
(f_X3_take_17 10 w2).bind fun w3 =>
(f_X3_readSum_17 w3).bind fun w4 =>
(f_X3_take_17 23 w4).bind fun w5 =>
xl (f_X2_add_32 3 0 w5) fun w6 =>
(f_X3_readSum_17 w6).bind fun w7 =>
(f_X3_take_17 24 w7).bind fun w8 =>
xl (f_X2_add_32 0 0 w8) fun w9 =>
xl (f_X2_skipToHere_32 (f_X2_size_32 w5) w9) fun w10 =>
some w10) = some out := H
  obtain ⟨w1, e1, H⟩ := xbind H
  have hf1 : xfrm fp_X3_readIf_17 g (w1) := xfrm.tr xfrm.rf (fr_X3_take_17 _ e1) rfl
  obtain ⟨w2, e2, H⟩ := xbind H
  have hf2 : xfrm fp_X3_readIf_17 g (w2) := xfrm.tr hf1 (fr_X3_readSum_17 _ e2) rfl
  obtain ⟨w3, e3, H⟩ := xbind H
  have hf3 : xfrm fp_X3_readIf_17 g (w3) := xfrm.tr hf2 (fr_X3_take_17 _ e3) rfl
  obtain ⟨w4, e4, H⟩ := xbind H
  have hf4 : xfrm fp_X3_readIf_17 g (w4) := xfrm.tr hf3 (fr_X3_readSum_17 _ e4) rfl
  obtain ⟨w5, e5, H⟩ := xbind H
  have hf5 : xfrm fp_X3_readIf_17 g (w5) := xfrm.tr hf4 (fr_X3_take_17 _ e5) rfl
  obtain ⟨w6, e6, H⟩ := xl_elim H
  have hf6 : xfrm fp_X3_readIf_17 g (w6) := xfrm.tr hf5 (fr_X2_add_32 _ e6) rfl
  obtain ⟨w7, e7, H⟩ := xbind H
  have hf7 : xfrm fp_X3_readIf_17 g (w7) := xfrm.tr hf6 (fr_X3_readSum_17 _ e7) rfl
  obtain ⟨w8, e8, H⟩ := xbind H
  have hf8 : xfrm fp_X3_readIf_17 g (w8) := xfrm.tr hf7 (fr_X3_take_17 _ e8) rfl
  obtain ⟨w9, e9, H⟩ := xl_elim H
  have hf9 : xfrm fp_X3_readIf_17 g (w9) := xfrm.tr hf8 (fr_X2_add_32 _ e9) rfl
  obtain ⟨w10, e10, H⟩ := xl_elim H
  have hf10 : xfrm fp_X3_readIf_17 g (w10) := xfrm.tr hf9 (fr_X2_skipToHere_32 _ e10) rfl
  obtain rfl := Option.some.inj H
  exact hf10
def fp_X3_readLaw_17 : List (Nat × Option Nat) := [(17, some 4), (17, some 5), (17, some 6), (32, some 4), (33, none), (34, none), (35, none), (37, none)]
def f_X3_readLaw_17_26  : Nat → Int32 → xG → Option (xG)
  | 0, _, _ => none
  | n + 1, l2, g =>
    if 4 < l2 then
      (f_X3_readSum_17 g).bind fun w4 =>
      xl (f_X2_add_32 0 0 w4) fun w5 =>
      some w5
    else
      if (g.1 17 6) = 0 then
        (f_X9_kindAt_18 (g.1 17 5) g).bind fun w8 =>
        if w8 = 22 then
          if l2 = 4 then
            xl (f_X3_stop_17 2 g) fun w12 =>
            f_X3_readLaw_17_26 n (l2 + 1) w12
          else
            (f_X3_readIf_17 g).bind fun w11 =>
            f_X3_readLaw_17_26 n (l2 + 1) w11
        else
          (f_X3_readSum_17 g).bind fun w9 =>
          xl (f_X2_add_32 0 0 w9) fun w10 =>
          some w10
      else
        (f_X3_readSum_17 g).bind fun w6 =>
        xl (f_X2_add_32 0 0 w6) fun w7 =>
        some w7
def f_X3_readLaw_17 (p1 : Int32) (g : xG) : Option (xG) :=
  (f_X3_take_17 p1 g).bind fun w1 =>
  (f_X3_take_17 5 w1).bind fun w2 =>
  xl (f_X2_begin_32 (p1 - 17) w2) fun w3 =>
  f_X3_readLaw_17_26 xN 0 w3
set_option maxRecDepth 20000 in
theorem t_X3_readLaw_17_26 {k : xK} {S : List xSh} {out : xG} (hS : xpf SH1 S) (A : xAt k mX3_readLaw.2.1 3 SH1 S) (hR : xRet k 0 0 S (fun r g' => r = none ∧ g' = out) mX3_readLaw.2.2.2) (hrm : xrm k = { frames := 5, cells := 0, slots := 0, locals := 112 }) (hz : xhs k = xb0 k + S.length)   : ∀ (n : Nat) (l2 : Int32) (g : xG), f_X3_readLaw_17_26 n l2 g = some out → xW k S 0 0 26 [some (.ref 17), none, some (.int l2)] [] g := by
  intro n
  induction n with
  | zero => intro l2 g H; exact absurd H (by simp [f_X3_readLaw_17_26])
  | succ n ih =>
    intro l2 g H
    have H : (if 4 < l2 then
  (f_X3_readSum_17 g).bind fun w4 =>
  xl (f_X2_add_32 0 0 w4) fun w5 =>
  some w5
else
  if (g.1 17 6) = 0 then
    (f_X9_kindAt_18 (g.1 17 5) g).bind fun w8 =>
    if w8 = 22 then
      if l2 = 4 then
        xl (f_X3_stop_17 2 g) fun w12 =>
        f_X3_readLaw_17_26 n (l2 + 1) w12
      else
        (f_X3_readIf_17 g).bind fun w11 =>
        f_X3_readLaw_17_26 n (l2 + 1) w11
    else
      (f_X3_readSum_17 g).bind fun w9 =>
      xl (f_X2_add_32 0 0 w9) fun w10 =>
      some w10
  else
    (f_X3_readSum_17 g).bind fun w6 =>
    xl (f_X2_add_32 0 0 w6) fun w7 =>
    some w7) = some out := H
    refine xb A [(.iload_n 2, 1, 0, 0, .null), (.iconst 4, 1, 0, 0, .int 4)] (pc' := 28) (ls' := [some (.ref 17), none, some (.int l2)]) (st' := [.int 4, .int l2]) (g' := g) (by decide +kernel) rfl ?_
    refine xic_gt A (49) 77 31 (by decide +kernel) (fun h1 => ?_) (fun h1 => ?_)
    · rw [if_pos h1] at H
      refine xb A [(.aload_n 0, 1, 0, 0, .null)] (pc' := 78) (ls' := [some (.ref 17), none, some (.int l2)]) (st' := [.ref 17]) (g' := g) (by decide +kernel) rfl ?_
      obtain ⟨w4, e4, H⟩ := xbind H
      refine xcallV A (ix := 147) (nxt := 81) hrm hz [] [] 830 (c_X3_readSum_17 hS _ e4) ok_X3_readSum (by decide +kernel) rfl (fun r g1 hq => ?_)
      rw [hq.1, hq.2]
      show xW k S 0 0 81 [some (.ref 17), none, some (.int l2)] [] w4
      refine xb A [(.aload_n 0, 1, 0, 0, .null), (.getfield 21, 3, 17, 2, .ref 23)] (pc' := 85) (ls' := [some (.ref 17), none, some (.int l2)]) (st' := [.ref 23]) (g' := w4) (by decide +kernel) rfl ?_
      refine xcallV A (ix := 135) (nxt := 88) hrm hz [] [] 821 (c_X4_laws_23 hS) ok_X4_laws (by decide +kernel) rfl (fun r g1 hq => ?_)
      rw [hq.1, hq.2]
      show xW k S 0 0 88 [some (.ref 17), none, some (.int l2)] [.ref 32] w4
      refine xb A [(.iconst 0, 1, 0, 0, .int 0), (.iconst 0, 1, 0, 0, .int 0)] (pc' := 90) (ls' := [some (.ref 17), none, some (.int l2)]) (st' := [.int 0, .int 0, .ref 32]) (g' := w4) (by decide +kernel) rfl ?_
      obtain ⟨w5, e5, H⟩ := xl_elim H
      refine xcallV A (ix := 150) (nxt := 93) hrm hz [.int 0, .int 0] [] 843 (c_X2_add_32 hS _ e5) ok_X2_add (by decide +kernel) rfl (fun r g1 hq => ?_)
      rw [hq.1, hq.2]
      show xW k S 0 0 93 [some (.ref 17), none, some (.int l2)] [] w5
      obtain rfl := Option.some.inj H
      exact xret_v A hR hz (by decide +kernel) ⟨rfl, rfl⟩
    · rw [if_neg h1] at H
      refine xb A [(.aload_n 0, 1, 0, 0, .null), (.getfield 33, 3, 17, 6, .int 0)] (pc' := 35) (ls' := [some (.ref 17), none, some (.int l2)]) (st' := [.int (g.1 17 6)]) (g' := g) (by decide +kernel) rfl ?_
      refine xif_ne A (42) 77 38 (by decide +kernel) (fun h2 => ?_) (fun h2 => ?_)
      · rw [if_neg h2] at H
        refine xb A [(.aload_n 0, 1, 0, 0, .null)] (pc' := 78) (ls' := [some (.ref 17), none, some (.int l2)]) (st' := [.ref 17]) (g' := g) (by decide +kernel) rfl ?_
        obtain ⟨w6, e6, H⟩ := xbind H
        refine xcallV A (ix := 147) (nxt := 81) hrm hz [] [] 830 (c_X3_readSum_17 hS _ e6) ok_X3_readSum (by decide +kernel) rfl (fun r g1 hq => ?_)
        rw [hq.1, hq.2]
        show xW k S 0 0 81 [some (.ref 17), none, some (.int l2)] [] w6
        refine xb A [(.aload_n 0, 1, 0, 0, .null), (.getfield 21, 3, 17, 2, .ref 23)] (pc' := 85) (ls' := [some (.ref 17), none, some (.int l2)]) (st' := [.ref 23]) (g' := w6) (by decide +kernel) rfl ?_
        refine xcallV A (ix := 135) (nxt := 88) hrm hz [] [] 821 (c_X4_laws_23 hS) ok_X4_laws (by decide +kernel) rfl (fun r g1 hq => ?_)
        rw [hq.1, hq.2]
        show xW k S 0 0 88 [some (.ref 17), none, some (.int l2)] [.ref 32] w6
        refine xb A [(.iconst 0, 1, 0, 0, .int 0), (.iconst 0, 1, 0, 0, .int 0)] (pc' := 90) (ls' := [some (.ref 17), none, some (.int l2)]) (st' := [.int 0, .int 0, .ref 32]) (g' := w6) (by decide +kernel) rfl ?_
        obtain ⟨w7, e7, H⟩ := xl_elim H
        refine xcallV A (ix := 150) (nxt := 93) hrm hz [.int 0, .int 0] [] 843 (c_X2_add_32 hS _ e7) ok_X2_add (by decide +kernel) rfl (fun r g1 hq => ?_)
        rw [hq.1, hq.2]
        show xW k S 0 0 93 [some (.ref 17), none, some (.int l2)] [] w7
        obtain rfl := Option.some.inj H
        exact xret_v A hR hz (by decide +kernel) ⟨rfl, rfl⟩
      · rw [if_pos h2] at H
        refine xb A [(.aload_n 0, 1, 0, 0, .null), (.getfield 14, 3, 17, 1, .ref 18), (.aload_n 0, 1, 0, 0, .null), (.getfield 37, 3, 17, 5, .int 0)] (pc' := 46) (ls' := [some (.ref 17), none, some (.int l2)]) (st' := [.int (g.1 17 5), .ref 18]) (g' := g) (by decide +kernel) rfl ?_
        obtain ⟨w8, e8, H⟩ := xbind H
        refine xcallV A (ix := 57) (nxt := 49) hrm hz [.int (g.1 17 5)] [] 732 (c_X9_kindAt_18 hS _ e8) ok_X9_kindAt (by decide +kernel) rfl (fun r g1 hq => ?_)
        rw [hq.1, hq.2]
        show xW k S 0 0 49 [some (.ref 17), none, some (.int l2)] [.int w8] g
        refine xb A [(.bipush 22, 2, 0, 0, .int 22)] (pc' := 51) (ls' := [some (.ref 17), none, some (.int l2)]) (st' := [.int 22, .int w8]) (g' := g) (by decide +kernel) rfl ?_
        refine xic_ne A (26) 77 54 (by decide +kernel) (fun h3 => ?_) (fun h3 => ?_)
        · rw [if_neg h3] at H
          refine xb A [(.aload_n 0, 1, 0, 0, .null)] (pc' := 78) (ls' := [some (.ref 17), none, some (.int l2)]) (st' := [.ref 17]) (g' := g) (by decide +kernel) rfl ?_
          obtain ⟨w9, e9, H⟩ := xbind H
          refine xcallV A (ix := 147) (nxt := 81) hrm hz [] [] 830 (c_X3_readSum_17 hS _ e9) ok_X3_readSum (by decide +kernel) rfl (fun r g1 hq => ?_)
          rw [hq.1, hq.2]
          show xW k S 0 0 81 [some (.ref 17), none, some (.int l2)] [] w9
          refine xb A [(.aload_n 0, 1, 0, 0, .null), (.getfield 21, 3, 17, 2, .ref 23)] (pc' := 85) (ls' := [some (.ref 17), none, some (.int l2)]) (st' := [.ref 23]) (g' := w9) (by decide +kernel) rfl ?_
          refine xcallV A (ix := 135) (nxt := 88) hrm hz [] [] 821 (c_X4_laws_23 hS) ok_X4_laws (by decide +kernel) rfl (fun r g1 hq => ?_)
          rw [hq.1, hq.2]
          show xW k S 0 0 88 [some (.ref 17), none, some (.int l2)] [.ref 32] w9
          refine xb A [(.iconst 0, 1, 0, 0, .int 0), (.iconst 0, 1, 0, 0, .int 0)] (pc' := 90) (ls' := [some (.ref 17), none, some (.int l2)]) (st' := [.int 0, .int 0, .ref 32]) (g' := w9) (by decide +kernel) rfl ?_
          obtain ⟨w10, e10, H⟩ := xl_elim H
          refine xcallV A (ix := 150) (nxt := 93) hrm hz [.int 0, .int 0] [] 843 (c_X2_add_32 hS _ e10) ok_X2_add (by decide +kernel) rfl (fun r g1 hq => ?_)
          rw [hq.1, hq.2]
          show xW k S 0 0 93 [some (.ref 17), none, some (.int l2)] [] w10
          obtain rfl := Option.some.inj H
          exact xret_v A hR hz (by decide +kernel) ⟨rfl, rfl⟩
        · rw [if_pos h3] at H
          refine xb A [(.iload_n 2, 1, 0, 0, .null), (.iconst 4, 1, 0, 0, .int 4)] (pc' := 56) (ls' := [some (.ref 17), none, some (.int l2)]) (st' := [.int 4, .int l2]) (g' := g) (by decide +kernel) rfl ?_
          refine xic_ne A (11) 67 59 (by decide +kernel) (fun h4 => ?_) (fun h4 => ?_)
          · rw [if_neg h4] at H
            refine xb A [(.aload_n 0, 1, 0, 0, .null)] (pc' := 68) (ls' := [some (.ref 17), none, some (.int l2)]) (st' := [.ref 17]) (g' := g) (by decide +kernel) rfl ?_
            obtain ⟨w11, e11, H⟩ := xbind H
            refine xcallV A (ix := 144) (nxt := 71) hrm hz [] [] 826 (c_X3_readIf_17 hS _ e11) ok_X3_readIf (by decide +kernel) rfl (fun r g1 hq => ?_)
            rw [hq.1, hq.2]
            show xW k S 0 0 71 [some (.ref 17), none, some (.int l2)] [] w11
            refine xb A [(.iinc 2 1, 3, 0, 0, .null)] (pc' := 74) (ls' := [some (.ref 17), none, some (.int (l2 + 1))]) (st' := []) (g' := w11) (by decide +kernel) rfl ?_
            refine xgoto A (-48) 26 (by decide +kernel) ?_
            exact ih _ _ H
          · rw [if_pos h4] at H
            refine xb A [(.aload_n 0, 1, 0, 0, .null), (.iconst 2, 1, 0, 0, .int 2)] (pc' := 61) (ls' := [some (.ref 17), none, some (.int l2)]) (st' := [.int 2, .ref 17]) (g' := g) (by decide +kernel) rfl ?_
            obtain ⟨w12, e12, H⟩ := xl_elim H
            refine xcallV A (ix := 79) (nxt := 64) hrm hz [.int 2] [] 742 (c_X3_stop_17 hS _ e12) ok_X3_stop (by decide +kernel) rfl (fun r g1 hq => ?_)
            rw [hq.1, hq.2]
            show xW k S 0 0 64 [some (.ref 17), none, some (.int l2)] [] w12
            refine xgoto A (7) 71 (by decide +kernel) ?_
            refine xb A [(.iinc 2 1, 3, 0, 0, .null)] (pc' := 74) (ls' := [some (.ref 17), none, some (.int (l2 + 1))]) (st' := []) (g' := w12) (by decide +kernel) rfl ?_
            refine xgoto A (-48) 26 (by decide +kernel) ?_
            exact ih _ _ H
theorem fr_X3_readLaw_17_26   : ∀ (n : Nat) (l2 : Int32) (g : xG) (out : xG), f_X3_readLaw_17_26 n l2 g = some out → xfrm fp_X3_readLaw_17 g (out) := by
  intro n
  induction n with
  | zero => intro l2 g out H; exact absurd H (by simp [f_X3_readLaw_17_26])
  | succ n ih =>
    intro l2 g out H
    have H : (if 4 < l2 then
  (f_X3_readSum_17 g).bind fun w4 =>
  xl (f_X2_add_32 0 0 w4) fun w5 =>
  some w5
else
  if (g.1 17 6) = 0 then
    (f_X9_kindAt_18 (g.1 17 5) g).bind fun w8 =>
    if w8 = 22 then
      if l2 = 4 then
        xl (f_X3_stop_17 2 g) fun w12 =>
        f_X3_readLaw_17_26 n (l2 + 1) w12
      else
        (f_X3_readIf_17 g).bind fun w11 =>
        f_X3_readLaw_17_26 n (l2 + 1) w11
    else
      (f_X3_readSum_17 g).bind fun w9 =>
      xl (f_X2_add_32 0 0 w9) fun w10 =>
      some w10
  else
    (f_X3_readSum_17 g).bind fun w6 =>
    xl (f_X2_add_32 0 0 w6) fun w7 =>
    some w7) = some out := H
    by_cases h1 : 4 < l2
    · rw [if_pos h1] at H
      obtain ⟨w4, e4, H⟩ := xbind H
      have hf4 : xfrm fp_X3_readLaw_17 g (w4) := xfrm.tr xfrm.rf (fr_X3_readSum_17 _ e4) rfl
      obtain ⟨w5, e5, H⟩ := xl_elim H
      have hf5 : xfrm fp_X3_readLaw_17 g (w5) := xfrm.tr hf4 (fr_X2_add_32 _ e5) rfl
      obtain rfl := Option.some.inj H
      exact hf5
    · rw [if_neg h1] at H
      by_cases h2 : (g.1 17 6) = 0
      · rw [if_pos h2] at H
        obtain ⟨w8, e8, H⟩ := xbind H
        by_cases h3 : w8 = 22
        · rw [if_pos h3] at H
          by_cases h4 : l2 = 4
          · rw [if_pos h4] at H
            obtain ⟨w12, e12, H⟩ := xl_elim H
            have hf11 : xfrm fp_X3_readLaw_17 g (w12) := xfrm.tr xfrm.rf (fr_X3_stop_17 _ e12) rfl
            exact xfrm.tr hf11 (ih _ _ _ H) rfl
          · rw [if_neg h4] at H
            obtain ⟨w11, e11, H⟩ := xbind H
            have hf10 : xfrm fp_X3_readLaw_17 g (w11) := xfrm.tr xfrm.rf (fr_X3_readIf_17 _ e11) rfl
            exact xfrm.tr hf10 (ih _ _ _ H) rfl
        · rw [if_neg h3] at H
          obtain ⟨w9, e9, H⟩ := xbind H
          have hf8 : xfrm fp_X3_readLaw_17 g (w9) := xfrm.tr xfrm.rf (fr_X3_readSum_17 _ e9) rfl
          obtain ⟨w10, e10, H⟩ := xl_elim H
          have hf9 : xfrm fp_X3_readLaw_17 g (w10) := xfrm.tr hf8 (fr_X2_add_32 _ e10) rfl
          obtain rfl := Option.some.inj H
          exact hf9
      · rw [if_neg h2] at H
        obtain ⟨w6, e6, H⟩ := xbind H
        have hf6 : xfrm fp_X3_readLaw_17 g (w6) := xfrm.tr xfrm.rf (fr_X3_readSum_17 _ e6) rfl
        obtain ⟨w7, e7, H⟩ := xl_elim H
        have hf7 : xfrm fp_X3_readLaw_17 g (w7) := xfrm.tr hf6 (fr_X2_add_32 _ e7) rfl
        obtain rfl := Option.some.inj H
        exact hf7
set_option maxRecDepth 20000 in
theorem c_X3_readLaw_17 {S : List xSh} (hS : xpf SH1 S) {g : xG} {p1 : Int32} (out : xG) (H : f_X3_readLaw_17 p1 g = some out) : xC mX3_readLaw 5 112 0 0 S [.ref 17, .int p1] g S (fun r g' => r = none ∧ g' = out) := by
  have H : ((f_X3_take_17 p1 g).bind fun w1 =>
(f_X3_take_17 5 w1).bind fun w2 =>
xl (f_X2_begin_32 (p1 - 17) w2) fun w3 =>
f_X3_readLaw_17_26 xN 0 w3) = some out := H
  refine xC.of 3 SH1 [some (.ref 17), some (.int p1), none] hS (by decide +kernel) rfl (fun _ _ => Nat.le_of_ble_eq_true rfl) (fun _ _ => rfl) ?_
  intro k A hR hrm hz
  refine xb A [(.aload_n 0, 1, 0, 0, .null), (.iload_n 1, 1, 0, 0, .null)] (pc' := 2) (ls' := [some (.ref 17), some (.int p1), none]) (st' := [.int p1, .ref 17]) (g' := g) (by decide +kernel) rfl ?_
  obtain ⟨w1, e1, H⟩ := xbind H
  refine xcallV A (ix := 82) (nxt := 5) hrm hz [.int p1] [] 746 (c_X3_take_17 hS _ e1) ok_X3_take (by decide +kernel) rfl (fun r g1 hq => ?_)
  rw [hq.1, hq.2]
  show xW k S 0 0 5 [some (.ref 17), some (.int p1), none] [] w1
  refine xb A [(.aload_n 0, 1, 0, 0, .null), (.iconst 5, 1, 0, 0, .int 5)] (pc' := 7) (ls' := [some (.ref 17), some (.int p1), none]) (st' := [.int 5, .ref 17]) (g' := w1) (by decide +kernel) rfl ?_
  obtain ⟨w2, e2, H⟩ := xbind H
  refine xcallV A (ix := 82) (nxt := 10) hrm hz [.int 5] [] 746 (c_X3_take_17 hS _ e2) ok_X3_take (by decide +kernel) rfl (fun r g1 hq => ?_)
  rw [hq.1, hq.2]
  show xW k S 0 0 10 [some (.ref 17), some (.int p1), none] [] w2
  refine xb A [(.aload_n 0, 1, 0, 0, .null), (.getfield 21, 3, 17, 2, .ref 23)] (pc' := 14) (ls' := [some (.ref 17), some (.int p1), none]) (st' := [.ref 23]) (g' := w2) (by decide +kernel) rfl ?_
  refine xcallV A (ix := 135) (nxt := 17) hrm hz [] [] 821 (c_X4_laws_23 hS) ok_X4_laws (by decide +kernel) rfl (fun r g1 hq => ?_)
  rw [hq.1, hq.2]
  show xW k S 0 0 17 [some (.ref 17), some (.int p1), none] [.ref 32] w2
  refine xb A [(.iload_n 1, 1, 0, 0, .null), (.bipush 17, 2, 0, 0, .int 17), (.isub, 1, 0, 0, .null)] (pc' := 21) (ls' := [some (.ref 17), some (.int p1), none]) (st' := [.int (p1 - 17), .ref 32]) (g' := w2) (by decide +kernel) rfl ?_
  obtain ⟨w3, e3, H⟩ := xl_elim H
  refine xcallV A (ix := 139) (nxt := 24) hrm hz [.int (p1 - 17)] [] 825 (c_X2_begin_32 hS _ e3) ok_X2_begin (by decide +kernel) rfl (fun r g1 hq => ?_)
  rw [hq.1, hq.2]
  show xW k S 0 0 24 [some (.ref 17), some (.int p1), none] [] w3
  refine xb A [(.iconst 0, 1, 0, 0, .int 0), (.istore_n 2, 1, 0, 0, .null)] (pc' := 26) (ls' := [some (.ref 17), some (.int p1), some (.int 0)]) (st' := []) (g' := w3) (by decide +kernel) rfl ?_
  refine xweak (ls' := [some (.ref 17), none, some (.int 0)]) (by exact ⟨rfl, ⟨rfl, trivial⟩⟩) ?_
  exact t_X3_readLaw_17_26 hS A hR hrm hz _ _ _ H
theorem fr_X3_readLaw_17 {p1 : Int32} {g : xG} (out : xG) (H : f_X3_readLaw_17 p1 g = some out) : xfrm fp_X3_readLaw_17 g (out) := by
  have H : ((f_X3_take_17 p1 g).bind fun w1 =>
(f_X3_take_17 5 w1).bind fun w2 =>
xl (f_X2_begin_32 (p1 - 17) w2) fun w3 =>
f_X3_readLaw_17_26 xN 0 w3) = some out := H
  obtain ⟨w1, e1, H⟩ := xbind H
  have hf1 : xfrm fp_X3_readLaw_17 g (w1) := xfrm.tr xfrm.rf (fr_X3_take_17 _ e1) rfl
  obtain ⟨w2, e2, H⟩ := xbind H
  have hf2 : xfrm fp_X3_readLaw_17 g (w2) := xfrm.tr hf1 (fr_X3_take_17 _ e2) rfl
  obtain ⟨w3, e3, H⟩ := xl_elim H
  have hf3 : xfrm fp_X3_readLaw_17 g (w3) := xfrm.tr hf2 (fr_X2_begin_32 _ e3) rfl
  exact xfrm.tr hf3 (fr_X3_readLaw_17_26 _ _ _ _ H) rfl
def f_X4_townNamed_23_2  (g : xG) : Nat → Int64 → Int32 → Option (Int32)
  | 0, _, _ => none
  | n + 1, l1, l3 =>
    if (g.1 23 9) ≤ l3 then
      some (-1)
    else
      if (lg_cmp (xlat g 24 7 l3) l1) = 0 then
        some l3
      else
        f_X4_townNamed_23_2 g n l1 (l3 + 1)
def f_X4_townNamed_23 (p1 : Int64) (g : xG) : Option (Int32) :=
  f_X4_townNamed_23_2 g xN p1 0
set_option maxRecDepth 20000 in
theorem t_X4_townNamed_23_2 {k : xK} {S : List xSh} {g : xG} {out : Int32} (hS : xpf SH1 S) (A : xAt k mX4_townNamed.2.1 4 SH1 S) (hR : xRet k 0 0 S (fun r g' => r = some (.int out) ∧ g' = g) mX4_townNamed.2.2.2) (hrm : xrm k = { frames := 1, cells := 0, slots := 0, locals := 21 }) (hz : xhs k = xb0 k + S.length)   : ∀ (n : Nat) (l1 : Int64) (l3 : Int32), f_X4_townNamed_23_2 g n l1 l3 = some out → xW k S 0 0 2 [some (.ref 23), some (.long l1), none, some (.int l3)] [] g := by
  intro n
  induction n with
  | zero => intro l1 l3 H; exact absurd H (by simp [f_X4_townNamed_23_2])
  | succ n ih =>
    intro l1 l3 H
    have H : (if (g.1 23 9) ≤ l3 then
  some (-1)
else
  if (lg_cmp (xlat g 24 7 l3) l1) = 0 then
    some l3
  else
    f_X4_townNamed_23_2 g n l1 (l3 + 1)) = some out := H
    refine xb A [(.iload_n 3, 1, 0, 0, .null), (.aload_n 0, 1, 0, 0, .null), (.getfield 44, 3, 23, 9, .int 0)] (pc' := 7) (ls' := [some (.ref 23), some (.long l1), none, some (.int l3)]) (st' := [.int (g.1 23 9), .int l3]) (g' := g) (by decide +kernel) rfl ?_
    refine xic_ge A (24) 31 10 (by decide +kernel) (fun h1 => ?_) (fun h1 => ?_)
    · rw [if_pos h1] at H
      refine xb A [(.iconst (-1), 1, 0, 0, .int (-1))] (pc' := 32) (ls' := [some (.ref 23), some (.long l1), none, some (.int l3)]) (st' := [.int (-1)]) (g' := g) (by decide +kernel) rfl ?_
      obtain rfl := Option.some.inj H
      exact xret_i A hR hz (by decide +kernel) rfl ⟨rfl, rfl⟩
    · rw [if_neg h1] at H
      refine xb A [(.aload_n 0, 1, 0, 0, .null), (.getfield 9, 3, 23, 0, .ref 24), (.iload_n 3, 1, 0, 0, .null)] (pc' := 15) (ls' := [some (.ref 23), some (.long l1), none, some (.int l3)]) (st' := [.int l3, .ref 24]) (g' := g) (by decide +kernel) rfl ?_
      refine xcallSN A (ix := 79) (nxt := 18) (host := "NoonRinger") hrm hz [.ref 24, .int l3] [] 16 (c_X11_longAt (hS _ _ sh_24) (by decide)) ok_X11_longAt (by decide +kernel) rfl (fun r g1 hq => ?_)
      rw [hq.1, hq.2]
      show xW k S 0 0 18 [some (.ref 23), some (.long l1), none, some (.int l3)] [.long (xlat g 24 7 l3)] g
      refine xb A [(.lload_n 1, 1, 0, 0, .null), (.lcmp, 1, 0, 0, .null)] (pc' := 20) (ls' := [some (.ref 23), some (.long l1), none, some (.int l3)]) (st' := [.int (lg_cmp (xlat g 24 7 l3) l1)]) (g' := g) (by decide +kernel) rfl ?_
      refine xif_ne A (5) 25 23 (by decide +kernel) (fun h2 => ?_) (fun h2 => ?_)
      · rw [if_neg h2] at H
        refine xb A [(.iinc 3 1, 3, 0, 0, .null)] (pc' := 28) (ls' := [some (.ref 23), some (.long l1), none, some (.int (l3 + 1))]) (st' := []) (g' := g) (by decide +kernel) rfl ?_
        refine xgoto A (-26) 2 (by decide +kernel) ?_
        exact ih _ _ H
      · rw [if_pos h2] at H
        refine xb A [(.iload_n 3, 1, 0, 0, .null)] (pc' := 24) (ls' := [some (.ref 23), some (.long l1), none, some (.int l3)]) (st' := [.int l3]) (g' := g) (by decide +kernel) rfl ?_
        obtain rfl := Option.some.inj H
        exact xret_i A hR hz (by decide +kernel) rfl ⟨rfl, rfl⟩
set_option maxRecDepth 20000 in
theorem c_X4_townNamed_23 {S : List xSh} (hS : xpf SH1 S) {g : xG} {p1 : Int64} (out : Int32) (H : f_X4_townNamed_23 p1 g = some out) : xC mX4_townNamed 1 21 0 0 S [.ref 23, .long p1] g S (fun r g' => r = some (.int out) ∧ g' = g) := by
  have H : (f_X4_townNamed_23_2 g xN p1 0) = some out := H
  refine xC.of 4 SH1 [some (.ref 23), some (.long p1), none, none] hS (by decide +kernel) rfl (fun _ _ => Nat.le_of_ble_eq_true rfl) (fun _ _ => rfl) ?_
  intro k A hR hrm hz
  refine xb A [(.iconst 0, 1, 0, 0, .int 0), (.istore_n 3, 1, 0, 0, .null)] (pc' := 2) (ls' := [some (.ref 23), some (.long p1), none, some (.int 0)]) (st' := []) (g' := g) (by decide +kernel) rfl ?_
  exact t_X4_townNamed_23_2 hS A hR hrm hz _ _ _ H
def fp_X3_note_17 : List (Nat × Option Nat) := [(17, some 7), (17, some 8)]
def f_X3_note_17 (p1 : Int32) (p2 : Int32) (g : xG) : xG :=
  if (g.1 17 7) = 0 then
    (xupd (xupd g.1 17 7 p1) 17 8 p2, g.2)
  else
    g
set_option maxRecDepth 20000 in
theorem c_X3_note_17 {S : List xSh} (hS : xpf SH1 S) {g : xG} {p1 : Int32} {p2 : Int32} (out : xG) (H : f_X3_note_17 p1 p2 g = out) : xC mX3_note 0 0 0 0 S [.ref 17, .int p1, .int p2] g S (fun r g' => r = none ∧ g' = out) := by
  have H : (if (g.1 17 7) = 0 then
  (xupd (xupd g.1 17 7 p1) 17 8 p2, g.2)
else
  g) = out := H
  refine xC.of 3 SH1 [some (.ref 17), some (.int p1), some (.int p2)] hS (by decide +kernel) rfl (fun _ _ => Nat.le_of_ble_eq_true rfl) (fun _ _ => rfl) ?_
  intro k A hR hrm hz
  refine xb A [(.aload_n 0, 1, 0, 0, .null), (.getfield 44, 3, 17, 7, .int 0)] (pc' := 4) (ls' := [some (.ref 17), some (.int p1), some (.int p2)]) (st' := [.int (g.1 17 7)]) (g' := g) (by decide +kernel) rfl ?_
  refine xif_ne A (13) 17 7 (by decide +kernel) (fun h1 => ?_) (fun h1 => ?_)
  · rw [if_neg h1] at H
    subst H
    exact xret_v A hR hz (by decide +kernel) ⟨rfl, rfl⟩
  · rw [if_pos h1] at H
    refine xb A [(.aload_n 0, 1, 0, 0, .null), (.iload_n 1, 1, 0, 0, .null), (.putfield 44, 3, 17, 7, .int 0), (.aload_n 0, 1, 0, 0, .null), (.iload_n 2, 1, 0, 0, .null), (.putfield 47, 3, 17, 8, .int 0)] (pc' := 17) (ls' := [some (.ref 17), some (.int p1), some (.int p2)]) (st' := []) (g' := (xupd (xupd g.1 17 7 p1) 17 8 p2, g.2)) (by decide +kernel) rfl ?_
    subst H
    exact xret_v A hR hz (by decide +kernel) ⟨rfl, rfl⟩
theorem fr_X3_note_17 {p1 : Int32} {p2 : Int32} {g : xG} (out : xG) (H : f_X3_note_17 p1 p2 g = out) : xfrm fp_X3_note_17 g (out) := by
  have H : (if (g.1 17 7) = 0 then
  (xupd (xupd g.1 17 7 p1) 17 8 p2, g.2)
else
  g) = out := H
  by_cases h1 : (g.1 17 7) = 0
  · rw [if_pos h1] at H
    have hf1 : xfrm fp_X3_note_17 g ((xupd g.1 17 7 p1, g.2)) := xfrm.up xfrm.rf rfl
    have hf2 : xfrm fp_X3_note_17 g ((xupd (xupd g.1 17 7 p1) 17 8 p2, g.2)) := xfrm.up hf1 rfl
    subst H
    exact hf2
  · rw [if_neg h1] at H
    subst H
    exact xfrm.rf
def fp_X3_takeTown_17 : List (Nat × Option Nat) := [(17, some 5), (17, some 6), (17, some 7), (17, some 8)]
def f_X3_takeTown_17  (g : xG) : Option (Int32 × xG) :=
  (f_X4_townNamed_23 (f_X9_valueOf_18 (g.1 17 5) g) g).bind fun w1 =>
  if 0 ≤ w1 then
    (f_X3_take_17 2 g).bind fun w2 =>
    some (w1, w2)
  else
    xl (f_X3_note_17 4 (g.1 17 5) g) fun w3 =>
    (f_X3_take_17 2 w3).bind fun w4 =>
    some (w1, w4)
set_option maxRecDepth 20000 in
theorem c_X3_takeTown_17 {S : List xSh} (hS : xpf SH1 S) {g : xG}  (out : Int32 × xG) (H : f_X3_takeTown_17  g = some out) : xC mX3_takeTown 2 44 0 0 S [.ref 17] g S (fun r g' => r = some (.int out.1) ∧ g' = out.2) := by
  have H : ((f_X4_townNamed_23 (f_X9_valueOf_18 (g.1 17 5) g) g).bind fun w1 =>
if 0 ≤ w1 then
  (f_X3_take_17 2 g).bind fun w2 =>
  some (w1, w2)
else
  xl (f_X3_note_17 4 (g.1 17 5) g) fun w3 =>
  (f_X3_take_17 2 w3).bind fun w4 =>
  some (w1, w4)) = some out := H
  refine xC.of 3 SH1 [some (.ref 17), none] hS (by decide +kernel) rfl (fun _ _ => Nat.le_of_ble_eq_true rfl) (fun _ _ => rfl) ?_
  intro k A hR hrm hz
  refine xb A [(.aload_n 0, 1, 0, 0, .null), (.getfield 21, 3, 17, 2, .ref 23), (.aload_n 0, 1, 0, 0, .null), (.getfield 14, 3, 17, 1, .ref 18), (.aload_n 0, 1, 0, 0, .null), (.getfield 37, 3, 17, 5, .int 0)] (pc' := 12) (ls' := [some (.ref 17), none]) (st' := [.int (g.1 17 5), .ref 18, .ref 23]) (g' := g) (by decide +kernel) rfl ?_
  refine xcallV A (ix := 128) (nxt := 15) hrm hz [.int (g.1 17 5)] [.ref 23] 754 (c_X9_valueOf_18 hS _ rfl) ok_X9_valueOf (by decide +kernel) rfl (fun r g1 hq => ?_)
  rw [hq.1, hq.2]
  show xW k S 0 0 15 [some (.ref 17), none] [.long (f_X9_valueOf_18 (g.1 17 5) g), .ref 23] g
  obtain ⟨w1, e1, H⟩ := xbind H
  refine xcallV A (ix := 186) (nxt := 18) hrm hz [.long (f_X9_valueOf_18 (g.1 17 5) g)] [] 782 (c_X4_townNamed_23 hS _ e1) ok_X4_townNamed (by decide +kernel) rfl (fun r g1 hq => ?_)
  rw [hq.1, hq.2]
  show xW k S 0 0 18 [some (.ref 17), none] [.int w1] g
  refine xb A [(.istore_n 1, 1, 0, 0, .null), (.iload_n 1, 1, 0, 0, .null)] (pc' := 20) (ls' := [some (.ref 17), some (.int w1)]) (st' := [.int w1]) (g' := g) (by decide +kernel) rfl ?_
  refine xif_ge A (12) 32 23 (by decide +kernel) (fun h1 => ?_) (fun h1 => ?_)
  · rw [if_pos h1] at H
    refine xb A [(.aload_n 0, 1, 0, 0, .null), (.iconst 2, 1, 0, 0, .int 2)] (pc' := 34) (ls' := [some (.ref 17), some (.int w1)]) (st' := [.int 2, .ref 17]) (g' := g) (by decide +kernel) rfl ?_
    obtain ⟨w2, e2, H⟩ := xbind H
    refine xcallV A (ix := 82) (nxt := 37) hrm hz [.int 2] [] 746 (c_X3_take_17 hS _ e2) ok_X3_take (by decide +kernel) rfl (fun r g1 hq => ?_)
    rw [hq.1, hq.2]
    show xW k S 0 0 37 [some (.ref 17), some (.int w1)] [] w2
    refine xb A [(.iload_n 1, 1, 0, 0, .null)] (pc' := 38) (ls' := [some (.ref 17), some (.int w1)]) (st' := [.int w1]) (g' := w2) (by decide +kernel) rfl ?_
    obtain rfl := Option.some.inj H
    exact xret_i A hR hz (by decide +kernel) rfl ⟨rfl, rfl⟩
  · rw [if_neg h1] at H
    refine xb A [(.aload_n 0, 1, 0, 0, .null), (.iconst 4, 1, 0, 0, .int 4), (.aload_n 0, 1, 0, 0, .null), (.getfield 37, 3, 17, 5, .int 0)] (pc' := 29) (ls' := [some (.ref 17), some (.int w1)]) (st' := [.int (g.1 17 5), .int 4, .ref 17]) (g' := g) (by decide +kernel) rfl ?_
    obtain ⟨w3, e3, H⟩ := xl_elim H
    refine xcallV A (ix := 107) (nxt := 32) hrm hz [.int 4, .int (g.1 17 5)] [] 764 (c_X3_note_17 hS _ e3) ok_X3_note (by decide +kernel) rfl (fun r g1 hq => ?_)
    rw [hq.1, hq.2]
    show xW k S 0 0 32 [some (.ref 17), some (.int w1)] [] w3
    refine xb A [(.aload_n 0, 1, 0, 0, .null), (.iconst 2, 1, 0, 0, .int 2)] (pc' := 34) (ls' := [some (.ref 17), some (.int w1)]) (st' := [.int 2, .ref 17]) (g' := w3) (by decide +kernel) rfl ?_
    obtain ⟨w4, e4, H⟩ := xbind H
    refine xcallV A (ix := 82) (nxt := 37) hrm hz [.int 2] [] 746 (c_X3_take_17 hS _ e4) ok_X3_take (by decide +kernel) rfl (fun r g1 hq => ?_)
    rw [hq.1, hq.2]
    show xW k S 0 0 37 [some (.ref 17), some (.int w1)] [] w4
    refine xb A [(.iload_n 1, 1, 0, 0, .null)] (pc' := 38) (ls' := [some (.ref 17), some (.int w1)]) (st' := [.int w1]) (g' := w4) (by decide +kernel) rfl ?_
    obtain rfl := Option.some.inj H
    exact xret_i A hR hz (by decide +kernel) rfl ⟨rfl, rfl⟩
theorem fr_X3_takeTown_17  {g : xG} (out : Int32 × xG) (H : f_X3_takeTown_17  g = some out) : xfrm fp_X3_takeTown_17 g (out.2) := by
  have H : ((f_X4_townNamed_23 (f_X9_valueOf_18 (g.1 17 5) g) g).bind fun w1 =>
if 0 ≤ w1 then
  (f_X3_take_17 2 g).bind fun w2 =>
  some (w1, w2)
else
  xl (f_X3_note_17 4 (g.1 17 5) g) fun w3 =>
  (f_X3_take_17 2 w3).bind fun w4 =>
  some (w1, w4)) = some out := H
  obtain ⟨w1, e1, H⟩ := xbind H
  by_cases h1 : 0 ≤ w1
  · rw [if_pos h1] at H
    obtain ⟨w2, e2, H⟩ := xbind H
    have hf1 : xfrm fp_X3_takeTown_17 g (w2) := xfrm.tr xfrm.rf (fr_X3_take_17 _ e2) rfl
    obtain rfl := Option.some.inj H
    exact hf1
  · rw [if_neg h1] at H
    obtain ⟨w3, e3, H⟩ := xl_elim H
    have hf2 : xfrm fp_X3_takeTown_17 g (w3) := xfrm.tr xfrm.rf (fr_X3_note_17 _ e3) rfl
    obtain ⟨w4, e4, H⟩ := xbind H
    have hf3 : xfrm fp_X3_takeTown_17 g (w4) := xfrm.tr hf2 (fr_X3_take_17 _ e4) rfl
    obtain rfl := Option.some.inj H
    exact hf3
def fp_X4_setCapital_23 : List (Nat × Option Nat) := [(23, some 12)]
def f_X4_setCapital_23 (p1 : Int32) (g : xG) : xG :=
  (xupd g.1 23 12 p1, g.2)
set_option maxRecDepth 20000 in
theorem c_X4_setCapital_23 {S : List xSh} (hS : xpf SH1 S) {g : xG} {p1 : Int32} (out : xG) (H : f_X4_setCapital_23 p1 g = out) : xC mX4_setCapital 0 0 0 0 S [.ref 23, .int p1] g S (fun r g' => r = none ∧ g' = out) := by
  have H : ((xupd g.1 23 12 p1, g.2)) = out := H
  refine xC.of 4 SH1 [some (.ref 23), some (.int p1)] hS (by decide +kernel) rfl (fun _ _ => Nat.le_of_ble_eq_true rfl) (fun _ _ => rfl) ?_
  intro k A hR hrm hz
  refine xb A [(.aload_n 0, 1, 0, 0, .null), (.iload_n 1, 1, 0, 0, .null), (.putfield 54, 3, 23, 12, .int 0)] (pc' := 5) (ls' := [some (.ref 23), some (.int p1)]) (st' := []) (g' := (xupd g.1 23 12 p1, g.2)) (by decide +kernel) rfl ?_
  subst H
  exact xret_v A hR hz (by decide +kernel) ⟨rfl, rfl⟩
theorem fr_X4_setCapital_23 {p1 : Int32} {g : xG} (out : xG) (H : f_X4_setCapital_23 p1 g = out) : xfrm fp_X4_setCapital_23 g (out) := by
  have H : ((xupd g.1 23 12 p1, g.2)) = out := H
  have hf1 : xfrm fp_X4_setCapital_23 g ((xupd g.1 23 12 p1, g.2)) := xfrm.up xfrm.rf rfl
  subst H
  exact hf1
def fp_X3_readCapital_17 : List (Nat × Option Nat) := [(17, some 5), (17, some 6), (17, some 7), (17, some 8), (23, some 12)]
def f_X3_readCapital_17  (g : xG) : Option (xG) :=
  (f_X3_take_17 16 g).bind fun w1 =>
  (f_X3_takeTown_17 w1).bind fun w2 =>
  xl (f_X4_setCapital_23 w2.1 w2.2) fun w3 =>
  some w3
set_option maxRecDepth 20000 in
theorem c_X3_readCapital_17 {S : List xSh} (hS : xpf SH1 S) {g : xG}  (out : xG) (H : f_X3_readCapital_17  g = some out) : xC mX3_readCapital 3 65 0 0 S [.ref 17] g S (fun r g' => r = none ∧ g' = out) := by
  have H : ((f_X3_take_17 16 g).bind fun w1 =>
(f_X3_takeTown_17 w1).bind fun w2 =>
xl (f_X4_setCapital_23 w2.1 w2.2) fun w3 =>
some w3) = some out := H
  refine xC.of 3 SH1 [some (.ref 17)] hS (by decide +kernel) rfl (fun _ _ => Nat.le_of_ble_eq_true rfl) (fun _ _ => rfl) ?_
  intro k A hR hrm hz
  refine xb A [(.aload_n 0, 1, 0, 0, .null), (.bipush 16, 2, 0, 0, .int 16)] (pc' := 3) (ls' := [some (.ref 17)]) (st' := [.int 16, .ref 17]) (g' := g) (by decide +kernel) rfl ?_
  obtain ⟨w1, e1, H⟩ := xbind H
  refine xcallV A (ix := 82) (nxt := 6) hrm hz [.int 16] [] 746 (c_X3_take_17 hS _ e1) ok_X3_take (by decide +kernel) rfl (fun r g1 hq => ?_)
  rw [hq.1, hq.2]
  show xW k S 0 0 6 [some (.ref 17)] [] w1
  refine xb A [(.aload_n 0, 1, 0, 0, .null), (.getfield 21, 3, 17, 2, .ref 23), (.aload_n 0, 1, 0, 0, .null)] (pc' := 11) (ls' := [some (.ref 17)]) (st' := [.ref 17, .ref 23]) (g' := w1) (by decide +kernel) rfl ?_
  obtain ⟨w2, e2, H⟩ := xbind H
  refine xcallV A (ix := 104) (nxt := 14) hrm hz [] [.ref 23] 778 (c_X3_takeTown_17 hS _ e2) ok_X3_takeTown (by decide +kernel) rfl (fun r g1 hq => ?_)
  rw [hq.1, hq.2]
  show xW k S 0 0 14 [some (.ref 17)] [.int w2.1, .ref 23] w2.2
  obtain ⟨w3, e3, H⟩ := xl_elim H
  refine xcallV A (ix := 125) (nxt := 17) hrm hz [.int w2.1] [] 805 (c_X4_setCapital_23 hS _ e3) ok_X4_setCapital (by decide +kernel) rfl (fun r g1 hq => ?_)
  rw [hq.1, hq.2]
  show xW k S 0 0 17 [some (.ref 17)] [] w3
  obtain rfl := Option.some.inj H
  exact xret_v A hR hz (by decide +kernel) ⟨rfl, rfl⟩
theorem fr_X3_readCapital_17  {g : xG} (out : xG) (H : f_X3_readCapital_17  g = some out) : xfrm fp_X3_readCapital_17 g (out) := by
  have H : ((f_X3_take_17 16 g).bind fun w1 =>
(f_X3_takeTown_17 w1).bind fun w2 =>
xl (f_X4_setCapital_23 w2.1 w2.2) fun w3 =>
some w3) = some out := H
  obtain ⟨w1, e1, H⟩ := xbind H
  have hf1 : xfrm fp_X3_readCapital_17 g (w1) := xfrm.tr xfrm.rf (fr_X3_take_17 _ e1) rfl
  obtain ⟨w2, e2, H⟩ := xbind H
  have hf2 : xfrm fp_X3_readCapital_17 g (w2.2) := xfrm.tr hf1 (fr_X3_takeTown_17 _ e2) rfl
  obtain ⟨w3, e3, H⟩ := xl_elim H
  have hf3 : xfrm fp_X3_readCapital_17 g (w3) := xfrm.tr hf2 (fr_X4_setCapital_23 _ e3) rfl
  obtain rfl := Option.some.inj H
  exact hf3
def f_X4_people_23  (g : xG) : Int32 :=
  g.1 23 11
set_option maxRecDepth 20000 in
theorem c_X4_people_23 {S : List xSh} (hS : xpf SH1 S) {g : xG}  (out : Int32) (H : f_X4_people_23  g = out) : xC mX4_people 0 0 0 0 S [.ref 23] g S (fun r g' => r = some (.int out) ∧ g' = g) := by
  have H : (g.1 23 11) = out := H
  refine xC.of 4 SH1 [some (.ref 23)] hS (by decide +kernel) rfl (fun _ _ => Nat.le_of_ble_eq_true rfl) (fun _ _ => rfl) ?_
  intro k A hR hrm hz
  refine xb A [(.aload_n 0, 1, 0, 0, .null), (.getfield 51, 3, 23, 11, .int 0)] (pc' := 4) (ls' := [some (.ref 23)]) (st' := [.int (g.1 23 11)]) (g' := g) (by decide +kernel) rfl ?_
  subst H
  exact xret_i A hR hz (by decide +kernel) rfl ⟨rfl, rfl⟩
def f_X4_hasName_23_2  (g : xG) : Nat → Int64 → Int32 → Option (Int32)
  | 0, _, _ => none
  | n + 1, l1, l3 =>
    if (g.1 23 11) ≤ l3 then
      (f_X4_townNamed_23 l1 g).bind fun w1 =>
      if w1 < 0 then
        some 0
      else
        some 1
    else
      if (lg_cmp (xlat g 28 6 l3) l1) = 0 then
        some 1
      else
        f_X4_hasName_23_2 g n l1 (l3 + 1)
def f_X4_hasName_23 (p1 : Int64) (g : xG) : Option (Int32) :=
  f_X4_hasName_23_2 g xN p1 0
set_option maxRecDepth 20000 in
theorem t_X4_hasName_23_2 {k : xK} {S : List xSh} {g : xG} {out : Int32} (hS : xpf SH1 S) (A : xAt k mX4_hasName.2.1 4 SH1 S) (hR : xRet k 0 0 S (fun r g' => r = some (.int out) ∧ g' = g) mX4_hasName.2.2.2) (hrm : xrm k = { frames := 2, cells := 0, slots := 0, locals := 44 }) (hz : xhs k = xb0 k + S.length)   : ∀ (n : Nat) (l1 : Int64) (l3 : Int32), f_X4_hasName_23_2 g n l1 l3 = some out → xW k S 0 0 2 [some (.ref 23), some (.long l1), none, some (.int l3)] [] g := by
  intro n
  induction n with
  | zero => intro l1 l3 H; exact absurd H (by simp [f_X4_hasName_23_2])
  | succ n ih =>
    intro l1 l3 H
    have H : (if (g.1 23 11) ≤ l3 then
  (f_X4_townNamed_23 l1 g).bind fun w1 =>
  if w1 < 0 then
    some 0
  else
    some 1
else
  if (lg_cmp (xlat g 28 6 l3) l1) = 0 then
    some 1
  else
    f_X4_hasName_23_2 g n l1 (l3 + 1)) = some out := H
    refine xb A [(.iload_n 3, 1, 0, 0, .null), (.aload_n 0, 1, 0, 0, .null), (.getfield 51, 3, 23, 11, .int 0)] (pc' := 7) (ls' := [some (.ref 23), some (.long l1), none, some (.int l3)]) (st' := [.int (g.1 23 11), .int l3]) (g' := g) (by decide +kernel) rfl ?_
    refine xic_ge A (24) 31 10 (by decide +kernel) (fun h1 => ?_) (fun h1 => ?_)
    · rw [if_pos h1] at H
      refine xb A [(.aload_n 0, 1, 0, 0, .null), (.lload_n 1, 1, 0, 0, .null)] (pc' := 33) (ls' := [some (.ref 23), some (.long l1), none, some (.int l3)]) (st' := [.long l1, .ref 23]) (g' := g) (by decide +kernel) rfl ?_
      obtain ⟨w1, e1, H⟩ := xbind H
      refine xcallV A (ix := 83) (nxt := 36) hrm hz [.long l1] [] 760 (c_X4_townNamed_23 hS _ e1) ok_X4_townNamed (by decide +kernel) rfl (fun r g1 hq => ?_)
      rw [hq.1, hq.2]
      show xW k S 0 0 36 [some (.ref 23), some (.long l1), none, some (.int l3)] [.int w1] g
      refine xif_lt A (7) 43 39 (by decide +kernel) (fun h2 => ?_) (fun h2 => ?_)
      · rw [if_pos h2] at H
        refine xb A [(.iconst 0, 1, 0, 0, .int 0)] (pc' := 44) (ls' := [some (.ref 23), some (.long l1), none, some (.int l3)]) (st' := [.int 0]) (g' := g) (by decide +kernel) rfl ?_
        obtain rfl := Option.some.inj H
        exact xret_i A hR hz (by decide +kernel) rfl ⟨rfl, rfl⟩
      · rw [if_neg h2] at H
        refine xb A [(.iconst 1, 1, 0, 0, .int 1)] (pc' := 40) (ls' := [some (.ref 23), some (.long l1), none, some (.int l3)]) (st' := [.int 1]) (g' := g) (by decide +kernel) rfl ?_
        refine xgoto A (4) 44 (by decide +kernel) ?_
        obtain rfl := Option.some.inj H
        exact xret_i A hR hz (by decide +kernel) rfl ⟨rfl, rfl⟩
    · rw [if_neg h1] at H
      refine xb A [(.aload_n 0, 1, 0, 0, .null), (.getfield 25, 3, 23, 4, .ref 28), (.iload_n 3, 1, 0, 0, .null)] (pc' := 15) (ls' := [some (.ref 23), some (.long l1), none, some (.int l3)]) (st' := [.int l3, .ref 28]) (g' := g) (by decide +kernel) rfl ?_
      refine xcallSN A (ix := 79) (nxt := 18) (host := "NoonRinger") hrm hz [.ref 28, .int l3] [] 16 (c_X11_longAt (hS _ _ sh_28) (by decide)) ok_X11_longAt (by decide +kernel) rfl (fun r g1 hq => ?_)
      rw [hq.1, hq.2]
      show xW k S 0 0 18 [some (.ref 23), some (.long l1), none, some (.int l3)] [.long (xlat g 28 6 l3)] g
      refine xb A [(.lload_n 1, 1, 0, 0, .null), (.lcmp, 1, 0, 0, .null)] (pc' := 20) (ls' := [some (.ref 23), some (.long l1), none, some (.int l3)]) (st' := [.int (lg_cmp (xlat g 28 6 l3) l1)]) (g' := g) (by decide +kernel) rfl ?_
      refine xif_ne A (5) 25 23 (by decide +kernel) (fun h3 => ?_) (fun h3 => ?_)
      · rw [if_neg h3] at H
        refine xb A [(.iinc 3 1, 3, 0, 0, .null)] (pc' := 28) (ls' := [some (.ref 23), some (.long l1), none, some (.int (l3 + 1))]) (st' := []) (g' := g) (by decide +kernel) rfl ?_
        refine xgoto A (-26) 2 (by decide +kernel) ?_
        exact ih _ _ H
      · rw [if_pos h3] at H
        refine xb A [(.iconst 1, 1, 0, 0, .int 1)] (pc' := 24) (ls' := [some (.ref 23), some (.long l1), none, some (.int l3)]) (st' := [.int 1]) (g' := g) (by decide +kernel) rfl ?_
        obtain rfl := Option.some.inj H
        exact xret_i A hR hz (by decide +kernel) rfl ⟨rfl, rfl⟩
set_option maxRecDepth 20000 in
theorem c_X4_hasName_23 {S : List xSh} (hS : xpf SH1 S) {g : xG} {p1 : Int64} (out : Int32) (H : f_X4_hasName_23 p1 g = some out) : xC mX4_hasName 2 44 0 0 S [.ref 23, .long p1] g S (fun r g' => r = some (.int out) ∧ g' = g) := by
  have H : (f_X4_hasName_23_2 g xN p1 0) = some out := H
  refine xC.of 4 SH1 [some (.ref 23), some (.long p1), none, none] hS (by decide +kernel) rfl (fun _ _ => Nat.le_of_ble_eq_true rfl) (fun _ _ => rfl) ?_
  intro k A hR hrm hz
  refine xb A [(.iconst 0, 1, 0, 0, .int 0), (.istore_n 3, 1, 0, 0, .null)] (pc' := 2) (ls' := [some (.ref 23), some (.long p1), none, some (.int 0)]) (st' := []) (g' := g) (by decide +kernel) rfl ?_
  exact t_X4_hasName_23_2 hS A hR hrm hz _ _ _ H
def fp_X3_takeNewName_17 : List (Nat × Option Nat) := [(17, some 5), (17, some 6), (17, some 7), (17, some 8)]
def f_X3_takeNewName_17  (g : xG) : Option (Int64 × xG) :=
  (f_X4_hasName_23 (f_X9_valueOf_18 (g.1 17 5) g) g).bind fun w1 =>
  if w1 = 0 then
    (f_X3_take_17 2 g).bind fun w2 =>
    some (f_X9_valueOf_18 (g.1 17 5) g, w2)
  else
    xl (f_X3_note_17 3 (g.1 17 5) g) fun w3 =>
    (f_X3_take_17 2 w3).bind fun w4 =>
    some (f_X9_valueOf_18 (g.1 17 5) g, w4)
set_option maxRecDepth 20000 in
theorem c_X3_takeNewName_17 {S : List xSh} (hS : xpf SH1 S) {g : xG}  (out : Int64 × xG) (H : f_X3_takeNewName_17  g = some out) : xC mX3_takeNewName 3 67 0 0 S [.ref 17] g S (fun r g' => r = some (.long out.1) ∧ g' = out.2) := by
  have H : ((f_X4_hasName_23 (f_X9_valueOf_18 (g.1 17 5) g) g).bind fun w1 =>
if w1 = 0 then
  (f_X3_take_17 2 g).bind fun w2 =>
  some (f_X9_valueOf_18 (g.1 17 5) g, w2)
else
  xl (f_X3_note_17 3 (g.1 17 5) g) fun w3 =>
  (f_X3_take_17 2 w3).bind fun w4 =>
  some (f_X9_valueOf_18 (g.1 17 5) g, w4)) = some out := H
  refine xC.of 3 SH1 [some (.ref 17), none, none] hS (by decide +kernel) rfl (fun _ _ => Nat.le_of_ble_eq_true rfl) (fun _ _ => rfl) ?_
  intro k A hR hrm hz
  refine xb A [(.aload_n 0, 1, 0, 0, .null), (.getfield 14, 3, 17, 1, .ref 18), (.aload_n 0, 1, 0, 0, .null), (.getfield 37, 3, 17, 5, .int 0)] (pc' := 8) (ls' := [some (.ref 17), none, none]) (st' := [.int (g.1 17 5), .ref 18]) (g' := g) (by decide +kernel) rfl ?_
  refine xcallV A (ix := 128) (nxt := 11) hrm hz [.int (g.1 17 5)] [] 754 (c_X9_valueOf_18 hS _ rfl) ok_X9_valueOf (by decide +kernel) rfl (fun r g1 hq => ?_)
  rw [hq.1, hq.2]
  show xW k S 0 0 11 [some (.ref 17), none, none] [.long (f_X9_valueOf_18 (g.1 17 5) g)] g
  refine xb A [(.lstore_n 1, 1, 0, 0, .null), (.aload_n 0, 1, 0, 0, .null), (.getfield 21, 3, 17, 2, .ref 23), (.lload_n 1, 1, 0, 0, .null)] (pc' := 17) (ls' := [some (.ref 17), some (.long (f_X9_valueOf_18 (g.1 17 5) g)), none]) (st' := [.long (f_X9_valueOf_18 (g.1 17 5) g), .ref 23]) (g' := g) (by decide +kernel) rfl ?_
  obtain ⟨w1, e1, H⟩ := xbind H
  refine xcallV A (ix := 182) (nxt := 20) hrm hz [.long (f_X9_valueOf_18 (g.1 17 5) g)] [] 755 (c_X4_hasName_23 hS _ e1) ok_X4_hasName (by decide +kernel) rfl (fun r g1 hq => ?_)
  rw [hq.1, hq.2]
  show xW k S 0 0 20 [some (.ref 17), some (.long (f_X9_valueOf_18 (g.1 17 5) g)), none] [.int w1] g
  refine xif_eq A (12) 32 23 (by decide +kernel) (fun h1 => ?_) (fun h1 => ?_)
  · rw [if_pos h1] at H
    refine xb A [(.aload_n 0, 1, 0, 0, .null), (.iconst 2, 1, 0, 0, .int 2)] (pc' := 34) (ls' := [some (.ref 17), some (.long (f_X9_valueOf_18 (g.1 17 5) g)), none]) (st' := [.int 2, .ref 17]) (g' := g) (by decide +kernel) rfl ?_
    obtain ⟨w2, e2, H⟩ := xbind H
    refine xcallV A (ix := 82) (nxt := 37) hrm hz [.int 2] [] 746 (c_X3_take_17 hS _ e2) ok_X3_take (by decide +kernel) rfl (fun r g1 hq => ?_)
    rw [hq.1, hq.2]
    show xW k S 0 0 37 [some (.ref 17), some (.long (f_X9_valueOf_18 (g.1 17 5) g)), none] [] w2
    refine xb A [(.lload_n 1, 1, 0, 0, .null)] (pc' := 38) (ls' := [some (.ref 17), some (.long (f_X9_valueOf_18 (g.1 17 5) g)), none]) (st' := [.long (f_X9_valueOf_18 (g.1 17 5) g)]) (g' := w2) (by decide +kernel) rfl ?_
    obtain rfl := Option.some.inj H
    exact xret_l A hR hz (by decide +kernel) ⟨rfl, rfl⟩
  · rw [if_neg h1] at H
    refine xb A [(.aload_n 0, 1, 0, 0, .null), (.iconst 3, 1, 0, 0, .int 3), (.aload_n 0, 1, 0, 0, .null), (.getfield 37, 3, 17, 5, .int 0)] (pc' := 29) (ls' := [some (.ref 17), some (.long (f_X9_valueOf_18 (g.1 17 5) g)), none]) (st' := [.int (g.1 17 5), .int 3, .ref 17]) (g' := g) (by decide +kernel) rfl ?_
    obtain ⟨w3, e3, H⟩ := xl_elim H
    refine xcallV A (ix := 107) (nxt := 32) hrm hz [.int 3, .int (g.1 17 5)] [] 764 (c_X3_note_17 hS _ e3) ok_X3_note (by decide +kernel) rfl (fun r g1 hq => ?_)
    rw [hq.1, hq.2]
    show xW k S 0 0 32 [some (.ref 17), some (.long (f_X9_valueOf_18 (g.1 17 5) g)), none] [] w3
    refine xb A [(.aload_n 0, 1, 0, 0, .null), (.iconst 2, 1, 0, 0, .int 2)] (pc' := 34) (ls' := [some (.ref 17), some (.long (f_X9_valueOf_18 (g.1 17 5) g)), none]) (st' := [.int 2, .ref 17]) (g' := w3) (by decide +kernel) rfl ?_
    obtain ⟨w4, e4, H⟩ := xbind H
    refine xcallV A (ix := 82) (nxt := 37) hrm hz [.int 2] [] 746 (c_X3_take_17 hS _ e4) ok_X3_take (by decide +kernel) rfl (fun r g1 hq => ?_)
    rw [hq.1, hq.2]
    show xW k S 0 0 37 [some (.ref 17), some (.long (f_X9_valueOf_18 (g.1 17 5) g)), none] [] w4
    refine xb A [(.lload_n 1, 1, 0, 0, .null)] (pc' := 38) (ls' := [some (.ref 17), some (.long (f_X9_valueOf_18 (g.1 17 5) g)), none]) (st' := [.long (f_X9_valueOf_18 (g.1 17 5) g)]) (g' := w4) (by decide +kernel) rfl ?_
    obtain rfl := Option.some.inj H
    exact xret_l A hR hz (by decide +kernel) ⟨rfl, rfl⟩
theorem fr_X3_takeNewName_17  {g : xG} (out : Int64 × xG) (H : f_X3_takeNewName_17  g = some out) : xfrm fp_X3_takeNewName_17 g (out.2) := by
  have H : ((f_X4_hasName_23 (f_X9_valueOf_18 (g.1 17 5) g) g).bind fun w1 =>
if w1 = 0 then
  (f_X3_take_17 2 g).bind fun w2 =>
  some (f_X9_valueOf_18 (g.1 17 5) g, w2)
else
  xl (f_X3_note_17 3 (g.1 17 5) g) fun w3 =>
  (f_X3_take_17 2 w3).bind fun w4 =>
  some (f_X9_valueOf_18 (g.1 17 5) g, w4)) = some out := H
  obtain ⟨w1, e1, H⟩ := xbind H
  by_cases h1 : w1 = 0
  · rw [if_pos h1] at H
    obtain ⟨w2, e2, H⟩ := xbind H
    have hf1 : xfrm fp_X3_takeNewName_17 g (w2) := xfrm.tr xfrm.rf (fr_X3_take_17 _ e2) rfl
    obtain rfl := Option.some.inj H
    exact hf1
  · rw [if_neg h1] at H
    obtain ⟨w3, e3, H⟩ := xl_elim H
    have hf2 : xfrm fp_X3_takeNewName_17 g (w3) := xfrm.tr xfrm.rf (fr_X3_note_17 _ e3) rfl
    obtain ⟨w4, e4, H⟩ := xbind H
    have hf3 : xfrm fp_X3_takeNewName_17 g (w4) := xfrm.tr hf2 (fr_X3_take_17 _ e4) rfl
    obtain rfl := Option.some.inj H
    exact hf3
def fp_X3_takeNumber_17 : List (Nat × Option Nat) := [(17, some 5), (17, some 6), (17, some 7), (17, some 8)]
def f_X3_takeNumber_17 (p1 : Int32) (p2 : Int32) (g : xG) : Option (Int32 × xG) :=
  if ((f_X9_valueOf_18 (g.1 17 5) g).toInt32) < p1 then
    xl (f_X3_note_17 5 (g.1 17 5) g) fun w1 =>
    (f_X3_take_17 3 w1).bind fun w2 =>
    some ((f_X9_valueOf_18 (g.1 17 5) g).toInt32, w2)
  else
    if ((f_X9_valueOf_18 (g.1 17 5) g).toInt32) ≤ p2 then
      (f_X3_take_17 3 g).bind fun w3 =>
      some ((f_X9_valueOf_18 (g.1 17 5) g).toInt32, w3)
    else
      xl (f_X3_note_17 5 (g.1 17 5) g) fun w4 =>
      (f_X3_take_17 3 w4).bind fun w5 =>
      some ((f_X9_valueOf_18 (g.1 17 5) g).toInt32, w5)
set_option maxRecDepth 20000 in
theorem c_X3_takeNumber_17 {S : List xSh} (hS : xpf SH1 S) {g : xG} {p1 : Int32} {p2 : Int32} (out : Int32 × xG) (H : f_X3_takeNumber_17 p1 p2 g = some out) : xC mX3_takeNumber 2 42 0 0 S [.ref 17, .int p1, .int p2] g S (fun r g' => r = some (.int out.1) ∧ g' = out.2) := by
  have H : (if ((f_X9_valueOf_18 (g.1 17 5) g).toInt32) < p1 then
  xl (f_X3_note_17 5 (g.1 17 5) g) fun w1 =>
  (f_X3_take_17 3 w1).bind fun w2 =>
  some ((f_X9_valueOf_18 (g.1 17 5) g).toInt32, w2)
else
  if ((f_X9_valueOf_18 (g.1 17 5) g).toInt32) ≤ p2 then
    (f_X3_take_17 3 g).bind fun w3 =>
    some ((f_X9_valueOf_18 (g.1 17 5) g).toInt32, w3)
  else
    xl (f_X3_note_17 5 (g.1 17 5) g) fun w4 =>
    (f_X3_take_17 3 w4).bind fun w5 =>
    some ((f_X9_valueOf_18 (g.1 17 5) g).toInt32, w5)) = some out := H
  refine xC.of 3 SH1 [some (.ref 17), some (.int p1), some (.int p2), none] hS (by decide +kernel) rfl (fun _ _ => Nat.le_of_ble_eq_true rfl) (fun _ _ => rfl) ?_
  intro k A hR hrm hz
  refine xb A [(.aload_n 0, 1, 0, 0, .null), (.getfield 14, 3, 17, 1, .ref 18), (.aload_n 0, 1, 0, 0, .null), (.getfield 37, 3, 17, 5, .int 0)] (pc' := 8) (ls' := [some (.ref 17), some (.int p1), some (.int p2), none]) (st' := [.int (g.1 17 5), .ref 18]) (g' := g) (by decide +kernel) rfl ?_
  refine xcallV A (ix := 128) (nxt := 11) hrm hz [.int (g.1 17 5)] [] 754 (c_X9_valueOf_18 hS _ rfl) ok_X9_valueOf (by decide +kernel) rfl (fun r g1 hq => ?_)
  rw [hq.1, hq.2]
  show xW k S 0 0 11 [some (.ref 17), some (.int p1), some (.int p2), none] [.long (f_X9_valueOf_18 (g.1 17 5) g)] g
  refine xb A [(.l2i, 1, 0, 0, .null), (.istore_n 3, 1, 0, 0, .null), (.iload_n 3, 1, 0, 0, .null), (.iload_n 1, 1, 0, 0, .null)] (pc' := 15) (ls' := [some (.ref 17), some (.int p1), some (.int p2), some (.int ((f_X9_valueOf_18 (g.1 17 5) g).toInt32))]) (st' := [.int p1, .int ((f_X9_valueOf_18 (g.1 17 5) g).toInt32)]) (g' := g) (by decide +kernel) rfl ?_
  refine xic_lt A (8) 23 18 (by decide +kernel) (fun h1 => ?_) (fun h1 => ?_)
  · rw [if_pos h1] at H
    refine xb A [(.aload_n 0, 1, 0, 0, .null), (.iconst 5, 1, 0, 0, .int 5), (.aload_n 0, 1, 0, 0, .null), (.getfield 37, 3, 17, 5, .int 0)] (pc' := 29) (ls' := [some (.ref 17), some (.int p1), some (.int p2), some (.int ((f_X9_valueOf_18 (g.1 17 5) g).toInt32))]) (st' := [.int (g.1 17 5), .int 5, .ref 17]) (g' := g) (by decide +kernel) rfl ?_
    obtain ⟨w1, e1, H⟩ := xl_elim H
    refine xcallV A (ix := 107) (nxt := 32) hrm hz [.int 5, .int (g.1 17 5)] [] 764 (c_X3_note_17 hS _ e1) ok_X3_note (by decide +kernel) rfl (fun r g1 hq => ?_)
    rw [hq.1, hq.2]
    show xW k S 0 0 32 [some (.ref 17), some (.int p1), some (.int p2), some (.int ((f_X9_valueOf_18 (g.1 17 5) g).toInt32))] [] w1
    refine xb A [(.aload_n 0, 1, 0, 0, .null), (.iconst 3, 1, 0, 0, .int 3)] (pc' := 34) (ls' := [some (.ref 17), some (.int p1), some (.int p2), some (.int ((f_X9_valueOf_18 (g.1 17 5) g).toInt32))]) (st' := [.int 3, .ref 17]) (g' := w1) (by decide +kernel) rfl ?_
    obtain ⟨w2, e2, H⟩ := xbind H
    refine xcallV A (ix := 82) (nxt := 37) hrm hz [.int 3] [] 746 (c_X3_take_17 hS _ e2) ok_X3_take (by decide +kernel) rfl (fun r g1 hq => ?_)
    rw [hq.1, hq.2]
    show xW k S 0 0 37 [some (.ref 17), some (.int p1), some (.int p2), some (.int ((f_X9_valueOf_18 (g.1 17 5) g).toInt32))] [] w2
    refine xb A [(.iload_n 3, 1, 0, 0, .null)] (pc' := 38) (ls' := [some (.ref 17), some (.int p1), some (.int p2), some (.int ((f_X9_valueOf_18 (g.1 17 5) g).toInt32))]) (st' := [.int ((f_X9_valueOf_18 (g.1 17 5) g).toInt32)]) (g' := w2) (by decide +kernel) rfl ?_
    obtain rfl := Option.some.inj H
    exact xret_i A hR hz (by decide +kernel) rfl ⟨rfl, rfl⟩
  · rw [if_neg h1] at H
    refine xb A [(.iload_n 3, 1, 0, 0, .null), (.iload_n 2, 1, 0, 0, .null)] (pc' := 20) (ls' := [some (.ref 17), some (.int p1), some (.int p2), some (.int ((f_X9_valueOf_18 (g.1 17 5) g).toInt32))]) (st' := [.int p2, .int ((f_X9_valueOf_18 (g.1 17 5) g).toInt32)]) (g' := g) (by decide +kernel) rfl ?_
    refine xic_le A (12) 32 23 (by decide +kernel) (fun h2 => ?_) (fun h2 => ?_)
    · rw [if_pos h2] at H
      refine xb A [(.aload_n 0, 1, 0, 0, .null), (.iconst 3, 1, 0, 0, .int 3)] (pc' := 34) (ls' := [some (.ref 17), some (.int p1), some (.int p2), some (.int ((f_X9_valueOf_18 (g.1 17 5) g).toInt32))]) (st' := [.int 3, .ref 17]) (g' := g) (by decide +kernel) rfl ?_
      obtain ⟨w3, e3, H⟩ := xbind H
      refine xcallV A (ix := 82) (nxt := 37) hrm hz [.int 3] [] 746 (c_X3_take_17 hS _ e3) ok_X3_take (by decide +kernel) rfl (fun r g1 hq => ?_)
      rw [hq.1, hq.2]
      show xW k S 0 0 37 [some (.ref 17), some (.int p1), some (.int p2), some (.int ((f_X9_valueOf_18 (g.1 17 5) g).toInt32))] [] w3
      refine xb A [(.iload_n 3, 1, 0, 0, .null)] (pc' := 38) (ls' := [some (.ref 17), some (.int p1), some (.int p2), some (.int ((f_X9_valueOf_18 (g.1 17 5) g).toInt32))]) (st' := [.int ((f_X9_valueOf_18 (g.1 17 5) g).toInt32)]) (g' := w3) (by decide +kernel) rfl ?_
      obtain rfl := Option.some.inj H
      exact xret_i A hR hz (by decide +kernel) rfl ⟨rfl, rfl⟩
    · rw [if_neg h2] at H
      refine xb A [(.aload_n 0, 1, 0, 0, .null), (.iconst 5, 1, 0, 0, .int 5), (.aload_n 0, 1, 0, 0, .null), (.getfield 37, 3, 17, 5, .int 0)] (pc' := 29) (ls' := [some (.ref 17), some (.int p1), some (.int p2), some (.int ((f_X9_valueOf_18 (g.1 17 5) g).toInt32))]) (st' := [.int (g.1 17 5), .int 5, .ref 17]) (g' := g) (by decide +kernel) rfl ?_
      obtain ⟨w4, e4, H⟩ := xl_elim H
      refine xcallV A (ix := 107) (nxt := 32) hrm hz [.int 5, .int (g.1 17 5)] [] 764 (c_X3_note_17 hS _ e4) ok_X3_note (by decide +kernel) rfl (fun r g1 hq => ?_)
      rw [hq.1, hq.2]
      show xW k S 0 0 32 [some (.ref 17), some (.int p1), some (.int p2), some (.int ((f_X9_valueOf_18 (g.1 17 5) g).toInt32))] [] w4
      refine xb A [(.aload_n 0, 1, 0, 0, .null), (.iconst 3, 1, 0, 0, .int 3)] (pc' := 34) (ls' := [some (.ref 17), some (.int p1), some (.int p2), some (.int ((f_X9_valueOf_18 (g.1 17 5) g).toInt32))]) (st' := [.int 3, .ref 17]) (g' := w4) (by decide +kernel) rfl ?_
      obtain ⟨w5, e5, H⟩ := xbind H
      refine xcallV A (ix := 82) (nxt := 37) hrm hz [.int 3] [] 746 (c_X3_take_17 hS _ e5) ok_X3_take (by decide +kernel) rfl (fun r g1 hq => ?_)
      rw [hq.1, hq.2]
      show xW k S 0 0 37 [some (.ref 17), some (.int p1), some (.int p2), some (.int ((f_X9_valueOf_18 (g.1 17 5) g).toInt32))] [] w5
      refine xb A [(.iload_n 3, 1, 0, 0, .null)] (pc' := 38) (ls' := [some (.ref 17), some (.int p1), some (.int p2), some (.int ((f_X9_valueOf_18 (g.1 17 5) g).toInt32))]) (st' := [.int ((f_X9_valueOf_18 (g.1 17 5) g).toInt32)]) (g' := w5) (by decide +kernel) rfl ?_
      obtain rfl := Option.some.inj H
      exact xret_i A hR hz (by decide +kernel) rfl ⟨rfl, rfl⟩
theorem fr_X3_takeNumber_17 {p1 : Int32} {p2 : Int32} {g : xG} (out : Int32 × xG) (H : f_X3_takeNumber_17 p1 p2 g = some out) : xfrm fp_X3_takeNumber_17 g (out.2) := by
  have H : (if ((f_X9_valueOf_18 (g.1 17 5) g).toInt32) < p1 then
  xl (f_X3_note_17 5 (g.1 17 5) g) fun w1 =>
  (f_X3_take_17 3 w1).bind fun w2 =>
  some ((f_X9_valueOf_18 (g.1 17 5) g).toInt32, w2)
else
  if ((f_X9_valueOf_18 (g.1 17 5) g).toInt32) ≤ p2 then
    (f_X3_take_17 3 g).bind fun w3 =>
    some ((f_X9_valueOf_18 (g.1 17 5) g).toInt32, w3)
  else
    xl (f_X3_note_17 5 (g.1 17 5) g) fun w4 =>
    (f_X3_take_17 3 w4).bind fun w5 =>
    some ((f_X9_valueOf_18 (g.1 17 5) g).toInt32, w5)) = some out := H
  by_cases h1 : ((f_X9_valueOf_18 (g.1 17 5) g).toInt32) < p1
  · rw [if_pos h1] at H
    obtain ⟨w1, e1, H⟩ := xl_elim H
    have hf1 : xfrm fp_X3_takeNumber_17 g (w1) := xfrm.tr xfrm.rf (fr_X3_note_17 _ e1) rfl
    obtain ⟨w2, e2, H⟩ := xbind H
    have hf2 : xfrm fp_X3_takeNumber_17 g (w2) := xfrm.tr hf1 (fr_X3_take_17 _ e2) rfl
    obtain rfl := Option.some.inj H
    exact hf2
  · rw [if_neg h1] at H
    by_cases h2 : ((f_X9_valueOf_18 (g.1 17 5) g).toInt32) ≤ p2
    · rw [if_pos h2] at H
      obtain ⟨w3, e3, H⟩ := xbind H
      have hf3 : xfrm fp_X3_takeNumber_17 g (w3) := xfrm.tr xfrm.rf (fr_X3_take_17 _ e3) rfl
      obtain rfl := Option.some.inj H
      exact hf3
    · rw [if_neg h2] at H
      obtain ⟨w4, e4, H⟩ := xl_elim H
      have hf4 : xfrm fp_X3_takeNumber_17 g (w4) := xfrm.tr xfrm.rf (fr_X3_note_17 _ e4) rfl
      obtain ⟨w5, e5, H⟩ := xbind H
      have hf5 : xfrm fp_X3_takeNumber_17 g (w5) := xfrm.tr hf4 (fr_X3_take_17 _ e5) rfl
      obtain rfl := Option.some.inj H
      exact hf5
def fp_X4_addPerson_23 : List (Nat × Option Nat) := [(23, some 11), (28, none), (29, none), (30, none), (31, none)]
def f_X4_addPerson_23 (p1 : Int64) (p3 : Int32) (p4 : Int32) (p5 : Int32) (g : xG) : xG :=
  xl (xlput g 28 6 (g.1 23 11) p1) fun w1 =>
  xl (xput w1 29 6 (w1.1 23 11) p3) fun w2 =>
  xl (xput w2 30 6 (w2.1 23 11) p4) fun w3 =>
  xl (xput w3 31 6 (w3.1 23 11) p5) fun w4 =>
  (xupd w4.1 23 11 ((w4.1 23 11) + 1), w4.2)
set_option maxRecDepth 20000 in
theorem c_X4_addPerson_23 {S : List xSh} (hS : xpf SH1 S) {g : xG} {p1 : Int64} {p3 : Int32} {p4 : Int32} {p5 : Int32} (out : xG) (H : f_X4_addPerson_23 p1 p3 p4 p5 g = out) : xC mX4_addPerson 1 23 0 0 S [.ref 23, .long p1, .int p3, .int p4, .int p5] g S (fun r g' => r = none ∧ g' = out) := by
  have H : (xl (xlput g 28 6 (g.1 23 11) p1) fun w1 =>
xl (xput w1 29 6 (w1.1 23 11) p3) fun w2 =>
xl (xput w2 30 6 (w2.1 23 11) p4) fun w3 =>
xl (xput w3 31 6 (w3.1 23 11) p5) fun w4 =>
(xupd w4.1 23 11 ((w4.1 23 11) + 1), w4.2)) = out := H
  refine xC.of 4 SH1 [some (.ref 23), some (.long p1), none, some (.int p3), some (.int p4), some (.int p5)] hS (by decide +kernel) rfl (fun _ _ => Nat.le_of_ble_eq_true rfl) (fun _ _ => rfl) ?_
  intro k A hR hrm hz
  refine xb A [(.aload_n 0, 1, 0, 0, .null), (.getfield 25, 3, 23, 4, .ref 28), (.aload_n 0, 1, 0, 0, .null), (.getfield 51, 3, 23, 11, .int 0), (.lload_n 1, 1, 0, 0, .null)] (pc' := 9) (ls' := [some (.ref 23), some (.long p1), none, some (.int p3), some (.int p4), some (.int p5)]) (st' := [.long p1, .int (g.1 23 11), .ref 28]) (g' := g) (by decide +kernel) rfl ?_
  obtain ⟨w1, e1, H⟩ := xl_elim H
  refine xcallSN A (ix := 71) (nxt := 12) (host := "NoonRinger") hrm hz [.ref 28, .int (g.1 23 11), .long p1] [] 17 (c_X11_putLong (hS _ _ sh_28) (by decide)) ok_X11_putLong (by decide +kernel) rfl (fun r g1 hq => ?_)
  rw [hq.1, hq.2]
  rw [e1]
  show xW k S 0 0 12 [some (.ref 23), some (.long p1), none, some (.int p3), some (.int p4), some (.int p5)] [] w1
  refine xb A [(.aload_n 0, 1, 0, 0, .null), (.getfield 28, 3, 23, 5, .ref 29), (.aload_n 0, 1, 0, 0, .null), (.getfield 51, 3, 23, 11, .int 0), (.iload_n 3, 1, 0, 0, .null)] (pc' := 21) (ls' := [some (.ref 23), some (.long p1), none, some (.int p3), some (.int p4), some (.int p5)]) (st' := [.int p3, .int (w1.1 23 11), .ref 29]) (g' := w1) (by decide +kernel) rfl ?_
  obtain ⟨w2, e2, H⟩ := xl_elim H
  refine xcallSN A (ix := 75) (nxt := 24) (host := "NoonRinger") hrm hz [.ref 29, .int (w1.1 23 11), .int p3] [] 18 (c_X11_put (hS _ _ sh_29) (by decide)) ok_X11_put (by decide +kernel) rfl (fun r g1 hq => ?_)
  rw [hq.1, hq.2]
  rw [e2]
  show xW k S 0 0 24 [some (.ref 23), some (.long p1), none, some (.int p3), some (.int p4), some (.int p5)] [] w2
  refine xb A [(.aload_n 0, 1, 0, 0, .null), (.getfield 31, 3, 23, 6, .ref 30), (.aload_n 0, 1, 0, 0, .null), (.getfield 51, 3, 23, 11, .int 0), (.iload 4, 2, 0, 0, .null)] (pc' := 34) (ls' := [some (.ref 23), some (.long p1), none, some (.int p3), some (.int p4), some (.int p5)]) (st' := [.int p4, .int (w2.1 23 11), .ref 30]) (g' := w2) (by decide +kernel) rfl ?_
  obtain ⟨w3, e3, H⟩ := xl_elim H
  refine xcallSN A (ix := 75) (nxt := 37) (host := "NoonRinger") hrm hz [.ref 30, .int (w2.1 23 11), .int p4] [] 18 (c_X11_put (hS _ _ sh_30) (by decide)) ok_X11_put (by decide +kernel) rfl (fun r g1 hq => ?_)
  rw [hq.1, hq.2]
  rw [e3]
  show xW k S 0 0 37 [some (.ref 23), some (.long p1), none, some (.int p3), some (.int p4), some (.int p5)] [] w3
  refine xb A [(.aload_n 0, 1, 0, 0, .null), (.getfield 34, 3, 23, 7, .ref 31), (.aload_n 0, 1, 0, 0, .null), (.getfield 51, 3, 23, 11, .int 0), (.iload 5, 2, 0, 0, .null)] (pc' := 47) (ls' := [some (.ref 23), some (.long p1), none, some (.int p3), some (.int p4), some (.int p5)]) (st' := [.int p5, .int (w3.1 23 11), .ref 31]) (g' := w3) (by decide +kernel) rfl ?_
  obtain ⟨w4, e4, H⟩ := xl_elim H
  refine xcallSN A (ix := 75) (nxt := 50) (host := "NoonRinger") hrm hz [.ref 31, .int (w3.1 23 11), .int p5] [] 18 (c_X11_put (hS _ _ sh_31) (by decide)) ok_X11_put (by decide +kernel) rfl (fun r g1 hq => ?_)
  rw [hq.1, hq.2]
  rw [e4]
  show xW k S 0 0 50 [some (.ref 23), some (.long p1), none, some (.int p3), some (.int p4), some (.int p5)] [] w4
  refine xb A [(.aload_n 0, 1, 0, 0, .null), (.dup, 1, 0, 0, .null), (.getfield 51, 3, 23, 11, .int 0), (.iconst 1, 1, 0, 0, .int 1), (.iadd, 1, 0, 0, .null), (.putfield 51, 3, 23, 11, .int 0)] (pc' := 60) (ls' := [some (.ref 23), some (.long p1), none, some (.int p3), some (.int p4), some (.int p5)]) (st' := []) (g' := (xupd w4.1 23 11 ((w4.1 23 11) + 1), w4.2)) (by decide +kernel) rfl ?_
  subst H
  exact xret_v A hR hz (by decide +kernel) ⟨rfl, rfl⟩
theorem fr_X4_addPerson_23 {p1 : Int64} {p3 : Int32} {p4 : Int32} {p5 : Int32} {g : xG} (out : xG) (H : f_X4_addPerson_23 p1 p3 p4 p5 g = out) : xfrm fp_X4_addPerson_23 g (out) := by
  have H : (xl (xlput g 28 6 (g.1 23 11) p1) fun w1 =>
xl (xput w1 29 6 (w1.1 23 11) p3) fun w2 =>
xl (xput w2 30 6 (w2.1 23 11) p4) fun w3 =>
xl (xput w3 31 6 (w3.1 23 11) p5) fun w4 =>
(xupd w4.1 23 11 ((w4.1 23 11) + 1), w4.2)) = out := H
  obtain ⟨w1, e1, H⟩ := xl_elim H
  have hf1 : xfrm fp_X4_addPerson_23 g (w1) := xfrm_xlput xfrm.rf rfl e1
  obtain ⟨w2, e2, H⟩ := xl_elim H
  have hf2 : xfrm fp_X4_addPerson_23 g (w2) := xfrm_xput hf1 rfl e2
  obtain ⟨w3, e3, H⟩ := xl_elim H
  have hf3 : xfrm fp_X4_addPerson_23 g (w3) := xfrm_xput hf2 rfl e3
  obtain ⟨w4, e4, H⟩ := xl_elim H
  have hf4 : xfrm fp_X4_addPerson_23 g (w4) := xfrm_xput hf3 rfl e4
  have hf5 : xfrm fp_X4_addPerson_23 g ((xupd w4.1 23 11 ((w4.1 23 11) + 1), w4.2)) := xfrm.up hf4 rfl
  subst H
  exact hf5
def fp_X3_readPerson_17 : List (Nat × Option Nat) := [(17, some 5), (17, some 6), (17, some 7), (17, some 8), (23, some 11), (28, none), (29, none), (30, none), (31, none)]
def f_X3_readPerson_17  (g : xG) : Option (xG) :=
  (f_X3_takeOneMore_17 15 (f_X4_people_23 g) 6 g).bind fun w1 =>
  (f_X3_takeNewName_17 w1).bind fun w2 =>
  (f_X3_takeNumber_17 0 9 w2.2).bind fun w3 =>
  (f_X3_takeTown_17 w3.2).bind fun w4 =>
  (f_X3_takeTown_17 w4.2).bind fun w5 =>
  xl (f_X4_addPerson_23 w2.1 w3.1 w4.1 w5.1 w5.2) fun w6 =>
  some w6
set_option maxRecDepth 20000 in
theorem c_X3_readPerson_17 {S : List xSh} (hS : xpf SH1 S) {g : xG}  (out : xG) (H : f_X3_readPerson_17  g = some out) : xC mX3_readPerson 4 89 0 0 S [.ref 17] g S (fun r g' => r = none ∧ g' = out) := by
  have H : ((f_X3_takeOneMore_17 15 (f_X4_people_23 g) 6 g).bind fun w1 =>
(f_X3_takeNewName_17 w1).bind fun w2 =>
(f_X3_takeNumber_17 0 9 w2.2).bind fun w3 =>
(f_X3_takeTown_17 w3.2).bind fun w4 =>
(f_X3_takeTown_17 w4.2).bind fun w5 =>
xl (f_X4_addPerson_23 w2.1 w3.1 w4.1 w5.1 w5.2) fun w6 =>
some w6) = some out := H
  refine xC.of 3 SH1 [some (.ref 17), none, none, none, none] hS (by decide +kernel) rfl (fun _ _ => Nat.le_of_ble_eq_true rfl) (fun _ _ => rfl) ?_
  intro k A hR hrm hz
  refine xb A [(.aload_n 0, 1, 0, 0, .null), (.bipush 15, 2, 0, 0, .int 15), (.aload_n 0, 1, 0, 0, .null), (.getfield 21, 3, 17, 2, .ref 23)] (pc' := 7) (ls' := [some (.ref 17), none, none, none, none]) (st' := [.ref 23, .int 15, .ref 17]) (g' := g) (by decide +kernel) rfl ?_
  refine xcallV A (ix := 118) (nxt := 10) hrm hz [] [.int 15, .ref 17] 796 (c_X4_people_23 hS _ rfl) ok_X4_people (by decide +kernel) rfl (fun r g1 hq => ?_)
  rw [hq.1, hq.2]
  show xW k S 0 0 10 [some (.ref 17), none, none, none, none] [.int (f_X4_people_23 g), .int 15, .ref 17] g
  refine xb A [(.bipush 6, 2, 0, 0, .int 6)] (pc' := 12) (ls' := [some (.ref 17), none, none, none, none]) (st' := [.int 6, .int (f_X4_people_23 g), .int 15, .ref 17]) (g' := g) (by decide +kernel) rfl ?_
  obtain ⟨w1, e1, H⟩ := xbind H
  refine xcallV A (ix := 89) (nxt := 15) hrm hz [.int 15, .int (f_X4_people_23 g), .int 6] [] 738 (c_X3_takeOneMore_17 hS _ e1) ok_X3_takeOneMore (by decide +kernel) rfl (fun r g1 hq => ?_)
  rw [hq.1, hq.2]
  show xW k S 0 0 15 [some (.ref 17), none, none, none, none] [] w1
  refine xb A [(.aload_n 0, 1, 0, 0, .null)] (pc' := 16) (ls' := [some (.ref 17), none, none, none, none]) (st' := [.ref 17]) (g' := w1) (by decide +kernel) rfl ?_
  obtain ⟨w2, e2, H⟩ := xbind H
  refine xcallV A (ix := 93) (nxt := 19) hrm hz [] [] 750 (c_X3_takeNewName_17 hS _ e2) ok_X3_takeNewName (by decide +kernel) rfl (fun r g1 hq => ?_)
  rw [hq.1, hq.2]
  show xW k S 0 0 19 [some (.ref 17), none, none, none, none] [.long w2.1] w2.2
  refine xb A [(.lstore_n 1, 1, 0, 0, .null), (.aload_n 0, 1, 0, 0, .null), (.iconst 0, 1, 0, 0, .int 0), (.bipush 9, 2, 0, 0, .int 9)] (pc' := 24) (ls' := [some (.ref 17), some (.long w2.1), none, none, none]) (st' := [.int 9, .int 0, .ref 17]) (g' := w2.2) (by decide +kernel) rfl ?_
  obtain ⟨w3, e3, H⟩ := xbind H
  refine xcallV A (ix := 111) (nxt := 27) hrm hz [.int 0, .int 9] [] 783 (c_X3_takeNumber_17 hS _ e3) ok_X3_takeNumber (by decide +kernel) rfl (fun r g1 hq => ?_)
  rw [hq.1, hq.2]
  show xW k S 0 0 27 [some (.ref 17), some (.long w2.1), none, none, none] [.int w3.1] w3.2
  refine xb A [(.istore_n 3, 1, 0, 0, .null), (.aload_n 0, 1, 0, 0, .null)] (pc' := 29) (ls' := [some (.ref 17), some (.long w2.1), none, some (.int w3.1), none]) (st' := [.ref 17]) (g' := w3.2) (by decide +kernel) rfl ?_
  obtain ⟨w4, e4, H⟩ := xbind H
  refine xcallV A (ix := 104) (nxt := 32) hrm hz [] [] 778 (c_X3_takeTown_17 hS _ e4) ok_X3_takeTown (by decide +kernel) rfl (fun r g1 hq => ?_)
  rw [hq.1, hq.2]
  show xW k S 0 0 32 [some (.ref 17), some (.long w2.1), none, some (.int w3.1), none] [.int w4.1] w4.2
  refine xb A [(.istore 4, 2, 0, 0, .null), (.aload_n 0, 1, 0, 0, .null), (.getfield 21, 3, 17, 2, .ref 23), (.lload_n 1, 1, 0, 0, .null), (.iload_n 3, 1, 0, 0, .null), (.iload 4, 2, 0, 0, .null), (.aload_n 0, 1, 0, 0, .null)] (pc' := 43) (ls' := [some (.ref 17), some (.long w2.1), none, some (.int w3.1), some (.int w4.1)]) (st' := [.ref 17, .int w4.1, .int w3.1, .long w2.1, .ref 23]) (g' := w4.2) (by decide +kernel) rfl ?_
  obtain ⟨w5, e5, H⟩ := xbind H
  refine xcallV A (ix := 104) (nxt := 46) hrm hz [] [.int w4.1, .int w3.1, .long w2.1, .ref 23] 778 (c_X3_takeTown_17 hS _ e5) ok_X3_takeTown (by decide +kernel) rfl (fun r g1 hq => ?_)
  rw [hq.1, hq.2]
  show xW k S 0 0 46 [some (.ref 17), some (.long w2.1), none, some (.int w3.1), some (.int w4.1)] [.int w5.1, .int w4.1, .int w3.1, .long w2.1, .ref 23] w5.2
  obtain ⟨w6, e6, H⟩ := xl_elim H
  refine xcallV A (ix := 121) (nxt := 49) hrm hz [.long w2.1, .int w3.1, .int w4.1, .int w5.1] [] 797 (c_X4_addPerson_23 hS _ e6) ok_X4_addPerson (by decide +kernel) rfl (fun r g1 hq => ?_)
  rw [hq.1, hq.2]
  show xW k S 0 0 49 [some (.ref 17), some (.long w2.1), none, some (.int w3.1), some (.int w4.1)] [] w6
  obtain rfl := Option.some.inj H
  exact xret_v A hR hz (by decide +kernel) ⟨rfl, rfl⟩
theorem fr_X3_readPerson_17  {g : xG} (out : xG) (H : f_X3_readPerson_17  g = some out) : xfrm fp_X3_readPerson_17 g (out) := by
  have H : ((f_X3_takeOneMore_17 15 (f_X4_people_23 g) 6 g).bind fun w1 =>
(f_X3_takeNewName_17 w1).bind fun w2 =>
(f_X3_takeNumber_17 0 9 w2.2).bind fun w3 =>
(f_X3_takeTown_17 w3.2).bind fun w4 =>
(f_X3_takeTown_17 w4.2).bind fun w5 =>
xl (f_X4_addPerson_23 w2.1 w3.1 w4.1 w5.1 w5.2) fun w6 =>
some w6) = some out := H
  obtain ⟨w1, e1, H⟩ := xbind H
  have hf1 : xfrm fp_X3_readPerson_17 g (w1) := xfrm.tr xfrm.rf (fr_X3_takeOneMore_17 _ e1) rfl
  obtain ⟨w2, e2, H⟩ := xbind H
  have hf2 : xfrm fp_X3_readPerson_17 g (w2.2) := xfrm.tr hf1 (fr_X3_takeNewName_17 _ e2) rfl
  obtain ⟨w3, e3, H⟩ := xbind H
  have hf3 : xfrm fp_X3_readPerson_17 g (w3.2) := xfrm.tr hf2 (fr_X3_takeNumber_17 _ e3) rfl
  obtain ⟨w4, e4, H⟩ := xbind H
  have hf4 : xfrm fp_X3_readPerson_17 g (w4.2) := xfrm.tr hf3 (fr_X3_takeTown_17 _ e4) rfl
  obtain ⟨w5, e5, H⟩ := xbind H
  have hf5 : xfrm fp_X3_readPerson_17 g (w5.2) := xfrm.tr hf4 (fr_X3_takeTown_17 _ e5) rfl
  obtain ⟨w6, e6, H⟩ := xl_elim H
  have hf6 : xfrm fp_X3_readPerson_17 g (w6) := xfrm.tr hf5 (fr_X4_addPerson_23 _ e6) rfl
  obtain rfl := Option.some.inj H
  exact hf6
def f_X4_roads_23  (g : xG) : Int32 :=
  g.1 23 10
set_option maxRecDepth 20000 in
theorem c_X4_roads_23 {S : List xSh} (hS : xpf SH1 S) {g : xG}  (out : Int32) (H : f_X4_roads_23  g = out) : xC mX4_roads 0 0 0 0 S [.ref 23] g S (fun r g' => r = some (.int out) ∧ g' = g) := by
  have H : (g.1 23 10) = out := H
  refine xC.of 4 SH1 [some (.ref 23)] hS (by decide +kernel) rfl (fun _ _ => Nat.le_of_ble_eq_true rfl) (fun _ _ => rfl) ?_
  intro k A hR hrm hz
  refine xb A [(.aload_n 0, 1, 0, 0, .null), (.getfield 48, 3, 23, 10, .int 0)] (pc' := 4) (ls' := [some (.ref 23)]) (st' := [.int (g.1 23 10)]) (g' := g) (by decide +kernel) rfl ?_
  subst H
  exact xret_i A hR hz (by decide +kernel) rfl ⟨rfl, rfl⟩
def fp_X4_addRoad_23 : List (Nat × Option Nat) := [(23, some 10), (25, none), (26, none), (27, none)]
def f_X4_addRoad_23 (p1 : Int32) (p2 : Int32) (p3 : Int32) (g : xG) : xG :=
  xl (xput g 25 10 (g.1 23 10) p1) fun w1 =>
  xl (xput w1 26 10 (w1.1 23 10) p2) fun w2 =>
  xl (xput w2 27 10 (w2.1 23 10) p3) fun w3 =>
  (xupd w3.1 23 10 ((w3.1 23 10) + 1), w3.2)
set_option maxRecDepth 20000 in
theorem c_X4_addRoad_23 {S : List xSh} (hS : xpf SH1 S) {g : xG} {p1 : Int32} {p2 : Int32} {p3 : Int32} (out : xG) (H : f_X4_addRoad_23 p1 p2 p3 g = out) : xC mX4_addRoad 1 22 0 0 S [.ref 23, .int p1, .int p2, .int p3] g S (fun r g' => r = none ∧ g' = out) := by
  have H : (xl (xput g 25 10 (g.1 23 10) p1) fun w1 =>
xl (xput w1 26 10 (w1.1 23 10) p2) fun w2 =>
xl (xput w2 27 10 (w2.1 23 10) p3) fun w3 =>
(xupd w3.1 23 10 ((w3.1 23 10) + 1), w3.2)) = out := H
  refine xC.of 4 SH1 [some (.ref 23), some (.int p1), some (.int p2), some (.int p3)] hS (by decide +kernel) rfl (fun _ _ => Nat.le_of_ble_eq_true rfl) (fun _ _ => rfl) ?_
  intro k A hR hrm hz
  refine xb A [(.aload_n 0, 1, 0, 0, .null), (.getfield 15, 3, 23, 1, .ref 25), (.aload_n 0, 1, 0, 0, .null), (.getfield 48, 3, 23, 10, .int 0), (.iload_n 1, 1, 0, 0, .null)] (pc' := 9) (ls' := [some (.ref 23), some (.int p1), some (.int p2), some (.int p3)]) (st' := [.int p1, .int (g.1 23 10), .ref 25]) (g' := g) (by decide +kernel) rfl ?_
  obtain ⟨w1, e1, H⟩ := xl_elim H
  refine xcallSN A (ix := 75) (nxt := 12) (host := "NoonRinger") hrm hz [.ref 25, .int (g.1 23 10), .int p1] [] 18 (c_X11_put (hS _ _ sh_25) (by decide)) ok_X11_put (by decide +kernel) rfl (fun r g1 hq => ?_)
  rw [hq.1, hq.2]
  rw [e1]
  show xW k S 0 0 12 [some (.ref 23), some (.int p1), some (.int p2), some (.int p3)] [] w1
  refine xb A [(.aload_n 0, 1, 0, 0, .null), (.getfield 19, 3, 23, 2, .ref 26), (.aload_n 0, 1, 0, 0, .null), (.getfield 48, 3, 23, 10, .int 0), (.iload_n 2, 1, 0, 0, .null)] (pc' := 21) (ls' := [some (.ref 23), some (.int p1), some (.int p2), some (.int p3)]) (st' := [.int p2, .int (w1.1 23 10), .ref 26]) (g' := w1) (by decide +kernel) rfl ?_
  obtain ⟨w2, e2, H⟩ := xl_elim H
  refine xcallSN A (ix := 75) (nxt := 24) (host := "NoonRinger") hrm hz [.ref 26, .int (w1.1 23 10), .int p2] [] 18 (c_X11_put (hS _ _ sh_26) (by decide)) ok_X11_put (by decide +kernel) rfl (fun r g1 hq => ?_)
  rw [hq.1, hq.2]
  rw [e2]
  show xW k S 0 0 24 [some (.ref 23), some (.int p1), some (.int p2), some (.int p3)] [] w2
  refine xb A [(.aload_n 0, 1, 0, 0, .null), (.getfield 22, 3, 23, 3, .ref 27), (.aload_n 0, 1, 0, 0, .null), (.getfield 48, 3, 23, 10, .int 0), (.iload_n 3, 1, 0, 0, .null)] (pc' := 33) (ls' := [some (.ref 23), some (.int p1), some (.int p2), some (.int p3)]) (st' := [.int p3, .int (w2.1 23 10), .ref 27]) (g' := w2) (by decide +kernel) rfl ?_
  obtain ⟨w3, e3, H⟩ := xl_elim H
  refine xcallSN A (ix := 75) (nxt := 36) (host := "NoonRinger") hrm hz [.ref 27, .int (w2.1 23 10), .int p3] [] 18 (c_X11_put (hS _ _ sh_27) (by decide)) ok_X11_put (by decide +kernel) rfl (fun r g1 hq => ?_)
  rw [hq.1, hq.2]
  rw [e3]
  show xW k S 0 0 36 [some (.ref 23), some (.int p1), some (.int p2), some (.int p3)] [] w3
  refine xb A [(.aload_n 0, 1, 0, 0, .null), (.dup, 1, 0, 0, .null), (.getfield 48, 3, 23, 10, .int 0), (.iconst 1, 1, 0, 0, .int 1), (.iadd, 1, 0, 0, .null), (.putfield 48, 3, 23, 10, .int 0)] (pc' := 46) (ls' := [some (.ref 23), some (.int p1), some (.int p2), some (.int p3)]) (st' := []) (g' := (xupd w3.1 23 10 ((w3.1 23 10) + 1), w3.2)) (by decide +kernel) rfl ?_
  subst H
  exact xret_v A hR hz (by decide +kernel) ⟨rfl, rfl⟩
theorem fr_X4_addRoad_23 {p1 : Int32} {p2 : Int32} {p3 : Int32} {g : xG} (out : xG) (H : f_X4_addRoad_23 p1 p2 p3 g = out) : xfrm fp_X4_addRoad_23 g (out) := by
  have H : (xl (xput g 25 10 (g.1 23 10) p1) fun w1 =>
xl (xput w1 26 10 (w1.1 23 10) p2) fun w2 =>
xl (xput w2 27 10 (w2.1 23 10) p3) fun w3 =>
(xupd w3.1 23 10 ((w3.1 23 10) + 1), w3.2)) = out := H
  obtain ⟨w1, e1, H⟩ := xl_elim H
  have hf1 : xfrm fp_X4_addRoad_23 g (w1) := xfrm_xput xfrm.rf rfl e1
  obtain ⟨w2, e2, H⟩ := xl_elim H
  have hf2 : xfrm fp_X4_addRoad_23 g (w2) := xfrm_xput hf1 rfl e2
  obtain ⟨w3, e3, H⟩ := xl_elim H
  have hf3 : xfrm fp_X4_addRoad_23 g (w3) := xfrm_xput hf2 rfl e3
  have hf4 : xfrm fp_X4_addRoad_23 g ((xupd w3.1 23 10 ((w3.1 23 10) + 1), w3.2)) := xfrm.up hf3 rfl
  subst H
  exact hf4
def fp_X3_readRoad_17 : List (Nat × Option Nat) := [(17, some 5), (17, some 6), (17, some 7), (17, some 8), (23, some 10), (25, none), (26, none), (27, none)]
def f_X3_readRoad_17  (g : xG) : Option (xG) :=
  (f_X3_takeOneMore_17 14 (f_X4_roads_23 g) 10 g).bind fun w1 =>
  (f_X3_takeTown_17 w1).bind fun w2 =>
  (f_X3_takeTown_17 w2.2).bind fun w3 =>
  if w2.1 = w3.1 then
    xl (f_X3_note_17 3 (w2.2.1 17 5) w3.2) fun w6 =>
    (f_X3_takeNumber_17 1 99 w6).bind fun w7 =>
    xl (f_X4_addRoad_23 w2.1 w3.1 w7.1 w7.2) fun w8 =>
    some w8
  else
    (f_X3_takeNumber_17 1 99 w3.2).bind fun w4 =>
    xl (f_X4_addRoad_23 w2.1 w3.1 w4.1 w4.2) fun w5 =>
    some w5
set_option maxRecDepth 20000 in
theorem c_X3_readRoad_17 {S : List xSh} (hS : xpf SH1 S) {g : xG}  (out : xG) (H : f_X3_readRoad_17  g = some out) : xC mX3_readRoad 3 65 0 0 S [.ref 17] g S (fun r g' => r = none ∧ g' = out) := by
  have H : ((f_X3_takeOneMore_17 14 (f_X4_roads_23 g) 10 g).bind fun w1 =>
(f_X3_takeTown_17 w1).bind fun w2 =>
(f_X3_takeTown_17 w2.2).bind fun w3 =>
if w2.1 = w3.1 then
  xl (f_X3_note_17 3 (w2.2.1 17 5) w3.2) fun w6 =>
  (f_X3_takeNumber_17 1 99 w6).bind fun w7 =>
  xl (f_X4_addRoad_23 w2.1 w3.1 w7.1 w7.2) fun w8 =>
  some w8
else
  (f_X3_takeNumber_17 1 99 w3.2).bind fun w4 =>
  xl (f_X4_addRoad_23 w2.1 w3.1 w4.1 w4.2) fun w5 =>
  some w5) = some out := H
  refine xC.of 3 SH1 [some (.ref 17), none, none, none] hS (by decide +kernel) rfl (fun _ _ => Nat.le_of_ble_eq_true rfl) (fun _ _ => rfl) ?_
  intro k A hR hrm hz
  refine xb A [(.aload_n 0, 1, 0, 0, .null), (.bipush 14, 2, 0, 0, .int 14), (.aload_n 0, 1, 0, 0, .null), (.getfield 21, 3, 17, 2, .ref 23)] (pc' := 7) (ls' := [some (.ref 17), none, none, none]) (st' := [.ref 23, .int 14, .ref 17]) (g' := g) (by decide +kernel) rfl ?_
  refine xcallV A (ix := 101) (nxt := 10) hrm hz [] [.int 14, .ref 17] 777 (c_X4_roads_23 hS _ rfl) ok_X4_roads (by decide +kernel) rfl (fun r g1 hq => ?_)
  rw [hq.1, hq.2]
  show xW k S 0 0 10 [some (.ref 17), none, none, none] [.int (f_X4_roads_23 g), .int 14, .ref 17] g
  refine xb A [(.bipush 10, 2, 0, 0, .int 10)] (pc' := 12) (ls' := [some (.ref 17), none, none, none]) (st' := [.int 10, .int (f_X4_roads_23 g), .int 14, .ref 17]) (g' := g) (by decide +kernel) rfl ?_
  obtain ⟨w1, e1, H⟩ := xbind H
  refine xcallV A (ix := 89) (nxt := 15) hrm hz [.int 14, .int (f_X4_roads_23 g), .int 10] [] 738 (c_X3_takeOneMore_17 hS _ e1) ok_X3_takeOneMore (by decide +kernel) rfl (fun r g1 hq => ?_)
  rw [hq.1, hq.2]
  show xW k S 0 0 15 [some (.ref 17), none, none, none] [] w1
  refine xb A [(.aload_n 0, 1, 0, 0, .null)] (pc' := 16) (ls' := [some (.ref 17), none, none, none]) (st' := [.ref 17]) (g' := w1) (by decide +kernel) rfl ?_
  obtain ⟨w2, e2, H⟩ := xbind H
  refine xcallV A (ix := 104) (nxt := 19) hrm hz [] [] 778 (c_X3_takeTown_17 hS _ e2) ok_X3_takeTown (by decide +kernel) rfl (fun r g1 hq => ?_)
  rw [hq.1, hq.2]
  show xW k S 0 0 19 [some (.ref 17), none, none, none] [.int w2.1] w2.2
  refine xb A [(.istore_n 1, 1, 0, 0, .null), (.aload_n 0, 1, 0, 0, .null), (.getfield 37, 3, 17, 5, .int 0), (.istore_n 2, 1, 0, 0, .null), (.aload_n 0, 1, 0, 0, .null)] (pc' := 26) (ls' := [some (.ref 17), some (.int w2.1), some (.int (w2.2.1 17 5)), none]) (st' := [.ref 17]) (g' := w2.2) (by decide +kernel) rfl ?_
  obtain ⟨w3, e3, H⟩ := xbind H
  refine xcallV A (ix := 104) (nxt := 29) hrm hz [] [] 778 (c_X3_takeTown_17 hS _ e3) ok_X3_takeTown (by decide +kernel) rfl (fun r g1 hq => ?_)
  rw [hq.1, hq.2]
  show xW k S 0 0 29 [some (.ref 17), some (.int w2.1), some (.int (w2.2.1 17 5)), none] [.int w3.1] w3.2
  refine xb A [(.istore_n 3, 1, 0, 0, .null), (.iload_n 1, 1, 0, 0, .null), (.iload_n 3, 1, 0, 0, .null)] (pc' := 32) (ls' := [some (.ref 17), some (.int w2.1), some (.int (w2.2.1 17 5)), some (.int w3.1)]) (st' := [.int w3.1, .int w2.1]) (g' := w3.2) (by decide +kernel) rfl ?_
  refine xic_ne A (9) 41 35 (by decide +kernel) (fun h1 => ?_) (fun h1 => ?_)
  · rw [if_neg h1] at H
    refine xb A [(.aload_n 0, 1, 0, 0, .null), (.getfield 21, 3, 17, 2, .ref 23), (.iload_n 1, 1, 0, 0, .null), (.iload_n 3, 1, 0, 0, .null), (.aload_n 0, 1, 0, 0, .null), (.iconst 1, 1, 0, 0, .int 1), (.bipush 99, 2, 0, 0, .int 99)] (pc' := 51) (ls' := [some (.ref 17), some (.int w2.1), some (.int (w2.2.1 17 5)), some (.int w3.1)]) (st' := [.int 99, .int 1, .ref 17, .int w3.1, .int w2.1, .ref 23]) (g' := w3.2) (by decide +kernel) rfl ?_
    obtain ⟨w4, e4, H⟩ := xbind H
    refine xcallV A (ix := 111) (nxt := 54) hrm hz [.int 1, .int 99] [.int w3.1, .int w2.1, .ref 23] 783 (c_X3_takeNumber_17 hS _ e4) ok_X3_takeNumber (by decide +kernel) rfl (fun r g1 hq => ?_)
    rw [hq.1, hq.2]
    show xW k S 0 0 54 [some (.ref 17), some (.int w2.1), some (.int (w2.2.1 17 5)), some (.int w3.1)] [.int w4.1, .int w3.1, .int w2.1, .ref 23] w4.2
    obtain ⟨w5, e5, H⟩ := xl_elim H
    refine xcallV A (ix := 115) (nxt := 57) hrm hz [.int w2.1, .int w3.1, .int w4.1] [] 787 (c_X4_addRoad_23 hS _ e5) ok_X4_addRoad (by decide +kernel) rfl (fun r g1 hq => ?_)
    rw [hq.1, hq.2]
    show xW k S 0 0 57 [some (.ref 17), some (.int w2.1), some (.int (w2.2.1 17 5)), some (.int w3.1)] [] w5
    obtain rfl := Option.some.inj H
    exact xret_v A hR hz (by decide +kernel) ⟨rfl, rfl⟩
  · rw [if_pos h1] at H
    refine xb A [(.aload_n 0, 1, 0, 0, .null), (.iconst 3, 1, 0, 0, .int 3), (.iload_n 2, 1, 0, 0, .null)] (pc' := 38) (ls' := [some (.ref 17), some (.int w2.1), some (.int (w2.2.1 17 5)), some (.int w3.1)]) (st' := [.int (w2.2.1 17 5), .int 3, .ref 17]) (g' := w3.2) (by decide +kernel) rfl ?_
    obtain ⟨w6, e6, H⟩ := xl_elim H
    refine xcallV A (ix := 107) (nxt := 41) hrm hz [.int 3, .int (w2.2.1 17 5)] [] 764 (c_X3_note_17 hS _ e6) ok_X3_note (by decide +kernel) rfl (fun r g1 hq => ?_)
    rw [hq.1, hq.2]
    show xW k S 0 0 41 [some (.ref 17), some (.int w2.1), some (.int (w2.2.1 17 5)), some (.int w3.1)] [] w6
    refine xb A [(.aload_n 0, 1, 0, 0, .null), (.getfield 21, 3, 17, 2, .ref 23), (.iload_n 1, 1, 0, 0, .null), (.iload_n 3, 1, 0, 0, .null), (.aload_n 0, 1, 0, 0, .null), (.iconst 1, 1, 0, 0, .int 1), (.bipush 99, 2, 0, 0, .int 99)] (pc' := 51) (ls' := [some (.ref 17), some (.int w2.1), some (.int (w2.2.1 17 5)), some (.int w3.1)]) (st' := [.int 99, .int 1, .ref 17, .int w3.1, .int w2.1, .ref 23]) (g' := w6) (by decide +kernel) rfl ?_
    obtain ⟨w7, e7, H⟩ := xbind H
    refine xcallV A (ix := 111) (nxt := 54) hrm hz [.int 1, .int 99] [.int w3.1, .int w2.1, .ref 23] 783 (c_X3_takeNumber_17 hS _ e7) ok_X3_takeNumber (by decide +kernel) rfl (fun r g1 hq => ?_)
    rw [hq.1, hq.2]
    show xW k S 0 0 54 [some (.ref 17), some (.int w2.1), some (.int (w2.2.1 17 5)), some (.int w3.1)] [.int w7.1, .int w3.1, .int w2.1, .ref 23] w7.2
    obtain ⟨w8, e8, H⟩ := xl_elim H
    refine xcallV A (ix := 115) (nxt := 57) hrm hz [.int w2.1, .int w3.1, .int w7.1] [] 787 (c_X4_addRoad_23 hS _ e8) ok_X4_addRoad (by decide +kernel) rfl (fun r g1 hq => ?_)
    rw [hq.1, hq.2]
    show xW k S 0 0 57 [some (.ref 17), some (.int w2.1), some (.int (w2.2.1 17 5)), some (.int w3.1)] [] w8
    obtain rfl := Option.some.inj H
    exact xret_v A hR hz (by decide +kernel) ⟨rfl, rfl⟩
theorem fr_X3_readRoad_17  {g : xG} (out : xG) (H : f_X3_readRoad_17  g = some out) : xfrm fp_X3_readRoad_17 g (out) := by
  have H : ((f_X3_takeOneMore_17 14 (f_X4_roads_23 g) 10 g).bind fun w1 =>
(f_X3_takeTown_17 w1).bind fun w2 =>
(f_X3_takeTown_17 w2.2).bind fun w3 =>
if w2.1 = w3.1 then
  xl (f_X3_note_17 3 (w2.2.1 17 5) w3.2) fun w6 =>
  (f_X3_takeNumber_17 1 99 w6).bind fun w7 =>
  xl (f_X4_addRoad_23 w2.1 w3.1 w7.1 w7.2) fun w8 =>
  some w8
else
  (f_X3_takeNumber_17 1 99 w3.2).bind fun w4 =>
  xl (f_X4_addRoad_23 w2.1 w3.1 w4.1 w4.2) fun w5 =>
  some w5) = some out := H
  obtain ⟨w1, e1, H⟩ := xbind H
  have hf1 : xfrm fp_X3_readRoad_17 g (w1) := xfrm.tr xfrm.rf (fr_X3_takeOneMore_17 _ e1) rfl
  obtain ⟨w2, e2, H⟩ := xbind H
  have hf2 : xfrm fp_X3_readRoad_17 g (w2.2) := xfrm.tr hf1 (fr_X3_takeTown_17 _ e2) rfl
  obtain ⟨w3, e3, H⟩ := xbind H
  have hf3 : xfrm fp_X3_readRoad_17 g (w3.2) := xfrm.tr hf2 (fr_X3_takeTown_17 _ e3) rfl
  by_cases h1 : w2.1 = w3.1
  · rw [if_pos h1] at H
    obtain ⟨w6, e6, H⟩ := xl_elim H
    have hf6 : xfrm fp_X3_readRoad_17 g (w6) := xfrm.tr hf3 (fr_X3_note_17 _ e6) rfl
    obtain ⟨w7, e7, H⟩ := xbind H
    have hf7 : xfrm fp_X3_readRoad_17 g (w7.2) := xfrm.tr hf6 (fr_X3_takeNumber_17 _ e7) rfl
    obtain ⟨w8, e8, H⟩ := xl_elim H
    have hf8 : xfrm fp_X3_readRoad_17 g (w8) := xfrm.tr hf7 (fr_X4_addRoad_23 _ e8) rfl
    obtain rfl := Option.some.inj H
    exact hf8
  · rw [if_neg h1] at H
    obtain ⟨w4, e4, H⟩ := xbind H
    have hf4 : xfrm fp_X3_readRoad_17 g (w4.2) := xfrm.tr hf3 (fr_X3_takeNumber_17 _ e4) rfl
    obtain ⟨w5, e5, H⟩ := xl_elim H
    have hf5 : xfrm fp_X3_readRoad_17 g (w5) := xfrm.tr hf4 (fr_X4_addRoad_23 _ e5) rfl
    obtain rfl := Option.some.inj H
    exact hf5
def f_X4_towns_23  (g : xG) : Int32 :=
  g.1 23 9
set_option maxRecDepth 20000 in
theorem c_X4_towns_23 {S : List xSh} (hS : xpf SH1 S) {g : xG}  (out : Int32) (H : f_X4_towns_23  g = out) : xC mX4_towns 0 0 0 0 S [.ref 23] g S (fun r g' => r = some (.int out) ∧ g' = g) := by
  have H : (g.1 23 9) = out := H
  refine xC.of 4 SH1 [some (.ref 23)] hS (by decide +kernel) rfl (fun _ _ => Nat.le_of_ble_eq_true rfl) (fun _ _ => rfl) ?_
  intro k A hR hrm hz
  refine xb A [(.aload_n 0, 1, 0, 0, .null), (.getfield 44, 3, 23, 9, .int 0)] (pc' := 4) (ls' := [some (.ref 23)]) (st' := [.int (g.1 23 9)]) (g' := g) (by decide +kernel) rfl ?_
  subst H
  exact xret_i A hR hz (by decide +kernel) rfl ⟨rfl, rfl⟩
def fp_X4_addTown_23 : List (Nat × Option Nat) := [(23, some 9), (24, none)]
def f_X4_addTown_23 (p1 : Int64) (g : xG) : xG :=
  xl (xlput g 24 7 (g.1 23 9) p1) fun w1 =>
  (xupd w1.1 23 9 ((w1.1 23 9) + 1), w1.2)
set_option maxRecDepth 20000 in
theorem c_X4_addTown_23 {S : List xSh} (hS : xpf SH1 S) {g : xG} {p1 : Int64} (out : xG) (H : f_X4_addTown_23 p1 g = out) : xC mX4_addTown 1 23 0 0 S [.ref 23, .long p1] g S (fun r g' => r = none ∧ g' = out) := by
  have H : (xl (xlput g 24 7 (g.1 23 9) p1) fun w1 =>
(xupd w1.1 23 9 ((w1.1 23 9) + 1), w1.2)) = out := H
  refine xC.of 4 SH1 [some (.ref 23), some (.long p1), none] hS (by decide +kernel) rfl (fun _ _ => Nat.le_of_ble_eq_true rfl) (fun _ _ => rfl) ?_
  intro k A hR hrm hz
  refine xb A [(.aload_n 0, 1, 0, 0, .null), (.getfield 9, 3, 23, 0, .ref 24), (.aload_n 0, 1, 0, 0, .null), (.getfield 44, 3, 23, 9, .int 0), (.lload_n 1, 1, 0, 0, .null)] (pc' := 9) (ls' := [some (.ref 23), some (.long p1), none]) (st' := [.long p1, .int (g.1 23 9), .ref 24]) (g' := g) (by decide +kernel) rfl ?_
  obtain ⟨w1, e1, H⟩ := xl_elim H
  refine xcallSN A (ix := 71) (nxt := 12) (host := "NoonRinger") hrm hz [.ref 24, .int (g.1 23 9), .long p1] [] 17 (c_X11_putLong (hS _ _ sh_24) (by decide)) ok_X11_putLong (by decide +kernel) rfl (fun r g1 hq => ?_)
  rw [hq.1, hq.2]
  rw [e1]
  show xW k S 0 0 12 [some (.ref 23), some (.long p1), none] [] w1
  refine xb A [(.aload_n 0, 1, 0, 0, .null), (.dup, 1, 0, 0, .null), (.getfield 44, 3, 23, 9, .int 0), (.iconst 1, 1, 0, 0, .int 1), (.iadd, 1, 0, 0, .null), (.putfield 44, 3, 23, 9, .int 0)] (pc' := 22) (ls' := [some (.ref 23), some (.long p1), none]) (st' := []) (g' := (xupd w1.1 23 9 ((w1.1 23 9) + 1), w1.2)) (by decide +kernel) rfl ?_
  subst H
  exact xret_v A hR hz (by decide +kernel) ⟨rfl, rfl⟩
theorem fr_X4_addTown_23 {p1 : Int64} {g : xG} (out : xG) (H : f_X4_addTown_23 p1 g = out) : xfrm fp_X4_addTown_23 g (out) := by
  have H : (xl (xlput g 24 7 (g.1 23 9) p1) fun w1 =>
(xupd w1.1 23 9 ((w1.1 23 9) + 1), w1.2)) = out := H
  obtain ⟨w1, e1, H⟩ := xl_elim H
  have hf1 : xfrm fp_X4_addTown_23 g (w1) := xfrm_xlput xfrm.rf rfl e1
  have hf2 : xfrm fp_X4_addTown_23 g ((xupd w1.1 23 9 ((w1.1 23 9) + 1), w1.2)) := xfrm.up hf1 rfl
  subst H
  exact hf2
def fp_X3_readTown_17 : List (Nat × Option Nat) := [(17, some 5), (17, some 6), (17, some 7), (17, some 8), (23, some 9), (24, none)]
def f_X3_readTown_17  (g : xG) : Option (xG) :=
  (f_X3_takeOneMore_17 13 (f_X4_towns_23 g) 7 g).bind fun w1 =>
  (f_X3_takeNewName_17 w1).bind fun w2 =>
  xl (f_X4_addTown_23 w2.1 w2.2) fun w3 =>
  some w3
set_option maxRecDepth 20000 in
theorem c_X3_readTown_17 {S : List xSh} (hS : xpf SH1 S) {g : xG}  (out : xG) (H : f_X3_readTown_17  g = some out) : xC mX3_readTown 4 89 0 0 S [.ref 17] g S (fun r g' => r = none ∧ g' = out) := by
  have H : ((f_X3_takeOneMore_17 13 (f_X4_towns_23 g) 7 g).bind fun w1 =>
(f_X3_takeNewName_17 w1).bind fun w2 =>
xl (f_X4_addTown_23 w2.1 w2.2) fun w3 =>
some w3) = some out := H
  refine xC.of 3 SH1 [some (.ref 17)] hS (by decide +kernel) rfl (fun _ _ => Nat.le_of_ble_eq_true rfl) (fun _ _ => rfl) ?_
  intro k A hR hrm hz
  refine xb A [(.aload_n 0, 1, 0, 0, .null), (.bipush 13, 2, 0, 0, .int 13), (.aload_n 0, 1, 0, 0, .null), (.getfield 21, 3, 17, 2, .ref 23)] (pc' := 7) (ls' := [some (.ref 17)]) (st' := [.ref 23, .int 13, .ref 17]) (g' := g) (by decide +kernel) rfl ?_
  refine xcallV A (ix := 85) (nxt := 10) hrm hz [] [.int 13, .ref 17] 737 (c_X4_towns_23 hS _ rfl) ok_X4_towns (by decide +kernel) rfl (fun r g1 hq => ?_)
  rw [hq.1, hq.2]
  show xW k S 0 0 10 [some (.ref 17)] [.int (f_X4_towns_23 g), .int 13, .ref 17] g
  refine xb A [(.bipush 7, 2, 0, 0, .int 7)] (pc' := 12) (ls' := [some (.ref 17)]) (st' := [.int 7, .int (f_X4_towns_23 g), .int 13, .ref 17]) (g' := g) (by decide +kernel) rfl ?_
  obtain ⟨w1, e1, H⟩ := xbind H
  refine xcallV A (ix := 89) (nxt := 15) hrm hz [.int 13, .int (f_X4_towns_23 g), .int 7] [] 738 (c_X3_takeOneMore_17 hS _ e1) ok_X3_takeOneMore (by decide +kernel) rfl (fun r g1 hq => ?_)
  rw [hq.1, hq.2]
  show xW k S 0 0 15 [some (.ref 17)] [] w1
  refine xb A [(.aload_n 0, 1, 0, 0, .null), (.getfield 21, 3, 17, 2, .ref 23), (.aload_n 0, 1, 0, 0, .null)] (pc' := 20) (ls' := [some (.ref 17)]) (st' := [.ref 17, .ref 23]) (g' := w1) (by decide +kernel) rfl ?_
  obtain ⟨w2, e2, H⟩ := xbind H
  refine xcallV A (ix := 93) (nxt := 23) hrm hz [] [.ref 23] 750 (c_X3_takeNewName_17 hS _ e2) ok_X3_takeNewName (by decide +kernel) rfl (fun r g1 hq => ?_)
  rw [hq.1, hq.2]
  show xW k S 0 0 23 [some (.ref 17)] [.long w2.1, .ref 23] w2.2
  obtain ⟨w3, e3, H⟩ := xl_elim H
  refine xcallV A (ix := 97) (nxt := 26) hrm hz [.long w2.1] [] 768 (c_X4_addTown_23 hS _ e3) ok_X4_addTown (by decide +kernel) rfl (fun r g1 hq => ?_)
  rw [hq.1, hq.2]
  show xW k S 0 0 26 [some (.ref 17)] [] w3
  obtain rfl := Option.some.inj H
  exact xret_v A hR hz (by decide +kernel) ⟨rfl, rfl⟩
theorem fr_X3_readTown_17  {g : xG} (out : xG) (H : f_X3_readTown_17  g = some out) : xfrm fp_X3_readTown_17 g (out) := by
  have H : ((f_X3_takeOneMore_17 13 (f_X4_towns_23 g) 7 g).bind fun w1 =>
(f_X3_takeNewName_17 w1).bind fun w2 =>
xl (f_X4_addTown_23 w2.1 w2.2) fun w3 =>
some w3) = some out := H
  obtain ⟨w1, e1, H⟩ := xbind H
  have hf1 : xfrm fp_X3_readTown_17 g (w1) := xfrm.tr xfrm.rf (fr_X3_takeOneMore_17 _ e1) rfl
  obtain ⟨w2, e2, H⟩ := xbind H
  have hf2 : xfrm fp_X3_readTown_17 g (w2.2) := xfrm.tr hf1 (fr_X3_takeNewName_17 _ e2) rfl
  obtain ⟨w3, e3, H⟩ := xl_elim H
  have hf3 : xfrm fp_X3_readTown_17 g (w3) := xfrm.tr hf2 (fr_X4_addTown_23 _ e3) rfl
  obtain rfl := Option.some.inj H
  exact hf3
def fp_X3_readText_17 : List (Nat × Option Nat) := [(17, some 4), (17, some 5), (17, some 6), (17, some 7), (17, some 8), (18, some 4), (18, some 5), (19, none), (20, none), (21, none), (23, some 9), (23, some 10), (23, some 11), (23, some 12), (23, some 13), (24, none), (25, none), (26, none), (27, none), (28, none), (29, none), (30, none), (31, none), (32, some 4), (33, none), (34, none), (35, none), (37, none)]
def f_X3_readText_17_159 (k35 : Int32 → xG → Option (Int32 × xG)) (l1 : Int32) (g : xG) : Option (Int32 × xG) :=
  (f_X9_kindAt_18 (g.1 17 5) g).bind fun w13 =>
  (f_X3_readLaw_17 w13 g).bind fun w14 =>
  (f_X3_take_17 4 w14).bind fun w15 =>
  k35 (l1 + 1) w15
def f_X3_readText_17_35  : Nat → Int32 → xG → Option (Int32 × xG)
  | 0, _, _ => none
  | n + 1, l1, g =>
    if 400 < l1 then
      if (g.1 17 6) = 0 then
        some (g.1 17 7, g)
      else
        some (g.1 17 6, g)
    else
      if (g.1 17 6) = 0 then
        (f_X9_kindAt_18 (g.1 17 5) g).bind fun w3 =>
        if w3 = 0 then
          if (g.1 17 6) = 0 then
            some (g.1 17 7, g)
          else
            some (g.1 17 6, g)
        else
          (f_X9_kindAt_18 (g.1 17 5) g).bind fun w4 =>
          if w4 = 13 then
            (f_X3_readTown_17 g).bind fun w5 =>
            (f_X3_take_17 4 w5).bind fun w6 =>
            f_X3_readText_17_35 n (l1 + 1) w6
          else
            if w4 = 14 then
              (f_X3_readRoad_17 g).bind fun w7 =>
              (f_X3_take_17 4 w7).bind fun w8 =>
              f_X3_readText_17_35 n (l1 + 1) w8
            else
              if w4 = 15 then
                (f_X3_readPerson_17 g).bind fun w9 =>
                (f_X3_take_17 4 w9).bind fun w10 =>
                f_X3_readText_17_35 n (l1 + 1) w10
              else
                if w4 = 16 then
                  (f_X3_readCapital_17 g).bind fun w11 =>
                  (f_X3_take_17 4 w11).bind fun w12 =>
                  f_X3_readText_17_35 n (l1 + 1) w12
                else
                  if w4 = 17 then
                    f_X3_readText_17_159 (f_X3_readText_17_35 n) l1 g
                  else
                    if w4 = 18 then
                      f_X3_readText_17_159 (f_X3_readText_17_35 n) l1 g
                    else
                      if w4 = 19 then
                        f_X3_readText_17_159 (f_X3_readText_17_35 n) l1 g
                      else
                        if w4 = 20 then
                          f_X3_readText_17_159 (f_X3_readText_17_35 n) l1 g
                        else
                          if w4 = 21 then
                            (f_X3_readSeed_17 g).bind fun w16 =>
                            (f_X3_take_17 4 w16).bind fun w17 =>
                            f_X3_readText_17_35 n (l1 + 1) w17
                          else
                            xl (f_X3_stop_17 1 g) fun w18 =>
                            (f_X3_take_17 4 w18).bind fun w19 =>
                            f_X3_readText_17_35 n (l1 + 1) w19
      else
        if (g.1 17 6) = 0 then
          some (g.1 17 7, g)
        else
          some (g.1 17 6, g)
def f_X3_readText_17  (g : xG) : Option (Int32 × xG) :=
  (f_X9_scan_18_1 g).bind fun w1 =>
  xl (f_X4_clear_23 w1) fun w2 =>
  f_X3_readText_17_35 xN 0 (xupd (xupd (xupd w2.1 17 5 0) 17 6 0) 17 7 0, w2.2)
set_option maxRecDepth 20000 in
theorem t_X3_readText_17_159 {k : xK} {S : List xSh} {out : Int32 × xG} (hS : xpf SH1 S) (A : xAt k mX3_readText.2.1 3 SH1 S) (hR : xRet k 0 0 S (fun r g' => r = some (.int out.1) ∧ g' = out.2) mX3_readText.2.2.2) (hrm : xrm k = { frames := 6, cells := 0, slots := 0, locals := 138 }) (hz : xhs k = xb0 k + S.length) {k35 : Int32 → xG → Option (Int32 × xG)} (hk35 : ∀ (l1 : Int32) (g : xG), k35 l1 g = some out → xW k S 0 0 35 [some (.ref 17), some (.int l1)] [] g) : ∀ (l1 : Int32) (g : xG), f_X3_readText_17_159 k35 l1 g = some out → xW k S 0 0 159 [some (.ref 17), some (.int l1)] [] g := by
  intro l1 g H
  have H : ((f_X9_kindAt_18 (g.1 17 5) g).bind fun w13 =>
(f_X3_readLaw_17 w13 g).bind fun w14 =>
(f_X3_take_17 4 w14).bind fun w15 =>
k35 (l1 + 1) w15) = some out := H
  refine xb A [(.aload_n 0, 1, 0, 0, .null), (.aload_n 0, 1, 0, 0, .null), (.getfield 14, 3, 17, 1, .ref 18), (.aload_n 0, 1, 0, 0, .null), (.getfield 37, 3, 17, 5, .int 0)] (pc' := 168) (ls' := [some (.ref 17), some (.int l1)]) (st' := [.int (g.1 17 5), .ref 18, .ref 17]) (g' := g) (by decide +kernel) rfl ?_
  obtain ⟨w13, e13, H⟩ := xbind H
  refine xcallV A (ix := 57) (nxt := 171) hrm hz [.int (g.1 17 5)] [.ref 17] 732 (c_X9_kindAt_18 hS _ e13) ok_X9_kindAt (by decide +kernel) rfl (fun r g1 hq => ?_)
  rw [hq.1, hq.2]
  show xW k S 0 0 171 [some (.ref 17), some (.int l1)] [.int w13, .ref 17] g
  obtain ⟨w14, e14, H⟩ := xbind H
  refine xcallV A (ix := 75) (nxt := 174) hrm hz [.int w13] [] 817 (c_X3_readLaw_17 hS _ e14) ok_X3_readLaw (by decide +kernel) rfl (fun r g1 hq => ?_)
  rw [hq.1, hq.2]
  show xW k S 0 0 174 [some (.ref 17), some (.int l1)] [] w14
  refine xgoto A (8) 182 (by decide +kernel) ?_
  refine xb A [(.aload_n 0, 1, 0, 0, .null), (.iconst 4, 1, 0, 0, .int 4)] (pc' := 184) (ls' := [some (.ref 17), some (.int l1)]) (st' := [.int 4, .ref 17]) (g' := w14) (by decide +kernel) rfl ?_
  obtain ⟨w15, e15, H⟩ := xbind H
  refine xcallV A (ix := 82) (nxt := 187) hrm hz [.int 4] [] 746 (c_X3_take_17 hS _ e15) ok_X3_take (by decide +kernel) rfl (fun r g1 hq => ?_)
  rw [hq.1, hq.2]
  show xW k S 0 0 187 [some (.ref 17), some (.int l1)] [] w15
  refine xb A [(.iinc 1 1, 3, 0, 0, .null)] (pc' := 190) (ls' := [some (.ref 17), some (.int (l1 + 1))]) (st' := []) (g' := w15) (by decide +kernel) rfl ?_
  refine xgoto A (-155) 35 (by decide +kernel) ?_
  exact hk35 _ _ H
theorem fr_X3_readText_17_159 {k35 : Int32 → xG → Option (Int32 × xG)} (hk35 : ∀ (l1 : Int32) (g : xG) (out : Int32 × xG), k35 l1 g = some out → xfrm fp_X3_readText_17 g (out.2)) : ∀ (l1 : Int32) (g : xG) (out : Int32 × xG), f_X3_readText_17_159 k35 l1 g = some out → xfrm fp_X3_readText_17 g (out.2) := by
  intro l1 g out H
  have H : ((f_X9_kindAt_18 (g.1 17 5) g).bind fun w13 =>
(f_X3_readLaw_17 w13 g).bind fun w14 =>
(f_X3_take_17 4 w14).bind fun w15 =>
k35 (l1 + 1) w15) = some out := H
  obtain ⟨w13, e13, H⟩ := xbind H
  obtain ⟨w14, e14, H⟩ := xbind H
  have hf14 : xfrm fp_X3_readText_17 g (w14) := xfrm.tr xfrm.rf (fr_X3_readLaw_17 _ e14) rfl
  obtain ⟨w15, e15, H⟩ := xbind H
  have hf15 : xfrm fp_X3_readText_17 g (w15) := xfrm.tr hf14 (fr_X3_take_17 _ e15) rfl
  exact xfrm.tr hf15 (hk35 _ _ _ H) rfl
set_option maxRecDepth 20000 in
theorem t_X3_readText_17_35 {k : xK} {S : List xSh} {out : Int32 × xG} (hS : xpf SH1 S) (A : xAt k mX3_readText.2.1 3 SH1 S) (hR : xRet k 0 0 S (fun r g' => r = some (.int out.1) ∧ g' = out.2) mX3_readText.2.2.2) (hrm : xrm k = { frames := 6, cells := 0, slots := 0, locals := 138 }) (hz : xhs k = xb0 k + S.length)   : ∀ (n : Nat) (l1 : Int32) (g : xG), f_X3_readText_17_35 n l1 g = some out → xW k S 0 0 35 [some (.ref 17), some (.int l1)] [] g := by
  intro n
  induction n with
  | zero => intro l1 g H; exact absurd H (by simp [f_X3_readText_17_35])
  | succ n ih =>
    intro l1 g H
    have H : (if 400 < l1 then
  if (g.1 17 6) = 0 then
    some (g.1 17 7, g)
  else
    some (g.1 17 6, g)
else
  if (g.1 17 6) = 0 then
    (f_X9_kindAt_18 (g.1 17 5) g).bind fun w3 =>
    if w3 = 0 then
      if (g.1 17 6) = 0 then
        some (g.1 17 7, g)
      else
        some (g.1 17 6, g)
    else
      (f_X9_kindAt_18 (g.1 17 5) g).bind fun w4 =>
      if w4 = 13 then
        (f_X3_readTown_17 g).bind fun w5 =>
        (f_X3_take_17 4 w5).bind fun w6 =>
        f_X3_readText_17_35 n (l1 + 1) w6
      else
        if w4 = 14 then
          (f_X3_readRoad_17 g).bind fun w7 =>
          (f_X3_take_17 4 w7).bind fun w8 =>
          f_X3_readText_17_35 n (l1 + 1) w8
        else
          if w4 = 15 then
            (f_X3_readPerson_17 g).bind fun w9 =>
            (f_X3_take_17 4 w9).bind fun w10 =>
            f_X3_readText_17_35 n (l1 + 1) w10
          else
            if w4 = 16 then
              (f_X3_readCapital_17 g).bind fun w11 =>
              (f_X3_take_17 4 w11).bind fun w12 =>
              f_X3_readText_17_35 n (l1 + 1) w12
            else
              if w4 = 17 then
                f_X3_readText_17_159 (f_X3_readText_17_35 n) l1 g
              else
                if w4 = 18 then
                  f_X3_readText_17_159 (f_X3_readText_17_35 n) l1 g
                else
                  if w4 = 19 then
                    f_X3_readText_17_159 (f_X3_readText_17_35 n) l1 g
                  else
                    if w4 = 20 then
                      f_X3_readText_17_159 (f_X3_readText_17_35 n) l1 g
                    else
                      if w4 = 21 then
                        (f_X3_readSeed_17 g).bind fun w16 =>
                        (f_X3_take_17 4 w16).bind fun w17 =>
                        f_X3_readText_17_35 n (l1 + 1) w17
                      else
                        xl (f_X3_stop_17 1 g) fun w18 =>
                        (f_X3_take_17 4 w18).bind fun w19 =>
                        f_X3_readText_17_35 n (l1 + 1) w19
  else
    if (g.1 17 6) = 0 then
      some (g.1 17 7, g)
    else
      some (g.1 17 6, g)) = some out := H
    refine xb A [(.iload_n 1, 1, 0, 0, .null), (.sipush 400, 3, 0, 0, .int 400)] (pc' := 39) (ls' := [some (.ref 17), some (.int l1)]) (st' := [.int 400, .int l1]) (g' := g) (by decide +kernel) rfl ?_
    refine xic_gt A (154) 193 42 (by decide +kernel) (fun h1 => ?_) (fun h1 => ?_)
    · rw [if_pos h1] at H
      refine xb A [(.aload_n 0, 1, 0, 0, .null), (.getfield 33, 3, 17, 6, .int 0)] (pc' := 197) (ls' := [some (.ref 17), some (.int l1)]) (st' := [.int (g.1 17 6)]) (g' := g) (by decide +kernel) rfl ?_
      refine xif_eq A (10) 207 200 (by decide +kernel) (fun h2 => ?_) (fun h2 => ?_)
      · rw [if_pos h2] at H
        refine xb A [(.aload_n 0, 1, 0, 0, .null), (.getfield 44, 3, 17, 7, .int 0)] (pc' := 211) (ls' := [some (.ref 17), some (.int l1)]) (st' := [.int (g.1 17 7)]) (g' := g) (by decide +kernel) rfl ?_
        obtain rfl := Option.some.inj H
        exact xret_i A hR hz (by decide +kernel) rfl ⟨rfl, rfl⟩
      · rw [if_neg h2] at H
        refine xb A [(.aload_n 0, 1, 0, 0, .null), (.getfield 33, 3, 17, 6, .int 0)] (pc' := 204) (ls' := [some (.ref 17), some (.int l1)]) (st' := [.int (g.1 17 6)]) (g' := g) (by decide +kernel) rfl ?_
        refine xgoto A (7) 211 (by decide +kernel) ?_
        obtain rfl := Option.some.inj H
        exact xret_i A hR hz (by decide +kernel) rfl ⟨rfl, rfl⟩
    · rw [if_neg h1] at H
      refine xb A [(.aload_n 0, 1, 0, 0, .null), (.getfield 33, 3, 17, 6, .int 0)] (pc' := 46) (ls' := [some (.ref 17), some (.int l1)]) (st' := [.int (g.1 17 6)]) (g' := g) (by decide +kernel) rfl ?_
      refine xif_ne A (147) 193 49 (by decide +kernel) (fun h3 => ?_) (fun h3 => ?_)
      · rw [if_neg h3] at H
        refine xb A [(.aload_n 0, 1, 0, 0, .null), (.getfield 33, 3, 17, 6, .int 0)] (pc' := 197) (ls' := [some (.ref 17), some (.int l1)]) (st' := [.int (g.1 17 6)]) (g' := g) (by decide +kernel) rfl ?_
        refine xif_eq A (10) 207 200 (by decide +kernel) (fun h4 => ?_) (fun h4 => ?_)
        · rw [if_pos h4] at H
          refine xb A [(.aload_n 0, 1, 0, 0, .null), (.getfield 44, 3, 17, 7, .int 0)] (pc' := 211) (ls' := [some (.ref 17), some (.int l1)]) (st' := [.int (g.1 17 7)]) (g' := g) (by decide +kernel) rfl ?_
          obtain rfl := Option.some.inj H
          exact xret_i A hR hz (by decide +kernel) rfl ⟨rfl, rfl⟩
        · rw [if_neg h4] at H
          refine xb A [(.aload_n 0, 1, 0, 0, .null), (.getfield 33, 3, 17, 6, .int 0)] (pc' := 204) (ls' := [some (.ref 17), some (.int l1)]) (st' := [.int (g.1 17 6)]) (g' := g) (by decide +kernel) rfl ?_
          refine xgoto A (7) 211 (by decide +kernel) ?_
          obtain rfl := Option.some.inj H
          exact xret_i A hR hz (by decide +kernel) rfl ⟨rfl, rfl⟩
      · rw [if_pos h3] at H
        refine xb A [(.aload_n 0, 1, 0, 0, .null), (.getfield 14, 3, 17, 1, .ref 18), (.aload_n 0, 1, 0, 0, .null), (.getfield 37, 3, 17, 5, .int 0)] (pc' := 57) (ls' := [some (.ref 17), some (.int l1)]) (st' := [.int (g.1 17 5), .ref 18]) (g' := g) (by decide +kernel) rfl ?_
        obtain ⟨w3, e3, H⟩ := xbind H
        refine xcallV A (ix := 57) (nxt := 60) hrm hz [.int (g.1 17 5)] [] 732 (c_X9_kindAt_18 hS _ e3) ok_X9_kindAt (by decide +kernel) rfl (fun r g1 hq => ?_)
        rw [hq.1, hq.2]
        show xW k S 0 0 60 [some (.ref 17), some (.int l1)] [.int w3] g
        refine xif_eq A (133) 193 63 (by decide +kernel) (fun h5 => ?_) (fun h5 => ?_)
        · rw [if_pos h5] at H
          refine xb A [(.aload_n 0, 1, 0, 0, .null), (.getfield 33, 3, 17, 6, .int 0)] (pc' := 197) (ls' := [some (.ref 17), some (.int l1)]) (st' := [.int (g.1 17 6)]) (g' := g) (by decide +kernel) rfl ?_
          refine xif_eq A (10) 207 200 (by decide +kernel) (fun h6 => ?_) (fun h6 => ?_)
          · rw [if_pos h6] at H
            refine xb A [(.aload_n 0, 1, 0, 0, .null), (.getfield 44, 3, 17, 7, .int 0)] (pc' := 211) (ls' := [some (.ref 17), some (.int l1)]) (st' := [.int (g.1 17 7)]) (g' := g) (by decide +kernel) rfl ?_
            obtain rfl := Option.some.inj H
            exact xret_i A hR hz (by decide +kernel) rfl ⟨rfl, rfl⟩
          · rw [if_neg h6] at H
            refine xb A [(.aload_n 0, 1, 0, 0, .null), (.getfield 33, 3, 17, 6, .int 0)] (pc' := 204) (ls' := [some (.ref 17), some (.int l1)]) (st' := [.int (g.1 17 6)]) (g' := g) (by decide +kernel) rfl ?_
            refine xgoto A (7) 211 (by decide +kernel) ?_
            obtain rfl := Option.some.inj H
            exact xret_i A hR hz (by decide +kernel) rfl ⟨rfl, rfl⟩
        · rw [if_neg h5] at H
          refine xb A [(.aload_n 0, 1, 0, 0, .null), (.getfield 14, 3, 17, 1, .ref 18), (.aload_n 0, 1, 0, 0, .null), (.getfield 37, 3, 17, 5, .int 0)] (pc' := 71) (ls' := [some (.ref 17), some (.int l1)]) (st' := [.int (g.1 17 5), .ref 18]) (g' := g) (by decide +kernel) rfl ?_
          obtain ⟨w4, e4, H⟩ := xbind H
          refine xcallV A (ix := 57) (nxt := 74) hrm hz [.int (g.1 17 5)] [] 732 (c_X9_kindAt_18 hS _ e4) ok_X9_kindAt (by decide +kernel) rfl (fun r g1 hq => ?_)
          rw [hq.1, hq.2]
          show xW k S 0 0 74 [some (.ref 17), some (.int l1)] [.int w4] g
          by_cases h7 : w4 = 13
          · rw [if_pos h7] at H
            refine xtabIn A (dflt := 103) (lo := 13) (hi := 21) (off := 50) (offs := #[(50), (57), (64), (71), (85), (85), (85), (85), (78)]) (len := 50) (tgt := 124) (13) (by rw [h7]; rfl) (by decide +kernel) ?_
            refine xb A [(.aload_n 0, 1, 0, 0, .null)] (pc' := 125) (ls' := [some (.ref 17), some (.int l1)]) (st' := [.ref 17]) (g' := g) (by decide +kernel) rfl ?_
            obtain ⟨w5, e5, H⟩ := xbind H
            refine xcallV A (ix := 60) (nxt := 128) hrm hz [] [] 733 (c_X3_readTown_17 hS _ e5) ok_X3_readTown (by decide +kernel) rfl (fun r g1 hq => ?_)
            rw [hq.1, hq.2]
            show xW k S 0 0 128 [some (.ref 17), some (.int l1)] [] w5
            refine xgoto A (54) 182 (by decide +kernel) ?_
            refine xb A [(.aload_n 0, 1, 0, 0, .null), (.iconst 4, 1, 0, 0, .int 4)] (pc' := 184) (ls' := [some (.ref 17), some (.int l1)]) (st' := [.int 4, .ref 17]) (g' := w5) (by decide +kernel) rfl ?_
            obtain ⟨w6, e6, H⟩ := xbind H
            refine xcallV A (ix := 82) (nxt := 187) hrm hz [.int 4] [] 746 (c_X3_take_17 hS _ e6) ok_X3_take (by decide +kernel) rfl (fun r g1 hq => ?_)
            rw [hq.1, hq.2]
            show xW k S 0 0 187 [some (.ref 17), some (.int l1)] [] w6
            refine xb A [(.iinc 1 1, 3, 0, 0, .null)] (pc' := 190) (ls' := [some (.ref 17), some (.int (l1 + 1))]) (st' := []) (g' := w6) (by decide +kernel) rfl ?_
            refine xgoto A (-155) 35 (by decide +kernel) ?_
            exact ih _ _ H
          · rw [if_neg h7] at H
            by_cases h8 : w4 = 14
            · rw [if_pos h8] at H
              refine xtabIn A (dflt := 103) (lo := 13) (hi := 21) (off := 57) (offs := #[(50), (57), (64), (71), (85), (85), (85), (85), (78)]) (len := 50) (tgt := 131) (14) (by rw [h8]; rfl) (by decide +kernel) ?_
              refine xb A [(.aload_n 0, 1, 0, 0, .null)] (pc' := 132) (ls' := [some (.ref 17), some (.int l1)]) (st' := [.ref 17]) (g' := g) (by decide +kernel) rfl ?_
              obtain ⟨w7, e7, H⟩ := xbind H
              refine xcallV A (ix := 63) (nxt := 135) hrm hz [] [] 773 (c_X3_readRoad_17 hS _ e7) ok_X3_readRoad (by decide +kernel) rfl (fun r g1 hq => ?_)
              rw [hq.1, hq.2]
              show xW k S 0 0 135 [some (.ref 17), some (.int l1)] [] w7
              refine xgoto A (47) 182 (by decide +kernel) ?_
              refine xb A [(.aload_n 0, 1, 0, 0, .null), (.iconst 4, 1, 0, 0, .int 4)] (pc' := 184) (ls' := [some (.ref 17), some (.int l1)]) (st' := [.int 4, .ref 17]) (g' := w7) (by decide +kernel) rfl ?_
              obtain ⟨w8, e8, H⟩ := xbind H
              refine xcallV A (ix := 82) (nxt := 187) hrm hz [.int 4] [] 746 (c_X3_take_17 hS _ e8) ok_X3_take (by decide +kernel) rfl (fun r g1 hq => ?_)
              rw [hq.1, hq.2]
              show xW k S 0 0 187 [some (.ref 17), some (.int l1)] [] w8
              refine xb A [(.iinc 1 1, 3, 0, 0, .null)] (pc' := 190) (ls' := [some (.ref 17), some (.int (l1 + 1))]) (st' := []) (g' := w8) (by decide +kernel) rfl ?_
              refine xgoto A (-155) 35 (by decide +kernel) ?_
              exact ih _ _ H
            · rw [if_neg h8] at H
              by_cases h9 : w4 = 15
              · rw [if_pos h9] at H
                refine xtabIn A (dflt := 103) (lo := 13) (hi := 21) (off := 64) (offs := #[(50), (57), (64), (71), (85), (85), (85), (85), (78)]) (len := 50) (tgt := 138) (15) (by rw [h9]; rfl) (by decide +kernel) ?_
                refine xb A [(.aload_n 0, 1, 0, 0, .null)] (pc' := 139) (ls' := [some (.ref 17), some (.int l1)]) (st' := [.ref 17]) (g' := g) (by decide +kernel) rfl ?_
                obtain ⟨w9, e9, H⟩ := xbind H
                refine xcallV A (ix := 66) (nxt := 142) hrm hz [] [] 792 (c_X3_readPerson_17 hS _ e9) ok_X3_readPerson (by decide +kernel) rfl (fun r g1 hq => ?_)
                rw [hq.1, hq.2]
                show xW k S 0 0 142 [some (.ref 17), some (.int l1)] [] w9
                refine xgoto A (40) 182 (by decide +kernel) ?_
                refine xb A [(.aload_n 0, 1, 0, 0, .null), (.iconst 4, 1, 0, 0, .int 4)] (pc' := 184) (ls' := [some (.ref 17), some (.int l1)]) (st' := [.int 4, .ref 17]) (g' := w9) (by decide +kernel) rfl ?_
                obtain ⟨w10, e10, H⟩ := xbind H
                refine xcallV A (ix := 82) (nxt := 187) hrm hz [.int 4] [] 746 (c_X3_take_17 hS _ e10) ok_X3_take (by decide +kernel) rfl (fun r g1 hq => ?_)
                rw [hq.1, hq.2]
                show xW k S 0 0 187 [some (.ref 17), some (.int l1)] [] w10
                refine xb A [(.iinc 1 1, 3, 0, 0, .null)] (pc' := 190) (ls' := [some (.ref 17), some (.int (l1 + 1))]) (st' := []) (g' := w10) (by decide +kernel) rfl ?_
                refine xgoto A (-155) 35 (by decide +kernel) ?_
                exact ih _ _ H
              · rw [if_neg h9] at H
                by_cases h10 : w4 = 16
                · rw [if_pos h10] at H
                  refine xtabIn A (dflt := 103) (lo := 13) (hi := 21) (off := 71) (offs := #[(50), (57), (64), (71), (85), (85), (85), (85), (78)]) (len := 50) (tgt := 145) (16) (by rw [h10]; rfl) (by decide +kernel) ?_
                  refine xb A [(.aload_n 0, 1, 0, 0, .null)] (pc' := 146) (ls' := [some (.ref 17), some (.int l1)]) (st' := [.ref 17]) (g' := g) (by decide +kernel) rfl ?_
                  obtain ⟨w11, e11, H⟩ := xbind H
                  refine xcallV A (ix := 69) (nxt := 149) hrm hz [] [] 801 (c_X3_readCapital_17 hS _ e11) ok_X3_readCapital (by decide +kernel) rfl (fun r g1 hq => ?_)
                  rw [hq.1, hq.2]
                  show xW k S 0 0 149 [some (.ref 17), some (.int l1)] [] w11
                  refine xgoto A (33) 182 (by decide +kernel) ?_
                  refine xb A [(.aload_n 0, 1, 0, 0, .null), (.iconst 4, 1, 0, 0, .int 4)] (pc' := 184) (ls' := [some (.ref 17), some (.int l1)]) (st' := [.int 4, .ref 17]) (g' := w11) (by decide +kernel) rfl ?_
                  obtain ⟨w12, e12, H⟩ := xbind H
                  refine xcallV A (ix := 82) (nxt := 187) hrm hz [.int 4] [] 746 (c_X3_take_17 hS _ e12) ok_X3_take (by decide +kernel) rfl (fun r g1 hq => ?_)
                  rw [hq.1, hq.2]
                  show xW k S 0 0 187 [some (.ref 17), some (.int l1)] [] w12
                  refine xb A [(.iinc 1 1, 3, 0, 0, .null)] (pc' := 190) (ls' := [some (.ref 17), some (.int (l1 + 1))]) (st' := []) (g' := w12) (by decide +kernel) rfl ?_
                  refine xgoto A (-155) 35 (by decide +kernel) ?_
                  exact ih _ _ H
                · rw [if_neg h10] at H
                  by_cases h11 : w4 = 17
                  · rw [if_pos h11] at H
                    refine xtabIn A (dflt := 103) (lo := 13) (hi := 21) (off := 85) (offs := #[(50), (57), (64), (71), (85), (85), (85), (85), (78)]) (len := 50) (tgt := 159) (17) (by rw [h11]; rfl) (by decide +kernel) ?_
                    exact t_X3_readText_17_159 hS A hR hrm hz ih _ _ H
                  · rw [if_neg h11] at H
                    by_cases h12 : w4 = 18
                    · rw [if_pos h12] at H
                      refine xtabIn A (dflt := 103) (lo := 13) (hi := 21) (off := 85) (offs := #[(50), (57), (64), (71), (85), (85), (85), (85), (78)]) (len := 50) (tgt := 159) (18) (by rw [h12]; rfl) (by decide +kernel) ?_
                      exact t_X3_readText_17_159 hS A hR hrm hz ih _ _ H
                    · rw [if_neg h12] at H
                      by_cases h13 : w4 = 19
                      · rw [if_pos h13] at H
                        refine xtabIn A (dflt := 103) (lo := 13) (hi := 21) (off := 85) (offs := #[(50), (57), (64), (71), (85), (85), (85), (85), (78)]) (len := 50) (tgt := 159) (19) (by rw [h13]; rfl) (by decide +kernel) ?_
                        exact t_X3_readText_17_159 hS A hR hrm hz ih _ _ H
                      · rw [if_neg h13] at H
                        by_cases h14 : w4 = 20
                        · rw [if_pos h14] at H
                          refine xtabIn A (dflt := 103) (lo := 13) (hi := 21) (off := 85) (offs := #[(50), (57), (64), (71), (85), (85), (85), (85), (78)]) (len := 50) (tgt := 159) (20) (by rw [h14]; rfl) (by decide +kernel) ?_
                          exact t_X3_readText_17_159 hS A hR hrm hz ih _ _ H
                        · rw [if_neg h14] at H
                          by_cases h15 : w4 = 21
                          · rw [if_pos h15] at H
                            refine xtabIn A (dflt := 103) (lo := 13) (hi := 21) (off := 78) (offs := #[(50), (57), (64), (71), (85), (85), (85), (85), (78)]) (len := 50) (tgt := 152) (21) (by rw [h15]; rfl) (by decide +kernel) ?_
                            refine xb A [(.aload_n 0, 1, 0, 0, .null)] (pc' := 153) (ls' := [some (.ref 17), some (.int l1)]) (st' := [.ref 17]) (g' := g) (by decide +kernel) rfl ?_
                            obtain ⟨w16, e16, H⟩ := xbind H
                            refine xcallV A (ix := 72) (nxt := 156) hrm hz [] [] 809 (c_X3_readSeed_17 hS _ e16) ok_X3_readSeed (by decide +kernel) rfl (fun r g1 hq => ?_)
                            rw [hq.1, hq.2]
                            show xW k S 0 0 156 [some (.ref 17), some (.int l1)] [] w16
                            refine xgoto A (26) 182 (by decide +kernel) ?_
                            refine xb A [(.aload_n 0, 1, 0, 0, .null), (.iconst 4, 1, 0, 0, .int 4)] (pc' := 184) (ls' := [some (.ref 17), some (.int l1)]) (st' := [.int 4, .ref 17]) (g' := w16) (by decide +kernel) rfl ?_
                            obtain ⟨w17, e17, H⟩ := xbind H
                            refine xcallV A (ix := 82) (nxt := 187) hrm hz [.int 4] [] 746 (c_X3_take_17 hS _ e17) ok_X3_take (by decide +kernel) rfl (fun r g1 hq => ?_)
                            rw [hq.1, hq.2]
                            show xW k S 0 0 187 [some (.ref 17), some (.int l1)] [] w17
                            refine xb A [(.iinc 1 1, 3, 0, 0, .null)] (pc' := 190) (ls' := [some (.ref 17), some (.int (l1 + 1))]) (st' := []) (g' := w17) (by decide +kernel) rfl ?_
                            refine xgoto A (-155) 35 (by decide +kernel) ?_
                            exact ih _ _ H
                          · rw [if_neg h15] at H
                            refine xtabOut A (dflt := 103) (lo := 13) (hi := 21) (offs := #[(50), (57), (64), (71), (85), (85), (85), (85), (78)]) (len := 50) (tgt := 177) (by decide +kernel) ?_ ?_
                            · have e0 := lv_neT (a := 13) h7 rfl; have e1 := lv_neT (a := 14) h8 rfl; have e2 := lv_neT (a := 15) h9 rfl; have e3 := lv_neT (a := 16) h10 rfl; have e4 := lv_neT (a := 17) h11 rfl; have e5 := lv_neT (a := 18) h12 rfl; have e6 := lv_neT (a := 19) h13 rfl; have e7 := lv_neT (a := 20) h14 rfl; have e8 := lv_neT (a := 21) h15 rfl; omega
                            · skip
                              refine xb A [(.aload_n 0, 1, 0, 0, .null), (.iconst 1, 1, 0, 0, .int 1)] (pc' := 179) (ls' := [some (.ref 17), some (.int l1)]) (st' := [.int 1, .ref 17]) (g' := g) (by decide +kernel) rfl ?_
                              obtain ⟨w18, e18, H⟩ := xl_elim H
                              refine xcallV A (ix := 79) (nxt := 182) hrm hz [.int 1] [] 742 (c_X3_stop_17 hS _ e18) ok_X3_stop (by decide +kernel) rfl (fun r g1 hq => ?_)
                              rw [hq.1, hq.2]
                              show xW k S 0 0 182 [some (.ref 17), some (.int l1)] [] w18
                              refine xb A [(.aload_n 0, 1, 0, 0, .null), (.iconst 4, 1, 0, 0, .int 4)] (pc' := 184) (ls' := [some (.ref 17), some (.int l1)]) (st' := [.int 4, .ref 17]) (g' := w18) (by decide +kernel) rfl ?_
                              obtain ⟨w19, e19, H⟩ := xbind H
                              refine xcallV A (ix := 82) (nxt := 187) hrm hz [.int 4] [] 746 (c_X3_take_17 hS _ e19) ok_X3_take (by decide +kernel) rfl (fun r g1 hq => ?_)
                              rw [hq.1, hq.2]
                              show xW k S 0 0 187 [some (.ref 17), some (.int l1)] [] w19
                              refine xb A [(.iinc 1 1, 3, 0, 0, .null)] (pc' := 190) (ls' := [some (.ref 17), some (.int (l1 + 1))]) (st' := []) (g' := w19) (by decide +kernel) rfl ?_
                              refine xgoto A (-155) 35 (by decide +kernel) ?_
                              exact ih _ _ H
theorem fr_X3_readText_17_35   : ∀ (n : Nat) (l1 : Int32) (g : xG) (out : Int32 × xG), f_X3_readText_17_35 n l1 g = some out → xfrm fp_X3_readText_17 g (out.2) := by
  intro n
  induction n with
  | zero => intro l1 g out H; exact absurd H (by simp [f_X3_readText_17_35])
  | succ n ih =>
    intro l1 g out H
    have H : (if 400 < l1 then
  if (g.1 17 6) = 0 then
    some (g.1 17 7, g)
  else
    some (g.1 17 6, g)
else
  if (g.1 17 6) = 0 then
    (f_X9_kindAt_18 (g.1 17 5) g).bind fun w3 =>
    if w3 = 0 then
      if (g.1 17 6) = 0 then
        some (g.1 17 7, g)
      else
        some (g.1 17 6, g)
    else
      (f_X9_kindAt_18 (g.1 17 5) g).bind fun w4 =>
      if w4 = 13 then
        (f_X3_readTown_17 g).bind fun w5 =>
        (f_X3_take_17 4 w5).bind fun w6 =>
        f_X3_readText_17_35 n (l1 + 1) w6
      else
        if w4 = 14 then
          (f_X3_readRoad_17 g).bind fun w7 =>
          (f_X3_take_17 4 w7).bind fun w8 =>
          f_X3_readText_17_35 n (l1 + 1) w8
        else
          if w4 = 15 then
            (f_X3_readPerson_17 g).bind fun w9 =>
            (f_X3_take_17 4 w9).bind fun w10 =>
            f_X3_readText_17_35 n (l1 + 1) w10
          else
            if w4 = 16 then
              (f_X3_readCapital_17 g).bind fun w11 =>
              (f_X3_take_17 4 w11).bind fun w12 =>
              f_X3_readText_17_35 n (l1 + 1) w12
            else
              if w4 = 17 then
                f_X3_readText_17_159 (f_X3_readText_17_35 n) l1 g
              else
                if w4 = 18 then
                  f_X3_readText_17_159 (f_X3_readText_17_35 n) l1 g
                else
                  if w4 = 19 then
                    f_X3_readText_17_159 (f_X3_readText_17_35 n) l1 g
                  else
                    if w4 = 20 then
                      f_X3_readText_17_159 (f_X3_readText_17_35 n) l1 g
                    else
                      if w4 = 21 then
                        (f_X3_readSeed_17 g).bind fun w16 =>
                        (f_X3_take_17 4 w16).bind fun w17 =>
                        f_X3_readText_17_35 n (l1 + 1) w17
                      else
                        xl (f_X3_stop_17 1 g) fun w18 =>
                        (f_X3_take_17 4 w18).bind fun w19 =>
                        f_X3_readText_17_35 n (l1 + 1) w19
  else
    if (g.1 17 6) = 0 then
      some (g.1 17 7, g)
    else
      some (g.1 17 6, g)) = some out := H
    by_cases h1 : 400 < l1
    · rw [if_pos h1] at H
      by_cases h2 : (g.1 17 6) = 0
      · rw [if_pos h2] at H
        obtain rfl := Option.some.inj H
        exact xfrm.rf
      · rw [if_neg h2] at H
        obtain rfl := Option.some.inj H
        exact xfrm.rf
    · rw [if_neg h1] at H
      by_cases h3 : (g.1 17 6) = 0
      · rw [if_pos h3] at H
        obtain ⟨w3, e3, H⟩ := xbind H
        by_cases h5 : w3 = 0
        · rw [if_pos h5] at H
          by_cases h6 : (g.1 17 6) = 0
          · rw [if_pos h6] at H
            obtain rfl := Option.some.inj H
            exact xfrm.rf
          · rw [if_neg h6] at H
            obtain rfl := Option.some.inj H
            exact xfrm.rf
        · rw [if_neg h5] at H
          obtain ⟨w4, e4, H⟩ := xbind H
          by_cases h7 : w4 = 13
          · rw [if_pos h7] at H
            obtain ⟨w5, e5, H⟩ := xbind H
            have hf6 : xfrm fp_X3_readText_17 g (w5) := xfrm.tr xfrm.rf (fr_X3_readTown_17 _ e5) rfl
            obtain ⟨w6, e6, H⟩ := xbind H
            have hf7 : xfrm fp_X3_readText_17 g (w6) := xfrm.tr hf6 (fr_X3_take_17 _ e6) rfl
            exact xfrm.tr hf7 (ih _ _ _ H) rfl
          · rw [if_neg h7] at H
            by_cases h8 : w4 = 14
            · rw [if_pos h8] at H
              obtain ⟨w7, e7, H⟩ := xbind H
              have hf8 : xfrm fp_X3_readText_17 g (w7) := xfrm.tr xfrm.rf (fr_X3_readRoad_17 _ e7) rfl
              obtain ⟨w8, e8, H⟩ := xbind H
              have hf9 : xfrm fp_X3_readText_17 g (w8) := xfrm.tr hf8 (fr_X3_take_17 _ e8) rfl
              exact xfrm.tr hf9 (ih _ _ _ H) rfl
            · rw [if_neg h8] at H
              by_cases h9 : w4 = 15
              · rw [if_pos h9] at H
                obtain ⟨w9, e9, H⟩ := xbind H
                have hf10 : xfrm fp_X3_readText_17 g (w9) := xfrm.tr xfrm.rf (fr_X3_readPerson_17 _ e9) rfl
                obtain ⟨w10, e10, H⟩ := xbind H
                have hf11 : xfrm fp_X3_readText_17 g (w10) := xfrm.tr hf10 (fr_X3_take_17 _ e10) rfl
                exact xfrm.tr hf11 (ih _ _ _ H) rfl
              · rw [if_neg h9] at H
                by_cases h10 : w4 = 16
                · rw [if_pos h10] at H
                  obtain ⟨w11, e11, H⟩ := xbind H
                  have hf12 : xfrm fp_X3_readText_17 g (w11) := xfrm.tr xfrm.rf (fr_X3_readCapital_17 _ e11) rfl
                  obtain ⟨w12, e12, H⟩ := xbind H
                  have hf13 : xfrm fp_X3_readText_17 g (w12) := xfrm.tr hf12 (fr_X3_take_17 _ e12) rfl
                  exact xfrm.tr hf13 (ih _ _ _ H) rfl
                · rw [if_neg h10] at H
                  by_cases h11 : w4 = 17
                  · rw [if_pos h11] at H
                    exact xfrm.tr xfrm.rf (fr_X3_readText_17_159 ih _ _ _ H) rfl
                  · rw [if_neg h11] at H
                    by_cases h12 : w4 = 18
                    · rw [if_pos h12] at H
                      exact xfrm.tr xfrm.rf (fr_X3_readText_17_159 ih _ _ _ H) rfl
                    · rw [if_neg h12] at H
                      by_cases h13 : w4 = 19
                      · rw [if_pos h13] at H
                        exact xfrm.tr xfrm.rf (fr_X3_readText_17_159 ih _ _ _ H) rfl
                      · rw [if_neg h13] at H
                        by_cases h14 : w4 = 20
                        · rw [if_pos h14] at H
                          exact xfrm.tr xfrm.rf (fr_X3_readText_17_159 ih _ _ _ H) rfl
                        · rw [if_neg h14] at H
                          by_cases h15 : w4 = 21
                          · rw [if_pos h15] at H
                            obtain ⟨w16, e16, H⟩ := xbind H
                            have hf16 : xfrm fp_X3_readText_17 g (w16) := xfrm.tr xfrm.rf (fr_X3_readSeed_17 _ e16) rfl
                            obtain ⟨w17, e17, H⟩ := xbind H
                            have hf17 : xfrm fp_X3_readText_17 g (w17) := xfrm.tr hf16 (fr_X3_take_17 _ e17) rfl
                            exact xfrm.tr hf17 (ih _ _ _ H) rfl
                          · rw [if_neg h15] at H
                            obtain ⟨w18, e18, H⟩ := xl_elim H
                            have hf18 : xfrm fp_X3_readText_17 g (w18) := xfrm.tr xfrm.rf (fr_X3_stop_17 _ e18) rfl
                            obtain ⟨w19, e19, H⟩ := xbind H
                            have hf19 : xfrm fp_X3_readText_17 g (w19) := xfrm.tr hf18 (fr_X3_take_17 _ e19) rfl
                            exact xfrm.tr hf19 (ih _ _ _ H) rfl
      · rw [if_neg h3] at H
        by_cases h4 : (g.1 17 6) = 0
        · rw [if_pos h4] at H
          obtain rfl := Option.some.inj H
          exact xfrm.rf
        · rw [if_neg h4] at H
          obtain rfl := Option.some.inj H
          exact xfrm.rf
set_option maxRecDepth 20000 in
theorem c_X3_readText_17 {S : List xSh} (hS : xpf SH1 S) {g : xG}  (out : Int32 × xG) (H : f_X3_readText_17  g = some out) : xC mX3_readText 6 138 0 0 S [.ref 17] g S (fun r g' => r = some (.int out.1) ∧ g' = out.2) := by
  have H : ((f_X9_scan_18_1 g).bind fun w1 =>
xl (f_X4_clear_23 w1) fun w2 =>
f_X3_readText_17_35 xN 0 (xupd (xupd (xupd w2.1 17 5 0) 17 6 0) 17 7 0, w2.2)) = some out := H
  refine xC.of 3 SH1 [some (.ref 17), none] hS (by decide +kernel) rfl (fun _ _ => Nat.le_of_ble_eq_true rfl) (fun _ _ => rfl) ?_
  intro k A hR hrm hz
  refine xb A [(.aload_n 0, 1, 0, 0, .null), (.getfield 14, 3, 17, 1, .ref 18), (.aload_n 0, 1, 0, 0, .null), (.getfield 29, 3, 17, 0, .ref 1)] (pc' := 8) (ls' := [some (.ref 17), none]) (st' := [.ref 1, .ref 18]) (g' := g) (by decide +kernel) rfl ?_
  obtain ⟨w1, e1, H⟩ := xbind H
  refine xcallV A (ix := 50) (nxt := 11) hrm hz [.ref 1] [] 631 (c_X9_scan_18_1 hS _ e1) ok_X9_scan (by decide +kernel) rfl (fun r g1 hq => ?_)
  rw [hq.1, hq.2]
  show xW k S 0 0 11 [some (.ref 17), none] [] w1
  refine xb A [(.aload_n 0, 1, 0, 0, .null), (.getfield 21, 3, 17, 2, .ref 23)] (pc' := 15) (ls' := [some (.ref 17), none]) (st' := [.ref 23]) (g' := w1) (by decide +kernel) rfl ?_
  obtain ⟨w2, e2, H⟩ := xl_elim H
  refine xcallV A (ix := 54) (nxt := 18) hrm hz [] [] 731 (c_X4_clear_23 hS _ e2) ok_X4_clear (by decide +kernel) rfl (fun r g1 hq => ?_)
  rw [hq.1, hq.2]
  show xW k S 0 0 18 [some (.ref 17), none] [] w2
  refine xb A [(.aload_n 0, 1, 0, 0, .null), (.iconst 0, 1, 0, 0, .int 0), (.putfield 37, 3, 17, 5, .int 0), (.aload_n 0, 1, 0, 0, .null), (.iconst 0, 1, 0, 0, .int 0), (.putfield 33, 3, 17, 6, .int 0), (.aload_n 0, 1, 0, 0, .null), (.iconst 0, 1, 0, 0, .int 0), (.putfield 44, 3, 17, 7, .int 0), (.iconst 0, 1, 0, 0, .int 0), (.istore_n 1, 1, 0, 0, .null)] (pc' := 35) (ls' := [some (.ref 17), some (.int 0)]) (st' := []) (g' := (xupd (xupd (xupd w2.1 17 5 0) 17 6 0) 17 7 0, w2.2)) (by decide +kernel) rfl ?_
  exact t_X3_readText_17_35 hS A hR hrm hz _ _ _ H
theorem fr_X3_readText_17  {g : xG} (out : Int32 × xG) (H : f_X3_readText_17  g = some out) : xfrm fp_X3_readText_17 g (out.2) := by
  have H : ((f_X9_scan_18_1 g).bind fun w1 =>
xl (f_X4_clear_23 w1) fun w2 =>
f_X3_readText_17_35 xN 0 (xupd (xupd (xupd w2.1 17 5 0) 17 6 0) 17 7 0, w2.2)) = some out := H
  obtain ⟨w1, e1, H⟩ := xbind H
  have hf1 : xfrm fp_X3_readText_17 g (w1) := xfrm.tr xfrm.rf (fr_X9_scan_18_1 _ e1) rfl
  obtain ⟨w2, e2, H⟩ := xl_elim H
  have hf2 : xfrm fp_X3_readText_17 g (w2) := xfrm.tr hf1 (fr_X4_clear_23 _ e2) rfl
  have hf3 : xfrm fp_X3_readText_17 g ((xupd w2.1 17 5 0, w2.2)) := xfrm.up hf2 rfl
  have hf4 : xfrm fp_X3_readText_17 g ((xupd (xupd w2.1 17 5 0) 17 6 0, w2.2)) := xfrm.up hf3 rfl
  have hf5 : xfrm fp_X3_readText_17 g ((xupd (xupd (xupd w2.1 17 5 0) 17 6 0) 17 7 0, w2.2)) := xfrm.up hf4 rfl
  exact xfrm.tr hf5 (fr_X3_readText_17_35 _ _ _ _ H) rfl
def f_X3_faultPlace_17  (g : xG) : Int32 :=
  if (g.1 17 6) = 0 then
    if (g.1 17 7) = 0 then
      (-1)
    else
      f_X9_startOf_18 (g.1 17 8) g
  else
    f_X9_startOf_18 (g.1 17 5) g
set_option maxRecDepth 20000 in
theorem c_X3_faultPlace_17 {S : List xSh} (hS : xpf SH1 S) {g : xG}  (out : Int32) (H : f_X3_faultPlace_17  g = out) : xC mX3_faultPlace 2 42 0 0 S [.ref 17] g S (fun r g' => r = some (.int out) ∧ g' = g) := by
  have H : (if (g.1 17 6) = 0 then
  if (g.1 17 7) = 0 then
    (-1)
  else
    f_X9_startOf_18 (g.1 17 8) g
else
  f_X9_startOf_18 (g.1 17 5) g) = out := H
  refine xC.of 3 SH1 [some (.ref 17)] hS (by decide +kernel) rfl (fun _ _ => Nat.le_of_ble_eq_true rfl) (fun _ _ => rfl) ?_
  intro k A hR hrm hz
  refine xb A [(.aload_n 0, 1, 0, 0, .null), (.getfield 33, 3, 17, 6, .int 0)] (pc' := 4) (ls' := [some (.ref 17)]) (st' := [.int (g.1 17 6)]) (g' := g) (by decide +kernel) rfl ?_
  refine xif_eq A (15) 19 7 (by decide +kernel) (fun h1 => ?_) (fun h1 => ?_)
  · rw [if_pos h1] at H
    refine xb A [(.aload_n 0, 1, 0, 0, .null), (.getfield 44, 3, 17, 7, .int 0)] (pc' := 23) (ls' := [some (.ref 17)]) (st' := [.int (g.1 17 7)]) (g' := g) (by decide +kernel) rfl ?_
    refine xif_eq A (17) 40 26 (by decide +kernel) (fun h2 => ?_) (fun h2 => ?_)
    · rw [if_pos h2] at H
      refine xb A [(.iconst (-1), 1, 0, 0, .int (-1))] (pc' := 41) (ls' := [some (.ref 17)]) (st' := [.int (-1)]) (g' := g) (by decide +kernel) rfl ?_
      subst H
      exact xret_i A hR hz (by decide +kernel) rfl ⟨rfl, rfl⟩
    · rw [if_neg h2] at H
      refine xb A [(.aload_n 0, 1, 0, 0, .null), (.getfield 14, 3, 17, 1, .ref 18), (.aload_n 0, 1, 0, 0, .null), (.getfield 47, 3, 17, 8, .int 0)] (pc' := 34) (ls' := [some (.ref 17)]) (st' := [.int (g.1 17 8), .ref 18]) (g' := g) (by decide +kernel) rfl ?_
      refine xcallV A (ix := 40) (nxt := 37) hrm hz [.int (g.1 17 8)] [] 864 (c_X9_startOf_18 hS _ rfl) ok_X9_startOf (by decide +kernel) rfl (fun r g1 hq => ?_)
      rw [hq.1, hq.2]
      show xW k S 0 0 37 [some (.ref 17)] [.int (f_X9_startOf_18 (g.1 17 8) g)] g
      refine xgoto A (4) 41 (by decide +kernel) ?_
      subst H
      exact xret_i A hR hz (by decide +kernel) rfl ⟨rfl, rfl⟩
  · rw [if_neg h1] at H
    refine xb A [(.aload_n 0, 1, 0, 0, .null), (.getfield 14, 3, 17, 1, .ref 18), (.aload_n 0, 1, 0, 0, .null), (.getfield 37, 3, 17, 5, .int 0)] (pc' := 15) (ls' := [some (.ref 17)]) (st' := [.int (g.1 17 5), .ref 18]) (g' := g) (by decide +kernel) rfl ?_
    refine xcallV A (ix := 40) (nxt := 18) hrm hz [.int (g.1 17 5)] [] 864 (c_X9_startOf_18 hS _ rfl) ok_X9_startOf (by decide +kernel) rfl (fun r g1 hq => ?_)
    rw [hq.1, hq.2]
    show xW k S 0 0 18 [some (.ref 17)] [.int (f_X9_startOf_18 (g.1 17 5) g)] g
    subst H
    exact xret_i A hR hz (by decide +kernel) rfl ⟨rfl, rfl⟩
def fp_X8_clear_1 : List (Nat × Option Nat) := [(1, some 1)]
def f_X8_clear_1  (g : xG) : xG :=
  (xupd g.1 1 1 0, g.2)
set_option maxRecDepth 20000 in
theorem c_X8_clear_1 {S : List xSh} (hS : xpf SH1 S) {g : xG}  (out : xG) (H : f_X8_clear_1  g = out) : xC mX8_clear 0 0 0 0 S [.ref 1] g S (fun r g' => r = none ∧ g' = out) := by
  have H : ((xupd g.1 1 1 0, g.2)) = out := H
  refine xC.of 8 SH1 [some (.ref 1)] hS (by decide +kernel) rfl (fun _ _ => Nat.le_of_ble_eq_true rfl) (fun _ _ => rfl) ?_
  intro k A hR hrm hz
  refine xb A [(.aload_n 0, 1, 0, 0, .null), (.iconst 0, 1, 0, 0, .int 0), (.putfield 13, 3, 1, 1, .int 0)] (pc' := 5) (ls' := [some (.ref 1)]) (st' := []) (g' := (xupd g.1 1 1 0, g.2)) (by decide +kernel) rfl ?_
  subst H
  exact xret_v A hR hz (by decide +kernel) ⟨rfl, rfl⟩
theorem fr_X8_clear_1  {g : xG} (out : xG) (H : f_X8_clear_1  g = out) : xfrm fp_X8_clear_1 g (out) := by
  have H : ((xupd g.1 1 1 0, g.2)) = out := H
  have hf1 : xfrm fp_X8_clear_1 g ((xupd g.1 1 1 0, g.2)) := xfrm.up xfrm.rf rfl
  subst H
  exact hf1
def fp_X2_copyFrom_12_32 : List (Nat × Option Nat) := [(12, some 4), (13, none), (14, none), (15, none)]
def f_X2_copyFrom_12_32  (g : xG) : xG :=
  xl (xcopy g 33 13 408) fun w1 =>
  xl (xcopy w1 34 14 408) fun w2 =>
  xl (xcopy w2 35 15 4) fun w3 =>
  (xupd w3.1 12 4 (w3.1 32 4), w3.2)
set_option maxRecDepth 20000 in
theorem c_X2_copyFrom_12_32 {S : List xSh} (hS : xpf SH1 S) {g : xG}  (out : xG) (H : f_X2_copyFrom_12_32  g = out) : xC mX2_copyFrom 1 22 0 0 S [.ref 12, .ref 32] g S (fun r g' => r = none ∧ g' = out) := by
  have H : (xl (xcopy g 33 13 408) fun w1 =>
xl (xcopy w1 34 14 408) fun w2 =>
xl (xcopy w2 35 15 4) fun w3 =>
(xupd w3.1 12 4 (w3.1 32 4), w3.2)) = out := H
  refine xC.of 2 SH1 [some (.ref 12), some (.ref 32)] hS (by decide +kernel) rfl (fun _ _ => Nat.le_of_ble_eq_true rfl) (fun _ _ => rfl) ?_
  intro k A hR hrm hz
  refine xb A [(.aload_n 1, 1, 0, 0, .null), (.getfield 13, 3, 32, 0, .ref 33), (.aload_n 0, 1, 0, 0, .null), (.getfield 13, 3, 12, 0, .ref 13)] (pc' := 8) (ls' := [some (.ref 12), some (.ref 32)]) (st' := [.ref 13, .ref 33]) (g' := g) (by decide +kernel) rfl ?_
  obtain ⟨w1, e1, H⟩ := xl_elim H
  refine xcallSN A (ix := 38) (nxt := 11) (host := "NoonRinger") hrm hz [.ref 33, .ref 13] [] 22 (c_X11_copyAll (hS _ _ sh_33) (hS _ _ sh_13) (by decide) (by decide)) ok_X11_copyAll (by decide +kernel) rfl (fun r g1 hq => ?_)
  rw [hq.1, hq.2]
  rw [e1]
  show xW k S 0 0 11 [some (.ref 12), some (.ref 32)] [] w1
  refine xb A [(.aload_n 1, 1, 0, 0, .null), (.getfield 17, 3, 32, 1, .ref 34), (.aload_n 0, 1, 0, 0, .null), (.getfield 17, 3, 12, 1, .ref 14)] (pc' := 19) (ls' := [some (.ref 12), some (.ref 32)]) (st' := [.ref 14, .ref 34]) (g' := w1) (by decide +kernel) rfl ?_
  obtain ⟨w2, e2, H⟩ := xl_elim H
  refine xcallSN A (ix := 38) (nxt := 22) (host := "NoonRinger") hrm hz [.ref 34, .ref 14] [] 22 (c_X11_copyAll (hS _ _ sh_34) (hS _ _ sh_14) (by decide) (by decide)) ok_X11_copyAll (by decide +kernel) rfl (fun r g1 hq => ?_)
  rw [hq.1, hq.2]
  rw [e2]
  show xW k S 0 0 22 [some (.ref 12), some (.ref 32)] [] w2
  refine xb A [(.aload_n 1, 1, 0, 0, .null), (.getfield 20, 3, 32, 2, .ref 35), (.aload_n 0, 1, 0, 0, .null), (.getfield 20, 3, 12, 2, .ref 15)] (pc' := 30) (ls' := [some (.ref 12), some (.ref 32)]) (st' := [.ref 15, .ref 35]) (g' := w2) (by decide +kernel) rfl ?_
  obtain ⟨w3, e3, H⟩ := xl_elim H
  refine xcallSN A (ix := 38) (nxt := 33) (host := "NoonRinger") hrm hz [.ref 35, .ref 15] [] 22 (c_X11_copyAll (hS _ _ sh_35) (hS _ _ sh_15) (by decide) (by decide)) ok_X11_copyAll (by decide +kernel) rfl (fun r g1 hq => ?_)
  rw [hq.1, hq.2]
  rw [e3]
  show xW k S 0 0 33 [some (.ref 12), some (.ref 32)] [] w3
  refine xb A [(.aload_n 0, 1, 0, 0, .null), (.aload_n 1, 1, 0, 0, .null), (.getfield 26, 3, 32, 4, .int 0), (.putfield 26, 3, 12, 4, .int 0)] (pc' := 41) (ls' := [some (.ref 12), some (.ref 32)]) (st' := []) (g' := (xupd w3.1 12 4 (w3.1 32 4), w3.2)) (by decide +kernel) rfl ?_
  subst H
  exact xret_v A hR hz (by decide +kernel) ⟨rfl, rfl⟩
theorem fr_X2_copyFrom_12_32  {g : xG} (out : xG) (H : f_X2_copyFrom_12_32  g = out) : xfrm fp_X2_copyFrom_12_32 g (out) := by
  have H : (xl (xcopy g 33 13 408) fun w1 =>
xl (xcopy w1 34 14 408) fun w2 =>
xl (xcopy w2 35 15 4) fun w3 =>
(xupd w3.1 12 4 (w3.1 32 4), w3.2)) = out := H
  obtain ⟨w1, e1, H⟩ := xl_elim H
  have hf1 : xfrm fp_X2_copyFrom_12_32 g (w1) := xfrm_xcopy xfrm.rf rfl e1
  obtain ⟨w2, e2, H⟩ := xl_elim H
  have hf2 : xfrm fp_X2_copyFrom_12_32 g (w2) := xfrm_xcopy hf1 rfl e2
  obtain ⟨w3, e3, H⟩ := xl_elim H
  have hf3 : xfrm fp_X2_copyFrom_12_32 g (w3) := xfrm_xcopy hf2 rfl e3
  have hf4 : xfrm fp_X2_copyFrom_12_32 g ((xupd w3.1 12 4 (w3.1 32 4), w3.2)) := xfrm.up hf3 rfl
  subst H
  exact hf4
