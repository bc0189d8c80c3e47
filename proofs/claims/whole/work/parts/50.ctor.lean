/-! the class, made -/
def CS0 : List xSh := []
theorem ln_CS0 : CS0.length = 0 := by decide +kernel
def CS1 : List xSh := CS0 ++ [.inr (11, [.null, .null, .null, .null, .null, .null, .null, .null, .null, .null, .null, .null, .null, .int 0, .int 0, .int 0, .int 0])]
theorem ln_CS1 : CS1.length = 1 := by decide +kernel
def CS2 : List xSh := CS1 ++ [.inr (8, [.null, .int 0])]
theorem ln_CS2 : CS2.length = 2 := by decide +kernel
def CS3 : List xSh := CS2 ++ [.inl (.byte, 2000)]
theorem ln_CS3 : CS3.length = 3 := by decide +kernel
def CS4 : List xSh := CS3.set 1 (.inr (8, ([.null, .int 0] : List Value).set 0 (.ref 2)))
theorem ln_CS4 : CS4.length = 3 := by decide +kernel
def f_n_c_1 (g : xG) : xG :=
  (xrow g.1 2 (fun _ => 0), g.2)
set_option maxRecDepth 20000 in
theorem c_n_c_1 {g : xG} (out : xG) (H : f_n_c_1 g = out) : xC mX8_init 1 20 1 2000 CS2 [.ref 1] g CS4 (fun r g' => r = none ∧ g' = out) := by
  have H : ((xrow g.1 2 (fun _ => 0), g.2)) = out := H
  refine xC.ofI 8 [some (.ref 1)] (by decide +kernel) rfl (fun _ _ => Nat.le_of_ble_eq_true rfl) (fun _ _ => rfl) ?_
  intro k A hR hrm hz hi
  refine xb (xmv A CS2) [(.aload_n 0, 1, 0, 0, .null)] (pc' := 1) (ls' := [some (.ref 1)]) (st' := [.ref 1]) (g' := g) (by decide +kernel) rfl ?_
  refine xobj (xmv A CS2) hrm (ix := 1) (nxt := 4) 146 (by decide +kernel) rfl ?_
  refine xb (xmv A CS2) [(.aload_n 0, 1, 0, 0, .null), (.sipush 2000, 3, 0, 0, .int 2000)] (pc' := 8) (ls' := [some (.ref 1)]) (st' := [.int 2000, .ref 1]) (g' := g) (by decide +kernel) rfl ?_
  refine xnwb (xmv A CS2) hrm (by have h := hz; rw [ln_CS2] at h; rw [ln_CS2]; omega) (S' := CS3) (nxt := 10) 2000 (by decide) (by decide) rfl (by decide +kernel) ?_
  rw [ln_CS2]
  show xW k CS3 1 2000 10 [some (.ref 1)] [.ref 2, .ref 1] (xrow g.1 2 (fun _ => 0), g.2)
  refine xputF (xmv A CS3) hi (S' := CS4) (ix := 9) (nxt := 13) (w := 147) (b := 0) (ci := 8) (N := 2) (C := RX8) (T := TX8) [.null, .int 0] (.array .byte) rfl (by decide +kernel) rfl (by decide +kernel) ?_
  subst H
  exact xret_v (xmv A CS4) hR (by have h := hz; rw [ln_CS2] at h; rw [ln_CS4]; omega) (by decide +kernel) ⟨rfl, rfl⟩
def CS5 : List xSh := CS4.set 0 (.inr (11, ([.null, .null, .null, .null, .null, .null, .null, .null, .null, .null, .null, .null, .null, .int 0, .int 0, .int 0, .int 0] : List Value).set 0 (.ref 1)))
theorem ln_CS5 : CS5.length = 3 := by decide +kernel
def CS6 : List xSh := CS5 ++ [.inr (4, [.null, .null, .null, .null, .null, .null, .null, .null, .null, .int 0, .int 0, .int 0, .int 0, .int 0])]
theorem ln_CS6 : CS6.length = 4 := by decide +kernel
def CS7 : List xSh := CS6 ++ [.inl (.long, 7)]
theorem ln_CS7 : CS7.length = 5 := by decide +kernel
def CS8 : List xSh := CS7.set 3 (.inr (4, ([.null, .null, .null, .null, .null, .null, .null, .null, .null, .int 0, .int 0, .int 0, .int 0, .int 0] : List Value).set 0 (.ref 4)))
theorem ln_CS8 : CS8.length = 5 := by decide +kernel
def CS9 : List xSh := CS8 ++ [.inl (.int, 10)]
theorem ln_CS9 : CS9.length = 6 := by decide +kernel
def CS10 : List xSh := CS9.set 3 (.inr (4, ([.ref 4, .null, .null, .null, .null, .null, .null, .null, .null, .int 0, .int 0, .int 0, .int 0, .int 0] : List Value).set 1 (.ref 5)))
theorem ln_CS10 : CS10.length = 6 := by decide +kernel
def CS11 : List xSh := CS10 ++ [.inl (.int, 10)]
theorem ln_CS11 : CS11.length = 7 := by decide +kernel
def CS12 : List xSh := CS11.set 3 (.inr (4, ([.ref 4, .ref 5, .null, .null, .null, .null, .null, .null, .null, .int 0, .int 0, .int 0, .int 0, .int 0] : List Value).set 2 (.ref 6)))
theorem ln_CS12 : CS12.length = 7 := by decide +kernel
def CS13 : List xSh := CS12 ++ [.inl (.int, 10)]
theorem ln_CS13 : CS13.length = 8 := by decide +kernel
def CS14 : List xSh := CS13.set 3 (.inr (4, ([.ref 4, .ref 5, .ref 6, .null, .null, .null, .null, .null, .null, .int 0, .int 0, .int 0, .int 0, .int 0] : List Value).set 3 (.ref 7)))
theorem ln_CS14 : CS14.length = 8 := by decide +kernel
def CS15 : List xSh := CS14 ++ [.inl (.long, 6)]
theorem ln_CS15 : CS15.length = 9 := by decide +kernel
def CS16 : List xSh := CS15.set 3 (.inr (4, ([.ref 4, .ref 5, .ref 6, .ref 7, .null, .null, .null, .null, .null, .int 0, .int 0, .int 0, .int 0, .int 0] : List Value).set 4 (.ref 8)))
theorem ln_CS16 : CS16.length = 9 := by decide +kernel
def CS17 : List xSh := CS16 ++ [.inl (.int, 6)]
theorem ln_CS17 : CS17.length = 10 := by decide +kernel
def CS18 : List xSh := CS17.set 3 (.inr (4, ([.ref 4, .ref 5, .ref 6, .ref 7, .ref 8, .null, .null, .null, .null, .int 0, .int 0, .int 0, .int 0, .int 0] : List Value).set 5 (.ref 9)))
theorem ln_CS18 : CS18.length = 10 := by decide +kernel
def CS19 : List xSh := CS18 ++ [.inl (.int, 6)]
theorem ln_CS19 : CS19.length = 11 := by decide +kernel
def CS20 : List xSh := CS19.set 3 (.inr (4, ([.ref 4, .ref 5, .ref 6, .ref 7, .ref 8, .ref 9, .null, .null, .null, .int 0, .int 0, .int 0, .int 0, .int 0] : List Value).set 6 (.ref 10)))
theorem ln_CS20 : CS20.length = 11 := by decide +kernel
def CS21 : List xSh := CS20 ++ [.inl (.int, 6)]
theorem ln_CS21 : CS21.length = 12 := by decide +kernel
def CS22 : List xSh := CS21.set 3 (.inr (4, ([.ref 4, .ref 5, .ref 6, .ref 7, .ref 8, .ref 9, .ref 10, .null, .null, .int 0, .int 0, .int 0, .int 0, .int 0] : List Value).set 7 (.ref 11)))
theorem ln_CS22 : CS22.length = 12 := by decide +kernel
def CS23 : List xSh := CS22 ++ [.inr (2, [.null, .null, .null, .null, .int 0])]
theorem ln_CS23 : CS23.length = 13 := by decide +kernel
def CS24 : List xSh := CS23 ++ [.inl (.int, 408)]
theorem ln_CS24 : CS24.length = 14 := by decide +kernel
def CS25 : List xSh := CS24.set 12 (.inr (2, ([.null, .null, .null, .null, .int 0] : List Value).set 0 (.ref 13)))
theorem ln_CS25 : CS25.length = 14 := by decide +kernel
def CS26 : List xSh := CS25 ++ [.inl (.int, 408)]
theorem ln_CS26 : CS26.length = 15 := by decide +kernel
def CS27 : List xSh := CS26.set 12 (.inr (2, ([.ref 13, .null, .null, .null, .int 0] : List Value).set 1 (.ref 14)))
theorem ln_CS27 : CS27.length = 15 := by decide +kernel
def CS28 : List xSh := CS27 ++ [.inl (.int, 4)]
theorem ln_CS28 : CS28.length = 16 := by decide +kernel
def CS29 : List xSh := CS28.set 12 (.inr (2, ([.ref 13, .ref 14, .null, .null, .int 0] : List Value).set 2 (.ref 15)))
theorem ln_CS29 : CS29.length = 16 := by decide +kernel
def CS30 : List xSh := CS29 ++ [.inl (.int, 24)]
theorem ln_CS30 : CS30.length = 17 := by decide +kernel
def CS31 : List xSh := CS30.set 12 (.inr (2, ([.ref 13, .ref 14, .ref 15, .null, .int 0] : List Value).set 3 (.ref 16)))
theorem ln_CS31 : CS31.length = 17 := by decide +kernel
def f_n_c_3_12 (g : xG) : xG :=
  (xrow (xrow (xrow (xrow g.1 13 (fun _ => 0)) 14 (fun _ => 0)) 15 (fun _ => 0)) 16 (fun _ => 0), g.2)
set_option maxRecDepth 20000 in
theorem c_n_c_3_12 {g : xG} (out : xG) (H : f_n_c_3_12 g = out) : xC mX2_init 1 20 4 844 CS23 [.ref 12] g CS31 (fun r g' => r = none ∧ g' = out) := by
  have H : ((xrow (xrow (xrow (xrow g.1 13 (fun _ => 0)) 14 (fun _ => 0)) 15 (fun _ => 0)) 16 (fun _ => 0), g.2)) = out := H
  refine xC.ofI 2 [some (.ref 12)] (by decide +kernel) rfl (fun _ _ => Nat.le_of_ble_eq_true rfl) (fun _ _ => rfl) ?_
  intro k A hR hrm hz hi
  refine xb (xmv A CS23) [(.aload_n 0, 1, 0, 0, .null)] (pc' := 1) (ls' := [some (.ref 12)]) (st' := [.ref 12]) (g' := g) (by decide +kernel) rfl ?_
  refine xobj (xmv A CS23) hrm (ix := 7) (nxt := 4) 166 (by decide +kernel) rfl ?_
  refine xb (xmv A CS23) [(.aload_n 0, 1, 0, 0, .null), (.sipush 408, 3, 0, 0, .int 408)] (pc' := 8) (ls' := [some (.ref 12)]) (st' := [.int 408, .ref 12]) (g' := g) (by decide +kernel) rfl ?_
  refine xnwi (xmv A CS23) hrm (by have h := hz; rw [ln_CS23] at h; rw [ln_CS23]; omega) (S' := CS24) (nxt := 10) 408 (by decide) (by decide) rfl (by decide +kernel) ?_
  rw [ln_CS23]
  show xW k CS24 1 408 10 [some (.ref 12)] [.ref 13, .ref 12] (xrow g.1 13 (fun _ => 0), g.2)
  refine xputF (xmv A CS24) hi (S' := CS25) (ix := 13) (nxt := 13) (w := 167) (b := 0) (ci := 2) (N := 5) (C := RX2) (T := TX2) [.null, .null, .null, .null, .int 0] (.array .int) rfl (by decide +kernel) rfl (by decide +kernel) ?_
  refine xb (xmv A CS25) [(.aload_n 0, 1, 0, 0, .null), (.sipush 408, 3, 0, 0, .int 408)] (pc' := 17) (ls' := [some (.ref 12)]) (st' := [.int 408, .ref 12]) (g' := (xrow g.1 13 (fun _ => 0), g.2)) (by decide +kernel) rfl ?_
  refine xnwi (xmv A CS25) hrm (by have h := hz; rw [ln_CS23] at h; rw [ln_CS25]; omega) (S' := CS26) (nxt := 19) 408 (by decide) (by decide) rfl (by decide +kernel) ?_
  rw [ln_CS25]
  show xW k CS26 2 816 19 [some (.ref 12)] [.ref 14, .ref 12] (xrow (xrow g.1 13 (fun _ => 0)) 14 (fun _ => 0), g.2)
  refine xputF (xmv A CS26) hi (S' := CS27) (ix := 17) (nxt := 22) (w := 168) (b := 1) (ci := 2) (N := 5) (C := RX2) (T := TX2) [.ref 13, .null, .null, .null, .int 0] (.array .int) rfl (by decide +kernel) rfl (by decide +kernel) ?_
  refine xb (xmv A CS27) [(.aload_n 0, 1, 0, 0, .null), (.iconst 4, 1, 0, 0, .int 4)] (pc' := 24) (ls' := [some (.ref 12)]) (st' := [.int 4, .ref 12]) (g' := (xrow (xrow g.1 13 (fun _ => 0)) 14 (fun _ => 0), g.2)) (by decide +kernel) rfl ?_
  refine xnwi (xmv A CS27) hrm (by have h := hz; rw [ln_CS23] at h; rw [ln_CS27]; omega) (S' := CS28) (nxt := 26) 4 (by decide) (by decide) rfl (by decide +kernel) ?_
  rw [ln_CS27]
  show xW k CS28 3 820 26 [some (.ref 12)] [.ref 15, .ref 12] (xrow (xrow (xrow g.1 13 (fun _ => 0)) 14 (fun _ => 0)) 15 (fun _ => 0), g.2)
  refine xputF (xmv A CS28) hi (S' := CS29) (ix := 20) (nxt := 29) (w := 169) (b := 2) (ci := 2) (N := 5) (C := RX2) (T := TX2) [.ref 13, .ref 14, .null, .null, .int 0] (.array .int) rfl (by decide +kernel) rfl (by decide +kernel) ?_
  refine xb (xmv A CS29) [(.aload_n 0, 1, 0, 0, .null), (.bipush 24, 2, 0, 0, .int 24)] (pc' := 32) (ls' := [some (.ref 12)]) (st' := [.int 24, .ref 12]) (g' := (xrow (xrow (xrow g.1 13 (fun _ => 0)) 14 (fun _ => 0)) 15 (fun _ => 0), g.2)) (by decide +kernel) rfl ?_
  refine xnwi (xmv A CS29) hrm (by have h := hz; rw [ln_CS23] at h; rw [ln_CS29]; omega) (S' := CS30) (nxt := 34) 24 (by decide) (by decide) rfl (by decide +kernel) ?_
  rw [ln_CS29]
  show xW k CS30 4 844 34 [some (.ref 12)] [.ref 16, .ref 12] (xrow (xrow (xrow (xrow g.1 13 (fun _ => 0)) 14 (fun _ => 0)) 15 (fun _ => 0)) 16 (fun _ => 0), g.2)
  refine xputF (xmv A CS30) hi (S' := CS31) (ix := 23) (nxt := 37) (w := 170) (b := 3) (ci := 2) (N := 5) (C := RX2) (T := TX2) [.ref 13, .ref 14, .ref 15, .null, .int 0] (.array .int) rfl (by decide +kernel) rfl (by decide +kernel) ?_
  subst H
  exact xret_v (xmv A CS31) hR (by have h := hz; rw [ln_CS23] at h; rw [ln_CS31]; omega) (by decide +kernel) ⟨rfl, rfl⟩
def CS32 : List xSh := CS31.set 3 (.inr (4, ([.ref 4, .ref 5, .ref 6, .ref 7, .ref 8, .ref 9, .ref 10, .ref 11, .null, .int 0, .int 0, .int 0, .int 0, .int 0] : List Value).set 8 (.ref 12)))
theorem ln_CS32 : CS32.length = 17 := by decide +kernel
def f_n_c_3 (g : xG) : xG :=
  xl (f_n_c_3_12 (xrow (xrow (xrow (xrow (xrow (xrow (xrow g.1 5 (fun _ => 0)) 6 (fun _ => 0)) 7 (fun _ => 0)) 9 (fun _ => 0)) 10 (fun _ => 0)) 11 (fun _ => 0)) 12 (fun _ => 0), xrowL (xrowL g.2 4 (fun _ => 0)) 8 (fun _ => 0))) fun w1 =>
  w1
set_option maxRecDepth 20000 in
theorem c_n_c_3 {g : xG} (out : xG) (H : f_n_c_3 g = out) : xC mX4_init 2 40 13 910 CS6 [.ref 3] g CS32 (fun r g' => r = none ∧ g' = out) := by
  have H : (xl (f_n_c_3_12 (xrow (xrow (xrow (xrow (xrow (xrow (xrow g.1 5 (fun _ => 0)) 6 (fun _ => 0)) 7 (fun _ => 0)) 9 (fun _ => 0)) 10 (fun _ => 0)) 11 (fun _ => 0)) 12 (fun _ => 0), xrowL (xrowL g.2 4 (fun _ => 0)) 8 (fun _ => 0))) fun w1 =>
w1) = out := H
  refine xC.ofI 4 [some (.ref 3)] (by decide +kernel) rfl (fun _ _ => Nat.le_of_ble_eq_true rfl) (fun _ _ => rfl) ?_
  intro k A hR hrm hz hi
  refine xb (xmv A CS6) [(.aload_n 0, 1, 0, 0, .null)] (pc' := 1) (ls' := [some (.ref 3)]) (st' := [.ref 3]) (g' := g) (by decide +kernel) rfl ?_
  refine xobj (xmv A CS6) hrm (ix := 3) (nxt := 4) 160 (by decide +kernel) rfl ?_
  refine xb (xmv A CS6) [(.aload_n 0, 1, 0, 0, .null), (.bipush 7, 2, 0, 0, .int 7)] (pc' := 7) (ls' := [some (.ref 3)]) (st' := [.int 7, .ref 3]) (g' := g) (by decide +kernel) rfl ?_
  refine xnwl (xmv A CS6) hrm (by have h := hz; rw [ln_CS6] at h; rw [ln_CS6]; omega) (S' := CS7) (nxt := 9) 7 (by decide) (by decide) rfl (by decide +kernel) ?_
  rw [ln_CS6]
  show xW k CS7 1 7 9 [some (.ref 3)] [.ref 4, .ref 3] (g.1, xrowL g.2 4 (fun _ => 0))
  refine xputF (xmv A CS7) hi (S' := CS8) (ix := 9) (nxt := 12) (w := 185) (b := 0) (ci := 4) (N := 14) (C := RX4) (T := TX4) [.null, .null, .null, .null, .null, .null, .null, .null, .null, .int 0, .int 0, .int 0, .int 0, .int 0] (.array .long) rfl (by decide +kernel) rfl (by decide +kernel) ?_
  refine xb (xmv A CS8) [(.aload_n 0, 1, 0, 0, .null), (.bipush 10, 2, 0, 0, .int 10)] (pc' := 15) (ls' := [some (.ref 3)]) (st' := [.int 10, .ref 3]) (g' := (g.1, xrowL g.2 4 (fun _ => 0))) (by decide +kernel) rfl ?_
  refine xnwi (xmv A CS8) hrm (by have h := hz; rw [ln_CS6] at h; rw [ln_CS8]; omega) (S' := CS9) (nxt := 17) 10 (by decide) (by decide) rfl (by decide +kernel) ?_
  rw [ln_CS8]
  show xW k CS9 2 17 17 [some (.ref 3)] [.ref 5, .ref 3] (xrow g.1 5 (fun _ => 0), xrowL g.2 4 (fun _ => 0))
  refine xputF (xmv A CS9) hi (S' := CS10) (ix := 15) (nxt := 20) (w := 186) (b := 1) (ci := 4) (N := 14) (C := RX4) (T := TX4) [.ref 4, .null, .null, .null, .null, .null, .null, .null, .null, .int 0, .int 0, .int 0, .int 0, .int 0] (.array .int) rfl (by decide +kernel) rfl (by decide +kernel) ?_
  refine xb (xmv A CS10) [(.aload_n 0, 1, 0, 0, .null), (.bipush 10, 2, 0, 0, .int 10)] (pc' := 23) (ls' := [some (.ref 3)]) (st' := [.int 10, .ref 3]) (g' := (xrow g.1 5 (fun _ => 0), xrowL g.2 4 (fun _ => 0))) (by decide +kernel) rfl ?_
  refine xnwi (xmv A CS10) hrm (by have h := hz; rw [ln_CS6] at h; rw [ln_CS10]; omega) (S' := CS11) (nxt := 25) 10 (by decide) (by decide) rfl (by decide +kernel) ?_
  rw [ln_CS10]
  show xW k CS11 3 27 25 [some (.ref 3)] [.ref 6, .ref 3] (xrow (xrow g.1 5 (fun _ => 0)) 6 (fun _ => 0), xrowL g.2 4 (fun _ => 0))
  refine xputF (xmv A CS11) hi (S' := CS12) (ix := 19) (nxt := 28) (w := 187) (b := 2) (ci := 4) (N := 14) (C := RX4) (T := TX4) [.ref 4, .ref 5, .null, .null, .null, .null, .null, .null, .null, .int 0, .int 0, .int 0, .int 0, .int 0] (.array .int) rfl (by decide +kernel) rfl (by decide +kernel) ?_
  refine xb (xmv A CS12) [(.aload_n 0, 1, 0, 0, .null), (.bipush 10, 2, 0, 0, .int 10)] (pc' := 31) (ls' := [some (.ref 3)]) (st' := [.int 10, .ref 3]) (g' := (xrow (xrow g.1 5 (fun _ => 0)) 6 (fun _ => 0), xrowL g.2 4 (fun _ => 0))) (by decide +kernel) rfl ?_
  refine xnwi (xmv A CS12) hrm (by have h := hz; rw [ln_CS6] at h; rw [ln_CS12]; omega) (S' := CS13) (nxt := 33) 10 (by decide) (by decide) rfl (by decide +kernel) ?_
  rw [ln_CS12]
  show xW k CS13 4 37 33 [some (.ref 3)] [.ref 7, .ref 3] (xrow (xrow (xrow g.1 5 (fun _ => 0)) 6 (fun _ => 0)) 7 (fun _ => 0), xrowL g.2 4 (fun _ => 0))
  refine xputF (xmv A CS13) hi (S' := CS14) (ix := 22) (nxt := 36) (w := 188) (b := 3) (ci := 4) (N := 14) (C := RX4) (T := TX4) [.ref 4, .ref 5, .ref 6, .null, .null, .null, .null, .null, .null, .int 0, .int 0, .int 0, .int 0, .int 0] (.array .int) rfl (by decide +kernel) rfl (by decide +kernel) ?_
  refine xb (xmv A CS14) [(.aload_n 0, 1, 0, 0, .null), (.bipush 6, 2, 0, 0, .int 6)] (pc' := 39) (ls' := [some (.ref 3)]) (st' := [.int 6, .ref 3]) (g' := (xrow (xrow (xrow g.1 5 (fun _ => 0)) 6 (fun _ => 0)) 7 (fun _ => 0), xrowL g.2 4 (fun _ => 0))) (by decide +kernel) rfl ?_
  refine xnwl (xmv A CS14) hrm (by have h := hz; rw [ln_CS6] at h; rw [ln_CS14]; omega) (S' := CS15) (nxt := 41) 6 (by decide) (by decide) rfl (by decide +kernel) ?_
  rw [ln_CS14]
  show xW k CS15 5 43 41 [some (.ref 3)] [.ref 8, .ref 3] (xrow (xrow (xrow g.1 5 (fun _ => 0)) 6 (fun _ => 0)) 7 (fun _ => 0), xrowL (xrowL g.2 4 (fun _ => 0)) 8 (fun _ => 0))
  refine xputF (xmv A CS15) hi (S' := CS16) (ix := 25) (nxt := 44) (w := 189) (b := 4) (ci := 4) (N := 14) (C := RX4) (T := TX4) [.ref 4, .ref 5, .ref 6, .ref 7, .null, .null, .null, .null, .null, .int 0, .int 0, .int 0, .int 0, .int 0] (.array .long) rfl (by decide +kernel) rfl (by decide +kernel) ?_
  refine xb (xmv A CS16) [(.aload_n 0, 1, 0, 0, .null), (.bipush 6, 2, 0, 0, .int 6)] (pc' := 47) (ls' := [some (.ref 3)]) (st' := [.int 6, .ref 3]) (g' := (xrow (xrow (xrow g.1 5 (fun _ => 0)) 6 (fun _ => 0)) 7 (fun _ => 0), xrowL (xrowL g.2 4 (fun _ => 0)) 8 (fun _ => 0))) (by decide +kernel) rfl ?_
  refine xnwi (xmv A CS16) hrm (by have h := hz; rw [ln_CS6] at h; rw [ln_CS16]; omega) (S' := CS17) (nxt := 49) 6 (by decide) (by decide) rfl (by decide +kernel) ?_
  rw [ln_CS16]
  show xW k CS17 6 49 49 [some (.ref 3)] [.ref 9, .ref 3] (xrow (xrow (xrow (xrow g.1 5 (fun _ => 0)) 6 (fun _ => 0)) 7 (fun _ => 0)) 9 (fun _ => 0), xrowL (xrowL g.2 4 (fun _ => 0)) 8 (fun _ => 0))
  refine xputF (xmv A CS17) hi (S' := CS18) (ix := 28) (nxt := 52) (w := 190) (b := 5) (ci := 4) (N := 14) (C := RX4) (T := TX4) [.ref 4, .ref 5, .ref 6, .ref 7, .ref 8, .null, .null, .null, .null, .int 0, .int 0, .int 0, .int 0, .int 0] (.array .int) rfl (by decide +kernel) rfl (by decide +kernel) ?_
  refine xb (xmv A CS18) [(.aload_n 0, 1, 0, 0, .null), (.bipush 6, 2, 0, 0, .int 6)] (pc' := 55) (ls' := [some (.ref 3)]) (st' := [.int 6, .ref 3]) (g' := (xrow (xrow (xrow (xrow g.1 5 (fun _ => 0)) 6 (fun _ => 0)) 7 (fun _ => 0)) 9 (fun _ => 0), xrowL (xrowL g.2 4 (fun _ => 0)) 8 (fun _ => 0))) (by decide +kernel) rfl ?_
  refine xnwi (xmv A CS18) hrm (by have h := hz; rw [ln_CS6] at h; rw [ln_CS18]; omega) (S' := CS19) (nxt := 57) 6 (by decide) (by decide) rfl (by decide +kernel) ?_
  rw [ln_CS18]
  show xW k CS19 7 55 57 [some (.ref 3)] [.ref 10, .ref 3] (xrow (xrow (xrow (xrow (xrow g.1 5 (fun _ => 0)) 6 (fun _ => 0)) 7 (fun _ => 0)) 9 (fun _ => 0)) 10 (fun _ => 0), xrowL (xrowL g.2 4 (fun _ => 0)) 8 (fun _ => 0))
  refine xputF (xmv A CS19) hi (S' := CS20) (ix := 31) (nxt := 60) (w := 191) (b := 6) (ci := 4) (N := 14) (C := RX4) (T := TX4) [.ref 4, .ref 5, .ref 6, .ref 7, .ref 8, .ref 9, .null, .null, .null, .int 0, .int 0, .int 0, .int 0, .int 0] (.array .int) rfl (by decide +kernel) rfl (by decide +kernel) ?_
  refine xb (xmv A CS20) [(.aload_n 0, 1, 0, 0, .null), (.bipush 6, 2, 0, 0, .int 6)] (pc' := 63) (ls' := [some (.ref 3)]) (st' := [.int 6, .ref 3]) (g' := (xrow (xrow (xrow (xrow (xrow g.1 5 (fun _ => 0)) 6 (fun _ => 0)) 7 (fun _ => 0)) 9 (fun _ => 0)) 10 (fun _ => 0), xrowL (xrowL g.2 4 (fun _ => 0)) 8 (fun _ => 0))) (by decide +kernel) rfl ?_
  refine xnwi (xmv A CS20) hrm (by have h := hz; rw [ln_CS6] at h; rw [ln_CS20]; omega) (S' := CS21) (nxt := 65) 6 (by decide) (by decide) rfl (by decide +kernel) ?_
  rw [ln_CS20]
  show xW k CS21 8 61 65 [some (.ref 3)] [.ref 11, .ref 3] (xrow (xrow (xrow (xrow (xrow (xrow g.1 5 (fun _ => 0)) 6 (fun _ => 0)) 7 (fun _ => 0)) 9 (fun _ => 0)) 10 (fun _ => 0)) 11 (fun _ => 0), xrowL (xrowL g.2 4 (fun _ => 0)) 8 (fun _ => 0))
  refine xputF (xmv A CS21) hi (S' := CS22) (ix := 34) (nxt := 68) (w := 192) (b := 7) (ci := 4) (N := 14) (C := RX4) (T := TX4) [.ref 4, .ref 5, .ref 6, .ref 7, .ref 8, .ref 9, .ref 10, .null, .null, .int 0, .int 0, .int 0, .int 0, .int 0] (.array .int) rfl (by decide +kernel) rfl (by decide +kernel) ?_
  refine xb (xmv A CS22) [(.aload_n 0, 1, 0, 0, .null)] (pc' := 69) (ls' := [some (.ref 3)]) (st' := [.ref 3]) (g' := (xrow (xrow (xrow (xrow (xrow (xrow g.1 5 (fun _ => 0)) 6 (fun _ => 0)) 7 (fun _ => 0)) 9 (fun _ => 0)) 10 (fun _ => 0)) 11 (fun _ => 0), xrowL (xrowL g.2 4 (fun _ => 0)) 8 (fun _ => 0))) (by decide +kernel) rfl ?_
  refine xnew (xmv A CS22) hrm (by have h := hz; rw [ln_CS6] at h; rw [ln_CS22]; omega) (S' := CS23) (ix := 37) (nxt := 72) (ci := 2) 161 162 116 [.null, .null, .null, .null, .int 0] tyX2 tyX2_ok rfl rfl (by decide +kernel) ?_
  rw [ln_CS22]
  show xW k CS23 9 66 72 [some (.ref 3)] [.ref 12, .ref 3] (xrow (xrow (xrow (xrow (xrow (xrow (xrow g.1 5 (fun _ => 0)) 6 (fun _ => 0)) 7 (fun _ => 0)) 9 (fun _ => 0)) 10 (fun _ => 0)) 11 (fun _ => 0)) 12 (fun _ => 0), xrowL (xrowL g.2 4 (fun _ => 0)) 8 (fun _ => 0))
  refine xb (xmv A CS23) [(.dup, 1, 0, 0, .null)] (pc' := 73) (ls' := [some (.ref 3)]) (st' := [.ref 12, .ref 12, .ref 3]) (g' := (xrow (xrow (xrow (xrow (xrow (xrow (xrow g.1 5 (fun _ => 0)) 6 (fun _ => 0)) 7 (fun _ => 0)) 9 (fun _ => 0)) 10 (fun _ => 0)) 11 (fun _ => 0)) 12 (fun _ => 0), xrowL (xrowL g.2 4 (fun _ => 0)) 8 (fun _ => 0))) (by decide +kernel) rfl ?_
  obtain ⟨w1, e1, H⟩ := xl_elim H
  refine xcallIN (xmv A CS23) (ix := 39) (nxt := 76) (host := "NoonRinger") hrm (by have h := hz; rw [ln_CS6] at h; rw [ln_CS23]; omega) [] [.ref 12, .ref 3] 2 (c_n_c_3_12 _ e1) ok_X2_init (by decide +kernel) rfl (fun r g1 hq => ?_)
  rw [hq.1, hq.2]
  show xW k CS31 13 910 76 [some (.ref 3)] [.ref 12, .ref 3] w1
  refine xputF (xmv A CS31) hi (S' := CS32) (ix := 40) (nxt := 79) (w := 193) (b := 8) (ci := 4) (N := 14) (C := RX4) (T := TX4) [.ref 4, .ref 5, .ref 6, .ref 7, .ref 8, .ref 9, .ref 10, .ref 11, .null, .int 0, .int 0, .int 0, .int 0, .int 0] (.object "NoonRinger$Laws") rfl (by decide +kernel) rfl (by decide +kernel) ?_
  subst H
  exact xret_v (xmv A CS32) hR (by have h := hz; rw [ln_CS6] at h; rw [ln_CS32]; omega) (by decide +kernel) ⟨rfl, rfl⟩
def CS33 : List xSh := CS32.set 0 (.inr (11, ([.ref 1, .null, .null, .null, .null, .null, .null, .null, .null, .null, .null, .null, .null, .int 0, .int 0, .int 0, .int 0] : List Value).set 1 (.ref 3)))
theorem ln_CS33 : CS33.length = 17 := by decide +kernel
def CS34 : List xSh := CS33 ++ [.inr (3, [.null, .null, .null, .null, .int 0, .int 0, .int 0, .int 0, .int 0])]
theorem ln_CS34 : CS34.length = 18 := by decide +kernel
def CS35 : List xSh := CS34 ++ [.inr (9, [.null, .null, .null, .null, .int 0, .int 0])]
theorem ln_CS35 : CS35.length = 19 := by decide +kernel
def CS36 : List xSh := CS35 ++ [.inl (.int, 402)]
theorem ln_CS36 : CS36.length = 20 := by decide +kernel
def CS37 : List xSh := CS36.set 18 (.inr (9, ([.null, .null, .null, .null, .int 0, .int 0] : List Value).set 0 (.ref 19)))
theorem ln_CS37 : CS37.length = 20 := by decide +kernel
def CS38 : List xSh := CS37 ++ [.inl (.int, 402)]
theorem ln_CS38 : CS38.length = 21 := by decide +kernel
def CS39 : List xSh := CS38.set 18 (.inr (9, ([.ref 19, .null, .null, .null, .int 0, .int 0] : List Value).set 1 (.ref 20)))
theorem ln_CS39 : CS39.length = 21 := by decide +kernel
def CS40 : List xSh := CS39 ++ [.inl (.long, 402)]
theorem ln_CS40 : CS40.length = 22 := by decide +kernel
def CS41 : List xSh := CS40.set 18 (.inr (9, ([.ref 19, .ref 20, .null, .null, .int 0, .int 0] : List Value).set 2 (.ref 21)))
theorem ln_CS41 : CS41.length = 22 := by decide +kernel
def CS42 : List xSh := CS41 ++ [.inl (.long, 21)]
theorem ln_CS42 : CS42.length = 23 := by decide +kernel
def CS43 : List xSh := CS42.set 18 (.inr (9, ([.ref 19, .ref 20, .ref 21, .null, .int 0, .int 0] : List Value).set 3 (.ref 22)))
theorem ln_CS43 : CS43.length = 23 := by decide +kernel
def fp_tl_c_17_18 : List (Nat × Option Nat) := [(22, none)]
def f_tl_c_17_18_46  : Nat → Int32 → Int64 → Int32 → xG → Option (xG)
  | 0, _, _, _, _ => none
  | n + 1, l1, l2, l4, g =>
    if (f_J0_length_8abf5_z0 ) ≤ l4 then
      some g
    else
      (f_J0_charAt_5068e_z0 l4).bind fun w1 =>
      if w1 = 32 then
        xl (xlput g 22 21 l1 l2) fun w2 =>
        f_tl_c_17_18_46 n (l1 + 1) 0 (l4 + 1) w2
      else
        f_tl_c_17_18_46 n l1 (f_X9_withLetter l2 w1) (l4 + 1) g
def f_tl_c_17_18 (g : xG) : Option (xG) :=
  f_tl_c_17_18_46 xN 0 0 0 g
set_option maxRecDepth 20000 in
theorem t_tl_c_17_18_46 {k : xK} {S : List xSh} {out : xG} (hS : xpf CS43 S) (A : xAt k mX9_init.2.1 9 CS43 S) (hR : xRet k 4 1227 S (fun r g' => r = none ∧ g' = out) mX9_init.2.2.2) (hrm : xrm k = { frames := 4, cells := 4, slots := 1227, locals := 85 }) (hz : xhs k + 4 = xb0 k + S.length)   : ∀ (n : Nat) (l1 : Int32) (l2 : Int64) (l4 : Int32) (g : xG), f_tl_c_17_18_46 n l1 l2 l4 g = some out → xW k S 4 1227 46 [some (.ref 18), some (.int l1), some (.long l2), none, some (.int l4), none] [] g := by
  intro n
  induction n with
  | zero => intro l1 l2 l4 g H; exact absurd H (by simp [f_tl_c_17_18_46])
  | succ n ih =>
    intro l1 l2 l4 g H
    have H : (if (f_J0_length_8abf5_z0 ) ≤ l4 then
  some g
else
  (f_J0_charAt_5068e_z0 l4).bind fun w1 =>
  if w1 = 32 then
    xl (xlput g 22 21 l1 l2) fun w2 =>
    f_tl_c_17_18_46 n (l1 + 1) 0 (l4 + 1) w2
  else
    f_tl_c_17_18_46 n l1 (f_X9_withLetter l2 w1) (l4 + 1) g) = some out := H
    refine xb A [(.iload 4, 2, 0, 0, .null)] (pc' := 48) (ls' := [some (.ref 18), some (.int l1), some (.long l2), none, some (.int l4), none]) (st' := [.int l4]) (g' := g) (by decide +kernel) rfl ?_
    refine xldcS A (u := 0) (ix := 23) (nxt := 50) (by decide +kernel) ?_
    show xW k S 4 1227 50 [some (.ref 18), some (.int l1), some (.long l2), none, some (.int l4), none] [.retAddr 0, .int l4] g
    refine xcallF A (ix := 25) (nxt := 53) hrm hz [] [.int l4] 241 (c_J0_length_8abf5_z0 xS0 _ rfl) ok_J0_length_8abf5 (by decide +kernel) rfl (fun r g1 hq => ?_)
    rw [hq.1, hq.2]
    show xW k S 4 1227 53 [some (.ref 18), some (.int l1), some (.long l2), none, some (.int l4), none] [.int (f_J0_length_8abf5_z0 ), .int l4] g
    refine xic_ge A (49) 102 56 (by decide +kernel) (fun h1 => ?_) (fun h1 => ?_)
    · rw [if_pos h1] at H
      obtain rfl := Option.some.inj H
      exact xret_v A hR hz (by decide +kernel) ⟨rfl, rfl⟩
    · rw [if_neg h1] at H
      refine xldcS A (u := 0) (ix := 23) (nxt := 58) (by decide +kernel) ?_
      show xW k S 4 1227 58 [some (.ref 18), some (.int l1), some (.long l2), none, some (.int l4), none] [.retAddr 0] g
      refine xb A [(.iload 4, 2, 0, 0, .null)] (pc' := 60) (ls' := [some (.ref 18), some (.int l1), some (.long l2), none, some (.int l4), none]) (st' := [.int l4, .retAddr 0]) (g' := g) (by decide +kernel) rfl ?_
      obtain ⟨w1, e1, H⟩ := xbind H
      refine xcallF A (ix := 31) (nxt := 63) hrm hz [.int l4] [] 251 (c_J0_charAt_5068e_z0 xS0 _ e1) ok_J0_charAt_5068e (by decide +kernel) rfl (fun r g1 hq => ?_)
      rw [hq.1, hq.2]
      show xW k S 4 1227 63 [some (.ref 18), some (.int l1), some (.long l2), none, some (.int l4), none] [.int w1] g
      refine xb A [(.istore 5, 2, 0, 0, .null), (.iload 5, 2, 0, 0, .null), (.bipush 32, 2, 0, 0, .int 32)] (pc' := 69) (ls' := [some (.ref 18), some (.int l1), some (.long l2), none, some (.int l4), some (.int w1)]) (st' := [.int 32, .int w1]) (g' := g) (by decide +kernel) rfl ?_
      refine xic_ne A (20) 89 72 (by decide +kernel) (fun h2 => ?_) (fun h2 => ?_)
      · rw [if_neg h2] at H
        refine xb A [(.lload_n 2, 1, 0, 0, .null), (.iload 5, 2, 0, 0, .null)] (pc' := 92) (ls' := [some (.ref 18), some (.int l1), some (.long l2), none, some (.int l4), some (.int w1)]) (st' := [.int w1, .long l2]) (g' := g) (by decide +kernel) rfl ?_
        refine xcallS A (ix := 41) (nxt := 95) hrm hz [.long l2, .int w1] [] 292 (c_X9_withLetter xS0 _ rfl) ok_X9_withLetter (by decide +kernel) rfl (fun r g1 hq => ?_)
        rw [hq.1, hq.2]
        show xW k S 4 1227 95 [some (.ref 18), some (.int l1), some (.long l2), none, some (.int l4), some (.int w1)] [.long (f_X9_withLetter l2 w1)] g
        refine xb A [(.lstore_n 2, 1, 0, 0, .null), (.iinc 4 1, 3, 0, 0, .null)] (pc' := 99) (ls' := [some (.ref 18), some (.int l1), some (.long (f_X9_withLetter l2 w1)), none, some (.int (l4 + 1)), some (.int w1)]) (st' := []) (g' := g) (by decide +kernel) rfl ?_
        refine xgoto A (-53) 46 (by decide +kernel) ?_
        refine xweak (ls' := [some (.ref 18), some (.int l1), some (.long (f_X9_withLetter l2 w1)), none, some (.int (l4 + 1)), none]) (by exact ⟨rfl, ⟨rfl, ⟨rfl, ⟨rfl, trivial⟩⟩⟩⟩) ?_
        exact ih _ _ _ _ H
      · rw [if_pos h2] at H
        refine xb A [(.aload_n 0, 1, 0, 0, .null), (.getfield 20, 3, 18, 3, .ref 22), (.iload_n 1, 1, 0, 0, .null), (.lload_n 2, 1, 0, 0, .null)] (pc' := 78) (ls' := [some (.ref 18), some (.int l1), some (.long l2), none, some (.int l4), some (.int w1)]) (st' := [.long l2, .int l1, .ref 22]) (g' := g) (by decide +kernel) rfl ?_
        obtain ⟨w2, e2, H⟩ := xl_elim H
        refine xcallSN A (ix := 35) (nxt := 81) (host := "NoonRinger") hrm hz [.ref 22, .int l1, .long l2] [] 3 (c_X11_putLong (hS 22 (.inl (.long, 21)) (by decide +kernel)) (by decide)) ok_X11_putLong (by decide +kernel) rfl (fun r g1 hq => ?_)
        rw [hq.1, hq.2]
        rw [e2]
        show xW k S 4 1227 81 [some (.ref 18), some (.int l1), some (.long l2), none, some (.int l4), some (.int w1)] [] w2
        refine xb A [(.iinc 1 1, 3, 0, 0, .null), (.lconst 0, 1, 0, 0, .long 0), (.lstore_n 2, 1, 0, 0, .null)] (pc' := 86) (ls' := [some (.ref 18), some (.int (l1 + 1)), some (.long 0), none, some (.int l4), some (.int w1)]) (st' := []) (g' := w2) (by decide +kernel) rfl ?_
        refine xgoto A (10) 96 (by decide +kernel) ?_
        refine xb A [(.iinc 4 1, 3, 0, 0, .null)] (pc' := 99) (ls' := [some (.ref 18), some (.int (l1 + 1)), some (.long 0), none, some (.int (l4 + 1)), some (.int w1)]) (st' := []) (g' := w2) (by decide +kernel) rfl ?_
        refine xgoto A (-53) 46 (by decide +kernel) ?_
        refine xweak (ls' := [some (.ref 18), some (.int (l1 + 1)), some (.long 0), none, some (.int (l4 + 1)), none]) (by exact ⟨rfl, ⟨rfl, ⟨rfl, ⟨rfl, trivial⟩⟩⟩⟩) ?_
        exact ih _ _ _ _ H
theorem fr_tl_c_17_18_46   : ∀ (n : Nat) (l1 : Int32) (l2 : Int64) (l4 : Int32) (g : xG) (out : xG), f_tl_c_17_18_46 n l1 l2 l4 g = some out → xfrm fp_tl_c_17_18 g (out) := by
  intro n
  induction n with
  | zero => intro l1 l2 l4 g out H; exact absurd H (by simp [f_tl_c_17_18_46])
  | succ n ih =>
    intro l1 l2 l4 g out H
    have H : (if (f_J0_length_8abf5_z0 ) ≤ l4 then
  some g
else
  (f_J0_charAt_5068e_z0 l4).bind fun w1 =>
  if w1 = 32 then
    xl (xlput g 22 21 l1 l2) fun w2 =>
    f_tl_c_17_18_46 n (l1 + 1) 0 (l4 + 1) w2
  else
    f_tl_c_17_18_46 n l1 (f_X9_withLetter l2 w1) (l4 + 1) g) = some out := H
    by_cases h1 : (f_J0_length_8abf5_z0 ) ≤ l4
    · rw [if_pos h1] at H
      obtain rfl := Option.some.inj H
      exact xfrm.rf
    · rw [if_neg h1] at H
      obtain ⟨w1, e1, H⟩ := xbind H
      by_cases h2 : w1 = 32
      · rw [if_pos h2] at H
        obtain ⟨w2, e2, H⟩ := xl_elim H
        have hf1 : xfrm fp_tl_c_17_18 g (w2) := xfrm_xlput xfrm.rf rfl e2
        exact xfrm.tr hf1 (ih _ _ _ _ _ H) rfl
      · rw [if_neg h2] at H
        exact xfrm.tr xfrm.rf (ih _ _ _ _ _ H) rfl
theorem t_tl_c_17_18 {k : xK} {S : List xSh} {g : xG} {out : xG} (hS : xpf CS43 S) (A : xAt k mX9_init.2.1 9 CS43 S) (hR : xRet k 4 1227 S (fun r g' => r = none ∧ g' = out) mX9_init.2.2.2) (hrm : xrm k = { frames := 4, cells := 4, slots := 1227, locals := 85 }) (hz : xhs k + 4 = xb0 k + S.length) (H : f_tl_c_17_18 g = some out) : xW k S 4 1227 39 [some (.ref 18), none, none, none, none, none] [] g := by
  have H : (f_tl_c_17_18_46 xN 0 0 0 g) = some out := H
  refine xb A [(.iconst 0, 1, 0, 0, .int 0), (.istore_n 1, 1, 0, 0, .null), (.lconst 0, 1, 0, 0, .long 0), (.lstore_n 2, 1, 0, 0, .null), (.iconst 0, 1, 0, 0, .int 0), (.istore 4, 2, 0, 0, .null)] (pc' := 46) (ls' := [some (.ref 18), some (.int 0), some (.long 0), none, some (.int 0), none]) (st' := []) (g' := g) (by decide +kernel) rfl ?_
  exact t_tl_c_17_18_46 hS A hR hrm hz _ _ _ _ _ H
theorem fr_tl_c_17_18 {g : xG} (out : xG) (H : f_tl_c_17_18 g = some out) : xfrm fp_tl_c_17_18 g out := by
  have H : (f_tl_c_17_18_46 xN 0 0 0 g) = some out := H
  exact xfrm.tr xfrm.rf (fr_tl_c_17_18_46 _ _ _ _ _ _ H) rfl
def f_n_c_17_18 (g : xG) : Option (xG) :=
  f_tl_c_17_18 (xrow (xrow g.1 19 (fun _ => 0)) 20 (fun _ => 0), xrowL (xrowL g.2 21 (fun _ => 0)) 22 (fun _ => 0))
set_option maxRecDepth 20000 in
theorem c_n_c_17_18 {g : xG} (out : xG) (H : f_n_c_17_18 g = some out) : xC mX9_init 4 85 4 1227 CS35 [.ref 18] g CS43 (fun r g' => r = none ∧ g' = out) := by
  have H : (f_tl_c_17_18 (xrow (xrow g.1 19 (fun _ => 0)) 20 (fun _ => 0), xrowL (xrowL g.2 21 (fun _ => 0)) 22 (fun _ => 0))) = some out := H
  refine xC.ofI 9 [some (.ref 18), none, none, none, none, none] (by decide +kernel) rfl (fun _ _ => Nat.le_of_ble_eq_true rfl) (fun _ _ => rfl) ?_
  intro k A hR hrm hz hi
  refine xb (xmv A CS35) [(.aload_n 0, 1, 0, 0, .null)] (pc' := 1) (ls' := [some (.ref 18), none, none, none, none, none]) (st' := [.ref 18]) (g' := g) (by decide +kernel) rfl ?_
  refine xobj (xmv A CS35) hrm (ix := 3) (nxt := 4) 239 (by decide +kernel) rfl ?_
  refine xb (xmv A CS35) [(.aload_n 0, 1, 0, 0, .null), (.sipush 402, 3, 0, 0, .int 402)] (pc' := 8) (ls' := [some (.ref 18), none, none, none, none, none]) (st' := [.int 402, .ref 18]) (g' := g) (by decide +kernel) rfl ?_
  refine xnwi (xmv A CS35) hrm (by have h := hz; rw [ln_CS35] at h; rw [ln_CS35]; omega) (S' := CS36) (nxt := 10) 402 (by decide) (by decide) rfl (by decide +kernel) ?_
  rw [ln_CS35]
  show xW k CS36 1 402 10 [some (.ref 18), none, none, none, none, none] [.ref 19, .ref 18] (xrow g.1 19 (fun _ => 0), g.2)
  refine xputF (xmv A CS36) hi (S' := CS37) (ix := 9) (nxt := 13) (w := 296) (b := 0) (ci := 9) (N := 6) (C := RX9) (T := TX9) [.null, .null, .null, .null, .int 0, .int 0] (.array .int) rfl (by decide +kernel) rfl (by decide +kernel) ?_
  refine xb (xmv A CS37) [(.aload_n 0, 1, 0, 0, .null), (.sipush 402, 3, 0, 0, .int 402)] (pc' := 17) (ls' := [some (.ref 18), none, none, none, none, none]) (st' := [.int 402, .ref 18]) (g' := (xrow g.1 19 (fun _ => 0), g.2)) (by decide +kernel) rfl ?_
  refine xnwi (xmv A CS37) hrm (by have h := hz; rw [ln_CS35] at h; rw [ln_CS37]; omega) (S' := CS38) (nxt := 19) 402 (by decide) (by decide) rfl (by decide +kernel) ?_
  rw [ln_CS37]
  show xW k CS38 2 804 19 [some (.ref 18), none, none, none, none, none] [.ref 20, .ref 18] (xrow (xrow g.1 19 (fun _ => 0)) 20 (fun _ => 0), g.2)
  refine xputF (xmv A CS38) hi (S' := CS39) (ix := 13) (nxt := 22) (w := 297) (b := 1) (ci := 9) (N := 6) (C := RX9) (T := TX9) [.ref 19, .null, .null, .null, .int 0, .int 0] (.array .int) rfl (by decide +kernel) rfl (by decide +kernel) ?_
  refine xb (xmv A CS39) [(.aload_n 0, 1, 0, 0, .null), (.sipush 402, 3, 0, 0, .int 402)] (pc' := 26) (ls' := [some (.ref 18), none, none, none, none, none]) (st' := [.int 402, .ref 18]) (g' := (xrow (xrow g.1 19 (fun _ => 0)) 20 (fun _ => 0), g.2)) (by decide +kernel) rfl ?_
  refine xnwl (xmv A CS39) hrm (by have h := hz; rw [ln_CS35] at h; rw [ln_CS39]; omega) (S' := CS40) (nxt := 28) 402 (by decide) (by decide) rfl (by decide +kernel) ?_
  rw [ln_CS39]
  show xW k CS40 3 1206 28 [some (.ref 18), none, none, none, none, none] [.ref 21, .ref 18] (xrow (xrow g.1 19 (fun _ => 0)) 20 (fun _ => 0), xrowL g.2 21 (fun _ => 0))
  refine xputF (xmv A CS40) hi (S' := CS41) (ix := 16) (nxt := 31) (w := 298) (b := 2) (ci := 9) (N := 6) (C := RX9) (T := TX9) [.ref 19, .ref 20, .null, .null, .int 0, .int 0] (.array .long) rfl (by decide +kernel) rfl (by decide +kernel) ?_
  refine xb (xmv A CS41) [(.aload_n 0, 1, 0, 0, .null), (.bipush 21, 2, 0, 0, .int 21)] (pc' := 34) (ls' := [some (.ref 18), none, none, none, none, none]) (st' := [.int 21, .ref 18]) (g' := (xrow (xrow g.1 19 (fun _ => 0)) 20 (fun _ => 0), xrowL g.2 21 (fun _ => 0))) (by decide +kernel) rfl ?_
  refine xnwl (xmv A CS41) hrm (by have h := hz; rw [ln_CS35] at h; rw [ln_CS41]; omega) (S' := CS42) (nxt := 36) 21 (by decide) (by decide) rfl (by decide +kernel) ?_
  rw [ln_CS41]
  show xW k CS42 4 1227 36 [some (.ref 18), none, none, none, none, none] [.ref 22, .ref 18] (xrow (xrow g.1 19 (fun _ => 0)) 20 (fun _ => 0), xrowL (xrowL g.2 21 (fun _ => 0)) 22 (fun _ => 0))
  refine xputF (xmv A CS42) hi (S' := CS43) (ix := 20) (nxt := 39) (w := 299) (b := 3) (ci := 9) (N := 6) (C := RX9) (T := TX9) [.ref 19, .ref 20, .ref 21, .null, .int 0, .int 0] (.array .long) rfl (by decide +kernel) rfl (by decide +kernel) ?_
  exact t_tl_c_17_18 (fun _ _ h => h) (xmvp A (fun _ _ h => h)) hR hrm (by have h := hz; rw [ln_CS35] at h; rw [ln_CS43]; omega) H
def CS44 : List xSh := CS43.set 17 (.inr (3, ([.null, .null, .null, .null, .int 0, .int 0, .int 0, .int 0, .int 0] : List Value).set 1 (.ref 18)))
theorem ln_CS44 : CS44.length = 23 := by decide +kernel
def CS45 : List xSh := CS44 ++ [.inr (4, [.null, .null, .null, .null, .null, .null, .null, .null, .null, .int 0, .int 0, .int 0, .int 0, .int 0])]
theorem ln_CS45 : CS45.length = 24 := by decide +kernel
def CS46 : List xSh := CS45 ++ [.inl (.long, 7)]
theorem ln_CS46 : CS46.length = 25 := by decide +kernel
def CS47 : List xSh := CS46.set 23 (.inr (4, ([.null, .null, .null, .null, .null, .null, .null, .null, .null, .int 0, .int 0, .int 0, .int 0, .int 0] : List Value).set 0 (.ref 24)))
theorem ln_CS47 : CS47.length = 25 := by decide +kernel
def CS48 : List xSh := CS47 ++ [.inl (.int, 10)]
theorem ln_CS48 : CS48.length = 26 := by decide +kernel
def CS49 : List xSh := CS48.set 23 (.inr (4, ([.ref 24, .null, .null, .null, .null, .null, .null, .null, .null, .int 0, .int 0, .int 0, .int 0, .int 0] : List Value).set 1 (.ref 25)))
theorem ln_CS49 : CS49.length = 26 := by decide +kernel
def CS50 : List xSh := CS49 ++ [.inl (.int, 10)]
theorem ln_CS50 : CS50.length = 27 := by decide +kernel
def CS51 : List xSh := CS50.set 23 (.inr (4, ([.ref 24, .ref 25, .null, .null, .null, .null, .null, .null, .null, .int 0, .int 0, .int 0, .int 0, .int 0] : List Value).set 2 (.ref 26)))
theorem ln_CS51 : CS51.length = 27 := by decide +kernel
def CS52 : List xSh := CS51 ++ [.inl (.int, 10)]
theorem ln_CS52 : CS52.length = 28 := by decide +kernel
def CS53 : List xSh := CS52.set 23 (.inr (4, ([.ref 24, .ref 25, .ref 26, .null, .null, .null, .null, .null, .null, .int 0, .int 0, .int 0, .int 0, .int 0] : List Value).set 3 (.ref 27)))
theorem ln_CS53 : CS53.length = 28 := by decide +kernel
def CS54 : List xSh := CS53 ++ [.inl (.long, 6)]
theorem ln_CS54 : CS54.length = 29 := by decide +kernel
def CS55 : List xSh := CS54.set 23 (.inr (4, ([.ref 24, .ref 25, .ref 26, .ref 27, .null, .null, .null, .null, .null, .int 0, .int 0, .int 0, .int 0, .int 0] : List Value).set 4 (.ref 28)))
theorem ln_CS55 : CS55.length = 29 := by decide +kernel
def CS56 : List xSh := CS55 ++ [.inl (.int, 6)]
theorem ln_CS56 : CS56.length = 30 := by decide +kernel
def CS57 : List xSh := CS56.set 23 (.inr (4, ([.ref 24, .ref 25, .ref 26, .ref 27, .ref 28, .null, .null, .null, .null, .int 0, .int 0, .int 0, .int 0, .int 0] : List Value).set 5 (.ref 29)))
theorem ln_CS57 : CS57.length = 30 := by decide +kernel
def CS58 : List xSh := CS57 ++ [.inl (.int, 6)]
theorem ln_CS58 : CS58.length = 31 := by decide +kernel
def CS59 : List xSh := CS58.set 23 (.inr (4, ([.ref 24, .ref 25, .ref 26, .ref 27, .ref 28, .ref 29, .null, .null, .null, .int 0, .int 0, .int 0, .int 0, .int 0] : List Value).set 6 (.ref 30)))
theorem ln_CS59 : CS59.length = 31 := by decide +kernel
def CS60 : List xSh := CS59 ++ [.inl (.int, 6)]
theorem ln_CS60 : CS60.length = 32 := by decide +kernel
def CS61 : List xSh := CS60.set 23 (.inr (4, ([.ref 24, .ref 25, .ref 26, .ref 27, .ref 28, .ref 29, .ref 30, .null, .null, .int 0, .int 0, .int 0, .int 0, .int 0] : List Value).set 7 (.ref 31)))
theorem ln_CS61 : CS61.length = 32 := by decide +kernel
def CS62 : List xSh := CS61 ++ [.inr (2, [.null, .null, .null, .null, .int 0])]
theorem ln_CS62 : CS62.length = 33 := by decide +kernel
def CS63 : List xSh := CS62 ++ [.inl (.int, 408)]
theorem ln_CS63 : CS63.length = 34 := by decide +kernel
def CS64 : List xSh := CS63.set 32 (.inr (2, ([.null, .null, .null, .null, .int 0] : List Value).set 0 (.ref 33)))
theorem ln_CS64 : CS64.length = 34 := by decide +kernel
def CS65 : List xSh := CS64 ++ [.inl (.int, 408)]
theorem ln_CS65 : CS65.length = 35 := by decide +kernel
def CS66 : List xSh := CS65.set 32 (.inr (2, ([.ref 33, .null, .null, .null, .int 0] : List Value).set 1 (.ref 34)))
theorem ln_CS66 : CS66.length = 35 := by decide +kernel
def CS67 : List xSh := CS66 ++ [.inl (.int, 4)]
theorem ln_CS67 : CS67.length = 36 := by decide +kernel
def CS68 : List xSh := CS67.set 32 (.inr (2, ([.ref 33, .ref 34, .null, .null, .int 0] : List Value).set 2 (.ref 35)))
theorem ln_CS68 : CS68.length = 36 := by decide +kernel
def CS69 : List xSh := CS68 ++ [.inl (.int, 24)]
theorem ln_CS69 : CS69.length = 37 := by decide +kernel
def CS70 : List xSh := CS69.set 32 (.inr (2, ([.ref 33, .ref 34, .ref 35, .null, .int 0] : List Value).set 3 (.ref 36)))
theorem ln_CS70 : CS70.length = 37 := by decide +kernel
def f_n_c_17_23_32 (g : xG) : xG :=
  (xrow (xrow (xrow (xrow g.1 33 (fun _ => 0)) 34 (fun _ => 0)) 35 (fun _ => 0)) 36 (fun _ => 0), g.2)
set_option maxRecDepth 20000 in
theorem c_n_c_17_23_32 {g : xG} (out : xG) (H : f_n_c_17_23_32 g = out) : xC mX2_init 1 20 4 844 CS62 [.ref 32] g CS70 (fun r g' => r = none ∧ g' = out) := by
  have H : ((xrow (xrow (xrow (xrow g.1 33 (fun _ => 0)) 34 (fun _ => 0)) 35 (fun _ => 0)) 36 (fun _ => 0), g.2)) = out := H
  refine xC.ofI 2 [some (.ref 32)] (by decide +kernel) rfl (fun _ _ => Nat.le_of_ble_eq_true rfl) (fun _ _ => rfl) ?_
  intro k A hR hrm hz hi
  refine xb (xmv A CS62) [(.aload_n 0, 1, 0, 0, .null)] (pc' := 1) (ls' := [some (.ref 32)]) (st' := [.ref 32]) (g' := g) (by decide +kernel) rfl ?_
  refine xobj (xmv A CS62) hrm (ix := 7) (nxt := 4) 166 (by decide +kernel) rfl ?_
  refine xb (xmv A CS62) [(.aload_n 0, 1, 0, 0, .null), (.sipush 408, 3, 0, 0, .int 408)] (pc' := 8) (ls' := [some (.ref 32)]) (st' := [.int 408, .ref 32]) (g' := g) (by decide +kernel) rfl ?_
  refine xnwi (xmv A CS62) hrm (by have h := hz; rw [ln_CS62] at h; rw [ln_CS62]; omega) (S' := CS63) (nxt := 10) 408 (by decide) (by decide) rfl (by decide +kernel) ?_
  rw [ln_CS62]
  show xW k CS63 1 408 10 [some (.ref 32)] [.ref 33, .ref 32] (xrow g.1 33 (fun _ => 0), g.2)
  refine xputF (xmv A CS63) hi (S' := CS64) (ix := 13) (nxt := 13) (w := 167) (b := 0) (ci := 2) (N := 5) (C := RX2) (T := TX2) [.null, .null, .null, .null, .int 0] (.array .int) rfl (by decide +kernel) rfl (by decide +kernel) ?_
  refine xb (xmv A CS64) [(.aload_n 0, 1, 0, 0, .null), (.sipush 408, 3, 0, 0, .int 408)] (pc' := 17) (ls' := [some (.ref 32)]) (st' := [.int 408, .ref 32]) (g' := (xrow g.1 33 (fun _ => 0), g.2)) (by decide +kernel) rfl ?_
  refine xnwi (xmv A CS64) hrm (by have h := hz; rw [ln_CS62] at h; rw [ln_CS64]; omega) (S' := CS65) (nxt := 19) 408 (by decide) (by decide) rfl (by decide +kernel) ?_
  rw [ln_CS64]
  show xW k CS65 2 816 19 [some (.ref 32)] [.ref 34, .ref 32] (xrow (xrow g.1 33 (fun _ => 0)) 34 (fun _ => 0), g.2)
  refine xputF (xmv A CS65) hi (S' := CS66) (ix := 17) (nxt := 22) (w := 168) (b := 1) (ci := 2) (N := 5) (C := RX2) (T := TX2) [.ref 33, .null, .null, .null, .int 0] (.array .int) rfl (by decide +kernel) rfl (by decide +kernel) ?_
  refine xb (xmv A CS66) [(.aload_n 0, 1, 0, 0, .null), (.iconst 4, 1, 0, 0, .int 4)] (pc' := 24) (ls' := [some (.ref 32)]) (st' := [.int 4, .ref 32]) (g' := (xrow (xrow g.1 33 (fun _ => 0)) 34 (fun _ => 0), g.2)) (by decide +kernel) rfl ?_
  refine xnwi (xmv A CS66) hrm (by have h := hz; rw [ln_CS62] at h; rw [ln_CS66]; omega) (S' := CS67) (nxt := 26) 4 (by decide) (by decide) rfl (by decide +kernel) ?_
  rw [ln_CS66]
  show xW k CS67 3 820 26 [some (.ref 32)] [.ref 35, .ref 32] (xrow (xrow (xrow g.1 33 (fun _ => 0)) 34 (fun _ => 0)) 35 (fun _ => 0), g.2)
  refine xputF (xmv A CS67) hi (S' := CS68) (ix := 20) (nxt := 29) (w := 169) (b := 2) (ci := 2) (N := 5) (C := RX2) (T := TX2) [.ref 33, .ref 34, .null, .null, .int 0] (.array .int) rfl (by decide +kernel) rfl (by decide +kernel) ?_
  refine xb (xmv A CS68) [(.aload_n 0, 1, 0, 0, .null), (.bipush 24, 2, 0, 0, .int 24)] (pc' := 32) (ls' := [some (.ref 32)]) (st' := [.int 24, .ref 32]) (g' := (xrow (xrow (xrow g.1 33 (fun _ => 0)) 34 (fun _ => 0)) 35 (fun _ => 0), g.2)) (by decide +kernel) rfl ?_
  refine xnwi (xmv A CS68) hrm (by have h := hz; rw [ln_CS62] at h; rw [ln_CS68]; omega) (S' := CS69) (nxt := 34) 24 (by decide) (by decide) rfl (by decide +kernel) ?_
  rw [ln_CS68]
  show xW k CS69 4 844 34 [some (.ref 32)] [.ref 36, .ref 32] (xrow (xrow (xrow (xrow g.1 33 (fun _ => 0)) 34 (fun _ => 0)) 35 (fun _ => 0)) 36 (fun _ => 0), g.2)
  refine xputF (xmv A CS69) hi (S' := CS70) (ix := 23) (nxt := 37) (w := 170) (b := 3) (ci := 2) (N := 5) (C := RX2) (T := TX2) [.ref 33, .ref 34, .ref 35, .null, .int 0] (.array .int) rfl (by decide +kernel) rfl (by decide +kernel) ?_
  subst H
  exact xret_v (xmv A CS70) hR (by have h := hz; rw [ln_CS62] at h; rw [ln_CS70]; omega) (by decide +kernel) ⟨rfl, rfl⟩
def CS71 : List xSh := CS70.set 23 (.inr (4, ([.ref 24, .ref 25, .ref 26, .ref 27, .ref 28, .ref 29, .ref 30, .ref 31, .null, .int 0, .int 0, .int 0, .int 0, .int 0] : List Value).set 8 (.ref 32)))
theorem ln_CS71 : CS71.length = 37 := by decide +kernel
def f_n_c_17_23 (g : xG) : xG :=
  xl (f_n_c_17_23_32 (xrow (xrow (xrow (xrow (xrow (xrow (xrow g.1 25 (fun _ => 0)) 26 (fun _ => 0)) 27 (fun _ => 0)) 29 (fun _ => 0)) 30 (fun _ => 0)) 31 (fun _ => 0)) 32 (fun _ => 0), xrowL (xrowL g.2 24 (fun _ => 0)) 28 (fun _ => 0))) fun w1 =>
  w1
set_option maxRecDepth 20000 in
theorem c_n_c_17_23 {g : xG} (out : xG) (H : f_n_c_17_23 g = out) : xC mX4_init 2 40 13 910 CS45 [.ref 23] g CS71 (fun r g' => r = none ∧ g' = out) := by
  have H : (xl (f_n_c_17_23_32 (xrow (xrow (xrow (xrow (xrow (xrow (xrow g.1 25 (fun _ => 0)) 26 (fun _ => 0)) 27 (fun _ => 0)) 29 (fun _ => 0)) 30 (fun _ => 0)) 31 (fun _ => 0)) 32 (fun _ => 0), xrowL (xrowL g.2 24 (fun _ => 0)) 28 (fun _ => 0))) fun w1 =>
w1) = out := H
  refine xC.ofI 4 [some (.ref 23)] (by decide +kernel) rfl (fun _ _ => Nat.le_of_ble_eq_true rfl) (fun _ _ => rfl) ?_
  intro k A hR hrm hz hi
  refine xb (xmv A CS45) [(.aload_n 0, 1, 0, 0, .null)] (pc' := 1) (ls' := [some (.ref 23)]) (st' := [.ref 23]) (g' := g) (by decide +kernel) rfl ?_
  refine xobj (xmv A CS45) hrm (ix := 3) (nxt := 4) 160 (by decide +kernel) rfl ?_
  refine xb (xmv A CS45) [(.aload_n 0, 1, 0, 0, .null), (.bipush 7, 2, 0, 0, .int 7)] (pc' := 7) (ls' := [some (.ref 23)]) (st' := [.int 7, .ref 23]) (g' := g) (by decide +kernel) rfl ?_
  refine xnwl (xmv A CS45) hrm (by have h := hz; rw [ln_CS45] at h; rw [ln_CS45]; omega) (S' := CS46) (nxt := 9) 7 (by decide) (by decide) rfl (by decide +kernel) ?_
  rw [ln_CS45]
  show xW k CS46 1 7 9 [some (.ref 23)] [.ref 24, .ref 23] (g.1, xrowL g.2 24 (fun _ => 0))
  refine xputF (xmv A CS46) hi (S' := CS47) (ix := 9) (nxt := 12) (w := 185) (b := 0) (ci := 4) (N := 14) (C := RX4) (T := TX4) [.null, .null, .null, .null, .null, .null, .null, .null, .null, .int 0, .int 0, .int 0, .int 0, .int 0] (.array .long) rfl (by decide +kernel) rfl (by decide +kernel) ?_
  refine xb (xmv A CS47) [(.aload_n 0, 1, 0, 0, .null), (.bipush 10, 2, 0, 0, .int 10)] (pc' := 15) (ls' := [some (.ref 23)]) (st' := [.int 10, .ref 23]) (g' := (g.1, xrowL g.2 24 (fun _ => 0))) (by decide +kernel) rfl ?_
  refine xnwi (xmv A CS47) hrm (by have h := hz; rw [ln_CS45] at h; rw [ln_CS47]; omega) (S' := CS48) (nxt := 17) 10 (by decide) (by decide) rfl (by decide +kernel) ?_
  rw [ln_CS47]
  show xW k CS48 2 17 17 [some (.ref 23)] [.ref 25, .ref 23] (xrow g.1 25 (fun _ => 0), xrowL g.2 24 (fun _ => 0))
  refine xputF (xmv A CS48) hi (S' := CS49) (ix := 15) (nxt := 20) (w := 186) (b := 1) (ci := 4) (N := 14) (C := RX4) (T := TX4) [.ref 24, .null, .null, .null, .null, .null, .null, .null, .null, .int 0, .int 0, .int 0, .int 0, .int 0] (.array .int) rfl (by decide +kernel) rfl (by decide +kernel) ?_
  refine xb (xmv A CS49) [(.aload_n 0, 1, 0, 0, .null), (.bipush 10, 2, 0, 0, .int 10)] (pc' := 23) (ls' := [some (.ref 23)]) (st' := [.int 10, .ref 23]) (g' := (xrow g.1 25 (fun _ => 0), xrowL g.2 24 (fun _ => 0))) (by decide +kernel) rfl ?_
  refine xnwi (xmv A CS49) hrm (by have h := hz; rw [ln_CS45] at h; rw [ln_CS49]; omega) (S' := CS50) (nxt := 25) 10 (by decide) (by decide) rfl (by decide +kernel) ?_
  rw [ln_CS49]
  show xW k CS50 3 27 25 [some (.ref 23)] [.ref 26, .ref 23] (xrow (xrow g.1 25 (fun _ => 0)) 26 (fun _ => 0), xrowL g.2 24 (fun _ => 0))
  refine xputF (xmv A CS50) hi (S' := CS51) (ix := 19) (nxt := 28) (w := 187) (b := 2) (ci := 4) (N := 14) (C := RX4) (T := TX4) [.ref 24, .ref 25, .null, .null, .null, .null, .null, .null, .null, .int 0, .int 0, .int 0, .int 0, .int 0] (.array .int) rfl (by decide +kernel) rfl (by decide +kernel) ?_
  refine xb (xmv A CS51) [(.aload_n 0, 1, 0, 0, .null), (.bipush 10, 2, 0, 0, .int 10)] (pc' := 31) (ls' := [some (.ref 23)]) (st' := [.int 10, .ref 23]) (g' := (xrow (xrow g.1 25 (fun _ => 0)) 26 (fun _ => 0), xrowL g.2 24 (fun _ => 0))) (by decide +kernel) rfl ?_
  refine xnwi (xmv A CS51) hrm (by have h := hz; rw [ln_CS45] at h; rw [ln_CS51]; omega) (S' := CS52) (nxt := 33) 10 (by decide) (by decide) rfl (by decide +kernel) ?_
  rw [ln_CS51]
  show xW k CS52 4 37 33 [some (.ref 23)] [.ref 27, .ref 23] (xrow (xrow (xrow g.1 25 (fun _ => 0)) 26 (fun _ => 0)) 27 (fun _ => 0), xrowL g.2 24 (fun _ => 0))
  refine xputF (xmv A CS52) hi (S' := CS53) (ix := 22) (nxt := 36) (w := 188) (b := 3) (ci := 4) (N := 14) (C := RX4) (T := TX4) [.ref 24, .ref 25, .ref 26, .null, .null, .null, .null, .null, .null, .int 0, .int 0, .int 0, .int 0, .int 0] (.array .int) rfl (by decide +kernel) rfl (by decide +kernel) ?_
  refine xb (xmv A CS53) [(.aload_n 0, 1, 0, 0, .null), (.bipush 6, 2, 0, 0, .int 6)] (pc' := 39) (ls' := [some (.ref 23)]) (st' := [.int 6, .ref 23]) (g' := (xrow (xrow (xrow g.1 25 (fun _ => 0)) 26 (fun _ => 0)) 27 (fun _ => 0), xrowL g.2 24 (fun _ => 0))) (by decide +kernel) rfl ?_
  refine xnwl (xmv A CS53) hrm (by have h := hz; rw [ln_CS45] at h; rw [ln_CS53]; omega) (S' := CS54) (nxt := 41) 6 (by decide) (by decide) rfl (by decide +kernel) ?_
  rw [ln_CS53]
  show xW k CS54 5 43 41 [some (.ref 23)] [.ref 28, .ref 23] (xrow (xrow (xrow g.1 25 (fun _ => 0)) 26 (fun _ => 0)) 27 (fun _ => 0), xrowL (xrowL g.2 24 (fun _ => 0)) 28 (fun _ => 0))
  refine xputF (xmv A CS54) hi (S' := CS55) (ix := 25) (nxt := 44) (w := 189) (b := 4) (ci := 4) (N := 14) (C := RX4) (T := TX4) [.ref 24, .ref 25, .ref 26, .ref 27, .null, .null, .null, .null, .null, .int 0, .int 0, .int 0, .int 0, .int 0] (.array .long) rfl (by decide +kernel) rfl (by decide +kernel) ?_
  refine xb (xmv A CS55) [(.aload_n 0, 1, 0, 0, .null), (.bipush 6, 2, 0, 0, .int 6)] (pc' := 47) (ls' := [some (.ref 23)]) (st' := [.int 6, .ref 23]) (g' := (xrow (xrow (xrow g.1 25 (fun _ => 0)) 26 (fun _ => 0)) 27 (fun _ => 0), xrowL (xrowL g.2 24 (fun _ => 0)) 28 (fun _ => 0))) (by decide +kernel) rfl ?_
  refine xnwi (xmv A CS55) hrm (by have h := hz; rw [ln_CS45] at h; rw [ln_CS55]; omega) (S' := CS56) (nxt := 49) 6 (by decide) (by decide) rfl (by decide +kernel) ?_
  rw [ln_CS55]
  show xW k CS56 6 49 49 [some (.ref 23)] [.ref 29, .ref 23] (xrow (xrow (xrow (xrow g.1 25 (fun _ => 0)) 26 (fun _ => 0)) 27 (fun _ => 0)) 29 (fun _ => 0), xrowL (xrowL g.2 24 (fun _ => 0)) 28 (fun _ => 0))
  refine xputF (xmv A CS56) hi (S' := CS57) (ix := 28) (nxt := 52) (w := 190) (b := 5) (ci := 4) (N := 14) (C := RX4) (T := TX4) [.ref 24, .ref 25, .ref 26, .ref 27, .ref 28, .null, .null, .null, .null, .int 0, .int 0, .int 0, .int 0, .int 0] (.array .int) rfl (by decide +kernel) rfl (by decide +kernel) ?_
  refine xb (xmv A CS57) [(.aload_n 0, 1, 0, 0, .null), (.bipush 6, 2, 0, 0, .int 6)] (pc' := 55) (ls' := [some (.ref 23)]) (st' := [.int 6, .ref 23]) (g' := (xrow (xrow (xrow (xrow g.1 25 (fun _ => 0)) 26 (fun _ => 0)) 27 (fun _ => 0)) 29 (fun _ => 0), xrowL (xrowL g.2 24 (fun _ => 0)) 28 (fun _ => 0))) (by decide +kernel) rfl ?_
  refine xnwi (xmv A CS57) hrm (by have h := hz; rw [ln_CS45] at h; rw [ln_CS57]; omega) (S' := CS58) (nxt := 57) 6 (by decide) (by decide) rfl (by decide +kernel) ?_
  rw [ln_CS57]
  show xW k CS58 7 55 57 [some (.ref 23)] [.ref 30, .ref 23] (xrow (xrow (xrow (xrow (xrow g.1 25 (fun _ => 0)) 26 (fun _ => 0)) 27 (fun _ => 0)) 29 (fun _ => 0)) 30 (fun _ => 0), xrowL (xrowL g.2 24 (fun _ => 0)) 28 (fun _ => 0))
  refine xputF (xmv A CS58) hi (S' := CS59) (ix := 31) (nxt := 60) (w := 191) (b := 6) (ci := 4) (N := 14) (C := RX4) (T := TX4) [.ref 24, .ref 25, .ref 26, .ref 27, .ref 28, .ref 29, .null, .null, .null, .int 0, .int 0, .int 0, .int 0, .int 0] (.array .int) rfl (by decide +kernel) rfl (by decide +kernel) ?_
  refine xb (xmv A CS59) [(.aload_n 0, 1, 0, 0, .null), (.bipush 6, 2, 0, 0, .int 6)] (pc' := 63) (ls' := [some (.ref 23)]) (st' := [.int 6, .ref 23]) (g' := (xrow (xrow (xrow (xrow (xrow g.1 25 (fun _ => 0)) 26 (fun _ => 0)) 27 (fun _ => 0)) 29 (fun _ => 0)) 30 (fun _ => 0), xrowL (xrowL g.2 24 (fun _ => 0)) 28 (fun _ => 0))) (by decide +kernel) rfl ?_
  refine xnwi (xmv A CS59) hrm (by have h := hz; rw [ln_CS45] at h; rw [ln_CS59]; omega) (S' := CS60) (nxt := 65) 6 (by decide) (by decide) rfl (by decide +kernel) ?_
  rw [ln_CS59]
  show xW k CS60 8 61 65 [some (.ref 23)] [.ref 31, .ref 23] (xrow (xrow (xrow (xrow (xrow (xrow g.1 25 (fun _ => 0)) 26 (fun _ => 0)) 27 (fun _ => 0)) 29 (fun _ => 0)) 30 (fun _ => 0)) 31 (fun _ => 0), xrowL (xrowL g.2 24 (fun _ => 0)) 28 (fun _ => 0))
  refine xputF (xmv A CS60) hi (S' := CS61) (ix := 34) (nxt := 68) (w := 192) (b := 7) (ci := 4) (N := 14) (C := RX4) (T := TX4) [.ref 24, .ref 25, .ref 26, .ref 27, .ref 28, .ref 29, .ref 30, .null, .null, .int 0, .int 0, .int 0, .int 0, .int 0] (.array .int) rfl (by decide +kernel) rfl (by decide +kernel) ?_
  refine xb (xmv A CS61) [(.aload_n 0, 1, 0, 0, .null)] (pc' := 69) (ls' := [some (.ref 23)]) (st' := [.ref 23]) (g' := (xrow (xrow (xrow (xrow (xrow (xrow g.1 25 (fun _ => 0)) 26 (fun _ => 0)) 27 (fun _ => 0)) 29 (fun _ => 0)) 30 (fun _ => 0)) 31 (fun _ => 0), xrowL (xrowL g.2 24 (fun _ => 0)) 28 (fun _ => 0))) (by decide +kernel) rfl ?_
  refine xnew (xmv A CS61) hrm (by have h := hz; rw [ln_CS45] at h; rw [ln_CS61]; omega) (S' := CS62) (ix := 37) (nxt := 72) (ci := 2) 161 162 116 [.null, .null, .null, .null, .int 0] tyX2 tyX2_ok rfl rfl (by decide +kernel) ?_
  rw [ln_CS61]
  show xW k CS62 9 66 72 [some (.ref 23)] [.ref 32, .ref 23] (xrow (xrow (xrow (xrow (xrow (xrow (xrow g.1 25 (fun _ => 0)) 26 (fun _ => 0)) 27 (fun _ => 0)) 29 (fun _ => 0)) 30 (fun _ => 0)) 31 (fun _ => 0)) 32 (fun _ => 0), xrowL (xrowL g.2 24 (fun _ => 0)) 28 (fun _ => 0))
  refine xb (xmv A CS62) [(.dup, 1, 0, 0, .null)] (pc' := 73) (ls' := [some (.ref 23)]) (st' := [.ref 32, .ref 32, .ref 23]) (g' := (xrow (xrow (xrow (xrow (xrow (xrow (xrow g.1 25 (fun _ => 0)) 26 (fun _ => 0)) 27 (fun _ => 0)) 29 (fun _ => 0)) 30 (fun _ => 0)) 31 (fun _ => 0)) 32 (fun _ => 0), xrowL (xrowL g.2 24 (fun _ => 0)) 28 (fun _ => 0))) (by decide +kernel) rfl ?_
  obtain ⟨w1, e1, H⟩ := xl_elim H
  refine xcallIN (xmv A CS62) (ix := 39) (nxt := 76) (host := "NoonRinger") hrm (by have h := hz; rw [ln_CS45] at h; rw [ln_CS62]; omega) [] [.ref 32, .ref 23] 2 (c_n_c_17_23_32 _ e1) ok_X2_init (by decide +kernel) rfl (fun r g1 hq => ?_)
  rw [hq.1, hq.2]
  show xW k CS70 13 910 76 [some (.ref 23)] [.ref 32, .ref 23] w1
  refine xputF (xmv A CS70) hi (S' := CS71) (ix := 40) (nxt := 79) (w := 193) (b := 8) (ci := 4) (N := 14) (C := RX4) (T := TX4) [.ref 24, .ref 25, .ref 26, .ref 27, .ref 28, .ref 29, .ref 30, .ref 31, .null, .int 0, .int 0, .int 0, .int 0, .int 0] (.object "NoonRinger$Laws") rfl (by decide +kernel) rfl (by decide +kernel) ?_
  subst H
  exact xret_v (xmv A CS71) hR (by have h := hz; rw [ln_CS45] at h; rw [ln_CS71]; omega) (by decide +kernel) ⟨rfl, rfl⟩
def CS72 : List xSh := CS71.set 17 (.inr (3, ([.null, .ref 18, .null, .null, .int 0, .int 0, .int 0, .int 0, .int 0] : List Value).set 2 (.ref 23)))
theorem ln_CS72 : CS72.length = 37 := by decide +kernel
def CS73 : List xSh := CS72 ++ [.inl (.int, 21)]
theorem ln_CS73 : CS73.length = 38 := by decide +kernel
def CS74 : List xSh := CS73.set 17 (.inr (3, ([.null, .ref 18, .ref 23, .null, .int 0, .int 0, .int 0, .int 0, .int 0] : List Value).set 3 (.ref 37)))
theorem ln_CS74 : CS74.length = 38 := by decide +kernel
def CS75 : List xSh := CS74.set 17 (.inr (3, ([.null, .ref 18, .ref 23, .ref 37, .int 0, .int 0, .int 0, .int 0, .int 0] : List Value).set 0 (.ref 1)))
theorem ln_CS75 : CS75.length = 38 := by decide +kernel
def f_n_c_17 (g : xG) : Option (xG) :=
  (f_n_c_17_18 (xrow g.1 18 (fun _ => 0), g.2)).bind fun w1 =>
  xl (f_n_c_17_23 (xrow w1.1 23 (fun _ => 0), w1.2)) fun w2 =>
  some (xrow w2.1 37 (fun _ => 0), w2.2)
set_option maxRecDepth 20000 in
theorem c_n_c_17 {g : xG} (out : xG) (H : f_n_c_17 g = some out) : xC mX3_init 5 110 20 2178 CS34 [.ref 17, .ref 1] g CS75 (fun r g' => r = none ∧ g' = out) := by
  have H : ((f_n_c_17_18 (xrow g.1 18 (fun _ => 0), g.2)).bind fun w1 =>
xl (f_n_c_17_23 (xrow w1.1 23 (fun _ => 0), w1.2)) fun w2 =>
some (xrow w2.1 37 (fun _ => 0), w2.2)) = some out := H
  refine xC.ofI 3 [some (.ref 17), some (.ref 1)] (by decide +kernel) rfl (fun _ _ => Nat.le_of_ble_eq_true rfl) (fun _ _ => rfl) ?_
  intro k A hR hrm hz hi
  refine xb (xmv A CS34) [(.aload_n 0, 1, 0, 0, .null)] (pc' := 1) (ls' := [some (.ref 17), some (.ref 1)]) (st' := [.ref 17]) (g' := g) (by decide +kernel) rfl ?_
  refine xobj (xmv A CS34) hrm (ix := 5) (nxt := 4) 233 (by decide +kernel) rfl ?_
  refine xb (xmv A CS34) [(.aload_n 0, 1, 0, 0, .null)] (pc' := 5) (ls' := [some (.ref 17), some (.ref 1)]) (st' := [.ref 17]) (g' := g) (by decide +kernel) rfl ?_
  refine xnew (xmv A CS34) hrm (by have h := hz; rw [ln_CS34] at h; rw [ln_CS34]; omega) (S' := CS35) (ix := 11) (nxt := 8) (ci := 9) 234 235 118 [.null, .null, .null, .null, .int 0, .int 0] tyX9 tyX9_ok rfl rfl (by decide +kernel) ?_
  rw [ln_CS34]
  show xW k CS35 1 6 8 [some (.ref 17), some (.ref 1)] [.ref 18, .ref 17] (xrow g.1 18 (fun _ => 0), g.2)
  refine xb (xmv A CS35) [(.dup, 1, 0, 0, .null)] (pc' := 9) (ls' := [some (.ref 17), some (.ref 1)]) (st' := [.ref 18, .ref 18, .ref 17]) (g' := (xrow g.1 18 (fun _ => 0), g.2)) (by decide +kernel) rfl ?_
  obtain ⟨w1, e1, H⟩ := xbind H
  refine xcallI (xmv A CS35) (ix := 13) (nxt := 12) hrm (by have h := hz; rw [ln_CS34] at h; rw [ln_CS35]; omega) [] [.ref 18, .ref 17] 236 (c_n_c_17_18 _ e1) ok_X9_init (by decide +kernel) rfl (fun r g1 hq => ?_)
  rw [hq.1, hq.2]
  show xW k CS43 5 1233 12 [some (.ref 17), some (.ref 1)] [.ref 18, .ref 17] w1
  refine xputF (xmv A CS43) hi (S' := CS44) (ix := 14) (nxt := 15) (w := 318) (b := 1) (ci := 3) (N := 9) (C := RX3) (T := TX3) [.null, .null, .null, .null, .int 0, .int 0, .int 0, .int 0, .int 0] (.object "NoonRinger$Tokens") rfl (by decide +kernel) rfl (by decide +kernel) ?_
  refine xb (xmv A CS44) [(.aload_n 0, 1, 0, 0, .null)] (pc' := 16) (ls' := [some (.ref 17), some (.ref 1)]) (st' := [.ref 17]) (g' := w1) (by decide +kernel) rfl ?_
  refine xnew (xmv A CS44) hrm (by have h := hz; rw [ln_CS34] at h; rw [ln_CS44]; omega) (S' := CS45) (ix := 18) (nxt := 19) (ci := 4) 315 156 115 [.null, .null, .null, .null, .null, .null, .null, .null, .null, .int 0, .int 0, .int 0, .int 0, .int 0] tyX4 tyX4_ok rfl rfl (by decide +kernel) ?_
  rw [ln_CS44]
  show xW k CS45 6 1247 19 [some (.ref 17), some (.ref 1)] [.ref 23, .ref 17] (xrow w1.1 23 (fun _ => 0), w1.2)
  refine xb (xmv A CS45) [(.dup, 1, 0, 0, .null)] (pc' := 20) (ls' := [some (.ref 17), some (.ref 1)]) (st' := [.ref 23, .ref 23, .ref 17]) (g' := (xrow w1.1 23 (fun _ => 0), w1.2)) (by decide +kernel) rfl ?_
  obtain ⟨w2, e2, H⟩ := xl_elim H
  refine xcallIN (xmv A CS45) (ix := 20) (nxt := 23) (host := "NoonRinger") hrm (by have h := hz; rw [ln_CS34] at h; rw [ln_CS45]; omega) [] [.ref 23, .ref 17] 4 (c_n_c_17_23 _ e2) ok_X4_init (by decide +kernel) rfl (fun r g1 hq => ?_)
  rw [hq.1, hq.2]
  show xW k CS71 19 2157 23 [some (.ref 17), some (.ref 1)] [.ref 23, .ref 17] w2
  refine xputF (xmv A CS71) hi (S' := CS72) (ix := 21) (nxt := 26) (w := 319) (b := 2) (ci := 3) (N := 9) (C := RX3) (T := TX3) [.null, .ref 18, .null, .null, .int 0, .int 0, .int 0, .int 0, .int 0] (.object "NoonRinger$Realm") rfl (by decide +kernel) rfl (by decide +kernel) ?_
  refine xb (xmv A CS72) [(.aload_n 0, 1, 0, 0, .null), (.bipush 21, 2, 0, 0, .int 21)] (pc' := 29) (ls' := [some (.ref 17), some (.ref 1)]) (st' := [.int 21, .ref 17]) (g' := w2) (by decide +kernel) rfl ?_
  refine xnwi (xmv A CS72) hrm (by have h := hz; rw [ln_CS34] at h; rw [ln_CS72]; omega) (S' := CS73) (nxt := 31) 21 (by decide) (by decide) rfl (by decide +kernel) ?_
  rw [ln_CS72]
  show xW k CS73 20 2178 31 [some (.ref 17), some (.ref 1)] [.ref 37, .ref 17] (xrow w2.1 37 (fun _ => 0), w2.2)
  refine xputF (xmv A CS73) hi (S' := CS74) (ix := 25) (nxt := 34) (w := 320) (b := 3) (ci := 3) (N := 9) (C := RX3) (T := TX3) [.null, .ref 18, .ref 23, .null, .int 0, .int 0, .int 0, .int 0, .int 0] (.array .int) rfl (by decide +kernel) rfl (by decide +kernel) ?_
  refine xb (xmv A CS74) [(.aload_n 0, 1, 0, 0, .null), (.aload_n 1, 1, 0, 0, .null)] (pc' := 36) (ls' := [some (.ref 17), some (.ref 1)]) (st' := [.ref 1, .ref 17]) (g' := (xrow w2.1 37 (fun _ => 0), w2.2)) (by decide +kernel) rfl ?_
  refine xputF (xmv A CS74) hi (S' := CS75) (ix := 29) (nxt := 39) (w := 317) (b := 0) (ci := 3) (N := 9) (C := RX3) (T := TX3) [.null, .ref 18, .ref 23, .ref 37, .int 0, .int 0, .int 0, .int 0, .int 0] (.object "NoonRinger$Tape") rfl (by decide +kernel) rfl (by decide +kernel) ?_
  obtain rfl := Option.some.inj H
  exact xret_v (xmv A CS75) hR (by have h := hz; rw [ln_CS34] at h; rw [ln_CS75]; omega) (by decide +kernel) ⟨rfl, rfl⟩
def CS76 : List xSh := CS75.set 0 (.inr (11, ([.ref 1, .ref 3, .null, .null, .null, .null, .null, .null, .null, .null, .null, .null, .null, .int 0, .int 0, .int 0, .int 0] : List Value).set 2 (.ref 17)))
theorem ln_CS76 : CS76.length = 38 := by decide +kernel
def CS77 : List xSh := CS76 ++ [.inr (10, [.null, .null, .int 0])]
theorem ln_CS77 : CS77.length = 39 := by decide +kernel
def CS78 : List xSh := CS77 ++ [.inl (.int, 49)]
theorem ln_CS78 : CS78.length = 40 := by decide +kernel
def CS79 : List xSh := CS78.set 38 (.inr (10, ([.null, .null, .int 0] : List Value).set 1 (.ref 39)))
theorem ln_CS79 : CS79.length = 40 := by decide +kernel
def CS80 : List xSh := CS79.set 38 (.inr (10, ([.null, .ref 39, .int 0] : List Value).set 0 (.ref 3)))
theorem ln_CS80 : CS80.length = 40 := by decide +kernel
def f_n_c_38 (g : xG) : xG :=
  (xrow g.1 39 (fun _ => 0), g.2)
set_option maxRecDepth 20000 in
theorem c_n_c_38 {g : xG} (out : xG) (H : f_n_c_38 g = out) : xC mX10_init 1 20 1 49 CS77 [.ref 38, .ref 3] g CS80 (fun r g' => r = none ∧ g' = out) := by
  have H : ((xrow g.1 39 (fun _ => 0), g.2)) = out := H
  refine xC.ofI 10 [some (.ref 38), some (.ref 3)] (by decide +kernel) rfl (fun _ _ => Nat.le_of_ble_eq_true rfl) (fun _ _ => rfl) ?_
  intro k A hR hrm hz hi
  refine xb (xmv A CS77) [(.aload_n 0, 1, 0, 0, .null)] (pc' := 1) (ls' := [some (.ref 38), some (.ref 3)]) (st' := [.ref 38]) (g' := g) (by decide +kernel) rfl ?_
  refine xobj (xmv A CS77) hrm (ix := 3) (nxt := 4) 350 (by decide +kernel) rfl ?_
  refine xb (xmv A CS77) [(.aload_n 0, 1, 0, 0, .null), (.bipush 49, 2, 0, 0, .int 49)] (pc' := 7) (ls' := [some (.ref 38), some (.ref 3)]) (st' := [.int 49, .ref 38]) (g' := g) (by decide +kernel) rfl ?_
  refine xnwi (xmv A CS77) hrm (by have h := hz; rw [ln_CS77] at h; rw [ln_CS77]; omega) (S' := CS78) (nxt := 9) 49 (by decide) (by decide) rfl (by decide +kernel) ?_
  rw [ln_CS77]
  show xW k CS78 1 49 9 [some (.ref 38), some (.ref 3)] [.ref 39, .ref 38] (xrow g.1 39 (fun _ => 0), g.2)
  refine xputF (xmv A CS78) hi (S' := CS79) (ix := 9) (nxt := 12) (w := 352) (b := 1) (ci := 10) (N := 3) (C := RX10) (T := TX10) [.null, .null, .int 0] (.array .int) rfl (by decide +kernel) rfl (by decide +kernel) ?_
  refine xb (xmv A CS79) [(.aload_n 0, 1, 0, 0, .null), (.aload_n 1, 1, 0, 0, .null)] (pc' := 14) (ls' := [some (.ref 38), some (.ref 3)]) (st' := [.ref 3, .ref 38]) (g' := (xrow g.1 39 (fun _ => 0), g.2)) (by decide +kernel) rfl ?_
  refine xputF (xmv A CS79) hi (S' := CS80) (ix := 15) (nxt := 17) (w := 351) (b := 0) (ci := 10) (N := 3) (C := RX10) (T := TX10) [.null, .ref 39, .int 0] (.object "NoonRinger$Realm") rfl (by decide +kernel) rfl (by decide +kernel) ?_
  subst H
  exact xret_v (xmv A CS80) hR (by have h := hz; rw [ln_CS77] at h; rw [ln_CS80]; omega) (by decide +kernel) ⟨rfl, rfl⟩
def CS81 : List xSh := CS80.set 0 (.inr (11, ([.ref 1, .ref 3, .ref 17, .null, .null, .null, .null, .null, .null, .null, .null, .null, .null, .int 0, .int 0, .int 0, .int 0] : List Value).set 3 (.ref 38)))
theorem ln_CS81 : CS81.length = 40 := by decide +kernel
def CS82 : List xSh := CS81 ++ [.inr (10, [.null, .null, .int 0])]
theorem ln_CS82 : CS82.length = 41 := by decide +kernel
def CS83 : List xSh := CS82 ++ [.inl (.int, 49)]
theorem ln_CS83 : CS83.length = 42 := by decide +kernel
def CS84 : List xSh := CS83.set 40 (.inr (10, ([.null, .null, .int 0] : List Value).set 1 (.ref 41)))
theorem ln_CS84 : CS84.length = 42 := by decide +kernel
def CS85 : List xSh := CS84.set 40 (.inr (10, ([.null, .ref 41, .int 0] : List Value).set 0 (.ref 3)))
theorem ln_CS85 : CS85.length = 42 := by decide +kernel
def f_n_c_40 (g : xG) : xG :=
  (xrow g.1 41 (fun _ => 0), g.2)
set_option maxRecDepth 20000 in
theorem c_n_c_40 {g : xG} (out : xG) (H : f_n_c_40 g = out) : xC mX10_init 1 20 1 49 CS82 [.ref 40, .ref 3] g CS85 (fun r g' => r = none ∧ g' = out) := by
  have H : ((xrow g.1 41 (fun _ => 0), g.2)) = out := H
  refine xC.ofI 10 [some (.ref 40), some (.ref 3)] (by decide +kernel) rfl (fun _ _ => Nat.le_of_ble_eq_true rfl) (fun _ _ => rfl) ?_
  intro k A hR hrm hz hi
  refine xb (xmv A CS82) [(.aload_n 0, 1, 0, 0, .null)] (pc' := 1) (ls' := [some (.ref 40), some (.ref 3)]) (st' := [.ref 40]) (g' := g) (by decide +kernel) rfl ?_
  refine xobj (xmv A CS82) hrm (ix := 3) (nxt := 4) 350 (by decide +kernel) rfl ?_
  refine xb (xmv A CS82) [(.aload_n 0, 1, 0, 0, .null), (.bipush 49, 2, 0, 0, .int 49)] (pc' := 7) (ls' := [some (.ref 40), some (.ref 3)]) (st' := [.int 49, .ref 40]) (g' := g) (by decide +kernel) rfl ?_
  refine xnwi (xmv A CS82) hrm (by have h := hz; rw [ln_CS82] at h; rw [ln_CS82]; omega) (S' := CS83) (nxt := 9) 49 (by decide) (by decide) rfl (by decide +kernel) ?_
  rw [ln_CS82]
  show xW k CS83 1 49 9 [some (.ref 40), some (.ref 3)] [.ref 41, .ref 40] (xrow g.1 41 (fun _ => 0), g.2)
  refine xputF (xmv A CS83) hi (S' := CS84) (ix := 9) (nxt := 12) (w := 352) (b := 1) (ci := 10) (N := 3) (C := RX10) (T := TX10) [.null, .null, .int 0] (.array .int) rfl (by decide +kernel) rfl (by decide +kernel) ?_
  refine xb (xmv A CS84) [(.aload_n 0, 1, 0, 0, .null), (.aload_n 1, 1, 0, 0, .null)] (pc' := 14) (ls' := [some (.ref 40), some (.ref 3)]) (st' := [.ref 3, .ref 40]) (g' := (xrow g.1 41 (fun _ => 0), g.2)) (by decide +kernel) rfl ?_
  refine xputF (xmv A CS84) hi (S' := CS85) (ix := 15) (nxt := 17) (w := 351) (b := 0) (ci := 10) (N := 3) (C := RX10) (T := TX10) [.null, .ref 41, .int 0] (.object "NoonRinger$Realm") rfl (by decide +kernel) rfl (by decide +kernel) ?_
  subst H
  exact xret_v (xmv A CS85) hR (by have h := hz; rw [ln_CS82] at h; rw [ln_CS85]; omega) (by decide +kernel) ⟨rfl, rfl⟩
def CS86 : List xSh := CS85.set 0 (.inr (11, ([.ref 1, .ref 3, .ref 17, .ref 38, .null, .null, .null, .null, .null, .null, .null, .null, .null, .int 0, .int 0, .int 0, .int 0] : List Value).set 4 (.ref 40)))
theorem ln_CS86 : CS86.length = 42 := by decide +kernel
def CS87 : List xSh := CS86 ++ [.inr (7, [.null, .null, .null])]
theorem ln_CS87 : CS87.length = 43 := by decide +kernel
def CS88 : List xSh := CS87 ++ [.inl (.int, 896)]
theorem ln_CS88 : CS88.length = 44 := by decide +kernel
def CS89 : List xSh := CS88.set 42 (.inr (7, ([.null, .null, .null] : List Value).set 2 (.ref 43)))
theorem ln_CS89 : CS89.length = 44 := by decide +kernel
def CS90 : List xSh := CS89.set 42 (.inr (7, ([.null, .null, .ref 43] : List Value).set 0 (.ref 3)))
theorem ln_CS90 : CS90.length = 44 := by decide +kernel
def CS91 : List xSh := CS90.set 42 (.inr (7, ([.ref 3, .null, .ref 43] : List Value).set 1 (.ref 38)))
theorem ln_CS91 : CS91.length = 44 := by decide +kernel
def f_n_c_42 (g : xG) : xG :=
  (xrow g.1 43 (fun _ => 0), g.2)
set_option maxRecDepth 20000 in
theorem c_n_c_42 {g : xG} (out : xG) (H : f_n_c_42 g = out) : xC mX7_init 1 20 1 896 CS87 [.ref 42, .ref 3, .ref 38] g CS91 (fun r g' => r = none ∧ g' = out) := by
  have H : ((xrow g.1 43 (fun _ => 0), g.2)) = out := H
  refine xC.ofI 7 [some (.ref 42), some (.ref 3), some (.ref 38)] (by decide +kernel) rfl (fun _ _ => Nat.le_of_ble_eq_true rfl) (fun _ _ => rfl) ?_
  intro k A hR hrm hz hi
  refine xb (xmv A CS87) [(.aload_n 0, 1, 0, 0, .null)] (pc' := 1) (ls' := [some (.ref 42), some (.ref 3), some (.ref 38)]) (st' := [.ref 42]) (g' := g) (by decide +kernel) rfl ?_
  refine xobj (xmv A CS87) hrm (ix := 3) (nxt := 4) 366 (by decide +kernel) rfl ?_
  refine xb (xmv A CS87) [(.aload_n 0, 1, 0, 0, .null), (.sipush 896, 3, 0, 0, .int 896)] (pc' := 8) (ls' := [some (.ref 42), some (.ref 3), some (.ref 38)]) (st' := [.int 896, .ref 42]) (g' := g) (by decide +kernel) rfl ?_
  refine xnwi (xmv A CS87) hrm (by have h := hz; rw [ln_CS87] at h; rw [ln_CS87]; omega) (S' := CS88) (nxt := 10) 896 (by decide) (by decide) rfl (by decide +kernel) ?_
  rw [ln_CS87]
  show xW k CS88 1 896 10 [some (.ref 42), some (.ref 3), some (.ref 38)] [.ref 43, .ref 42] (xrow g.1 43 (fun _ => 0), g.2)
  refine xputF (xmv A CS88) hi (S' := CS89) (ix := 11) (nxt := 13) (w := 369) (b := 2) (ci := 7) (N := 3) (C := RX7) (T := TX7) [.null, .null, .null] (.array .int) rfl (by decide +kernel) rfl (by decide +kernel) ?_
  refine xb (xmv A CS89) [(.aload_n 0, 1, 0, 0, .null), (.aload_n 1, 1, 0, 0, .null)] (pc' := 15) (ls' := [some (.ref 42), some (.ref 3), some (.ref 38)]) (st' := [.ref 3, .ref 42]) (g' := (xrow g.1 43 (fun _ => 0), g.2)) (by decide +kernel) rfl ?_
  refine xputF (xmv A CS89) hi (S' := CS90) (ix := 15) (nxt := 18) (w := 367) (b := 0) (ci := 7) (N := 3) (C := RX7) (T := TX7) [.null, .null, .ref 43] (.object "NoonRinger$Realm") rfl (by decide +kernel) rfl (by decide +kernel) ?_
  refine xb (xmv A CS90) [(.aload_n 0, 1, 0, 0, .null), (.aload_n 2, 1, 0, 0, .null)] (pc' := 20) (ls' := [some (.ref 42), some (.ref 3), some (.ref 38)]) (st' := [.ref 38, .ref 42]) (g' := (xrow g.1 43 (fun _ => 0), g.2)) (by decide +kernel) rfl ?_
  refine xputF (xmv A CS90) hi (S' := CS91) (ix := 19) (nxt := 23) (w := 368) (b := 1) (ci := 7) (N := 3) (C := RX7) (T := TX7) [.ref 3, .null, .ref 43] (.object "NoonRinger$Ways") rfl (by decide +kernel) rfl (by decide +kernel) ?_
  subst H
  exact xret_v (xmv A CS91) hR (by have h := hz; rw [ln_CS87] at h; rw [ln_CS91]; omega) (by decide +kernel) ⟨rfl, rfl⟩
def CS92 : List xSh := CS91.set 0 (.inr (11, ([.ref 1, .ref 3, .ref 17, .ref 38, .ref 40, .null, .null, .null, .null, .null, .null, .null, .null, .int 0, .int 0, .int 0, .int 0] : List Value).set 5 (.ref 42)))
theorem ln_CS92 : CS92.length = 44 := by decide +kernel
def CS93 : List xSh := CS92 ++ [.inr (1, [.null, .null, .null])]
theorem ln_CS93 : CS93.length = 45 := by decide +kernel
def CS94 : List xSh := CS93 ++ [.inl (.int, 9)]
theorem ln_CS94 : CS94.length = 46 := by decide +kernel
def CS95 : List xSh := CS94.set 44 (.inr (1, ([.null, .null, .null] : List Value).set 2 (.ref 45)))
theorem ln_CS95 : CS95.length = 46 := by decide +kernel
def CS96 : List xSh := CS95.set 44 (.inr (1, ([.null, .null, .ref 45] : List Value).set 0 (.ref 3)))
theorem ln_CS96 : CS96.length = 46 := by decide +kernel
def CS97 : List xSh := CS96.set 44 (.inr (1, ([.ref 3, .null, .ref 45] : List Value).set 1 (.ref 38)))
theorem ln_CS97 : CS97.length = 46 := by decide +kernel
def f_n_c_44 (g : xG) : xG :=
  (xrow g.1 45 (fun _ => 0), g.2)
set_option maxRecDepth 20000 in
theorem c_n_c_44 {g : xG} (out : xG) (H : f_n_c_44 g = out) : xC mX1_init 1 20 1 9 CS93 [.ref 44, .ref 3, .ref 38] g CS97 (fun r g' => r = none ∧ g' = out) := by
  have H : ((xrow g.1 45 (fun _ => 0), g.2)) = out := H
  refine xC.ofI 1 [some (.ref 44), some (.ref 3), some (.ref 38)] (by decide +kernel) rfl (fun _ _ => Nat.le_of_ble_eq_true rfl) (fun _ _ => rfl) ?_
  intro k A hR hrm hz hi
  refine xb (xmv A CS93) [(.aload_n 0, 1, 0, 0, .null)] (pc' := 1) (ls' := [some (.ref 44), some (.ref 3), some (.ref 38)]) (st' := [.ref 44]) (g' := g) (by decide +kernel) rfl ?_
  refine xobj (xmv A CS93) hrm (ix := 3) (nxt := 4) 382 (by decide +kernel) rfl ?_
  refine xb (xmv A CS93) [(.aload_n 0, 1, 0, 0, .null), (.bipush 9, 2, 0, 0, .int 9)] (pc' := 7) (ls' := [some (.ref 44), some (.ref 3), some (.ref 38)]) (st' := [.int 9, .ref 44]) (g' := g) (by decide +kernel) rfl ?_
  refine xnwi (xmv A CS93) hrm (by have h := hz; rw [ln_CS93] at h; rw [ln_CS93]; omega) (S' := CS94) (nxt := 9) 9 (by decide) (by decide) rfl (by decide +kernel) ?_
  rw [ln_CS93]
  show xW k CS94 1 9 9 [some (.ref 44), some (.ref 3), some (.ref 38)] [.ref 45, .ref 44] (xrow g.1 45 (fun _ => 0), g.2)
  refine xputF (xmv A CS94) hi (S' := CS95) (ix := 11) (nxt := 12) (w := 385) (b := 2) (ci := 1) (N := 3) (C := RX1) (T := TX1) [.null, .null, .null] (.array .int) rfl (by decide +kernel) rfl (by decide +kernel) ?_
  refine xb (xmv A CS95) [(.aload_n 0, 1, 0, 0, .null), (.aload_n 1, 1, 0, 0, .null)] (pc' := 14) (ls' := [some (.ref 44), some (.ref 3), some (.ref 38)]) (st' := [.ref 3, .ref 44]) (g' := (xrow g.1 45 (fun _ => 0), g.2)) (by decide +kernel) rfl ?_
  refine xputF (xmv A CS95) hi (S' := CS96) (ix := 17) (nxt := 17) (w := 383) (b := 0) (ci := 1) (N := 3) (C := RX1) (T := TX1) [.null, .null, .ref 45] (.object "NoonRinger$Realm") rfl (by decide +kernel) rfl (by decide +kernel) ?_
  refine xb (xmv A CS96) [(.aload_n 0, 1, 0, 0, .null), (.aload_n 2, 1, 0, 0, .null)] (pc' := 19) (ls' := [some (.ref 44), some (.ref 3), some (.ref 38)]) (st' := [.ref 38, .ref 44]) (g' := (xrow g.1 45 (fun _ => 0), g.2)) (by decide +kernel) rfl ?_
  refine xputF (xmv A CS96) hi (S' := CS97) (ix := 21) (nxt := 22) (w := 384) (b := 1) (ci := 1) (N := 3) (C := RX1) (T := TX1) [.ref 3, .null, .ref 45] (.object "NoonRinger$Ways") rfl (by decide +kernel) rfl (by decide +kernel) ?_
  subst H
  exact xret_v (xmv A CS97) hR (by have h := hz; rw [ln_CS93] at h; rw [ln_CS97]; omega) (by decide +kernel) ⟨rfl, rfl⟩
def CS98 : List xSh := CS97.set 0 (.inr (11, ([.ref 1, .ref 3, .ref 17, .ref 38, .ref 40, .ref 42, .null, .null, .null, .null, .null, .null, .null, .int 0, .int 0, .int 0, .int 0] : List Value).set 6 (.ref 44)))
theorem ln_CS98 : CS98.length = 46 := by decide +kernel
def CS99 : List xSh := CS98 ++ [.inr (1, [.null, .null, .null])]
theorem ln_CS99 : CS99.length = 47 := by decide +kernel
def CS100 : List xSh := CS99 ++ [.inl (.int, 9)]
theorem ln_CS100 : CS100.length = 48 := by decide +kernel
def CS101 : List xSh := CS100.set 46 (.inr (1, ([.null, .null, .null] : List Value).set 2 (.ref 47)))
theorem ln_CS101 : CS101.length = 48 := by decide +kernel
def CS102 : List xSh := CS101.set 46 (.inr (1, ([.null, .null, .ref 47] : List Value).set 0 (.ref 3)))
theorem ln_CS102 : CS102.length = 48 := by decide +kernel
def CS103 : List xSh := CS102.set 46 (.inr (1, ([.ref 3, .null, .ref 47] : List Value).set 1 (.ref 40)))
theorem ln_CS103 : CS103.length = 48 := by decide +kernel
def f_n_c_46 (g : xG) : xG :=
  (xrow g.1 47 (fun _ => 0), g.2)
set_option maxRecDepth 20000 in
theorem c_n_c_46 {g : xG} (out : xG) (H : f_n_c_46 g = out) : xC mX1_init 1 20 1 9 CS99 [.ref 46, .ref 3, .ref 40] g CS103 (fun r g' => r = none ∧ g' = out) := by
  have H : ((xrow g.1 47 (fun _ => 0), g.2)) = out := H
  refine xC.ofI 1 [some (.ref 46), some (.ref 3), some (.ref 40)] (by decide +kernel) rfl (fun _ _ => Nat.le_of_ble_eq_true rfl) (fun _ _ => rfl) ?_
  intro k A hR hrm hz hi
  refine xb (xmv A CS99) [(.aload_n 0, 1, 0, 0, .null)] (pc' := 1) (ls' := [some (.ref 46), some (.ref 3), some (.ref 40)]) (st' := [.ref 46]) (g' := g) (by decide +kernel) rfl ?_
  refine xobj (xmv A CS99) hrm (ix := 3) (nxt := 4) 382 (by decide +kernel) rfl ?_
  refine xb (xmv A CS99) [(.aload_n 0, 1, 0, 0, .null), (.bipush 9, 2, 0, 0, .int 9)] (pc' := 7) (ls' := [some (.ref 46), some (.ref 3), some (.ref 40)]) (st' := [.int 9, .ref 46]) (g' := g) (by decide +kernel) rfl ?_
  refine xnwi (xmv A CS99) hrm (by have h := hz; rw [ln_CS99] at h; rw [ln_CS99]; omega) (S' := CS100) (nxt := 9) 9 (by decide) (by decide) rfl (by decide +kernel) ?_
  rw [ln_CS99]
  show xW k CS100 1 9 9 [some (.ref 46), some (.ref 3), some (.ref 40)] [.ref 47, .ref 46] (xrow g.1 47 (fun _ => 0), g.2)
  refine xputF (xmv A CS100) hi (S' := CS101) (ix := 11) (nxt := 12) (w := 385) (b := 2) (ci := 1) (N := 3) (C := RX1) (T := TX1) [.null, .null, .null] (.array .int) rfl (by decide +kernel) rfl (by decide +kernel) ?_
  refine xb (xmv A CS101) [(.aload_n 0, 1, 0, 0, .null), (.aload_n 1, 1, 0, 0, .null)] (pc' := 14) (ls' := [some (.ref 46), some (.ref 3), some (.ref 40)]) (st' := [.ref 3, .ref 46]) (g' := (xrow g.1 47 (fun _ => 0), g.2)) (by decide +kernel) rfl ?_
  refine xputF (xmv A CS101) hi (S' := CS102) (ix := 17) (nxt := 17) (w := 383) (b := 0) (ci := 1) (N := 3) (C := RX1) (T := TX1) [.null, .null, .ref 47] (.object "NoonRinger$Realm") rfl (by decide +kernel) rfl (by decide +kernel) ?_
  refine xb (xmv A CS102) [(.aload_n 0, 1, 0, 0, .null), (.aload_n 2, 1, 0, 0, .null)] (pc' := 19) (ls' := [some (.ref 46), some (.ref 3), some (.ref 40)]) (st' := [.ref 40, .ref 46]) (g' := (xrow g.1 47 (fun _ => 0), g.2)) (by decide +kernel) rfl ?_
  refine xputF (xmv A CS102) hi (S' := CS103) (ix := 21) (nxt := 22) (w := 384) (b := 1) (ci := 1) (N := 3) (C := RX1) (T := TX1) [.ref 3, .null, .ref 47] (.object "NoonRinger$Ways") rfl (by decide +kernel) rfl (by decide +kernel) ?_
  subst H
  exact xret_v (xmv A CS103) hR (by have h := hz; rw [ln_CS99] at h; rw [ln_CS103]; omega) (by decide +kernel) ⟨rfl, rfl⟩
def CS104 : List xSh := CS103.set 0 (.inr (11, ([.ref 1, .ref 3, .ref 17, .ref 38, .ref 40, .ref 42, .ref 44, .null, .null, .null, .null, .null, .null, .int 0, .int 0, .int 0, .int 0] : List Value).set 7 (.ref 46)))
theorem ln_CS104 : CS104.length = 48 := by decide +kernel
def CS105 : List xSh := CS104 ++ [.inr (6, [.null])]
theorem ln_CS105 : CS105.length = 49 := by decide +kernel
def CS106 : List xSh := CS105 ++ [.inl (.int, 35)]
theorem ln_CS106 : CS106.length = 50 := by decide +kernel
def CS107 : List xSh := CS106.set 48 (.inr (6, ([.null] : List Value).set 0 (.ref 49)))
theorem ln_CS107 : CS107.length = 50 := by decide +kernel
def f_n_c_48 (g : xG) : xG :=
  (xrow g.1 49 (fun _ => 0), g.2)
set_option maxRecDepth 20000 in
theorem c_n_c_48 {g : xG} (out : xG) (H : f_n_c_48 g = out) : xC mX6_init 1 20 1 35 CS105 [.ref 48] g CS107 (fun r g' => r = none ∧ g' = out) := by
  have H : ((xrow g.1 49 (fun _ => 0), g.2)) = out := H
  refine xC.ofI 6 [some (.ref 48)] (by decide +kernel) rfl (fun _ _ => Nat.le_of_ble_eq_true rfl) (fun _ _ => rfl) ?_
  intro k A hR hrm hz hi
  refine xb (xmv A CS105) [(.aload_n 0, 1, 0, 0, .null)] (pc' := 1) (ls' := [some (.ref 48)]) (st' := [.ref 48]) (g' := g) (by decide +kernel) rfl ?_
  refine xobj (xmv A CS105) hrm (ix := 5) (nxt := 4) 398 (by decide +kernel) rfl ?_
  refine xb (xmv A CS105) [(.aload_n 0, 1, 0, 0, .null), (.bipush 35, 2, 0, 0, .int 35)] (pc' := 7) (ls' := [some (.ref 48)]) (st' := [.int 35, .ref 48]) (g' := g) (by decide +kernel) rfl ?_
  refine xnwi (xmv A CS105) hrm (by have h := hz; rw [ln_CS105] at h; rw [ln_CS105]; omega) (S' := CS106) (nxt := 9) 35 (by decide) (by decide) rfl (by decide +kernel) ?_
  rw [ln_CS105]
  show xW k CS106 1 35 9 [some (.ref 48)] [.ref 49, .ref 48] (xrow g.1 49 (fun _ => 0), g.2)
  refine xputF (xmv A CS106) hi (S' := CS107) (ix := 11) (nxt := 12) (w := 399) (b := 0) (ci := 6) (N := 1) (C := RX6) (T := TX6) [.null] (.array .int) rfl (by decide +kernel) rfl (by decide +kernel) ?_
  subst H
  exact xret_v (xmv A CS107) hR (by have h := hz; rw [ln_CS105] at h; rw [ln_CS107]; omega) (by decide +kernel) ⟨rfl, rfl⟩
def CS108 : List xSh := CS107.set 0 (.inr (11, ([.ref 1, .ref 3, .ref 17, .ref 38, .ref 40, .ref 42, .ref 44, .ref 46, .null, .null, .null, .null, .null, .int 0, .int 0, .int 0, .int 0] : List Value).set 8 (.ref 48)))
theorem ln_CS108 : CS108.length = 50 := by decide +kernel
def CS109 : List xSh := CS108 ++ [.inr (6, [.null])]
theorem ln_CS109 : CS109.length = 51 := by decide +kernel
def CS110 : List xSh := CS109 ++ [.inl (.int, 35)]
theorem ln_CS110 : CS110.length = 52 := by decide +kernel
def CS111 : List xSh := CS110.set 50 (.inr (6, ([.null] : List Value).set 0 (.ref 51)))
theorem ln_CS111 : CS111.length = 52 := by decide +kernel
def f_n_c_50 (g : xG) : xG :=
  (xrow g.1 51 (fun _ => 0), g.2)
set_option maxRecDepth 20000 in
theorem c_n_c_50 {g : xG} (out : xG) (H : f_n_c_50 g = out) : xC mX6_init 1 20 1 35 CS109 [.ref 50] g CS111 (fun r g' => r = none ∧ g' = out) := by
  have H : ((xrow g.1 51 (fun _ => 0), g.2)) = out := H
  refine xC.ofI 6 [some (.ref 50)] (by decide +kernel) rfl (fun _ _ => Nat.le_of_ble_eq_true rfl) (fun _ _ => rfl) ?_
  intro k A hR hrm hz hi
  refine xb (xmv A CS109) [(.aload_n 0, 1, 0, 0, .null)] (pc' := 1) (ls' := [some (.ref 50)]) (st' := [.ref 50]) (g' := g) (by decide +kernel) rfl ?_
  refine xobj (xmv A CS109) hrm (ix := 5) (nxt := 4) 398 (by decide +kernel) rfl ?_
  refine xb (xmv A CS109) [(.aload_n 0, 1, 0, 0, .null), (.bipush 35, 2, 0, 0, .int 35)] (pc' := 7) (ls' := [some (.ref 50)]) (st' := [.int 35, .ref 50]) (g' := g) (by decide +kernel) rfl ?_
  refine xnwi (xmv A CS109) hrm (by have h := hz; rw [ln_CS109] at h; rw [ln_CS109]; omega) (S' := CS110) (nxt := 9) 35 (by decide) (by decide) rfl (by decide +kernel) ?_
  rw [ln_CS109]
  show xW k CS110 1 35 9 [some (.ref 50)] [.ref 51, .ref 50] (xrow g.1 51 (fun _ => 0), g.2)
  refine xputF (xmv A CS110) hi (S' := CS111) (ix := 11) (nxt := 12) (w := 399) (b := 0) (ci := 6) (N := 1) (C := RX6) (T := TX6) [.null] (.array .int) rfl (by decide +kernel) rfl (by decide +kernel) ?_
  subst H
  exact xret_v (xmv A CS111) hR (by have h := hz; rw [ln_CS109] at h; rw [ln_CS111]; omega) (by decide +kernel) ⟨rfl, rfl⟩
def CS112 : List xSh := CS111.set 0 (.inr (11, ([.ref 1, .ref 3, .ref 17, .ref 38, .ref 40, .ref 42, .ref 44, .ref 46, .ref 48, .null, .null, .null, .null, .int 0, .int 0, .int 0, .int 0] : List Value).set 9 (.ref 50)))
theorem ln_CS112 : CS112.length = 52 := by decide +kernel
def CS113 : List xSh := CS112 ++ [.inr (5, [.null])]
theorem ln_CS113 : CS113.length = 53 := by decide +kernel
def CS114 : List xSh := CS113 ++ [.inl (.int, 1400)]
theorem ln_CS114 : CS114.length = 54 := by decide +kernel
def CS115 : List xSh := CS114.set 52 (.inr (5, ([.null] : List Value).set 0 (.ref 53)))
theorem ln_CS115 : CS115.length = 54 := by decide +kernel
def f_n_c_52 (g : xG) : xG :=
  (xrow g.1 53 (fun _ => 0), g.2)
set_option maxRecDepth 20000 in
theorem c_n_c_52 {g : xG} (out : xG) (H : f_n_c_52 g = out) : xC mX5_init 1 21 1 1400 CS113 [.ref 52, .int 40] g CS115 (fun r g' => r = none ∧ g' = out) := by
  have H : ((xrow g.1 53 (fun _ => 0), g.2)) = out := H
  refine xC.ofI 5 [some (.ref 52), some (.int 40)] (by decide +kernel) rfl (fun _ _ => Nat.le_of_ble_eq_true rfl) (fun _ _ => rfl) ?_
  intro k A hR hrm hz hi
  refine xb (xmv A CS113) [(.aload_n 0, 1, 0, 0, .null)] (pc' := 1) (ls' := [some (.ref 52), some (.int 40)]) (st' := [.ref 52]) (g' := g) (by decide +kernel) rfl ?_
  refine xobj (xmv A CS113) hrm (ix := 1) (nxt := 4) 408 (by decide +kernel) rfl ?_
  refine xb (xmv A CS113) [(.aload_n 0, 1, 0, 0, .null), (.iload_n 1, 1, 0, 0, .null), (.iconst 0, 1, 0, 0, .int 0)] (pc' := 7) (ls' := [some (.ref 52), some (.int 40)]) (st' := [.int 0, .int 40, .ref 52]) (g' := g) (by decide +kernel) rfl ?_
  refine xmmax (xmv A CS113) (ix := 7) (nxt := 10) hrm [.ref 52] 409 (by decide +kernel) rfl ?_
  refine xb (xmv A CS113) [(.bipush 35, 2, 0, 0, .int 35), (.imul, 1, 0, 0, .null)] (pc' := 13) (ls' := [some (.ref 52), some (.int 40)]) (st' := [.int ((xmax 40 0) * 35), .ref 52]) (g' := g) (by decide +kernel) rfl ?_
  refine xnwi (xmv A CS113) hrm (by have h := hz; rw [ln_CS113] at h; rw [ln_CS113]; omega) (S' := CS114) (nxt := 15) 1400 (by decide) (by decide) rfl (by decide +kernel) ?_
  rw [ln_CS113]
  show xW k CS114 1 1400 15 [some (.ref 52), some (.int 40)] [.ref 53, .ref 52] (xrow g.1 53 (fun _ => 0), g.2)
  refine xputF (xmv A CS114) hi (S' := CS115) (ix := 15) (nxt := 18) (w := 412) (b := 0) (ci := 5) (N := 1) (C := RX5) (T := TX5) [.null] (.array .int) rfl (by decide +kernel) rfl (by decide +kernel) ?_
  subst H
  exact xret_v (xmv A CS115) hR (by have h := hz; rw [ln_CS113] at h; rw [ln_CS115]; omega) (by decide +kernel) ⟨rfl, rfl⟩
def CS116 : List xSh := CS115.set 0 (.inr (11, ([.ref 1, .ref 3, .ref 17, .ref 38, .ref 40, .ref 42, .ref 44, .ref 46, .ref 48, .ref 50, .null, .null, .null, .int 0, .int 0, .int 0, .int 0] : List Value).set 10 (.ref 52)))
theorem ln_CS116 : CS116.length = 54 := by decide +kernel
def CS117 : List xSh := CS116 ++ [.inr (5, [.null])]
theorem ln_CS117 : CS117.length = 55 := by decide +kernel
def CS118 : List xSh := CS117 ++ [.inl (.int, 105)]
theorem ln_CS118 : CS118.length = 56 := by decide +kernel
def CS119 : List xSh := CS118.set 54 (.inr (5, ([.null] : List Value).set 0 (.ref 55)))
theorem ln_CS119 : CS119.length = 56 := by decide +kernel
def f_n_c_54 (g : xG) : xG :=
  (xrow g.1 55 (fun _ => 0), g.2)
set_option maxRecDepth 20000 in
theorem c_n_c_54 {g : xG} (out : xG) (H : f_n_c_54 g = out) : xC mX5_init 1 21 1 105 CS117 [.ref 54, .int 3] g CS119 (fun r g' => r = none ∧ g' = out) := by
  have H : ((xrow g.1 55 (fun _ => 0), g.2)) = out := H
  refine xC.ofI 5 [some (.ref 54), some (.int 3)] (by decide +kernel) rfl (fun _ _ => Nat.le_of_ble_eq_true rfl) (fun _ _ => rfl) ?_
  intro k A hR hrm hz hi
  refine xb (xmv A CS117) [(.aload_n 0, 1, 0, 0, .null)] (pc' := 1) (ls' := [some (.ref 54), some (.int 3)]) (st' := [.ref 54]) (g' := g) (by decide +kernel) rfl ?_
  refine xobj (xmv A CS117) hrm (ix := 1) (nxt := 4) 408 (by decide +kernel) rfl ?_
  refine xb (xmv A CS117) [(.aload_n 0, 1, 0, 0, .null), (.iload_n 1, 1, 0, 0, .null), (.iconst 0, 1, 0, 0, .int 0)] (pc' := 7) (ls' := [some (.ref 54), some (.int 3)]) (st' := [.int 0, .int 3, .ref 54]) (g' := g) (by decide +kernel) rfl ?_
  refine xmmax (xmv A CS117) (ix := 7) (nxt := 10) hrm [.ref 54] 409 (by decide +kernel) rfl ?_
  refine xb (xmv A CS117) [(.bipush 35, 2, 0, 0, .int 35), (.imul, 1, 0, 0, .null)] (pc' := 13) (ls' := [some (.ref 54), some (.int 3)]) (st' := [.int ((xmax 3 0) * 35), .ref 54]) (g' := g) (by decide +kernel) rfl ?_
  refine xnwi (xmv A CS117) hrm (by have h := hz; rw [ln_CS117] at h; rw [ln_CS117]; omega) (S' := CS118) (nxt := 15) 105 (by decide) (by decide) rfl (by decide +kernel) ?_
  rw [ln_CS117]
  show xW k CS118 1 105 15 [some (.ref 54), some (.int 3)] [.ref 55, .ref 54] (xrow g.1 55 (fun _ => 0), g.2)
  refine xputF (xmv A CS118) hi (S' := CS119) (ix := 15) (nxt := 18) (w := 412) (b := 0) (ci := 5) (N := 1) (C := RX5) (T := TX5) [.null] (.array .int) rfl (by decide +kernel) rfl (by decide +kernel) ?_
  subst H
  exact xret_v (xmv A CS119) hR (by have h := hz; rw [ln_CS117] at h; rw [ln_CS119]; omega) (by decide +kernel) ⟨rfl, rfl⟩
def CS120 : List xSh := CS119.set 0 (.inr (11, ([.ref 1, .ref 3, .ref 17, .ref 38, .ref 40, .ref 42, .ref 44, .ref 46, .ref 48, .ref 50, .ref 52, .null, .null, .int 0, .int 0, .int 0, .int 0] : List Value).set 11 (.ref 54)))
theorem ln_CS120 : CS120.length = 56 := by decide +kernel
def CS121 : List xSh := CS120 ++ [.inr (0, [.null, .null, .null, .null, .null, .int 0])]
theorem ln_CS121 : CS121.length = 57 := by decide +kernel
def CS122 : List xSh := CS121 ++ [.inl (.int, 20)]
theorem ln_CS122 : CS122.length = 58 := by decide +kernel
def CS123 : List xSh := CS122.set 56 (.inr (0, ([.null, .null, .null, .null, .null, .int 0] : List Value).set 2 (.ref 57)))
theorem ln_CS123 : CS123.length = 58 := by decide +kernel
def CS124 : List xSh := CS123 ++ [.inl (.boolean, 20)]
theorem ln_CS124 : CS124.length = 59 := by decide +kernel
def CS125 : List xSh := CS124.set 56 (.inr (0, ([.null, .null, .ref 57, .null, .null, .int 0] : List Value).set 3 (.ref 58)))
theorem ln_CS125 : CS125.length = 59 := by decide +kernel
def CS126 : List xSh := CS125 ++ [.inl (.int, 7)]
theorem ln_CS126 : CS126.length = 60 := by decide +kernel
def CS127 : List xSh := CS126.set 56 (.inr (0, ([.null, .null, .ref 57, .ref 58, .null, .int 0] : List Value).set 4 (.ref 59)))
theorem ln_CS127 : CS127.length = 60 := by decide +kernel
def CS128 : List xSh := CS127.set 56 (.inr (0, ([.null, .null, .ref 57, .ref 58, .ref 59, .int 0] : List Value).set 0 (.ref 3)))
theorem ln_CS128 : CS128.length = 60 := by decide +kernel
def CS129 : List xSh := CS128.set 56 (.inr (0, ([.ref 3, .null, .ref 57, .ref 58, .ref 59, .int 0] : List Value).set 1 (.ref 44)))
theorem ln_CS129 : CS129.length = 60 := by decide +kernel
def f_n_c_56 (g : xG) : xG :=
  (xrow (xrow (xrow g.1 57 (fun _ => 0)) 58 (fun _ => 0)) 59 (fun _ => 0), g.2)
set_option maxRecDepth 20000 in
theorem c_n_c_56 {g : xG} (out : xG) (H : f_n_c_56 g = out) : xC mX0_init 1 20 3 47 CS121 [.ref 56, .ref 3, .ref 44] g CS129 (fun r g' => r = none ∧ g' = out) := by
  have H : ((xrow (xrow (xrow g.1 57 (fun _ => 0)) 58 (fun _ => 0)) 59 (fun _ => 0), g.2)) = out := H
  refine xC.ofI 0 [some (.ref 56), some (.ref 3), some (.ref 44)] (by decide +kernel) rfl (fun _ _ => Nat.le_of_ble_eq_true rfl) (fun _ _ => rfl) ?_
  intro k A hR hrm hz hi
  refine xb (xmv A CS121) [(.aload_n 0, 1, 0, 0, .null)] (pc' := 1) (ls' := [some (.ref 56), some (.ref 3), some (.ref 44)]) (st' := [.ref 56]) (g' := g) (by decide +kernel) rfl ?_
  refine xobj (xmv A CS121) hrm (ix := 3) (nxt := 4) 421 (by decide +kernel) rfl ?_
  refine xb (xmv A CS121) [(.aload_n 0, 1, 0, 0, .null), (.bipush 20, 2, 0, 0, .int 20)] (pc' := 7) (ls' := [some (.ref 56), some (.ref 3), some (.ref 44)]) (st' := [.int 20, .ref 56]) (g' := g) (by decide +kernel) rfl ?_
  refine xnwi (xmv A CS121) hrm (by have h := hz; rw [ln_CS121] at h; rw [ln_CS121]; omega) (S' := CS122) (nxt := 9) 20 (by decide) (by decide) rfl (by decide +kernel) ?_
  rw [ln_CS121]
  show xW k CS122 1 20 9 [some (.ref 56), some (.ref 3), some (.ref 44)] [.ref 57, .ref 56] (xrow g.1 57 (fun _ => 0), g.2)
  refine xputF (xmv A CS122) hi (S' := CS123) (ix := 11) (nxt := 12) (w := 424) (b := 2) (ci := 0) (N := 6) (C := RX0) (T := TX0) [.null, .null, .null, .null, .null, .int 0] (.array .int) rfl (by decide +kernel) rfl (by decide +kernel) ?_
  refine xb (xmv A CS123) [(.aload_n 0, 1, 0, 0, .null), (.bipush 20, 2, 0, 0, .int 20)] (pc' := 15) (ls' := [some (.ref 56), some (.ref 3), some (.ref 44)]) (st' := [.int 20, .ref 56]) (g' := (xrow g.1 57 (fun _ => 0), g.2)) (by decide +kernel) rfl ?_
  refine xnwz (xmv A CS123) hrm (by have h := hz; rw [ln_CS121] at h; rw [ln_CS123]; omega) (S' := CS124) (nxt := 17) 20 (by decide) (by decide) rfl (by decide +kernel) ?_
  rw [ln_CS123]
  show xW k CS124 2 40 17 [some (.ref 56), some (.ref 3), some (.ref 44)] [.ref 58, .ref 56] (xrow (xrow g.1 57 (fun _ => 0)) 58 (fun _ => 0), g.2)
  refine xputF (xmv A CS124) hi (S' := CS125) (ix := 15) (nxt := 20) (w := 425) (b := 3) (ci := 0) (N := 6) (C := RX0) (T := TX0) [.null, .null, .ref 57, .null, .null, .int 0] (.array .boolean) rfl (by decide +kernel) rfl (by decide +kernel) ?_
  refine xb (xmv A CS125) [(.aload_n 0, 1, 0, 0, .null), (.bipush 7, 2, 0, 0, .int 7)] (pc' := 23) (ls' := [some (.ref 56), some (.ref 3), some (.ref 44)]) (st' := [.int 7, .ref 56]) (g' := (xrow (xrow g.1 57 (fun _ => 0)) 58 (fun _ => 0), g.2)) (by decide +kernel) rfl ?_
  refine xnwi (xmv A CS125) hrm (by have h := hz; rw [ln_CS121] at h; rw [ln_CS125]; omega) (S' := CS126) (nxt := 25) 7 (by decide) (by decide) rfl (by decide +kernel) ?_
  rw [ln_CS125]
  show xW k CS126 3 47 25 [some (.ref 56), some (.ref 3), some (.ref 44)] [.ref 59, .ref 56] (xrow (xrow (xrow g.1 57 (fun _ => 0)) 58 (fun _ => 0)) 59 (fun _ => 0), g.2)
  refine xputF (xmv A CS126) hi (S' := CS127) (ix := 19) (nxt := 28) (w := 426) (b := 4) (ci := 0) (N := 6) (C := RX0) (T := TX0) [.null, .null, .ref 57, .ref 58, .null, .int 0] (.array .int) rfl (by decide +kernel) rfl (by decide +kernel) ?_
  refine xb (xmv A CS127) [(.aload_n 0, 1, 0, 0, .null), (.aload_n 1, 1, 0, 0, .null)] (pc' := 30) (ls' := [some (.ref 56), some (.ref 3), some (.ref 44)]) (st' := [.ref 3, .ref 56]) (g' := (xrow (xrow (xrow g.1 57 (fun _ => 0)) 58 (fun _ => 0)) 59 (fun _ => 0), g.2)) (by decide +kernel) rfl ?_
  refine xputF (xmv A CS127) hi (S' := CS128) (ix := 22) (nxt := 33) (w := 422) (b := 0) (ci := 0) (N := 6) (C := RX0) (T := TX0) [.null, .null, .ref 57, .ref 58, .ref 59, .int 0] (.object "NoonRinger$Realm") rfl (by decide +kernel) rfl (by decide +kernel) ?_
  refine xb (xmv A CS128) [(.aload_n 0, 1, 0, 0, .null), (.aload_n 2, 1, 0, 0, .null)] (pc' := 35) (ls' := [some (.ref 56), some (.ref 3), some (.ref 44)]) (st' := [.ref 44, .ref 56]) (g' := (xrow (xrow (xrow g.1 57 (fun _ => 0)) 58 (fun _ => 0)) 59 (fun _ => 0), g.2)) (by decide +kernel) rfl ?_
  refine xputF (xmv A CS128) hi (S' := CS129) (ix := 26) (nxt := 38) (w := 423) (b := 1) (ci := 0) (N := 6) (C := RX0) (T := TX0) [.ref 3, .null, .ref 57, .ref 58, .ref 59, .int 0] (.object "NoonRinger$Judge") rfl (by decide +kernel) rfl (by decide +kernel) ?_
  subst H
  exact xret_v (xmv A CS129) hR (by have h := hz; rw [ln_CS121] at h; rw [ln_CS129]; omega) (by decide +kernel) ⟨rfl, rfl⟩
def CS130 : List xSh := CS129.set 0 (.inr (11, ([.ref 1, .ref 3, .ref 17, .ref 38, .ref 40, .ref 42, .ref 44, .ref 46, .ref 48, .ref 50, .ref 52, .ref 54, .null, .int 0, .int 0, .int 0, .int 0] : List Value).set 12 (.ref 56)))
theorem ln_CS130 : CS130.length = 60 := by decide +kernel
theorem eq_CS130 : SH1 = CS130 := by decide +kernel
def fp_tl_c : List (Nat × Option Nat) := [(0, some 13), (0, some 15), (3, some 9), (3, some 10), (3, some 11), (3, some 12), (3, some 13), (12, some 4), (13, none), (14, none), (15, none), (38, some 2), (39, none), (49, none), (56, some 5)]
def f_tl_c (g : xG) : Option (xG) :=
  xl (f_X4_clear_3 g) fun w1 =>
  (f_X11_beginAnew_0 w1).bind fun w2 =>
  some w2
theorem t_tl_c {k : xK} {S : List xSh} {g : xG} {out : xG} (hS : xpf SH1 S) (A : xAt k mX11_init.2.1 11 SH1 S) (hR : xRet k 59 7772 S (fun r g' => r = none ∧ g' = out) mX11_init.2.2.2) (hrm : xrm k = { frames := 6, cells := 59, slots := 7772, locals := 131 }) (hz : xhs k + 59 = xb0 k + S.length) (H : f_tl_c g = some out) : xW k S 59 7772 199 [some (.ref 0)] [] g := by
  have H : (xl (f_X4_clear_3 g) fun w1 =>
(f_X11_beginAnew_0 w1).bind fun w2 =>
some w2) = some out := H
  refine xb A [(.aload_n 0, 1, 0, 0, .null), (.getfield 19, 3, 0, 1, .ref 3)] (pc' := 203) (ls' := [some (.ref 0)]) (st' := [.ref 3]) (g' := g) (by decide +kernel) rfl ?_
  obtain ⟨w1, e1, H⟩ := xl_elim H
  refine xcallV A (ix := 98) (nxt := 206) hrm hz [] [] 442 (c_X4_clear_3 hS _ e1) ok_X4_clear (by decide +kernel) rfl (fun r g1 hq => ?_)
  rw [hq.1, hq.2]
  show xW k S 59 7772 206 [some (.ref 0)] [] w1
  refine xb A [(.aload_n 0, 1, 0, 0, .null)] (pc' := 207) (ls' := [some (.ref 0)]) (st' := [.ref 0]) (g' := w1) (by decide +kernel) rfl ?_
  obtain ⟨w2, e2, H⟩ := xbind H
  refine xcallV A (ix := 101) (nxt := 210) hrm hz [] [] 461 (c_X11_beginAnew_0 hS _ e2) ok_X11_beginAnew (by decide +kernel) rfl (fun r g1 hq => ?_)
  rw [hq.1, hq.2]
  show xW k S 59 7772 210 [some (.ref 0)] [] w2
  obtain rfl := Option.some.inj H
  exact xret_v A hR hz (by decide +kernel) ⟨rfl, rfl⟩
theorem fr_tl_c {g : xG} (out : xG) (H : f_tl_c g = some out) : xfrm fp_tl_c g out := by
  have H : (xl (f_X4_clear_3 g) fun w1 =>
(f_X11_beginAnew_0 w1).bind fun w2 =>
some w2) = some out := H
  obtain ⟨w1, e1, H⟩ := xl_elim H
  have hf1 : xfrm fp_tl_c g (w1) := xfrm.tr xfrm.rf (fr_X4_clear_3 _ e1) rfl
  obtain ⟨w2, e2, H⟩ := xbind H
  have hf2 : xfrm fp_tl_c g (w2) := xfrm.tr hf1 (fr_X11_beginAnew_0 _ e2) rfl
  obtain rfl := Option.some.inj H
  exact hf2
def f_n_c (g : xG) : Option (xG) :=
  xl (f_n_c_1 (xrow g.1 1 (fun _ => 0), g.2)) fun w1 =>
  xl (f_n_c_3 (xrow w1.1 3 (fun _ => 0), w1.2)) fun w2 =>
  (f_n_c_17 (xrow w2.1 17 (fun _ => 0), w2.2)).bind fun w3 =>
  xl (f_n_c_38 (xrow w3.1 38 (fun _ => 0), w3.2)) fun w4 =>
  xl (f_n_c_40 (xrow w4.1 40 (fun _ => 0), w4.2)) fun w5 =>
  xl (f_n_c_42 (xrow w5.1 42 (fun _ => 0), w5.2)) fun w6 =>
  xl (f_n_c_44 (xrow w6.1 44 (fun _ => 0), w6.2)) fun w7 =>
  xl (f_n_c_46 (xrow w7.1 46 (fun _ => 0), w7.2)) fun w8 =>
  xl (f_n_c_48 (xrow w8.1 48 (fun _ => 0), w8.2)) fun w9 =>
  xl (f_n_c_50 (xrow w9.1 50 (fun _ => 0), w9.2)) fun w10 =>
  xl (f_n_c_52 (xrow w10.1 52 (fun _ => 0), w10.2)) fun w11 =>
  xl (f_n_c_54 (xrow w11.1 54 (fun _ => 0), w11.2)) fun w12 =>
  xl (f_n_c_56 (xrow w12.1 56 (fun _ => 0), w12.2)) fun w13 =>
  f_tl_c (xupd w13.1 0 16 (-1), w13.2)
set_option maxRecDepth 20000 in
theorem c_n_c {g : xG} (out : xG) (H : f_n_c g = some out) : xC mX11_init 6 131 59 7772 CS1 [.ref 0] g CS130 (fun r g' => r = none ∧ g' = out) := by
  have H : (xl (f_n_c_1 (xrow g.1 1 (fun _ => 0), g.2)) fun w1 =>
xl (f_n_c_3 (xrow w1.1 3 (fun _ => 0), w1.2)) fun w2 =>
(f_n_c_17 (xrow w2.1 17 (fun _ => 0), w2.2)).bind fun w3 =>
xl (f_n_c_38 (xrow w3.1 38 (fun _ => 0), w3.2)) fun w4 =>
xl (f_n_c_40 (xrow w4.1 40 (fun _ => 0), w4.2)) fun w5 =>
xl (f_n_c_42 (xrow w5.1 42 (fun _ => 0), w5.2)) fun w6 =>
xl (f_n_c_44 (xrow w6.1 44 (fun _ => 0), w6.2)) fun w7 =>
xl (f_n_c_46 (xrow w7.1 46 (fun _ => 0), w7.2)) fun w8 =>
xl (f_n_c_48 (xrow w8.1 48 (fun _ => 0), w8.2)) fun w9 =>
xl (f_n_c_50 (xrow w9.1 50 (fun _ => 0), w9.2)) fun w10 =>
xl (f_n_c_52 (xrow w10.1 52 (fun _ => 0), w10.2)) fun w11 =>
xl (f_n_c_54 (xrow w11.1 54 (fun _ => 0), w11.2)) fun w12 =>
xl (f_n_c_56 (xrow w12.1 56 (fun _ => 0), w12.2)) fun w13 =>
f_tl_c (xupd w13.1 0 16 (-1), w13.2)) = some out := H
  refine xC.ofI 11 [some (.ref 0)] (by decide +kernel) rfl (fun _ _ => Nat.le_of_ble_eq_true rfl) (fun _ _ => rfl) ?_
  intro k A hR hrm hz hi
  refine xb (xmv A CS1) [(.aload_n 0, 1, 0, 0, .null)] (pc' := 1) (ls' := [some (.ref 0)]) (st' := [.ref 0]) (g' := g) (by decide +kernel) rfl ?_
  refine xobj (xmv A CS1) hrm (ix := 1) (nxt := 4) 138 (by decide +kernel) rfl ?_
  refine xb (xmv A CS1) [(.aload_n 0, 1, 0, 0, .null)] (pc' := 5) (ls' := [some (.ref 0)]) (st' := [.ref 0]) (g' := g) (by decide +kernel) rfl ?_
  refine xnew (xmv A CS1) hrm (by have h := hz; rw [ln_CS1] at h; rw [ln_CS1]; omega) (S' := CS2) (ix := 7) (nxt := 8) (ci := 8) 141 142 114 [.null, .int 0] tyX8 tyX8_ok rfl rfl (by decide +kernel) ?_
  rw [ln_CS1]
  show xW k CS2 1 2 8 [some (.ref 0)] [.ref 1, .ref 0] (xrow g.1 1 (fun _ => 0), g.2)
  refine xb (xmv A CS2) [(.dup, 1, 0, 0, .null)] (pc' := 9) (ls' := [some (.ref 0)]) (st' := [.ref 1, .ref 1, .ref 0]) (g' := (xrow g.1 1 (fun _ => 0), g.2)) (by decide +kernel) rfl ?_
  obtain ⟨w1, e1, H⟩ := xl_elim H
  refine xcallIN (xmv A CS2) (ix := 9) (nxt := 12) (host := "NoonRinger") hrm (by have h := hz; rw [ln_CS1] at h; rw [ln_CS2]; omega) [] [.ref 1, .ref 0] 0 (c_n_c_1 _ e1) ok_X8_init (by decide +kernel) rfl (fun r g1 hq => ?_)
  rw [hq.1, hq.2]
  show xW k CS4 2 2002 12 [some (.ref 0)] [.ref 1, .ref 0] w1
  refine xputF (xmv A CS4) hi (S' := CS5) (ix := 10) (nxt := 15) (w := 547) (b := 0) (ci := 11) (N := 17) (C := RX11) (T := TX11) [.null, .null, .null, .null, .null, .null, .null, .null, .null, .null, .null, .null, .null, .int 0, .int 0, .int 0, .int 0] (.object "NoonRinger$Tape") rfl (by decide +kernel) rfl (by decide +kernel) ?_
  refine xb (xmv A CS5) [(.aload_n 0, 1, 0, 0, .null)] (pc' := 16) (ls' := [some (.ref 0)]) (st' := [.ref 0]) (g' := w1) (by decide +kernel) rfl ?_
  refine xnew (xmv A CS5) hrm (by have h := hz; rw [ln_CS1] at h; rw [ln_CS5]; omega) (S' := CS6) (ix := 16) (nxt := 19) (ci := 4) 155 156 115 [.null, .null, .null, .null, .null, .null, .null, .null, .null, .int 0, .int 0, .int 0, .int 0, .int 0] tyX4 tyX4_ok rfl rfl (by decide +kernel) ?_
  rw [ln_CS5]
  show xW k CS6 3 2016 19 [some (.ref 0)] [.ref 3, .ref 0] (xrow w1.1 3 (fun _ => 0), w1.2)
  refine xb (xmv A CS6) [(.dup, 1, 0, 0, .null)] (pc' := 20) (ls' := [some (.ref 0)]) (st' := [.ref 3, .ref 3, .ref 0]) (g' := (xrow w1.1 3 (fun _ => 0), w1.2)) (by decide +kernel) rfl ?_
  obtain ⟨w2, e2, H⟩ := xl_elim H
  refine xcallIN (xmv A CS6) (ix := 18) (nxt := 23) (host := "NoonRinger") hrm (by have h := hz; rw [ln_CS1] at h; rw [ln_CS6]; omega) [] [.ref 3, .ref 0] 1 (c_n_c_3 _ e2) ok_X4_init (by decide +kernel) rfl (fun r g1 hq => ?_)
  rw [hq.1, hq.2]
  show xW k CS32 16 2926 23 [some (.ref 0)] [.ref 3, .ref 0] w2
  refine xputF (xmv A CS32) hi (S' := CS33) (ix := 19) (nxt := 26) (w := 548) (b := 1) (ci := 11) (N := 17) (C := RX11) (T := TX11) [.ref 1, .null, .null, .null, .null, .null, .null, .null, .null, .null, .null, .null, .null, .int 0, .int 0, .int 0, .int 0] (.object "NoonRinger$Realm") rfl (by decide +kernel) rfl (by decide +kernel) ?_
  refine xb (xmv A CS33) [(.aload_n 0, 1, 0, 0, .null)] (pc' := 27) (ls' := [some (.ref 0)]) (st' := [.ref 0]) (g' := w2) (by decide +kernel) rfl ?_
  refine xnew (xmv A CS33) hrm (by have h := hz; rw [ln_CS1] at h; rw [ln_CS33]; omega) (S' := CS34) (ix := 23) (nxt := 30) (ci := 3) 228 229 117 [.null, .null, .null, .null, .int 0, .int 0, .int 0, .int 0, .int 0] tyX3 tyX3_ok rfl rfl (by decide +kernel) ?_
  rw [ln_CS33]
  show xW k CS34 17 2935 30 [some (.ref 0)] [.ref 17, .ref 0] (xrow w2.1 17 (fun _ => 0), w2.2)
  refine xb (xmv A CS34) [(.dup, 1, 0, 0, .null), (.aload_n 0, 1, 0, 0, .null), (.getfield 10, 3, 0, 0, .ref 1)] (pc' := 35) (ls' := [some (.ref 0)]) (st' := [.ref 1, .ref 17, .ref 17, .ref 0]) (g' := (xrow w2.1 17 (fun _ => 0), w2.2)) (by decide +kernel) rfl ?_
  obtain ⟨w3, e3, H⟩ := xbind H
  refine xcallI (xmv A CS34) (ix := 25) (nxt := 38) hrm (by have h := hz; rw [ln_CS1] at h; rw [ln_CS34]; omega) [.ref 1] [.ref 17, .ref 0] 230 (c_n_c_17 _ e3) ok_X3_init (by decide +kernel) rfl (fun r g1 hq => ?_)
  rw [hq.1, hq.2]
  show xW k CS75 37 5113 38 [some (.ref 0)] [.ref 17, .ref 0] w3
  refine xputF (xmv A CS75) hi (S' := CS76) (ix := 28) (nxt := 41) (w := 549) (b := 2) (ci := 11) (N := 17) (C := RX11) (T := TX11) [.ref 1, .ref 3, .null, .null, .null, .null, .null, .null, .null, .null, .null, .null, .null, .int 0, .int 0, .int 0, .int 0] (.object "NoonRinger$Reader") rfl (by decide +kernel) rfl (by decide +kernel) ?_
  refine xb (xmv A CS76) [(.aload_n 0, 1, 0, 0, .null)] (pc' := 42) (ls' := [some (.ref 0)]) (st' := [.ref 0]) (g' := w3) (by decide +kernel) rfl ?_
  refine xnew (xmv A CS76) hrm (by have h := hz; rw [ln_CS1] at h; rw [ln_CS76]; omega) (S' := CS77) (ix := 32) (nxt := 45) (ci := 10) 345 346 123 [.null, .null, .int 0] tyX10 tyX10_ok rfl rfl (by decide +kernel) ?_
  rw [ln_CS76]
  show xW k CS77 38 5116 45 [some (.ref 0)] [.ref 38, .ref 0] (xrow w3.1 38 (fun _ => 0), w3.2)
  refine xb (xmv A CS77) [(.dup, 1, 0, 0, .null), (.aload_n 0, 1, 0, 0, .null), (.getfield 19, 3, 0, 1, .ref 3)] (pc' := 50) (ls' := [some (.ref 0)]) (st' := [.ref 3, .ref 38, .ref 38, .ref 0]) (g' := (xrow w3.1 38 (fun _ => 0), w3.2)) (by decide +kernel) rfl ?_
  obtain ⟨w4, e4, H⟩ := xl_elim H
  refine xcallI (xmv A CS77) (ix := 34) (nxt := 53) hrm (by have h := hz; rw [ln_CS1] at h; rw [ln_CS77]; omega) [.ref 3] [.ref 38, .ref 0] 347 (c_n_c_38 _ e4) ok_X10_init (by decide +kernel) rfl (fun r g1 hq => ?_)
  rw [hq.1, hq.2]
  show xW k CS80 39 5165 53 [some (.ref 0)] [.ref 38, .ref 0] w4
  refine xputF (xmv A CS80) hi (S' := CS81) (ix := 37) (nxt := 56) (w := 550) (b := 3) (ci := 11) (N := 17) (C := RX11) (T := TX11) [.ref 1, .ref 3, .ref 17, .null, .null, .null, .null, .null, .null, .null, .null, .null, .null, .int 0, .int 0, .int 0, .int 0] (.object "NoonRinger$Ways") rfl (by decide +kernel) rfl (by decide +kernel) ?_
  refine xb (xmv A CS81) [(.aload_n 0, 1, 0, 0, .null)] (pc' := 57) (ls' := [some (.ref 0)]) (st' := [.ref 0]) (g' := w4) (by decide +kernel) rfl ?_
  refine xnew (xmv A CS81) hrm (by have h := hz; rw [ln_CS1] at h; rw [ln_CS81]; omega) (S' := CS82) (ix := 32) (nxt := 60) (ci := 10) 345 346 123 [.null, .null, .int 0] tyX10 tyX10_ok rfl rfl (by decide +kernel) ?_
  rw [ln_CS81]
  show xW k CS82 40 5168 60 [some (.ref 0)] [.ref 40, .ref 0] (xrow w4.1 40 (fun _ => 0), w4.2)
  refine xb (xmv A CS82) [(.dup, 1, 0, 0, .null), (.aload_n 0, 1, 0, 0, .null), (.getfield 19, 3, 0, 1, .ref 3)] (pc' := 65) (ls' := [some (.ref 0)]) (st' := [.ref 3, .ref 40, .ref 40, .ref 0]) (g' := (xrow w4.1 40 (fun _ => 0), w4.2)) (by decide +kernel) rfl ?_
  obtain ⟨w5, e5, H⟩ := xl_elim H
  refine xcallI (xmv A CS82) (ix := 34) (nxt := 68) hrm (by have h := hz; rw [ln_CS1] at h; rw [ln_CS82]; omega) [.ref 3] [.ref 40, .ref 0] 347 (c_n_c_40 _ e5) ok_X10_init (by decide +kernel) rfl (fun r g1 hq => ?_)
  rw [hq.1, hq.2]
  show xW k CS85 41 5217 68 [some (.ref 0)] [.ref 40, .ref 0] w5
  refine xputF (xmv A CS85) hi (S' := CS86) (ix := 41) (nxt := 71) (w := 551) (b := 4) (ci := 11) (N := 17) (C := RX11) (T := TX11) [.ref 1, .ref 3, .ref 17, .ref 38, .null, .null, .null, .null, .null, .null, .null, .null, .null, .int 0, .int 0, .int 0, .int 0] (.object "NoonRinger$Ways") rfl (by decide +kernel) rfl (by decide +kernel) ?_
  refine xb (xmv A CS86) [(.aload_n 0, 1, 0, 0, .null)] (pc' := 72) (ls' := [some (.ref 0)]) (st' := [.ref 0]) (g' := w5) (by decide +kernel) rfl ?_
  refine xnew (xmv A CS86) hrm (by have h := hz; rw [ln_CS1] at h; rw [ln_CS86]; omega) (S' := CS87) (ix := 44) (nxt := 75) (ci := 7) 361 362 124 [.null, .null, .null] tyX7 tyX7_ok rfl rfl (by decide +kernel) ?_
  rw [ln_CS86]
  show xW k CS87 42 5220 75 [some (.ref 0)] [.ref 42, .ref 0] (xrow w5.1 42 (fun _ => 0), w5.2)
  refine xb (xmv A CS87) [(.dup, 1, 0, 0, .null), (.aload_n 0, 1, 0, 0, .null), (.getfield 19, 3, 0, 1, .ref 3), (.aload_n 0, 1, 0, 0, .null), (.getfield 37, 3, 0, 3, .ref 38)] (pc' := 84) (ls' := [some (.ref 0)]) (st' := [.ref 38, .ref 3, .ref 42, .ref 42, .ref 0]) (g' := (xrow w5.1 42 (fun _ => 0), w5.2)) (by decide +kernel) rfl ?_
  obtain ⟨w6, e6, H⟩ := xl_elim H
  refine xcallI (xmv A CS87) (ix := 46) (nxt := 87) hrm (by have h := hz; rw [ln_CS1] at h; rw [ln_CS87]; omega) [.ref 3, .ref 38] [.ref 42, .ref 0] 363 (c_n_c_42 _ e6) ok_X7_init (by decide +kernel) rfl (fun r g1 hq => ?_)
  rw [hq.1, hq.2]
  show xW k CS91 43 6116 87 [some (.ref 0)] [.ref 42, .ref 0] w6
  refine xputF (xmv A CS91) hi (S' := CS92) (ix := 49) (nxt := 90) (w := 552) (b := 5) (ci := 11) (N := 17) (C := RX11) (T := TX11) [.ref 1, .ref 3, .ref 17, .ref 38, .ref 40, .null, .null, .null, .null, .null, .null, .null, .null, .int 0, .int 0, .int 0, .int 0] (.object "NoonRinger$Survey") rfl (by decide +kernel) rfl (by decide +kernel) ?_
  refine xb (xmv A CS92) [(.aload_n 0, 1, 0, 0, .null)] (pc' := 91) (ls' := [some (.ref 0)]) (st' := [.ref 0]) (g' := w6) (by decide +kernel) rfl ?_
  refine xnew (xmv A CS92) hrm (by have h := hz; rw [ln_CS1] at h; rw [ln_CS92]; omega) (S' := CS93) (ix := 53) (nxt := 94) (ci := 1) 377 378 125 [.null, .null, .null] tyX1 tyX1_ok rfl rfl (by decide +kernel) ?_
  rw [ln_CS92]
  show xW k CS93 44 6119 94 [some (.ref 0)] [.ref 44, .ref 0] (xrow w6.1 44 (fun _ => 0), w6.2)
  refine xb (xmv A CS93) [(.dup, 1, 0, 0, .null), (.aload_n 0, 1, 0, 0, .null), (.getfield 19, 3, 0, 1, .ref 3), (.aload_n 0, 1, 0, 0, .null), (.getfield 37, 3, 0, 3, .ref 38)] (pc' := 103) (ls' := [some (.ref 0)]) (st' := [.ref 38, .ref 3, .ref 44, .ref 44, .ref 0]) (g' := (xrow w6.1 44 (fun _ => 0), w6.2)) (by decide +kernel) rfl ?_
  obtain ⟨w7, e7, H⟩ := xl_elim H
  refine xcallI (xmv A CS93) (ix := 55) (nxt := 106) hrm (by have h := hz; rw [ln_CS1] at h; rw [ln_CS93]; omega) [.ref 3, .ref 38] [.ref 44, .ref 0] 379 (c_n_c_44 _ e7) ok_X1_init (by decide +kernel) rfl (fun r g1 hq => ?_)
  rw [hq.1, hq.2]
  show xW k CS97 45 6128 106 [some (.ref 0)] [.ref 44, .ref 0] w7
  refine xputF (xmv A CS97) hi (S' := CS98) (ix := 56) (nxt := 109) (w := 553) (b := 6) (ci := 11) (N := 17) (C := RX11) (T := TX11) [.ref 1, .ref 3, .ref 17, .ref 38, .ref 40, .ref 42, .null, .null, .null, .null, .null, .null, .null, .int 0, .int 0, .int 0, .int 0] (.object "NoonRinger$Judge") rfl (by decide +kernel) rfl (by decide +kernel) ?_
  refine xb (xmv A CS98) [(.aload_n 0, 1, 0, 0, .null)] (pc' := 110) (ls' := [some (.ref 0)]) (st' := [.ref 0]) (g' := w7) (by decide +kernel) rfl ?_
  refine xnew (xmv A CS98) hrm (by have h := hz; rw [ln_CS1] at h; rw [ln_CS98]; omega) (S' := CS99) (ix := 53) (nxt := 113) (ci := 1) 377 378 125 [.null, .null, .null] tyX1 tyX1_ok rfl rfl (by decide +kernel) ?_
  rw [ln_CS98]
  show xW k CS99 46 6131 113 [some (.ref 0)] [.ref 46, .ref 0] (xrow w7.1 46 (fun _ => 0), w7.2)
  refine xb (xmv A CS99) [(.dup, 1, 0, 0, .null), (.aload_n 0, 1, 0, 0, .null), (.getfield 19, 3, 0, 1, .ref 3), (.aload_n 0, 1, 0, 0, .null), (.getfield 41, 3, 0, 4, .ref 40)] (pc' := 122) (ls' := [some (.ref 0)]) (st' := [.ref 40, .ref 3, .ref 46, .ref 46, .ref 0]) (g' := (xrow w7.1 46 (fun _ => 0), w7.2)) (by decide +kernel) rfl ?_
  obtain ⟨w8, e8, H⟩ := xl_elim H
  refine xcallI (xmv A CS99) (ix := 55) (nxt := 125) hrm (by have h := hz; rw [ln_CS1] at h; rw [ln_CS99]; omega) [.ref 3, .ref 40] [.ref 46, .ref 0] 379 (c_n_c_46 _ e8) ok_X1_init (by decide +kernel) rfl (fun r g1 hq => ?_)
  rw [hq.1, hq.2]
  show xW k CS103 47 6140 125 [some (.ref 0)] [.ref 46, .ref 0] w8
  refine xputF (xmv A CS103) hi (S' := CS104) (ix := 60) (nxt := 128) (w := 554) (b := 7) (ci := 11) (N := 17) (C := RX11) (T := TX11) [.ref 1, .ref 3, .ref 17, .ref 38, .ref 40, .ref 42, .ref 44, .null, .null, .null, .null, .null, .null, .int 0, .int 0, .int 0, .int 0] (.object "NoonRinger$Judge") rfl (by decide +kernel) rfl (by decide +kernel) ?_
  refine xb (xmv A CS104) [(.aload_n 0, 1, 0, 0, .null)] (pc' := 129) (ls' := [some (.ref 0)]) (st' := [.ref 0]) (g' := w8) (by decide +kernel) rfl ?_
  refine xnew (xmv A CS104) hrm (by have h := hz; rw [ln_CS1] at h; rw [ln_CS104]; omega) (S' := CS105) (ix := 63) (nxt := 132) (ci := 6) 393 394 126 [.null] tyX6 tyX6_ok rfl rfl (by decide +kernel) ?_
  rw [ln_CS104]
  show xW k CS105 48 6141 132 [some (.ref 0)] [.ref 48, .ref 0] (xrow w8.1 48 (fun _ => 0), w8.2)
  refine xb (xmv A CS105) [(.dup, 1, 0, 0, .null)] (pc' := 133) (ls' := [some (.ref 0)]) (st' := [.ref 48, .ref 48, .ref 0]) (g' := (xrow w8.1 48 (fun _ => 0), w8.2)) (by decide +kernel) rfl ?_
  obtain ⟨w9, e9, H⟩ := xl_elim H
  refine xcallIN (xmv A CS105) (ix := 65) (nxt := 136) (host := "NoonRinger") hrm (by have h := hz; rw [ln_CS1] at h; rw [ln_CS105]; omega) [] [.ref 48, .ref 0] 5 (c_n_c_48 _ e9) ok_X6_init (by decide +kernel) rfl (fun r g1 hq => ?_)
  rw [hq.1, hq.2]
  show xW k CS107 49 6176 136 [some (.ref 0)] [.ref 48, .ref 0] w9
  refine xputF (xmv A CS107) hi (S' := CS108) (ix := 66) (nxt := 139) (w := 555) (b := 8) (ci := 11) (N := 17) (C := RX11) (T := TX11) [.ref 1, .ref 3, .ref 17, .ref 38, .ref 40, .ref 42, .ref 44, .ref 46, .null, .null, .null, .null, .null, .int 0, .int 0, .int 0, .int 0] (.object "NoonRinger$State") rfl (by decide +kernel) rfl (by decide +kernel) ?_
  refine xb (xmv A CS108) [(.aload_n 0, 1, 0, 0, .null)] (pc' := 140) (ls' := [some (.ref 0)]) (st' := [.ref 0]) (g' := w9) (by decide +kernel) rfl ?_
  refine xnew (xmv A CS108) hrm (by have h := hz; rw [ln_CS1] at h; rw [ln_CS108]; omega) (S' := CS109) (ix := 63) (nxt := 143) (ci := 6) 393 394 126 [.null] tyX6 tyX6_ok rfl rfl (by decide +kernel) ?_
  rw [ln_CS108]
  show xW k CS109 50 6177 143 [some (.ref 0)] [.ref 50, .ref 0] (xrow w9.1 50 (fun _ => 0), w9.2)
  refine xb (xmv A CS109) [(.dup, 1, 0, 0, .null)] (pc' := 144) (ls' := [some (.ref 0)]) (st' := [.ref 50, .ref 50, .ref 0]) (g' := (xrow w9.1 50 (fun _ => 0), w9.2)) (by decide +kernel) rfl ?_
  obtain ⟨w10, e10, H⟩ := xl_elim H
  refine xcallIN (xmv A CS109) (ix := 65) (nxt := 147) (host := "NoonRinger") hrm (by have h := hz; rw [ln_CS1] at h; rw [ln_CS109]; omega) [] [.ref 50, .ref 0] 5 (c_n_c_50 _ e10) ok_X6_init (by decide +kernel) rfl (fun r g1 hq => ?_)
  rw [hq.1, hq.2]
  show xW k CS111 51 6212 147 [some (.ref 0)] [.ref 50, .ref 0] w10
  refine xputF (xmv A CS111) hi (S' := CS112) (ix := 70) (nxt := 150) (w := 556) (b := 9) (ci := 11) (N := 17) (C := RX11) (T := TX11) [.ref 1, .ref 3, .ref 17, .ref 38, .ref 40, .ref 42, .ref 44, .ref 46, .ref 48, .null, .null, .null, .null, .int 0, .int 0, .int 0, .int 0] (.object "NoonRinger$State") rfl (by decide +kernel) rfl (by decide +kernel) ?_
  refine xb (xmv A CS112) [(.aload_n 0, 1, 0, 0, .null)] (pc' := 151) (ls' := [some (.ref 0)]) (st' := [.ref 0]) (g' := w10) (by decide +kernel) rfl ?_
  refine xnew (xmv A CS112) hrm (by have h := hz; rw [ln_CS1] at h; rw [ln_CS112]; omega) (S' := CS113) (ix := 73) (nxt := 154) (ci := 5) 403 404 127 [.null] tyX5 tyX5_ok rfl rfl (by decide +kernel) ?_
  rw [ln_CS112]
  show xW k CS113 52 6213 154 [some (.ref 0)] [.ref 52, .ref 0] (xrow w10.1 52 (fun _ => 0), w10.2)
  refine xb (xmv A CS113) [(.dup, 1, 0, 0, .null), (.bipush 40, 2, 0, 0, .int 40)] (pc' := 157) (ls' := [some (.ref 0)]) (st' := [.int 40, .ref 52, .ref 52, .ref 0]) (g' := (xrow w10.1 52 (fun _ => 0), w10.2)) (by decide +kernel) rfl ?_
  obtain ⟨w11, e11, H⟩ := xl_elim H
  refine xcallI (xmv A CS113) (ix := 75) (nxt := 160) hrm (by have h := hz; rw [ln_CS1] at h; rw [ln_CS113]; omega) [.int 40] [.ref 52, .ref 0] 405 (c_n_c_52 _ e11) ok_X5_init (by decide +kernel) rfl (fun r g1 hq => ?_)
  rw [hq.1, hq.2]
  show xW k CS115 53 7613 160 [some (.ref 0)] [.ref 52, .ref 0] w11
  refine xputF (xmv A CS115) hi (S' := CS116) (ix := 78) (nxt := 163) (w := 557) (b := 10) (ci := 11) (N := 17) (C := RX11) (T := TX11) [.ref 1, .ref 3, .ref 17, .ref 38, .ref 40, .ref 42, .ref 44, .ref 46, .ref 48, .ref 50, .null, .null, .null, .int 0, .int 0, .int 0, .int 0] (.object "NoonRinger$Shelf") rfl (by decide +kernel) rfl (by decide +kernel) ?_
  refine xb (xmv A CS116) [(.aload_n 0, 1, 0, 0, .null)] (pc' := 164) (ls' := [some (.ref 0)]) (st' := [.ref 0]) (g' := w11) (by decide +kernel) rfl ?_
  refine xnew (xmv A CS116) hrm (by have h := hz; rw [ln_CS1] at h; rw [ln_CS116]; omega) (S' := CS117) (ix := 73) (nxt := 167) (ci := 5) 403 404 127 [.null] tyX5 tyX5_ok rfl rfl (by decide +kernel) ?_
  rw [ln_CS116]
  show xW k CS117 54 7614 167 [some (.ref 0)] [.ref 54, .ref 0] (xrow w11.1 54 (fun _ => 0), w11.2)
  refine xb (xmv A CS117) [(.dup, 1, 0, 0, .null), (.iconst 3, 1, 0, 0, .int 3)] (pc' := 169) (ls' := [some (.ref 0)]) (st' := [.int 3, .ref 54, .ref 54, .ref 0]) (g' := (xrow w11.1 54 (fun _ => 0), w11.2)) (by decide +kernel) rfl ?_
  obtain ⟨w12, e12, H⟩ := xl_elim H
  refine xcallI (xmv A CS117) (ix := 75) (nxt := 172) hrm (by have h := hz; rw [ln_CS1] at h; rw [ln_CS117]; omega) [.int 3] [.ref 54, .ref 0] 405 (c_n_c_54 _ e12) ok_X5_init (by decide +kernel) rfl (fun r g1 hq => ?_)
  rw [hq.1, hq.2]
  show xW k CS119 55 7719 172 [some (.ref 0)] [.ref 54, .ref 0] w12
  refine xputF (xmv A CS119) hi (S' := CS120) (ix := 82) (nxt := 175) (w := 558) (b := 11) (ci := 11) (N := 17) (C := RX11) (T := TX11) [.ref 1, .ref 3, .ref 17, .ref 38, .ref 40, .ref 42, .ref 44, .ref 46, .ref 48, .ref 50, .ref 52, .null, .null, .int 0, .int 0, .int 0, .int 0] (.object "NoonRinger$Shelf") rfl (by decide +kernel) rfl (by decide +kernel) ?_
  refine xb (xmv A CS120) [(.aload_n 0, 1, 0, 0, .null)] (pc' := 176) (ls' := [some (.ref 0)]) (st' := [.ref 0]) (g' := w12) (by decide +kernel) rfl ?_
  refine xnew (xmv A CS120) hrm (by have h := hz; rw [ln_CS1] at h; rw [ln_CS120]; omega) (S' := CS121) (ix := 85) (nxt := 179) (ci := 0) 416 417 129 [.null, .null, .null, .null, .null, .int 0] tyX0 tyX0_ok rfl rfl (by decide +kernel) ?_
  rw [ln_CS120]
  show xW k CS121 56 7725 179 [some (.ref 0)] [.ref 56, .ref 0] (xrow w12.1 56 (fun _ => 0), w12.2)
  refine xb (xmv A CS121) [(.dup, 1, 0, 0, .null), (.aload_n 0, 1, 0, 0, .null), (.getfield 19, 3, 0, 1, .ref 3), (.aload_n 0, 1, 0, 0, .null), (.getfield 56, 3, 0, 6, .ref 44)] (pc' := 188) (ls' := [some (.ref 0)]) (st' := [.ref 44, .ref 3, .ref 56, .ref 56, .ref 0]) (g' := (xrow w12.1 56 (fun _ => 0), w12.2)) (by decide +kernel) rfl ?_
  obtain ⟨w13, e13, H⟩ := xl_elim H
  refine xcallI (xmv A CS121) (ix := 87) (nxt := 191) hrm (by have h := hz; rw [ln_CS1] at h; rw [ln_CS121]; omega) [.ref 3, .ref 44] [.ref 56, .ref 0] 418 (c_n_c_56 _ e13) ok_X0_init (by decide +kernel) rfl (fun r g1 hq => ?_)
  rw [hq.1, hq.2]
  show xW k CS129 59 7772 191 [some (.ref 0)] [.ref 56, .ref 0] w13
  refine xputF (xmv A CS129) hi (S' := CS130) (ix := 90) (nxt := 194) (w := 559) (b := 12) (ci := 11) (N := 17) (C := RX11) (T := TX11) [.ref 1, .ref 3, .ref 17, .ref 38, .ref 40, .ref 42, .ref 44, .ref 46, .ref 48, .ref 50, .ref 52, .ref 54, .null, .int 0, .int 0, .int 0, .int 0] (.object "NoonRinger$Hearsay") rfl (by decide +kernel) rfl (by decide +kernel) ?_
  refine xb (xmv A CS130) [(.aload_n 0, 1, 0, 0, .null), (.iconst (-1), 1, 0, 0, .int (-1)), (.putfield 94, 3, 0, 16, .int 0)] (pc' := 199) (ls' := [some (.ref 0)]) (st' := []) (g' := (xupd w13.1 0 16 (-1), w13.2)) (by decide +kernel) rfl ?_
  exact t_tl_c (eq_CS130 ▸ fun _ _ h => h) (xmvp A (eq_CS130 ▸ fun _ _ h => h)) hR hrm (by have h := hz; rw [ln_CS1] at h; rw [ln_CS130]; omega) H
