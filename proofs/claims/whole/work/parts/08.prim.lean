/-! shapes, and the five helpers over rows, by hand -/
def SH1 : List xSh := [.inr (11, [.ref 1, .ref 3, .ref 17, .ref 38, .ref 40, .ref 42, .ref 44, .ref 46, .ref 48, .ref 50, .ref 52, .ref 54, .ref 56, .int 0, .int 0, .int 0, .int 0]),
  .inr (8, [.ref 2, .int 0]),
  .inl (.byte, 2000),
  .inr (4, [.ref 4, .ref 5, .ref 6, .ref 7, .ref 8, .ref 9, .ref 10, .ref 11, .ref 12, .int 0, .int 0, .int 0, .int 0, .int 0]),
  .inl (.long, 7),
  .inl (.int, 10),
  .inl (.int, 10),
  .inl (.int, 10),
  .inl (.long, 6),
  .inl (.int, 6),
  .inl (.int, 6),
  .inl (.int, 6),
  .inr (2, [.ref 13, .ref 14, .ref 15, .ref 16, .int 0]),
  .inl (.int, 408),
  .inl (.int, 408),
  .inl (.int, 4),
  .inl (.int, 24),
  .inr (3, [.ref 1, .ref 18, .ref 23, .ref 37, .int 0, .int 0, .int 0, .int 0, .int 0]),
  .inr (9, [.ref 19, .ref 20, .ref 21, .ref 22, .int 0, .int 0]),
  .inl (.int, 402),
  .inl (.int, 402),
  .inl (.long, 402),
  .inl (.long, 21),
  .inr (4, [.ref 24, .ref 25, .ref 26, .ref 27, .ref 28, .ref 29, .ref 30, .ref 31, .ref 32, .int 0, .int 0, .int 0, .int 0, .int 0]),
  .inl (.long, 7),
  .inl (.int, 10),
  .inl (.int, 10),
  .inl (.int, 10),
  .inl (.long, 6),
  .inl (.int, 6),
  .inl (.int, 6),
  .inl (.int, 6),
  .inr (2, [.ref 33, .ref 34, .ref 35, .ref 36, .int 0]),
  .inl (.int, 408),
  .inl (.int, 408),
  .inl (.int, 4),
  .inl (.int, 24),
  .inl (.int, 21),
  .inr (10, [.ref 3, .ref 39, .int 0]),
  .inl (.int, 49),
  .inr (10, [.ref 3, .ref 41, .int 0]),
  .inl (.int, 49),
  .inr (7, [.ref 3, .ref 38, .ref 43]),
  .inl (.int, 896),
  .inr (1, [.ref 3, .ref 38, .ref 45]),
  .inl (.int, 9),
  .inr (1, [.ref 3, .ref 40, .ref 47]),
  .inl (.int, 9),
  .inr (6, [.ref 49]),
  .inl (.int, 35),
  .inr (6, [.ref 51]),
  .inl (.int, 35),
  .inr (5, [.ref 53]),
  .inl (.int, 1400),
  .inr (5, [.ref 55]),
  .inl (.int, 105),
  .inr (0, [.ref 3, .ref 44, .ref 57, .ref 58, .ref 59, .int 0]),
  .inl (.int, 20),
  .inl (.boolean, 20),
  .inl (.int, 7)]
def SH2 : List xSh := SH1 ++ [.inr (12, [.int 0, .ref 61, .int 0, .ref 62, .int 0, .ref 63, .ref 64, .ref 65, .ref 66, .ref 67, .int 0, .int 0, .int 0, .int 0, .int 0, .int 0, .int 0, .int 0, .int 0, .int 0, .int 0, .ref 68, .ref 69, .ref 70, .ref 71, .ref 72, .ref 73, .ref 74, .ref 75, .ref 76, .ref 77, .ref 78, .ref 79, .ref 80, .ref 81, .ref 82, .int 0, .ref 83, .ref 84, .ref 85, .ref 86, .ref 87, .int 0, .ref 88, .ref 89, .ref 90, .int 0, .ref 91, .ref 92, .int 1, .ref 93, .ref 94, .int 0, .int 1, .ref 95, .int 0, .ref 96, .ref 97, .int 0, .ref 98, .ref 99, .ref 100, .ref 101, .ref 102]),
  .inl (.byte, 2000),
  .inl (.byte, 2000),
  .inl (.int, 403),
  .inl (.int, 403),
  .inl (.int, 403),
  .inl (.long, 403),
  .inl (.long, 21),
  .inl (.long, 13),
  .inl (.int, 13),
  .inl (.int, 2),
  .inl (.int, 2),
  .inl (.int, 20),
  .inl (.int, 20),
  .inl (.int, 20),
  .inl (.int, 2),
  .inl (.int, 12),
  .inl (.int, 12),
  .inl (.int, 12),
  .inl (.int, 2),
  .inl (.int, 2),
  .inl (.int, 8),
  .inl (.int, 8),
  .inl (.boolean, 260),
  .inl (.int, 260),
  .inl (.int, 260),
  .inl (.int, 260),
  .inl (.int, 260),
  .inl (.int, 840),
  .inl (.int, 840),
  .inl (.int, 64),
  .inl (.int, 9),
  .inl (.int, 400),
  .inl (.int, 40),
  .inl (.int, 40),
  .inl (.int, 49),
  .inl (.int, 1600),
  .inl (.int, 896),
  .inl (.int, 20),
  .inl (.boolean, 20),
  .inl (.int, 7),
  .inl (.boolean, 3),
  .inl (.int, 120)]
abbrev xpf (SH S : List xSh) : Prop := ∀ (q : Nat) (c : xSh), SH[q]? = some c → S[q]? = some c
def xl {α β : Type} (a : α) (k : α → β) : β := k a
theorem xl_elim {α β : Type} {a : α} {k : α → β} {o : β} (h : xl a k = o) : ∃ w, a = w ∧ k w = o := ⟨a, rfl, h⟩
theorem xbind {α β : Type} {x : Option α} {f : α → Option β} {o : β} (h : x.bind f = some o) : ∃ w, x = some w ∧ f w = some o := Option.bind_eq_some_iff.mp h
def xg {α : Type} (c : Prop) [Decidable c] (E : Option α) : Option α := if c then E else none
theorem xg_elim {α : Type} {c : Prop} [Decidable c] {E : Option α} {o : α} (h : xg c E = some o) : c ∧ E = some o := by
  unfold xg at h
  split at h
  next hc => exact ⟨hc, h⟩
  next => cases h
section
variable {k : xK} {cc : ByteArray} {own : Nat} {SH S : List xSh} {cells slots pc : Nat} {ls : List (Option Value)} {st : List Value} {g : xG}
theorem xifnull (A : xAt k cc own SH S) {q nxt : Nat} (off : Int) (hd : (decide (decode cc pc = .ok (.ifnull off, 3)) && Nat.beq (pc + 3) nxt) = true) (kk : xW k S cells slots nxt ls st g) : xW k S cells slots pc ls (.ref q :: st) g := by
  obtain ⟨hc, hcc, -⟩ := A
  obtain ⟨p, l, e, R, s, m, args, below, meth, c, Q, cc0, nL, ow, D, cA, b0, fz⟩ := k
  obtain rfl : cc0 = cc := hcc
  simp only [Bool.and_eq_true, decide_eq_true_eq, Nat.beq_eq] at hd
  obtain ⟨hd, rfl⟩ := hd
  exact fun H locs La hn hL hP hS => lv_ifnull hc.1 hc.2.1 hd (kk H locs La hn hL hP hS)
theorem xalen (A : xAt k cc own SH S) {q n nxt : Nat} {ty : FieldType} (hty : ty = .int ∨ ty = .long) (hd : (decide (decode cc pc = .ok (.arraylength, 1)) && Nat.beq (pc + 1) nxt) = true) (hq : S[q]? = some (.inl (ty, n))) (kk : xW k S cells slots nxt ls (.int (Int32.ofNat n) :: st) g) : xW k S cells slots pc ls (.ref q :: st) g := by
  obtain ⟨hc, hcc, -⟩ := A
  obtain ⟨p, l, e, R, s, m, args, below, meth, c, Q, cc0, nL, ow, D, cA, b0, fz⟩ := k
  obtain rfl : cc0 = cc := hcc
  simp only [Bool.and_eq_true, decide_eq_true_eq, Nat.beq_eq] at hd
  obtain ⟨hd, rfl⟩ := hd
  intro H locs La hn hL hP hS
  have hg := xWd_get (b0 := b0) (fz := fz) (cA := cA) (g := g) hq
  rcases hty with rfl | rfl
  · exact va_alen hc.1 hc.2.1 hc.2.2.2.2.2.1 hP _ 0 hg rfl rfl hd (kk H locs La hn hL hP hS)
  · exact va_alen hc.1 hc.2.1 hc.2.2.2.2.2.1 hP _ 1 hg rfl rfl hd (kk H locs La hn hL hP hS)
end
theorem xvin {i : Int32} {n : Nat} (h1 : ¬ i < 0) (h2 : ¬ Int32.ofNat n ≤ i) (hn : n < 2 ^ 31) : vp_in i n := by
  rcases pk_ix i hn with h | h | ⟨j, hj, rfl⟩
  · exact absurd h h1
  · exact absurd h h2
  · exact vp_in_nI hj hn
def xat (g : xG) (q n : Nat) (i : Int32) : Int32 := if i < 0 then 0 else if Int32.ofNat n ≤ i then 0 else g.1 q i.toNatClampNeg
def xlat (g : xG) (q n : Nat) (i : Int32) : Int64 := if i < 0 then 0 else if Int32.ofNat n ≤ i then 0 else g.2 q i.toNatClampNeg
def xput (g : xG) (q n : Nat) (i v : Int32) : xG := if i < 0 then g else if Int32.ofNat n ≤ i then g else (xupd g.1 q i.toNatClampNeg v, g.2)
def xlput (g : xG) (q n : Nat) (i : Int32) (v : Int64) : xG := if i < 0 then g else if Int32.ofNat n ≤ i then g else (g.1, xupdL g.2 q i.toNatClampNeg v)
def xcopy (g : xG) (a b n : Nat) : xG := (xrow g.1 b (fun j => if j < n then g.1 a j else g.1 b j), g.2)

theorem c_X11_at {S : List xSh} {g : xG} {q n : Nat} {i : Int32} (hq : S[q]? = some (.inl (.int, n))) (hn : n < 2 ^ 31) : xC mX11_at 0 0 0 0 S [.ref q, .int i] g S (fun r g' => r = some (.int (xat g q n i)) ∧ g' = g) := by
  refine xC.of 11 [] [some (.ref q), some (.int i)] (fun _ _ h => by simp at h) (by decide +kernel) rfl (fun _ _ => Nat.le_of_ble_eq_true rfl) (fun _ _ => rfl) ?_
  intro k A hR hrm hz
  refine xb A [(.aload_n 0, 1, 0, 0, .null)] (pc' := 1) (ls' := [some (.ref q), some (.int i)]) (st' := [.ref q]) (g' := g) (by decide +kernel) rfl ?_
  refine xifnull A (nxt := 4) 19 (by decide +kernel) ?_
  refine xb A [(.iload_n 1, 1, 0, 0, .null)] (pc' := 5) (ls' := [some (.ref q), some (.int i)]) (st' := [.int i]) (g' := g) (by decide +kernel) rfl ?_
  have hend : ∀ r, xat g q n i = r → xW k S 0 0 21 [some (.ref q), some (.int i)] [.int r] g := fun r h => xret_i A hR hz (by decide +kernel) rfl ⟨by rw [h], rfl⟩
  refine xif_lt A 15 20 8 (by decide +kernel) (fun h1 => ?_) (fun h1 => ?_)
  · refine xb A [(.iconst 0, 1, 0, 0, .int 0)] (pc' := 21) (ls' := [some (.ref q), some (.int i)]) (st' := [.int 0]) (g' := g) (by decide +kernel) rfl ?_
    exact hend _ (by rw [xat, if_pos h1])
  · refine xb A [(.iload_n 1, 1, 0, 0, .null), (.aload_n 0, 1, 0, 0, .null)] (pc' := 10) (ls' := [some (.ref q), some (.int i)]) (st' := [.ref q, .int i]) (g' := g) (by decide +kernel) rfl ?_
    refine xalen A (Or.inl rfl) (nxt := 11) (by decide +kernel) hq ?_
    refine xic_ge A 9 20 14 (by decide +kernel) (fun h2 => ?_) (fun h2 => ?_)
    · refine xb A [(.iconst 0, 1, 0, 0, .int 0)] (pc' := 21) (ls' := [some (.ref q), some (.int i)]) (st' := [.int 0]) (g' := g) (by decide +kernel) rfl ?_
      exact hend _ (by rw [xat, if_neg h1, if_pos h2])
    · refine xb A [(.aload_n 0, 1, 0, 0, .null), (.iload_n 1, 1, 0, 0, .null)] (pc' := 16) (ls' := [some (.ref q), some (.int i)]) (st' := [.int i, .ref q]) (g' := g) (by decide +kernel) rfl ?_
      refine xiald A (nxt := 17) (by decide +kernel) hq (xvin h1 h2 hn) ?_
      refine xgoto A 4 21 (by decide +kernel) ?_
      exact hend _ (by rw [xat, if_neg h1, if_neg h2])
theorem c_X11_longAt {S : List xSh} {g : xG} {q n : Nat} {i : Int32} (hq : S[q]? = some (.inl (.long, n))) (hn : n < 2 ^ 31) : xC mX11_longAt 0 0 0 0 S [.ref q, .int i] g S (fun r g' => r = some (.long (xlat g q n i)) ∧ g' = g) := by
  refine xC.of 11 [] [some (.ref q), some (.int i)] (fun _ _ h => by simp at h) (by decide +kernel) rfl (fun _ _ => Nat.le_of_ble_eq_true rfl) (fun _ _ => rfl) ?_
  intro k A hR hrm hz
  refine xb A [(.aload_n 0, 1, 0, 0, .null)] (pc' := 1) (ls' := [some (.ref q), some (.int i)]) (st' := [.ref q]) (g' := g) (by decide +kernel) rfl ?_
  refine xifnull A (nxt := 4) 19 (by decide +kernel) ?_
  refine xb A [(.iload_n 1, 1, 0, 0, .null)] (pc' := 5) (ls' := [some (.ref q), some (.int i)]) (st' := [.int i]) (g' := g) (by decide +kernel) rfl ?_
  have hend : ∀ r, xlat g q n i = r → xW k S 0 0 21 [some (.ref q), some (.int i)] [.long r] g := fun r h => xret_l A hR hz (by decide +kernel) ⟨by rw [h], rfl⟩
  refine xif_lt A 15 20 8 (by decide +kernel) (fun h1 => ?_) (fun h1 => ?_)
  · refine xb A [(.lconst 0, 1, 0, 0, .long 0)] (pc' := 21) (ls' := [some (.ref q), some (.int i)]) (st' := [.long 0]) (g' := g) (by decide +kernel) rfl ?_
    exact hend _ (by rw [xlat, if_pos h1])
  · refine xb A [(.iload_n 1, 1, 0, 0, .null), (.aload_n 0, 1, 0, 0, .null)] (pc' := 10) (ls' := [some (.ref q), some (.int i)]) (st' := [.ref q, .int i]) (g' := g) (by decide +kernel) rfl ?_
    refine xalen A (Or.inr rfl) (nxt := 11) (by decide +kernel) hq ?_
    refine xic_ge A 9 20 14 (by decide +kernel) (fun h2 => ?_) (fun h2 => ?_)
    · refine xb A [(.lconst 0, 1, 0, 0, .long 0)] (pc' := 21) (ls' := [some (.ref q), some (.int i)]) (st' := [.long 0]) (g' := g) (by decide +kernel) rfl ?_
      exact hend _ (by rw [xlat, if_neg h1, if_pos h2])
    · refine xb A [(.aload_n 0, 1, 0, 0, .null), (.iload_n 1, 1, 0, 0, .null)] (pc' := 16) (ls' := [some (.ref q), some (.int i)]) (st' := [.int i, .ref q]) (g' := g) (by decide +kernel) rfl ?_
      refine xlald A (nxt := 17) (by decide +kernel) hq (xvin h1 h2 hn) ?_
      refine xgoto A 4 21 (by decide +kernel) ?_
      exact hend _ (by rw [xlat, if_neg h1, if_neg h2])
theorem c_X11_put {S : List xSh} {g : xG} {q n : Nat} {i : Int32} {v : Int32} (hq : S[q]? = some (.inl (.int, n))) (hn : n < 2 ^ 31) : xC mX11_put 0 0 0 0 S [.ref q, .int i, .int v] g S (fun r g' => r = none ∧ g' = xput g q n i v) := by
  refine xC.of 11 [] [some (.ref q), some (.int i), some (.int v)] (fun _ _ h => by simp at h) (by decide +kernel) rfl (fun _ _ => Nat.le_of_ble_eq_true rfl) (fun _ _ => rfl) ?_
  intro k A hR hrm hz
  refine xb A [(.aload_n 0, 1, 0, 0, .null)] (pc' := 1) (ls' := [some (.ref q), some (.int i), some (.int v)]) (st' := [.ref q]) (g' := g) (by decide +kernel) rfl ?_
  refine xifnull A (nxt := 4) 17 (by decide +kernel) ?_
  refine xb A [(.iload_n 1, 1, 0, 0, .null)] (pc' := 5) (ls' := [some (.ref q), some (.int i), some (.int v)]) (st' := [.int i]) (g' := g) (by decide +kernel) rfl ?_
  refine xif_lt A 13 18 8 (by decide +kernel) (fun h1 => ?_) (fun h1 => ?_)
  · exact xret_v A hR hz (by decide +kernel) ⟨rfl, by rw [xput, if_pos h1]⟩
  · refine xb A [(.iload_n 1, 1, 0, 0, .null), (.aload_n 0, 1, 0, 0, .null)] (pc' := 10) (ls' := [some (.ref q), some (.int i), some (.int v)]) (st' := [.ref q, .int i]) (g' := g) (by decide +kernel) rfl ?_
    refine xalen A (Or.inl rfl) (nxt := 11) (by decide +kernel) hq ?_
    refine xic_ge A 7 18 14 (by decide +kernel) (fun h2 => ?_) (fun h2 => ?_)
    · exact xret_v A hR hz (by decide +kernel) ⟨rfl, by rw [xput, if_neg h1, if_pos h2]⟩
    · refine xb A [(.aload_n 0, 1, 0, 0, .null), (.iload_n 1, 1, 0, 0, .null), (.iload_n 2, 1, 0, 0, .null)] (pc' := 17) (ls' := [some (.ref q), some (.int i), some (.int v)]) (st' := [.int v, .int i, .ref q]) (g' := g) (by decide +kernel) rfl ?_
      refine xiast A (nxt := 18) (by decide +kernel) hq (xvin h1 h2 hn) ?_
      exact xret_v A hR hz (by decide +kernel) ⟨rfl, by rw [xput, if_neg h1, if_neg h2]⟩
theorem c_X11_putLong {S : List xSh} {g : xG} {q n : Nat} {i : Int32} {v : Int64} (hq : S[q]? = some (.inl (.long, n))) (hn : n < 2 ^ 31) : xC mX11_putLong 0 0 0 0 S [.ref q, .int i, .long v] g S (fun r g' => r = none ∧ g' = xlput g q n i v) := by
  refine xC.of 11 [] [some (.ref q), some (.int i), some (.long v), none] (fun _ _ h => by simp at h) (by decide +kernel) rfl (fun _ _ => Nat.le_of_ble_eq_true rfl) (fun _ _ => rfl) ?_
  intro k A hR hrm hz
  refine xb A [(.aload_n 0, 1, 0, 0, .null)] (pc' := 1) (ls' := [some (.ref q), some (.int i), some (.long v), none]) (st' := [.ref q]) (g' := g) (by decide +kernel) rfl ?_
  refine xifnull A (nxt := 4) 17 (by decide +kernel) ?_
  refine xb A [(.iload_n 1, 1, 0, 0, .null)] (pc' := 5) (ls' := [some (.ref q), some (.int i), some (.long v), none]) (st' := [.int i]) (g' := g) (by decide +kernel) rfl ?_
  refine xif_lt A 13 18 8 (by decide +kernel) (fun h1 => ?_) (fun h1 => ?_)
  · exact xret_v A hR hz (by decide +kernel) ⟨rfl, by rw [xlput, if_pos h1]⟩
  · refine xb A [(.iload_n 1, 1, 0, 0, .null), (.aload_n 0, 1, 0, 0, .null)] (pc' := 10) (ls' := [some (.ref q), some (.int i), some (.long v), none]) (st' := [.ref q, .int i]) (g' := g) (by decide +kernel) rfl ?_
    refine xalen A (Or.inr rfl) (nxt := 11) (by decide +kernel) hq ?_
    refine xic_ge A 7 18 14 (by decide +kernel) (fun h2 => ?_) (fun h2 => ?_)
    · exact xret_v A hR hz (by decide +kernel) ⟨rfl, by rw [xlput, if_neg h1, if_pos h2]⟩
    · refine xb A [(.aload_n 0, 1, 0, 0, .null), (.iload_n 1, 1, 0, 0, .null), (.lload_n 2, 1, 0, 0, .null)] (pc' := 17) (ls' := [some (.ref q), some (.int i), some (.long v), none]) (st' := [.long v, .int i, .ref q]) (g' := g) (by decide +kernel) rfl ?_
      refine xlast A (nxt := 18) (by decide +kernel) hq (xvin h1 h2 hn) ?_
      exact xret_v A hR hz (by decide +kernel) ⟨rfl, by rw [xlput, if_neg h1, if_neg h2]⟩
theorem xcopy_step {g : xG} {a b n i : Nat} (hab : a ≠ b) (hi : i < n) : ((xupd (xrow g.1 b (fun j => if j < i then g.1 a j else g.1 b j)) b i ((xrow g.1 b (fun j => if j < i then g.1 a j else g.1 b j)) a i), g.2) : xG) = (xrow g.1 b (fun j => if j < i + 1 then g.1 a j else g.1 b j), g.2) := by
  refine Prod.ext ?_ rfl
  funext q j
  by_cases hq : q = b
  · subst hq
    simp only [xupd_same, xrow_same, upd, xrow_ne hab]
    by_cases hj : j = i
    · subst hj; simp
    · simp only [hj, if_false]
      by_cases h2 : j < i
      · simp [h2, Nat.lt_succ_of_lt h2]
      · have : ¬ j < i + 1 := by omega
        simp [h2, this]
  · simp [xupd, xrow, hq]
theorem c_X11_copyAll {S : List xSh} {g : xG} {a b n : Nat} (ha : S[a]? = some (.inl (.int, n))) (hb : S[b]? = some (.inl (.int, n))) (hab : a ≠ b) (hn : n < 2 ^ 31) : xC mX11_copyAll 0 0 0 0 S [.ref a, .ref b] g S (fun r g' => r = none ∧ g' = xcopy g a b n) := by
  refine xC.of 11 [] [some (.ref a), some (.ref b), none] (fun _ _ h => by simp at h) (by decide +kernel) rfl (fun _ _ => Nat.le_of_ble_eq_true rfl) (fun _ _ => rfl) ?_
  intro k A hR hrm hz
  refine xb A [(.aload_n 0, 1, 0, 0, .null)] (pc' := 1) (ls' := [some (.ref a), some (.ref b), none]) (st' := [.ref a]) (g' := g) (by decide +kernel) rfl ?_
  refine xifnull A (nxt := 4) 33 (by decide +kernel) ?_
  refine xb A [(.aload_n 1, 1, 0, 0, .null)] (pc' := 5) (ls' := [some (.ref a), some (.ref b), none]) (st' := [.ref b]) (g' := g) (by decide +kernel) rfl ?_
  refine xifnull A (nxt := 8) 29 (by decide +kernel) ?_
  have hloop : ∀ d i, i + d = n → xW k S 0 0 10 [some (.ref a), some (.ref b), some (.int (nI i))] [] (xrow g.1 b (fun j => if j < i then g.1 a j else g.1 b j), g.2) := by
    intro d
    induction d with
    | zero =>
      intro i hi
      obtain rfl : i = n := hi
      refine xb A [(.iload_n 2, 1, 0, 0, .null), (.aload_n 0, 1, 0, 0, .null)] (pc' := 12) (ls' := [some (.ref a), some (.ref b), some (.int (nI i))]) (st' := [.ref a, .int (nI i)]) (g' := (xrow g.1 b (fun j => if j < i then g.1 a j else g.1 b j), g.2)) (by decide +kernel) rfl ?_
      refine xalen A (Or.inl rfl) (nxt := 13) (by decide +kernel) ha ?_
      refine xic_ge A 21 34 16 (by decide +kernel) (fun h1 => ?_) (fun h1 => absurd (nI_le (Nat.le_refl i) hn) h1)
      exact xret_v A hR hz (by decide +kernel) ⟨rfl, rfl⟩
    | succ d ih =>
      intro i hi
      have hlt : i < n := by omega
      refine xb A [(.iload_n 2, 1, 0, 0, .null), (.aload_n 0, 1, 0, 0, .null)] (pc' := 12) (ls' := [some (.ref a), some (.ref b), some (.int (nI i))]) (st' := [.ref a, .int (nI i)]) (g' := (xrow g.1 b (fun j => if j < i then g.1 a j else g.1 b j), g.2)) (by decide +kernel) rfl ?_
      refine xalen A (Or.inl rfl) (nxt := 13) (by decide +kernel) ha ?_
      refine xic_ge A 21 34 16 (by decide +kernel) (fun h1 => absurd h1 (nI_ge hlt hn)) (fun h1 => ?_)
      refine xb A [(.iload_n 2, 1, 0, 0, .null), (.aload_n 1, 1, 0, 0, .null)] (pc' := 18) (ls' := [some (.ref a), some (.ref b), some (.int (nI i))]) (st' := [.ref b, .int (nI i)]) (g' := (xrow g.1 b (fun j => if j < i then g.1 a j else g.1 b j), g.2)) (by decide +kernel) rfl ?_
      refine xalen A (Or.inl rfl) (nxt := 19) (by decide +kernel) hb ?_
      refine xic_ge A 15 34 22 (by decide +kernel) (fun h1 => absurd h1 (nI_ge hlt hn)) (fun h1 => ?_)
      refine xb A [(.aload_n 1, 1, 0, 0, .null), (.iload_n 2, 1, 0, 0, .null), (.aload_n 0, 1, 0, 0, .null), (.iload_n 2, 1, 0, 0, .null)] (pc' := 26) (ls' := [some (.ref a), some (.ref b), some (.int (nI i))]) (st' := [.int (nI i), .ref a, .int (nI i), .ref b]) (g' := (xrow g.1 b (fun j => if j < i then g.1 a j else g.1 b j), g.2)) (by decide +kernel) rfl ?_
      refine xiald A (nxt := 27) (by decide +kernel) ha (vp_in_nI hlt hn) ?_
      refine xiast A (nxt := 28) (by decide +kernel) hb (vp_in_nI hlt hn) ?_
      refine xb A [(.iinc 2 1, 3, 0, 0, .null)] (pc' := 31) (ls' := [some (.ref a), some (.ref b), some (.int (nI i + 1))]) (st' := []) (by decide +kernel) rfl ?_
      refine xgoto A (-21) 10 (by decide +kernel) ?_
      have h3 := ih (i + 1) (by omega)
      rw [nI_clamp (by omega), nI_1, xcopy_step hab hlt]
      exact h3
  refine xb A [(.iconst 0, 1, 0, 0, .int 0), (.istore_n 2, 1, 0, 0, .null)] (pc' := 10) (ls' := [some (.ref a), some (.ref b), some (.int (nI 0))]) (st' := []) (g' := g) (by decide +kernel) rfl ?_
  have h0 := hloop n 0 (by omega)
  rwa [show ((xrow g.1 b (fun j => if j < 0 then g.1 a j else g.1 b j), g.2) : xG) = g from Prod.ext (by funext q j; by_cases hq : q = b <;> simp [xrow, hq]) rfl] at h0
