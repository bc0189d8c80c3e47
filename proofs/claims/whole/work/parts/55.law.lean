/-! the law behind the two constructors -/
def xScr (k : xK) (xs : Nat → Int32) (Ls : Nat) : Prop := match k with
  | (_, _, _, _, s, _, _, _, _, _, _, _, _, _, _, _, b0, fz) => ∃ b, fz 5 = .ref b ∧ va_X b Ls xs s s.heap ∧ b < s.heap.size ∧ ¬ b0 ≤ b
def xEnd (k : xK) (S : List xSh) : Prop := ∀ (pc : Nat) (ls : List (Option Value)) (g : xG), decode code pc = .ok (.ireturn, 1) → xW k S 103 19882 pc ls [.int 1] g
section
variable {k : xK} {cc : ByteArray} {own : Nat} {SH S : List xSh} {cells slots pc : Nat} {ls : List (Option Value)} {st : List Value} {g : xG} {xs : Nat → Int32} {Ls : Nat}
theorem xsld (A : xAt k cc own SH S) (hX : xScr k xs Ls) {i : Int32} {nxt : Nat} (hd : (decide (decode cc pc = .ok (.iaload, 1)) && Nat.beq (pc + 1) nxt) = true) (hi : vp_in i Ls) (kk : xW k S cells slots nxt ls (.int (xs i.toNatClampNeg) :: st) g) : xW k S cells slots pc ls (.int i :: .retAddr 5 :: st) g := by
  obtain ⟨hc, hcc, -⟩ := A
  obtain ⟨p, l, e, R, s, m, args, below, meth, c, Q, cc0, nL, ow, D, cA, b0, fz⟩ := k
  obtain rfl : cc0 = cc := hcc
  simp only [Bool.and_eq_true, decide_eq_true_eq, Nat.beq_eq] at hd
  obtain ⟨hd, rfl⟩ := hd
  obtain ⟨b, e5, h1, h2, h3⟩ := hX
  intro H locs La hn hL hP hS
  rw [List.map_cons, List.map_cons, show xad b0 fz (.retAddr 5) = fz 5 from rfl, e5]
  exact va_sld hc.1 hc.2.1 h1 h2 h3 hS hi hd (kk H locs La hn hL hP hS)
theorem xslen (A : xAt k cc own SH S) (hX : xScr k xs Ls) {nxt : Nat} (hd : (decide (decode cc pc = .ok (.arraylength, 1)) && Nat.beq (pc + 1) nxt) = true) (kk : xW k S cells slots nxt ls (.int (Int32.ofNat Ls) :: st) g) : xW k S cells slots pc ls (.retAddr 5 :: st) g := by
  obtain ⟨hc, hcc, -⟩ := A
  obtain ⟨p, l, e, R, s, m, args, below, meth, c, Q, cc0, nL, ow, D, cA, b0, fz⟩ := k
  obtain rfl : cc0 = cc := hcc
  simp only [Bool.and_eq_true, decide_eq_true_eq, Nat.beq_eq] at hd
  obtain ⟨hd, rfl⟩ := hd
  obtain ⟨b, e5, h1, h2, h3⟩ := hX
  intro H locs La hn hL hP hS
  rw [List.map_cons, show xad b0 fz (.retAddr 5) = fz 5 from rfl, e5]
  exact va_slen hc.1 hc.2.1 h1 h2 h3 hS hd (kk H locs La hn hL hP hS)
end
def f_law_479 (k18 : Int32 → xG → Option (Int32 × xG)) (xs : Nat → Int32) (Ls : Nat) (l3 : Int32) (s0 : Int32) (s1 : Int32) (g : xG) : Option (Int32 × xG) :=
  (f_X11_close_0 s1 s0 g).bind fun w14 =>
  xg (¬ ((l3 + 1) < 0 ∨ Ls ≤ (l3 + 1).toNatClampNeg)) (
    xg (¬ ((l3 + 2) < 0 ∨ Ls ≤ (l3 + 2).toNatClampNeg)) (
      if (xs (l3 + 2).toNatClampNeg) = 0 then
        (f_X12_close_60 (xs (l3 + 1).toNatClampNeg) 0 w14.2).bind fun w15 =>
        if w14.1 = w15.1 then
          k18 (l3 + 6) w15.2
        else
          some (0, w15.2)
      else
        (f_X12_close_60 (xs (l3 + 1).toNatClampNeg) 1 w14.2).bind fun w16 =>
        if w14.1 = w16.1 then
          k18 (l3 + 6) w16.2
        else
          some (0, w16.2)))
def f_law_1136 (k18 : Int32 → xG → Option (Int32 × xG)) (xs : Nat → Int32) (Ls : Nat) (l3 : Int32) (s0 : Int32) (s1 : Int32) (g : xG) : Option (Int32 × xG) :=
  (f_X11_tell_0 s1 s0 g).bind fun w68 =>
  xg (¬ ((l3 + 1) < 0 ∨ Ls ≤ (l3 + 1).toNatClampNeg)) (
    xg (¬ ((l3 + 2) < 0 ∨ Ls ≤ (l3 + 2).toNatClampNeg)) (
      if (xs (l3 + 2).toNatClampNeg) = 0 then
        (f_X12_tell_60 (xs (l3 + 1).toNatClampNeg) 0 w68.2).bind fun w69 =>
        if w68.1 = w69.1 then
          k18 (l3 + 6) w69.2
        else
          some (0, w69.2)
      else
        (f_X12_tell_60 (xs (l3 + 1).toNatClampNeg) 1 w68.2).bind fun w70 =>
        if w68.1 = w70.1 then
          k18 (l3 + 6) w70.2
        else
          some (0, w70.2)))
def f_law_18  (xs : Nat → Int32) (Ls : Nat) : Nat → Int32 → xG → Option (Int32 × xG)
  | 0, _, _ => none
  | n + 1, l3, g =>
    if ((Int32.ofNat Ls) - 6) < l3 then
      some (1, g)
    else
      xg (¬ (l3 < 0 ∨ Ls ≤ l3.toNatClampNeg)) (
        if ((xs l3.toNatClampNeg) &&& 63) = 0 then
          xg (¬ ((l3 + 1) < 0 ∨ Ls ≤ (l3 + 1).toNatClampNeg)) (
            xg (¬ ((l3 + 2) < 0 ∨ Ls ≤ (l3 + 2).toNatClampNeg)) (
              xg (¬ ((l3 + 3) < 0 ∨ Ls ≤ (l3 + 3).toNatClampNeg)) (
                xg (¬ ((l3 + 4) < 0 ∨ Ls ≤ (l3 + 4).toNatClampNeg)) (
                  xg (¬ ((l3 + 5) < 0 ∨ Ls ≤ (l3 + 5).toNatClampNeg)) (
                    (f_X11_feed_0 (xs (l3 + 1).toNatClampNeg) (xs (l3 + 2).toNatClampNeg) (xs (l3 + 3).toNatClampNeg) (xs (l3 + 4).toNatClampNeg) (xs (l3 + 5).toNatClampNeg) g).bind fun w1 =>
                    xg (¬ ((l3 + 1) < 0 ∨ Ls ≤ (l3 + 1).toNatClampNeg)) (
                      xg (¬ ((l3 + 2) < 0 ∨ Ls ≤ (l3 + 2).toNatClampNeg)) (
                        xg (¬ ((l3 + 3) < 0 ∨ Ls ≤ (l3 + 3).toNatClampNeg)) (
                          xg (¬ ((l3 + 4) < 0 ∨ Ls ≤ (l3 + 4).toNatClampNeg)) (
                            xg (¬ ((l3 + 5) < 0 ∨ Ls ≤ (l3 + 5).toNatClampNeg)) (
                              (f_X12_feed_60 (xs (l3 + 1).toNatClampNeg) (xs (l3 + 2).toNatClampNeg) (xs (l3 + 3).toNatClampNeg) (xs (l3 + 4).toNatClampNeg) (xs (l3 + 5).toNatClampNeg) w1.2).bind fun w2 =>
                              if w1.1 = w2.1 then
                                f_law_18 xs Ls n (l3 + 6) w2.2
                              else
                                some (0, w2.2)))))))))))
        else
          if ((xs l3.toNatClampNeg) &&& 63) = 1 then
            xg (¬ ((l3 + 1) < 0 ∨ Ls ≤ (l3 + 1).toNatClampNeg)) (
              xl (f_X11_back_0 (xs (l3 + 1).toNatClampNeg) g) fun w3 =>
              xg (¬ ((l3 + 1) < 0 ∨ Ls ≤ (l3 + 1).toNatClampNeg)) (
                xl (f_X12_back_60 (xs (l3 + 1).toNatClampNeg) w3.2) fun w4 =>
                if w3.1 = w4.1 then
                  f_law_18 xs Ls n (l3 + 6) w4.2
                else
                  some (0, w4.2)))
          else
            if ((xs l3.toNatClampNeg) &&& 63) = 2 then
              (f_X11_read_0 g).bind fun w5 =>
              (f_X12_read_60 w5.2).bind fun w6 =>
              if w5.1 = w6.1 then
                f_law_18 xs Ls n (l3 + 6) w6.2
              else
                some (0, w6.2)
            else
              if ((xs l3.toNatClampNeg) &&& 63) = 3 then
                if (f_X11_place_0 g) = (f_X12_place_60 g) then
                  f_law_18 xs Ls n (l3 + 6) g
                else
                  some (0, g)
              else
                if ((xs l3.toNatClampNeg) &&& 63) = 4 then
                  xg (¬ ((l3 + 1) < 0 ∨ Ls ≤ (l3 + 1).toNatClampNeg)) (
                    xg (¬ ((l3 + 2) < 0 ∨ Ls ≤ (l3 + 2).toNatClampNeg)) (
                      (f_X11_town_0 (xs (l3 + 1).toNatClampNeg) (xs (l3 + 2).toNatClampNeg) g).bind fun w7 =>
                      xg (¬ ((l3 + 1) < 0 ∨ Ls ≤ (l3 + 1).toNatClampNeg)) (
                        xg (¬ ((l3 + 2) < 0 ∨ Ls ≤ (l3 + 2).toNatClampNeg)) (
                          (f_X12_town_60 (xs (l3 + 1).toNatClampNeg) (xs (l3 + 2).toNatClampNeg) g).bind fun w8 =>
                          if w7 = w8.1 then
                            f_law_18 xs Ls n (l3 + 6) w8.2
                          else
                            some (0, w8.2)))))
                else
                  if ((xs l3.toNatClampNeg) &&& 63) = 5 then
                    xg (¬ ((l3 + 1) < 0 ∨ Ls ≤ (l3 + 1).toNatClampNeg)) (
                      xg (¬ ((l3 + 2) < 0 ∨ Ls ≤ (l3 + 2).toNatClampNeg)) (
                        xg (¬ ((l3 + 1) < 0 ∨ Ls ≤ (l3 + 1).toNatClampNeg)) (
                          xg (¬ ((l3 + 2) < 0 ∨ Ls ≤ (l3 + 2).toNatClampNeg)) (
                            (f_X12_road_60 (xs (l3 + 1).toNatClampNeg) (xs (l3 + 2).toNatClampNeg) g).bind fun w9 =>
                            if (f_X11_road_0 (xs (l3 + 1).toNatClampNeg) (xs (l3 + 2).toNatClampNeg) g) = w9.1 then
                              f_law_18 xs Ls n (l3 + 6) w9.2
                            else
                              some (0, w9.2)))))
                  else
                    if ((xs l3.toNatClampNeg) &&& 63) = 6 then
                      xg (¬ ((l3 + 1) < 0 ∨ Ls ≤ (l3 + 1).toNatClampNeg)) (
                        xg (¬ ((l3 + 2) < 0 ∨ Ls ≤ (l3 + 2).toNatClampNeg)) (
                          (f_X11_person_0 (xs (l3 + 1).toNatClampNeg) (xs (l3 + 2).toNatClampNeg) g).bind fun w10 =>
                          xg (¬ ((l3 + 1) < 0 ∨ Ls ≤ (l3 + 1).toNatClampNeg)) (
                            xg (¬ ((l3 + 2) < 0 ∨ Ls ≤ (l3 + 2).toNatClampNeg)) (
                              (f_X12_person_60 (xs (l3 + 1).toNatClampNeg) (xs (l3 + 2).toNatClampNeg) w10.2).bind fun w11 =>
                              if w10.1 = w11.1 then
                                f_law_18 xs Ls n (l3 + 6) w11.2
                              else
                                some (0, w11.2)))))
                    else
                      if ((xs l3.toNatClampNeg) &&& 63) = 7 then
                        xg (¬ ((l3 + 1) < 0 ∨ Ls ≤ (l3 + 1).toNatClampNeg)) (
                          xg (¬ ((l3 + 2) < 0 ∨ Ls ≤ (l3 + 2).toNatClampNeg)) (
                            (f_X11_send_0 (xs (l3 + 1).toNatClampNeg) (xs (l3 + 2).toNatClampNeg) g).bind fun w12 =>
                            xg (¬ ((l3 + 1) < 0 ∨ Ls ≤ (l3 + 1).toNatClampNeg)) (
                              xg (¬ ((l3 + 2) < 0 ∨ Ls ≤ (l3 + 2).toNatClampNeg)) (
                                (f_X12_send_60 (xs (l3 + 1).toNatClampNeg) (xs (l3 + 2).toNatClampNeg) w12.2).bind fun w13 =>
                                if w12.1 = w13.1 then
                                  f_law_18 xs Ls n (l3 + 6) w13.2
                                else
                                  some (0, w13.2)))))
                      else
                        if ((xs l3.toNatClampNeg) &&& 63) = 8 then
                          xg (¬ ((l3 + 1) < 0 ∨ Ls ≤ (l3 + 1).toNatClampNeg)) (
                            xg (¬ ((l3 + 2) < 0 ∨ Ls ≤ (l3 + 2).toNatClampNeg)) (
                              if (xs (l3 + 2).toNatClampNeg) = 0 then
                                f_law_479 (f_law_18 xs Ls n) xs Ls l3 0 (xs (l3 + 1).toNatClampNeg) g
                              else
                                f_law_479 (f_law_18 xs Ls n) xs Ls l3 1 (xs (l3 + 1).toNatClampNeg) g))
                        else
                          if ((xs l3.toNatClampNeg) &&& 63) = 9 then
                            xg (¬ ((l3 + 1) < 0 ∨ Ls ≤ (l3 + 1).toNatClampNeg)) (
                              (f_X11_admit_0 (xs (l3 + 1).toNatClampNeg) g).bind fun w17 =>
                              xg (¬ ((l3 + 1) < 0 ∨ Ls ≤ (l3 + 1).toNatClampNeg)) (
                                (f_X12_admit_60 (xs (l3 + 1).toNatClampNeg) w17.2).bind fun w18 =>
                                if w17.1 = w18.1 then
                                  f_law_18 xs Ls n (l3 + 6) w18.2
                                else
                                  some (0, w18.2)))
                          else
                            if ((xs l3.toNatClampNeg) &&& 63) = 10 then
                              xg (¬ ((l3 + 1) < 0 ∨ Ls ≤ (l3 + 1).toNatClampNeg)) (
                                (f_X11_days_0 (xs (l3 + 1).toNatClampNeg) g).bind fun w19 =>
                                xg (¬ ((l3 + 1) < 0 ∨ Ls ≤ (l3 + 1).toNatClampNeg)) (
                                  (f_X12_days_60 (xs (l3 + 1).toNatClampNeg) w19.2).bind fun w20 =>
                                  if w19.1 = w20.1 then
                                    f_law_18 xs Ls n (l3 + 6) w20.2
                                  else
                                    some (0, w20.2)))
                            else
                              if ((xs l3.toNatClampNeg) &&& 63) = 11 then
                                (f_X11_undo_0 g).bind fun w21 =>
                                (f_X12_undo_60 w21.2).bind fun w22 =>
                                if w21.1 = w22.1 then
                                  f_law_18 xs Ls n (l3 + 6) w22.2
                                else
                                  some (0, w22.2)
                              else
                                if ((xs l3.toNatClampNeg) &&& 63) = 12 then
                                  (f_X11_ringer_0 g).bind fun w23 =>
                                  (f_X12_ringer_60 w23.2).bind fun w24 =>
                                  if w23.1 = w24.1 then
                                    f_law_18 xs Ls n (l3 + 6) w24.2
                                  else
                                    some (0, w24.2)
                                else
                                  if ((xs l3.toNatClampNeg) &&& 63) = 13 then
                                    xg (¬ ((l3 + 1) < 0 ∨ Ls ≤ (l3 + 1).toNatClampNeg)) (
                                      xg (¬ ((l3 + 2) < 0 ∨ Ls ≤ (l3 + 2).toNatClampNeg)) (
                                        xg (¬ ((l3 + 1) < 0 ∨ Ls ≤ (l3 + 1).toNatClampNeg)) (
                                          xg (¬ ((l3 + 2) < 0 ∨ Ls ≤ (l3 + 2).toNatClampNeg)) (
                                            (f_X12_far_60 (xs (l3 + 1).toNatClampNeg) (xs (l3 + 2).toNatClampNeg) g).bind fun w25 =>
                                            if (f_X11_far_0 (xs (l3 + 1).toNatClampNeg) (xs (l3 + 2).toNatClampNeg) g) = w25.1 then
                                              f_law_18 xs Ls n (l3 + 6) w25.2
                                            else
                                              some (0, w25.2)))))
                                  else
                                    if ((xs l3.toNatClampNeg) &&& 63) = 14 then
                                      xg (¬ ((l3 + 1) < 0 ∨ Ls ≤ (l3 + 1).toNatClampNeg)) (
                                        xg (¬ ((l3 + 2) < 0 ∨ Ls ≤ (l3 + 2).toNatClampNeg)) (
                                          (f_X11_longest_0 (xs (l3 + 1).toNatClampNeg) (xs (l3 + 2).toNatClampNeg) g).bind fun w26 =>
                                          xg (¬ ((l3 + 1) < 0 ∨ Ls ≤ (l3 + 1).toNatClampNeg)) (
                                            xg (¬ ((l3 + 2) < 0 ∨ Ls ≤ (l3 + 2).toNatClampNeg)) (
                                              (f_X12_longest_60 (xs (l3 + 1).toNatClampNeg) (xs (l3 + 2).toNatClampNeg) w26.2).bind fun w27 =>
                                              if w26.1 = w27.1 then
                                                f_law_18 xs Ls n (l3 + 6) w27.2
                                              else
                                                some (0, w27.2)))))
                                    else
                                      if ((xs l3.toNatClampNeg) &&& 63) = 15 then
                                        (f_X11_liars_0 g).bind fun w28 =>
                                        (f_X12_liars_60 w28.2).bind fun w29 =>
                                        if w28.1 = w29.1 then
                                          f_law_18 xs Ls n (l3 + 6) w29.2
                                        else
                                          some (0, w29.2)
                                      else
                                        if ((xs l3.toNatClampNeg) &&& 63) = 16 then
                                          (f_X11_truth_0 g).bind fun w30 =>
                                          (f_X12_truth_60 g).bind fun w31 =>
                                          if w30 = w31.1 then
                                            f_law_18 xs Ls n (l3 + 6) w31.2
                                          else
                                            some (0, w31.2)
                                        else
                                          if ((xs l3.toNatClampNeg) &&& 63) = 17 then
                                            (f_X11_turns_0 g).bind fun w32 =>
                                            (f_X12_turns_60 w32.2).bind fun w33 =>
                                            if w32.1 = w33.1 then
                                              f_law_18 xs Ls n (l3 + 6) w33.2
                                            else
                                              some (0, w33.2)
                                          else
                                            if ((xs l3.toNatClampNeg) &&& 63) = 18 then
                                              xg (¬ ((l3 + 1) < 0 ∨ Ls ≤ (l3 + 1).toNatClampNeg)) (
                                                (f_X11_wish_0 (xs (l3 + 1).toNatClampNeg) g).bind fun w34 =>
                                                xg (¬ ((l3 + 1) < 0 ∨ Ls ≤ (l3 + 1).toNatClampNeg)) (
                                                  (f_X12_wish_60 (xs (l3 + 1).toNatClampNeg) w34.2).bind fun w35 =>
                                                  if w34.1 = w35.1 then
                                                    f_law_18 xs Ls n (l3 + 6) w35.2
                                                  else
                                                    some (0, w35.2)))
                                            else
                                              if ((xs l3.toNatClampNeg) &&& 63) = 19 then
                                                xg (¬ ((l3 + 1) < 0 ∨ Ls ≤ (l3 + 1).toNatClampNeg)) (
                                                  (f_X11_when_0 (xs (l3 + 1).toNatClampNeg) g).bind fun w36 =>
                                                  xg (¬ ((l3 + 1) < 0 ∨ Ls ≤ (l3 + 1).toNatClampNeg)) (
                                                    (f_X12_when_60 (xs (l3 + 1).toNatClampNeg) w36.2).bind fun w37 =>
                                                    if w36.1 = w37.1 then
                                                      f_law_18 xs Ls n (l3 + 6) w37.2
                                                    else
                                                      some (0, w37.2)))
                                              else
                                                if ((xs l3.toNatClampNeg) &&& 63) = 20 then
                                                  xg (¬ ((l3 + 1) < 0 ∨ Ls ≤ (l3 + 1).toNatClampNeg)) (
                                                    (f_X11_soonest_0 (xs (l3 + 1).toNatClampNeg) g).bind fun w38 =>
                                                    xg (¬ ((l3 + 1) < 0 ∨ Ls ≤ (l3 + 1).toNatClampNeg)) (
                                                      (f_X12_soonest_60 (xs (l3 + 1).toNatClampNeg) w38.2).bind fun w39 =>
                                                      if w38.1 = w39.1 then
                                                        f_law_18 xs Ls n (l3 + 6) w39.2
                                                      else
                                                        some (0, w39.2)))
                                                else
                                                  if ((xs l3.toNatClampNeg) &&& 63) = 21 then
                                                    xg (¬ ((l3 + 1) < 0 ∨ Ls ≤ (l3 + 1).toNatClampNeg)) (
                                                      xg (¬ ((l3 + 2) < 0 ∨ Ls ≤ (l3 + 2).toNatClampNeg)) (
                                                        (f_X11_often_0 (xs (l3 + 1).toNatClampNeg) (xs (l3 + 2).toNatClampNeg) g).bind fun w40 =>
                                                        xg (¬ ((l3 + 1) < 0 ∨ Ls ≤ (l3 + 1).toNatClampNeg)) (
                                                          xg (¬ ((l3 + 2) < 0 ∨ Ls ≤ (l3 + 2).toNatClampNeg)) (
                                                            (f_X12_often_60 (xs (l3 + 1).toNatClampNeg) (xs (l3 + 2).toNatClampNeg) w40.2).bind fun w41 =>
                                                            if w40.1 = w41.1 then
                                                              f_law_18 xs Ls n (l3 + 6) w41.2
                                                            else
                                                              some (0, w41.2)))))
                                                  else
                                                    if ((xs l3.toNatClampNeg) &&& 63) = 22 then
                                                      xg (¬ ((l3 + 1) < 0 ∨ Ls ≤ (l3 + 1).toNatClampNeg)) (
                                                        (f_X11_rings_0 (xs (l3 + 1).toNatClampNeg) g).bind fun w42 =>
                                                        xg (¬ ((l3 + 1) < 0 ∨ Ls ≤ (l3 + 1).toNatClampNeg)) (
                                                          (f_X12_rings_60 (xs (l3 + 1).toNatClampNeg) w42.2).bind fun w43 =>
                                                          if w42.1 = w43.1 then
                                                            f_law_18 xs Ls n (l3 + 6) w43.2
                                                          else
                                                            some (0, w43.2)))
                                                    else
                                                      if ((xs l3.toNatClampNeg) &&& 63) = 23 then
                                                        xg (¬ ((l3 + 1) < 0 ∨ Ls ≤ (l3 + 1).toNatClampNeg)) (
                                                          (f_X11_walks_0 (xs (l3 + 1).toNatClampNeg) g).bind fun w44 =>
                                                          xg (¬ ((l3 + 1) < 0 ∨ Ls ≤ (l3 + 1).toNatClampNeg)) (
                                                            (f_X12_walks_60 (xs (l3 + 1).toNatClampNeg) g).bind fun w45 =>
                                                            if w44 = w45.1 then
                                                              f_law_18 xs Ls n (l3 + 6) w45.2
                                                            else
                                                              some (0, w45.2)))
                                                      else
                                                        if ((xs l3.toNatClampNeg) &&& 63) = 24 then
                                                          xg (¬ ((l3 + 1) < 0 ∨ Ls ≤ (l3 + 1).toNatClampNeg)) (
                                                            (f_X11_stranger_0 (xs (l3 + 1).toNatClampNeg) g).bind fun w46 =>
                                                            xg (¬ ((l3 + 1) < 0 ∨ Ls ≤ (l3 + 1).toNatClampNeg)) (
                                                              (f_X12_stranger_60 (xs (l3 + 1).toNatClampNeg) g).bind fun w47 =>
                                                              if w46 = w47.1 then
                                                                f_law_18 xs Ls n (l3 + 6) w47.2
                                                              else
                                                                some (0, w47.2)))
                                                        else
                                                          if ((xs l3.toNatClampNeg) &&& 63) = 25 then
                                                            xg (¬ ((l3 + 1) < 0 ∨ Ls ≤ (l3 + 1).toNatClampNeg)) (
                                                              (f_X11_clerks_0 (xs (l3 + 1).toNatClampNeg) g).bind fun w48 =>
                                                              xg (¬ ((l3 + 1) < 0 ∨ Ls ≤ (l3 + 1).toNatClampNeg)) (
                                                                (f_X12_clerks_60 (xs (l3 + 1).toNatClampNeg) g).bind fun w49 =>
                                                                if w48 = w49.1 then
                                                                  f_law_18 xs Ls n (l3 + 6) w49.2
                                                                else
                                                                  some (0, w49.2)))
                                                          else
                                                            if ((xs l3.toNatClampNeg) &&& 63) = 26 then
                                                              xg (¬ ((l3 + 1) < 0 ∨ Ls ≤ (l3 + 1).toNatClampNeg)) (
                                                                (f_X11_centre_0 (xs (l3 + 1).toNatClampNeg) g).bind fun w50 =>
                                                                xg (¬ ((l3 + 1) < 0 ∨ Ls ≤ (l3 + 1).toNatClampNeg)) (
                                                                  (f_X12_centre_60 (xs (l3 + 1).toNatClampNeg) g).bind fun w51 =>
                                                                  if w50 = w51.1 then
                                                                    f_law_18 xs Ls n (l3 + 6) w51.2
                                                                  else
                                                                    some (0, w51.2)))
                                                            else
                                                              if ((xs l3.toNatClampNeg) &&& 63) = 27 then
                                                                xg (¬ ((l3 + 1) < 0 ∨ Ls ≤ (l3 + 1).toNatClampNeg)) (
                                                                  (f_X11_meet_0 (xs (l3 + 1).toNatClampNeg) g).bind fun w52 =>
                                                                  xg (¬ ((l3 + 1) < 0 ∨ Ls ≤ (l3 + 1).toNatClampNeg)) (
                                                                    (f_X12_meet_60 (xs (l3 + 1).toNatClampNeg) g).bind fun w53 =>
                                                                    if w52 = w53.1 then
                                                                      f_law_18 xs Ls n (l3 + 6) w53.2
                                                                    else
                                                                      some (0, w53.2)))
                                                              else
                                                                if ((xs l3.toNatClampNeg) &&& 63) = 28 then
                                                                  (f_X11_tree_0 g).bind fun w54 =>
                                                                  (f_X12_tree_60 g).bind fun w55 =>
                                                                  if w54 = w55.1 then
                                                                    f_law_18 xs Ls n (l3 + 6) w55.2
                                                                  else
                                                                    some (0, w55.2)
                                                                else
                                                                  if ((xs l3.toNatClampNeg) &&& 63) = 29 then
                                                                    (f_X11_bridges_0 g).bind fun w56 =>
                                                                    (f_X12_bridges_60 w56.2).bind fun w57 =>
                                                                    if w56.1 = w57.1 then
                                                                      f_law_18 xs Ls n (l3 + 6) w57.2
                                                                    else
                                                                      some (0, w57.2)
                                                                  else
                                                                    if ((xs l3.toNatClampNeg) &&& 63) = 30 then
                                                                      xg (¬ ((l3 + 1) < 0 ∨ Ls ≤ (l3 + 1).toNatClampNeg)) (
                                                                        xg (¬ ((l3 + 2) < 0 ∨ Ls ≤ (l3 + 2).toNatClampNeg)) (
                                                                          (f_X11_steps_0 (xs (l3 + 1).toNatClampNeg) (xs (l3 + 2).toNatClampNeg) g).bind fun w58 =>
                                                                          xg (¬ ((l3 + 1) < 0 ∨ Ls ≤ (l3 + 1).toNatClampNeg)) (
                                                                            xg (¬ ((l3 + 2) < 0 ∨ Ls ≤ (l3 + 2).toNatClampNeg)) (
                                                                              (f_X12_steps_60 (xs (l3 + 1).toNatClampNeg) (xs (l3 + 2).toNatClampNeg) g).bind fun w59 =>
                                                                              if w58 = w59.1 then
                                                                                f_law_18 xs Ls n (l3 + 6) w59.2
                                                                              else
                                                                                some (0, w59.2)))))
                                                                    else
                                                                      if ((xs l3.toNatClampNeg) &&& 63) = 31 then
                                                                        xg (¬ ((l3 + 1) < 0 ∨ Ls ≤ (l3 + 1).toNatClampNeg)) (
                                                                          xg (¬ ((l3 + 2) < 0 ∨ Ls ≤ (l3 + 2).toNatClampNeg)) (
                                                                            (f_X11_then_0 (xs (l3 + 1).toNatClampNeg) (xs (l3 + 2).toNatClampNeg) g).bind fun w60 =>
                                                                            xg (¬ ((l3 + 1) < 0 ∨ Ls ≤ (l3 + 1).toNatClampNeg)) (
                                                                              xg (¬ ((l3 + 2) < 0 ∨ Ls ≤ (l3 + 2).toNatClampNeg)) (
                                                                                (f_X12_then_60 (xs (l3 + 1).toNatClampNeg) (xs (l3 + 2).toNatClampNeg) w60.2).bind fun w61 =>
                                                                                if w60.1 = w61.1 then
                                                                                  f_law_18 xs Ls n (l3 + 6) w61.2
                                                                                else
                                                                                  some (0, w61.2)))))
                                                                      else
                                                                        if ((xs l3.toNatClampNeg) &&& 63) = 32 then
                                                                          xg (¬ ((l3 + 1) < 0 ∨ Ls ≤ (l3 + 1).toNatClampNeg)) (
                                                                            xg (¬ ((l3 + 2) < 0 ∨ Ls ≤ (l3 + 2).toNatClampNeg)) (
                                                                              (f_X11_rungIn_0 (xs (l3 + 1).toNatClampNeg) (xs (l3 + 2).toNatClampNeg) g).bind fun w62 =>
                                                                              xg (¬ ((l3 + 1) < 0 ∨ Ls ≤ (l3 + 1).toNatClampNeg)) (
                                                                                xg (¬ ((l3 + 2) < 0 ∨ Ls ≤ (l3 + 2).toNatClampNeg)) (
                                                                                  (f_X12_rungIn_60 (xs (l3 + 1).toNatClampNeg) (xs (l3 + 2).toNatClampNeg) w62.2).bind fun w63 =>
                                                                                  if w62.1 = w63.1 then
                                                                                    f_law_18 xs Ls n (l3 + 6) w63.2
                                                                                  else
                                                                                    some (0, w63.2)))))
                                                                        else
                                                                          if ((xs l3.toNatClampNeg) &&& 63) = 33 then
                                                                            xg (¬ ((l3 + 1) < 0 ∨ Ls ≤ (l3 + 1).toNatClampNeg)) (
                                                                              (f_X11_barredIn_0 (xs (l3 + 1).toNatClampNeg) g).bind fun w64 =>
                                                                              xg (¬ ((l3 + 1) < 0 ∨ Ls ≤ (l3 + 1).toNatClampNeg)) (
                                                                                (f_X12_barredIn_60 (xs (l3 + 1).toNatClampNeg) w64.2).bind fun w65 =>
                                                                                if w64.1 = w65.1 then
                                                                                  f_law_18 xs Ls n (l3 + 6) w65.2
                                                                                else
                                                                                  some (0, w65.2)))
                                                                          else
                                                                            if ((xs l3.toNatClampNeg) &&& 63) = 34 then
                                                                              xg (¬ ((l3 + 1) < 0 ∨ Ls ≤ (l3 + 1).toNatClampNeg)) (
                                                                                xg (¬ ((l3 + 2) < 0 ∨ Ls ≤ (l3 + 2).toNatClampNeg)) (
                                                                                  xg (¬ ((l3 + 3) < 0 ∨ Ls ≤ (l3 + 3).toNatClampNeg)) (
                                                                                    (f_X11_year_0 (xs (l3 + 1).toNatClampNeg) (xs (l3 + 2).toNatClampNeg) (xs (l3 + 3).toNatClampNeg) g).bind fun w66 =>
                                                                                    xg (¬ ((l3 + 1) < 0 ∨ Ls ≤ (l3 + 1).toNatClampNeg)) (
                                                                                      xg (¬ ((l3 + 2) < 0 ∨ Ls ≤ (l3 + 2).toNatClampNeg)) (
                                                                                        xg (¬ ((l3 + 3) < 0 ∨ Ls ≤ (l3 + 3).toNatClampNeg)) (
                                                                                          (f_X12_year_60 (xs (l3 + 1).toNatClampNeg) (xs (l3 + 2).toNatClampNeg) (xs (l3 + 3).toNatClampNeg) w66.2).bind fun w67 =>
                                                                                          if w66.1 = w67.1 then
                                                                                            f_law_18 xs Ls n (l3 + 6) w67.2
                                                                                          else
                                                                                            some (0, w67.2)))))))
                                                                            else
                                                                              if ((xs l3.toNatClampNeg) &&& 63) = 35 then
                                                                                xg (¬ ((l3 + 1) < 0 ∨ Ls ≤ (l3 + 1).toNatClampNeg)) (
                                                                                  xg (¬ ((l3 + 2) < 0 ∨ Ls ≤ (l3 + 2).toNatClampNeg)) (
                                                                                    if (xs (l3 + 2).toNatClampNeg) = 0 then
                                                                                      f_law_1136 (f_law_18 xs Ls n) xs Ls l3 0 (xs (l3 + 1).toNatClampNeg) g
                                                                                    else
                                                                                      f_law_1136 (f_law_18 xs Ls n) xs Ls l3 1 (xs (l3 + 1).toNatClampNeg) g))
                                                                              else
                                                                                if ((xs l3.toNatClampNeg) &&& 63) = 36 then
                                                                                  xl (f_X11_forget_0 g) fun w71 =>
                                                                                  xl (f_X12_forget_60 w71.2) fun w72 =>
                                                                                  if w71.1 = w72.1 then
                                                                                    f_law_18 xs Ls n (l3 + 6) w72.2
                                                                                  else
                                                                                    some (0, w72.2)
                                                                                else
                                                                                  if ((xs l3.toNatClampNeg) &&& 63) = 37 then
                                                                                    xg (¬ ((l3 + 1) < 0 ∨ Ls ≤ (l3 + 1).toNatClampNeg)) (
                                                                                      xg (¬ ((l3 + 2) < 0 ∨ Ls ≤ (l3 + 2).toNatClampNeg)) (
                                                                                        xg (¬ ((l3 + 3) < 0 ∨ Ls ≤ (l3 + 3).toNatClampNeg)) (
                                                                                          (f_X11_whence_0 (xs (l3 + 1).toNatClampNeg) (xs (l3 + 2).toNatClampNeg) (xs (l3 + 3).toNatClampNeg) g).bind fun w73 =>
                                                                                          xg (¬ ((l3 + 1) < 0 ∨ Ls ≤ (l3 + 1).toNatClampNeg)) (
                                                                                            xg (¬ ((l3 + 2) < 0 ∨ Ls ≤ (l3 + 2).toNatClampNeg)) (
                                                                                              xg (¬ ((l3 + 3) < 0 ∨ Ls ≤ (l3 + 3).toNatClampNeg)) (
                                                                                                (f_X12_whence_60 (xs (l3 + 1).toNatClampNeg) (xs (l3 + 2).toNatClampNeg) (xs (l3 + 3).toNatClampNeg) w73.2).bind fun w74 =>
                                                                                                if w73.1 = w74.1 then
                                                                                                  f_law_18 xs Ls n (l3 + 6) w74.2
                                                                                                else
                                                                                                  some (0, w74.2)))))))
                                                                                  else
                                                                                    if ((xs l3.toNatClampNeg) &&& 63) = 38 then
                                                                                      xg (¬ ((l3 + 1) < 0 ∨ Ls ≤ (l3 + 1).toNatClampNeg)) (
                                                                                        xg (¬ ((l3 + 2) < 0 ∨ Ls ≤ (l3 + 2).toNatClampNeg)) (
                                                                                          (f_X11_listen_0 (xs (l3 + 1).toNatClampNeg) (xs (l3 + 2).toNatClampNeg) g).bind fun w75 =>
                                                                                          xg (¬ ((l3 + 1) < 0 ∨ Ls ≤ (l3 + 1).toNatClampNeg)) (
                                                                                            xg (¬ ((l3 + 2) < 0 ∨ Ls ≤ (l3 + 2).toNatClampNeg)) (
                                                                                              (f_X12_listen_60 (xs (l3 + 1).toNatClampNeg) (xs (l3 + 2).toNatClampNeg) w75.2).bind fun w76 =>
                                                                                              if w75.1 = w76.1 then
                                                                                                f_law_18 xs Ls n (l3 + 6) w76.2
                                                                                              else
                                                                                                some (0, w76.2)))))
                                                                                    else
                                                                                      if ((xs l3.toNatClampNeg) &&& 63) = 39 then
                                                                                        xg (¬ ((l3 + 1) < 0 ∨ Ls ≤ (l3 + 1).toNatClampNeg)) (
                                                                                          (f_X11_hold_0 (xs (l3 + 1).toNatClampNeg) g).bind fun w77 =>
                                                                                          xg (¬ ((l3 + 1) < 0 ∨ Ls ≤ (l3 + 1).toNatClampNeg)) (
                                                                                            (f_X12_hold_60 (xs (l3 + 1).toNatClampNeg) w77.2).bind fun w78 =>
                                                                                            if w77.1 = w78.1 then
                                                                                              f_law_18 xs Ls n (l3 + 6) w78.2
                                                                                            else
                                                                                              some (0, w78.2)))
                                                                                      else
                                                                                        if ((xs l3.toNatClampNeg) &&& 63) = 40 then
                                                                                          xg (¬ ((l3 + 1) < 0 ∨ Ls ≤ (l3 + 1).toNatClampNeg)) (
                                                                                            (f_X11_restore_0 (xs (l3 + 1).toNatClampNeg) g).bind fun w79 =>
                                                                                            xg (¬ ((l3 + 1) < 0 ∨ Ls ≤ (l3 + 1).toNatClampNeg)) (
                                                                                              (f_X12_restore_60 (xs (l3 + 1).toNatClampNeg) w79.2).bind fun w80 =>
                                                                                              if w79.1 = w80.1 then
                                                                                                f_law_18 xs Ls n (l3 + 6) w80.2
                                                                                              else
                                                                                                some (0, w80.2)))
                                                                                        else
                                                                                          if ((xs l3.toNatClampNeg) &&& 63) = 41 then
                                                                                            xg (¬ ((l3 + 1) < 0 ∨ Ls ≤ (l3 + 1).toNatClampNeg)) (
                                                                                              (f_X11_count_0 (xs (l3 + 1).toNatClampNeg) g).bind fun w81 =>
                                                                                              xg (¬ ((l3 + 1) < 0 ∨ Ls ≤ (l3 + 1).toNatClampNeg)) (
                                                                                                (f_X12_count_60 (xs (l3 + 1).toNatClampNeg) g).bind fun w82 =>
                                                                                                if w81 = w82.1 then
                                                                                                  f_law_18 xs Ls n (l3 + 6) w82.2
                                                                                                else
                                                                                                  some (0, w82.2)))
                                                                                          else
                                                                                            f_law_18 xs Ls n (l3 + 6) g)
def f_law (xs : Nat → Int32) (Ls : Nat) (g : xG) : Option (Int32 × xG) :=
  f_law_18 xs Ls xN 0 g
set_option maxRecDepth 20000 in
theorem t_law_479 {k : xK} {S : List xSh} {xs : Nat → Int32} {Ls : Nat} {out : Int32 × xG} (ho : out.1 = 1) (hS : xpf SH2 S) (hS1 : xpf SH1 S) (hX : xScr k xs Ls) (A : xAt k code 13 SH2 S) (hR : xEnd k S) (hrm : xrm k = room_1) (hz : xhs k + 103 = xb0 k + S.length) {k18 : Int32 → xG → Option (Int32 × xG)} (hk18 : ∀ (l3 : Int32) (g : xG), k18 l3 g = some out → xW k S 103 19882 18 [some (.retAddr 5), some (.ref 0), some (.ref 60), some (.int l3)] [] g) : ∀ (l3 : Int32) (s0 : Int32) (s1 : Int32) (g : xG), f_law_479 k18 xs Ls l3 s0 s1 g = some out → xW k S 103 19882 479 [some (.retAddr 5), some (.ref 0), some (.ref 60), some (.int l3)] [.int s0, .int s1, .ref 0] g := by
  intro l3 s0 s1 g H
  have H : ((f_X11_close_0 s1 s0 g).bind fun w14 =>
xg (¬ ((l3 + 1) < 0 ∨ Ls ≤ (l3 + 1).toNatClampNeg)) (
  xg (¬ ((l3 + 2) < 0 ∨ Ls ≤ (l3 + 2).toNatClampNeg)) (
    if (xs (l3 + 2).toNatClampNeg) = 0 then
      (f_X12_close_60 (xs (l3 + 1).toNatClampNeg) 0 w14.2).bind fun w15 =>
      if w14.1 = w15.1 then
        k18 (l3 + 6) w15.2
      else
        some (0, w15.2)
    else
      (f_X12_close_60 (xs (l3 + 1).toNatClampNeg) 1 w14.2).bind fun w16 =>
      if w14.1 = w16.1 then
        k18 (l3 + 6) w16.2
      else
        some (0, w16.2)))) = some out := H
  obtain ⟨w14, e14, H⟩ := xbind H
  refine xcallV A (ix := 50) (nxt := 482) hrm hz [.int s1, .int s0] [] 1013 (c_X11_close_0 hS1 _ e14) ok_X11_close (by decide +kernel) rfl (fun r g1 hq => ?_)
  rw [hq.1, hq.2]
  show xW k S 103 19882 482 [some (.retAddr 5), some (.ref 0), some (.ref 60), some (.int l3)] [.int w14.1] w14.2
  refine xb A [(.aload_n 2, 1, 0, 0, .null), (.aload_n 0, 1, 0, 0, .null), (.iload_n 3, 1, 0, 0, .null), (.iconst 1, 1, 0, 0, .int 1), (.iadd, 1, 0, 0, .null)] (pc' := 487) (ls' := [some (.retAddr 5), some (.ref 0), some (.ref 60), some (.int l3)]) (st' := [.int (l3 + 1), .retAddr 5, .ref 60, .int w14.1]) (g' := w14.2) (by decide +kernel) rfl ?_
  obtain ⟨h51, H⟩ := xg_elim H
  refine xsld A hX (nxt := 488) (by decide +kernel) h51 ?_
  refine xb A [(.aload_n 0, 1, 0, 0, .null), (.iload_n 3, 1, 0, 0, .null), (.iconst 2, 1, 0, 0, .int 2), (.iadd, 1, 0, 0, .null)] (pc' := 492) (ls' := [some (.retAddr 5), some (.ref 0), some (.ref 60), some (.int l3)]) (st' := [.int (l3 + 2), .retAddr 5, .int (xs (l3 + 1).toNatClampNeg), .ref 60, .int w14.1]) (g' := w14.2) (by decide +kernel) rfl ?_
  obtain ⟨h52, H⟩ := xg_elim H
  refine xsld A hX (nxt := 493) (by decide +kernel) h52 ?_
  refine xif_eq A (7) 500 496 (by decide +kernel) (fun h53 => ?_) (fun h53 => ?_)
  · rw [if_pos h53] at H
    refine xb A [(.iconst 0, 1, 0, 0, .int 0)] (pc' := 501) (ls' := [some (.retAddr 5), some (.ref 0), some (.ref 60), some (.int l3)]) (st' := [.int 0, .int (xs (l3 + 1).toNatClampNeg), .ref 60, .int w14.1]) (g' := w14.2) (by decide +kernel) rfl ?_
    obtain ⟨w15, e15, H⟩ := xbind H
    refine xcallV A (ix := 54) (nxt := 504) hrm hz [.int (xs (l3 + 1).toNatClampNeg), .int 0] [.int w14.1] 1813 (c_X12_close_60 hS _ e15) ok_X12_close (by decide +kernel) rfl (fun r g1 hq => ?_)
    rw [hq.1, hq.2]
    show xW k S 103 19882 504 [some (.retAddr 5), some (.ref 0), some (.ref 60), some (.int l3)] [.int w15.1, .int w14.1] w15.2
    refine xic_eq A (820) 1324 507 (by decide +kernel) (fun h54 => ?_) (fun h54 => ?_)
    · rw [if_pos h54] at H
      refine xb A [(.iinc 3 6, 3, 0, 0, .null)] (pc' := 1327) (ls' := [some (.retAddr 5), some (.ref 0), some (.ref 60), some (.int (l3 + 6))]) (st' := []) (g' := w15.2) (by decide +kernel) rfl ?_
      refine xgoto A (-1309) 18 (by decide +kernel) ?_
      exact hk18 _ _ H
    · rw [if_neg h54] at H
      refine xb A [(.iconst 0, 1, 0, 0, .int 0)] (pc' := 508) (ls' := [some (.retAddr 5), some (.ref 0), some (.ref 60), some (.int l3)]) (st' := [.int 0]) (g' := w15.2) (by decide +kernel) rfl ?_
      obtain rfl := Option.some.inj H
      exact absurd ho (show ¬ ((0 : Int32) = 1) by decide)
  · rw [if_neg h53] at H
    refine xb A [(.iconst 1, 1, 0, 0, .int 1)] (pc' := 497) (ls' := [some (.retAddr 5), some (.ref 0), some (.ref 60), some (.int l3)]) (st' := [.int 1, .int (xs (l3 + 1).toNatClampNeg), .ref 60, .int w14.1]) (g' := w14.2) (by decide +kernel) rfl ?_
    refine xgoto A (4) 501 (by decide +kernel) ?_
    obtain ⟨w16, e16, H⟩ := xbind H
    refine xcallV A (ix := 54) (nxt := 504) hrm hz [.int (xs (l3 + 1).toNatClampNeg), .int 1] [.int w14.1] 1813 (c_X12_close_60 hS _ e16) ok_X12_close (by decide +kernel) rfl (fun r g1 hq => ?_)
    rw [hq.1, hq.2]
    show xW k S 103 19882 504 [some (.retAddr 5), some (.ref 0), some (.ref 60), some (.int l3)] [.int w16.1, .int w14.1] w16.2
    refine xic_eq A (820) 1324 507 (by decide +kernel) (fun h55 => ?_) (fun h55 => ?_)
    · rw [if_pos h55] at H
      refine xb A [(.iinc 3 6, 3, 0, 0, .null)] (pc' := 1327) (ls' := [some (.retAddr 5), some (.ref 0), some (.ref 60), some (.int (l3 + 6))]) (st' := []) (g' := w16.2) (by decide +kernel) rfl ?_
      refine xgoto A (-1309) 18 (by decide +kernel) ?_
      exact hk18 _ _ H
    · rw [if_neg h55] at H
      refine xb A [(.iconst 0, 1, 0, 0, .int 0)] (pc' := 508) (ls' := [some (.retAddr 5), some (.ref 0), some (.ref 60), some (.int l3)]) (st' := [.int 0]) (g' := w16.2) (by decide +kernel) rfl ?_
      obtain rfl := Option.some.inj H
      exact absurd ho (show ¬ ((0 : Int32) = 1) by decide)
set_option maxRecDepth 20000 in
theorem t_law_1136 {k : xK} {S : List xSh} {xs : Nat → Int32} {Ls : Nat} {out : Int32 × xG} (ho : out.1 = 1) (hS : xpf SH2 S) (hS1 : xpf SH1 S) (hX : xScr k xs Ls) (A : xAt k code 13 SH2 S) (hR : xEnd k S) (hrm : xrm k = room_1) (hz : xhs k + 103 = xb0 k + S.length) {k18 : Int32 → xG → Option (Int32 × xG)} (hk18 : ∀ (l3 : Int32) (g : xG), k18 l3 g = some out → xW k S 103 19882 18 [some (.retAddr 5), some (.ref 0), some (.ref 60), some (.int l3)] [] g) : ∀ (l3 : Int32) (s0 : Int32) (s1 : Int32) (g : xG), f_law_1136 k18 xs Ls l3 s0 s1 g = some out → xW k S 103 19882 1136 [some (.retAddr 5), some (.ref 0), some (.ref 60), some (.int l3)] [.int s0, .int s1, .ref 0] g := by
  intro l3 s0 s1 g H
  have H : ((f_X11_tell_0 s1 s0 g).bind fun w68 =>
xg (¬ ((l3 + 1) < 0 ∨ Ls ≤ (l3 + 1).toNatClampNeg)) (
  xg (¬ ((l3 + 2) < 0 ∨ Ls ≤ (l3 + 2).toNatClampNeg)) (
    if (xs (l3 + 2).toNatClampNeg) = 0 then
      (f_X12_tell_60 (xs (l3 + 1).toNatClampNeg) 0 w68.2).bind fun w69 =>
      if w68.1 = w69.1 then
        k18 (l3 + 6) w69.2
      else
        some (0, w69.2)
    else
      (f_X12_tell_60 (xs (l3 + 1).toNatClampNeg) 1 w68.2).bind fun w70 =>
      if w68.1 = w70.1 then
        k18 (l3 + 6) w70.2
      else
        some (0, w70.2)))) = some out := H
  obtain ⟨w68, e68, H⟩ := xbind H
  refine xcallV A (ix := 162) (nxt := 1139) hrm hz [.int s1, .int s0] [] 1273 (c_X11_tell_0 hS1 _ e68) ok_X11_tell (by decide +kernel) rfl (fun r g1 hq => ?_)
  rw [hq.1, hq.2]
  show xW k S 103 19882 1139 [some (.retAddr 5), some (.ref 0), some (.ref 60), some (.int l3)] [.int w68.1] w68.2
  refine xb A [(.aload_n 2, 1, 0, 0, .null), (.aload_n 0, 1, 0, 0, .null), (.iload_n 3, 1, 0, 0, .null), (.iconst 1, 1, 0, 0, .int 1), (.iadd, 1, 0, 0, .null)] (pc' := 1144) (ls' := [some (.retAddr 5), some (.ref 0), some (.ref 60), some (.int l3)]) (st' := [.int (l3 + 1), .retAddr 5, .ref 60, .int w68.1]) (g' := w68.2) (by decide +kernel) rfl ?_
  obtain ⟨h166, H⟩ := xg_elim H
  refine xsld A hX (nxt := 1145) (by decide +kernel) h166 ?_
  refine xb A [(.aload_n 0, 1, 0, 0, .null), (.iload_n 3, 1, 0, 0, .null), (.iconst 2, 1, 0, 0, .int 2), (.iadd, 1, 0, 0, .null)] (pc' := 1149) (ls' := [some (.retAddr 5), some (.ref 0), some (.ref 60), some (.int l3)]) (st' := [.int (l3 + 2), .retAddr 5, .int (xs (l3 + 1).toNatClampNeg), .ref 60, .int w68.1]) (g' := w68.2) (by decide +kernel) rfl ?_
  obtain ⟨h167, H⟩ := xg_elim H
  refine xsld A hX (nxt := 1150) (by decide +kernel) h167 ?_
  refine xif_eq A (7) 1157 1153 (by decide +kernel) (fun h168 => ?_) (fun h168 => ?_)
  · rw [if_pos h168] at H
    refine xb A [(.iconst 0, 1, 0, 0, .int 0)] (pc' := 1158) (ls' := [some (.retAddr 5), some (.ref 0), some (.ref 60), some (.int l3)]) (st' := [.int 0, .int (xs (l3 + 1).toNatClampNeg), .ref 60, .int w68.1]) (g' := w68.2) (by decide +kernel) rfl ?_
    obtain ⟨w69, e69, H⟩ := xbind H
    refine xcallV A (ix := 166) (nxt := 1161) hrm hz [.int (xs (l3 + 1).toNatClampNeg), .int 0] [.int w68.1] 2009 (c_X12_tell_60 hS _ e69) ok_X12_tell (by decide +kernel) rfl (fun r g1 hq => ?_)
    rw [hq.1, hq.2]
    show xW k S 103 19882 1161 [some (.retAddr 5), some (.ref 0), some (.ref 60), some (.int l3)] [.int w69.1, .int w68.1] w69.2
    refine xic_eq A (163) 1324 1164 (by decide +kernel) (fun h169 => ?_) (fun h169 => ?_)
    · rw [if_pos h169] at H
      refine xb A [(.iinc 3 6, 3, 0, 0, .null)] (pc' := 1327) (ls' := [some (.retAddr 5), some (.ref 0), some (.ref 60), some (.int (l3 + 6))]) (st' := []) (g' := w69.2) (by decide +kernel) rfl ?_
      refine xgoto A (-1309) 18 (by decide +kernel) ?_
      exact hk18 _ _ H
    · rw [if_neg h169] at H
      refine xb A [(.iconst 0, 1, 0, 0, .int 0)] (pc' := 1165) (ls' := [some (.retAddr 5), some (.ref 0), some (.ref 60), some (.int l3)]) (st' := [.int 0]) (g' := w69.2) (by decide +kernel) rfl ?_
      obtain rfl := Option.some.inj H
      exact absurd ho (show ¬ ((0 : Int32) = 1) by decide)
  · rw [if_neg h168] at H
    refine xb A [(.iconst 1, 1, 0, 0, .int 1)] (pc' := 1154) (ls' := [some (.retAddr 5), some (.ref 0), some (.ref 60), some (.int l3)]) (st' := [.int 1, .int (xs (l3 + 1).toNatClampNeg), .ref 60, .int w68.1]) (g' := w68.2) (by decide +kernel) rfl ?_
    refine xgoto A (4) 1158 (by decide +kernel) ?_
    obtain ⟨w70, e70, H⟩ := xbind H
    refine xcallV A (ix := 166) (nxt := 1161) hrm hz [.int (xs (l3 + 1).toNatClampNeg), .int 1] [.int w68.1] 2009 (c_X12_tell_60 hS _ e70) ok_X12_tell (by decide +kernel) rfl (fun r g1 hq => ?_)
    rw [hq.1, hq.2]
    show xW k S 103 19882 1161 [some (.retAddr 5), some (.ref 0), some (.ref 60), some (.int l3)] [.int w70.1, .int w68.1] w70.2
    refine xic_eq A (163) 1324 1164 (by decide +kernel) (fun h170 => ?_) (fun h170 => ?_)
    · rw [if_pos h170] at H
      refine xb A [(.iinc 3 6, 3, 0, 0, .null)] (pc' := 1327) (ls' := [some (.retAddr 5), some (.ref 0), some (.ref 60), some (.int (l3 + 6))]) (st' := []) (g' := w70.2) (by decide +kernel) rfl ?_
      refine xgoto A (-1309) 18 (by decide +kernel) ?_
      exact hk18 _ _ H
    · rw [if_neg h170] at H
      refine xb A [(.iconst 0, 1, 0, 0, .int 0)] (pc' := 1165) (ls' := [some (.retAddr 5), some (.ref 0), some (.ref 60), some (.int l3)]) (st' := [.int 0]) (g' := w70.2) (by decide +kernel) rfl ?_
      obtain rfl := Option.some.inj H
      exact absurd ho (show ¬ ((0 : Int32) = 1) by decide)
set_option maxRecDepth 20000 in
set_option maxHeartbeats 20000000 in
theorem t_law_18 {k : xK} {S : List xSh} {xs : Nat → Int32} {Ls : Nat} {out : Int32 × xG} (ho : out.1 = 1) (hS : xpf SH2 S) (hS1 : xpf SH1 S) (hX : xScr k xs Ls) (A : xAt k code 13 SH2 S) (hR : xEnd k S) (hrm : xrm k = room_1) (hz : xhs k + 103 = xb0 k + S.length)   : ∀ (n : Nat) (l3 : Int32) (g : xG), f_law_18 xs Ls n l3 g = some out → xW k S 103 19882 18 [some (.retAddr 5), some (.ref 0), some (.ref 60), some (.int l3)] [] g := by
  intro n
  induction n with
  | zero => intro l3 g H; exact absurd H (by simp [f_law_18])
  | succ n ih =>
    intro l3 g H
    have H : (if ((Int32.ofNat Ls) - 6) < l3 then
  some (1, g)
else
  xg (¬ (l3 < 0 ∨ Ls ≤ l3.toNatClampNeg)) (
    if ((xs l3.toNatClampNeg) &&& 63) = 0 then
      xg (¬ ((l3 + 1) < 0 ∨ Ls ≤ (l3 + 1).toNatClampNeg)) (
        xg (¬ ((l3 + 2) < 0 ∨ Ls ≤ (l3 + 2).toNatClampNeg)) (
          xg (¬ ((l3 + 3) < 0 ∨ Ls ≤ (l3 + 3).toNatClampNeg)) (
            xg (¬ ((l3 + 4) < 0 ∨ Ls ≤ (l3 + 4).toNatClampNeg)) (
              xg (¬ ((l3 + 5) < 0 ∨ Ls ≤ (l3 + 5).toNatClampNeg)) (
                (f_X11_feed_0 (xs (l3 + 1).toNatClampNeg) (xs (l3 + 2).toNatClampNeg) (xs (l3 + 3).toNatClampNeg) (xs (l3 + 4).toNatClampNeg) (xs (l3 + 5).toNatClampNeg) g).bind fun w1 =>
                xg (¬ ((l3 + 1) < 0 ∨ Ls ≤ (l3 + 1).toNatClampNeg)) (
                  xg (¬ ((l3 + 2) < 0 ∨ Ls ≤ (l3 + 2).toNatClampNeg)) (
                    xg (¬ ((l3 + 3) < 0 ∨ Ls ≤ (l3 + 3).toNatClampNeg)) (
                      xg (¬ ((l3 + 4) < 0 ∨ Ls ≤ (l3 + 4).toNatClampNeg)) (
                        xg (¬ ((l3 + 5) < 0 ∨ Ls ≤ (l3 + 5).toNatClampNeg)) (
                          (f_X12_feed_60 (xs (l3 + 1).toNatClampNeg) (xs (l3 + 2).toNatClampNeg) (xs (l3 + 3).toNatClampNeg) (xs (l3 + 4).toNatClampNeg) (xs (l3 + 5).toNatClampNeg) w1.2).bind fun w2 =>
                          if w1.1 = w2.1 then
                            f_law_18 xs Ls n (l3 + 6) w2.2
                          else
                            some (0, w2.2)))))))))))
    else
      if ((xs l3.toNatClampNeg) &&& 63) = 1 then
        xg (¬ ((l3 + 1) < 0 ∨ Ls ≤ (l3 + 1).toNatClampNeg)) (
          xl (f_X11_back_0 (xs (l3 + 1).toNatClampNeg) g) fun w3 =>
          xg (¬ ((l3 + 1) < 0 ∨ Ls ≤ (l3 + 1).toNatClampNeg)) (
            xl (f_X12_back_60 (xs (l3 + 1).toNatClampNeg) w3.2) fun w4 =>
            if w3.1 = w4.1 then
              f_law_18 xs Ls n (l3 + 6) w4.2
            else
              some (0, w4.2)))
      else
        if ((xs l3.toNatClampNeg) &&& 63) = 2 then
          (f_X11_read_0 g).bind fun w5 =>
          (f_X12_read_60 w5.2).bind fun w6 =>
          if w5.1 = w6.1 then
            f_law_18 xs Ls n (l3 + 6) w6.2
          else
            some (0, w6.2)
        else
          if ((xs l3.toNatClampNeg) &&& 63) = 3 then
            if (f_X11_place_0 g) = (f_X12_place_60 g) then
              f_law_18 xs Ls n (l3 + 6) g
            else
              some (0, g)
          else
            if ((xs l3.toNatClampNeg) &&& 63) = 4 then
              xg (¬ ((l3 + 1) < 0 ∨ Ls ≤ (l3 + 1).toNatClampNeg)) (
                xg (¬ ((l3 + 2) < 0 ∨ Ls ≤ (l3 + 2).toNatClampNeg)) (
                  (f_X11_town_0 (xs (l3 + 1).toNatClampNeg) (xs (l3 + 2).toNatClampNeg) g).bind fun w7 =>
                  xg (¬ ((l3 + 1) < 0 ∨ Ls ≤ (l3 + 1).toNatClampNeg)) (
                    xg (¬ ((l3 + 2) < 0 ∨ Ls ≤ (l3 + 2).toNatClampNeg)) (
                      (f_X12_town_60 (xs (l3 + 1).toNatClampNeg) (xs (l3 + 2).toNatClampNeg) g).bind fun w8 =>
                      if w7 = w8.1 then
                        f_law_18 xs Ls n (l3 + 6) w8.2
                      else
                        some (0, w8.2)))))
            else
              if ((xs l3.toNatClampNeg) &&& 63) = 5 then
                xg (¬ ((l3 + 1) < 0 ∨ Ls ≤ (l3 + 1).toNatClampNeg)) (
                  xg (¬ ((l3 + 2) < 0 ∨ Ls ≤ (l3 + 2).toNatClampNeg)) (
                    xg (¬ ((l3 + 1) < 0 ∨ Ls ≤ (l3 + 1).toNatClampNeg)) (
                      xg (¬ ((l3 + 2) < 0 ∨ Ls ≤ (l3 + 2).toNatClampNeg)) (
                        (f_X12_road_60 (xs (l3 + 1).toNatClampNeg) (xs (l3 + 2).toNatClampNeg) g).bind fun w9 =>
                        if (f_X11_road_0 (xs (l3 + 1).toNatClampNeg) (xs (l3 + 2).toNatClampNeg) g) = w9.1 then
                          f_law_18 xs Ls n (l3 + 6) w9.2
                        else
                          some (0, w9.2)))))
              else
                if ((xs l3.toNatClampNeg) &&& 63) = 6 then
                  xg (¬ ((l3 + 1) < 0 ∨ Ls ≤ (l3 + 1).toNatClampNeg)) (
                    xg (¬ ((l3 + 2) < 0 ∨ Ls ≤ (l3 + 2).toNatClampNeg)) (
                      (f_X11_person_0 (xs (l3 + 1).toNatClampNeg) (xs (l3 + 2).toNatClampNeg) g).bind fun w10 =>
                      xg (¬ ((l3 + 1) < 0 ∨ Ls ≤ (l3 + 1).toNatClampNeg)) (
                        xg (¬ ((l3 + 2) < 0 ∨ Ls ≤ (l3 + 2).toNatClampNeg)) (
                          (f_X12_person_60 (xs (l3 + 1).toNatClampNeg) (xs (l3 + 2).toNatClampNeg) w10.2).bind fun w11 =>
                          if w10.1 = w11.1 then
                            f_law_18 xs Ls n (l3 + 6) w11.2
                          else
                            some (0, w11.2)))))
                else
                  if ((xs l3.toNatClampNeg) &&& 63) = 7 then
                    xg (¬ ((l3 + 1) < 0 ∨ Ls ≤ (l3 + 1).toNatClampNeg)) (
                      xg (¬ ((l3 + 2) < 0 ∨ Ls ≤ (l3 + 2).toNatClampNeg)) (
                        (f_X11_send_0 (xs (l3 + 1).toNatClampNeg) (xs (l3 + 2).toNatClampNeg) g).bind fun w12 =>
                        xg (¬ ((l3 + 1) < 0 ∨ Ls ≤ (l3 + 1).toNatClampNeg)) (
                          xg (¬ ((l3 + 2) < 0 ∨ Ls ≤ (l3 + 2).toNatClampNeg)) (
                            (f_X12_send_60 (xs (l3 + 1).toNatClampNeg) (xs (l3 + 2).toNatClampNeg) w12.2).bind fun w13 =>
                            if w12.1 = w13.1 then
                              f_law_18 xs Ls n (l3 + 6) w13.2
                            else
                              some (0, w13.2)))))
                  else
                    if ((xs l3.toNatClampNeg) &&& 63) = 8 then
                      xg (¬ ((l3 + 1) < 0 ∨ Ls ≤ (l3 + 1).toNatClampNeg)) (
                        xg (¬ ((l3 + 2) < 0 ∨ Ls ≤ (l3 + 2).toNatClampNeg)) (
                          if (xs (l3 + 2).toNatClampNeg) = 0 then
                            f_law_479 (f_law_18 xs Ls n) xs Ls l3 0 (xs (l3 + 1).toNatClampNeg) g
                          else
                            f_law_479 (f_law_18 xs Ls n) xs Ls l3 1 (xs (l3 + 1).toNatClampNeg) g))
                    else
                      if ((xs l3.toNatClampNeg) &&& 63) = 9 then
                        xg (¬ ((l3 + 1) < 0 ∨ Ls ≤ (l3 + 1).toNatClampNeg)) (
                          (f_X11_admit_0 (xs (l3 + 1).toNatClampNeg) g).bind fun w17 =>
                          xg (¬ ((l3 + 1) < 0 ∨ Ls ≤ (l3 + 1).toNatClampNeg)) (
                            (f_X12_admit_60 (xs (l3 + 1).toNatClampNeg) w17.2).bind fun w18 =>
                            if w17.1 = w18.1 then
                              f_law_18 xs Ls n (l3 + 6) w18.2
                            else
                              some (0, w18.2)))
                      else
                        if ((xs l3.toNatClampNeg) &&& 63) = 10 then
                          xg (¬ ((l3 + 1) < 0 ∨ Ls ≤ (l3 + 1).toNatClampNeg)) (
                            (f_X11_days_0 (xs (l3 + 1).toNatClampNeg) g).bind fun w19 =>
                            xg (¬ ((l3 + 1) < 0 ∨ Ls ≤ (l3 + 1).toNatClampNeg)) (
                              (f_X12_days_60 (xs (l3 + 1).toNatClampNeg) w19.2).bind fun w20 =>
                              if w19.1 = w20.1 then
                                f_law_18 xs Ls n (l3 + 6) w20.2
                              else
                                some (0, w20.2)))
                        else
                          if ((xs l3.toNatClampNeg) &&& 63) = 11 then
                            (f_X11_undo_0 g).bind fun w21 =>
                            (f_X12_undo_60 w21.2).bind fun w22 =>
                            if w21.1 = w22.1 then
                              f_law_18 xs Ls n (l3 + 6) w22.2
                            else
                              some (0, w22.2)
                          else
                            if ((xs l3.toNatClampNeg) &&& 63) = 12 then
                              (f_X11_ringer_0 g).bind fun w23 =>
                              (f_X12_ringer_60 w23.2).bind fun w24 =>
                              if w23.1 = w24.1 then
                                f_law_18 xs Ls n (l3 + 6) w24.2
                              else
                                some (0, w24.2)
                            else
                              if ((xs l3.toNatClampNeg) &&& 63) = 13 then
                                xg (¬ ((l3 + 1) < 0 ∨ Ls ≤ (l3 + 1).toNatClampNeg)) (
                                  xg (¬ ((l3 + 2) < 0 ∨ Ls ≤ (l3 + 2).toNatClampNeg)) (
                                    xg (¬ ((l3 + 1) < 0 ∨ Ls ≤ (l3 + 1).toNatClampNeg)) (
                                      xg (¬ ((l3 + 2) < 0 ∨ Ls ≤ (l3 + 2).toNatClampNeg)) (
                                        (f_X12_far_60 (xs (l3 + 1).toNatClampNeg) (xs (l3 + 2).toNatClampNeg) g).bind fun w25 =>
                                        if (f_X11_far_0 (xs (l3 + 1).toNatClampNeg) (xs (l3 + 2).toNatClampNeg) g) = w25.1 then
                                          f_law_18 xs Ls n (l3 + 6) w25.2
                                        else
                                          some (0, w25.2)))))
                              else
                                if ((xs l3.toNatClampNeg) &&& 63) = 14 then
                                  xg (¬ ((l3 + 1) < 0 ∨ Ls ≤ (l3 + 1).toNatClampNeg)) (
                                    xg (¬ ((l3 + 2) < 0 ∨ Ls ≤ (l3 + 2).toNatClampNeg)) (
                                      (f_X11_longest_0 (xs (l3 + 1).toNatClampNeg) (xs (l3 + 2).toNatClampNeg) g).bind fun w26 =>
                                      xg (¬ ((l3 + 1) < 0 ∨ Ls ≤ (l3 + 1).toNatClampNeg)) (
                                        xg (¬ ((l3 + 2) < 0 ∨ Ls ≤ (l3 + 2).toNatClampNeg)) (
                                          (f_X12_longest_60 (xs (l3 + 1).toNatClampNeg) (xs (l3 + 2).toNatClampNeg) w26.2).bind fun w27 =>
                                          if w26.1 = w27.1 then
                                            f_law_18 xs Ls n (l3 + 6) w27.2
                                          else
                                            some (0, w27.2)))))
                                else
                                  if ((xs l3.toNatClampNeg) &&& 63) = 15 then
                                    (f_X11_liars_0 g).bind fun w28 =>
                                    (f_X12_liars_60 w28.2).bind fun w29 =>
                                    if w28.1 = w29.1 then
                                      f_law_18 xs Ls n (l3 + 6) w29.2
                                    else
                                      some (0, w29.2)
                                  else
                                    if ((xs l3.toNatClampNeg) &&& 63) = 16 then
                                      (f_X11_truth_0 g).bind fun w30 =>
                                      (f_X12_truth_60 g).bind fun w31 =>
                                      if w30 = w31.1 then
                                        f_law_18 xs Ls n (l3 + 6) w31.2
                                      else
                                        some (0, w31.2)
                                    else
                                      if ((xs l3.toNatClampNeg) &&& 63) = 17 then
                                        (f_X11_turns_0 g).bind fun w32 =>
                                        (f_X12_turns_60 w32.2).bind fun w33 =>
                                        if w32.1 = w33.1 then
                                          f_law_18 xs Ls n (l3 + 6) w33.2
                                        else
                                          some (0, w33.2)
                                      else
                                        if ((xs l3.toNatClampNeg) &&& 63) = 18 then
                                          xg (¬ ((l3 + 1) < 0 ∨ Ls ≤ (l3 + 1).toNatClampNeg)) (
                                            (f_X11_wish_0 (xs (l3 + 1).toNatClampNeg) g).bind fun w34 =>
                                            xg (¬ ((l3 + 1) < 0 ∨ Ls ≤ (l3 + 1).toNatClampNeg)) (
                                              (f_X12_wish_60 (xs (l3 + 1).toNatClampNeg) w34.2).bind fun w35 =>
                                              if w34.1 = w35.1 then
                                                f_law_18 xs Ls n (l3 + 6) w35.2
                                              else
                                                some (0, w35.2)))
                                        else
                                          if ((xs l3.toNatClampNeg) &&& 63) = 19 then
                                            xg (¬ ((l3 + 1) < 0 ∨ Ls ≤ (l3 + 1).toNatClampNeg)) (
                                              (f_X11_when_0 (xs (l3 + 1).toNatClampNeg) g).bind fun w36 =>
                                              xg (¬ ((l3 + 1) < 0 ∨ Ls ≤ (l3 + 1).toNatClampNeg)) (
                                                (f_X12_when_60 (xs (l3 + 1).toNatClampNeg) w36.2).bind fun w37 =>
                                                if w36.1 = w37.1 then
                                                  f_law_18 xs Ls n (l3 + 6) w37.2
                                                else
                                                  some (0, w37.2)))
                                          else
                                            if ((xs l3.toNatClampNeg) &&& 63) = 20 then
                                              xg (¬ ((l3 + 1) < 0 ∨ Ls ≤ (l3 + 1).toNatClampNeg)) (
                                                (f_X11_soonest_0 (xs (l3 + 1).toNatClampNeg) g).bind fun w38 =>
                                                xg (¬ ((l3 + 1) < 0 ∨ Ls ≤ (l3 + 1).toNatClampNeg)) (
                                                  (f_X12_soonest_60 (xs (l3 + 1).toNatClampNeg) w38.2).bind fun w39 =>
                                                  if w38.1 = w39.1 then
                                                    f_law_18 xs Ls n (l3 + 6) w39.2
                                                  else
                                                    some (0, w39.2)))
                                            else
                                              if ((xs l3.toNatClampNeg) &&& 63) = 21 then
                                                xg (¬ ((l3 + 1) < 0 ∨ Ls ≤ (l3 + 1).toNatClampNeg)) (
                                                  xg (¬ ((l3 + 2) < 0 ∨ Ls ≤ (l3 + 2).toNatClampNeg)) (
                                                    (f_X11_often_0 (xs (l3 + 1).toNatClampNeg) (xs (l3 + 2).toNatClampNeg) g).bind fun w40 =>
                                                    xg (¬ ((l3 + 1) < 0 ∨ Ls ≤ (l3 + 1).toNatClampNeg)) (
                                                      xg (¬ ((l3 + 2) < 0 ∨ Ls ≤ (l3 + 2).toNatClampNeg)) (
                                                        (f_X12_often_60 (xs (l3 + 1).toNatClampNeg) (xs (l3 + 2).toNatClampNeg) w40.2).bind fun w41 =>
                                                        if w40.1 = w41.1 then
                                                          f_law_18 xs Ls n (l3 + 6) w41.2
                                                        else
                                                          some (0, w41.2)))))
                                              else
                                                if ((xs l3.toNatClampNeg) &&& 63) = 22 then
                                                  xg (¬ ((l3 + 1) < 0 ∨ Ls ≤ (l3 + 1).toNatClampNeg)) (
                                                    (f_X11_rings_0 (xs (l3 + 1).toNatClampNeg) g).bind fun w42 =>
                                                    xg (¬ ((l3 + 1) < 0 ∨ Ls ≤ (l3 + 1).toNatClampNeg)) (
                                                      (f_X12_rings_60 (xs (l3 + 1).toNatClampNeg) w42.2).bind fun w43 =>
                                                      if w42.1 = w43.1 then
                                                        f_law_18 xs Ls n (l3 + 6) w43.2
                                                      else
                                                        some (0, w43.2)))
                                                else
                                                  if ((xs l3.toNatClampNeg) &&& 63) = 23 then
                                                    xg (¬ ((l3 + 1) < 0 ∨ Ls ≤ (l3 + 1).toNatClampNeg)) (
                                                      (f_X11_walks_0 (xs (l3 + 1).toNatClampNeg) g).bind fun w44 =>
                                                      xg (¬ ((l3 + 1) < 0 ∨ Ls ≤ (l3 + 1).toNatClampNeg)) (
                                                        (f_X12_walks_60 (xs (l3 + 1).toNatClampNeg) g).bind fun w45 =>
                                                        if w44 = w45.1 then
                                                          f_law_18 xs Ls n (l3 + 6) w45.2
                                                        else
                                                          some (0, w45.2)))
                                                  else
                                                    if ((xs l3.toNatClampNeg) &&& 63) = 24 then
                                                      xg (¬ ((l3 + 1) < 0 ∨ Ls ≤ (l3 + 1).toNatClampNeg)) (
                                                        (f_X11_stranger_0 (xs (l3 + 1).toNatClampNeg) g).bind fun w46 =>
                                                        xg (¬ ((l3 + 1) < 0 ∨ Ls ≤ (l3 + 1).toNatClampNeg)) (
                                                          (f_X12_stranger_60 (xs (l3 + 1).toNatClampNeg) g).bind fun w47 =>
                                                          if w46 = w47.1 then
                                                            f_law_18 xs Ls n (l3 + 6) w47.2
                                                          else
                                                            some (0, w47.2)))
                                                    else
                                                      if ((xs l3.toNatClampNeg) &&& 63) = 25 then
                                                        xg (¬ ((l3 + 1) < 0 ∨ Ls ≤ (l3 + 1).toNatClampNeg)) (
                                                          (f_X11_clerks_0 (xs (l3 + 1).toNatClampNeg) g).bind fun w48 =>
                                                          xg (¬ ((l3 + 1) < 0 ∨ Ls ≤ (l3 + 1).toNatClampNeg)) (
                                                            (f_X12_clerks_60 (xs (l3 + 1).toNatClampNeg) g).bind fun w49 =>
                                                            if w48 = w49.1 then
                                                              f_law_18 xs Ls n (l3 + 6) w49.2
                                                            else
                                                              some (0, w49.2)))
                                                      else
                                                        if ((xs l3.toNatClampNeg) &&& 63) = 26 then
                                                          xg (¬ ((l3 + 1) < 0 ∨ Ls ≤ (l3 + 1).toNatClampNeg)) (
                                                            (f_X11_centre_0 (xs (l3 + 1).toNatClampNeg) g).bind fun w50 =>
                                                            xg (¬ ((l3 + 1) < 0 ∨ Ls ≤ (l3 + 1).toNatClampNeg)) (
                                                              (f_X12_centre_60 (xs (l3 + 1).toNatClampNeg) g).bind fun w51 =>
                                                              if w50 = w51.1 then
                                                                f_law_18 xs Ls n (l3 + 6) w51.2
                                                              else
                                                                some (0, w51.2)))
                                                        else
                                                          if ((xs l3.toNatClampNeg) &&& 63) = 27 then
                                                            xg (¬ ((l3 + 1) < 0 ∨ Ls ≤ (l3 + 1).toNatClampNeg)) (
                                                              (f_X11_meet_0 (xs (l3 + 1).toNatClampNeg) g).bind fun w52 =>
                                                              xg (¬ ((l3 + 1) < 0 ∨ Ls ≤ (l3 + 1).toNatClampNeg)) (
                                                                (f_X12_meet_60 (xs (l3 + 1).toNatClampNeg) g).bind fun w53 =>
                                                                if w52 = w53.1 then
                                                                  f_law_18 xs Ls n (l3 + 6) w53.2
                                                                else
                                                                  some (0, w53.2)))
                                                          else
                                                            if ((xs l3.toNatClampNeg) &&& 63) = 28 then
                                                              (f_X11_tree_0 g).bind fun w54 =>
                                                              (f_X12_tree_60 g).bind fun w55 =>
                                                              if w54 = w55.1 then
                                                                f_law_18 xs Ls n (l3 + 6) w55.2
                                                              else
                                                                some (0, w55.2)
                                                            else
                                                              if ((xs l3.toNatClampNeg) &&& 63) = 29 then
                                                                (f_X11_bridges_0 g).bind fun w56 =>
                                                                (f_X12_bridges_60 w56.2).bind fun w57 =>
                                                                if w56.1 = w57.1 then
                                                                  f_law_18 xs Ls n (l3 + 6) w57.2
                                                                else
                                                                  some (0, w57.2)
                                                              else
                                                                if ((xs l3.toNatClampNeg) &&& 63) = 30 then
                                                                  xg (¬ ((l3 + 1) < 0 ∨ Ls ≤ (l3 + 1).toNatClampNeg)) (
                                                                    xg (¬ ((l3 + 2) < 0 ∨ Ls ≤ (l3 + 2).toNatClampNeg)) (
                                                                      (f_X11_steps_0 (xs (l3 + 1).toNatClampNeg) (xs (l3 + 2).toNatClampNeg) g).bind fun w58 =>
                                                                      xg (¬ ((l3 + 1) < 0 ∨ Ls ≤ (l3 + 1).toNatClampNeg)) (
                                                                        xg (¬ ((l3 + 2) < 0 ∨ Ls ≤ (l3 + 2).toNatClampNeg)) (
                                                                          (f_X12_steps_60 (xs (l3 + 1).toNatClampNeg) (xs (l3 + 2).toNatClampNeg) g).bind fun w59 =>
                                                                          if w58 = w59.1 then
                                                                            f_law_18 xs Ls n (l3 + 6) w59.2
                                                                          else
                                                                            some (0, w59.2)))))
                                                                else
                                                                  if ((xs l3.toNatClampNeg) &&& 63) = 31 then
                                                                    xg (¬ ((l3 + 1) < 0 ∨ Ls ≤ (l3 + 1).toNatClampNeg)) (
                                                                      xg (¬ ((l3 + 2) < 0 ∨ Ls ≤ (l3 + 2).toNatClampNeg)) (
                                                                        (f_X11_then_0 (xs (l3 + 1).toNatClampNeg) (xs (l3 + 2).toNatClampNeg) g).bind fun w60 =>
                                                                        xg (¬ ((l3 + 1) < 0 ∨ Ls ≤ (l3 + 1).toNatClampNeg)) (
                                                                          xg (¬ ((l3 + 2) < 0 ∨ Ls ≤ (l3 + 2).toNatClampNeg)) (
                                                                            (f_X12_then_60 (xs (l3 + 1).toNatClampNeg) (xs (l3 + 2).toNatClampNeg) w60.2).bind fun w61 =>
                                                                            if w60.1 = w61.1 then
                                                                              f_law_18 xs Ls n (l3 + 6) w61.2
                                                                            else
                                                                              some (0, w61.2)))))
                                                                  else
                                                                    if ((xs l3.toNatClampNeg) &&& 63) = 32 then
                                                                      xg (¬ ((l3 + 1) < 0 ∨ Ls ≤ (l3 + 1).toNatClampNeg)) (
                                                                        xg (¬ ((l3 + 2) < 0 ∨ Ls ≤ (l3 + 2).toNatClampNeg)) (
                                                                          (f_X11_rungIn_0 (xs (l3 + 1).toNatClampNeg) (xs (l3 + 2).toNatClampNeg) g).bind fun w62 =>
                                                                          xg (¬ ((l3 + 1) < 0 ∨ Ls ≤ (l3 + 1).toNatClampNeg)) (
                                                                            xg (¬ ((l3 + 2) < 0 ∨ Ls ≤ (l3 + 2).toNatClampNeg)) (
                                                                              (f_X12_rungIn_60 (xs (l3 + 1).toNatClampNeg) (xs (l3 + 2).toNatClampNeg) w62.2).bind fun w63 =>
                                                                              if w62.1 = w63.1 then
                                                                                f_law_18 xs Ls n (l3 + 6) w63.2
                                                                              else
                                                                                some (0, w63.2)))))
                                                                    else
                                                                      if ((xs l3.toNatClampNeg) &&& 63) = 33 then
                                                                        xg (¬ ((l3 + 1) < 0 ∨ Ls ≤ (l3 + 1).toNatClampNeg)) (
                                                                          (f_X11_barredIn_0 (xs (l3 + 1).toNatClampNeg) g).bind fun w64 =>
                                                                          xg (¬ ((l3 + 1) < 0 ∨ Ls ≤ (l3 + 1).toNatClampNeg)) (
                                                                            (f_X12_barredIn_60 (xs (l3 + 1).toNatClampNeg) w64.2).bind fun w65 =>
                                                                            if w64.1 = w65.1 then
                                                                              f_law_18 xs Ls n (l3 + 6) w65.2
                                                                            else
                                                                              some (0, w65.2)))
                                                                      else
                                                                        if ((xs l3.toNatClampNeg) &&& 63) = 34 then
                                                                          xg (¬ ((l3 + 1) < 0 ∨ Ls ≤ (l3 + 1).toNatClampNeg)) (
                                                                            xg (¬ ((l3 + 2) < 0 ∨ Ls ≤ (l3 + 2).toNatClampNeg)) (
                                                                              xg (¬ ((l3 + 3) < 0 ∨ Ls ≤ (l3 + 3).toNatClampNeg)) (
                                                                                (f_X11_year_0 (xs (l3 + 1).toNatClampNeg) (xs (l3 + 2).toNatClampNeg) (xs (l3 + 3).toNatClampNeg) g).bind fun w66 =>
                                                                                xg (¬ ((l3 + 1) < 0 ∨ Ls ≤ (l3 + 1).toNatClampNeg)) (
                                                                                  xg (¬ ((l3 + 2) < 0 ∨ Ls ≤ (l3 + 2).toNatClampNeg)) (
                                                                                    xg (¬ ((l3 + 3) < 0 ∨ Ls ≤ (l3 + 3).toNatClampNeg)) (
                                                                                      (f_X12_year_60 (xs (l3 + 1).toNatClampNeg) (xs (l3 + 2).toNatClampNeg) (xs (l3 + 3).toNatClampNeg) w66.2).bind fun w67 =>
                                                                                      if w66.1 = w67.1 then
                                                                                        f_law_18 xs Ls n (l3 + 6) w67.2
                                                                                      else
                                                                                        some (0, w67.2)))))))
                                                                        else
                                                                          if ((xs l3.toNatClampNeg) &&& 63) = 35 then
                                                                            xg (¬ ((l3 + 1) < 0 ∨ Ls ≤ (l3 + 1).toNatClampNeg)) (
                                                                              xg (¬ ((l3 + 2) < 0 ∨ Ls ≤ (l3 + 2).toNatClampNeg)) (
                                                                                if (xs (l3 + 2).toNatClampNeg) = 0 then
                                                                                  f_law_1136 (f_law_18 xs Ls n) xs Ls l3 0 (xs (l3 + 1).toNatClampNeg) g
                                                                                else
                                                                                  f_law_1136 (f_law_18 xs Ls n) xs Ls l3 1 (xs (l3 + 1).toNatClampNeg) g))
                                                                          else
                                                                            if ((xs l3.toNatClampNeg) &&& 63) = 36 then
                                                                              xl (f_X11_forget_0 g) fun w71 =>
                                                                              xl (f_X12_forget_60 w71.2) fun w72 =>
                                                                              if w71.1 = w72.1 then
                                                                                f_law_18 xs Ls n (l3 + 6) w72.2
                                                                              else
                                                                                some (0, w72.2)
                                                                            else
                                                                              if ((xs l3.toNatClampNeg) &&& 63) = 37 then
                                                                                xg (¬ ((l3 + 1) < 0 ∨ Ls ≤ (l3 + 1).toNatClampNeg)) (
                                                                                  xg (¬ ((l3 + 2) < 0 ∨ Ls ≤ (l3 + 2).toNatClampNeg)) (
                                                                                    xg (¬ ((l3 + 3) < 0 ∨ Ls ≤ (l3 + 3).toNatClampNeg)) (
                                                                                      (f_X11_whence_0 (xs (l3 + 1).toNatClampNeg) (xs (l3 + 2).toNatClampNeg) (xs (l3 + 3).toNatClampNeg) g).bind fun w73 =>
                                                                                      xg (¬ ((l3 + 1) < 0 ∨ Ls ≤ (l3 + 1).toNatClampNeg)) (
                                                                                        xg (¬ ((l3 + 2) < 0 ∨ Ls ≤ (l3 + 2).toNatClampNeg)) (
                                                                                          xg (¬ ((l3 + 3) < 0 ∨ Ls ≤ (l3 + 3).toNatClampNeg)) (
                                                                                            (f_X12_whence_60 (xs (l3 + 1).toNatClampNeg) (xs (l3 + 2).toNatClampNeg) (xs (l3 + 3).toNatClampNeg) w73.2).bind fun w74 =>
                                                                                            if w73.1 = w74.1 then
                                                                                              f_law_18 xs Ls n (l3 + 6) w74.2
                                                                                            else
                                                                                              some (0, w74.2)))))))
                                                                              else
                                                                                if ((xs l3.toNatClampNeg) &&& 63) = 38 then
                                                                                  xg (¬ ((l3 + 1) < 0 ∨ Ls ≤ (l3 + 1).toNatClampNeg)) (
                                                                                    xg (¬ ((l3 + 2) < 0 ∨ Ls ≤ (l3 + 2).toNatClampNeg)) (
                                                                                      (f_X11_listen_0 (xs (l3 + 1).toNatClampNeg) (xs (l3 + 2).toNatClampNeg) g).bind fun w75 =>
                                                                                      xg (¬ ((l3 + 1) < 0 ∨ Ls ≤ (l3 + 1).toNatClampNeg)) (
                                                                                        xg (¬ ((l3 + 2) < 0 ∨ Ls ≤ (l3 + 2).toNatClampNeg)) (
                                                                                          (f_X12_listen_60 (xs (l3 + 1).toNatClampNeg) (xs (l3 + 2).toNatClampNeg) w75.2).bind fun w76 =>
                                                                                          if w75.1 = w76.1 then
                                                                                            f_law_18 xs Ls n (l3 + 6) w76.2
                                                                                          else
                                                                                            some (0, w76.2)))))
                                                                                else
                                                                                  if ((xs l3.toNatClampNeg) &&& 63) = 39 then
                                                                                    xg (¬ ((l3 + 1) < 0 ∨ Ls ≤ (l3 + 1).toNatClampNeg)) (
                                                                                      (f_X11_hold_0 (xs (l3 + 1).toNatClampNeg) g).bind fun w77 =>
                                                                                      xg (¬ ((l3 + 1) < 0 ∨ Ls ≤ (l3 + 1).toNatClampNeg)) (
                                                                                        (f_X12_hold_60 (xs (l3 + 1).toNatClampNeg) w77.2).bind fun w78 =>
                                                                                        if w77.1 = w78.1 then
                                                                                          f_law_18 xs Ls n (l3 + 6) w78.2
                                                                                        else
                                                                                          some (0, w78.2)))
                                                                                  else
                                                                                    if ((xs l3.toNatClampNeg) &&& 63) = 40 then
                                                                                      xg (¬ ((l3 + 1) < 0 ∨ Ls ≤ (l3 + 1).toNatClampNeg)) (
                                                                                        (f_X11_restore_0 (xs (l3 + 1).toNatClampNeg) g).bind fun w79 =>
                                                                                        xg (¬ ((l3 + 1) < 0 ∨ Ls ≤ (l3 + 1).toNatClampNeg)) (
                                                                                          (f_X12_restore_60 (xs (l3 + 1).toNatClampNeg) w79.2).bind fun w80 =>
                                                                                          if w79.1 = w80.1 then
                                                                                            f_law_18 xs Ls n (l3 + 6) w80.2
                                                                                          else
                                                                                            some (0, w80.2)))
                                                                                    else
                                                                                      if ((xs l3.toNatClampNeg) &&& 63) = 41 then
                                                                                        xg (¬ ((l3 + 1) < 0 ∨ Ls ≤ (l3 + 1).toNatClampNeg)) (
                                                                                          (f_X11_count_0 (xs (l3 + 1).toNatClampNeg) g).bind fun w81 =>
                                                                                          xg (¬ ((l3 + 1) < 0 ∨ Ls ≤ (l3 + 1).toNatClampNeg)) (
                                                                                            (f_X12_count_60 (xs (l3 + 1).toNatClampNeg) g).bind fun w82 =>
                                                                                            if w81 = w82.1 then
                                                                                              f_law_18 xs Ls n (l3 + 6) w82.2
                                                                                            else
                                                                                              some (0, w82.2)))
                                                                                      else
                                                                                        f_law_18 xs Ls n (l3 + 6) g)) = some out := H
    refine xb A [(.iload_n 3, 1, 0, 0, .null), (.aload_n 0, 1, 0, 0, .null)] (pc' := 20) (ls' := [some (.retAddr 5), some (.ref 0), some (.ref 60), some (.int l3)]) (st' := [.retAddr 5, .int l3]) (g' := g) (by decide +kernel) rfl ?_
    refine xslen A hX (nxt := 21) (by decide +kernel) ?_
    show xW k S 103 19882 21 [some (.retAddr 5), some (.ref 0), some (.ref 60), some (.int l3)] [.int (Int32.ofNat Ls), .int l3] g
    refine xb A [(.bipush 6, 2, 0, 0, .int 6), (.isub, 1, 0, 0, .null)] (pc' := 24) (ls' := [some (.retAddr 5), some (.ref 0), some (.ref 60), some (.int l3)]) (st' := [.int ((Int32.ofNat Ls) - 6), .int l3]) (g' := g) (by decide +kernel) rfl ?_
    refine xic_gt A (1306) 1330 27 (by decide +kernel) (fun h1 => ?_) (fun h1 => ?_)
    · rw [if_pos h1] at H
      refine xb A [(.iconst 1, 1, 0, 0, .int 1)] (pc' := 1331) (ls' := [some (.retAddr 5), some (.ref 0), some (.ref 60), some (.int l3)]) (st' := [.int 1]) (g' := g) (by decide +kernel) rfl ?_
      obtain rfl := Option.some.inj H
      exact hR _ _ _ (by decide +kernel)
    · rw [if_neg h1] at H
      refine xb A [(.aload_n 0, 1, 0, 0, .null), (.iload_n 3, 1, 0, 0, .null)] (pc' := 29) (ls' := [some (.retAddr 5), some (.ref 0), some (.ref 60), some (.int l3)]) (st' := [.int l3, .retAddr 5]) (g' := g) (by decide +kernel) rfl ?_
      obtain ⟨h2, H⟩ := xg_elim H
      refine xsld A hX (nxt := 30) (by decide +kernel) h2 ?_
      refine xb A [(.bipush 63, 2, 0, 0, .int 63), (.iand, 1, 0, 0, .null)] (pc' := 33) (ls' := [some (.retAddr 5), some (.ref 0), some (.ref 60), some (.int l3)]) (st' := [.int ((xs l3.toNatClampNeg) &&& 63)]) (g' := g) (by decide +kernel) rfl ?_
      by_cases h3 : ((xs l3.toNatClampNeg) &&& 63) = 0
      · rw [if_pos h3] at H
        refine xtabIn A (dflt := 1291) (lo := 0) (hi := 41) (off := 183) (offs := #[(183), (246), (269), (282), (295), (328), (361), (394), (427), (476), (499), (522), (535), (548), (581), (614), (627), (640), (653), (676), (699), (722), (755), (778), (801), (824), (847), (870), (893), (906), (919), (952), (985), (1018), (1041), (1084), (1133), (1146), (1189), (1222), (1245), (1268)]) (len := 183) (tgt := 216) (0) (by rw [h3]; rfl) (by decide +kernel) ?_
        refine xb A [(.aload_n 1, 1, 0, 0, .null), (.aload_n 0, 1, 0, 0, .null), (.iload_n 3, 1, 0, 0, .null), (.iconst 1, 1, 0, 0, .int 1), (.iadd, 1, 0, 0, .null)] (pc' := 221) (ls' := [some (.retAddr 5), some (.ref 0), some (.ref 60), some (.int l3)]) (st' := [.int (l3 + 1), .retAddr 5, .ref 0]) (g' := g) (by decide +kernel) rfl ?_
        obtain ⟨h4, H⟩ := xg_elim H
        refine xsld A hX (nxt := 222) (by decide +kernel) h4 ?_
        refine xb A [(.aload_n 0, 1, 0, 0, .null), (.iload_n 3, 1, 0, 0, .null), (.iconst 2, 1, 0, 0, .int 2), (.iadd, 1, 0, 0, .null)] (pc' := 226) (ls' := [some (.retAddr 5), some (.ref 0), some (.ref 60), some (.int l3)]) (st' := [.int (l3 + 2), .retAddr 5, .int (xs (l3 + 1).toNatClampNeg), .ref 0]) (g' := g) (by decide +kernel) rfl ?_
        obtain ⟨h5, H⟩ := xg_elim H
        refine xsld A hX (nxt := 227) (by decide +kernel) h5 ?_
        refine xb A [(.aload_n 0, 1, 0, 0, .null), (.iload_n 3, 1, 0, 0, .null), (.iconst 3, 1, 0, 0, .int 3), (.iadd, 1, 0, 0, .null)] (pc' := 231) (ls' := [some (.retAddr 5), some (.ref 0), some (.ref 60), some (.int l3)]) (st' := [.int (l3 + 3), .retAddr 5, .int (xs (l3 + 2).toNatClampNeg), .int (xs (l3 + 1).toNatClampNeg), .ref 0]) (g' := g) (by decide +kernel) rfl ?_
        obtain ⟨h6, H⟩ := xg_elim H
        refine xsld A hX (nxt := 232) (by decide +kernel) h6 ?_
        refine xb A [(.aload_n 0, 1, 0, 0, .null), (.iload_n 3, 1, 0, 0, .null), (.iconst 4, 1, 0, 0, .int 4), (.iadd, 1, 0, 0, .null)] (pc' := 236) (ls' := [some (.retAddr 5), some (.ref 0), some (.ref 60), some (.int l3)]) (st' := [.int (l3 + 4), .retAddr 5, .int (xs (l3 + 3).toNatClampNeg), .int (xs (l3 + 2).toNatClampNeg), .int (xs (l3 + 1).toNatClampNeg), .ref 0]) (g' := g) (by decide +kernel) rfl ?_
        obtain ⟨h7, H⟩ := xg_elim H
        refine xsld A hX (nxt := 237) (by decide +kernel) h7 ?_
        refine xb A [(.aload_n 0, 1, 0, 0, .null), (.iload_n 3, 1, 0, 0, .null), (.iconst 5, 1, 0, 0, .int 5), (.iadd, 1, 0, 0, .null)] (pc' := 241) (ls' := [some (.retAddr 5), some (.ref 0), some (.ref 60), some (.int l3)]) (st' := [.int (l3 + 5), .retAddr 5, .int (xs (l3 + 4).toNatClampNeg), .int (xs (l3 + 3).toNatClampNeg), .int (xs (l3 + 2).toNatClampNeg), .int (xs (l3 + 1).toNatClampNeg), .ref 0]) (g' := g) (by decide +kernel) rfl ?_
        obtain ⟨h8, H⟩ := xg_elim H
        refine xsld A hX (nxt := 242) (by decide +kernel) h8 ?_
        obtain ⟨w1, e1, H⟩ := xbind H
        refine xcallV A (ix := 13) (nxt := 245) hrm hz [.int (xs (l3 + 1).toNatClampNeg), .int (xs (l3 + 2).toNatClampNeg), .int (xs (l3 + 3).toNatClampNeg), .int (xs (l3 + 4).toNatClampNeg), .int (xs (l3 + 5).toNatClampNeg)] [] 599 (c_X11_feed_0 hS1 _ e1) ok_X11_feed (by decide +kernel) rfl (fun r g1 hq => ?_)
        rw [hq.1, hq.2]
        show xW k S 103 19882 245 [some (.retAddr 5), some (.ref 0), some (.ref 60), some (.int l3)] [.int w1.1] w1.2
        refine xb A [(.aload_n 2, 1, 0, 0, .null), (.aload_n 0, 1, 0, 0, .null), (.iload_n 3, 1, 0, 0, .null), (.iconst 1, 1, 0, 0, .int 1), (.iadd, 1, 0, 0, .null)] (pc' := 250) (ls' := [some (.retAddr 5), some (.ref 0), some (.ref 60), some (.int l3)]) (st' := [.int (l3 + 1), .retAddr 5, .ref 60, .int w1.1]) (g' := w1.2) (by decide +kernel) rfl ?_
        obtain ⟨h9, H⟩ := xg_elim H
        refine xsld A hX (nxt := 251) (by decide +kernel) h9 ?_
        refine xb A [(.aload_n 0, 1, 0, 0, .null), (.iload_n 3, 1, 0, 0, .null), (.iconst 2, 1, 0, 0, .int 2), (.iadd, 1, 0, 0, .null)] (pc' := 255) (ls' := [some (.retAddr 5), some (.ref 0), some (.ref 60), some (.int l3)]) (st' := [.int (l3 + 2), .retAddr 5, .int (xs (l3 + 1).toNatClampNeg), .ref 60, .int w1.1]) (g' := w1.2) (by decide +kernel) rfl ?_
        obtain ⟨h10, H⟩ := xg_elim H
        refine xsld A hX (nxt := 256) (by decide +kernel) h10 ?_
        refine xb A [(.aload_n 0, 1, 0, 0, .null), (.iload_n 3, 1, 0, 0, .null), (.iconst 3, 1, 0, 0, .int 3), (.iadd, 1, 0, 0, .null)] (pc' := 260) (ls' := [some (.retAddr 5), some (.ref 0), some (.ref 60), some (.int l3)]) (st' := [.int (l3 + 3), .retAddr 5, .int (xs (l3 + 2).toNatClampNeg), .int (xs (l3 + 1).toNatClampNeg), .ref 60, .int w1.1]) (g' := w1.2) (by decide +kernel) rfl ?_
        obtain ⟨h11, H⟩ := xg_elim H
        refine xsld A hX (nxt := 261) (by decide +kernel) h11 ?_
        refine xb A [(.aload_n 0, 1, 0, 0, .null), (.iload_n 3, 1, 0, 0, .null), (.iconst 4, 1, 0, 0, .int 4), (.iadd, 1, 0, 0, .null)] (pc' := 265) (ls' := [some (.retAddr 5), some (.ref 0), some (.ref 60), some (.int l3)]) (st' := [.int (l3 + 4), .retAddr 5, .int (xs (l3 + 3).toNatClampNeg), .int (xs (l3 + 2).toNatClampNeg), .int (xs (l3 + 1).toNatClampNeg), .ref 60, .int w1.1]) (g' := w1.2) (by decide +kernel) rfl ?_
        obtain ⟨h12, H⟩ := xg_elim H
        refine xsld A hX (nxt := 266) (by decide +kernel) h12 ?_
        refine xb A [(.aload_n 0, 1, 0, 0, .null), (.iload_n 3, 1, 0, 0, .null), (.iconst 5, 1, 0, 0, .int 5), (.iadd, 1, 0, 0, .null)] (pc' := 270) (ls' := [some (.retAddr 5), some (.ref 0), some (.ref 60), some (.int l3)]) (st' := [.int (l3 + 5), .retAddr 5, .int (xs (l3 + 4).toNatClampNeg), .int (xs (l3 + 3).toNatClampNeg), .int (xs (l3 + 2).toNatClampNeg), .int (xs (l3 + 1).toNatClampNeg), .ref 60, .int w1.1]) (g' := w1.2) (by decide +kernel) rfl ?_
        obtain ⟨h13, H⟩ := xg_elim H
        refine xsld A hX (nxt := 271) (by decide +kernel) h13 ?_
        obtain ⟨w2, e2, H⟩ := xbind H
        refine xcallV A (ix := 17) (nxt := 274) hrm hz [.int (xs (l3 + 1).toNatClampNeg), .int (xs (l3 + 2).toNatClampNeg), .int (xs (l3 + 3).toNatClampNeg), .int (xs (l3 + 4).toNatClampNeg), .int (xs (l3 + 5).toNatClampNeg)] [.int w1.1] 1570 (c_X12_feed_60 hS _ e2) ok_X12_feed (by decide +kernel) rfl (fun r g1 hq => ?_)
        rw [hq.1, hq.2]
        show xW k S 103 19882 274 [some (.retAddr 5), some (.ref 0), some (.ref 60), some (.int l3)] [.int w2.1, .int w1.1] w2.2
        refine xic_eq A (1050) 1324 277 (by decide +kernel) (fun h14 => ?_) (fun h14 => ?_)
        · rw [if_pos h14] at H
          refine xb A [(.iinc 3 6, 3, 0, 0, .null)] (pc' := 1327) (ls' := [some (.retAddr 5), some (.ref 0), some (.ref 60), some (.int (l3 + 6))]) (st' := []) (g' := w2.2) (by decide +kernel) rfl ?_
          refine xgoto A (-1309) 18 (by decide +kernel) ?_
          exact ih _ _ H
        · rw [if_neg h14] at H
          refine xb A [(.iconst 0, 1, 0, 0, .int 0)] (pc' := 278) (ls' := [some (.retAddr 5), some (.ref 0), some (.ref 60), some (.int l3)]) (st' := [.int 0]) (g' := w2.2) (by decide +kernel) rfl ?_
          obtain rfl := Option.some.inj H
          exact absurd ho (show ¬ ((0 : Int32) = 1) by decide)
      · rw [if_neg h3] at H
        by_cases h15 : ((xs l3.toNatClampNeg) &&& 63) = 1
        · rw [if_pos h15] at H
          refine xtabIn A (dflt := 1291) (lo := 0) (hi := 41) (off := 246) (offs := #[(183), (246), (269), (282), (295), (328), (361), (394), (427), (476), (499), (522), (535), (548), (581), (614), (627), (640), (653), (676), (699), (722), (755), (778), (801), (824), (847), (870), (893), (906), (919), (952), (985), (1018), (1041), (1084), (1133), (1146), (1189), (1222), (1245), (1268)]) (len := 183) (tgt := 279) (1) (by rw [h15]; rfl) (by decide +kernel) ?_
          refine xb A [(.aload_n 1, 1, 0, 0, .null), (.aload_n 0, 1, 0, 0, .null), (.iload_n 3, 1, 0, 0, .null), (.iconst 1, 1, 0, 0, .int 1), (.iadd, 1, 0, 0, .null)] (pc' := 284) (ls' := [some (.retAddr 5), some (.ref 0), some (.ref 60), some (.int l3)]) (st' := [.int (l3 + 1), .retAddr 5, .ref 0]) (g' := g) (by decide +kernel) rfl ?_
          obtain ⟨h16, H⟩ := xg_elim H
          refine xsld A hX (nxt := 285) (by decide +kernel) h16 ?_
          obtain ⟨w3, e3, H⟩ := xl_elim H
          refine xcallV A (ix := 18) (nxt := 288) hrm hz [.int (xs (l3 + 1).toNatClampNeg)] [] 615 (c_X11_back_0 hS1 _ e3) ok_X11_back (by decide +kernel) rfl (fun r g1 hq => ?_)
          rw [hq.1, hq.2]
          show xW k S 103 19882 288 [some (.retAddr 5), some (.ref 0), some (.ref 60), some (.int l3)] [.int w3.1] w3.2
          refine xb A [(.aload_n 2, 1, 0, 0, .null), (.aload_n 0, 1, 0, 0, .null), (.iload_n 3, 1, 0, 0, .null), (.iconst 1, 1, 0, 0, .int 1), (.iadd, 1, 0, 0, .null)] (pc' := 293) (ls' := [some (.retAddr 5), some (.ref 0), some (.ref 60), some (.int l3)]) (st' := [.int (l3 + 1), .retAddr 5, .ref 60, .int w3.1]) (g' := w3.2) (by decide +kernel) rfl ?_
          obtain ⟨h17, H⟩ := xg_elim H
          refine xsld A hX (nxt := 294) (by decide +kernel) h17 ?_
          obtain ⟨w4, e4, H⟩ := xl_elim H
          refine xcallV A (ix := 22) (nxt := 297) hrm hz [.int (xs (l3 + 1).toNatClampNeg)] [.int w3.1] 1578 (c_X12_back_60 hS _ e4) ok_X12_back (by decide +kernel) rfl (fun r g1 hq => ?_)
          rw [hq.1, hq.2]
          show xW k S 103 19882 297 [some (.retAddr 5), some (.ref 0), some (.ref 60), some (.int l3)] [.int w4.1, .int w3.1] w4.2
          refine xic_eq A (1027) 1324 300 (by decide +kernel) (fun h18 => ?_) (fun h18 => ?_)
          · rw [if_pos h18] at H
            refine xb A [(.iinc 3 6, 3, 0, 0, .null)] (pc' := 1327) (ls' := [some (.retAddr 5), some (.ref 0), some (.ref 60), some (.int (l3 + 6))]) (st' := []) (g' := w4.2) (by decide +kernel) rfl ?_
            refine xgoto A (-1309) 18 (by decide +kernel) ?_
            exact ih _ _ H
          · rw [if_neg h18] at H
            refine xb A [(.iconst 0, 1, 0, 0, .int 0)] (pc' := 301) (ls' := [some (.retAddr 5), some (.ref 0), some (.ref 60), some (.int l3)]) (st' := [.int 0]) (g' := w4.2) (by decide +kernel) rfl ?_
            obtain rfl := Option.some.inj H
            exact absurd ho (show ¬ ((0 : Int32) = 1) by decide)
        · rw [if_neg h15] at H
          by_cases h19 : ((xs l3.toNatClampNeg) &&& 63) = 2
          · rw [if_pos h19] at H
            refine xtabIn A (dflt := 1291) (lo := 0) (hi := 41) (off := 269) (offs := #[(183), (246), (269), (282), (295), (328), (361), (394), (427), (476), (499), (522), (535), (548), (581), (614), (627), (640), (653), (676), (699), (722), (755), (778), (801), (824), (847), (870), (893), (906), (919), (952), (985), (1018), (1041), (1084), (1133), (1146), (1189), (1222), (1245), (1268)]) (len := 183) (tgt := 302) (2) (by rw [h19]; rfl) (by decide +kernel) ?_
            refine xb A [(.aload_n 1, 1, 0, 0, .null)] (pc' := 303) (ls' := [some (.retAddr 5), some (.ref 0), some (.ref 60), some (.int l3)]) (st' := [.ref 0]) (g' := g) (by decide +kernel) rfl ?_
            obtain ⟨w5, e5, H⟩ := xbind H
            refine xcallV A (ix := 23) (nxt := 306) hrm hz [] [] 623 (c_X11_read_0 hS1 _ e5) ok_X11_read (by decide +kernel) rfl (fun r g1 hq => ?_)
            rw [hq.1, hq.2]
            show xW k S 103 19882 306 [some (.retAddr 5), some (.ref 0), some (.ref 60), some (.int l3)] [.int w5.1] w5.2
            refine xb A [(.aload_n 2, 1, 0, 0, .null)] (pc' := 307) (ls' := [some (.retAddr 5), some (.ref 0), some (.ref 60), some (.int l3)]) (st' := [.ref 60, .int w5.1]) (g' := w5.2) (by decide +kernel) rfl ?_
            obtain ⟨w6, e6, H⟩ := xbind H
            refine xcallV A (ix := 27) (nxt := 310) hrm hz [] [.int w5.1] 1582 (c_X12_read_60 hS _ e6) ok_X12_read (by decide +kernel) rfl (fun r g1 hq => ?_)
            rw [hq.1, hq.2]
            show xW k S 103 19882 310 [some (.retAddr 5), some (.ref 0), some (.ref 60), some (.int l3)] [.int w6.1, .int w5.1] w6.2
            refine xic_eq A (1014) 1324 313 (by decide +kernel) (fun h20 => ?_) (fun h20 => ?_)
            · rw [if_pos h20] at H
              refine xb A [(.iinc 3 6, 3, 0, 0, .null)] (pc' := 1327) (ls' := [some (.retAddr 5), some (.ref 0), some (.ref 60), some (.int (l3 + 6))]) (st' := []) (g' := w6.2) (by decide +kernel) rfl ?_
              refine xgoto A (-1309) 18 (by decide +kernel) ?_
              exact ih _ _ H
            · rw [if_neg h20] at H
              refine xb A [(.iconst 0, 1, 0, 0, .int 0)] (pc' := 314) (ls' := [some (.retAddr 5), some (.ref 0), some (.ref 60), some (.int l3)]) (st' := [.int 0]) (g' := w6.2) (by decide +kernel) rfl ?_
              obtain rfl := Option.some.inj H
              exact absurd ho (show ¬ ((0 : Int32) = 1) by decide)
          · rw [if_neg h19] at H
            by_cases h21 : ((xs l3.toNatClampNeg) &&& 63) = 3
            · rw [if_pos h21] at H
              refine xtabIn A (dflt := 1291) (lo := 0) (hi := 41) (off := 282) (offs := #[(183), (246), (269), (282), (295), (328), (361), (394), (427), (476), (499), (522), (535), (548), (581), (614), (627), (640), (653), (676), (699), (722), (755), (778), (801), (824), (847), (870), (893), (906), (919), (952), (985), (1018), (1041), (1084), (1133), (1146), (1189), (1222), (1245), (1268)]) (len := 183) (tgt := 315) (3) (by rw [h21]; rfl) (by decide +kernel) ?_
              refine xb A [(.aload_n 1, 1, 0, 0, .null)] (pc' := 316) (ls' := [some (.retAddr 5), some (.ref 0), some (.ref 60), some (.int l3)]) (st' := [.ref 0]) (g' := g) (by decide +kernel) rfl ?_
              refine xcallV A (ix := 28) (nxt := 319) hrm hz [] [] 885 (c_X11_place_0 hS1 _ rfl) ok_X11_place (by decide +kernel) rfl (fun r g1 hq => ?_)
              rw [hq.1, hq.2]
              show xW k S 103 19882 319 [some (.retAddr 5), some (.ref 0), some (.ref 60), some (.int l3)] [.int (f_X11_place_0 g)] g
              refine xb A [(.aload_n 2, 1, 0, 0, .null)] (pc' := 320) (ls' := [some (.retAddr 5), some (.ref 0), some (.ref 60), some (.int l3)]) (st' := [.ref 60, .int (f_X11_place_0 g)]) (g' := g) (by decide +kernel) rfl ?_
              refine xcallV A (ix := 31) (nxt := 323) hrm hz [] [.int (f_X11_place_0 g)] 1684 (c_X12_place_60 hS _ rfl) ok_X12_place (by decide +kernel) rfl (fun r g1 hq => ?_)
              rw [hq.1, hq.2]
              show xW k S 103 19882 323 [some (.retAddr 5), some (.ref 0), some (.ref 60), some (.int l3)] [.int (f_X12_place_60 g), .int (f_X11_place_0 g)] g
              refine xic_eq A (1001) 1324 326 (by decide +kernel) (fun h22 => ?_) (fun h22 => ?_)
              · rw [if_pos h22] at H
                refine xb A [(.iinc 3 6, 3, 0, 0, .null)] (pc' := 1327) (ls' := [some (.retAddr 5), some (.ref 0), some (.ref 60), some (.int (l3 + 6))]) (st' := []) (g' := g) (by decide +kernel) rfl ?_
                refine xgoto A (-1309) 18 (by decide +kernel) ?_
                exact ih _ _ H
              · rw [if_neg h22] at H
                refine xb A [(.iconst 0, 1, 0, 0, .int 0)] (pc' := 327) (ls' := [some (.retAddr 5), some (.ref 0), some (.ref 60), some (.int l3)]) (st' := [.int 0]) (g' := g) (by decide +kernel) rfl ?_
                obtain rfl := Option.some.inj H
                exact absurd ho (show ¬ ((0 : Int32) = 1) by decide)
            · rw [if_neg h21] at H
              by_cases h23 : ((xs l3.toNatClampNeg) &&& 63) = 4
              · rw [if_pos h23] at H
                refine xtabIn A (dflt := 1291) (lo := 0) (hi := 41) (off := 295) (offs := #[(183), (246), (269), (282), (295), (328), (361), (394), (427), (476), (499), (522), (535), (548), (581), (614), (627), (640), (653), (676), (699), (722), (755), (778), (801), (824), (847), (870), (893), (906), (919), (952), (985), (1018), (1041), (1084), (1133), (1146), (1189), (1222), (1245), (1268)]) (len := 183) (tgt := 328) (4) (by rw [h23]; rfl) (by decide +kernel) ?_
                refine xb A [(.aload_n 1, 1, 0, 0, .null), (.aload_n 0, 1, 0, 0, .null), (.iload_n 3, 1, 0, 0, .null), (.iconst 1, 1, 0, 0, .int 1), (.iadd, 1, 0, 0, .null)] (pc' := 333) (ls' := [some (.retAddr 5), some (.ref 0), some (.ref 60), some (.int l3)]) (st' := [.int (l3 + 1), .retAddr 5, .ref 0]) (g' := g) (by decide +kernel) rfl ?_
                obtain ⟨h24, H⟩ := xg_elim H
                refine xsld A hX (nxt := 334) (by decide +kernel) h24 ?_
                refine xb A [(.aload_n 0, 1, 0, 0, .null), (.iload_n 3, 1, 0, 0, .null), (.iconst 2, 1, 0, 0, .int 2), (.iadd, 1, 0, 0, .null)] (pc' := 338) (ls' := [some (.retAddr 5), some (.ref 0), some (.ref 60), some (.int l3)]) (st' := [.int (l3 + 2), .retAddr 5, .int (xs (l3 + 1).toNatClampNeg), .ref 0]) (g' := g) (by decide +kernel) rfl ?_
                obtain ⟨h25, H⟩ := xg_elim H
                refine xsld A hX (nxt := 339) (by decide +kernel) h25 ?_
                obtain ⟨w7, e7, H⟩ := xbind H
                refine xcallV A (ix := 32) (nxt := 342) hrm hz [.int (xs (l3 + 1).toNatClampNeg), .int (xs (l3 + 2).toNatClampNeg)] [] 889 (c_X11_town_0 hS1 _ e7) ok_X11_town (by decide +kernel) rfl (fun r g1 hq => ?_)
                rw [hq.1, hq.2]
                show xW k S 103 19882 342 [some (.retAddr 5), some (.ref 0), some (.ref 60), some (.int l3)] [.int w7] g
                refine xb A [(.aload_n 2, 1, 0, 0, .null), (.aload_n 0, 1, 0, 0, .null), (.iload_n 3, 1, 0, 0, .null), (.iconst 1, 1, 0, 0, .int 1), (.iadd, 1, 0, 0, .null)] (pc' := 347) (ls' := [some (.retAddr 5), some (.ref 0), some (.ref 60), some (.int l3)]) (st' := [.int (l3 + 1), .retAddr 5, .ref 60, .int w7]) (g' := g) (by decide +kernel) rfl ?_
                obtain ⟨h26, H⟩ := xg_elim H
                refine xsld A hX (nxt := 348) (by decide +kernel) h26 ?_
                refine xb A [(.aload_n 0, 1, 0, 0, .null), (.iload_n 3, 1, 0, 0, .null), (.iconst 2, 1, 0, 0, .int 2), (.iadd, 1, 0, 0, .null)] (pc' := 352) (ls' := [some (.retAddr 5), some (.ref 0), some (.ref 60), some (.int l3)]) (st' := [.int (l3 + 2), .retAddr 5, .int (xs (l3 + 1).toNatClampNeg), .ref 60, .int w7]) (g' := g) (by decide +kernel) rfl ?_
                obtain ⟨h27, H⟩ := xg_elim H
                refine xsld A hX (nxt := 353) (by decide +kernel) h27 ?_
                obtain ⟨w8, e8, H⟩ := xbind H
                refine xcallV A (ix := 36) (nxt := 356) hrm hz [.int (xs (l3 + 1).toNatClampNeg), .int (xs (l3 + 2).toNatClampNeg)] [.int w7] 1688 (c_X12_town_60 hS _ e8) ok_X12_town (by decide +kernel) rfl (fun r g1 hq => ?_)
                rw [hq.1, hq.2]
                show xW k S 103 19882 356 [some (.retAddr 5), some (.ref 0), some (.ref 60), some (.int l3)] [.int w8.1, .int w7] w8.2
                refine xic_eq A (968) 1324 359 (by decide +kernel) (fun h28 => ?_) (fun h28 => ?_)
                · rw [if_pos h28] at H
                  refine xb A [(.iinc 3 6, 3, 0, 0, .null)] (pc' := 1327) (ls' := [some (.retAddr 5), some (.ref 0), some (.ref 60), some (.int (l3 + 6))]) (st' := []) (g' := w8.2) (by decide +kernel) rfl ?_
                  refine xgoto A (-1309) 18 (by decide +kernel) ?_
                  exact ih _ _ H
                · rw [if_neg h28] at H
                  refine xb A [(.iconst 0, 1, 0, 0, .int 0)] (pc' := 360) (ls' := [some (.retAddr 5), some (.ref 0), some (.ref 60), some (.int l3)]) (st' := [.int 0]) (g' := w8.2) (by decide +kernel) rfl ?_
                  obtain rfl := Option.some.inj H
                  exact absurd ho (show ¬ ((0 : Int32) = 1) by decide)
              · rw [if_neg h23] at H
                by_cases h29 : ((xs l3.toNatClampNeg) &&& 63) = 5
                · rw [if_pos h29] at H
                  refine xtabIn A (dflt := 1291) (lo := 0) (hi := 41) (off := 328) (offs := #[(183), (246), (269), (282), (295), (328), (361), (394), (427), (476), (499), (522), (535), (548), (581), (614), (627), (640), (653), (676), (699), (722), (755), (778), (801), (824), (847), (870), (893), (906), (919), (952), (985), (1018), (1041), (1084), (1133), (1146), (1189), (1222), (1245), (1268)]) (len := 183) (tgt := 361) (5) (by rw [h29]; rfl) (by decide +kernel) ?_
                  refine xb A [(.aload_n 1, 1, 0, 0, .null), (.aload_n 0, 1, 0, 0, .null), (.iload_n 3, 1, 0, 0, .null), (.iconst 1, 1, 0, 0, .int 1), (.iadd, 1, 0, 0, .null)] (pc' := 366) (ls' := [some (.retAddr 5), some (.ref 0), some (.ref 60), some (.int l3)]) (st' := [.int (l3 + 1), .retAddr 5, .ref 0]) (g' := g) (by decide +kernel) rfl ?_
                  obtain ⟨h30, H⟩ := xg_elim H
                  refine xsld A hX (nxt := 367) (by decide +kernel) h30 ?_
                  refine xb A [(.aload_n 0, 1, 0, 0, .null), (.iload_n 3, 1, 0, 0, .null), (.iconst 2, 1, 0, 0, .int 2), (.iadd, 1, 0, 0, .null)] (pc' := 371) (ls' := [some (.retAddr 5), some (.ref 0), some (.ref 60), some (.int l3)]) (st' := [.int (l3 + 2), .retAddr 5, .int (xs (l3 + 1).toNatClampNeg), .ref 0]) (g' := g) (by decide +kernel) rfl ?_
                  obtain ⟨h31, H⟩ := xg_elim H
                  refine xsld A hX (nxt := 372) (by decide +kernel) h31 ?_
                  refine xcallV A (ix := 37) (nxt := 375) hrm hz [.int (xs (l3 + 1).toNatClampNeg), .int (xs (l3 + 2).toNatClampNeg)] [] 919 (c_X11_road_0 hS1 _ rfl) ok_X11_road (by decide +kernel) rfl (fun r g1 hq => ?_)
                  rw [hq.1, hq.2]
                  show xW k S 103 19882 375 [some (.retAddr 5), some (.ref 0), some (.ref 60), some (.int l3)] [.int (f_X11_road_0 (xs (l3 + 1).toNatClampNeg) (xs (l3 + 2).toNatClampNeg) g)] g
                  refine xb A [(.aload_n 2, 1, 0, 0, .null), (.aload_n 0, 1, 0, 0, .null), (.iload_n 3, 1, 0, 0, .null), (.iconst 1, 1, 0, 0, .int 1), (.iadd, 1, 0, 0, .null)] (pc' := 380) (ls' := [some (.retAddr 5), some (.ref 0), some (.ref 60), some (.int l3)]) (st' := [.int (l3 + 1), .retAddr 5, .ref 60, .int (f_X11_road_0 (xs (l3 + 1).toNatClampNeg) (xs (l3 + 2).toNatClampNeg) g)]) (g' := g) (by decide +kernel) rfl ?_
                  obtain ⟨h32, H⟩ := xg_elim H
                  refine xsld A hX (nxt := 381) (by decide +kernel) h32 ?_
                  refine xb A [(.aload_n 0, 1, 0, 0, .null), (.iload_n 3, 1, 0, 0, .null), (.iconst 2, 1, 0, 0, .int 2), (.iadd, 1, 0, 0, .null)] (pc' := 385) (ls' := [some (.retAddr 5), some (.ref 0), some (.ref 60), some (.int l3)]) (st' := [.int (l3 + 2), .retAddr 5, .int (xs (l3 + 1).toNatClampNeg), .ref 60, .int (f_X11_road_0 (xs (l3 + 1).toNatClampNeg) (xs (l3 + 2).toNatClampNeg) g)]) (g' := g) (by decide +kernel) rfl ?_
                  obtain ⟨h33, H⟩ := xg_elim H
                  refine xsld A hX (nxt := 386) (by decide +kernel) h33 ?_
                  obtain ⟨w9, e9, H⟩ := xbind H
                  refine xcallV A (ix := 40) (nxt := 389) hrm hz [.int (xs (l3 + 1).toNatClampNeg), .int (xs (l3 + 2).toNatClampNeg)] [.int (f_X11_road_0 (xs (l3 + 1).toNatClampNeg) (xs (l3 + 2).toNatClampNeg) g)] 1727 (c_X12_road_60 hS _ e9) ok_X12_road (by decide +kernel) rfl (fun r g1 hq => ?_)
                  rw [hq.1, hq.2]
                  show xW k S 103 19882 389 [some (.retAddr 5), some (.ref 0), some (.ref 60), some (.int l3)] [.int w9.1, .int (f_X11_road_0 (xs (l3 + 1).toNatClampNeg) (xs (l3 + 2).toNatClampNeg) g)] w9.2
                  refine xic_eq A (935) 1324 392 (by decide +kernel) (fun h34 => ?_) (fun h34 => ?_)
                  · rw [if_pos h34] at H
                    refine xb A [(.iinc 3 6, 3, 0, 0, .null)] (pc' := 1327) (ls' := [some (.retAddr 5), some (.ref 0), some (.ref 60), some (.int (l3 + 6))]) (st' := []) (g' := w9.2) (by decide +kernel) rfl ?_
                    refine xgoto A (-1309) 18 (by decide +kernel) ?_
                    exact ih _ _ H
                  · rw [if_neg h34] at H
                    refine xb A [(.iconst 0, 1, 0, 0, .int 0)] (pc' := 393) (ls' := [some (.retAddr 5), some (.ref 0), some (.ref 60), some (.int l3)]) (st' := [.int 0]) (g' := w9.2) (by decide +kernel) rfl ?_
                    obtain rfl := Option.some.inj H
                    exact absurd ho (show ¬ ((0 : Int32) = 1) by decide)
                · rw [if_neg h29] at H
                  by_cases h35 : ((xs l3.toNatClampNeg) &&& 63) = 6
                  · rw [if_pos h35] at H
                    refine xtabIn A (dflt := 1291) (lo := 0) (hi := 41) (off := 361) (offs := #[(183), (246), (269), (282), (295), (328), (361), (394), (427), (476), (499), (522), (535), (548), (581), (614), (627), (640), (653), (676), (699), (722), (755), (778), (801), (824), (847), (870), (893), (906), (919), (952), (985), (1018), (1041), (1084), (1133), (1146), (1189), (1222), (1245), (1268)]) (len := 183) (tgt := 394) (6) (by rw [h35]; rfl) (by decide +kernel) ?_
                    refine xb A [(.aload_n 1, 1, 0, 0, .null), (.aload_n 0, 1, 0, 0, .null), (.iload_n 3, 1, 0, 0, .null), (.iconst 1, 1, 0, 0, .int 1), (.iadd, 1, 0, 0, .null)] (pc' := 399) (ls' := [some (.retAddr 5), some (.ref 0), some (.ref 60), some (.int l3)]) (st' := [.int (l3 + 1), .retAddr 5, .ref 0]) (g' := g) (by decide +kernel) rfl ?_
                    obtain ⟨h36, H⟩ := xg_elim H
                    refine xsld A hX (nxt := 400) (by decide +kernel) h36 ?_
                    refine xb A [(.aload_n 0, 1, 0, 0, .null), (.iload_n 3, 1, 0, 0, .null), (.iconst 2, 1, 0, 0, .int 2), (.iadd, 1, 0, 0, .null)] (pc' := 404) (ls' := [some (.retAddr 5), some (.ref 0), some (.ref 60), some (.int l3)]) (st' := [.int (l3 + 2), .retAddr 5, .int (xs (l3 + 1).toNatClampNeg), .ref 0]) (g' := g) (by decide +kernel) rfl ?_
                    obtain ⟨h37, H⟩ := xg_elim H
                    refine xsld A hX (nxt := 405) (by decide +kernel) h37 ?_
                    obtain ⟨w10, e10, H⟩ := xbind H
                    refine xcallV A (ix := 41) (nxt := 408) hrm hz [.int (xs (l3 + 1).toNatClampNeg), .int (xs (l3 + 2).toNatClampNeg)] [] 928 (c_X11_person_0 hS1 _ e10) ok_X11_person (by decide +kernel) rfl (fun r g1 hq => ?_)
                    rw [hq.1, hq.2]
                    show xW k S 103 19882 408 [some (.retAddr 5), some (.ref 0), some (.ref 60), some (.int l3)] [.int w10.1] w10.2
                    refine xb A [(.aload_n 2, 1, 0, 0, .null), (.aload_n 0, 1, 0, 0, .null), (.iload_n 3, 1, 0, 0, .null), (.iconst 1, 1, 0, 0, .int 1), (.iadd, 1, 0, 0, .null)] (pc' := 413) (ls' := [some (.retAddr 5), some (.ref 0), some (.ref 60), some (.int l3)]) (st' := [.int (l3 + 1), .retAddr 5, .ref 60, .int w10.1]) (g' := w10.2) (by decide +kernel) rfl ?_
                    obtain ⟨h38, H⟩ := xg_elim H
                    refine xsld A hX (nxt := 414) (by decide +kernel) h38 ?_
                    refine xb A [(.aload_n 0, 1, 0, 0, .null), (.iload_n 3, 1, 0, 0, .null), (.iconst 2, 1, 0, 0, .int 2), (.iadd, 1, 0, 0, .null)] (pc' := 418) (ls' := [some (.retAddr 5), some (.ref 0), some (.ref 60), some (.int l3)]) (st' := [.int (l3 + 2), .retAddr 5, .int (xs (l3 + 1).toNatClampNeg), .ref 60, .int w10.1]) (g' := w10.2) (by decide +kernel) rfl ?_
                    obtain ⟨h39, H⟩ := xg_elim H
                    refine xsld A hX (nxt := 419) (by decide +kernel) h39 ?_
                    obtain ⟨w11, e11, H⟩ := xbind H
                    refine xcallV A (ix := 44) (nxt := 422) hrm hz [.int (xs (l3 + 1).toNatClampNeg), .int (xs (l3 + 2).toNatClampNeg)] [.int w10.1] 1735 (c_X12_person_60 hS _ e11) ok_X12_person (by decide +kernel) rfl (fun r g1 hq => ?_)
                    rw [hq.1, hq.2]
                    show xW k S 103 19882 422 [some (.retAddr 5), some (.ref 0), some (.ref 60), some (.int l3)] [.int w11.1, .int w10.1] w11.2
                    refine xic_eq A (902) 1324 425 (by decide +kernel) (fun h40 => ?_) (fun h40 => ?_)
                    · rw [if_pos h40] at H
                      refine xb A [(.iinc 3 6, 3, 0, 0, .null)] (pc' := 1327) (ls' := [some (.retAddr 5), some (.ref 0), some (.ref 60), some (.int (l3 + 6))]) (st' := []) (g' := w11.2) (by decide +kernel) rfl ?_
                      refine xgoto A (-1309) 18 (by decide +kernel) ?_
                      exact ih _ _ H
                    · rw [if_neg h40] at H
                      refine xb A [(.iconst 0, 1, 0, 0, .int 0)] (pc' := 426) (ls' := [some (.retAddr 5), some (.ref 0), some (.ref 60), some (.int l3)]) (st' := [.int 0]) (g' := w11.2) (by decide +kernel) rfl ?_
                      obtain rfl := Option.some.inj H
                      exact absurd ho (show ¬ ((0 : Int32) = 1) by decide)
                  · rw [if_neg h35] at H
                    by_cases h41 : ((xs l3.toNatClampNeg) &&& 63) = 7
                    · rw [if_pos h41] at H
                      refine xtabIn A (dflt := 1291) (lo := 0) (hi := 41) (off := 394) (offs := #[(183), (246), (269), (282), (295), (328), (361), (394), (427), (476), (499), (522), (535), (548), (581), (614), (627), (640), (653), (676), (699), (722), (755), (778), (801), (824), (847), (870), (893), (906), (919), (952), (985), (1018), (1041), (1084), (1133), (1146), (1189), (1222), (1245), (1268)]) (len := 183) (tgt := 427) (7) (by rw [h41]; rfl) (by decide +kernel) ?_
                      refine xb A [(.aload_n 1, 1, 0, 0, .null), (.aload_n 0, 1, 0, 0, .null), (.iload_n 3, 1, 0, 0, .null), (.iconst 1, 1, 0, 0, .int 1), (.iadd, 1, 0, 0, .null)] (pc' := 432) (ls' := [some (.retAddr 5), some (.ref 0), some (.ref 60), some (.int l3)]) (st' := [.int (l3 + 1), .retAddr 5, .ref 0]) (g' := g) (by decide +kernel) rfl ?_
                      obtain ⟨h42, H⟩ := xg_elim H
                      refine xsld A hX (nxt := 433) (by decide +kernel) h42 ?_
                      refine xb A [(.aload_n 0, 1, 0, 0, .null), (.iload_n 3, 1, 0, 0, .null), (.iconst 2, 1, 0, 0, .int 2), (.iadd, 1, 0, 0, .null)] (pc' := 437) (ls' := [some (.retAddr 5), some (.ref 0), some (.ref 60), some (.int l3)]) (st' := [.int (l3 + 2), .retAddr 5, .int (xs (l3 + 1).toNatClampNeg), .ref 0]) (g' := g) (by decide +kernel) rfl ?_
                      obtain ⟨h43, H⟩ := xg_elim H
                      refine xsld A hX (nxt := 438) (by decide +kernel) h43 ?_
                      obtain ⟨w12, e12, H⟩ := xbind H
                      refine xcallV A (ix := 45) (nxt := 441) hrm hz [.int (xs (l3 + 1).toNatClampNeg), .int (xs (l3 + 2).toNatClampNeg)] [] 997 (c_X11_send_0 hS1 _ e12) ok_X11_send (by decide +kernel) rfl (fun r g1 hq => ?_)
                      rw [hq.1, hq.2]
                      show xW k S 103 19882 441 [some (.retAddr 5), some (.ref 0), some (.ref 60), some (.int l3)] [.int w12.1] w12.2
                      refine xb A [(.aload_n 2, 1, 0, 0, .null), (.aload_n 0, 1, 0, 0, .null), (.iload_n 3, 1, 0, 0, .null), (.iconst 1, 1, 0, 0, .int 1), (.iadd, 1, 0, 0, .null)] (pc' := 446) (ls' := [some (.retAddr 5), some (.ref 0), some (.ref 60), some (.int l3)]) (st' := [.int (l3 + 1), .retAddr 5, .ref 60, .int w12.1]) (g' := w12.2) (by decide +kernel) rfl ?_
                      obtain ⟨h44, H⟩ := xg_elim H
                      refine xsld A hX (nxt := 447) (by decide +kernel) h44 ?_
                      refine xb A [(.aload_n 0, 1, 0, 0, .null), (.iload_n 3, 1, 0, 0, .null), (.iconst 2, 1, 0, 0, .int 2), (.iadd, 1, 0, 0, .null)] (pc' := 451) (ls' := [some (.retAddr 5), some (.ref 0), some (.ref 60), some (.int l3)]) (st' := [.int (l3 + 2), .retAddr 5, .int (xs (l3 + 1).toNatClampNeg), .ref 60, .int w12.1]) (g' := w12.2) (by decide +kernel) rfl ?_
                      obtain ⟨h45, H⟩ := xg_elim H
                      refine xsld A hX (nxt := 452) (by decide +kernel) h45 ?_
                      obtain ⟨w13, e13, H⟩ := xbind H
                      refine xcallV A (ix := 49) (nxt := 455) hrm hz [.int (xs (l3 + 1).toNatClampNeg), .int (xs (l3 + 2).toNatClampNeg)] [.int w12.1] 1801 (c_X12_send_60 hS _ e13) ok_X12_send (by decide +kernel) rfl (fun r g1 hq => ?_)
                      rw [hq.1, hq.2]
                      show xW k S 103 19882 455 [some (.retAddr 5), some (.ref 0), some (.ref 60), some (.int l3)] [.int w13.1, .int w12.1] w13.2
                      refine xic_eq A (869) 1324 458 (by decide +kernel) (fun h46 => ?_) (fun h46 => ?_)
                      · rw [if_pos h46] at H
                        refine xb A [(.iinc 3 6, 3, 0, 0, .null)] (pc' := 1327) (ls' := [some (.retAddr 5), some (.ref 0), some (.ref 60), some (.int (l3 + 6))]) (st' := []) (g' := w13.2) (by decide +kernel) rfl ?_
                        refine xgoto A (-1309) 18 (by decide +kernel) ?_
                        exact ih _ _ H
                      · rw [if_neg h46] at H
                        refine xb A [(.iconst 0, 1, 0, 0, .int 0)] (pc' := 459) (ls' := [some (.retAddr 5), some (.ref 0), some (.ref 60), some (.int l3)]) (st' := [.int 0]) (g' := w13.2) (by decide +kernel) rfl ?_
                        obtain rfl := Option.some.inj H
                        exact absurd ho (show ¬ ((0 : Int32) = 1) by decide)
                    · rw [if_neg h41] at H
                      by_cases h47 : ((xs l3.toNatClampNeg) &&& 63) = 8
                      · rw [if_pos h47] at H
                        refine xtabIn A (dflt := 1291) (lo := 0) (hi := 41) (off := 427) (offs := #[(183), (246), (269), (282), (295), (328), (361), (394), (427), (476), (499), (522), (535), (548), (581), (614), (627), (640), (653), (676), (699), (722), (755), (778), (801), (824), (847), (870), (893), (906), (919), (952), (985), (1018), (1041), (1084), (1133), (1146), (1189), (1222), (1245), (1268)]) (len := 183) (tgt := 460) (8) (by rw [h47]; rfl) (by decide +kernel) ?_
                        refine xb A [(.aload_n 1, 1, 0, 0, .null), (.aload_n 0, 1, 0, 0, .null), (.iload_n 3, 1, 0, 0, .null), (.iconst 1, 1, 0, 0, .int 1), (.iadd, 1, 0, 0, .null)] (pc' := 465) (ls' := [some (.retAddr 5), some (.ref 0), some (.ref 60), some (.int l3)]) (st' := [.int (l3 + 1), .retAddr 5, .ref 0]) (g' := g) (by decide +kernel) rfl ?_
                        obtain ⟨h48, H⟩ := xg_elim H
                        refine xsld A hX (nxt := 466) (by decide +kernel) h48 ?_
                        refine xb A [(.aload_n 0, 1, 0, 0, .null), (.iload_n 3, 1, 0, 0, .null), (.iconst 2, 1, 0, 0, .int 2), (.iadd, 1, 0, 0, .null)] (pc' := 470) (ls' := [some (.retAddr 5), some (.ref 0), some (.ref 60), some (.int l3)]) (st' := [.int (l3 + 2), .retAddr 5, .int (xs (l3 + 1).toNatClampNeg), .ref 0]) (g' := g) (by decide +kernel) rfl ?_
                        obtain ⟨h49, H⟩ := xg_elim H
                        refine xsld A hX (nxt := 471) (by decide +kernel) h49 ?_
                        refine xif_eq A (7) 478 474 (by decide +kernel) (fun h50 => ?_) (fun h50 => ?_)
                        · rw [if_pos h50] at H
                          refine xb A [(.iconst 0, 1, 0, 0, .int 0)] (pc' := 479) (ls' := [some (.retAddr 5), some (.ref 0), some (.ref 60), some (.int l3)]) (st' := [.int 0, .int (xs (l3 + 1).toNatClampNeg), .ref 0]) (g' := g) (by decide +kernel) rfl ?_
                          exact t_law_479 ho hS hS1 hX A hR hrm hz ih _ _ _ _ H
                        · rw [if_neg h50] at H
                          refine xb A [(.iconst 1, 1, 0, 0, .int 1)] (pc' := 475) (ls' := [some (.retAddr 5), some (.ref 0), some (.ref 60), some (.int l3)]) (st' := [.int 1, .int (xs (l3 + 1).toNatClampNeg), .ref 0]) (g' := g) (by decide +kernel) rfl ?_
                          refine xgoto A (4) 479 (by decide +kernel) ?_
                          exact t_law_479 ho hS hS1 hX A hR hrm hz ih _ _ _ _ H
                      · rw [if_neg h47] at H
                        by_cases h56 : ((xs l3.toNatClampNeg) &&& 63) = 9
                        · rw [if_pos h56] at H
                          refine xtabIn A (dflt := 1291) (lo := 0) (hi := 41) (off := 476) (offs := #[(183), (246), (269), (282), (295), (328), (361), (394), (427), (476), (499), (522), (535), (548), (581), (614), (627), (640), (653), (676), (699), (722), (755), (778), (801), (824), (847), (870), (893), (906), (919), (952), (985), (1018), (1041), (1084), (1133), (1146), (1189), (1222), (1245), (1268)]) (len := 183) (tgt := 509) (9) (by rw [h56]; rfl) (by decide +kernel) ?_
                          refine xb A [(.aload_n 1, 1, 0, 0, .null), (.aload_n 0, 1, 0, 0, .null), (.iload_n 3, 1, 0, 0, .null), (.iconst 1, 1, 0, 0, .int 1), (.iadd, 1, 0, 0, .null)] (pc' := 514) (ls' := [some (.retAddr 5), some (.ref 0), some (.ref 60), some (.int l3)]) (st' := [.int (l3 + 1), .retAddr 5, .ref 0]) (g' := g) (by decide +kernel) rfl ?_
                          obtain ⟨h57, H⟩ := xg_elim H
                          refine xsld A hX (nxt := 515) (by decide +kernel) h57 ?_
                          obtain ⟨w17, e17, H⟩ := xbind H
                          refine xcallV A (ix := 55) (nxt := 518) hrm hz [.int (xs (l3 + 1).toNatClampNeg)] [] 1019 (c_X11_admit_0 hS1 _ e17) ok_X11_admit (by decide +kernel) rfl (fun r g1 hq => ?_)
                          rw [hq.1, hq.2]
                          show xW k S 103 19882 518 [some (.retAddr 5), some (.ref 0), some (.ref 60), some (.int l3)] [.int w17.1] w17.2
                          refine xb A [(.aload_n 2, 1, 0, 0, .null), (.aload_n 0, 1, 0, 0, .null), (.iload_n 3, 1, 0, 0, .null), (.iconst 1, 1, 0, 0, .int 1), (.iadd, 1, 0, 0, .null)] (pc' := 523) (ls' := [some (.retAddr 5), some (.ref 0), some (.ref 60), some (.int l3)]) (st' := [.int (l3 + 1), .retAddr 5, .ref 60, .int w17.1]) (g' := w17.2) (by decide +kernel) rfl ?_
                          obtain ⟨h58, H⟩ := xg_elim H
                          refine xsld A hX (nxt := 524) (by decide +kernel) h58 ?_
                          obtain ⟨w18, e18, H⟩ := xbind H
                          refine xcallV A (ix := 59) (nxt := 527) hrm hz [.int (xs (l3 + 1).toNatClampNeg)] [.int w17.1] 1817 (c_X12_admit_60 hS _ e18) ok_X12_admit (by decide +kernel) rfl (fun r g1 hq => ?_)
                          rw [hq.1, hq.2]
                          show xW k S 103 19882 527 [some (.retAddr 5), some (.ref 0), some (.ref 60), some (.int l3)] [.int w18.1, .int w17.1] w18.2
                          refine xic_eq A (797) 1324 530 (by decide +kernel) (fun h59 => ?_) (fun h59 => ?_)
                          · rw [if_pos h59] at H
                            refine xb A [(.iinc 3 6, 3, 0, 0, .null)] (pc' := 1327) (ls' := [some (.retAddr 5), some (.ref 0), some (.ref 60), some (.int (l3 + 6))]) (st' := []) (g' := w18.2) (by decide +kernel) rfl ?_
                            refine xgoto A (-1309) 18 (by decide +kernel) ?_
                            exact ih _ _ H
                          · rw [if_neg h59] at H
                            refine xb A [(.iconst 0, 1, 0, 0, .int 0)] (pc' := 531) (ls' := [some (.retAddr 5), some (.ref 0), some (.ref 60), some (.int l3)]) (st' := [.int 0]) (g' := w18.2) (by decide +kernel) rfl ?_
                            obtain rfl := Option.some.inj H
                            exact absurd ho (show ¬ ((0 : Int32) = 1) by decide)
                        · rw [if_neg h56] at H
                          by_cases h60 : ((xs l3.toNatClampNeg) &&& 63) = 10
                          · rw [if_pos h60] at H
                            refine xtabIn A (dflt := 1291) (lo := 0) (hi := 41) (off := 499) (offs := #[(183), (246), (269), (282), (295), (328), (361), (394), (427), (476), (499), (522), (535), (548), (581), (614), (627), (640), (653), (676), (699), (722), (755), (778), (801), (824), (847), (870), (893), (906), (919), (952), (985), (1018), (1041), (1084), (1133), (1146), (1189), (1222), (1245), (1268)]) (len := 183) (tgt := 532) (10) (by rw [h60]; rfl) (by decide +kernel) ?_
                            refine xb A [(.aload_n 1, 1, 0, 0, .null), (.aload_n 0, 1, 0, 0, .null), (.iload_n 3, 1, 0, 0, .null), (.iconst 1, 1, 0, 0, .int 1), (.iadd, 1, 0, 0, .null)] (pc' := 537) (ls' := [some (.retAddr 5), some (.ref 0), some (.ref 60), some (.int l3)]) (st' := [.int (l3 + 1), .retAddr 5, .ref 0]) (g' := g) (by decide +kernel) rfl ?_
                            obtain ⟨h61, H⟩ := xg_elim H
                            refine xsld A hX (nxt := 538) (by decide +kernel) h61 ?_
                            obtain ⟨w19, e19, H⟩ := xbind H
                            refine xcallV A (ix := 60) (nxt := 541) hrm hz [.int (xs (l3 + 1).toNatClampNeg)] [] 1023 (c_X11_days_0 hS1 _ e19) ok_X11_days (by decide +kernel) rfl (fun r g1 hq => ?_)
                            rw [hq.1, hq.2]
                            show xW k S 103 19882 541 [some (.retAddr 5), some (.ref 0), some (.ref 60), some (.int l3)] [.int w19.1] w19.2
                            refine xb A [(.aload_n 2, 1, 0, 0, .null), (.aload_n 0, 1, 0, 0, .null), (.iload_n 3, 1, 0, 0, .null), (.iconst 1, 1, 0, 0, .int 1), (.iadd, 1, 0, 0, .null)] (pc' := 546) (ls' := [some (.retAddr 5), some (.ref 0), some (.ref 60), some (.int l3)]) (st' := [.int (l3 + 1), .retAddr 5, .ref 60, .int w19.1]) (g' := w19.2) (by decide +kernel) rfl ?_
                            obtain ⟨h62, H⟩ := xg_elim H
                            refine xsld A hX (nxt := 547) (by decide +kernel) h62 ?_
                            obtain ⟨w20, e20, H⟩ := xbind H
                            refine xcallV A (ix := 63) (nxt := 550) hrm hz [.int (xs (l3 + 1).toNatClampNeg)] [.int w19.1] 1821 (c_X12_days_60 hS _ e20) ok_X12_days (by decide +kernel) rfl (fun r g1 hq => ?_)
                            rw [hq.1, hq.2]
                            show xW k S 103 19882 550 [some (.retAddr 5), some (.ref 0), some (.ref 60), some (.int l3)] [.int w20.1, .int w19.1] w20.2
                            refine xic_eq A (774) 1324 553 (by decide +kernel) (fun h63 => ?_) (fun h63 => ?_)
                            · rw [if_pos h63] at H
                              refine xb A [(.iinc 3 6, 3, 0, 0, .null)] (pc' := 1327) (ls' := [some (.retAddr 5), some (.ref 0), some (.ref 60), some (.int (l3 + 6))]) (st' := []) (g' := w20.2) (by decide +kernel) rfl ?_
                              refine xgoto A (-1309) 18 (by decide +kernel) ?_
                              exact ih _ _ H
                            · rw [if_neg h63] at H
                              refine xb A [(.iconst 0, 1, 0, 0, .int 0)] (pc' := 554) (ls' := [some (.retAddr 5), some (.ref 0), some (.ref 60), some (.int l3)]) (st' := [.int 0]) (g' := w20.2) (by decide +kernel) rfl ?_
                              obtain rfl := Option.some.inj H
                              exact absurd ho (show ¬ ((0 : Int32) = 1) by decide)
                          · rw [if_neg h60] at H
                            by_cases h64 : ((xs l3.toNatClampNeg) &&& 63) = 11
                            · rw [if_pos h64] at H
                              refine xtabIn A (dflt := 1291) (lo := 0) (hi := 41) (off := 522) (offs := #[(183), (246), (269), (282), (295), (328), (361), (394), (427), (476), (499), (522), (535), (548), (581), (614), (627), (640), (653), (676), (699), (722), (755), (778), (801), (824), (847), (870), (893), (906), (919), (952), (985), (1018), (1041), (1084), (1133), (1146), (1189), (1222), (1245), (1268)]) (len := 183) (tgt := 555) (11) (by rw [h64]; rfl) (by decide +kernel) ?_
                              refine xb A [(.aload_n 1, 1, 0, 0, .null)] (pc' := 556) (ls' := [some (.retAddr 5), some (.ref 0), some (.ref 60), some (.int l3)]) (st' := [.ref 0]) (g' := g) (by decide +kernel) rfl ?_
                              obtain ⟨w21, e21, H⟩ := xbind H
                              refine xcallV A (ix := 64) (nxt := 559) hrm hz [] [] 1083 (c_X11_undo_0 hS1 _ e21) ok_X11_undo (by decide +kernel) rfl (fun r g1 hq => ?_)
                              rw [hq.1, hq.2]
                              show xW k S 103 19882 559 [some (.retAddr 5), some (.ref 0), some (.ref 60), some (.int l3)] [.int w21.1] w21.2
                              refine xb A [(.aload_n 2, 1, 0, 0, .null)] (pc' := 560) (ls' := [some (.retAddr 5), some (.ref 0), some (.ref 60), some (.int l3)]) (st' := [.ref 60, .int w21.1]) (g' := w21.2) (by decide +kernel) rfl ?_
                              obtain ⟨w22, e22, H⟩ := xbind H
                              refine xcallV A (ix := 68) (nxt := 563) hrm hz [] [.int w21.1] 1877 (c_X12_undo_60 hS _ e22) ok_X12_undo (by decide +kernel) rfl (fun r g1 hq => ?_)
                              rw [hq.1, hq.2]
                              show xW k S 103 19882 563 [some (.retAddr 5), some (.ref 0), some (.ref 60), some (.int l3)] [.int w22.1, .int w21.1] w22.2
                              refine xic_eq A (761) 1324 566 (by decide +kernel) (fun h65 => ?_) (fun h65 => ?_)
                              · rw [if_pos h65] at H
                                refine xb A [(.iinc 3 6, 3, 0, 0, .null)] (pc' := 1327) (ls' := [some (.retAddr 5), some (.ref 0), some (.ref 60), some (.int (l3 + 6))]) (st' := []) (g' := w22.2) (by decide +kernel) rfl ?_
                                refine xgoto A (-1309) 18 (by decide +kernel) ?_
                                exact ih _ _ H
                              · rw [if_neg h65] at H
                                refine xb A [(.iconst 0, 1, 0, 0, .int 0)] (pc' := 567) (ls' := [some (.retAddr 5), some (.ref 0), some (.ref 60), some (.int l3)]) (st' := [.int 0]) (g' := w22.2) (by decide +kernel) rfl ?_
                                obtain rfl := Option.some.inj H
                                exact absurd ho (show ¬ ((0 : Int32) = 1) by decide)
                            · rw [if_neg h64] at H
                              by_cases h66 : ((xs l3.toNatClampNeg) &&& 63) = 12
                              · rw [if_pos h66] at H
                                refine xtabIn A (dflt := 1291) (lo := 0) (hi := 41) (off := 535) (offs := #[(183), (246), (269), (282), (295), (328), (361), (394), (427), (476), (499), (522), (535), (548), (581), (614), (627), (640), (653), (676), (699), (722), (755), (778), (801), (824), (847), (870), (893), (906), (919), (952), (985), (1018), (1041), (1084), (1133), (1146), (1189), (1222), (1245), (1268)]) (len := 183) (tgt := 568) (12) (by rw [h66]; rfl) (by decide +kernel) ?_
                                refine xb A [(.aload_n 1, 1, 0, 0, .null)] (pc' := 569) (ls' := [some (.retAddr 5), some (.ref 0), some (.ref 60), some (.int l3)]) (st' := [.ref 0]) (g' := g) (by decide +kernel) rfl ?_
                                obtain ⟨w23, e23, H⟩ := xbind H
                                refine xcallV A (ix := 69) (nxt := 572) hrm hz [] [] 1093 (c_X11_ringer_0 hS1 _ e23) ok_X11_ringer (by decide +kernel) rfl (fun r g1 hq => ?_)
                                rw [hq.1, hq.2]
                                show xW k S 103 19882 572 [some (.retAddr 5), some (.ref 0), some (.ref 60), some (.int l3)] [.int w23.1] w23.2
                                refine xb A [(.aload_n 2, 1, 0, 0, .null)] (pc' := 573) (ls' := [some (.retAddr 5), some (.ref 0), some (.ref 60), some (.int l3)]) (st' := [.ref 60, .int w23.1]) (g' := w23.2) (by decide +kernel) rfl ?_
                                obtain ⟨w24, e24, H⟩ := xbind H
                                refine xcallV A (ix := 72) (nxt := 576) hrm hz [] [.int w23.1] 1881 (c_X12_ringer_60 hS _ e24) ok_X12_ringer (by decide +kernel) rfl (fun r g1 hq => ?_)
                                rw [hq.1, hq.2]
                                show xW k S 103 19882 576 [some (.retAddr 5), some (.ref 0), some (.ref 60), some (.int l3)] [.int w24.1, .int w23.1] w24.2
                                refine xic_eq A (748) 1324 579 (by decide +kernel) (fun h67 => ?_) (fun h67 => ?_)
                                · rw [if_pos h67] at H
                                  refine xb A [(.iinc 3 6, 3, 0, 0, .null)] (pc' := 1327) (ls' := [some (.retAddr 5), some (.ref 0), some (.ref 60), some (.int (l3 + 6))]) (st' := []) (g' := w24.2) (by decide +kernel) rfl ?_
                                  refine xgoto A (-1309) 18 (by decide +kernel) ?_
                                  exact ih _ _ H
                                · rw [if_neg h67] at H
                                  refine xb A [(.iconst 0, 1, 0, 0, .int 0)] (pc' := 580) (ls' := [some (.retAddr 5), some (.ref 0), some (.ref 60), some (.int l3)]) (st' := [.int 0]) (g' := w24.2) (by decide +kernel) rfl ?_
                                  obtain rfl := Option.some.inj H
                                  exact absurd ho (show ¬ ((0 : Int32) = 1) by decide)
                              · rw [if_neg h66] at H
                                by_cases h68 : ((xs l3.toNatClampNeg) &&& 63) = 13
                                · rw [if_pos h68] at H
                                  refine xtabIn A (dflt := 1291) (lo := 0) (hi := 41) (off := 548) (offs := #[(183), (246), (269), (282), (295), (328), (361), (394), (427), (476), (499), (522), (535), (548), (581), (614), (627), (640), (653), (676), (699), (722), (755), (778), (801), (824), (847), (870), (893), (906), (919), (952), (985), (1018), (1041), (1084), (1133), (1146), (1189), (1222), (1245), (1268)]) (len := 183) (tgt := 581) (13) (by rw [h68]; rfl) (by decide +kernel) ?_
                                  refine xb A [(.aload_n 1, 1, 0, 0, .null), (.aload_n 0, 1, 0, 0, .null), (.iload_n 3, 1, 0, 0, .null), (.iconst 1, 1, 0, 0, .int 1), (.iadd, 1, 0, 0, .null)] (pc' := 586) (ls' := [some (.retAddr 5), some (.ref 0), some (.ref 60), some (.int l3)]) (st' := [.int (l3 + 1), .retAddr 5, .ref 0]) (g' := g) (by decide +kernel) rfl ?_
                                  obtain ⟨h69, H⟩ := xg_elim H
                                  refine xsld A hX (nxt := 587) (by decide +kernel) h69 ?_
                                  refine xb A [(.aload_n 0, 1, 0, 0, .null), (.iload_n 3, 1, 0, 0, .null), (.iconst 2, 1, 0, 0, .int 2), (.iadd, 1, 0, 0, .null)] (pc' := 591) (ls' := [some (.retAddr 5), some (.ref 0), some (.ref 60), some (.int l3)]) (st' := [.int (l3 + 2), .retAddr 5, .int (xs (l3 + 1).toNatClampNeg), .ref 0]) (g' := g) (by decide +kernel) rfl ?_
                                  obtain ⟨h70, H⟩ := xg_elim H
                                  refine xsld A hX (nxt := 592) (by decide +kernel) h70 ?_
                                  refine xcallV A (ix := 73) (nxt := 595) hrm hz [.int (xs (l3 + 1).toNatClampNeg), .int (xs (l3 + 2).toNatClampNeg)] [] 1098 (c_X11_far_0 hS1 _ rfl) ok_X11_far (by decide +kernel) rfl (fun r g1 hq => ?_)
                                  rw [hq.1, hq.2]
                                  show xW k S 103 19882 595 [some (.retAddr 5), some (.ref 0), some (.ref 60), some (.int l3)] [.int (f_X11_far_0 (xs (l3 + 1).toNatClampNeg) (xs (l3 + 2).toNatClampNeg) g)] g
                                  refine xb A [(.aload_n 2, 1, 0, 0, .null), (.aload_n 0, 1, 0, 0, .null), (.iload_n 3, 1, 0, 0, .null), (.iconst 1, 1, 0, 0, .int 1), (.iadd, 1, 0, 0, .null)] (pc' := 600) (ls' := [some (.retAddr 5), some (.ref 0), some (.ref 60), some (.int l3)]) (st' := [.int (l3 + 1), .retAddr 5, .ref 60, .int (f_X11_far_0 (xs (l3 + 1).toNatClampNeg) (xs (l3 + 2).toNatClampNeg) g)]) (g' := g) (by decide +kernel) rfl ?_
                                  obtain ⟨h71, H⟩ := xg_elim H
                                  refine xsld A hX (nxt := 601) (by decide +kernel) h71 ?_
                                  refine xb A [(.aload_n 0, 1, 0, 0, .null), (.iload_n 3, 1, 0, 0, .null), (.iconst 2, 1, 0, 0, .int 2), (.iadd, 1, 0, 0, .null)] (pc' := 605) (ls' := [some (.retAddr 5), some (.ref 0), some (.ref 60), some (.int l3)]) (st' := [.int (l3 + 2), .retAddr 5, .int (xs (l3 + 1).toNatClampNeg), .ref 60, .int (f_X11_far_0 (xs (l3 + 1).toNatClampNeg) (xs (l3 + 2).toNatClampNeg) g)]) (g' := g) (by decide +kernel) rfl ?_
                                  obtain ⟨h72, H⟩ := xg_elim H
                                  refine xsld A hX (nxt := 606) (by decide +kernel) h72 ?_
                                  obtain ⟨w25, e25, H⟩ := xbind H
                                  refine xcallV A (ix := 76) (nxt := 609) hrm hz [.int (xs (l3 + 1).toNatClampNeg), .int (xs (l3 + 2).toNatClampNeg)] [.int (f_X11_far_0 (xs (l3 + 1).toNatClampNeg) (xs (l3 + 2).toNatClampNeg) g)] 1885 (c_X12_far_60 hS _ e25) ok_X12_far (by decide +kernel) rfl (fun r g1 hq => ?_)
                                  rw [hq.1, hq.2]
                                  show xW k S 103 19882 609 [some (.retAddr 5), some (.ref 0), some (.ref 60), some (.int l3)] [.int w25.1, .int (f_X11_far_0 (xs (l3 + 1).toNatClampNeg) (xs (l3 + 2).toNatClampNeg) g)] w25.2
                                  refine xic_eq A (715) 1324 612 (by decide +kernel) (fun h73 => ?_) (fun h73 => ?_)
                                  · rw [if_pos h73] at H
                                    refine xb A [(.iinc 3 6, 3, 0, 0, .null)] (pc' := 1327) (ls' := [some (.retAddr 5), some (.ref 0), some (.ref 60), some (.int (l3 + 6))]) (st' := []) (g' := w25.2) (by decide +kernel) rfl ?_
                                    refine xgoto A (-1309) 18 (by decide +kernel) ?_
                                    exact ih _ _ H
                                  · rw [if_neg h73] at H
                                    refine xb A [(.iconst 0, 1, 0, 0, .int 0)] (pc' := 613) (ls' := [some (.retAddr 5), some (.ref 0), some (.ref 60), some (.int l3)]) (st' := [.int 0]) (g' := w25.2) (by decide +kernel) rfl ?_
                                    obtain rfl := Option.some.inj H
                                    exact absurd ho (show ¬ ((0 : Int32) = 1) by decide)
                                · rw [if_neg h68] at H
                                  by_cases h74 : ((xs l3.toNatClampNeg) &&& 63) = 14
                                  · rw [if_pos h74] at H
                                    refine xtabIn A (dflt := 1291) (lo := 0) (hi := 41) (off := 581) (offs := #[(183), (246), (269), (282), (295), (328), (361), (394), (427), (476), (499), (522), (535), (548), (581), (614), (627), (640), (653), (676), (699), (722), (755), (778), (801), (824), (847), (870), (893), (906), (919), (952), (985), (1018), (1041), (1084), (1133), (1146), (1189), (1222), (1245), (1268)]) (len := 183) (tgt := 614) (14) (by rw [h74]; rfl) (by decide +kernel) ?_
                                    refine xb A [(.aload_n 1, 1, 0, 0, .null), (.aload_n 0, 1, 0, 0, .null), (.iload_n 3, 1, 0, 0, .null), (.iconst 1, 1, 0, 0, .int 1), (.iadd, 1, 0, 0, .null)] (pc' := 619) (ls' := [some (.retAddr 5), some (.ref 0), some (.ref 60), some (.int l3)]) (st' := [.int (l3 + 1), .retAddr 5, .ref 0]) (g' := g) (by decide +kernel) rfl ?_
                                    obtain ⟨h75, H⟩ := xg_elim H
                                    refine xsld A hX (nxt := 620) (by decide +kernel) h75 ?_
                                    refine xb A [(.aload_n 0, 1, 0, 0, .null), (.iload_n 3, 1, 0, 0, .null), (.iconst 2, 1, 0, 0, .int 2), (.iadd, 1, 0, 0, .null)] (pc' := 624) (ls' := [some (.retAddr 5), some (.ref 0), some (.ref 60), some (.int l3)]) (st' := [.int (l3 + 2), .retAddr 5, .int (xs (l3 + 1).toNatClampNeg), .ref 0]) (g' := g) (by decide +kernel) rfl ?_
                                    obtain ⟨h76, H⟩ := xg_elim H
                                    refine xsld A hX (nxt := 625) (by decide +kernel) h76 ?_
                                    obtain ⟨w26, e26, H⟩ := xbind H
                                    refine xcallV A (ix := 77) (nxt := 628) hrm hz [.int (xs (l3 + 1).toNatClampNeg), .int (xs (l3 + 2).toNatClampNeg)] [] 1102 (c_X11_longest_0 hS1 _ e26) ok_X11_longest (by decide +kernel) rfl (fun r g1 hq => ?_)
                                    rw [hq.1, hq.2]
                                    show xW k S 103 19882 628 [some (.retAddr 5), some (.ref 0), some (.ref 60), some (.int l3)] [.int w26.1] w26.2
                                    refine xb A [(.aload_n 2, 1, 0, 0, .null), (.aload_n 0, 1, 0, 0, .null), (.iload_n 3, 1, 0, 0, .null), (.iconst 1, 1, 0, 0, .int 1), (.iadd, 1, 0, 0, .null)] (pc' := 633) (ls' := [some (.retAddr 5), some (.ref 0), some (.ref 60), some (.int l3)]) (st' := [.int (l3 + 1), .retAddr 5, .ref 60, .int w26.1]) (g' := w26.2) (by decide +kernel) rfl ?_
                                    obtain ⟨h77, H⟩ := xg_elim H
                                    refine xsld A hX (nxt := 634) (by decide +kernel) h77 ?_
                                    refine xb A [(.aload_n 0, 1, 0, 0, .null), (.iload_n 3, 1, 0, 0, .null), (.iconst 2, 1, 0, 0, .int 2), (.iadd, 1, 0, 0, .null)] (pc' := 638) (ls' := [some (.retAddr 5), some (.ref 0), some (.ref 60), some (.int l3)]) (st' := [.int (l3 + 2), .retAddr 5, .int (xs (l3 + 1).toNatClampNeg), .ref 60, .int w26.1]) (g' := w26.2) (by decide +kernel) rfl ?_
                                    obtain ⟨h78, H⟩ := xg_elim H
                                    refine xsld A hX (nxt := 639) (by decide +kernel) h78 ?_
                                    obtain ⟨w27, e27, H⟩ := xbind H
                                    refine xcallV A (ix := 80) (nxt := 642) hrm hz [.int (xs (l3 + 1).toNatClampNeg), .int (xs (l3 + 2).toNatClampNeg)] [.int w26.1] 1949 (c_X12_longest_60 hS _ e27) ok_X12_longest (by decide +kernel) rfl (fun r g1 hq => ?_)
                                    rw [hq.1, hq.2]
                                    show xW k S 103 19882 642 [some (.retAddr 5), some (.ref 0), some (.ref 60), some (.int l3)] [.int w27.1, .int w26.1] w27.2
                                    refine xic_eq A (682) 1324 645 (by decide +kernel) (fun h79 => ?_) (fun h79 => ?_)
                                    · rw [if_pos h79] at H
                                      refine xb A [(.iinc 3 6, 3, 0, 0, .null)] (pc' := 1327) (ls' := [some (.retAddr 5), some (.ref 0), some (.ref 60), some (.int (l3 + 6))]) (st' := []) (g' := w27.2) (by decide +kernel) rfl ?_
                                      refine xgoto A (-1309) 18 (by decide +kernel) ?_
                                      exact ih _ _ H
                                    · rw [if_neg h79] at H
                                      refine xb A [(.iconst 0, 1, 0, 0, .int 0)] (pc' := 646) (ls' := [some (.retAddr 5), some (.ref 0), some (.ref 60), some (.int l3)]) (st' := [.int 0]) (g' := w27.2) (by decide +kernel) rfl ?_
                                      obtain rfl := Option.some.inj H
                                      exact absurd ho (show ¬ ((0 : Int32) = 1) by decide)
                                  · rw [if_neg h74] at H
                                    by_cases h80 : ((xs l3.toNatClampNeg) &&& 63) = 15
                                    · rw [if_pos h80] at H
                                      refine xtabIn A (dflt := 1291) (lo := 0) (hi := 41) (off := 614) (offs := #[(183), (246), (269), (282), (295), (328), (361), (394), (427), (476), (499), (522), (535), (548), (581), (614), (627), (640), (653), (676), (699), (722), (755), (778), (801), (824), (847), (870), (893), (906), (919), (952), (985), (1018), (1041), (1084), (1133), (1146), (1189), (1222), (1245), (1268)]) (len := 183) (tgt := 647) (15) (by rw [h80]; rfl) (by decide +kernel) ?_
                                      refine xb A [(.aload_n 1, 1, 0, 0, .null)] (pc' := 648) (ls' := [some (.retAddr 5), some (.ref 0), some (.ref 60), some (.int l3)]) (st' := [.ref 0]) (g' := g) (by decide +kernel) rfl ?_
                                      obtain ⟨w28, e28, H⟩ := xbind H
                                      refine xcallV A (ix := 81) (nxt := 651) hrm hz [] [] 1119 (c_X11_liars_0 hS1 _ e28) ok_X11_liars (by decide +kernel) rfl (fun r g1 hq => ?_)
                                      rw [hq.1, hq.2]
                                      show xW k S 103 19882 651 [some (.retAddr 5), some (.ref 0), some (.ref 60), some (.int l3)] [.int w28.1] w28.2
                                      refine xb A [(.aload_n 2, 1, 0, 0, .null)] (pc' := 652) (ls' := [some (.retAddr 5), some (.ref 0), some (.ref 60), some (.int l3)]) (st' := [.ref 60, .int w28.1]) (g' := w28.2) (by decide +kernel) rfl ?_
                                      obtain ⟨w29, e29, H⟩ := xbind H
                                      refine xcallV A (ix := 84) (nxt := 655) hrm hz [] [.int w28.1] 1889 (c_X12_liars_60 hS _ e29) ok_X12_liars (by decide +kernel) rfl (fun r g1 hq => ?_)
                                      rw [hq.1, hq.2]
                                      show xW k S 103 19882 655 [some (.retAddr 5), some (.ref 0), some (.ref 60), some (.int l3)] [.int w29.1, .int w28.1] w29.2
                                      refine xic_eq A (669) 1324 658 (by decide +kernel) (fun h81 => ?_) (fun h81 => ?_)
                                      · rw [if_pos h81] at H
                                        refine xb A [(.iinc 3 6, 3, 0, 0, .null)] (pc' := 1327) (ls' := [some (.retAddr 5), some (.ref 0), some (.ref 60), some (.int (l3 + 6))]) (st' := []) (g' := w29.2) (by decide +kernel) rfl ?_
                                        refine xgoto A (-1309) 18 (by decide +kernel) ?_
                                        exact ih _ _ H
                                      · rw [if_neg h81] at H
                                        refine xb A [(.iconst 0, 1, 0, 0, .int 0)] (pc' := 659) (ls' := [some (.retAddr 5), some (.ref 0), some (.ref 60), some (.int l3)]) (st' := [.int 0]) (g' := w29.2) (by decide +kernel) rfl ?_
                                        obtain rfl := Option.some.inj H
                                        exact absurd ho (show ¬ ((0 : Int32) = 1) by decide)
                                    · rw [if_neg h80] at H
                                      by_cases h82 : ((xs l3.toNatClampNeg) &&& 63) = 16
                                      · rw [if_pos h82] at H
                                        refine xtabIn A (dflt := 1291) (lo := 0) (hi := 41) (off := 627) (offs := #[(183), (246), (269), (282), (295), (328), (361), (394), (427), (476), (499), (522), (535), (548), (581), (614), (627), (640), (653), (676), (699), (722), (755), (778), (801), (824), (847), (870), (893), (906), (919), (952), (985), (1018), (1041), (1084), (1133), (1146), (1189), (1222), (1245), (1268)]) (len := 183) (tgt := 660) (16) (by rw [h82]; rfl) (by decide +kernel) ?_
                                        refine xb A [(.aload_n 1, 1, 0, 0, .null)] (pc' := 661) (ls' := [some (.retAddr 5), some (.ref 0), some (.ref 60), some (.int l3)]) (st' := [.ref 0]) (g' := g) (by decide +kernel) rfl ?_
                                        obtain ⟨w30, e30, H⟩ := xbind H
                                        refine xcallV A (ix := 85) (nxt := 664) hrm hz [] [] 1124 (c_X11_truth_0 hS1 _ e30) ok_X11_truth (by decide +kernel) rfl (fun r g1 hq => ?_)
                                        rw [hq.1, hq.2]
                                        show xW k S 103 19882 664 [some (.retAddr 5), some (.ref 0), some (.ref 60), some (.int l3)] [.int w30] g
                                        refine xb A [(.aload_n 2, 1, 0, 0, .null)] (pc' := 665) (ls' := [some (.retAddr 5), some (.ref 0), some (.ref 60), some (.int l3)]) (st' := [.ref 60, .int w30]) (g' := g) (by decide +kernel) rfl ?_
                                        obtain ⟨w31, e31, H⟩ := xbind H
                                        refine xcallV A (ix := 88) (nxt := 668) hrm hz [] [.int w30] 1893 (c_X12_truth_60 hS _ e31) ok_X12_truth (by decide +kernel) rfl (fun r g1 hq => ?_)
                                        rw [hq.1, hq.2]
                                        show xW k S 103 19882 668 [some (.retAddr 5), some (.ref 0), some (.ref 60), some (.int l3)] [.int w31.1, .int w30] w31.2
                                        refine xic_eq A (656) 1324 671 (by decide +kernel) (fun h83 => ?_) (fun h83 => ?_)
                                        · rw [if_pos h83] at H
                                          refine xb A [(.iinc 3 6, 3, 0, 0, .null)] (pc' := 1327) (ls' := [some (.retAddr 5), some (.ref 0), some (.ref 60), some (.int (l3 + 6))]) (st' := []) (g' := w31.2) (by decide +kernel) rfl ?_
                                          refine xgoto A (-1309) 18 (by decide +kernel) ?_
                                          exact ih _ _ H
                                        · rw [if_neg h83] at H
                                          refine xb A [(.iconst 0, 1, 0, 0, .int 0)] (pc' := 672) (ls' := [some (.retAddr 5), some (.ref 0), some (.ref 60), some (.int l3)]) (st' := [.int 0]) (g' := w31.2) (by decide +kernel) rfl ?_
                                          obtain rfl := Option.some.inj H
                                          exact absurd ho (show ¬ ((0 : Int32) = 1) by decide)
                                      · rw [if_neg h82] at H
                                        by_cases h84 : ((xs l3.toNatClampNeg) &&& 63) = 17
                                        · rw [if_pos h84] at H
                                          refine xtabIn A (dflt := 1291) (lo := 0) (hi := 41) (off := 640) (offs := #[(183), (246), (269), (282), (295), (328), (361), (394), (427), (476), (499), (522), (535), (548), (581), (614), (627), (640), (653), (676), (699), (722), (755), (778), (801), (824), (847), (870), (893), (906), (919), (952), (985), (1018), (1041), (1084), (1133), (1146), (1189), (1222), (1245), (1268)]) (len := 183) (tgt := 673) (17) (by rw [h84]; rfl) (by decide +kernel) ?_
                                          refine xb A [(.aload_n 1, 1, 0, 0, .null)] (pc' := 674) (ls' := [some (.retAddr 5), some (.ref 0), some (.ref 60), some (.int l3)]) (st' := [.ref 0]) (g' := g) (by decide +kernel) rfl ?_
                                          obtain ⟨w32, e32, H⟩ := xbind H
                                          refine xcallV A (ix := 89) (nxt := 677) hrm hz [] [] 1132 (c_X11_turns_0 hS1 _ e32) ok_X11_turns (by decide +kernel) rfl (fun r g1 hq => ?_)
                                          rw [hq.1, hq.2]
                                          show xW k S 103 19882 677 [some (.retAddr 5), some (.ref 0), some (.ref 60), some (.int l3)] [.int w32.1] w32.2
                                          refine xb A [(.aload_n 2, 1, 0, 0, .null)] (pc' := 678) (ls' := [some (.retAddr 5), some (.ref 0), some (.ref 60), some (.int l3)]) (st' := [.ref 60, .int w32.1]) (g' := w32.2) (by decide +kernel) rfl ?_
                                          obtain ⟨w33, e33, H⟩ := xbind H
                                          refine xcallV A (ix := 92) (nxt := 681) hrm hz [] [.int w32.1] 1897 (c_X12_turns_60 hS _ e33) ok_X12_turns (by decide +kernel) rfl (fun r g1 hq => ?_)
                                          rw [hq.1, hq.2]
                                          show xW k S 103 19882 681 [some (.retAddr 5), some (.ref 0), some (.ref 60), some (.int l3)] [.int w33.1, .int w32.1] w33.2
                                          refine xic_eq A (643) 1324 684 (by decide +kernel) (fun h85 => ?_) (fun h85 => ?_)
                                          · rw [if_pos h85] at H
                                            refine xb A [(.iinc 3 6, 3, 0, 0, .null)] (pc' := 1327) (ls' := [some (.retAddr 5), some (.ref 0), some (.ref 60), some (.int (l3 + 6))]) (st' := []) (g' := w33.2) (by decide +kernel) rfl ?_
                                            refine xgoto A (-1309) 18 (by decide +kernel) ?_
                                            exact ih _ _ H
                                          · rw [if_neg h85] at H
                                            refine xb A [(.iconst 0, 1, 0, 0, .int 0)] (pc' := 685) (ls' := [some (.retAddr 5), some (.ref 0), some (.ref 60), some (.int l3)]) (st' := [.int 0]) (g' := w33.2) (by decide +kernel) rfl ?_
                                            obtain rfl := Option.some.inj H
                                            exact absurd ho (show ¬ ((0 : Int32) = 1) by decide)
                                        · rw [if_neg h84] at H
                                          by_cases h86 : ((xs l3.toNatClampNeg) &&& 63) = 18
                                          · rw [if_pos h86] at H
                                            refine xtabIn A (dflt := 1291) (lo := 0) (hi := 41) (off := 653) (offs := #[(183), (246), (269), (282), (295), (328), (361), (394), (427), (476), (499), (522), (535), (548), (581), (614), (627), (640), (653), (676), (699), (722), (755), (778), (801), (824), (847), (870), (893), (906), (919), (952), (985), (1018), (1041), (1084), (1133), (1146), (1189), (1222), (1245), (1268)]) (len := 183) (tgt := 686) (18) (by rw [h86]; rfl) (by decide +kernel) ?_
                                            refine xb A [(.aload_n 1, 1, 0, 0, .null), (.aload_n 0, 1, 0, 0, .null), (.iload_n 3, 1, 0, 0, .null), (.iconst 1, 1, 0, 0, .int 1), (.iadd, 1, 0, 0, .null)] (pc' := 691) (ls' := [some (.retAddr 5), some (.ref 0), some (.ref 60), some (.int l3)]) (st' := [.int (l3 + 1), .retAddr 5, .ref 0]) (g' := g) (by decide +kernel) rfl ?_
                                            obtain ⟨h87, H⟩ := xg_elim H
                                            refine xsld A hX (nxt := 692) (by decide +kernel) h87 ?_
                                            obtain ⟨w34, e34, H⟩ := xbind H
                                            refine xcallV A (ix := 93) (nxt := 695) hrm hz [.int (xs (l3 + 1).toNatClampNeg)] [] 1141 (c_X11_wish_0 hS1 _ e34) ok_X11_wish (by decide +kernel) rfl (fun r g1 hq => ?_)
                                            rw [hq.1, hq.2]
                                            show xW k S 103 19882 695 [some (.retAddr 5), some (.ref 0), some (.ref 60), some (.int l3)] [.int w34.1] w34.2
                                            refine xb A [(.aload_n 2, 1, 0, 0, .null), (.aload_n 0, 1, 0, 0, .null), (.iload_n 3, 1, 0, 0, .null), (.iconst 1, 1, 0, 0, .int 1), (.iadd, 1, 0, 0, .null)] (pc' := 700) (ls' := [some (.retAddr 5), some (.ref 0), some (.ref 60), some (.int l3)]) (st' := [.int (l3 + 1), .retAddr 5, .ref 60, .int w34.1]) (g' := w34.2) (by decide +kernel) rfl ?_
                                            obtain ⟨h88, H⟩ := xg_elim H
                                            refine xsld A hX (nxt := 701) (by decide +kernel) h88 ?_
                                            obtain ⟨w35, e35, H⟩ := xbind H
                                            refine xcallV A (ix := 96) (nxt := 704) hrm hz [.int (xs (l3 + 1).toNatClampNeg)] [.int w34.1] 1909 (c_X12_wish_60 hS _ e35) ok_X12_wish (by decide +kernel) rfl (fun r g1 hq => ?_)
                                            rw [hq.1, hq.2]
                                            show xW k S 103 19882 704 [some (.retAddr 5), some (.ref 0), some (.ref 60), some (.int l3)] [.int w35.1, .int w34.1] w35.2
                                            refine xic_eq A (620) 1324 707 (by decide +kernel) (fun h89 => ?_) (fun h89 => ?_)
                                            · rw [if_pos h89] at H
                                              refine xb A [(.iinc 3 6, 3, 0, 0, .null)] (pc' := 1327) (ls' := [some (.retAddr 5), some (.ref 0), some (.ref 60), some (.int (l3 + 6))]) (st' := []) (g' := w35.2) (by decide +kernel) rfl ?_
                                              refine xgoto A (-1309) 18 (by decide +kernel) ?_
                                              exact ih _ _ H
                                            · rw [if_neg h89] at H
                                              refine xb A [(.iconst 0, 1, 0, 0, .int 0)] (pc' := 708) (ls' := [some (.retAddr 5), some (.ref 0), some (.ref 60), some (.int l3)]) (st' := [.int 0]) (g' := w35.2) (by decide +kernel) rfl ?_
                                              obtain rfl := Option.some.inj H
                                              exact absurd ho (show ¬ ((0 : Int32) = 1) by decide)
                                          · rw [if_neg h86] at H
                                            by_cases h90 : ((xs l3.toNatClampNeg) &&& 63) = 19
                                            · rw [if_pos h90] at H
                                              refine xtabIn A (dflt := 1291) (lo := 0) (hi := 41) (off := 676) (offs := #[(183), (246), (269), (282), (295), (328), (361), (394), (427), (476), (499), (522), (535), (548), (581), (614), (627), (640), (653), (676), (699), (722), (755), (778), (801), (824), (847), (870), (893), (906), (919), (952), (985), (1018), (1041), (1084), (1133), (1146), (1189), (1222), (1245), (1268)]) (len := 183) (tgt := 709) (19) (by rw [h90]; rfl) (by decide +kernel) ?_
                                              refine xb A [(.aload_n 1, 1, 0, 0, .null), (.aload_n 0, 1, 0, 0, .null), (.iload_n 3, 1, 0, 0, .null), (.iconst 1, 1, 0, 0, .int 1), (.iadd, 1, 0, 0, .null)] (pc' := 714) (ls' := [some (.retAddr 5), some (.ref 0), some (.ref 60), some (.int l3)]) (st' := [.int (l3 + 1), .retAddr 5, .ref 0]) (g' := g) (by decide +kernel) rfl ?_
                                              obtain ⟨h91, H⟩ := xg_elim H
                                              refine xsld A hX (nxt := 715) (by decide +kernel) h91 ?_
                                              obtain ⟨w36, e36, H⟩ := xbind H
                                              refine xcallV A (ix := 97) (nxt := 718) hrm hz [.int (xs (l3 + 1).toNatClampNeg)] [] 1145 (c_X11_when_0 hS1 _ e36) ok_X11_when (by decide +kernel) rfl (fun r g1 hq => ?_)
                                              rw [hq.1, hq.2]
                                              show xW k S 103 19882 718 [some (.retAddr 5), some (.ref 0), some (.ref 60), some (.int l3)] [.int w36.1] w36.2
                                              refine xb A [(.aload_n 2, 1, 0, 0, .null), (.aload_n 0, 1, 0, 0, .null), (.iload_n 3, 1, 0, 0, .null), (.iconst 1, 1, 0, 0, .int 1), (.iadd, 1, 0, 0, .null)] (pc' := 723) (ls' := [some (.retAddr 5), some (.ref 0), some (.ref 60), some (.int l3)]) (st' := [.int (l3 + 1), .retAddr 5, .ref 60, .int w36.1]) (g' := w36.2) (by decide +kernel) rfl ?_
                                              obtain ⟨h92, H⟩ := xg_elim H
                                              refine xsld A hX (nxt := 724) (by decide +kernel) h92 ?_
                                              obtain ⟨w37, e37, H⟩ := xbind H
                                              refine xcallV A (ix := 100) (nxt := 727) hrm hz [.int (xs (l3 + 1).toNatClampNeg)] [.int w36.1] 1913 (c_X12_when_60 hS _ e37) ok_X12_when (by decide +kernel) rfl (fun r g1 hq => ?_)
                                              rw [hq.1, hq.2]
                                              show xW k S 103 19882 727 [some (.retAddr 5), some (.ref 0), some (.ref 60), some (.int l3)] [.int w37.1, .int w36.1] w37.2
                                              refine xic_eq A (597) 1324 730 (by decide +kernel) (fun h93 => ?_) (fun h93 => ?_)
                                              · rw [if_pos h93] at H
                                                refine xb A [(.iinc 3 6, 3, 0, 0, .null)] (pc' := 1327) (ls' := [some (.retAddr 5), some (.ref 0), some (.ref 60), some (.int (l3 + 6))]) (st' := []) (g' := w37.2) (by decide +kernel) rfl ?_
                                                refine xgoto A (-1309) 18 (by decide +kernel) ?_
                                                exact ih _ _ H
                                              · rw [if_neg h93] at H
                                                refine xb A [(.iconst 0, 1, 0, 0, .int 0)] (pc' := 731) (ls' := [some (.retAddr 5), some (.ref 0), some (.ref 60), some (.int l3)]) (st' := [.int 0]) (g' := w37.2) (by decide +kernel) rfl ?_
                                                obtain rfl := Option.some.inj H
                                                exact absurd ho (show ¬ ((0 : Int32) = 1) by decide)
                                            · rw [if_neg h90] at H
                                              by_cases h94 : ((xs l3.toNatClampNeg) &&& 63) = 20
                                              · rw [if_pos h94] at H
                                                refine xtabIn A (dflt := 1291) (lo := 0) (hi := 41) (off := 699) (offs := #[(183), (246), (269), (282), (295), (328), (361), (394), (427), (476), (499), (522), (535), (548), (581), (614), (627), (640), (653), (676), (699), (722), (755), (778), (801), (824), (847), (870), (893), (906), (919), (952), (985), (1018), (1041), (1084), (1133), (1146), (1189), (1222), (1245), (1268)]) (len := 183) (tgt := 732) (20) (by rw [h94]; rfl) (by decide +kernel) ?_
                                                refine xb A [(.aload_n 1, 1, 0, 0, .null), (.aload_n 0, 1, 0, 0, .null), (.iload_n 3, 1, 0, 0, .null), (.iconst 1, 1, 0, 0, .int 1), (.iadd, 1, 0, 0, .null)] (pc' := 737) (ls' := [some (.retAddr 5), some (.ref 0), some (.ref 60), some (.int l3)]) (st' := [.int (l3 + 1), .retAddr 5, .ref 0]) (g' := g) (by decide +kernel) rfl ?_
                                                obtain ⟨h95, H⟩ := xg_elim H
                                                refine xsld A hX (nxt := 738) (by decide +kernel) h95 ?_
                                                obtain ⟨w38, e38, H⟩ := xbind H
                                                refine xcallV A (ix := 101) (nxt := 741) hrm hz [.int (xs (l3 + 1).toNatClampNeg)] [] 1158 (c_X11_soonest_0 hS1 _ e38) ok_X11_soonest (by decide +kernel) rfl (fun r g1 hq => ?_)
                                                rw [hq.1, hq.2]
                                                show xW k S 103 19882 741 [some (.retAddr 5), some (.ref 0), some (.ref 60), some (.int l3)] [.int w38.1] w38.2
                                                refine xb A [(.aload_n 2, 1, 0, 0, .null), (.aload_n 0, 1, 0, 0, .null), (.iload_n 3, 1, 0, 0, .null), (.iconst 1, 1, 0, 0, .int 1), (.iadd, 1, 0, 0, .null)] (pc' := 746) (ls' := [some (.retAddr 5), some (.ref 0), some (.ref 60), some (.int l3)]) (st' := [.int (l3 + 1), .retAddr 5, .ref 60, .int w38.1]) (g' := w38.2) (by decide +kernel) rfl ?_
                                                obtain ⟨h96, H⟩ := xg_elim H
                                                refine xsld A hX (nxt := 747) (by decide +kernel) h96 ?_
                                                obtain ⟨w39, e39, H⟩ := xbind H
                                                refine xcallV A (ix := 104) (nxt := 750) hrm hz [.int (xs (l3 + 1).toNatClampNeg)] [.int w38.1] 1925 (c_X12_soonest_60 hS _ e39) ok_X12_soonest (by decide +kernel) rfl (fun r g1 hq => ?_)
                                                rw [hq.1, hq.2]
                                                show xW k S 103 19882 750 [some (.retAddr 5), some (.ref 0), some (.ref 60), some (.int l3)] [.int w39.1, .int w38.1] w39.2
                                                refine xic_eq A (574) 1324 753 (by decide +kernel) (fun h97 => ?_) (fun h97 => ?_)
                                                · rw [if_pos h97] at H
                                                  refine xb A [(.iinc 3 6, 3, 0, 0, .null)] (pc' := 1327) (ls' := [some (.retAddr 5), some (.ref 0), some (.ref 60), some (.int (l3 + 6))]) (st' := []) (g' := w39.2) (by decide +kernel) rfl ?_
                                                  refine xgoto A (-1309) 18 (by decide +kernel) ?_
                                                  exact ih _ _ H
                                                · rw [if_neg h97] at H
                                                  refine xb A [(.iconst 0, 1, 0, 0, .int 0)] (pc' := 754) (ls' := [some (.retAddr 5), some (.ref 0), some (.ref 60), some (.int l3)]) (st' := [.int 0]) (g' := w39.2) (by decide +kernel) rfl ?_
                                                  obtain rfl := Option.some.inj H
                                                  exact absurd ho (show ¬ ((0 : Int32) = 1) by decide)
                                              · rw [if_neg h94] at H
                                                by_cases h98 : ((xs l3.toNatClampNeg) &&& 63) = 21
                                                · rw [if_pos h98] at H
                                                  refine xtabIn A (dflt := 1291) (lo := 0) (hi := 41) (off := 722) (offs := #[(183), (246), (269), (282), (295), (328), (361), (394), (427), (476), (499), (522), (535), (548), (581), (614), (627), (640), (653), (676), (699), (722), (755), (778), (801), (824), (847), (870), (893), (906), (919), (952), (985), (1018), (1041), (1084), (1133), (1146), (1189), (1222), (1245), (1268)]) (len := 183) (tgt := 755) (21) (by rw [h98]; rfl) (by decide +kernel) ?_
                                                  refine xb A [(.aload_n 1, 1, 0, 0, .null), (.aload_n 0, 1, 0, 0, .null), (.iload_n 3, 1, 0, 0, .null), (.iconst 1, 1, 0, 0, .int 1), (.iadd, 1, 0, 0, .null)] (pc' := 760) (ls' := [some (.retAddr 5), some (.ref 0), some (.ref 60), some (.int l3)]) (st' := [.int (l3 + 1), .retAddr 5, .ref 0]) (g' := g) (by decide +kernel) rfl ?_
                                                  obtain ⟨h99, H⟩ := xg_elim H
                                                  refine xsld A hX (nxt := 761) (by decide +kernel) h99 ?_
                                                  refine xb A [(.aload_n 0, 1, 0, 0, .null), (.iload_n 3, 1, 0, 0, .null), (.iconst 2, 1, 0, 0, .int 2), (.iadd, 1, 0, 0, .null)] (pc' := 765) (ls' := [some (.retAddr 5), some (.ref 0), some (.ref 60), some (.int l3)]) (st' := [.int (l3 + 2), .retAddr 5, .int (xs (l3 + 1).toNatClampNeg), .ref 0]) (g' := g) (by decide +kernel) rfl ?_
                                                  obtain ⟨h100, H⟩ := xg_elim H
                                                  refine xsld A hX (nxt := 766) (by decide +kernel) h100 ?_
                                                  obtain ⟨w40, e40, H⟩ := xbind H
                                                  refine xcallV A (ix := 105) (nxt := 769) hrm hz [.int (xs (l3 + 1).toNatClampNeg), .int (xs (l3 + 2).toNatClampNeg)] [] 1162 (c_X11_often_0 hS1 _ e40) ok_X11_often (by decide +kernel) rfl (fun r g1 hq => ?_)
                                                  rw [hq.1, hq.2]
                                                  show xW k S 103 19882 769 [some (.retAddr 5), some (.ref 0), some (.ref 60), some (.int l3)] [.int w40.1] w40.2
                                                  refine xb A [(.aload_n 2, 1, 0, 0, .null), (.aload_n 0, 1, 0, 0, .null), (.iload_n 3, 1, 0, 0, .null), (.iconst 1, 1, 0, 0, .int 1), (.iadd, 1, 0, 0, .null)] (pc' := 774) (ls' := [some (.retAddr 5), some (.ref 0), some (.ref 60), some (.int l3)]) (st' := [.int (l3 + 1), .retAddr 5, .ref 60, .int w40.1]) (g' := w40.2) (by decide +kernel) rfl ?_
                                                  obtain ⟨h101, H⟩ := xg_elim H
                                                  refine xsld A hX (nxt := 775) (by decide +kernel) h101 ?_
                                                  refine xb A [(.aload_n 0, 1, 0, 0, .null), (.iload_n 3, 1, 0, 0, .null), (.iconst 2, 1, 0, 0, .int 2), (.iadd, 1, 0, 0, .null)] (pc' := 779) (ls' := [some (.retAddr 5), some (.ref 0), some (.ref 60), some (.int l3)]) (st' := [.int (l3 + 2), .retAddr 5, .int (xs (l3 + 1).toNatClampNeg), .ref 60, .int w40.1]) (g' := w40.2) (by decide +kernel) rfl ?_
                                                  obtain ⟨h102, H⟩ := xg_elim H
                                                  refine xsld A hX (nxt := 780) (by decide +kernel) h102 ?_
                                                  obtain ⟨w41, e41, H⟩ := xbind H
                                                  refine xcallV A (ix := 108) (nxt := 783) hrm hz [.int (xs (l3 + 1).toNatClampNeg), .int (xs (l3 + 2).toNatClampNeg)] [.int w40.1] 1933 (c_X12_often_60 hS _ e41) ok_X12_often (by decide +kernel) rfl (fun r g1 hq => ?_)
                                                  rw [hq.1, hq.2]
                                                  show xW k S 103 19882 783 [some (.retAddr 5), some (.ref 0), some (.ref 60), some (.int l3)] [.int w41.1, .int w40.1] w41.2
                                                  refine xic_eq A (541) 1324 786 (by decide +kernel) (fun h103 => ?_) (fun h103 => ?_)
                                                  · rw [if_pos h103] at H
                                                    refine xb A [(.iinc 3 6, 3, 0, 0, .null)] (pc' := 1327) (ls' := [some (.retAddr 5), some (.ref 0), some (.ref 60), some (.int (l3 + 6))]) (st' := []) (g' := w41.2) (by decide +kernel) rfl ?_
                                                    refine xgoto A (-1309) 18 (by decide +kernel) ?_
                                                    exact ih _ _ H
                                                  · rw [if_neg h103] at H
                                                    refine xb A [(.iconst 0, 1, 0, 0, .int 0)] (pc' := 787) (ls' := [some (.retAddr 5), some (.ref 0), some (.ref 60), some (.int l3)]) (st' := [.int 0]) (g' := w41.2) (by decide +kernel) rfl ?_
                                                    obtain rfl := Option.some.inj H
                                                    exact absurd ho (show ¬ ((0 : Int32) = 1) by decide)
                                                · rw [if_neg h98] at H
                                                  by_cases h104 : ((xs l3.toNatClampNeg) &&& 63) = 22
                                                  · rw [if_pos h104] at H
                                                    refine xtabIn A (dflt := 1291) (lo := 0) (hi := 41) (off := 755) (offs := #[(183), (246), (269), (282), (295), (328), (361), (394), (427), (476), (499), (522), (535), (548), (581), (614), (627), (640), (653), (676), (699), (722), (755), (778), (801), (824), (847), (870), (893), (906), (919), (952), (985), (1018), (1041), (1084), (1133), (1146), (1189), (1222), (1245), (1268)]) (len := 183) (tgt := 788) (22) (by rw [h104]; rfl) (by decide +kernel) ?_
                                                    refine xb A [(.aload_n 1, 1, 0, 0, .null), (.aload_n 0, 1, 0, 0, .null), (.iload_n 3, 1, 0, 0, .null), (.iconst 1, 1, 0, 0, .int 1), (.iadd, 1, 0, 0, .null)] (pc' := 793) (ls' := [some (.retAddr 5), some (.ref 0), some (.ref 60), some (.int l3)]) (st' := [.int (l3 + 1), .retAddr 5, .ref 0]) (g' := g) (by decide +kernel) rfl ?_
                                                    obtain ⟨h105, H⟩ := xg_elim H
                                                    refine xsld A hX (nxt := 794) (by decide +kernel) h105 ?_
                                                    obtain ⟨w42, e42, H⟩ := xbind H
                                                    refine xcallV A (ix := 109) (nxt := 797) hrm hz [.int (xs (l3 + 1).toNatClampNeg)] [] 1170 (c_X11_rings_0 hS1 _ e42) ok_X11_rings (by decide +kernel) rfl (fun r g1 hq => ?_)
                                                    rw [hq.1, hq.2]
                                                    show xW k S 103 19882 797 [some (.retAddr 5), some (.ref 0), some (.ref 60), some (.int l3)] [.int w42.1] w42.2
                                                    refine xb A [(.aload_n 2, 1, 0, 0, .null), (.aload_n 0, 1, 0, 0, .null), (.iload_n 3, 1, 0, 0, .null), (.iconst 1, 1, 0, 0, .int 1), (.iadd, 1, 0, 0, .null)] (pc' := 802) (ls' := [some (.retAddr 5), some (.ref 0), some (.ref 60), some (.int l3)]) (st' := [.int (l3 + 1), .retAddr 5, .ref 60, .int w42.1]) (g' := w42.2) (by decide +kernel) rfl ?_
                                                    obtain ⟨h106, H⟩ := xg_elim H
                                                    refine xsld A hX (nxt := 803) (by decide +kernel) h106 ?_
                                                    obtain ⟨w43, e43, H⟩ := xbind H
                                                    refine xcallV A (ix := 112) (nxt := 806) hrm hz [.int (xs (l3 + 1).toNatClampNeg)] [.int w42.1] 1937 (c_X12_rings_60 hS _ e43) ok_X12_rings (by decide +kernel) rfl (fun r g1 hq => ?_)
                                                    rw [hq.1, hq.2]
                                                    show xW k S 103 19882 806 [some (.retAddr 5), some (.ref 0), some (.ref 60), some (.int l3)] [.int w43.1, .int w42.1] w43.2
                                                    refine xic_eq A (518) 1324 809 (by decide +kernel) (fun h107 => ?_) (fun h107 => ?_)
                                                    · rw [if_pos h107] at H
                                                      refine xb A [(.iinc 3 6, 3, 0, 0, .null)] (pc' := 1327) (ls' := [some (.retAddr 5), some (.ref 0), some (.ref 60), some (.int (l3 + 6))]) (st' := []) (g' := w43.2) (by decide +kernel) rfl ?_
                                                      refine xgoto A (-1309) 18 (by decide +kernel) ?_
                                                      exact ih _ _ H
                                                    · rw [if_neg h107] at H
                                                      refine xb A [(.iconst 0, 1, 0, 0, .int 0)] (pc' := 810) (ls' := [some (.retAddr 5), some (.ref 0), some (.ref 60), some (.int l3)]) (st' := [.int 0]) (g' := w43.2) (by decide +kernel) rfl ?_
                                                      obtain rfl := Option.some.inj H
                                                      exact absurd ho (show ¬ ((0 : Int32) = 1) by decide)
                                                  · rw [if_neg h104] at H
                                                    by_cases h108 : ((xs l3.toNatClampNeg) &&& 63) = 23
                                                    · rw [if_pos h108] at H
                                                      refine xtabIn A (dflt := 1291) (lo := 0) (hi := 41) (off := 778) (offs := #[(183), (246), (269), (282), (295), (328), (361), (394), (427), (476), (499), (522), (535), (548), (581), (614), (627), (640), (653), (676), (699), (722), (755), (778), (801), (824), (847), (870), (893), (906), (919), (952), (985), (1018), (1041), (1084), (1133), (1146), (1189), (1222), (1245), (1268)]) (len := 183) (tgt := 811) (23) (by rw [h108]; rfl) (by decide +kernel) ?_
                                                      refine xb A [(.aload_n 1, 1, 0, 0, .null), (.aload_n 0, 1, 0, 0, .null), (.iload_n 3, 1, 0, 0, .null), (.iconst 1, 1, 0, 0, .int 1), (.iadd, 1, 0, 0, .null)] (pc' := 816) (ls' := [some (.retAddr 5), some (.ref 0), some (.ref 60), some (.int l3)]) (st' := [.int (l3 + 1), .retAddr 5, .ref 0]) (g' := g) (by decide +kernel) rfl ?_
                                                      obtain ⟨h109, H⟩ := xg_elim H
                                                      refine xsld A hX (nxt := 817) (by decide +kernel) h109 ?_
                                                      obtain ⟨w44, e44, H⟩ := xbind H
                                                      refine xcallV A (ix := 113) (nxt := 820) hrm hz [.int (xs (l3 + 1).toNatClampNeg)] [] 1174 (c_X11_walks_0 hS1 _ e44) ok_X11_walks (by decide +kernel) rfl (fun r g1 hq => ?_)
                                                      rw [hq.1, hq.2]
                                                      show xW k S 103 19882 820 [some (.retAddr 5), some (.ref 0), some (.ref 60), some (.int l3)] [.int w44] g
                                                      refine xb A [(.aload_n 2, 1, 0, 0, .null), (.aload_n 0, 1, 0, 0, .null), (.iload_n 3, 1, 0, 0, .null), (.iconst 1, 1, 0, 0, .int 1), (.iadd, 1, 0, 0, .null)] (pc' := 825) (ls' := [some (.retAddr 5), some (.ref 0), some (.ref 60), some (.int l3)]) (st' := [.int (l3 + 1), .retAddr 5, .ref 60, .int w44]) (g' := g) (by decide +kernel) rfl ?_
                                                      obtain ⟨h110, H⟩ := xg_elim H
                                                      refine xsld A hX (nxt := 826) (by decide +kernel) h110 ?_
                                                      obtain ⟨w45, e45, H⟩ := xbind H
                                                      refine xcallV A (ix := 116) (nxt := 829) hrm hz [.int (xs (l3 + 1).toNatClampNeg)] [.int w44] 1941 (c_X12_walks_60 hS _ e45) ok_X12_walks (by decide +kernel) rfl (fun r g1 hq => ?_)
                                                      rw [hq.1, hq.2]
                                                      show xW k S 103 19882 829 [some (.retAddr 5), some (.ref 0), some (.ref 60), some (.int l3)] [.int w45.1, .int w44] w45.2
                                                      refine xic_eq A (495) 1324 832 (by decide +kernel) (fun h111 => ?_) (fun h111 => ?_)
                                                      · rw [if_pos h111] at H
                                                        refine xb A [(.iinc 3 6, 3, 0, 0, .null)] (pc' := 1327) (ls' := [some (.retAddr 5), some (.ref 0), some (.ref 60), some (.int (l3 + 6))]) (st' := []) (g' := w45.2) (by decide +kernel) rfl ?_
                                                        refine xgoto A (-1309) 18 (by decide +kernel) ?_
                                                        exact ih _ _ H
                                                      · rw [if_neg h111] at H
                                                        refine xb A [(.iconst 0, 1, 0, 0, .int 0)] (pc' := 833) (ls' := [some (.retAddr 5), some (.ref 0), some (.ref 60), some (.int l3)]) (st' := [.int 0]) (g' := w45.2) (by decide +kernel) rfl ?_
                                                        obtain rfl := Option.some.inj H
                                                        exact absurd ho (show ¬ ((0 : Int32) = 1) by decide)
                                                    · rw [if_neg h108] at H
                                                      by_cases h112 : ((xs l3.toNatClampNeg) &&& 63) = 24
                                                      · rw [if_pos h112] at H
                                                        refine xtabIn A (dflt := 1291) (lo := 0) (hi := 41) (off := 801) (offs := #[(183), (246), (269), (282), (295), (328), (361), (394), (427), (476), (499), (522), (535), (548), (581), (614), (627), (640), (653), (676), (699), (722), (755), (778), (801), (824), (847), (870), (893), (906), (919), (952), (985), (1018), (1041), (1084), (1133), (1146), (1189), (1222), (1245), (1268)]) (len := 183) (tgt := 834) (24) (by rw [h112]; rfl) (by decide +kernel) ?_
                                                        refine xb A [(.aload_n 1, 1, 0, 0, .null), (.aload_n 0, 1, 0, 0, .null), (.iload_n 3, 1, 0, 0, .null), (.iconst 1, 1, 0, 0, .int 1), (.iadd, 1, 0, 0, .null)] (pc' := 839) (ls' := [some (.retAddr 5), some (.ref 0), some (.ref 60), some (.int l3)]) (st' := [.int (l3 + 1), .retAddr 5, .ref 0]) (g' := g) (by decide +kernel) rfl ?_
                                                        obtain ⟨h113, H⟩ := xg_elim H
                                                        refine xsld A hX (nxt := 840) (by decide +kernel) h113 ?_
                                                        obtain ⟨w46, e46, H⟩ := xbind H
                                                        refine xcallV A (ix := 117) (nxt := 843) hrm hz [.int (xs (l3 + 1).toNatClampNeg)] [] 1179 (c_X11_stranger_0 hS1 _ e46) ok_X11_stranger (by decide +kernel) rfl (fun r g1 hq => ?_)
                                                        rw [hq.1, hq.2]
                                                        show xW k S 103 19882 843 [some (.retAddr 5), some (.ref 0), some (.ref 60), some (.int l3)] [.int w46] g
                                                        refine xb A [(.aload_n 2, 1, 0, 0, .null), (.aload_n 0, 1, 0, 0, .null), (.iload_n 3, 1, 0, 0, .null), (.iconst 1, 1, 0, 0, .int 1), (.iadd, 1, 0, 0, .null)] (pc' := 848) (ls' := [some (.retAddr 5), some (.ref 0), some (.ref 60), some (.int l3)]) (st' := [.int (l3 + 1), .retAddr 5, .ref 60, .int w46]) (g' := g) (by decide +kernel) rfl ?_
                                                        obtain ⟨h114, H⟩ := xg_elim H
                                                        refine xsld A hX (nxt := 849) (by decide +kernel) h114 ?_
                                                        obtain ⟨w47, e47, H⟩ := xbind H
                                                        refine xcallV A (ix := 120) (nxt := 852) hrm hz [.int (xs (l3 + 1).toNatClampNeg)] [.int w46] 1945 (c_X12_stranger_60 hS _ e47) ok_X12_stranger (by decide +kernel) rfl (fun r g1 hq => ?_)
                                                        rw [hq.1, hq.2]
                                                        show xW k S 103 19882 852 [some (.retAddr 5), some (.ref 0), some (.ref 60), some (.int l3)] [.int w47.1, .int w46] w47.2
                                                        refine xic_eq A (472) 1324 855 (by decide +kernel) (fun h115 => ?_) (fun h115 => ?_)
                                                        · rw [if_pos h115] at H
                                                          refine xb A [(.iinc 3 6, 3, 0, 0, .null)] (pc' := 1327) (ls' := [some (.retAddr 5), some (.ref 0), some (.ref 60), some (.int (l3 + 6))]) (st' := []) (g' := w47.2) (by decide +kernel) rfl ?_
                                                          refine xgoto A (-1309) 18 (by decide +kernel) ?_
                                                          exact ih _ _ H
                                                        · rw [if_neg h115] at H
                                                          refine xb A [(.iconst 0, 1, 0, 0, .int 0)] (pc' := 856) (ls' := [some (.retAddr 5), some (.ref 0), some (.ref 60), some (.int l3)]) (st' := [.int 0]) (g' := w47.2) (by decide +kernel) rfl ?_
                                                          obtain rfl := Option.some.inj H
                                                          exact absurd ho (show ¬ ((0 : Int32) = 1) by decide)
                                                      · rw [if_neg h112] at H
                                                        by_cases h116 : ((xs l3.toNatClampNeg) &&& 63) = 25
                                                        · rw [if_pos h116] at H
                                                          refine xtabIn A (dflt := 1291) (lo := 0) (hi := 41) (off := 824) (offs := #[(183), (246), (269), (282), (295), (328), (361), (394), (427), (476), (499), (522), (535), (548), (581), (614), (627), (640), (653), (676), (699), (722), (755), (778), (801), (824), (847), (870), (893), (906), (919), (952), (985), (1018), (1041), (1084), (1133), (1146), (1189), (1222), (1245), (1268)]) (len := 183) (tgt := 857) (25) (by rw [h116]; rfl) (by decide +kernel) ?_
                                                          refine xb A [(.aload_n 1, 1, 0, 0, .null), (.aload_n 0, 1, 0, 0, .null), (.iload_n 3, 1, 0, 0, .null), (.iconst 1, 1, 0, 0, .int 1), (.iadd, 1, 0, 0, .null)] (pc' := 862) (ls' := [some (.retAddr 5), some (.ref 0), some (.ref 60), some (.int l3)]) (st' := [.int (l3 + 1), .retAddr 5, .ref 0]) (g' := g) (by decide +kernel) rfl ?_
                                                          obtain ⟨h117, H⟩ := xg_elim H
                                                          refine xsld A hX (nxt := 863) (by decide +kernel) h117 ?_
                                                          obtain ⟨w48, e48, H⟩ := xbind H
                                                          refine xcallV A (ix := 121) (nxt := 866) hrm hz [.int (xs (l3 + 1).toNatClampNeg)] [] 1187 (c_X11_clerks_0 hS1 _ e48) ok_X11_clerks (by decide +kernel) rfl (fun r g1 hq => ?_)
                                                          rw [hq.1, hq.2]
                                                          show xW k S 103 19882 866 [some (.retAddr 5), some (.ref 0), some (.ref 60), some (.int l3)] [.int w48] g
                                                          refine xb A [(.aload_n 2, 1, 0, 0, .null), (.aload_n 0, 1, 0, 0, .null), (.iload_n 3, 1, 0, 0, .null), (.iconst 1, 1, 0, 0, .int 1), (.iadd, 1, 0, 0, .null)] (pc' := 871) (ls' := [some (.retAddr 5), some (.ref 0), some (.ref 60), some (.int l3)]) (st' := [.int (l3 + 1), .retAddr 5, .ref 60, .int w48]) (g' := g) (by decide +kernel) rfl ?_
                                                          obtain ⟨h118, H⟩ := xg_elim H
                                                          refine xsld A hX (nxt := 872) (by decide +kernel) h118 ?_
                                                          obtain ⟨w49, e49, H⟩ := xbind H
                                                          refine xcallV A (ix := 124) (nxt := 875) hrm hz [.int (xs (l3 + 1).toNatClampNeg)] [.int w48] 1953 (c_X12_clerks_60 hS _ e49) ok_X12_clerks (by decide +kernel) rfl (fun r g1 hq => ?_)
                                                          rw [hq.1, hq.2]
                                                          show xW k S 103 19882 875 [some (.retAddr 5), some (.ref 0), some (.ref 60), some (.int l3)] [.int w49.1, .int w48] w49.2
                                                          refine xic_eq A (449) 1324 878 (by decide +kernel) (fun h119 => ?_) (fun h119 => ?_)
                                                          · rw [if_pos h119] at H
                                                            refine xb A [(.iinc 3 6, 3, 0, 0, .null)] (pc' := 1327) (ls' := [some (.retAddr 5), some (.ref 0), some (.ref 60), some (.int (l3 + 6))]) (st' := []) (g' := w49.2) (by decide +kernel) rfl ?_
                                                            refine xgoto A (-1309) 18 (by decide +kernel) ?_
                                                            exact ih _ _ H
                                                          · rw [if_neg h119] at H
                                                            refine xb A [(.iconst 0, 1, 0, 0, .int 0)] (pc' := 879) (ls' := [some (.retAddr 5), some (.ref 0), some (.ref 60), some (.int l3)]) (st' := [.int 0]) (g' := w49.2) (by decide +kernel) rfl ?_
                                                            obtain rfl := Option.some.inj H
                                                            exact absurd ho (show ¬ ((0 : Int32) = 1) by decide)
                                                        · rw [if_neg h116] at H
                                                          by_cases h120 : ((xs l3.toNatClampNeg) &&& 63) = 26
                                                          · rw [if_pos h120] at H
                                                            refine xtabIn A (dflt := 1291) (lo := 0) (hi := 41) (off := 847) (offs := #[(183), (246), (269), (282), (295), (328), (361), (394), (427), (476), (499), (522), (535), (548), (581), (614), (627), (640), (653), (676), (699), (722), (755), (778), (801), (824), (847), (870), (893), (906), (919), (952), (985), (1018), (1041), (1084), (1133), (1146), (1189), (1222), (1245), (1268)]) (len := 183) (tgt := 880) (26) (by rw [h120]; rfl) (by decide +kernel) ?_
                                                            refine xb A [(.aload_n 1, 1, 0, 0, .null), (.aload_n 0, 1, 0, 0, .null), (.iload_n 3, 1, 0, 0, .null), (.iconst 1, 1, 0, 0, .int 1), (.iadd, 1, 0, 0, .null)] (pc' := 885) (ls' := [some (.retAddr 5), some (.ref 0), some (.ref 60), some (.int l3)]) (st' := [.int (l3 + 1), .retAddr 5, .ref 0]) (g' := g) (by decide +kernel) rfl ?_
                                                            obtain ⟨h121, H⟩ := xg_elim H
                                                            refine xsld A hX (nxt := 886) (by decide +kernel) h121 ?_
                                                            obtain ⟨w50, e50, H⟩ := xbind H
                                                            refine xcallV A (ix := 125) (nxt := 889) hrm hz [.int (xs (l3 + 1).toNatClampNeg)] [] 1203 (c_X11_centre_0 hS1 _ e50) ok_X11_centre (by decide +kernel) rfl (fun r g1 hq => ?_)
                                                            rw [hq.1, hq.2]
                                                            show xW k S 103 19882 889 [some (.retAddr 5), some (.ref 0), some (.ref 60), some (.int l3)] [.int w50] g
                                                            refine xb A [(.aload_n 2, 1, 0, 0, .null), (.aload_n 0, 1, 0, 0, .null), (.iload_n 3, 1, 0, 0, .null), (.iconst 1, 1, 0, 0, .int 1), (.iadd, 1, 0, 0, .null)] (pc' := 894) (ls' := [some (.retAddr 5), some (.ref 0), some (.ref 60), some (.int l3)]) (st' := [.int (l3 + 1), .retAddr 5, .ref 60, .int w50]) (g' := g) (by decide +kernel) rfl ?_
                                                            obtain ⟨h122, H⟩ := xg_elim H
                                                            refine xsld A hX (nxt := 895) (by decide +kernel) h122 ?_
                                                            obtain ⟨w51, e51, H⟩ := xbind H
                                                            refine xcallV A (ix := 128) (nxt := 898) hrm hz [.int (xs (l3 + 1).toNatClampNeg)] [.int w50] 1957 (c_X12_centre_60 hS _ e51) ok_X12_centre (by decide +kernel) rfl (fun r g1 hq => ?_)
                                                            rw [hq.1, hq.2]
                                                            show xW k S 103 19882 898 [some (.retAddr 5), some (.ref 0), some (.ref 60), some (.int l3)] [.int w51.1, .int w50] w51.2
                                                            refine xic_eq A (426) 1324 901 (by decide +kernel) (fun h123 => ?_) (fun h123 => ?_)
                                                            · rw [if_pos h123] at H
                                                              refine xb A [(.iinc 3 6, 3, 0, 0, .null)] (pc' := 1327) (ls' := [some (.retAddr 5), some (.ref 0), some (.ref 60), some (.int (l3 + 6))]) (st' := []) (g' := w51.2) (by decide +kernel) rfl ?_
                                                              refine xgoto A (-1309) 18 (by decide +kernel) ?_
                                                              exact ih _ _ H
                                                            · rw [if_neg h123] at H
                                                              refine xb A [(.iconst 0, 1, 0, 0, .int 0)] (pc' := 902) (ls' := [some (.retAddr 5), some (.ref 0), some (.ref 60), some (.int l3)]) (st' := [.int 0]) (g' := w51.2) (by decide +kernel) rfl ?_
                                                              obtain rfl := Option.some.inj H
                                                              exact absurd ho (show ¬ ((0 : Int32) = 1) by decide)
                                                          · rw [if_neg h120] at H
                                                            by_cases h124 : ((xs l3.toNatClampNeg) &&& 63) = 27
                                                            · rw [if_pos h124] at H
                                                              refine xtabIn A (dflt := 1291) (lo := 0) (hi := 41) (off := 870) (offs := #[(183), (246), (269), (282), (295), (328), (361), (394), (427), (476), (499), (522), (535), (548), (581), (614), (627), (640), (653), (676), (699), (722), (755), (778), (801), (824), (847), (870), (893), (906), (919), (952), (985), (1018), (1041), (1084), (1133), (1146), (1189), (1222), (1245), (1268)]) (len := 183) (tgt := 903) (27) (by rw [h124]; rfl) (by decide +kernel) ?_
                                                              refine xb A [(.aload_n 1, 1, 0, 0, .null), (.aload_n 0, 1, 0, 0, .null), (.iload_n 3, 1, 0, 0, .null), (.iconst 1, 1, 0, 0, .int 1), (.iadd, 1, 0, 0, .null)] (pc' := 908) (ls' := [some (.retAddr 5), some (.ref 0), some (.ref 60), some (.int l3)]) (st' := [.int (l3 + 1), .retAddr 5, .ref 0]) (g' := g) (by decide +kernel) rfl ?_
                                                              obtain ⟨h125, H⟩ := xg_elim H
                                                              refine xsld A hX (nxt := 909) (by decide +kernel) h125 ?_
                                                              obtain ⟨w52, e52, H⟩ := xbind H
                                                              refine xcallV A (ix := 129) (nxt := 912) hrm hz [.int (xs (l3 + 1).toNatClampNeg)] [] 1217 (c_X11_meet_0 hS1 _ e52) ok_X11_meet (by decide +kernel) rfl (fun r g1 hq => ?_)
                                                              rw [hq.1, hq.2]
                                                              show xW k S 103 19882 912 [some (.retAddr 5), some (.ref 0), some (.ref 60), some (.int l3)] [.int w52] g
                                                              refine xb A [(.aload_n 2, 1, 0, 0, .null), (.aload_n 0, 1, 0, 0, .null), (.iload_n 3, 1, 0, 0, .null), (.iconst 1, 1, 0, 0, .int 1), (.iadd, 1, 0, 0, .null)] (pc' := 917) (ls' := [some (.retAddr 5), some (.ref 0), some (.ref 60), some (.int l3)]) (st' := [.int (l3 + 1), .retAddr 5, .ref 60, .int w52]) (g' := g) (by decide +kernel) rfl ?_
                                                              obtain ⟨h126, H⟩ := xg_elim H
                                                              refine xsld A hX (nxt := 918) (by decide +kernel) h126 ?_
                                                              obtain ⟨w53, e53, H⟩ := xbind H
                                                              refine xcallV A (ix := 132) (nxt := 921) hrm hz [.int (xs (l3 + 1).toNatClampNeg)] [.int w52] 1973 (c_X12_meet_60 hS _ e53) ok_X12_meet (by decide +kernel) rfl (fun r g1 hq => ?_)
                                                              rw [hq.1, hq.2]
                                                              show xW k S 103 19882 921 [some (.retAddr 5), some (.ref 0), some (.ref 60), some (.int l3)] [.int w53.1, .int w52] w53.2
                                                              refine xic_eq A (403) 1324 924 (by decide +kernel) (fun h127 => ?_) (fun h127 => ?_)
                                                              · rw [if_pos h127] at H
                                                                refine xb A [(.iinc 3 6, 3, 0, 0, .null)] (pc' := 1327) (ls' := [some (.retAddr 5), some (.ref 0), some (.ref 60), some (.int (l3 + 6))]) (st' := []) (g' := w53.2) (by decide +kernel) rfl ?_
                                                                refine xgoto A (-1309) 18 (by decide +kernel) ?_
                                                                exact ih _ _ H
                                                              · rw [if_neg h127] at H
                                                                refine xb A [(.iconst 0, 1, 0, 0, .int 0)] (pc' := 925) (ls' := [some (.retAddr 5), some (.ref 0), some (.ref 60), some (.int l3)]) (st' := [.int 0]) (g' := w53.2) (by decide +kernel) rfl ?_
                                                                obtain rfl := Option.some.inj H
                                                                exact absurd ho (show ¬ ((0 : Int32) = 1) by decide)
                                                            · rw [if_neg h124] at H
                                                              by_cases h128 : ((xs l3.toNatClampNeg) &&& 63) = 28
                                                              · rw [if_pos h128] at H
                                                                refine xtabIn A (dflt := 1291) (lo := 0) (hi := 41) (off := 893) (offs := #[(183), (246), (269), (282), (295), (328), (361), (394), (427), (476), (499), (522), (535), (548), (581), (614), (627), (640), (653), (676), (699), (722), (755), (778), (801), (824), (847), (870), (893), (906), (919), (952), (985), (1018), (1041), (1084), (1133), (1146), (1189), (1222), (1245), (1268)]) (len := 183) (tgt := 926) (28) (by rw [h128]; rfl) (by decide +kernel) ?_
                                                                refine xb A [(.aload_n 1, 1, 0, 0, .null)] (pc' := 927) (ls' := [some (.retAddr 5), some (.ref 0), some (.ref 60), some (.int l3)]) (st' := [.ref 0]) (g' := g) (by decide +kernel) rfl ?_
                                                                obtain ⟨w54, e54, H⟩ := xbind H
                                                                refine xcallV A (ix := 133) (nxt := 930) hrm hz [] [] 1232 (c_X11_tree_0 hS1 _ e54) ok_X11_tree (by decide +kernel) rfl (fun r g1 hq => ?_)
                                                                rw [hq.1, hq.2]
                                                                show xW k S 103 19882 930 [some (.retAddr 5), some (.ref 0), some (.ref 60), some (.int l3)] [.int w54] g
                                                                refine xb A [(.aload_n 2, 1, 0, 0, .null)] (pc' := 931) (ls' := [some (.retAddr 5), some (.ref 0), some (.ref 60), some (.int l3)]) (st' := [.ref 60, .int w54]) (g' := g) (by decide +kernel) rfl ?_
                                                                obtain ⟨w55, e55, H⟩ := xbind H
                                                                refine xcallV A (ix := 136) (nxt := 934) hrm hz [] [.int w54] 1977 (c_X12_tree_60 hS _ e55) ok_X12_tree (by decide +kernel) rfl (fun r g1 hq => ?_)
                                                                rw [hq.1, hq.2]
                                                                show xW k S 103 19882 934 [some (.retAddr 5), some (.ref 0), some (.ref 60), some (.int l3)] [.int w55.1, .int w54] w55.2
                                                                refine xic_eq A (390) 1324 937 (by decide +kernel) (fun h129 => ?_) (fun h129 => ?_)
                                                                · rw [if_pos h129] at H
                                                                  refine xb A [(.iinc 3 6, 3, 0, 0, .null)] (pc' := 1327) (ls' := [some (.retAddr 5), some (.ref 0), some (.ref 60), some (.int (l3 + 6))]) (st' := []) (g' := w55.2) (by decide +kernel) rfl ?_
                                                                  refine xgoto A (-1309) 18 (by decide +kernel) ?_
                                                                  exact ih _ _ H
                                                                · rw [if_neg h129] at H
                                                                  refine xb A [(.iconst 0, 1, 0, 0, .int 0)] (pc' := 938) (ls' := [some (.retAddr 5), some (.ref 0), some (.ref 60), some (.int l3)]) (st' := [.int 0]) (g' := w55.2) (by decide +kernel) rfl ?_
                                                                  obtain rfl := Option.some.inj H
                                                                  exact absurd ho (show ¬ ((0 : Int32) = 1) by decide)
                                                              · rw [if_neg h128] at H
                                                                by_cases h130 : ((xs l3.toNatClampNeg) &&& 63) = 29
                                                                · rw [if_pos h130] at H
                                                                  refine xtabIn A (dflt := 1291) (lo := 0) (hi := 41) (off := 906) (offs := #[(183), (246), (269), (282), (295), (328), (361), (394), (427), (476), (499), (522), (535), (548), (581), (614), (627), (640), (653), (676), (699), (722), (755), (778), (801), (824), (847), (870), (893), (906), (919), (952), (985), (1018), (1041), (1084), (1133), (1146), (1189), (1222), (1245), (1268)]) (len := 183) (tgt := 939) (29) (by rw [h130]; rfl) (by decide +kernel) ?_
                                                                  refine xb A [(.aload_n 1, 1, 0, 0, .null)] (pc' := 940) (ls' := [some (.retAddr 5), some (.ref 0), some (.ref 60), some (.int l3)]) (st' := [.ref 0]) (g' := g) (by decide +kernel) rfl ?_
                                                                  obtain ⟨w56, e56, H⟩ := xbind H
                                                                  refine xcallV A (ix := 137) (nxt := 943) hrm hz [] [] 1244 (c_X11_bridges_0 hS1 _ e56) ok_X11_bridges (by decide +kernel) rfl (fun r g1 hq => ?_)
                                                                  rw [hq.1, hq.2]
                                                                  show xW k S 103 19882 943 [some (.retAddr 5), some (.ref 0), some (.ref 60), some (.int l3)] [.int w56.1] w56.2
                                                                  refine xb A [(.aload_n 2, 1, 0, 0, .null)] (pc' := 944) (ls' := [some (.retAddr 5), some (.ref 0), some (.ref 60), some (.int l3)]) (st' := [.ref 60, .int w56.1]) (g' := w56.2) (by decide +kernel) rfl ?_
                                                                  obtain ⟨w57, e57, H⟩ := xbind H
                                                                  refine xcallV A (ix := 140) (nxt := 947) hrm hz [] [.int w56.1] 1981 (c_X12_bridges_60 hS _ e57) ok_X12_bridges (by decide +kernel) rfl (fun r g1 hq => ?_)
                                                                  rw [hq.1, hq.2]
                                                                  show xW k S 103 19882 947 [some (.retAddr 5), some (.ref 0), some (.ref 60), some (.int l3)] [.int w57.1, .int w56.1] w57.2
                                                                  refine xic_eq A (377) 1324 950 (by decide +kernel) (fun h131 => ?_) (fun h131 => ?_)
                                                                  · rw [if_pos h131] at H
                                                                    refine xb A [(.iinc 3 6, 3, 0, 0, .null)] (pc' := 1327) (ls' := [some (.retAddr 5), some (.ref 0), some (.ref 60), some (.int (l3 + 6))]) (st' := []) (g' := w57.2) (by decide +kernel) rfl ?_
                                                                    refine xgoto A (-1309) 18 (by decide +kernel) ?_
                                                                    exact ih _ _ H
                                                                  · rw [if_neg h131] at H
                                                                    refine xb A [(.iconst 0, 1, 0, 0, .int 0)] (pc' := 951) (ls' := [some (.retAddr 5), some (.ref 0), some (.ref 60), some (.int l3)]) (st' := [.int 0]) (g' := w57.2) (by decide +kernel) rfl ?_
                                                                    obtain rfl := Option.some.inj H
                                                                    exact absurd ho (show ¬ ((0 : Int32) = 1) by decide)
                                                                · rw [if_neg h130] at H
                                                                  by_cases h132 : ((xs l3.toNatClampNeg) &&& 63) = 30
                                                                  · rw [if_pos h132] at H
                                                                    refine xtabIn A (dflt := 1291) (lo := 0) (hi := 41) (off := 919) (offs := #[(183), (246), (269), (282), (295), (328), (361), (394), (427), (476), (499), (522), (535), (548), (581), (614), (627), (640), (653), (676), (699), (722), (755), (778), (801), (824), (847), (870), (893), (906), (919), (952), (985), (1018), (1041), (1084), (1133), (1146), (1189), (1222), (1245), (1268)]) (len := 183) (tgt := 952) (30) (by rw [h132]; rfl) (by decide +kernel) ?_
                                                                    refine xb A [(.aload_n 1, 1, 0, 0, .null), (.aload_n 0, 1, 0, 0, .null), (.iload_n 3, 1, 0, 0, .null), (.iconst 1, 1, 0, 0, .int 1), (.iadd, 1, 0, 0, .null)] (pc' := 957) (ls' := [some (.retAddr 5), some (.ref 0), some (.ref 60), some (.int l3)]) (st' := [.int (l3 + 1), .retAddr 5, .ref 0]) (g' := g) (by decide +kernel) rfl ?_
                                                                    obtain ⟨h133, H⟩ := xg_elim H
                                                                    refine xsld A hX (nxt := 958) (by decide +kernel) h133 ?_
                                                                    refine xb A [(.aload_n 0, 1, 0, 0, .null), (.iload_n 3, 1, 0, 0, .null), (.iconst 2, 1, 0, 0, .int 2), (.iadd, 1, 0, 0, .null)] (pc' := 962) (ls' := [some (.retAddr 5), some (.ref 0), some (.ref 60), some (.int l3)]) (st' := [.int (l3 + 2), .retAddr 5, .int (xs (l3 + 1).toNatClampNeg), .ref 0]) (g' := g) (by decide +kernel) rfl ?_
                                                                    obtain ⟨h134, H⟩ := xg_elim H
                                                                    refine xsld A hX (nxt := 963) (by decide +kernel) h134 ?_
                                                                    obtain ⟨w58, e58, H⟩ := xbind H
                                                                    refine xcallV A (ix := 141) (nxt := 966) hrm hz [.int (xs (l3 + 1).toNatClampNeg), .int (xs (l3 + 2).toNatClampNeg)] [] 1248 (c_X11_steps_0 hS1 _ e58) ok_X11_steps (by decide +kernel) rfl (fun r g1 hq => ?_)
                                                                    rw [hq.1, hq.2]
                                                                    show xW k S 103 19882 966 [some (.retAddr 5), some (.ref 0), some (.ref 60), some (.int l3)] [.int w58] g
                                                                    refine xb A [(.aload_n 2, 1, 0, 0, .null), (.aload_n 0, 1, 0, 0, .null), (.iload_n 3, 1, 0, 0, .null), (.iconst 1, 1, 0, 0, .int 1), (.iadd, 1, 0, 0, .null)] (pc' := 971) (ls' := [some (.retAddr 5), some (.ref 0), some (.ref 60), some (.int l3)]) (st' := [.int (l3 + 1), .retAddr 5, .ref 60, .int w58]) (g' := g) (by decide +kernel) rfl ?_
                                                                    obtain ⟨h135, H⟩ := xg_elim H
                                                                    refine xsld A hX (nxt := 972) (by decide +kernel) h135 ?_
                                                                    refine xb A [(.aload_n 0, 1, 0, 0, .null), (.iload_n 3, 1, 0, 0, .null), (.iconst 2, 1, 0, 0, .int 2), (.iadd, 1, 0, 0, .null)] (pc' := 976) (ls' := [some (.retAddr 5), some (.ref 0), some (.ref 60), some (.int l3)]) (st' := [.int (l3 + 2), .retAddr 5, .int (xs (l3 + 1).toNatClampNeg), .ref 60, .int w58]) (g' := g) (by decide +kernel) rfl ?_
                                                                    obtain ⟨h136, H⟩ := xg_elim H
                                                                    refine xsld A hX (nxt := 977) (by decide +kernel) h136 ?_
                                                                    obtain ⟨w59, e59, H⟩ := xbind H
                                                                    refine xcallV A (ix := 144) (nxt := 980) hrm hz [.int (xs (l3 + 1).toNatClampNeg), .int (xs (l3 + 2).toNatClampNeg)] [.int w58] 1985 (c_X12_steps_60 hS _ e59) ok_X12_steps (by decide +kernel) rfl (fun r g1 hq => ?_)
                                                                    rw [hq.1, hq.2]
                                                                    show xW k S 103 19882 980 [some (.retAddr 5), some (.ref 0), some (.ref 60), some (.int l3)] [.int w59.1, .int w58] w59.2
                                                                    refine xic_eq A (344) 1324 983 (by decide +kernel) (fun h137 => ?_) (fun h137 => ?_)
                                                                    · rw [if_pos h137] at H
                                                                      refine xb A [(.iinc 3 6, 3, 0, 0, .null)] (pc' := 1327) (ls' := [some (.retAddr 5), some (.ref 0), some (.ref 60), some (.int (l3 + 6))]) (st' := []) (g' := w59.2) (by decide +kernel) rfl ?_
                                                                      refine xgoto A (-1309) 18 (by decide +kernel) ?_
                                                                      exact ih _ _ H
                                                                    · rw [if_neg h137] at H
                                                                      refine xb A [(.iconst 0, 1, 0, 0, .int 0)] (pc' := 984) (ls' := [some (.retAddr 5), some (.ref 0), some (.ref 60), some (.int l3)]) (st' := [.int 0]) (g' := w59.2) (by decide +kernel) rfl ?_
                                                                      obtain rfl := Option.some.inj H
                                                                      exact absurd ho (show ¬ ((0 : Int32) = 1) by decide)
                                                                  · rw [if_neg h132] at H
                                                                    by_cases h138 : ((xs l3.toNatClampNeg) &&& 63) = 31
                                                                    · rw [if_pos h138] at H
                                                                      refine xtabIn A (dflt := 1291) (lo := 0) (hi := 41) (off := 952) (offs := #[(183), (246), (269), (282), (295), (328), (361), (394), (427), (476), (499), (522), (535), (548), (581), (614), (627), (640), (653), (676), (699), (722), (755), (778), (801), (824), (847), (870), (893), (906), (919), (952), (985), (1018), (1041), (1084), (1133), (1146), (1189), (1222), (1245), (1268)]) (len := 183) (tgt := 985) (31) (by rw [h138]; rfl) (by decide +kernel) ?_
                                                                      refine xb A [(.aload_n 1, 1, 0, 0, .null), (.aload_n 0, 1, 0, 0, .null), (.iload_n 3, 1, 0, 0, .null), (.iconst 1, 1, 0, 0, .int 1), (.iadd, 1, 0, 0, .null)] (pc' := 990) (ls' := [some (.retAddr 5), some (.ref 0), some (.ref 60), some (.int l3)]) (st' := [.int (l3 + 1), .retAddr 5, .ref 0]) (g' := g) (by decide +kernel) rfl ?_
                                                                      obtain ⟨h139, H⟩ := xg_elim H
                                                                      refine xsld A hX (nxt := 991) (by decide +kernel) h139 ?_
                                                                      refine xb A [(.aload_n 0, 1, 0, 0, .null), (.iload_n 3, 1, 0, 0, .null), (.iconst 2, 1, 0, 0, .int 2), (.iadd, 1, 0, 0, .null)] (pc' := 995) (ls' := [some (.retAddr 5), some (.ref 0), some (.ref 60), some (.int l3)]) (st' := [.int (l3 + 2), .retAddr 5, .int (xs (l3 + 1).toNatClampNeg), .ref 0]) (g' := g) (by decide +kernel) rfl ?_
                                                                      obtain ⟨h140, H⟩ := xg_elim H
                                                                      refine xsld A hX (nxt := 996) (by decide +kernel) h140 ?_
                                                                      obtain ⟨w60, e60, H⟩ := xbind H
                                                                      refine xcallV A (ix := 145) (nxt := 999) hrm hz [.int (xs (l3 + 1).toNatClampNeg), .int (xs (l3 + 2).toNatClampNeg)] [] 1253 (c_X11_then_0 hS1 _ e60) ok_X11_then (by decide +kernel) rfl (fun r g1 hq => ?_)
                                                                      rw [hq.1, hq.2]
                                                                      show xW k S 103 19882 999 [some (.retAddr 5), some (.ref 0), some (.ref 60), some (.int l3)] [.int w60.1] w60.2
                                                                      refine xb A [(.aload_n 2, 1, 0, 0, .null), (.aload_n 0, 1, 0, 0, .null), (.iload_n 3, 1, 0, 0, .null), (.iconst 1, 1, 0, 0, .int 1), (.iadd, 1, 0, 0, .null)] (pc' := 1004) (ls' := [some (.retAddr 5), some (.ref 0), some (.ref 60), some (.int l3)]) (st' := [.int (l3 + 1), .retAddr 5, .ref 60, .int w60.1]) (g' := w60.2) (by decide +kernel) rfl ?_
                                                                      obtain ⟨h141, H⟩ := xg_elim H
                                                                      refine xsld A hX (nxt := 1005) (by decide +kernel) h141 ?_
                                                                      refine xb A [(.aload_n 0, 1, 0, 0, .null), (.iload_n 3, 1, 0, 0, .null), (.iconst 2, 1, 0, 0, .int 2), (.iadd, 1, 0, 0, .null)] (pc' := 1009) (ls' := [some (.retAddr 5), some (.ref 0), some (.ref 60), some (.int l3)]) (st' := [.int (l3 + 2), .retAddr 5, .int (xs (l3 + 1).toNatClampNeg), .ref 60, .int w60.1]) (g' := w60.2) (by decide +kernel) rfl ?_
                                                                      obtain ⟨h142, H⟩ := xg_elim H
                                                                      refine xsld A hX (nxt := 1010) (by decide +kernel) h142 ?_
                                                                      obtain ⟨w61, e61, H⟩ := xbind H
                                                                      refine xcallV A (ix := 148) (nxt := 1013) hrm hz [.int (xs (l3 + 1).toNatClampNeg), .int (xs (l3 + 2).toNatClampNeg)] [.int w60.1] 1989 (c_X12_then_60 hS _ e61) ok_X12_then (by decide +kernel) rfl (fun r g1 hq => ?_)
                                                                      rw [hq.1, hq.2]
                                                                      show xW k S 103 19882 1013 [some (.retAddr 5), some (.ref 0), some (.ref 60), some (.int l3)] [.int w61.1, .int w60.1] w61.2
                                                                      refine xic_eq A (311) 1324 1016 (by decide +kernel) (fun h143 => ?_) (fun h143 => ?_)
                                                                      · rw [if_pos h143] at H
                                                                        refine xb A [(.iinc 3 6, 3, 0, 0, .null)] (pc' := 1327) (ls' := [some (.retAddr 5), some (.ref 0), some (.ref 60), some (.int (l3 + 6))]) (st' := []) (g' := w61.2) (by decide +kernel) rfl ?_
                                                                        refine xgoto A (-1309) 18 (by decide +kernel) ?_
                                                                        exact ih _ _ H
                                                                      · rw [if_neg h143] at H
                                                                        refine xb A [(.iconst 0, 1, 0, 0, .int 0)] (pc' := 1017) (ls' := [some (.retAddr 5), some (.ref 0), some (.ref 60), some (.int l3)]) (st' := [.int 0]) (g' := w61.2) (by decide +kernel) rfl ?_
                                                                        obtain rfl := Option.some.inj H
                                                                        exact absurd ho (show ¬ ((0 : Int32) = 1) by decide)
                                                                    · rw [if_neg h138] at H
                                                                      by_cases h144 : ((xs l3.toNatClampNeg) &&& 63) = 32
                                                                      · rw [if_pos h144] at H
                                                                        refine xtabIn A (dflt := 1291) (lo := 0) (hi := 41) (off := 985) (offs := #[(183), (246), (269), (282), (295), (328), (361), (394), (427), (476), (499), (522), (535), (548), (581), (614), (627), (640), (653), (676), (699), (722), (755), (778), (801), (824), (847), (870), (893), (906), (919), (952), (985), (1018), (1041), (1084), (1133), (1146), (1189), (1222), (1245), (1268)]) (len := 183) (tgt := 1018) (32) (by rw [h144]; rfl) (by decide +kernel) ?_
                                                                        refine xb A [(.aload_n 1, 1, 0, 0, .null), (.aload_n 0, 1, 0, 0, .null), (.iload_n 3, 1, 0, 0, .null), (.iconst 1, 1, 0, 0, .int 1), (.iadd, 1, 0, 0, .null)] (pc' := 1023) (ls' := [some (.retAddr 5), some (.ref 0), some (.ref 60), some (.int l3)]) (st' := [.int (l3 + 1), .retAddr 5, .ref 0]) (g' := g) (by decide +kernel) rfl ?_
                                                                        obtain ⟨h145, H⟩ := xg_elim H
                                                                        refine xsld A hX (nxt := 1024) (by decide +kernel) h145 ?_
                                                                        refine xb A [(.aload_n 0, 1, 0, 0, .null), (.iload_n 3, 1, 0, 0, .null), (.iconst 2, 1, 0, 0, .int 2), (.iadd, 1, 0, 0, .null)] (pc' := 1028) (ls' := [some (.retAddr 5), some (.ref 0), some (.ref 60), some (.int l3)]) (st' := [.int (l3 + 2), .retAddr 5, .int (xs (l3 + 1).toNatClampNeg), .ref 0]) (g' := g) (by decide +kernel) rfl ?_
                                                                        obtain ⟨h146, H⟩ := xg_elim H
                                                                        refine xsld A hX (nxt := 1029) (by decide +kernel) h146 ?_
                                                                        obtain ⟨w62, e62, H⟩ := xbind H
                                                                        refine xcallV A (ix := 149) (nxt := 1032) hrm hz [.int (xs (l3 + 1).toNatClampNeg), .int (xs (l3 + 2).toNatClampNeg)] [] 1261 (c_X11_rungIn_0 hS1 _ e62) ok_X11_rungIn (by decide +kernel) rfl (fun r g1 hq => ?_)
                                                                        rw [hq.1, hq.2]
                                                                        show xW k S 103 19882 1032 [some (.retAddr 5), some (.ref 0), some (.ref 60), some (.int l3)] [.int w62.1] w62.2
                                                                        refine xb A [(.aload_n 2, 1, 0, 0, .null), (.aload_n 0, 1, 0, 0, .null), (.iload_n 3, 1, 0, 0, .null), (.iconst 1, 1, 0, 0, .int 1), (.iadd, 1, 0, 0, .null)] (pc' := 1037) (ls' := [some (.retAddr 5), some (.ref 0), some (.ref 60), some (.int l3)]) (st' := [.int (l3 + 1), .retAddr 5, .ref 60, .int w62.1]) (g' := w62.2) (by decide +kernel) rfl ?_
                                                                        obtain ⟨h147, H⟩ := xg_elim H
                                                                        refine xsld A hX (nxt := 1038) (by decide +kernel) h147 ?_
                                                                        refine xb A [(.aload_n 0, 1, 0, 0, .null), (.iload_n 3, 1, 0, 0, .null), (.iconst 2, 1, 0, 0, .int 2), (.iadd, 1, 0, 0, .null)] (pc' := 1042) (ls' := [some (.retAddr 5), some (.ref 0), some (.ref 60), some (.int l3)]) (st' := [.int (l3 + 2), .retAddr 5, .int (xs (l3 + 1).toNatClampNeg), .ref 60, .int w62.1]) (g' := w62.2) (by decide +kernel) rfl ?_
                                                                        obtain ⟨h148, H⟩ := xg_elim H
                                                                        refine xsld A hX (nxt := 1043) (by decide +kernel) h148 ?_
                                                                        obtain ⟨w63, e63, H⟩ := xbind H
                                                                        refine xcallV A (ix := 152) (nxt := 1046) hrm hz [.int (xs (l3 + 1).toNatClampNeg), .int (xs (l3 + 2).toNatClampNeg)] [.int w62.1] 1993 (c_X12_rungIn_60 hS _ e63) ok_X12_rungIn (by decide +kernel) rfl (fun r g1 hq => ?_)
                                                                        rw [hq.1, hq.2]
                                                                        show xW k S 103 19882 1046 [some (.retAddr 5), some (.ref 0), some (.ref 60), some (.int l3)] [.int w63.1, .int w62.1] w63.2
                                                                        refine xic_eq A (278) 1324 1049 (by decide +kernel) (fun h149 => ?_) (fun h149 => ?_)
                                                                        · rw [if_pos h149] at H
                                                                          refine xb A [(.iinc 3 6, 3, 0, 0, .null)] (pc' := 1327) (ls' := [some (.retAddr 5), some (.ref 0), some (.ref 60), some (.int (l3 + 6))]) (st' := []) (g' := w63.2) (by decide +kernel) rfl ?_
                                                                          refine xgoto A (-1309) 18 (by decide +kernel) ?_
                                                                          exact ih _ _ H
                                                                        · rw [if_neg h149] at H
                                                                          refine xb A [(.iconst 0, 1, 0, 0, .int 0)] (pc' := 1050) (ls' := [some (.retAddr 5), some (.ref 0), some (.ref 60), some (.int l3)]) (st' := [.int 0]) (g' := w63.2) (by decide +kernel) rfl ?_
                                                                          obtain rfl := Option.some.inj H
                                                                          exact absurd ho (show ¬ ((0 : Int32) = 1) by decide)
                                                                      · rw [if_neg h144] at H
                                                                        by_cases h150 : ((xs l3.toNatClampNeg) &&& 63) = 33
                                                                        · rw [if_pos h150] at H
                                                                          refine xtabIn A (dflt := 1291) (lo := 0) (hi := 41) (off := 1018) (offs := #[(183), (246), (269), (282), (295), (328), (361), (394), (427), (476), (499), (522), (535), (548), (581), (614), (627), (640), (653), (676), (699), (722), (755), (778), (801), (824), (847), (870), (893), (906), (919), (952), (985), (1018), (1041), (1084), (1133), (1146), (1189), (1222), (1245), (1268)]) (len := 183) (tgt := 1051) (33) (by rw [h150]; rfl) (by decide +kernel) ?_
                                                                          refine xb A [(.aload_n 1, 1, 0, 0, .null), (.aload_n 0, 1, 0, 0, .null), (.iload_n 3, 1, 0, 0, .null), (.iconst 1, 1, 0, 0, .int 1), (.iadd, 1, 0, 0, .null)] (pc' := 1056) (ls' := [some (.retAddr 5), some (.ref 0), some (.ref 60), some (.int l3)]) (st' := [.int (l3 + 1), .retAddr 5, .ref 0]) (g' := g) (by decide +kernel) rfl ?_
                                                                          obtain ⟨h151, H⟩ := xg_elim H
                                                                          refine xsld A hX (nxt := 1057) (by decide +kernel) h151 ?_
                                                                          obtain ⟨w64, e64, H⟩ := xbind H
                                                                          refine xcallV A (ix := 153) (nxt := 1060) hrm hz [.int (xs (l3 + 1).toNatClampNeg)] [] 1265 (c_X11_barredIn_0 hS1 _ e64) ok_X11_barredIn (by decide +kernel) rfl (fun r g1 hq => ?_)
                                                                          rw [hq.1, hq.2]
                                                                          show xW k S 103 19882 1060 [some (.retAddr 5), some (.ref 0), some (.ref 60), some (.int l3)] [.int w64.1] w64.2
                                                                          refine xb A [(.aload_n 2, 1, 0, 0, .null), (.aload_n 0, 1, 0, 0, .null), (.iload_n 3, 1, 0, 0, .null), (.iconst 1, 1, 0, 0, .int 1), (.iadd, 1, 0, 0, .null)] (pc' := 1065) (ls' := [some (.retAddr 5), some (.ref 0), some (.ref 60), some (.int l3)]) (st' := [.int (l3 + 1), .retAddr 5, .ref 60, .int w64.1]) (g' := w64.2) (by decide +kernel) rfl ?_
                                                                          obtain ⟨h152, H⟩ := xg_elim H
                                                                          refine xsld A hX (nxt := 1066) (by decide +kernel) h152 ?_
                                                                          obtain ⟨w65, e65, H⟩ := xbind H
                                                                          refine xcallV A (ix := 156) (nxt := 1069) hrm hz [.int (xs (l3 + 1).toNatClampNeg)] [.int w64.1] 1997 (c_X12_barredIn_60 hS _ e65) ok_X12_barredIn (by decide +kernel) rfl (fun r g1 hq => ?_)
                                                                          rw [hq.1, hq.2]
                                                                          show xW k S 103 19882 1069 [some (.retAddr 5), some (.ref 0), some (.ref 60), some (.int l3)] [.int w65.1, .int w64.1] w65.2
                                                                          refine xic_eq A (255) 1324 1072 (by decide +kernel) (fun h153 => ?_) (fun h153 => ?_)
                                                                          · rw [if_pos h153] at H
                                                                            refine xb A [(.iinc 3 6, 3, 0, 0, .null)] (pc' := 1327) (ls' := [some (.retAddr 5), some (.ref 0), some (.ref 60), some (.int (l3 + 6))]) (st' := []) (g' := w65.2) (by decide +kernel) rfl ?_
                                                                            refine xgoto A (-1309) 18 (by decide +kernel) ?_
                                                                            exact ih _ _ H
                                                                          · rw [if_neg h153] at H
                                                                            refine xb A [(.iconst 0, 1, 0, 0, .int 0)] (pc' := 1073) (ls' := [some (.retAddr 5), some (.ref 0), some (.ref 60), some (.int l3)]) (st' := [.int 0]) (g' := w65.2) (by decide +kernel) rfl ?_
                                                                            obtain rfl := Option.some.inj H
                                                                            exact absurd ho (show ¬ ((0 : Int32) = 1) by decide)
                                                                        · rw [if_neg h150] at H
                                                                          by_cases h154 : ((xs l3.toNatClampNeg) &&& 63) = 34
                                                                          · rw [if_pos h154] at H
                                                                            refine xtabIn A (dflt := 1291) (lo := 0) (hi := 41) (off := 1041) (offs := #[(183), (246), (269), (282), (295), (328), (361), (394), (427), (476), (499), (522), (535), (548), (581), (614), (627), (640), (653), (676), (699), (722), (755), (778), (801), (824), (847), (870), (893), (906), (919), (952), (985), (1018), (1041), (1084), (1133), (1146), (1189), (1222), (1245), (1268)]) (len := 183) (tgt := 1074) (34) (by rw [h154]; rfl) (by decide +kernel) ?_
                                                                            refine xb A [(.aload_n 1, 1, 0, 0, .null), (.aload_n 0, 1, 0, 0, .null), (.iload_n 3, 1, 0, 0, .null), (.iconst 1, 1, 0, 0, .int 1), (.iadd, 1, 0, 0, .null)] (pc' := 1079) (ls' := [some (.retAddr 5), some (.ref 0), some (.ref 60), some (.int l3)]) (st' := [.int (l3 + 1), .retAddr 5, .ref 0]) (g' := g) (by decide +kernel) rfl ?_
                                                                            obtain ⟨h155, H⟩ := xg_elim H
                                                                            refine xsld A hX (nxt := 1080) (by decide +kernel) h155 ?_
                                                                            refine xb A [(.aload_n 0, 1, 0, 0, .null), (.iload_n 3, 1, 0, 0, .null), (.iconst 2, 1, 0, 0, .int 2), (.iadd, 1, 0, 0, .null)] (pc' := 1084) (ls' := [some (.retAddr 5), some (.ref 0), some (.ref 60), some (.int l3)]) (st' := [.int (l3 + 2), .retAddr 5, .int (xs (l3 + 1).toNatClampNeg), .ref 0]) (g' := g) (by decide +kernel) rfl ?_
                                                                            obtain ⟨h156, H⟩ := xg_elim H
                                                                            refine xsld A hX (nxt := 1085) (by decide +kernel) h156 ?_
                                                                            refine xb A [(.aload_n 0, 1, 0, 0, .null), (.iload_n 3, 1, 0, 0, .null), (.iconst 3, 1, 0, 0, .int 3), (.iadd, 1, 0, 0, .null)] (pc' := 1089) (ls' := [some (.retAddr 5), some (.ref 0), some (.ref 60), some (.int l3)]) (st' := [.int (l3 + 3), .retAddr 5, .int (xs (l3 + 2).toNatClampNeg), .int (xs (l3 + 1).toNatClampNeg), .ref 0]) (g' := g) (by decide +kernel) rfl ?_
                                                                            obtain ⟨h157, H⟩ := xg_elim H
                                                                            refine xsld A hX (nxt := 1090) (by decide +kernel) h157 ?_
                                                                            obtain ⟨w66, e66, H⟩ := xbind H
                                                                            refine xcallV A (ix := 157) (nxt := 1093) hrm hz [.int (xs (l3 + 1).toNatClampNeg), .int (xs (l3 + 2).toNatClampNeg), .int (xs (l3 + 3).toNatClampNeg)] [] 1269 (c_X11_year_0 hS1 _ e66) ok_X11_year (by decide +kernel) rfl (fun r g1 hq => ?_)
                                                                            rw [hq.1, hq.2]
                                                                            show xW k S 103 19882 1093 [some (.retAddr 5), some (.ref 0), some (.ref 60), some (.int l3)] [.int w66.1] w66.2
                                                                            refine xb A [(.aload_n 2, 1, 0, 0, .null), (.aload_n 0, 1, 0, 0, .null), (.iload_n 3, 1, 0, 0, .null), (.iconst 1, 1, 0, 0, .int 1), (.iadd, 1, 0, 0, .null)] (pc' := 1098) (ls' := [some (.retAddr 5), some (.ref 0), some (.ref 60), some (.int l3)]) (st' := [.int (l3 + 1), .retAddr 5, .ref 60, .int w66.1]) (g' := w66.2) (by decide +kernel) rfl ?_
                                                                            obtain ⟨h158, H⟩ := xg_elim H
                                                                            refine xsld A hX (nxt := 1099) (by decide +kernel) h158 ?_
                                                                            refine xb A [(.aload_n 0, 1, 0, 0, .null), (.iload_n 3, 1, 0, 0, .null), (.iconst 2, 1, 0, 0, .int 2), (.iadd, 1, 0, 0, .null)] (pc' := 1103) (ls' := [some (.retAddr 5), some (.ref 0), some (.ref 60), some (.int l3)]) (st' := [.int (l3 + 2), .retAddr 5, .int (xs (l3 + 1).toNatClampNeg), .ref 60, .int w66.1]) (g' := w66.2) (by decide +kernel) rfl ?_
                                                                            obtain ⟨h159, H⟩ := xg_elim H
                                                                            refine xsld A hX (nxt := 1104) (by decide +kernel) h159 ?_
                                                                            refine xb A [(.aload_n 0, 1, 0, 0, .null), (.iload_n 3, 1, 0, 0, .null), (.iconst 3, 1, 0, 0, .int 3), (.iadd, 1, 0, 0, .null)] (pc' := 1108) (ls' := [some (.retAddr 5), some (.ref 0), some (.ref 60), some (.int l3)]) (st' := [.int (l3 + 3), .retAddr 5, .int (xs (l3 + 2).toNatClampNeg), .int (xs (l3 + 1).toNatClampNeg), .ref 60, .int w66.1]) (g' := w66.2) (by decide +kernel) rfl ?_
                                                                            obtain ⟨h160, H⟩ := xg_elim H
                                                                            refine xsld A hX (nxt := 1109) (by decide +kernel) h160 ?_
                                                                            obtain ⟨w67, e67, H⟩ := xbind H
                                                                            refine xcallV A (ix := 161) (nxt := 1112) hrm hz [.int (xs (l3 + 1).toNatClampNeg), .int (xs (l3 + 2).toNatClampNeg), .int (xs (l3 + 3).toNatClampNeg)] [.int w66.1] 2005 (c_X12_year_60 hS _ e67) ok_X12_year (by decide +kernel) rfl (fun r g1 hq => ?_)
                                                                            rw [hq.1, hq.2]
                                                                            show xW k S 103 19882 1112 [some (.retAddr 5), some (.ref 0), some (.ref 60), some (.int l3)] [.int w67.1, .int w66.1] w67.2
                                                                            refine xic_eq A (212) 1324 1115 (by decide +kernel) (fun h161 => ?_) (fun h161 => ?_)
                                                                            · rw [if_pos h161] at H
                                                                              refine xb A [(.iinc 3 6, 3, 0, 0, .null)] (pc' := 1327) (ls' := [some (.retAddr 5), some (.ref 0), some (.ref 60), some (.int (l3 + 6))]) (st' := []) (g' := w67.2) (by decide +kernel) rfl ?_
                                                                              refine xgoto A (-1309) 18 (by decide +kernel) ?_
                                                                              exact ih _ _ H
                                                                            · rw [if_neg h161] at H
                                                                              refine xb A [(.iconst 0, 1, 0, 0, .int 0)] (pc' := 1116) (ls' := [some (.retAddr 5), some (.ref 0), some (.ref 60), some (.int l3)]) (st' := [.int 0]) (g' := w67.2) (by decide +kernel) rfl ?_
                                                                              obtain rfl := Option.some.inj H
                                                                              exact absurd ho (show ¬ ((0 : Int32) = 1) by decide)
                                                                          · rw [if_neg h154] at H
                                                                            by_cases h162 : ((xs l3.toNatClampNeg) &&& 63) = 35
                                                                            · rw [if_pos h162] at H
                                                                              refine xtabIn A (dflt := 1291) (lo := 0) (hi := 41) (off := 1084) (offs := #[(183), (246), (269), (282), (295), (328), (361), (394), (427), (476), (499), (522), (535), (548), (581), (614), (627), (640), (653), (676), (699), (722), (755), (778), (801), (824), (847), (870), (893), (906), (919), (952), (985), (1018), (1041), (1084), (1133), (1146), (1189), (1222), (1245), (1268)]) (len := 183) (tgt := 1117) (35) (by rw [h162]; rfl) (by decide +kernel) ?_
                                                                              refine xb A [(.aload_n 1, 1, 0, 0, .null), (.aload_n 0, 1, 0, 0, .null), (.iload_n 3, 1, 0, 0, .null), (.iconst 1, 1, 0, 0, .int 1), (.iadd, 1, 0, 0, .null)] (pc' := 1122) (ls' := [some (.retAddr 5), some (.ref 0), some (.ref 60), some (.int l3)]) (st' := [.int (l3 + 1), .retAddr 5, .ref 0]) (g' := g) (by decide +kernel) rfl ?_
                                                                              obtain ⟨h163, H⟩ := xg_elim H
                                                                              refine xsld A hX (nxt := 1123) (by decide +kernel) h163 ?_
                                                                              refine xb A [(.aload_n 0, 1, 0, 0, .null), (.iload_n 3, 1, 0, 0, .null), (.iconst 2, 1, 0, 0, .int 2), (.iadd, 1, 0, 0, .null)] (pc' := 1127) (ls' := [some (.retAddr 5), some (.ref 0), some (.ref 60), some (.int l3)]) (st' := [.int (l3 + 2), .retAddr 5, .int (xs (l3 + 1).toNatClampNeg), .ref 0]) (g' := g) (by decide +kernel) rfl ?_
                                                                              obtain ⟨h164, H⟩ := xg_elim H
                                                                              refine xsld A hX (nxt := 1128) (by decide +kernel) h164 ?_
                                                                              refine xif_eq A (7) 1135 1131 (by decide +kernel) (fun h165 => ?_) (fun h165 => ?_)
                                                                              · rw [if_pos h165] at H
                                                                                refine xb A [(.iconst 0, 1, 0, 0, .int 0)] (pc' := 1136) (ls' := [some (.retAddr 5), some (.ref 0), some (.ref 60), some (.int l3)]) (st' := [.int 0, .int (xs (l3 + 1).toNatClampNeg), .ref 0]) (g' := g) (by decide +kernel) rfl ?_
                                                                                exact t_law_1136 ho hS hS1 hX A hR hrm hz ih _ _ _ _ H
                                                                              · rw [if_neg h165] at H
                                                                                refine xb A [(.iconst 1, 1, 0, 0, .int 1)] (pc' := 1132) (ls' := [some (.retAddr 5), some (.ref 0), some (.ref 60), some (.int l3)]) (st' := [.int 1, .int (xs (l3 + 1).toNatClampNeg), .ref 0]) (g' := g) (by decide +kernel) rfl ?_
                                                                                refine xgoto A (4) 1136 (by decide +kernel) ?_
                                                                                exact t_law_1136 ho hS hS1 hX A hR hrm hz ih _ _ _ _ H
                                                                            · rw [if_neg h162] at H
                                                                              by_cases h171 : ((xs l3.toNatClampNeg) &&& 63) = 36
                                                                              · rw [if_pos h171] at H
                                                                                refine xtabIn A (dflt := 1291) (lo := 0) (hi := 41) (off := 1133) (offs := #[(183), (246), (269), (282), (295), (328), (361), (394), (427), (476), (499), (522), (535), (548), (581), (614), (627), (640), (653), (676), (699), (722), (755), (778), (801), (824), (847), (870), (893), (906), (919), (952), (985), (1018), (1041), (1084), (1133), (1146), (1189), (1222), (1245), (1268)]) (len := 183) (tgt := 1166) (36) (by rw [h171]; rfl) (by decide +kernel) ?_
                                                                                refine xb A [(.aload_n 1, 1, 0, 0, .null)] (pc' := 1167) (ls' := [some (.retAddr 5), some (.ref 0), some (.ref 60), some (.int l3)]) (st' := [.ref 0]) (g' := g) (by decide +kernel) rfl ?_
                                                                                obtain ⟨w71, e71, H⟩ := xl_elim H
                                                                                refine xcallV A (ix := 167) (nxt := 1170) hrm hz [] [] 1282 (c_X11_forget_0 hS1 _ e71) ok_X11_forget (by decide +kernel) rfl (fun r g1 hq => ?_)
                                                                                rw [hq.1, hq.2]
                                                                                show xW k S 103 19882 1170 [some (.retAddr 5), some (.ref 0), some (.ref 60), some (.int l3)] [.int w71.1] w71.2
                                                                                refine xb A [(.aload_n 2, 1, 0, 0, .null)] (pc' := 1171) (ls' := [some (.retAddr 5), some (.ref 0), some (.ref 60), some (.int l3)]) (st' := [.ref 60, .int w71.1]) (g' := w71.2) (by decide +kernel) rfl ?_
                                                                                obtain ⟨w72, e72, H⟩ := xl_elim H
                                                                                refine xcallV A (ix := 170) (nxt := 1174) hrm hz [] [.int w71.1] 2016 (c_X12_forget_60 hS _ e72) ok_X12_forget (by decide +kernel) rfl (fun r g1 hq => ?_)
                                                                                rw [hq.1, hq.2]
                                                                                show xW k S 103 19882 1174 [some (.retAddr 5), some (.ref 0), some (.ref 60), some (.int l3)] [.int w72.1, .int w71.1] w72.2
                                                                                refine xic_eq A (150) 1324 1177 (by decide +kernel) (fun h172 => ?_) (fun h172 => ?_)
                                                                                · rw [if_pos h172] at H
                                                                                  refine xb A [(.iinc 3 6, 3, 0, 0, .null)] (pc' := 1327) (ls' := [some (.retAddr 5), some (.ref 0), some (.ref 60), some (.int (l3 + 6))]) (st' := []) (g' := w72.2) (by decide +kernel) rfl ?_
                                                                                  refine xgoto A (-1309) 18 (by decide +kernel) ?_
                                                                                  exact ih _ _ H
                                                                                · rw [if_neg h172] at H
                                                                                  refine xb A [(.iconst 0, 1, 0, 0, .int 0)] (pc' := 1178) (ls' := [some (.retAddr 5), some (.ref 0), some (.ref 60), some (.int l3)]) (st' := [.int 0]) (g' := w72.2) (by decide +kernel) rfl ?_
                                                                                  obtain rfl := Option.some.inj H
                                                                                  exact absurd ho (show ¬ ((0 : Int32) = 1) by decide)
                                                                              · rw [if_neg h171] at H
                                                                                by_cases h173 : ((xs l3.toNatClampNeg) &&& 63) = 37
                                                                                · rw [if_pos h173] at H
                                                                                  refine xtabIn A (dflt := 1291) (lo := 0) (hi := 41) (off := 1146) (offs := #[(183), (246), (269), (282), (295), (328), (361), (394), (427), (476), (499), (522), (535), (548), (581), (614), (627), (640), (653), (676), (699), (722), (755), (778), (801), (824), (847), (870), (893), (906), (919), (952), (985), (1018), (1041), (1084), (1133), (1146), (1189), (1222), (1245), (1268)]) (len := 183) (tgt := 1179) (37) (by rw [h173]; rfl) (by decide +kernel) ?_
                                                                                  refine xb A [(.aload_n 1, 1, 0, 0, .null), (.aload_n 0, 1, 0, 0, .null), (.iload_n 3, 1, 0, 0, .null), (.iconst 1, 1, 0, 0, .int 1), (.iadd, 1, 0, 0, .null)] (pc' := 1184) (ls' := [some (.retAddr 5), some (.ref 0), some (.ref 60), some (.int l3)]) (st' := [.int (l3 + 1), .retAddr 5, .ref 0]) (g' := g) (by decide +kernel) rfl ?_
                                                                                  obtain ⟨h174, H⟩ := xg_elim H
                                                                                  refine xsld A hX (nxt := 1185) (by decide +kernel) h174 ?_
                                                                                  refine xb A [(.aload_n 0, 1, 0, 0, .null), (.iload_n 3, 1, 0, 0, .null), (.iconst 2, 1, 0, 0, .int 2), (.iadd, 1, 0, 0, .null)] (pc' := 1189) (ls' := [some (.retAddr 5), some (.ref 0), some (.ref 60), some (.int l3)]) (st' := [.int (l3 + 2), .retAddr 5, .int (xs (l3 + 1).toNatClampNeg), .ref 0]) (g' := g) (by decide +kernel) rfl ?_
                                                                                  obtain ⟨h175, H⟩ := xg_elim H
                                                                                  refine xsld A hX (nxt := 1190) (by decide +kernel) h175 ?_
                                                                                  refine xb A [(.aload_n 0, 1, 0, 0, .null), (.iload_n 3, 1, 0, 0, .null), (.iconst 3, 1, 0, 0, .int 3), (.iadd, 1, 0, 0, .null)] (pc' := 1194) (ls' := [some (.retAddr 5), some (.ref 0), some (.ref 60), some (.int l3)]) (st' := [.int (l3 + 3), .retAddr 5, .int (xs (l3 + 2).toNatClampNeg), .int (xs (l3 + 1).toNatClampNeg), .ref 0]) (g' := g) (by decide +kernel) rfl ?_
                                                                                  obtain ⟨h176, H⟩ := xg_elim H
                                                                                  refine xsld A hX (nxt := 1195) (by decide +kernel) h176 ?_
                                                                                  obtain ⟨w73, e73, H⟩ := xbind H
                                                                                  refine xcallV A (ix := 171) (nxt := 1198) hrm hz [.int (xs (l3 + 1).toNatClampNeg), .int (xs (l3 + 2).toNatClampNeg), .int (xs (l3 + 3).toNatClampNeg)] [] 1290 (c_X11_whence_0 hS1 _ e73) ok_X11_whence (by decide +kernel) rfl (fun r g1 hq => ?_)
                                                                                  rw [hq.1, hq.2]
                                                                                  show xW k S 103 19882 1198 [some (.retAddr 5), some (.ref 0), some (.ref 60), some (.int l3)] [.int w73.1] w73.2
                                                                                  refine xb A [(.aload_n 2, 1, 0, 0, .null), (.aload_n 0, 1, 0, 0, .null), (.iload_n 3, 1, 0, 0, .null), (.iconst 1, 1, 0, 0, .int 1), (.iadd, 1, 0, 0, .null)] (pc' := 1203) (ls' := [some (.retAddr 5), some (.ref 0), some (.ref 60), some (.int l3)]) (st' := [.int (l3 + 1), .retAddr 5, .ref 60, .int w73.1]) (g' := w73.2) (by decide +kernel) rfl ?_
                                                                                  obtain ⟨h177, H⟩ := xg_elim H
                                                                                  refine xsld A hX (nxt := 1204) (by decide +kernel) h177 ?_
                                                                                  refine xb A [(.aload_n 0, 1, 0, 0, .null), (.iload_n 3, 1, 0, 0, .null), (.iconst 2, 1, 0, 0, .int 2), (.iadd, 1, 0, 0, .null)] (pc' := 1208) (ls' := [some (.retAddr 5), some (.ref 0), some (.ref 60), some (.int l3)]) (st' := [.int (l3 + 2), .retAddr 5, .int (xs (l3 + 1).toNatClampNeg), .ref 60, .int w73.1]) (g' := w73.2) (by decide +kernel) rfl ?_
                                                                                  obtain ⟨h178, H⟩ := xg_elim H
                                                                                  refine xsld A hX (nxt := 1209) (by decide +kernel) h178 ?_
                                                                                  refine xb A [(.aload_n 0, 1, 0, 0, .null), (.iload_n 3, 1, 0, 0, .null), (.iconst 3, 1, 0, 0, .int 3), (.iadd, 1, 0, 0, .null)] (pc' := 1213) (ls' := [some (.retAddr 5), some (.ref 0), some (.ref 60), some (.int l3)]) (st' := [.int (l3 + 3), .retAddr 5, .int (xs (l3 + 2).toNatClampNeg), .int (xs (l3 + 1).toNatClampNeg), .ref 60, .int w73.1]) (g' := w73.2) (by decide +kernel) rfl ?_
                                                                                  obtain ⟨h179, H⟩ := xg_elim H
                                                                                  refine xsld A hX (nxt := 1214) (by decide +kernel) h179 ?_
                                                                                  obtain ⟨w74, e74, H⟩ := xbind H
                                                                                  refine xcallV A (ix := 174) (nxt := 1217) hrm hz [.int (xs (l3 + 1).toNatClampNeg), .int (xs (l3 + 2).toNatClampNeg), .int (xs (l3 + 3).toNatClampNeg)] [.int w73.1] 2020 (c_X12_whence_60 hS _ e74) ok_X12_whence (by decide +kernel) rfl (fun r g1 hq => ?_)
                                                                                  rw [hq.1, hq.2]
                                                                                  show xW k S 103 19882 1217 [some (.retAddr 5), some (.ref 0), some (.ref 60), some (.int l3)] [.int w74.1, .int w73.1] w74.2
                                                                                  refine xic_eq A (107) 1324 1220 (by decide +kernel) (fun h180 => ?_) (fun h180 => ?_)
                                                                                  · rw [if_pos h180] at H
                                                                                    refine xb A [(.iinc 3 6, 3, 0, 0, .null)] (pc' := 1327) (ls' := [some (.retAddr 5), some (.ref 0), some (.ref 60), some (.int (l3 + 6))]) (st' := []) (g' := w74.2) (by decide +kernel) rfl ?_
                                                                                    refine xgoto A (-1309) 18 (by decide +kernel) ?_
                                                                                    exact ih _ _ H
                                                                                  · rw [if_neg h180] at H
                                                                                    refine xb A [(.iconst 0, 1, 0, 0, .int 0)] (pc' := 1221) (ls' := [some (.retAddr 5), some (.ref 0), some (.ref 60), some (.int l3)]) (st' := [.int 0]) (g' := w74.2) (by decide +kernel) rfl ?_
                                                                                    obtain rfl := Option.some.inj H
                                                                                    exact absurd ho (show ¬ ((0 : Int32) = 1) by decide)
                                                                                · rw [if_neg h173] at H
                                                                                  by_cases h181 : ((xs l3.toNatClampNeg) &&& 63) = 38
                                                                                  · rw [if_pos h181] at H
                                                                                    refine xtabIn A (dflt := 1291) (lo := 0) (hi := 41) (off := 1189) (offs := #[(183), (246), (269), (282), (295), (328), (361), (394), (427), (476), (499), (522), (535), (548), (581), (614), (627), (640), (653), (676), (699), (722), (755), (778), (801), (824), (847), (870), (893), (906), (919), (952), (985), (1018), (1041), (1084), (1133), (1146), (1189), (1222), (1245), (1268)]) (len := 183) (tgt := 1222) (38) (by rw [h181]; rfl) (by decide +kernel) ?_
                                                                                    refine xb A [(.aload_n 1, 1, 0, 0, .null), (.aload_n 0, 1, 0, 0, .null), (.iload_n 3, 1, 0, 0, .null), (.iconst 1, 1, 0, 0, .int 1), (.iadd, 1, 0, 0, .null)] (pc' := 1227) (ls' := [some (.retAddr 5), some (.ref 0), some (.ref 60), some (.int l3)]) (st' := [.int (l3 + 1), .retAddr 5, .ref 0]) (g' := g) (by decide +kernel) rfl ?_
                                                                                    obtain ⟨h182, H⟩ := xg_elim H
                                                                                    refine xsld A hX (nxt := 1228) (by decide +kernel) h182 ?_
                                                                                    refine xb A [(.aload_n 0, 1, 0, 0, .null), (.iload_n 3, 1, 0, 0, .null), (.iconst 2, 1, 0, 0, .int 2), (.iadd, 1, 0, 0, .null)] (pc' := 1232) (ls' := [some (.retAddr 5), some (.ref 0), some (.ref 60), some (.int l3)]) (st' := [.int (l3 + 2), .retAddr 5, .int (xs (l3 + 1).toNatClampNeg), .ref 0]) (g' := g) (by decide +kernel) rfl ?_
                                                                                    obtain ⟨h183, H⟩ := xg_elim H
                                                                                    refine xsld A hX (nxt := 1233) (by decide +kernel) h183 ?_
                                                                                    obtain ⟨w75, e75, H⟩ := xbind H
                                                                                    refine xcallV A (ix := 175) (nxt := 1236) hrm hz [.int (xs (l3 + 1).toNatClampNeg), .int (xs (l3 + 2).toNatClampNeg)] [] 1310 (c_X11_listen_0 hS1 _ e75) ok_X11_listen (by decide +kernel) rfl (fun r g1 hq => ?_)
                                                                                    rw [hq.1, hq.2]
                                                                                    show xW k S 103 19882 1236 [some (.retAddr 5), some (.ref 0), some (.ref 60), some (.int l3)] [.int w75.1] w75.2
                                                                                    refine xb A [(.aload_n 2, 1, 0, 0, .null), (.aload_n 0, 1, 0, 0, .null), (.iload_n 3, 1, 0, 0, .null), (.iconst 1, 1, 0, 0, .int 1), (.iadd, 1, 0, 0, .null)] (pc' := 1241) (ls' := [some (.retAddr 5), some (.ref 0), some (.ref 60), some (.int l3)]) (st' := [.int (l3 + 1), .retAddr 5, .ref 60, .int w75.1]) (g' := w75.2) (by decide +kernel) rfl ?_
                                                                                    obtain ⟨h184, H⟩ := xg_elim H
                                                                                    refine xsld A hX (nxt := 1242) (by decide +kernel) h184 ?_
                                                                                    refine xb A [(.aload_n 0, 1, 0, 0, .null), (.iload_n 3, 1, 0, 0, .null), (.iconst 2, 1, 0, 0, .int 2), (.iadd, 1, 0, 0, .null)] (pc' := 1246) (ls' := [some (.retAddr 5), some (.ref 0), some (.ref 60), some (.int l3)]) (st' := [.int (l3 + 2), .retAddr 5, .int (xs (l3 + 1).toNatClampNeg), .ref 60, .int w75.1]) (g' := w75.2) (by decide +kernel) rfl ?_
                                                                                    obtain ⟨h185, H⟩ := xg_elim H
                                                                                    refine xsld A hX (nxt := 1247) (by decide +kernel) h185 ?_
                                                                                    obtain ⟨w76, e76, H⟩ := xbind H
                                                                                    refine xcallV A (ix := 178) (nxt := 1250) hrm hz [.int (xs (l3 + 1).toNatClampNeg), .int (xs (l3 + 2).toNatClampNeg)] [.int w75.1] 2028 (c_X12_listen_60 hS _ e76) ok_X12_listen (by decide +kernel) rfl (fun r g1 hq => ?_)
                                                                                    rw [hq.1, hq.2]
                                                                                    show xW k S 103 19882 1250 [some (.retAddr 5), some (.ref 0), some (.ref 60), some (.int l3)] [.int w76.1, .int w75.1] w76.2
                                                                                    refine xic_eq A (74) 1324 1253 (by decide +kernel) (fun h186 => ?_) (fun h186 => ?_)
                                                                                    · rw [if_pos h186] at H
                                                                                      refine xb A [(.iinc 3 6, 3, 0, 0, .null)] (pc' := 1327) (ls' := [some (.retAddr 5), some (.ref 0), some (.ref 60), some (.int (l3 + 6))]) (st' := []) (g' := w76.2) (by decide +kernel) rfl ?_
                                                                                      refine xgoto A (-1309) 18 (by decide +kernel) ?_
                                                                                      exact ih _ _ H
                                                                                    · rw [if_neg h186] at H
                                                                                      refine xb A [(.iconst 0, 1, 0, 0, .int 0)] (pc' := 1254) (ls' := [some (.retAddr 5), some (.ref 0), some (.ref 60), some (.int l3)]) (st' := [.int 0]) (g' := w76.2) (by decide +kernel) rfl ?_
                                                                                      obtain rfl := Option.some.inj H
                                                                                      exact absurd ho (show ¬ ((0 : Int32) = 1) by decide)
                                                                                  · rw [if_neg h181] at H
                                                                                    by_cases h187 : ((xs l3.toNatClampNeg) &&& 63) = 39
                                                                                    · rw [if_pos h187] at H
                                                                                      refine xtabIn A (dflt := 1291) (lo := 0) (hi := 41) (off := 1222) (offs := #[(183), (246), (269), (282), (295), (328), (361), (394), (427), (476), (499), (522), (535), (548), (581), (614), (627), (640), (653), (676), (699), (722), (755), (778), (801), (824), (847), (870), (893), (906), (919), (952), (985), (1018), (1041), (1084), (1133), (1146), (1189), (1222), (1245), (1268)]) (len := 183) (tgt := 1255) (39) (by rw [h187]; rfl) (by decide +kernel) ?_
                                                                                      refine xb A [(.aload_n 1, 1, 0, 0, .null), (.aload_n 0, 1, 0, 0, .null), (.iload_n 3, 1, 0, 0, .null), (.iconst 1, 1, 0, 0, .int 1), (.iadd, 1, 0, 0, .null)] (pc' := 1260) (ls' := [some (.retAddr 5), some (.ref 0), some (.ref 60), some (.int l3)]) (st' := [.int (l3 + 1), .retAddr 5, .ref 0]) (g' := g) (by decide +kernel) rfl ?_
                                                                                      obtain ⟨h188, H⟩ := xg_elim H
                                                                                      refine xsld A hX (nxt := 1261) (by decide +kernel) h188 ?_
                                                                                      obtain ⟨w77, e77, H⟩ := xbind H
                                                                                      refine xcallV A (ix := 179) (nxt := 1264) hrm hz [.int (xs (l3 + 1).toNatClampNeg)] [] 1324 (c_X11_hold_0 hS1 _ e77) ok_X11_hold (by decide +kernel) rfl (fun r g1 hq => ?_)
                                                                                      rw [hq.1, hq.2]
                                                                                      show xW k S 103 19882 1264 [some (.retAddr 5), some (.ref 0), some (.ref 60), some (.int l3)] [.int w77.1] w77.2
                                                                                      refine xb A [(.aload_n 2, 1, 0, 0, .null), (.aload_n 0, 1, 0, 0, .null), (.iload_n 3, 1, 0, 0, .null), (.iconst 1, 1, 0, 0, .int 1), (.iadd, 1, 0, 0, .null)] (pc' := 1269) (ls' := [some (.retAddr 5), some (.ref 0), some (.ref 60), some (.int l3)]) (st' := [.int (l3 + 1), .retAddr 5, .ref 60, .int w77.1]) (g' := w77.2) (by decide +kernel) rfl ?_
                                                                                      obtain ⟨h189, H⟩ := xg_elim H
                                                                                      refine xsld A hX (nxt := 1270) (by decide +kernel) h189 ?_
                                                                                      obtain ⟨w78, e78, H⟩ := xbind H
                                                                                      refine xcallV A (ix := 182) (nxt := 1273) hrm hz [.int (xs (l3 + 1).toNatClampNeg)] [.int w77.1] 2032 (c_X12_hold_60 hS _ e78) ok_X12_hold (by decide +kernel) rfl (fun r g1 hq => ?_)
                                                                                      rw [hq.1, hq.2]
                                                                                      show xW k S 103 19882 1273 [some (.retAddr 5), some (.ref 0), some (.ref 60), some (.int l3)] [.int w78.1, .int w77.1] w78.2
                                                                                      refine xic_eq A (51) 1324 1276 (by decide +kernel) (fun h190 => ?_) (fun h190 => ?_)
                                                                                      · rw [if_pos h190] at H
                                                                                        refine xb A [(.iinc 3 6, 3, 0, 0, .null)] (pc' := 1327) (ls' := [some (.retAddr 5), some (.ref 0), some (.ref 60), some (.int (l3 + 6))]) (st' := []) (g' := w78.2) (by decide +kernel) rfl ?_
                                                                                        refine xgoto A (-1309) 18 (by decide +kernel) ?_
                                                                                        exact ih _ _ H
                                                                                      · rw [if_neg h190] at H
                                                                                        refine xb A [(.iconst 0, 1, 0, 0, .int 0)] (pc' := 1277) (ls' := [some (.retAddr 5), some (.ref 0), some (.ref 60), some (.int l3)]) (st' := [.int 0]) (g' := w78.2) (by decide +kernel) rfl ?_
                                                                                        obtain rfl := Option.some.inj H
                                                                                        exact absurd ho (show ¬ ((0 : Int32) = 1) by decide)
                                                                                    · rw [if_neg h187] at H
                                                                                      by_cases h191 : ((xs l3.toNatClampNeg) &&& 63) = 40
                                                                                      · rw [if_pos h191] at H
                                                                                        refine xtabIn A (dflt := 1291) (lo := 0) (hi := 41) (off := 1245) (offs := #[(183), (246), (269), (282), (295), (328), (361), (394), (427), (476), (499), (522), (535), (548), (581), (614), (627), (640), (653), (676), (699), (722), (755), (778), (801), (824), (847), (870), (893), (906), (919), (952), (985), (1018), (1041), (1084), (1133), (1146), (1189), (1222), (1245), (1268)]) (len := 183) (tgt := 1278) (40) (by rw [h191]; rfl) (by decide +kernel) ?_
                                                                                        refine xb A [(.aload_n 1, 1, 0, 0, .null), (.aload_n 0, 1, 0, 0, .null), (.iload_n 3, 1, 0, 0, .null), (.iconst 1, 1, 0, 0, .int 1), (.iadd, 1, 0, 0, .null)] (pc' := 1283) (ls' := [some (.retAddr 5), some (.ref 0), some (.ref 60), some (.int l3)]) (st' := [.int (l3 + 1), .retAddr 5, .ref 0]) (g' := g) (by decide +kernel) rfl ?_
                                                                                        obtain ⟨h192, H⟩ := xg_elim H
                                                                                        refine xsld A hX (nxt := 1284) (by decide +kernel) h192 ?_
                                                                                        obtain ⟨w79, e79, H⟩ := xbind H
                                                                                        refine xcallV A (ix := 183) (nxt := 1287) hrm hz [.int (xs (l3 + 1).toNatClampNeg)] [] 1331 (c_X11_restore_0 hS1 _ e79) ok_X11_restore (by decide +kernel) rfl (fun r g1 hq => ?_)
                                                                                        rw [hq.1, hq.2]
                                                                                        show xW k S 103 19882 1287 [some (.retAddr 5), some (.ref 0), some (.ref 60), some (.int l3)] [.int w79.1] w79.2
                                                                                        refine xb A [(.aload_n 2, 1, 0, 0, .null), (.aload_n 0, 1, 0, 0, .null), (.iload_n 3, 1, 0, 0, .null), (.iconst 1, 1, 0, 0, .int 1), (.iadd, 1, 0, 0, .null)] (pc' := 1292) (ls' := [some (.retAddr 5), some (.ref 0), some (.ref 60), some (.int l3)]) (st' := [.int (l3 + 1), .retAddr 5, .ref 60, .int w79.1]) (g' := w79.2) (by decide +kernel) rfl ?_
                                                                                        obtain ⟨h193, H⟩ := xg_elim H
                                                                                        refine xsld A hX (nxt := 1293) (by decide +kernel) h193 ?_
                                                                                        obtain ⟨w80, e80, H⟩ := xbind H
                                                                                        refine xcallV A (ix := 186) (nxt := 1296) hrm hz [.int (xs (l3 + 1).toNatClampNeg)] [.int w79.1] 2036 (c_X12_restore_60 hS _ e80) ok_X12_restore (by decide +kernel) rfl (fun r g1 hq => ?_)
                                                                                        rw [hq.1, hq.2]
                                                                                        show xW k S 103 19882 1296 [some (.retAddr 5), some (.ref 0), some (.ref 60), some (.int l3)] [.int w80.1, .int w79.1] w80.2
                                                                                        refine xic_eq A (28) 1324 1299 (by decide +kernel) (fun h194 => ?_) (fun h194 => ?_)
                                                                                        · rw [if_pos h194] at H
                                                                                          refine xb A [(.iinc 3 6, 3, 0, 0, .null)] (pc' := 1327) (ls' := [some (.retAddr 5), some (.ref 0), some (.ref 60), some (.int (l3 + 6))]) (st' := []) (g' := w80.2) (by decide +kernel) rfl ?_
                                                                                          refine xgoto A (-1309) 18 (by decide +kernel) ?_
                                                                                          exact ih _ _ H
                                                                                        · rw [if_neg h194] at H
                                                                                          refine xb A [(.iconst 0, 1, 0, 0, .int 0)] (pc' := 1300) (ls' := [some (.retAddr 5), some (.ref 0), some (.ref 60), some (.int l3)]) (st' := [.int 0]) (g' := w80.2) (by decide +kernel) rfl ?_
                                                                                          obtain rfl := Option.some.inj H
                                                                                          exact absurd ho (show ¬ ((0 : Int32) = 1) by decide)
                                                                                      · rw [if_neg h191] at H
                                                                                        by_cases h195 : ((xs l3.toNatClampNeg) &&& 63) = 41
                                                                                        · rw [if_pos h195] at H
                                                                                          refine xtabIn A (dflt := 1291) (lo := 0) (hi := 41) (off := 1268) (offs := #[(183), (246), (269), (282), (295), (328), (361), (394), (427), (476), (499), (522), (535), (548), (581), (614), (627), (640), (653), (676), (699), (722), (755), (778), (801), (824), (847), (870), (893), (906), (919), (952), (985), (1018), (1041), (1084), (1133), (1146), (1189), (1222), (1245), (1268)]) (len := 183) (tgt := 1301) (41) (by rw [h195]; rfl) (by decide +kernel) ?_
                                                                                          refine xb A [(.aload_n 1, 1, 0, 0, .null), (.aload_n 0, 1, 0, 0, .null), (.iload_n 3, 1, 0, 0, .null), (.iconst 1, 1, 0, 0, .int 1), (.iadd, 1, 0, 0, .null)] (pc' := 1306) (ls' := [some (.retAddr 5), some (.ref 0), some (.ref 60), some (.int l3)]) (st' := [.int (l3 + 1), .retAddr 5, .ref 0]) (g' := g) (by decide +kernel) rfl ?_
                                                                                          obtain ⟨h196, H⟩ := xg_elim H
                                                                                          refine xsld A hX (nxt := 1307) (by decide +kernel) h196 ?_
                                                                                          obtain ⟨w81, e81, H⟩ := xbind H
                                                                                          refine xcallV A (ix := 187) (nxt := 1310) hrm hz [.int (xs (l3 + 1).toNatClampNeg)] [] 1335 (c_X11_count_0 hS1 _ e81) ok_X11_count (by decide +kernel) rfl (fun r g1 hq => ?_)
                                                                                          rw [hq.1, hq.2]
                                                                                          show xW k S 103 19882 1310 [some (.retAddr 5), some (.ref 0), some (.ref 60), some (.int l3)] [.int w81] g
                                                                                          refine xb A [(.aload_n 2, 1, 0, 0, .null), (.aload_n 0, 1, 0, 0, .null), (.iload_n 3, 1, 0, 0, .null), (.iconst 1, 1, 0, 0, .int 1), (.iadd, 1, 0, 0, .null)] (pc' := 1315) (ls' := [some (.retAddr 5), some (.ref 0), some (.ref 60), some (.int l3)]) (st' := [.int (l3 + 1), .retAddr 5, .ref 60, .int w81]) (g' := g) (by decide +kernel) rfl ?_
                                                                                          obtain ⟨h197, H⟩ := xg_elim H
                                                                                          refine xsld A hX (nxt := 1316) (by decide +kernel) h197 ?_
                                                                                          obtain ⟨w82, e82, H⟩ := xbind H
                                                                                          refine xcallV A (ix := 190) (nxt := 1319) hrm hz [.int (xs (l3 + 1).toNatClampNeg)] [.int w81] 2040 (c_X12_count_60 hS _ e82) ok_X12_count (by decide +kernel) rfl (fun r g1 hq => ?_)
                                                                                          rw [hq.1, hq.2]
                                                                                          show xW k S 103 19882 1319 [some (.retAddr 5), some (.ref 0), some (.ref 60), some (.int l3)] [.int w82.1, .int w81] w82.2
                                                                                          refine xic_eq A (5) 1324 1322 (by decide +kernel) (fun h198 => ?_) (fun h198 => ?_)
                                                                                          · rw [if_pos h198] at H
                                                                                            refine xb A [(.iinc 3 6, 3, 0, 0, .null)] (pc' := 1327) (ls' := [some (.retAddr 5), some (.ref 0), some (.ref 60), some (.int (l3 + 6))]) (st' := []) (g' := w82.2) (by decide +kernel) rfl ?_
                                                                                            refine xgoto A (-1309) 18 (by decide +kernel) ?_
                                                                                            exact ih _ _ H
                                                                                          · rw [if_neg h198] at H
                                                                                            refine xb A [(.iconst 0, 1, 0, 0, .int 0)] (pc' := 1323) (ls' := [some (.retAddr 5), some (.ref 0), some (.ref 60), some (.int l3)]) (st' := [.int 0]) (g' := w82.2) (by decide +kernel) rfl ?_
                                                                                            obtain rfl := Option.some.inj H
                                                                                            exact absurd ho (show ¬ ((0 : Int32) = 1) by decide)
                                                                                        · rw [if_neg h195] at H
                                                                                          refine xtabOut A (dflt := 1291) (lo := 0) (hi := 41) (offs := #[(183), (246), (269), (282), (295), (328), (361), (394), (427), (476), (499), (522), (535), (548), (581), (614), (627), (640), (653), (676), (699), (722), (755), (778), (801), (824), (847), (870), (893), (906), (919), (952), (985), (1018), (1041), (1084), (1133), (1146), (1189), (1222), (1245), (1268)]) (len := 183) (tgt := 1324) (by decide +kernel) ?_ ?_
                                                                                          · have e0 := lv_neT (a := 0) h3 rfl; have e1 := lv_neT (a := 1) h15 rfl; have e2 := lv_neT (a := 2) h19 rfl; have e3 := lv_neT (a := 3) h21 rfl; have e4 := lv_neT (a := 4) h23 rfl; have e5 := lv_neT (a := 5) h29 rfl; have e6 := lv_neT (a := 6) h35 rfl; have e7 := lv_neT (a := 7) h41 rfl; have e8 := lv_neT (a := 8) h47 rfl; have e9 := lv_neT (a := 9) h56 rfl; have e10 := lv_neT (a := 10) h60 rfl; have e11 := lv_neT (a := 11) h64 rfl; have e12 := lv_neT (a := 12) h66 rfl; have e13 := lv_neT (a := 13) h68 rfl; have e14 := lv_neT (a := 14) h74 rfl; have e15 := lv_neT (a := 15) h80 rfl; have e16 := lv_neT (a := 16) h82 rfl; have e17 := lv_neT (a := 17) h84 rfl; have e18 := lv_neT (a := 18) h86 rfl; have e19 := lv_neT (a := 19) h90 rfl; have e20 := lv_neT (a := 20) h94 rfl; have e21 := lv_neT (a := 21) h98 rfl; have e22 := lv_neT (a := 22) h104 rfl; have e23 := lv_neT (a := 23) h108 rfl; have e24 := lv_neT (a := 24) h112 rfl; have e25 := lv_neT (a := 25) h116 rfl; have e26 := lv_neT (a := 26) h120 rfl; have e27 := lv_neT (a := 27) h124 rfl; have e28 := lv_neT (a := 28) h128 rfl; have e29 := lv_neT (a := 29) h130 rfl; have e30 := lv_neT (a := 30) h132 rfl; have e31 := lv_neT (a := 31) h138 rfl; have e32 := lv_neT (a := 32) h144 rfl; have e33 := lv_neT (a := 33) h150 rfl; have e34 := lv_neT (a := 34) h154 rfl; have e35 := lv_neT (a := 35) h162 rfl; have e36 := lv_neT (a := 36) h171 rfl; have e37 := lv_neT (a := 37) h173 rfl; have e38 := lv_neT (a := 38) h181 rfl; have e39 := lv_neT (a := 39) h187 rfl; have e40 := lv_neT (a := 40) h191 rfl; have e41 := lv_neT (a := 41) h195 rfl; omega
                                                                                          · skip
                                                                                            refine xb A [(.iinc 3 6, 3, 0, 0, .null)] (pc' := 1327) (ls' := [some (.retAddr 5), some (.ref 0), some (.ref 60), some (.int (l3 + 6))]) (st' := []) (g' := g) (by decide +kernel) rfl ?_
                                                                                            refine xgoto A (-1309) 18 (by decide +kernel) ?_
                                                                                            exact ih _ _ H
theorem t_law {k : xK} {S : List xSh} {xs : Nat → Int32} {Ls : Nat} {g : xG} {out : Int32 × xG} (ho : out.1 = 1) (hS : xpf SH2 S) (hS1 : xpf SH1 S) (hX : xScr k xs Ls) (A : xAt k code 13 SH2 S) (hR : xEnd k S) (hrm : xrm k = room_1) (hz : xhs k + 103 = xb0 k + S.length) (H : f_law xs Ls g = some out) : xW k S 103 19882 16 [some (.retAddr 5), some (.ref 0), some (.ref 60), none] [] g := by
  have H : (f_law_18 xs Ls xN 0 g) = some out := H
  refine xb A [(.iconst 0, 1, 0, 0, .int 0), (.istore_n 3, 1, 0, 0, .null)] (pc' := 18) (ls' := [some (.retAddr 5), some (.ref 0), some (.ref 60), some (.int 0)]) (st' := []) (g' := g) (by decide +kernel) rfl ?_
  exact t_law_18 ho hS hS1 hX A hR hrm hz _ _ _ H
