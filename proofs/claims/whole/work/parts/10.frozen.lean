/-! frozen references: the two Strings, their bytes, a static reference -/
theorem xC.ofF {M : xM} {F L mc ms : Nat} {S S' : List xSh} {av : List Value} {g : xG} {Qp : Option Value → xG → Prop} (own : Nat) (SH : List xSh) (ls : List (Option Value)) (hpre : ∀ (q : Nat) (c : xSh), SH[q]? = some c → S[q]? = some c) (hy : (plainName M.1.cls && decide (M.1.cls = xnm own)) = true) (hy3 : ls.length = M.2.2.1) (hlen : ∀ b0 fz, (∀ u, fz u = .null ∨ ∃ a, fz u = .ref a) → (lg_sl (av.map (xad b0 fz))).length ≤ M.2.2.1 ∧ xlc b0 fz 0 ls = lv_args 0 (av.map (xad b0 fz)))
    (body : ∀ k : xK, xAt k M.2.1 own SH S → xRet k mc ms S' Qp M.2.2.2 → xrm k = { frames := F, cells := mc, slots := ms, locals := L } → xhs k = xb0 k + S.length → xW k S 0 0 0 ls [] g) : xC M F L mc ms S av g S' Qp := by
  intro l D cA b0 fz
  simp only [Bool.and_eq_true, decide_eq_true_eq] at hy
  obtain ⟨hy1, hy2⟩ := hy
  refine Met.ofW (cc := M.2.1) (maxL := M.2.2.1) (ret := M.2.2.2) hy1 rfl ?_
  intro p e s m args below meth c s₁ B hml hv
  obtain ⟨rfl, hsz, hP, hK, hF⟩ := hv
  have hts : ∀ w ∈ xTT, w.before (av.map (xad b0 fz)).toArray s = true := fun w hw => atoms_spec (ws := .code M.1 M.2.1 M.2.2.1 M.2.2.2 :: xTT) B.pre w (List.mem_cons_of_mem _ hw)
  have hown : s.vm.findClass M.1.cls = some m.cls := findClass_of_methodNamed B.named
  obtain ⟨hl1, hl2⟩ := hlen b0 fz hF.1
  rw [lg_entry_eq]
  refine body (p, l, e, { frames := F, cells := mc, slots := ms, locals := L }, s, m, (av.map (xad b0 fz)).toArray, below, meth, c, _, M.2.1, M.2.2.1, M.1.cls, D, cA, b0, fz) ⟨⟨B.exec, B.bytes, hml, hown, hts, hK, hF, by omega⟩, rfl, hy2, hpre⟩ ⟨rfl, B.notSynchronized, B.returns⟩ rfl hsz s.heap [] _ hy3 ?_ hP va_S.rf
  rw [hl2]
  exact lv_entry _ hl1
def xbyt (u j : Nat) : Int32 := (xByts.getD (u / 2) []).getD j 0
section
variable {k : xK} {cc : ByteArray} {own : Nat} {SH S S1 : List xSh} {cells slots pc mc ms F L F0' L0 C0 Z0 n : Nat} {ls : List (Option Value)} {st : List Value} {g : xG} {Qp : Option Value → xG → Prop}
theorem xldcS (A : xAt k cc own SH S) {u ix nxt : Nat} (hd : (decide (decode cc pc = .ok (.ldc ix, 2)) && Nat.beq (pc + 2) nxt && Nat.beq own 9 && (Nat.beq u 0 && Nat.beq ix xIxW || Nat.beq u 2 && Nat.beq ix xIxS)) = true) (kk : xW k S cells slots nxt ls (.retAddr u :: st) g) : xW k S cells slots pc ls st g := by
  obtain ⟨hc, hcc, hown, hpre⟩ := A
  obtain ⟨p, l, e, R, s, m, args, below, meth, c, Q, cc0, nL, ow, D, cA, b0, fz⟩ := k
  obtain rfl : cc0 = cc := hcc
  obtain rfl : ow = xnm own := hown
  simp only [Bool.and_eq_true, Bool.or_eq_true, decide_eq_true_eq, Nat.beq_eq] at hd
  obtain ⟨⟨⟨hd, rfl⟩, rfl⟩, hu⟩ := hd
  obtain ⟨h0, h1, h2, h3, adK, adV, h4, e0, e1, e2, e3, r0, r1⟩ := hc.2.2.2.2.2.2.1
  intro H locs La hn hL hP hS
  have h5 := kk H locs La hn hL hP hS
  rw [List.map_cons] at h5
  rcases hu with ⟨rfl, rfl⟩ | ⟨rfl, rfl⟩
  · rw [show xad b0 fz (.retAddr 0) = fz 0 from rfl, e0] at h5
    exact va_ldcS hc.1 hc.2.1 hc.2.2.2.1 r0 hd h5
  · rw [show xad b0 fz (.retAddr 2) = fz 2 from rfl, e2] at h5
    exact va_ldcS hc.1 hc.2.1 hc.2.2.2.1 r1 hd h5
theorem xgsC (A : xAt k cc own SH S) {ix nxt : Nat} (lk : Nat) (hd : (decide (decode cc pc = .ok (.getstatic ix, 3)) && Nat.beq (pc + 3) nxt && xcw lk (.fieldLink (xnm own) ix "java/lang/String" "COMPACT_STRINGS" "Z")) = true) (kk : xW k S cells slots nxt ls (.int 1 :: st) g) : xW k S cells slots pc ls st g := by
  obtain ⟨hc, hcc, hown, hpre⟩ := A
  obtain ⟨p, l, e, R, s, m, args, below, meth, c, Q, cc0, nL, ow, D, cA, b0, fz⟩ := k
  obtain rfl : cc0 = cc := hcc
  obtain rfl : ow = xnm own := hown
  simp only [Bool.and_eq_true, decide_eq_true_eq, Nat.beq_eq] at hd
  obtain ⟨⟨hd, rfl⟩, hw⟩ := hd
  obtain ⟨h0, h1, h2, h3, hr⟩ := hc.2.2.2.2.2.2.1
  exact fun H locs La hn hL hP hS => va_gets hc.1 hc.2.1 h2 hS hc.2.2.2.1 (hc.2.2.2.2.1 _ (xcw_ok hw)) (fun _ h => h) hd (kk H locs La hn hL hP hS)
theorem xgsF (A : xAt k cc own SH S) {ix nxt : Nat} (lk : Nat) (hd : (decide (decode cc pc = .ok (.getstatic ix, 3)) && Nat.beq (pc + 3) nxt && xcw lk (.fieldLink (xnm own) ix "jdk/internal/util/Preconditions" "SIOOBE_FORMATTER" "Ljava/util/function/BiFunction;")) = true) (kk : xW k S cells slots nxt ls (.retAddr 4 :: st) g) : xW k S cells slots pc ls st g := by
  obtain ⟨hc, hcc, hown, hpre⟩ := A
  obtain ⟨p, l, e, R, s, m, args, below, meth, c, Q, cc0, nL, ow, D, cA, b0, fz⟩ := k
  obtain rfl : cc0 = cc := hcc
  obtain rfl : ow = xnm own := hown
  simp only [Bool.and_eq_true, decide_eq_true_eq, Nat.beq_eq] at hd
  obtain ⟨⟨hd, rfl⟩, hw⟩ := hd
  obtain ⟨h0, h1, h2, h3, hr⟩ := hc.2.2.2.2.2.2.1
  exact fun H locs La hn hL hP hS => va_gets hc.1 hc.2.1 h3 hS hc.2.2.2.1 (hc.2.2.2.2.1 _ (xcw_ok hw)) (fun _ h => h) hd (kk H locs La hn hL hP hS)
theorem xfzval (A : xAt k cc own SH S) {u v ix nxt : Nat} (lk : Nat) (hd : (decide (decode cc pc = .ok (.getfield ix, 3)) && Nat.beq (pc + 3) nxt && xcw lk (.fieldLink (xnm own) ix "java/lang/String" "value" "[B") && (Nat.beq u 0 && Nat.beq v 1 || Nat.beq u 2 && Nat.beq v 3)) = true) (kk : xW k S cells slots nxt ls (.retAddr v :: st) g) : xW k S cells slots pc ls (.retAddr u :: st) g := by
  obtain ⟨hc, hcc, hown, hpre⟩ := A
  obtain ⟨p, l, e, R, s, m, args, below, meth, c, Q, cc0, nL, ow, D, cA, b0, fz⟩ := k
  obtain rfl : cc0 = cc := hcc
  obtain rfl : ow = xnm own := hown
  simp only [Bool.and_eq_true, Bool.or_eq_true, decide_eq_true_eq, Nat.beq_eq] at hd
  obtain ⟨⟨⟨hd, rfl⟩, hw⟩, hu⟩ := hd
  obtain ⟨h0, h1, h2, h3, adK, adV, h4, e0, e1, e2, e3, r0, r1⟩ := hc.2.2.2.2.2.2.1
  intro H locs La hn hL hP hS
  have h5 := kk H locs La hn hL hP hS
  rw [List.map_cons] at h5 ⊢
  rcases hu with ⟨rfl, rfl⟩ | ⟨rfl, rfl⟩
  · rw [show xad b0 fz (.retAddr 1) = fz 1 from rfl, e1] at h5
    rw [show xad b0 fz (.retAddr 0) = fz 0 from rfl, e0]
    exact vk_getf hc.1 hc.2.1 (h4.1 0 (by decide)).2.2.1 hS hc.2.2.2.1 (hc.2.2.2.2.1 _ (xcw_ok hw)) (fun _ h => h) hd h5
  · rw [show xad b0 fz (.retAddr 3) = fz 3 from rfl, e3] at h5
    rw [show xad b0 fz (.retAddr 2) = fz 2 from rfl, e2]
    exact vk_getf hc.1 hc.2.1 (h4.1 1 (by decide)).2.2.1 hS hc.2.2.2.1 (hc.2.2.2.2.1 _ (xcw_ok hw)) (fun _ h => h) hd h5
theorem xfzcod (A : xAt k cc own SH S) {u ix nxt : Nat} (lk : Nat) (hd : (decide (decode cc pc = .ok (.getfield ix, 3)) && Nat.beq (pc + 3) nxt && xcw lk (.fieldLink (xnm own) ix "java/lang/String" "coder" "B") && (Nat.beq u 0 || Nat.beq u 2)) = true) (kk : xW k S cells slots nxt ls (.int 0 :: st) g) : xW k S cells slots pc ls (.retAddr u :: st) g := by
  obtain ⟨hc, hcc, hown, hpre⟩ := A
  obtain ⟨p, l, e, R, s, m, args, below, meth, c, Q, cc0, nL, ow, D, cA, b0, fz⟩ := k
  obtain rfl : cc0 = cc := hcc
  obtain rfl : ow = xnm own := hown
  simp only [Bool.and_eq_true, Bool.or_eq_true, decide_eq_true_eq, Nat.beq_eq] at hd
  obtain ⟨⟨⟨hd, rfl⟩, hw⟩, hu⟩ := hd
  obtain ⟨h0, h1, h2, h3, adK, adV, h4, e0, e1, e2, e3, r0, r1⟩ := hc.2.2.2.2.2.2.1
  intro H locs La hn hL hP hS
  have h5 := kk H locs La hn hL hP hS
  rw [List.map_cons]
  rcases hu with rfl | rfl
  · rw [show xad b0 fz (.retAddr 0) = fz 0 from rfl, e0]
    exact vk_getf hc.1 hc.2.1 (h4.1 0 (by decide)).2.1 hS hc.2.2.2.1 (hc.2.2.2.2.1 _ (xcw_ok hw)) (fun _ h => h) hd h5
  · rw [show xad b0 fz (.retAddr 2) = fz 2 from rfl, e2]
    exact vk_getf hc.1 hc.2.1 (h4.1 1 (by decide)).2.1 hS hc.2.2.2.1 (hc.2.2.2.2.1 _ (xcw_ok hw)) (fun _ h => h) hd h5
theorem xfzlen (A : xAt k cc own SH S) {u nxt : Nat} {z : Nat} (hd : (decide (decode cc pc = .ok (.arraylength, 1)) && Nat.beq (pc + 1) nxt && (Nat.beq u 1 && Nat.beq z 122 || Nat.beq u 3 && Nat.beq z 9)) = true) (kk : xW k S cells slots nxt ls (.int (Int32.ofNat z) :: st) g) : xW k S cells slots pc ls (.retAddr u :: st) g := by
  obtain ⟨hc, hcc, hown, hpre⟩ := A
  obtain ⟨p, l, e, R, s, m, args, below, meth, c, Q, cc0, nL, ow, D, cA, b0, fz⟩ := k
  obtain rfl : cc0 = cc := hcc
  simp only [Bool.and_eq_true, Bool.or_eq_true, decide_eq_true_eq, Nat.beq_eq] at hd
  obtain ⟨⟨hd, rfl⟩, hu⟩ := hd
  obtain ⟨h0, h1, h2, h3, adK, adV, h4, e0, e1, e2, e3, r0, r1⟩ := hc.2.2.2.2.2.2.1
  intro H locs La hn hL hP hS
  have h5 := kk H locs La hn hL hP hS
  rw [List.map_cons]
  rcases hu with ⟨rfl, rfl⟩ | ⟨rfl, rfl⟩
  · rw [show xad b0 fz (.retAddr 1) = fz 1 from rfl, e1]
    exact va_tlen hc.1 hc.2.1 (h4.1 0 (by decide)).2.2.2 hS rfl hd h5
  · rw [show xad b0 fz (.retAddr 3) = fz 3 from rfl, e3]
    exact va_tlen hc.1 hc.2.1 (h4.1 1 (by decide)).2.2.2 hS rfl hd h5
theorem xfzald (A : xAt k cc own SH S) {u nxt z : Nat} {i : Int32} (hd : (decide (decode cc pc = .ok (.baload, 1)) && Nat.beq (pc + 1) nxt && (Nat.beq u 1 && Nat.beq z 122 || Nat.beq u 3 && Nat.beq z 9)) = true) (hi : vp_in i z) (kk : xW k S cells slots nxt ls (.int (xbyt u i.toNatClampNeg) :: st) g) : xW k S cells slots pc ls (.int i :: .retAddr u :: st) g := by
  obtain ⟨hc, hcc, hown, hpre⟩ := A
  obtain ⟨p, l, e, R, s, m, args, below, meth, c, Q, cc0, nL, ow, D, cA, b0, fz⟩ := k
  obtain rfl : cc0 = cc := hcc
  simp only [Bool.and_eq_true, Bool.or_eq_true, decide_eq_true_eq, Nat.beq_eq] at hd
  obtain ⟨⟨hd, rfl⟩, hu⟩ := hd
  obtain ⟨h0, h1, h2, h3, adK, adV, h4, e0, e1, e2, e3, r0, r1⟩ := hc.2.2.2.2.2.2.1
  intro H locs La hn hL hP hS
  have h5 := kk H locs La hn hL hP hS
  rw [List.map_cons, List.map_cons]
  rcases hu with ⟨rfl, rfl⟩ | ⟨rfl, rfl⟩
  · rw [show xad b0 fz (.retAddr 1) = fz 1 from rfl, e1]
    exact va_tb hc.1 hc.2.1 (h4.1 0 (by decide)).2.2.2 hS hi rfl hd h5
  · rw [show xad b0 fz (.retAddr 3) = fz 3 from rfl, e3]
    exact va_tb hc.1 hc.2.1 (h4.1 1 (by decide)).2.2.2 hS hi rfl hd h5
theorem xcallF (A : xAt k cc own SH S) (hrm : xrm k = { frames := F0', cells := C0, slots := Z0, locals := L0 }) (hsz : xhs k + cells = xb0 k + S.length) {M : xM} (as rest : List Value) {u ix nxt : Nat} (lk : Nat) (hM : xC M F L mc ms S (.retAddr u :: as) g S1 Qp) (hm : xmfV M n)
    (hd : (xsite cc pc nxt (.invokevirtual ix) lk (.methodLink (xnm own) ix M.1) F L F0' L0 M.2.2.1 && decide (M.1.cls = "java/lang/String") && (Nat.beq u 0 || Nat.beq u 2) && Nat.ble (cells + mc) C0 && Nat.ble (slots + ms) Z0) = true) (hw : (Nat.beq as.length n && Nat.ble (xcat rest) 8) = true)
    (kk : ∀ (r : Option Value) (g' : xG), Qp r g' → xW k S1 (cells + mc) (slots + ms) nxt ls (r.toList ++ rest) g') : xW k S cells slots pc ls (as.reverse ++ .retAddr u :: rest) g := by
  obtain ⟨hc, hcc, hown, hpre⟩ := A
  obtain ⟨p, l, e, R, s, m, args, below, meth, c, Q, cc0, nL, ow, D, cA, b0, fz⟩ := k
  obtain rfl : cc0 = cc := hcc
  obtain rfl : ow = xnm own := hown
  obtain rfl : R = _ := hrm
  simp only [Bool.and_eq_true, Bool.or_eq_true, decide_eq_true_eq, Nat.beq_eq, Nat.ble_eq] at hd hw
  obtain ⟨⟨⟨⟨hd1, hd0⟩, hd2⟩, hd3⟩, hd4⟩ := hd
  obtain ⟨h1, rfl, h3, h4, h5⟩ := xsite_ok hd1
  obtain ⟨m1, m2, m3, m4, m5, m6⟩ := hm
  have hf := hc.2.2.2.2.2.2.1.1
  obtain ⟨q0, q1, q2, q3, adK, adV, q4, e0, e1, e2, e3, r0, r1⟩ := id hc.2.2.2.2.2.2.1
  intro H locs La hn hL hP hS
  refine xW_size fun hle => ?_
  have hrec : ∃ b, fz u = .ref b ∧ ∃ cell : Cell, H[b]? = some cell ∧ cell.vm.isStatics = false ∧ s.vm.findClass "java/lang/String" = some cell.cls := by
    rcases hd2 with rfl | rfl
    · exact ⟨_, e0, vk_recv q4 (by decide) hS⟩
    · exact ⟨_, e2, vk_recv q4 (by decide) hS⟩
  obtain ⟨b, hb, hcell⟩ := hrec
  have hpr := xpre hc hsz hle hP hS (.retAddr u :: as)
  rw [List.map_cons, show xad b0 fz (.retAddr u) = fz u from rfl, hb] at hpr
  have hbk := fun hr => xback (st := as.reverse ++ .retAddr u :: rest) (rest := rest) (a := (Value.ref b :: as.map (xad b0 fz)).toArray) hc hn hL hS hr kk
  have hst : (as.reverse ++ .retAddr u :: rest).map (xad b0 fz) = (as.map (xad b0 fz)).reverse ++ .ref b :: rest.map (xad b0 fz) := by simp [show xad b0 fz (.retAddr u) = fz u from rfl, hb]
  exact hbk (va_runV (C := M.1.cls) (b := b) (As := as.map (xad b0 fz)) (n := n) (nL := nL) (bytes := M.2.1) (maxL := M.2.2.1) (ret := M.2.2.2) (own := xnm own) (index := ix) ⟨hc.1, hc.2.1, hc.2.2.1, hc.2.2.2.1, hc.2.2.2.2.1⟩ (hM l D cA b0 fz) ⟨⟨rfl, rfl, h4, h5, xws hc m1, List.mem_cons_self, hc.2.2.2.2.1 _ m1, hc.2.2.2.2.1 _ m4, m5, xdesc m6, hc.2.2.2.2.1 _ h3⟩, hc.2.2.2.2.1 _ m2, hc.2.2.2.2.1 _ m3⟩ ⟨xPre_blind, by rw [hd0]; exact hcell, hpr⟩ rfl (by simpa using hw.1) hL.1 hst (lv_room (by rw [xcat_ok hf]; exact hw.2)) h1 ⟨hd3, hd4⟩)
end
