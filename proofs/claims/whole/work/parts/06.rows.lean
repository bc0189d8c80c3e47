/-! rows: a block, a branch, an array, a return, a call -/
/-- the decoding of a block and its check, for the kernel -/
def xdec (cc : ByteArray) (own : Nat) (SH : List xSh) : Nat → List xOp → Bool
  | _, [] => true
  | pc, o :: t => decide (decode cc pc = .ok (o.1, o.2.1)) && xopk own SH o && xdec cc own SH (pc + o.2.1) t
def xlen : List xOp → Nat
  | [] => 0
  | o :: t => o.2.1 + xlen t
theorem xrun_sound {k : xK} {S SH : List xSh} {cells slots own : Nat} (C : xCtx k) (hown : xown k = xnm own) (hpre : ∀ (q : Nat) (c : xSh), SH[q]? = some c → S[q]? = some c) : ∀ (blk : List xOp) (pc : Nat) (ls ls' : List (Option Value)) (st st' : List Value) (g g' : xG), xdec (xcc k) own SH pc blk = true → xrun blk ls st g = some (ls', st', g') → xW k S cells slots (pc + xlen blk) ls' st' g' → xW k S cells slots pc ls st g
  | [], pc, ls, ls', st, st', g, g', _, h, kk => by
    simp only [xrun] at h
    cases h
    exact kk
  | o :: t, pc, ls, ls', st, st', g, g', hd, h, kk => by
    simp only [xdec, Bool.and_eq_true, decide_eq_true_eq] at hd
    obtain ⟨⟨h1, h2⟩, h3⟩ := hd
    simp only [xrun] at h
    split at h
    next ls1 st1 g1 hop =>
      refine xop_sound C hown hpre h1 h2 hop (xrun_sound C hown hpre t _ _ ls' _ st' _ g' h3 h ?_)
      rwa [show pc + o.2.1 + xlen t = pc + xlen (o :: t) by simp [xlen]; omega]
    next => cases h
/-- what a walk of a method stands on: its class, its bytes, the shape that its reads are checked by -/
def xAt (k : xK) (cc : ByteArray) (own : Nat) (SH S : List xSh) : Prop := xCtx k ∧ xcc k = cc ∧ xown k = xnm own ∧ ∀ (q : Nat) (c : xSh), SH[q]? = some c → S[q]? = some c
section
variable {k : xK} {cc : ByteArray} {own : Nat} {SH S : List xSh} {cells slots pc : Nat} {ls : List (Option Value)} {st : List Value} {g : xG}
theorem xb (A : xAt k cc own SH S) (blk : List xOp) {pc' : Nat} {ls' : List (Option Value)} {st' : List Value} {g' : xG} (hd : (xdec cc own SH pc blk && Nat.beq (pc + xlen blk) pc') = true) (h : xrun blk ls st g = some (ls', st', g')) (kk : xW k S cells slots pc' ls' st' g') : xW k S cells slots pc ls st g := by
  simp only [Bool.and_eq_true, Nat.beq_eq] at hd
  obtain ⟨hd, rfl⟩ := hd
  exact xrun_sound A.1 A.2.2.1 A.2.2.2 blk pc ls ls' st st' g g' (by rw [A.2.1]; exact hd) h kk
/-- a branch: its decoding, for the kernel -/
def xbr (cc : ByteArray) (pc : Nat) (i : ClassFile.Instr) (off : Int) (tgt : Nat) : Bool := decide (decode cc pc = .ok (i, 3)) && decide ((pc : Int) + off = (tgt : Int))
theorem xbr_ok {i : ClassFile.Instr} {off : Int} {tgt : Nat} (h : xbr cc pc i off tgt = true) : decode cc pc = .ok (i, 3) ∧ (pc : Int) + off = (tgt : Int) := by simpa [xbr] using h
theorem xgoto (A : xAt k cc own SH S) (off : Int) (tgt : Nat) (h : xbr cc pc (.goto off) off tgt = true) (kk : xW k S cells slots tgt ls st g) : xW k S cells slots pc ls st g := by
  obtain ⟨hc, hcc, -⟩ := A
  obtain ⟨p, l, e, R, s, m, args, below, meth, c, Q, cc0, nL, ow, D, cA, b0, fz⟩ := k
  obtain rfl : cc0 = cc := hcc
  obtain ⟨h1, h2⟩ := xbr_ok h
  exact fun H locs La hn hL hP hS => lv_goto hc.1 hc.2.1 h1 h2 (kk H locs La hn hL hP hS)
theorem xif_eq (A : xAt k cc own SH S) {x : Int32} (off : Int) (tgt nxt : Nat) (h : (xbr cc pc (.ifCond .eq off) off tgt && Nat.beq (pc + 3) nxt) = true) (kt : x = 0 → xW k S cells slots tgt ls st g) (kf : ¬ x = 0 → xW k S cells slots nxt ls st g) : xW k S cells slots pc ls (.int x :: st) g := by
  obtain ⟨hc, hcc, -⟩ := A
  obtain ⟨p, l, e, R, s, m, args, below, meth, c, Q, cc0, nL, ow, D, cA, b0, fz⟩ := k
  obtain rfl : cc0 = cc := hcc
  simp only [Bool.and_eq_true, Nat.beq_eq] at h
  obtain ⟨h, rfl⟩ := h
  obtain ⟨h1, h2⟩ := xbr_ok h
  exact fun H locs La hn hL hP hS => lv_if_eq hc.1 hc.2.1 h1 h2 (fun h => kt h H locs La hn hL hP hS) (fun h => kf h H locs La hn hL hP hS)
theorem xic_eq (A : xAt k cc own SH S) {x y : Int32} (off : Int) (tgt nxt : Nat) (h : (xbr cc pc (.if_icmp .eq off) off tgt && Nat.beq (pc + 3) nxt) = true) (kt : x = y → xW k S cells slots tgt ls st g) (kf : ¬ x = y → xW k S cells slots nxt ls st g) : xW k S cells slots pc ls (.int y :: .int x :: st) g := by
  obtain ⟨hc, hcc, -⟩ := A
  obtain ⟨p, l, e, R, s, m, args, below, meth, c, Q, cc0, nL, ow, D, cA, b0, fz⟩ := k
  obtain rfl : cc0 = cc := hcc
  simp only [Bool.and_eq_true, Nat.beq_eq] at h
  obtain ⟨h, rfl⟩ := h
  obtain ⟨h1, h2⟩ := xbr_ok h
  exact fun H locs La hn hL hP hS => lv_icmp_eq hc.1 hc.2.1 h1 h2 (fun h => kt h H locs La hn hL hP hS) (fun h => kf h H locs La hn hL hP hS)
theorem xif_ne (A : xAt k cc own SH S) {x : Int32} (off : Int) (tgt nxt : Nat) (h : (xbr cc pc (.ifCond .ne off) off tgt && Nat.beq (pc + 3) nxt) = true) (kt : ¬ x = 0 → xW k S cells slots tgt ls st g) (kf : x = 0 → xW k S cells slots nxt ls st g) : xW k S cells slots pc ls (.int x :: st) g := by
  obtain ⟨hc, hcc, -⟩ := A
  obtain ⟨p, l, e, R, s, m, args, below, meth, c, Q, cc0, nL, ow, D, cA, b0, fz⟩ := k
  obtain rfl : cc0 = cc := hcc
  simp only [Bool.and_eq_true, Nat.beq_eq] at h
  obtain ⟨h, rfl⟩ := h
  obtain ⟨h1, h2⟩ := xbr_ok h
  exact fun H locs La hn hL hP hS => lv_if_ne hc.1 hc.2.1 h1 h2 (fun h => kt h H locs La hn hL hP hS) (fun h => kf h H locs La hn hL hP hS)
theorem xic_ne (A : xAt k cc own SH S) {x y : Int32} (off : Int) (tgt nxt : Nat) (h : (xbr cc pc (.if_icmp .ne off) off tgt && Nat.beq (pc + 3) nxt) = true) (kt : ¬ x = y → xW k S cells slots tgt ls st g) (kf : x = y → xW k S cells slots nxt ls st g) : xW k S cells slots pc ls (.int y :: .int x :: st) g := by
  obtain ⟨hc, hcc, -⟩ := A
  obtain ⟨p, l, e, R, s, m, args, below, meth, c, Q, cc0, nL, ow, D, cA, b0, fz⟩ := k
  obtain rfl : cc0 = cc := hcc
  simp only [Bool.and_eq_true, Nat.beq_eq] at h
  obtain ⟨h, rfl⟩ := h
  obtain ⟨h1, h2⟩ := xbr_ok h
  exact fun H locs La hn hL hP hS => lv_icmp_ne hc.1 hc.2.1 h1 h2 (fun h => kt h H locs La hn hL hP hS) (fun h => kf h H locs La hn hL hP hS)
theorem xif_lt (A : xAt k cc own SH S) {x : Int32} (off : Int) (tgt nxt : Nat) (h : (xbr cc pc (.ifCond .lt off) off tgt && Nat.beq (pc + 3) nxt) = true) (kt : x < 0 → xW k S cells slots tgt ls st g) (kf : ¬ x < 0 → xW k S cells slots nxt ls st g) : xW k S cells slots pc ls (.int x :: st) g := by
  obtain ⟨hc, hcc, -⟩ := A
  obtain ⟨p, l, e, R, s, m, args, below, meth, c, Q, cc0, nL, ow, D, cA, b0, fz⟩ := k
  obtain rfl : cc0 = cc := hcc
  simp only [Bool.and_eq_true, Nat.beq_eq] at h
  obtain ⟨h, rfl⟩ := h
  obtain ⟨h1, h2⟩ := xbr_ok h
  exact fun H locs La hn hL hP hS => lv_if_lt hc.1 hc.2.1 h1 h2 (fun h => kt h H locs La hn hL hP hS) (fun h => kf h H locs La hn hL hP hS)
theorem xic_lt (A : xAt k cc own SH S) {x y : Int32} (off : Int) (tgt nxt : Nat) (h : (xbr cc pc (.if_icmp .lt off) off tgt && Nat.beq (pc + 3) nxt) = true) (kt : x < y → xW k S cells slots tgt ls st g) (kf : ¬ x < y → xW k S cells slots nxt ls st g) : xW k S cells slots pc ls (.int y :: .int x :: st) g := by
  obtain ⟨hc, hcc, -⟩ := A
  obtain ⟨p, l, e, R, s, m, args, below, meth, c, Q, cc0, nL, ow, D, cA, b0, fz⟩ := k
  obtain rfl : cc0 = cc := hcc
  simp only [Bool.and_eq_true, Nat.beq_eq] at h
  obtain ⟨h, rfl⟩ := h
  obtain ⟨h1, h2⟩ := xbr_ok h
  exact fun H locs La hn hL hP hS => lv_icmp_lt hc.1 hc.2.1 h1 h2 (fun h => kt h H locs La hn hL hP hS) (fun h => kf h H locs La hn hL hP hS)
theorem xif_ge (A : xAt k cc own SH S) {x : Int32} (off : Int) (tgt nxt : Nat) (h : (xbr cc pc (.ifCond .ge off) off tgt && Nat.beq (pc + 3) nxt) = true) (kt : 0 ≤ x → xW k S cells slots tgt ls st g) (kf : ¬ 0 ≤ x → xW k S cells slots nxt ls st g) : xW k S cells slots pc ls (.int x :: st) g := by
  obtain ⟨hc, hcc, -⟩ := A
  obtain ⟨p, l, e, R, s, m, args, below, meth, c, Q, cc0, nL, ow, D, cA, b0, fz⟩ := k
  obtain rfl : cc0 = cc := hcc
  simp only [Bool.and_eq_true, Nat.beq_eq] at h
  obtain ⟨h, rfl⟩ := h
  obtain ⟨h1, h2⟩ := xbr_ok h
  exact fun H locs La hn hL hP hS => lv_if_ge hc.1 hc.2.1 h1 h2 (fun h => kt h H locs La hn hL hP hS) (fun h => kf h H locs La hn hL hP hS)
theorem xic_ge (A : xAt k cc own SH S) {x y : Int32} (off : Int) (tgt nxt : Nat) (h : (xbr cc pc (.if_icmp .ge off) off tgt && Nat.beq (pc + 3) nxt) = true) (kt : y ≤ x → xW k S cells slots tgt ls st g) (kf : ¬ y ≤ x → xW k S cells slots nxt ls st g) : xW k S cells slots pc ls (.int y :: .int x :: st) g := by
  obtain ⟨hc, hcc, -⟩ := A
  obtain ⟨p, l, e, R, s, m, args, below, meth, c, Q, cc0, nL, ow, D, cA, b0, fz⟩ := k
  obtain rfl : cc0 = cc := hcc
  simp only [Bool.and_eq_true, Nat.beq_eq] at h
  obtain ⟨h, rfl⟩ := h
  obtain ⟨h1, h2⟩ := xbr_ok h
  exact fun H locs La hn hL hP hS => lv_icmp_ge hc.1 hc.2.1 h1 h2 (fun h => kt h H locs La hn hL hP hS) (fun h => kf h H locs La hn hL hP hS)
theorem xif_gt (A : xAt k cc own SH S) {x : Int32} (off : Int) (tgt nxt : Nat) (h : (xbr cc pc (.ifCond .gt off) off tgt && Nat.beq (pc + 3) nxt) = true) (kt : 0 < x → xW k S cells slots tgt ls st g) (kf : ¬ 0 < x → xW k S cells slots nxt ls st g) : xW k S cells slots pc ls (.int x :: st) g := by
  obtain ⟨hc, hcc, -⟩ := A
  obtain ⟨p, l, e, R, s, m, args, below, meth, c, Q, cc0, nL, ow, D, cA, b0, fz⟩ := k
  obtain rfl : cc0 = cc := hcc
  simp only [Bool.and_eq_true, Nat.beq_eq] at h
  obtain ⟨h, rfl⟩ := h
  obtain ⟨h1, h2⟩ := xbr_ok h
  exact fun H locs La hn hL hP hS => lv_if_gt hc.1 hc.2.1 h1 h2 (fun h => kt h H locs La hn hL hP hS) (fun h => kf h H locs La hn hL hP hS)
theorem xic_gt (A : xAt k cc own SH S) {x y : Int32} (off : Int) (tgt nxt : Nat) (h : (xbr cc pc (.if_icmp .gt off) off tgt && Nat.beq (pc + 3) nxt) = true) (kt : y < x → xW k S cells slots tgt ls st g) (kf : ¬ y < x → xW k S cells slots nxt ls st g) : xW k S cells slots pc ls (.int y :: .int x :: st) g := by
  obtain ⟨hc, hcc, -⟩ := A
  obtain ⟨p, l, e, R, s, m, args, below, meth, c, Q, cc0, nL, ow, D, cA, b0, fz⟩ := k
  obtain rfl : cc0 = cc := hcc
  simp only [Bool.and_eq_true, Nat.beq_eq] at h
  obtain ⟨h, rfl⟩ := h
  obtain ⟨h1, h2⟩ := xbr_ok h
  exact fun H locs La hn hL hP hS => lv_icmp_gt hc.1 hc.2.1 h1 h2 (fun h => kt h H locs La hn hL hP hS) (fun h => kf h H locs La hn hL hP hS)
theorem xif_le (A : xAt k cc own SH S) {x : Int32} (off : Int) (tgt nxt : Nat) (h : (xbr cc pc (.ifCond .le off) off tgt && Nat.beq (pc + 3) nxt) = true) (kt : x ≤ 0 → xW k S cells slots tgt ls st g) (kf : ¬ x ≤ 0 → xW k S cells slots nxt ls st g) : xW k S cells slots pc ls (.int x :: st) g := by
  obtain ⟨hc, hcc, -⟩ := A
  obtain ⟨p, l, e, R, s, m, args, below, meth, c, Q, cc0, nL, ow, D, cA, b0, fz⟩ := k
  obtain rfl : cc0 = cc := hcc
  simp only [Bool.and_eq_true, Nat.beq_eq] at h
  obtain ⟨h, rfl⟩ := h
  obtain ⟨h1, h2⟩ := xbr_ok h
  exact fun H locs La hn hL hP hS => lv_if_le hc.1 hc.2.1 h1 h2 (fun h => kt h H locs La hn hL hP hS) (fun h => kf h H locs La hn hL hP hS)
theorem xic_le (A : xAt k cc own SH S) {x y : Int32} (off : Int) (tgt nxt : Nat) (h : (xbr cc pc (.if_icmp .le off) off tgt && Nat.beq (pc + 3) nxt) = true) (kt : x ≤ y → xW k S cells slots tgt ls st g) (kf : ¬ x ≤ y → xW k S cells slots nxt ls st g) : xW k S cells slots pc ls (.int y :: .int x :: st) g := by
  obtain ⟨hc, hcc, -⟩ := A
  obtain ⟨p, l, e, R, s, m, args, below, meth, c, Q, cc0, nL, ow, D, cA, b0, fz⟩ := k
  obtain rfl : cc0 = cc := hcc
  simp only [Bool.and_eq_true, Nat.beq_eq] at h
  obtain ⟨h, rfl⟩ := h
  obtain ⟨h1, h2⟩ := xbr_ok h
  exact fun H locs La hn hL hP hS => lv_icmp_le hc.1 hc.2.1 h1 h2 (fun h => kt h H locs La hn hL hP hS) (fun h => kf h H locs La hn hL hP hS)
theorem xiald (A : xAt k cc own SH S) {i : Int32} {q n nxt : Nat} (hd : (decide (decode cc pc = .ok (.iaload, 1)) && Nat.beq (pc + 1) nxt) = true) (hq : S[q]? = some (.inl (.int, n))) (hi : vp_in i n) (kk : xW k S cells slots nxt ls (.int (g.1 q i.toNatClampNeg) :: st) g) : xW k S cells slots pc ls (.int i :: .ref q :: st) g := by
  obtain ⟨hc, hcc, -⟩ := A
  obtain ⟨p, l, e, R, s, m, args, below, meth, c, Q, cc0, nL, ow, D, cA, b0, fz⟩ := k
  obtain rfl : cc0 = cc := hcc
  simp only [Bool.and_eq_true, decide_eq_true_eq, Nat.beq_eq] at hd
  obtain ⟨hd, rfl⟩ := hd
  exact fun H locs La hn hL hP hS => va_iald hc.1 hc.2.1 hc.2.2.2.2.2.1 hP q 0 (xWd_get hq) rfl hi hd (kk H locs La hn hL hP hS)
theorem xbald (A : xAt k cc own SH S) {i : Int32} {q n nxt : Nat} (hd : (decide (decode cc pc = .ok (.baload, 1)) && Nat.beq (pc + 1) nxt) = true) (hq : S[q]? = some (.inl (.byte, n))) (hi : vp_in i n) (kk : xW k S cells slots nxt ls (.int (g.1 q i.toNatClampNeg) :: st) g) : xW k S cells slots pc ls (.int i :: .ref q :: st) g := by
  obtain ⟨hc, hcc, -⟩ := A
  obtain ⟨p, l, e, R, s, m, args, below, meth, c, Q, cc0, nL, ow, D, cA, b0, fz⟩ := k
  obtain rfl : cc0 = cc := hcc
  simp only [Bool.and_eq_true, decide_eq_true_eq, Nat.beq_eq] at hd
  obtain ⟨hd, rfl⟩ := hd
  exact fun H locs La hn hL hP hS => va_bald hc.1 hc.2.1 hc.2.2.2.2.2.1 hP q 2 (xWd_get hq) rfl hi hd (kk H locs La hn hL hP hS)
theorem xzald (A : xAt k cc own SH S) {i : Int32} {q n nxt : Nat} (hd : (decide (decode cc pc = .ok (.baload, 1)) && Nat.beq (pc + 1) nxt) = true) (hq : S[q]? = some (.inl (.boolean, n))) (hi : vp_in i n) (kk : xW k S cells slots nxt ls (.int (g.1 q i.toNatClampNeg) :: st) g) : xW k S cells slots pc ls (.int i :: .ref q :: st) g := by
  obtain ⟨hc, hcc, -⟩ := A
  obtain ⟨p, l, e, R, s, m, args, below, meth, c, Q, cc0, nL, ow, D, cA, b0, fz⟩ := k
  obtain rfl : cc0 = cc := hcc
  simp only [Bool.and_eq_true, decide_eq_true_eq, Nat.beq_eq] at hd
  obtain ⟨hd, rfl⟩ := hd
  exact fun H locs La hn hL hP hS => va_zald hc.1 hc.2.1 hc.2.2.2.2.2.1 hP q 3 (xWd_get hq) rfl hi hd (kk H locs La hn hL hP hS)
theorem xlald (A : xAt k cc own SH S) {i : Int32} {q n nxt : Nat} (hd : (decide (decode cc pc = .ok (.laload, 1)) && Nat.beq (pc + 1) nxt) = true) (hq : S[q]? = some (.inl (.long, n))) (hi : vp_in i n) (kk : xW k S cells slots nxt ls (.long (g.2 q i.toNatClampNeg) :: st) g) : xW k S cells slots pc ls (.int i :: .ref q :: st) g := by
  obtain ⟨hc, hcc, -⟩ := A
  obtain ⟨p, l, e, R, s, m, args, below, meth, c, Q, cc0, nL, ow, D, cA, b0, fz⟩ := k
  obtain rfl : cc0 = cc := hcc
  simp only [Bool.and_eq_true, decide_eq_true_eq, Nat.beq_eq] at hd
  obtain ⟨hd, rfl⟩ := hd
  exact fun H locs La hn hL hP hS => va_lald hc.1 hc.2.1 hc.2.2.2.2.2.1 hP q 1 (xWd_get hq) rfl hi hd (kk H locs La hn hL hP hS)
theorem xiast (A : xAt k cc own SH S) {i : Int32} {x : Int32} {q n nxt : Nat} (hd : (decide (decode cc pc = .ok (.iastore, 1)) && Nat.beq (pc + 1) nxt) = true) (hq : S[q]? = some (.inl (.int, n))) (hi : vp_in i n) (kk : xW k S cells slots nxt ls st (xupd g.1 q i.toNatClampNeg x, g.2)) : xW k S cells slots pc ls (.int x :: .int i :: .ref q :: st) g := by
  obtain ⟨hc, hcc, -⟩ := A
  obtain ⟨p, l, e, R, s, m, args, below, meth, c, Q, cc0, nL, ow, D, cA, b0, fz⟩ := k
  obtain rfl : cc0 = cc := hcc
  simp only [Bool.and_eq_true, decide_eq_true_eq, Nat.beq_eq] at hd
  obtain ⟨hd, rfl⟩ := hd
  intro H locs La hn hL hP hS
  refine va_iast hc.1 hc.2.1 hc.2.2.2.2.2.1 hP xWd_D hS q 0 (xWd_get hq) rfl hi hd (fun H1 locs1 hP1 _ hS1 => ?_)
  rw [xWd_set (g' := (xupd g.1 q i.toNatClampNeg x, g.2)) hq (by rw [← xupd_same]; rfl) (fun q' h => xupd_ne h) (fun _ _ => rfl)] at hP1
  exact kk H1 locs1 La hn hL hP1 hS1
theorem xbast (A : xAt k cc own SH S) {i : Int32} {x : Int32} {q n nxt : Nat} (hd : (decide (decode cc pc = .ok (.bastore, 1)) && Nat.beq (pc + 1) nxt) = true) (hq : S[q]? = some (.inl (.byte, n))) (hi : vp_in i n) (kk : xW k S cells slots nxt ls st (xupd g.1 q i.toNatClampNeg x.toInt8.toInt32, g.2)) : xW k S cells slots pc ls (.int x :: .int i :: .ref q :: st) g := by
  obtain ⟨hc, hcc, -⟩ := A
  obtain ⟨p, l, e, R, s, m, args, below, meth, c, Q, cc0, nL, ow, D, cA, b0, fz⟩ := k
  obtain rfl : cc0 = cc := hcc
  simp only [Bool.and_eq_true, decide_eq_true_eq, Nat.beq_eq] at hd
  obtain ⟨hd, rfl⟩ := hd
  intro H locs La hn hL hP hS
  refine va_bast hc.1 hc.2.1 hc.2.2.2.2.2.1 hP xWd_D hS q 2 (xWd_get hq) rfl hi hd (fun H1 locs1 hP1 _ hS1 => ?_)
  rw [xWd_set (g' := (xupd g.1 q i.toNatClampNeg x.toInt8.toInt32, g.2)) hq (by rw [vp_nar_byte, ← xupd_same]; rfl) (fun q' h => xupd_ne h) (fun _ _ => rfl)] at hP1
  exact kk H1 locs1 La hn hL hP1 hS1
theorem xzast (A : xAt k cc own SH S) {i : Int32} {x : Int32} {q n nxt : Nat} (hd : (decide (decode cc pc = .ok (.bastore, 1)) && Nat.beq (pc + 1) nxt) = true) (hq : S[q]? = some (.inl (.boolean, n))) (hi : vp_in i n) (kk : xW k S cells slots nxt ls st (xupd g.1 q i.toNatClampNeg (x &&& 1), g.2)) : xW k S cells slots pc ls (.int x :: .int i :: .ref q :: st) g := by
  obtain ⟨hc, hcc, -⟩ := A
  obtain ⟨p, l, e, R, s, m, args, below, meth, c, Q, cc0, nL, ow, D, cA, b0, fz⟩ := k
  obtain rfl : cc0 = cc := hcc
  simp only [Bool.and_eq_true, decide_eq_true_eq, Nat.beq_eq] at hd
  obtain ⟨hd, rfl⟩ := hd
  intro H locs La hn hL hP hS
  refine va_zast hc.1 hc.2.1 hc.2.2.2.2.2.1 hP xWd_D hS q 3 (xWd_get hq) rfl hi hd (fun H1 locs1 hP1 _ hS1 => ?_)
  rw [xWd_set (g' := (xupd g.1 q i.toNatClampNeg (x &&& 1), g.2)) hq (by rw [show vp_nar .boolean x = x &&& 1 from rfl, ← xupd_same]; rfl) (fun q' h => xupd_ne h) (fun _ _ => rfl)] at hP1
  exact kk H1 locs1 La hn hL hP1 hS1
theorem xlast (A : xAt k cc own SH S) {i : Int32} {x : Int64} {q n nxt : Nat} (hd : (decide (decode cc pc = .ok (.lastore, 1)) && Nat.beq (pc + 1) nxt) = true) (hq : S[q]? = some (.inl (.long, n))) (hi : vp_in i n) (kk : xW k S cells slots nxt ls st (g.1, xupdL g.2 q i.toNatClampNeg x)) : xW k S cells slots pc ls (.long x :: .int i :: .ref q :: st) g := by
  obtain ⟨hc, hcc, -⟩ := A
  obtain ⟨p, l, e, R, s, m, args, below, meth, c, Q, cc0, nL, ow, D, cA, b0, fz⟩ := k
  obtain rfl : cc0 = cc := hcc
  simp only [Bool.and_eq_true, decide_eq_true_eq, Nat.beq_eq] at hd
  obtain ⟨hd, rfl⟩ := hd
  intro H locs La hn hL hP hS
  refine va_last hc.1 hc.2.1 hc.2.2.2.2.2.1 hP xWd_D hS q 1 (xWd_get hq) rfl hi hd (fun H1 locs1 hP1 _ hS1 => ?_)
  rw [xWd_set (g := g) (g' := (g.1, xupdL g.2 q i.toNatClampNeg x)) (e := .inl (cA .long, n, .inr (.inl (vp_updL (g.2 q) i.toNatClampNeg x)))) hq (by rw [← xupdL_same]; rfl) (fun _ _ => rfl) (fun q' h => xupdL_ne h)] at hP1
  exact kk H1 locs1 La hn hL hP1 hS1
theorem xidiv (A : xAt k cc own SH S) {x y : Int32} {nxt : Nat} (hd : (decide (decode cc pc = .ok (.idiv, 1)) && Nat.beq (pc + 1) nxt) = true) (hy : ¬ y = 0) (kk : xW k S cells slots nxt ls (.int (x / y) :: st) g) : xW k S cells slots pc ls (.int y :: .int x :: st) g := by
  obtain ⟨hc, hcc, -⟩ := A
  obtain ⟨p, l, e, R, s, m, args, below, meth, c, Q, cc0, nL, ow, D, cA, b0, fz⟩ := k
  obtain rfl : cc0 = cc := hcc
  simp only [Bool.and_eq_true, decide_eq_true_eq, Nat.beq_eq] at hd
  obtain ⟨hd, rfl⟩ := hd
  exact fun H locs La hn hL hP hS => lv_idiv hc.1 hc.2.1 hd hy (kk H locs La hn hL hP hS)
theorem xirem (A : xAt k cc own SH S) {x y : Int32} {nxt : Nat} (hd : (decide (decode cc pc = .ok (.irem, 1)) && Nat.beq (pc + 1) nxt) = true) (hy : ¬ y = 0) (kk : xW k S cells slots nxt ls (.int (x - x / y * y) :: st) g) : xW k S cells slots pc ls (.int y :: .int x :: st) g := by
  obtain ⟨hc, hcc, -⟩ := A
  obtain ⟨p, l, e, R, s, m, args, below, meth, c, Q, cc0, nL, ow, D, cA, b0, fz⟩ := k
  obtain rfl : cc0 = cc := hcc
  simp only [Bool.and_eq_true, decide_eq_true_eq, Nat.beq_eq] at hd
  obtain ⟨hd, rfl⟩ := hd
  exact fun H locs La hn hL hP hS => lv_irem hc.1 hc.2.1 hd hy (kk H locs La hn hL hP hS)
/-- fewer locals are known -/
def xsubl : List (Option Value) → List (Option Value) → Prop
  | [], [] => True
  | none :: t, _ :: u => xsubl t u
  | some v :: t, some w :: u => v = w ∧ xsubl t u
  | _, _ => False
theorem xsubl_get : ∀ {a b : List (Option Value)}, xsubl a b → a.length = b.length ∧ ∀ (j : Nat) (v : Value), a[j]? = some (some v) → b[j]? = some (some v)
  | [], [], _ => ⟨rfl, fun _ _ h => h⟩
  | none :: t, w :: u, h => by
    obtain ⟨h1, h2⟩ := xsubl_get (a := t) (b := u) h
    refine ⟨by simp [h1], fun j v hj => ?_⟩
    cases j with
    | zero => simp at hj
    | succ j => simpa using h2 j v (by simpa using hj)
  | some v :: t, some w :: u, h => by
    obtain ⟨rfl, h⟩ := h
    obtain ⟨h1, h2⟩ := xsubl_get h
    refine ⟨by simp [h1], fun j x hj => ?_⟩
    cases j with
    | zero => simpa using hj
    | succ j => simpa using h2 j x (by simpa using hj)
theorem xweak {ls' : List (Option Value)} (h : xsubl ls' ls) (kk : xW k S cells slots pc ls' st g) : xW k S cells slots pc ls st g := by
  obtain ⟨h1, h2⟩ := xsubl_get h
  exact fun H locs La hn hL hP hS => kk H locs La (h1.trans hn) (xlc_sub hL (fun j v hj => by simpa using xlc_mem ls 0 j v (h2 j v hj))) hP hS
theorem xtabOut (A : xAt k cc own SH S) {dflt lo hi : Int} {offs : Array Int} {len tgt : Nat} {x : Int32} (hd : (decide (decode cc pc = .ok (.tableswitch dflt lo hi offs, len)) && decide ((pc : Int) + dflt = (tgt : Int))) = true) (h : x.toInt < lo ∨ hi < x.toInt) (kk : xW k S cells slots tgt ls st g) : xW k S cells slots pc ls (.int x :: st) g := by
  obtain ⟨hc, hcc, -⟩ := A
  obtain ⟨p, l, e, R, s, m, args, below, meth, c, Q, cc0, nL, ow, D, cA, b0, fz⟩ := k
  obtain rfl : cc0 = cc := hcc
  simp only [Bool.and_eq_true, decide_eq_true_eq] at hd
  exact fun H locs La hn hL hP hS => lv_tableOut hc.1 hc.2.1 hd.1 h hd.2 (kk H locs La hn hL hP hS)
theorem xtabIn (A : xAt k cc own SH S) {dflt lo hi off : Int} {offs : Array Int} {len tgt : Nat} {x : Int32} (z : Int) (hz : x.toInt = z) (hd : (decide (decode cc pc = .ok (.tableswitch dflt lo hi offs, len)) && decide (¬ z < lo) && decide (¬ hi < z) && decide (offs[(z - lo).toNat]? = some off) && decide ((pc : Int) + off = (tgt : Int))) = true) (kk : xW k S cells slots tgt ls st g) : xW k S cells slots pc ls (.int x :: st) g := by
  obtain ⟨hc, hcc, -⟩ := A
  obtain ⟨p, l, e, R, s, m, args, below, meth, c, Q, cc0, nL, ow, D, cA, b0, fz⟩ := k
  obtain rfl : cc0 = cc := hcc
  simp only [Bool.and_eq_true, decide_eq_true_eq] at hd
  obtain ⟨⟨⟨⟨h1, h2⟩, h3⟩, h4⟩, h5⟩ := hd
  subst hz
  exact fun H locs La hn hL hP hS => lv_tableIn hc.1 hc.2.1 h1 h2 h3 h4 h5 (kk H locs La hn hL hP hS)
end
/-- the end of a method: its answer and its world -/
def xQ (D : va_G) (cA : FieldType → ClassId) (b0 : Nat) (fz : Nat → Value) (S' : List xSh) (Qp : Option Value → xG → Prop) : Array Value → State → Outcome → State → Prop := fun _ st o t =>
  ∃ (r : Option Value) (g' : xG), o = .returned (r.map (xad b0 fz)) ∧ Qp r g' ∧ t.heap.size = b0 + S'.length ∧ va_P D vwCl (xWd b0 fz cA S' g') t.heap ∧ ∀ q : Nat, q < b0 → t.heap[q]? = st.heap[q]?
def xPre (D : va_G) (cA : FieldType → ClassId) (b0 : Nat) (fz : Nat → Value) (S : List xSh) (av : List Value) (g : xG) : Array Value → State → Prop := fun v U =>
  v = (av.map (xad b0 fz)).toArray ∧ U.heap.size = b0 + S.length ∧ va_P D vwCl (xWd b0 fz cA S g) U.heap ∧ va_K D vwCl (xtys cA) U ∧ xFz b0 fz U
/-- a contract: F frames, L words of locals, mc cells of ms slots; from S, arguments av, world g to S' and an answer and a world with Qp -/
def xC (M : xM) (F L mc ms : Nat) (S : List xSh) (av : List Value) (g : xG) (S' : List xSh) (Qp : Option Value → xG → Prop) : Prop :=
  ∀ (l : Launch) (D : va_G) (cA : FieldType → ClassId) (b0 : Nat) (fz : Nat → Value), Met l M.1 (.code M.1 M.2.1 M.2.2.1 M.2.2.2 :: xTT) { frames := F, cells := mc, slots := ms, locals := L } (xPre D cA b0 fz S av g) (xQ D cA b0 fz S' Qp) mc ms (xAb b0)
/-- how a walk may end -/
def xRet (k : xK) (mc ms : Nat) (S' : List xSh) (Qp : Option Value → xG → Prop) (ret : Option FieldType) : Prop := match k with
  | (_, _, _, _, s, _, args, below, meth, _, Q, _, _, _, D, cA, b0, fz) => Q = MQ below (xQ D cA b0 fz S' Qp) args s mc ms (xAb b0) ∧ meth.locks = false ∧ meth.sig.returnType = ret
def xhs (k : xK) : Nat := match k with
  | (_, _, _, _, s, _) => s.heap.size
def xb0 (k : xK) : Nat := k.2.2.2.2.2.2.2.2.2.2.2.2.2.2.2.2.1
theorem xW_size {p : Program} {l : Launch} {e : Env} {R : Room} {s : State} {m : MethodId} {args : Array Value} {below : List Frame} {meth : Method} {c : Code} {H : Heap} {locs : List Loc} {cells slots : Nat} {Q : State → Prop} {g : JFrame} (h : H.size ≤ s.heap.size + cells → W p l e R s m args below meth c H locs cells slots Q g) : W p l e R s m args below meth c H locs cells slots Q g :=
  fun T hT X => h (by rw [← hT]; exact X.same.2.2.1) T hT X
theorem xWd_low {b0 : Nat} {fz : Nat → Value} {cA : FieldType → ClassId} {D : va_G} {S : List xSh} {g : xG} {H : Heap} (hb : b0 ≤ H.size) (hP : va_P D vwCl (xWd b0 fz cA S g) H) : b0 + S.length ≤ H.size := by
  cases h : S.length with
  | zero => simpa using hb
  | succ n =>
    have h1 : S[n]? = some (S[n]'(by omega)) := List.getElem?_eq_getElem (by omega)
    have := (hP n _ (xWd_get h1)).lt
    simp at this
    omega
theorem xC.of {M : xM} {F L mc ms : Nat} {S S' : List xSh} {av : List Value} {g : xG} {Qp : Option Value → xG → Prop} (own : Nat) (SH : List xSh) (ls : List (Option Value)) (hpre : ∀ (q : Nat) (c : xSh), SH[q]? = some c → S[q]? = some c) (hy : (plainName M.1.cls && decide (M.1.cls = xnm own)) = true) (hy3 : ls.length = M.2.2.1) (hlen : ∀ b0 fz, (lg_sl (av.map (xad b0 fz))).length ≤ M.2.2.1) (hls : ∀ b0 fz, xlc b0 fz 0 ls = lv_args 0 (av.map (xad b0 fz)))
    (body : ∀ k : xK, xAt k M.2.1 own SH S → xRet k mc ms S' Qp M.2.2.2 → xrm k = { frames := F, cells := mc, slots := ms, locals := L } → xhs k = xb0 k + S.length → xW k S 0 0 0 ls [] g) : xC M F L mc ms S av g S' Qp := by
  intro l D cA b0 fz
  simp only [Bool.and_eq_true, decide_eq_true_eq] at hy
  obtain ⟨hy1, hy2⟩ := hy
  refine Met.ofW (cc := M.2.1) (maxL := M.2.2.1) (ret := M.2.2.2) hy1 rfl ?_
  intro p e s m args below meth c s₁ B hml hv
  obtain ⟨rfl, hsz, hP, hK, hF⟩ := hv
  have hts : ∀ w ∈ xTT, w.before (av.map (xad b0 fz)).toArray s = true := fun w hw => atoms_spec (ws := .code M.1 M.2.1 M.2.2.1 M.2.2.2 :: xTT) B.pre w (List.mem_cons_of_mem _ hw)
  have hown : s.vm.findClass M.1.cls = some m.cls := findClass_of_methodNamed B.named
  rw [lg_entry_eq]
  refine body (p, l, e, { frames := F, cells := mc, slots := ms, locals := L }, s, m, (av.map (xad b0 fz)).toArray, below, meth, c, _, M.2.1, M.2.2.1, M.1.cls, D, cA, b0, fz) ⟨⟨B.exec, B.bytes, hml, hown, hts, hK, hF, by omega⟩, rfl, hy2, hpre⟩ ⟨rfl, B.notSynchronized, B.returns⟩ rfl hsz s.heap [] _ hy3 ?_ hP va_S.rf
  rw [hls]
  exact lv_entry _ (hlen b0 fz)
section
variable {k : xK} {cc : ByteArray} {own : Nat} {SH S S' : List xSh} {cells slots pc mc ms : Nat} {ls : List (Option Value)} {g : xG} {Qp : Option Value → xG → Prop}
theorem xret_end {p : Program} {l : Launch} {e : Env} {R : Room} {s : State} {m : MethodId} {args : Array Value} {below : List Frame} {meth : Method} {c : Code} {Q : State → Prop} {cc0 : ByteArray} {nL : Nat} {ow : String} {D : va_G} {cA : FieldType → ClassId} {b0 : Nat} {fz : Nat → Value} {H : Heap} {locs : List Loc} {r : Option Value} (hc : xCtx (p, l, e, R, s, m, args, below, meth, c, Q, cc0, nL, ow, D, cA, b0, fz)) (hq : Qp r g) (hsz : s.heap.size + mc = b0 + S'.length) (hP : va_P D vwCl (xWd b0 fz cA S' g) H) (hS : va_S (xAb b0) s.heap H locs) (hle : H.size ≤ s.heap.size + mc) : ∀ t : State, t.heap = H → xQ D cA b0 fz S' Qp args s (.returned (r.map (xad b0 fz))) t := by
  intro t ht
  have hb : b0 ≤ s.heap.size := hc.2.2.2.2.2.2.2
  refine ⟨r, g, rfl, hq, ?_, by rw [ht]; exact hP, fun q hqb => by rw [ht]; exact hS.2.1 q (by omega) (Nat.not_le.mpr hqb)⟩
  have := xWd_low (Nat.le_trans hb hS.1) hP
  rw [ht]
  omega
theorem xret_i (A : xAt k cc own SH S) {x : Int32} {rt : FieldType} (h : xRet k mc ms S' Qp (some rt)) (hsz : xhs k + mc = xb0 k + S'.length) (hd : decode cc pc = .ok (.ireturn, 1)) (hn : narrow rt (.int x) = .int x) (hq : Qp (some (.int x)) g) : xW k S' mc ms pc ls [.int x] g := by
  obtain ⟨hc, hcc, -⟩ := A
  obtain ⟨p, l, e, R, s, m, args, below, meth, c, Q, cc0, nL, ow, D, cA, b0, fz⟩ := k
  obtain rfl : cc0 = cc := hcc
  obtain ⟨rfl, hlk, hr⟩ := h
  exact fun H locs La hn2 hL hP hS => xW_size fun hle => W.zret hc.1 hc.2.1 hr hn (fun t ht _ => xret_end (r := some (.int x)) hc hq hsz hP hS hle t ht) hS.2.2 hd hlk
theorem xret_l (A : xAt k cc own SH S) {x : Int64} (h : xRet k mc ms S' Qp (some .long)) (hsz : xhs k + mc = xb0 k + S'.length) (hd : decode cc pc = .ok (.lreturn, 1)) (hq : Qp (some (.long x)) g) : xW k S' mc ms pc ls [.long x] g := by
  obtain ⟨hc, hcc, -⟩ := A
  obtain ⟨p, l, e, R, s, m, args, below, meth, c, Q, cc0, nL, ow, D, cA, b0, fz⟩ := k
  obtain rfl : cc0 = cc := hcc
  obtain ⟨rfl, hlk, hr⟩ := h
  exact fun H locs La hn2 hL hP hS => xW_size fun hle => W.lret hc.1 hc.2.1 hr (fun t ht _ => xret_end (r := some (.long x)) hc hq hsz hP hS hle t ht) hS.2.2 hd hlk
theorem xret_v (A : xAt k cc own SH S) (h : xRet k mc ms S' Qp none) (hsz : xhs k + mc = xb0 k + S'.length) (hd : decode cc pc = .ok (.return_, 1)) (hq : Qp none g) : xW k S' mc ms pc ls [] g := by
  obtain ⟨hc, hcc, -⟩ := A
  obtain ⟨p, l, e, R, s, m, args, below, meth, c, Q, cc0, nL, ow, D, cA, b0, fz⟩ := k
  obtain rfl : cc0 = cc := hcc
  obtain ⟨rfl, hlk, hr⟩ := h
  exact fun H locs La hn2 hL hP hS => xW_size fun hle => W.vret hc.1 hc.2.1 hr (fun t ht _ => xret_end (r := none) hc hq hsz hP hS hle t ht) hS.2.2 hd hlk
theorem xret_a (A : xAt k cc own SH S) {q : Nat} {n : String} (h : xRet k mc ms S' Qp (some (.object n))) (hsz : xhs k + mc = xb0 k + S'.length) (hd : decode cc pc = .ok (.areturn, 1)) (hq : Qp (some (.ref q)) g) : xW k S' mc ms pc ls [.ref q] g := by
  obtain ⟨hc, hcc, -⟩ := A
  obtain ⟨p, l, e, R, s, m, args, below, meth, c, Q, cc0, nL, ow, D, cA, b0, fz⟩ := k
  obtain rfl : cc0 = cc := hcc
  obtain ⟨rfl, hlk, hr⟩ := h
  exact fun H locs La hn2 hL hP hS => xW_size fun hle => W.aret hc.1 hc.2.1 hr (Or.inl ⟨_, rfl⟩) (Or.inr ⟨_, rfl⟩) (fun t ht _ => xret_end (r := some (.ref q)) hc hq hsz hP hS hle t ht) hS.2.2 hd hlk
end
