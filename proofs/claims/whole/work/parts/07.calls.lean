/-! rows of calls -/
theorem xFz.blind {b0 : Nat} {fz : Nat → Value} {U V : State} (hv : U.vm = V.vm) (hh : U.heap = V.heap) (h : xFz b0 fz U) : xFz b0 fz V := by
  obtain ⟨h0, h1, h2, h3, adK, adV, h4, e0, e1, e2, e3, r0, r1⟩ := h
  have ha : U.vm.Alike V.vm := by rw [hv]; exact Vm.Alike.refl _
  rw [hh] at h2 h3 h4
  exact ⟨h0, fun q hq => va_Nw.same rfl hv (h1 q hq), h2.moved ha, h3.moved ha, adK, adV, h4.moved ha, e0, e1, e2, e3, vk_R.same hv.symm r0, vk_R.same hv.symm r1⟩
theorem xFz.call {b0 : Nat} {fz : Nat → Value} {s U : State} {H : Heap} {locs : List Loc} (h : xFz b0 fz s) (hS : va_S (xAb b0) s.heap H locs) (hU : U.heap = H) (hW : s.WarmedH U.vm) : xFz b0 fz U := by
  obtain ⟨h0, h1, h2, h3, adK, adV, h4, e0, e1, e2, e3, r0, r1⟩ := h
  have ha := hW.alike
  subst hU
  exact ⟨h0, fun q hq => va_Nw.warmM hW (h1 q hq), (h2.kept hS.2.1).moved ha, (h3.kept hS.2.1).moved ha, adK, adV, (h4.kept hS.2.1).moved ha, e0, e1, e2, e3, vk_R.warm hW r0, vk_R.warm hW r1⟩
theorem xPre_blind {D : va_G} {cA : FieldType → ClassId} {b0 : Nat} {fz : Nat → Value} {S : List xSh} {av : List Value} {g : xG} : FrameBlind (xPre D cA b0 fz S av g) := fun a U f mk ⟨h1, h2, h3, h4, h5⟩ =>
  ⟨h1, h2, h3, va_K.moved (u := U) (U := U.calling f mk a) (Vm.Alike.refl U.vm) h4, xFz.blind (U := U) (V := U.calling f mk a) rfl rfl h5⟩
def xcat (l : List Value) : Nat := match l with
  | [] => 0
  | v :: t => v.category + xcat t
theorem xcat_ok {b0 : Nat} {fz : Nat → Value} (hf : ∀ u, fz u = .null ∨ ∃ a, fz u = .ref a) : ∀ l : List Value, ((l.map (xad b0 fz)).map fun v => v.category).sum = xcat l
  | [] => rfl
  | v :: t => by simp [xcat, xad_cat hf, ← xcat_ok (b0 := b0) hf t]
/-- what stands in the tables of a method that is called -/
def xmfV (M : xM) (n : Nat) : Prop := Cond.code M.1 M.2.1 M.2.2.1 M.2.2.2 ∈ xTT ∧ Cond.instanceMethod M.1 ∈ xTT ∧ Cond.selects M.1.cls M.1 M.1 ∈ xTT ∧ Cond.initialized M.1.cls ∈ xTT ∧ (M.1.cls ≠ "java/lang/invoke/MethodHandle" ∧ M.1.cls ≠ "java/lang/invoke/VarHandle") ∧ (parseMethodDescriptor M.1.desc).map (fun d => d.parameters.length) = some n
def xmfS (M : xM) (n : Nat) : Prop := Cond.code M.1 M.2.1 M.2.2.1 M.2.2.2 ∈ xTT ∧ Cond.static M.1 ∈ xTT ∧ Cond.initialized M.1.cls ∈ xTT ∧ (M.1.cls ≠ "java/lang/invoke/MethodHandle" ∧ M.1.cls ≠ "java/lang/invoke/VarHandle") ∧ (parseMethodDescriptor M.1.desc).map (fun d => d.parameters.length) = some n
def xmfI (M : xM) (n : Nat) : Prop := (Cond.code M.1 M.2.1 M.2.2.1 M.2.2.2 ∈ xTT ∧ M.2.2.2 = none) ∧ (Cond.instanceMethod M.1 ∈ xTT ∧ M.1.name = "<init>") ∧ Cond.initialized M.1.cls ∈ xTT ∧ (M.1.cls ≠ "java/lang/invoke/MethodHandle" ∧ M.1.cls ≠ "java/lang/invoke/VarHandle") ∧ (parseMethodDescriptor M.1.desc).map (fun d => d.parameters.length) = some n
def xcw (i : Nat) (w : Cond) : Bool := decide (lw_tbl[i]? = some w) && goodWord w
theorem xcw_ok {i : Nat} {w : Cond} (h : xcw i w = true) : w ∈ xTT := by
  simp only [xcw, Bool.and_eq_true, decide_eq_true_eq] at h
  exact xTT_of _ h
theorem xmfV_of {M : xM} {n : Nat} (a b c d : Nat) (h : (xcw a (.code M.1 M.2.1 M.2.2.1 M.2.2.2) && xcw b (.instanceMethod M.1) && xcw c (.selects M.1.cls M.1 M.1) && xcw d (.initialized M.1.cls) && decide (M.1.cls ≠ "java/lang/invoke/MethodHandle") && decide (M.1.cls ≠ "java/lang/invoke/VarHandle") && decide ((parseMethodDescriptor M.1.desc).map (fun d => d.parameters.length) = some n)) = true) : xmfV M n := by
  simp only [Bool.and_eq_true, decide_eq_true_eq] at h
  obtain ⟨⟨⟨⟨⟨⟨h1, h2⟩, h3⟩, h4⟩, h5⟩, h6⟩, h7⟩ := h
  exact ⟨xcw_ok h1, xcw_ok h2, xcw_ok h3, xcw_ok h4, ⟨h5, h6⟩, h7⟩
theorem xmfS_of {M : xM} {n : Nat} (a b d : Nat) (h : (xcw a (.code M.1 M.2.1 M.2.2.1 M.2.2.2) && xcw b (.static M.1) && xcw d (.initialized M.1.cls) && decide (M.1.cls ≠ "java/lang/invoke/MethodHandle") && decide (M.1.cls ≠ "java/lang/invoke/VarHandle") && decide ((parseMethodDescriptor M.1.desc).map (fun d => d.parameters.length) = some n)) = true) : xmfS M n := by
  simp only [Bool.and_eq_true, decide_eq_true_eq] at h
  obtain ⟨⟨⟨⟨⟨h1, h2⟩, h4⟩, h5⟩, h6⟩, h7⟩ := h
  exact ⟨xcw_ok h1, xcw_ok h2, xcw_ok h4, ⟨h5, h6⟩, h7⟩
theorem xmfI_of {M : xM} {n : Nat} (a b d : Nat) (h : (xcw a (.code M.1 M.2.1 M.2.2.1 M.2.2.2) && decide (M.2.2.2 = none) && xcw b (.instanceMethod M.1) && decide (M.1.name = "<init>") && xcw d (.initialized M.1.cls) && decide (M.1.cls ≠ "java/lang/invoke/MethodHandle") && decide (M.1.cls ≠ "java/lang/invoke/VarHandle") && decide ((parseMethodDescriptor M.1.desc).map (fun d => d.parameters.length) = some n)) = true) : xmfI M n := by
  simp only [Bool.and_eq_true, decide_eq_true_eq] at h
  obtain ⟨⟨⟨⟨⟨⟨⟨h1, h0⟩, h2⟩, h3⟩, h4⟩, h5⟩, h6⟩, h7⟩ := h
  exact ⟨⟨xcw_ok h1, h0⟩, ⟨xcw_ok h2, h3⟩, xcw_ok h4, ⟨h5, h6⟩, h7⟩
theorem xdesc {M : xM} {n : Nat} (h : (parseMethodDescriptor M.1.desc).map (fun d => d.parameters.length) = some n) : ∀ sig, parseMethodDescriptor M.1.desc = some sig → n = sig.parameters.length := fun sig e => by
  rw [e] at h
  exact (Option.some.inj h).symm
/-- a call site: its decoding, its link's word, the room -/
def xsite (cc : ByteArray) (pc nxt : Nat) (ins : ClassFile.Instr) (lk : Nat) (w : Cond) (F L F0 L0 maxL : Nat) : Bool := decide (decode cc pc = .ok (ins, 3)) && Nat.beq (pc + 3) nxt && xcw lk w && Nat.ble (F + 1) F0 && Nat.ble (19 + maxL + L) L0
theorem xsite_ok {cc : ByteArray} {pc nxt : Nat} {ins : ClassFile.Instr} {lk : Nat} {w : Cond} {F L F0 L0 maxL : Nat} (h : xsite cc pc nxt ins lk w F L F0 L0 maxL = true) : decode cc pc = .ok (ins, 3) ∧ nxt = pc + 3 ∧ w ∈ xTT ∧ F + 1 ≤ F0 ∧ 8 + (maxL + 11) + L ≤ L0 := by
  simp only [xsite, Bool.and_eq_true, decide_eq_true_eq, Nat.beq_eq, Nat.ble_eq] at h
  obtain ⟨⟨⟨⟨h1, h2⟩, h3⟩, h4⟩, h5⟩ := h
  exact ⟨h1, h2.symm, xcw_ok h3, h4, by omega⟩
def xsiteN (cc : ByteArray) (pc nxt : Nat) (ins : ClassFile.Instr) (own ix lk : Nat) (y : MethodName) (host : String) (F L F0 L0 maxL : Nat) : Bool := decide (decode cc pc = .ok (ins, 3)) && Nat.beq (pc + 3) nxt && decide (xNest[lk]? = some (xnm own, ix, y, host)) && Nat.ble (F + 1) F0 && Nat.ble (19 + maxL + L) L0
theorem xsiteN_ok {cc : ByteArray} {pc nxt : Nat} {ins : ClassFile.Instr} {own ix lk : Nat} {y : MethodName} {host : String} {F L F0 L0 maxL : Nat} (h : xsiteN cc pc nxt ins own ix lk y host F L F0 L0 maxL = true) : decode cc pc = .ok (ins, 3) ∧ nxt = pc + 3 ∧ (xnm own, ix, y, host) ∈ xNest ∧ F + 1 ≤ F0 ∧ 8 + (maxL + 11) + L ≤ L0 := by
  simp only [xsiteN, Bool.and_eq_true, decide_eq_true_eq, Nat.beq_eq, Nat.ble_eq] at h
  obtain ⟨⟨⟨⟨h1, h2⟩, h3⟩, h4⟩, h5⟩ := h
  exact ⟨h1, h2.symm, List.mem_of_getElem? h3, h4, by omega⟩
section
variable {p : Program} {l : Launch} {e : Env} {R : Room} {s : State} {m : MethodId} {args : Array Value} {below : List Frame} {meth : Method} {c : Code} {Q : State → Prop} {cc : ByteArray} {nL : Nat} {ow : String} {D : va_G} {cA : FieldType → ClassId} {b0 : Nat} {fz : Nat → Value} {S S1 : List xSh} {cells slots mc ms pc : Nat} {ls : List (Option Value)} {st rest : List Value} {g : xG} {Qp : Option Value → xG → Prop}
theorem xback (hc : xCtx (p, l, e, R, s, m, args, below, meth, c, Q, cc, nL, ow, D, cA, b0, fz)) {H : Heap} {locs : List Loc} {La : Array Slot} {a : Array Value} (hn : ls.length = nL) (hL : lv_has La nL (xlc b0 fz 0 ls)) (hS : va_S (xAb b0) s.heap H locs)
    (hr : va_Run p l e R s m args below meth c H locs cells slots mc ms (F0 m pc La (st.map (xad b0 fz))) (rest.map (xad b0 fz)) (xQ D cA b0 fz S1 Qp a) (xAb b0))
    (kk : ∀ (r : Option Value) (g' : xG), Qp r g' → xW (p, l, e, R, s, m, args, below, meth, c, Q, cc, nL, ow, D, cA, b0, fz) S1 (cells + mc) (slots + ms) (pc + 3) ls (r.toList ++ rest) g') : W p l e R s m args below meth c H locs cells slots Q (F0 m pc La (st.map (xad b0 fz))) := by
  intro T hT X
  obtain ⟨v, st₀, t, T', L, h0, X', hL', e1, e2, ⟨r, g', ho, hq, hsz, hP', hfr⟩, stp⟩ := hr T hT X
  have hb : b0 ≤ s.heap.size := hc.2.2.2.2.2.2.2
  obtain rfl : v = r.map (xad b0 fz) := Outcome.returned.inj ho
  obtain ⟨t2, a1, b1⟩ := kk r g' hq T'.heap (locs ++ L) La hn hL (by rw [e1]; exact hP') ⟨X'.same.2.1, fun q h1 h2 => by
      rw [e1, hfr q (Nat.not_le.mp h2), h0]
      exact hS.2.1 q h1 h2, fun q hq => by
      rcases List.mem_append.mp hq with h | h
      · exact hS.2.2 q h
      · exact hL' q h⟩ T' rfl X'
  refine ⟨t2, stp t2 ?_, b1⟩
  have e3 : (r.toList ++ rest).map (xad b0 fz) = (r.map (xad b0 fz)).toList ++ rest.map (xad b0 fz) := by cases r <;> rfl
  rw [e3] at a1
  exact a1
theorem xws (hc : xCtx (p, l, e, R, s, m, args, below, meth, c, Q, cc, nL, ow, D, cA, b0, fz)) {M : xM} (h : Cond.code M.1 M.2.1 M.2.2.1 M.2.2.2 ∈ xTT) : ∀ w ∈ (Cond.code M.1 M.2.1 M.2.2.1 M.2.2.2 :: xTT), ∀ (a' : Array Value) (U : State), s.WarmedH U.vm → w.before a' U = true :=
  pay_in hc.2.2.2.2.1 (fun w hw => by
    rcases List.mem_cons.mp hw with rfl | hw
    · exact xTT_good h
    · exact xTT_good hw)
theorem xpre (hc : xCtx (p, l, e, R, s, m, args, below, meth, c, Q, cc, nL, ow, D, cA, b0, fz)) {H : Heap} {locs : List Loc} (hsz : s.heap.size + cells = b0 + S.length) (hle : H.size ≤ s.heap.size + cells) (hP : va_P D vwCl (xWd b0 fz cA S g) H) (hS : va_S (xAb b0) s.heap H locs) (av : List Value) : ∀ U : State, U.heap = H → s.WarmedH U.vm → xPre D cA b0 fz S av g (av.map (xad b0 fz)).toArray U := by
  intro U hU hW
  have hb : b0 ≤ s.heap.size := hc.2.2.2.2.2.2.2
  have := xWd_low (Nat.le_trans hb hS.1) hP
  exact ⟨rfl, by rw [hU]; omega, by rw [hU]; exact hP, va_K.moved hW.alike hc.2.2.2.2.2.1, hc.2.2.2.2.2.2.1.call hS hU hW⟩
end
section
variable {k : xK} {cc : ByteArray} {own : Nat} {SH S S1 : List xSh} {cells slots pc mc ms F L F0' L0 C0 Z0 n : Nat} {ls : List (Option Value)} {g : xG} {Qp : Option Value → xG → Prop}
theorem xcallV (A : xAt k cc own SH S) (hrm : xrm k = { frames := F0', cells := C0, slots := Z0, locals := L0 }) (hsz : xhs k + cells = xb0 k + S.length) {M : xM} (as rest : List Value) {q ix nxt : Nat} (lk : Nat) (hM : xC M F L mc ms S (.ref q :: as) g S1 Qp) (hm : xmfV M n)
    (hd : (xsite cc pc nxt (.invokevirtual ix) lk (.methodLink (xnm own) ix M.1) F L F0' L0 M.2.2.1 && (match SH[q]? with
      | some (.inr (ci, _)) => (match vwCl[ci]? with
        | some (C, _, _) => decide (C = M.1.cls)
        | none => false)
      | _ => false) && Nat.ble (cells + mc) C0 && Nat.ble (slots + ms) Z0) = true) (hw : (Nat.beq as.length n && Nat.ble (xcat rest) 8) = true)
    (kk : ∀ (r : Option Value) (g' : xG), Qp r g' → xW k S1 (cells + mc) (slots + ms) nxt ls (r.toList ++ rest) g') : xW k S cells slots pc ls (as.reverse ++ .ref q :: rest) g := by
  obtain ⟨hc, hcc, hown, hpre⟩ := A
  obtain ⟨p, l, e, R, s, m, args, below, meth, c, Q, cc0, nL, ow, D, cA, b0, fz⟩ := k
  obtain rfl : cc0 = cc := hcc
  obtain rfl : ow = xnm own := hown
  obtain rfl : R = _ := hrm
  simp only [Bool.and_eq_true, Nat.beq_eq, Nat.ble_eq] at hd hw
  obtain ⟨⟨⟨hd1, hd2⟩, hd3⟩, hd4⟩ := hd
  obtain ⟨h1, rfl, h3, h4, h5⟩ := xsite_ok hd1
  obtain ⟨m1, m2, m3, m4, m5, m6⟩ := hm
  intro H locs La hn hL hP hS
  refine xW_size fun hle => ?_
  have hf := hc.2.2.2.2.2.2.1.1
  refine xback hc hn hL hS (va_runV (C := M.1.cls) (b := b0 + q) (As := as.map (xad b0 fz)) (n := n) (nL := nL) (bytes := M.2.1) (maxL := M.2.2.1) (ret := M.2.2.2) (own := xnm own) (index := ix) ⟨hc.1, hc.2.1, hc.2.2.1, hc.2.2.2.1, hc.2.2.2.2.1⟩ (hM l D cA b0 fz) ⟨⟨rfl, rfl, h4, h5, xws hc m1, List.mem_cons_self, hc.2.2.2.2.1 _ m1, hc.2.2.2.2.1 _ m4, m5, xdesc m6, hc.2.2.2.2.1 _ h3⟩, hc.2.2.2.2.1 _ m2, hc.2.2.2.2.1 _ m3⟩ ⟨xPre_blind, ?_, xpre hc hsz hle hP hS (.ref q :: as)⟩ rfl (by simpa using hw.1) hL.1 (by show List.map _ _ = _; simp [xad]) (lv_room (by rw [xcat_ok hf]; exact hw.2)) h1 ⟨hd3, hd4⟩) kk
  split at hd2
  next ci t hS0 =>
    split at hd2
    next C T N hci =>
      have := va_recv hc.2.2.2.2.2.1 hP hci (xWd_get (b0 := b0) (fz := fz) (cA := cA) (g := g) (hpre _ _ hS0))
      rw [← (by simpa using hd2 : C = M.1.cls)]
      exact this
    next => cases hd2
  next => cases hd2
theorem xcallS (A : xAt k cc own SH S) (hrm : xrm k = { frames := F0', cells := C0, slots := Z0, locals := L0 }) (hsz : xhs k + cells = xb0 k + S.length) {M : xM} (as rest : List Value) {ix nxt : Nat} (lk : Nat) (hM : xC M F L mc ms S as g S1 Qp) (hm : xmfS M n)
    (hd : (xsite cc pc nxt (.invokestatic ix) lk (.methodLink (xnm own) ix M.1) F L F0' L0 M.2.2.1 && Nat.ble (cells + mc) C0 && Nat.ble (slots + ms) Z0) = true) (hw : (Nat.beq as.length n && Nat.ble (xcat rest) 8) = true)
    (kk : ∀ (r : Option Value) (g' : xG), Qp r g' → xW k S1 (cells + mc) (slots + ms) nxt ls (r.toList ++ rest) g') : xW k S cells slots pc ls (as.reverse ++ rest) g := by
  obtain ⟨hc, hcc, hown, hpre⟩ := A
  obtain ⟨p, l, e, R, s, m, args, below, meth, c, Q, cc0, nL, ow, D, cA, b0, fz⟩ := k
  obtain rfl : cc0 = cc := hcc
  obtain rfl : ow = xnm own := hown
  obtain rfl : R = _ := hrm
  simp only [Bool.and_eq_true, Nat.beq_eq, Nat.ble_eq] at hd hw
  obtain ⟨⟨hd1, hd3⟩, hd4⟩ := hd
  obtain ⟨h1, rfl, h3, h4, h5⟩ := xsite_ok hd1
  obtain ⟨m1, m2, m4, m5, m6⟩ := hm
  intro H locs La hn hL hP hS
  refine xW_size fun hle => ?_
  have hf := hc.2.2.2.2.2.2.1.1
  exact xback hc hn hL hS (va_runS (As := as.map (xad b0 fz)) (n := n) (nL := nL) (bytes := M.2.1) (maxL := M.2.2.1) (ret := M.2.2.2) (own := xnm own) (index := ix) ⟨hc.1, hc.2.1, hc.2.2.1, hc.2.2.2.1, hc.2.2.2.2.1⟩ (hM l D cA b0 fz) ⟨⟨rfl, rfl, h4, h5, xws hc m1, List.mem_cons_self, hc.2.2.2.2.1 _ m1, hc.2.2.2.2.1 _ m4, m5, xdesc m6, hc.2.2.2.2.1 _ h3⟩, hc.2.2.2.2.1 _ m2⟩ ⟨xPre_blind, xpre hc hsz hle hP hS as⟩ rfl (by simpa using hw.1) hL.1 (by show List.map _ _ = _; simp) (lv_room (by rw [xcat_ok hf]; exact hw.2)) h1 ⟨hd3, hd4⟩) kk
theorem xcallSN (A : xAt k cc own SH S) (hrm : xrm k = { frames := F0', cells := C0, slots := Z0, locals := L0 }) (hsz : xhs k + cells = xb0 k + S.length) {M : xM} (as rest : List Value) {ix nxt : Nat} (lk : Nat) {host : String} (hM : xC M F L mc ms S as g S1 Qp) (hm : xmfS M n)
    (hd : (xsiteN cc pc nxt (.invokestatic ix) own ix lk M.1 host F L F0' L0 M.2.2.1 && Nat.ble (cells + mc) C0 && Nat.ble (slots + ms) Z0) = true) (hw : (Nat.beq as.length n && Nat.ble (xcat rest) 8) = true)
    (kk : ∀ (r : Option Value) (g' : xG), Qp r g' → xW k S1 (cells + mc) (slots + ms) nxt ls (r.toList ++ rest) g') : xW k S cells slots pc ls (as.reverse ++ rest) g := by
  obtain ⟨hc, hcc, hown, hpre⟩ := A
  obtain ⟨p, l, e, R, s, m, args, below, meth, c, Q, cc0, nL, ow, D, cA, b0, fz⟩ := k
  obtain rfl : cc0 = cc := hcc
  obtain rfl : ow = xnm own := hown
  obtain rfl : R = _ := hrm
  simp only [Bool.and_eq_true, Nat.beq_eq, Nat.ble_eq] at hd hw
  obtain ⟨⟨hd1, hd3⟩, hd4⟩ := hd
  obtain ⟨h1, rfl, h3, h4, h5⟩ := xsiteN_ok hd1
  obtain ⟨m1, m2, m4, m5, m6⟩ := hm
  intro H locs La hn hL hP hS
  refine xW_size fun hle => ?_
  have hf := hc.2.2.2.2.2.2.1.1
  exact xback hc hn hL hS (va_runSN (As := as.map (xad b0 fz)) (n := n) (nL := nL) (bytes := M.2.1) (maxL := M.2.2.1) (ret := M.2.2.2) (own := xnm own) (host := host) (index := ix) ⟨hc.1, hc.2.1, hc.2.2.1, hc.2.2.2.1, hc.2.2.2.2.1⟩ (hM l D cA b0 fz) ⟨⟨⟨rfl, rfl, h4, h5, xws hc m1, List.mem_cons_self⟩, hc.2.2.2.2.1 _ m1, hc.2.2.2.2.1 _ m4, m5, xdesc m6, va_Nw.use rfl (hc.2.2.2.2.2.2.1.2.1 _ h3)⟩, hc.2.2.2.2.1 _ m2, trivial⟩ ⟨xPre_blind, xpre hc hsz hle hP hS as⟩ rfl (by simpa using hw.1) hL.1 (by show List.map _ _ = _; simp) (lv_room (by rw [xcat_ok hf]; exact hw.2)) h1 ⟨hd3, hd4⟩) kk
theorem xcallI (A : xAt k cc own SH S) (hrm : xrm k = { frames := F0', cells := C0, slots := Z0, locals := L0 }) (hsz : xhs k + cells = xb0 k + S.length) {M : xM} (as rest : List Value) {q ix nxt : Nat} (lk : Nat) (hM : xC M F L mc ms S (.ref q :: as) g S1 Qp) (hm : xmfI M n)
    (hd : (xsite cc pc nxt (.invokespecial ix) lk (.methodLink (xnm own) ix M.1) F L F0' L0 M.2.2.1 && Nat.ble (cells + mc) C0 && Nat.ble (slots + ms) Z0) = true) (hw : (Nat.beq as.length n && Nat.ble (xcat rest) 8) = true)
    (kk : ∀ (r : Option Value) (g' : xG), Qp r g' → xW k S1 (cells + mc) (slots + ms) nxt ls (r.toList ++ rest) g') : xW k S cells slots pc ls (as.reverse ++ .ref q :: rest) g := by
  obtain ⟨hc, hcc, hown, hpre⟩ := A
  obtain ⟨p, l, e, R, s, m, args, below, meth, c, Q, cc0, nL, ow, D, cA, b0, fz⟩ := k
  obtain rfl : cc0 = cc := hcc
  obtain rfl : ow = xnm own := hown
  obtain rfl : R = _ := hrm
  simp only [Bool.and_eq_true, Nat.beq_eq, Nat.ble_eq] at hd hw
  obtain ⟨⟨hd1, hd3⟩, hd4⟩ := hd
  obtain ⟨h1, rfl, h3, h4, h5⟩ := xsite_ok hd1
  obtain ⟨⟨m1, m0⟩, ⟨m2, m3⟩, m4, m5, m6⟩ := hm
  intro H locs La hn hL hP hS
  refine xW_size fun hle => ?_
  have hf := hc.2.2.2.2.2.2.1.1
  exact xback hc hn hL hS (va_runI (b := b0 + q) (As := as.map (xad b0 fz)) (n := n) (nL := nL) (bytes := M.2.1) (maxL := M.2.2.1) (own := xnm own) (index := ix) ⟨hc.1, hc.2.1, hc.2.2.1, hc.2.2.2.1, hc.2.2.2.2.1⟩ (hM l D cA b0 fz) ⟨⟨rfl, rfl, h4, h5, xws hc m1, by rw [← m0]; exact List.mem_cons_self, by rw [← m0]; exact hc.2.2.2.2.1 _ m1, hc.2.2.2.2.1 _ m4, m5, xdesc m6, hc.2.2.2.2.1 _ h3⟩, m3, hc.2.2.2.2.1 _ m2⟩ ⟨xPre_blind, xpre hc hsz hle hP hS (.ref q :: as)⟩ rfl (by simpa using hw.1) hL.1 (by show List.map _ _ = _; simp [xad]) (lv_room (by rw [xcat_ok hf]; exact hw.2)) h1 ⟨hd3, hd4⟩) kk
theorem xcallIN (A : xAt k cc own SH S) (hrm : xrm k = { frames := F0', cells := C0, slots := Z0, locals := L0 }) (hsz : xhs k + cells = xb0 k + S.length) {M : xM} (as rest : List Value) {q ix nxt : Nat} (lk : Nat) {host : String} (hM : xC M F L mc ms S (.ref q :: as) g S1 Qp) (hm : xmfI M n)
    (hd : (xsiteN cc pc nxt (.invokespecial ix) own ix lk M.1 host F L F0' L0 M.2.2.1 && Nat.ble (cells + mc) C0 && Nat.ble (slots + ms) Z0) = true) (hw : (Nat.beq as.length n && Nat.ble (xcat rest) 8) = true)
    (kk : ∀ (r : Option Value) (g' : xG), Qp r g' → xW k S1 (cells + mc) (slots + ms) nxt ls (r.toList ++ rest) g') : xW k S cells slots pc ls (as.reverse ++ .ref q :: rest) g := by
  obtain ⟨hc, hcc, hown, hpre⟩ := A
  obtain ⟨p, l, e, R, s, m, args, below, meth, c, Q, cc0, nL, ow, D, cA, b0, fz⟩ := k
  obtain rfl : cc0 = cc := hcc
  obtain rfl : ow = xnm own := hown
  obtain rfl : R = _ := hrm
  simp only [Bool.and_eq_true, Nat.beq_eq, Nat.ble_eq] at hd hw
  obtain ⟨⟨hd1, hd3⟩, hd4⟩ := hd
  obtain ⟨h1, rfl, h3, h4, h5⟩ := xsiteN_ok hd1
  obtain ⟨⟨m1, m0⟩, ⟨m2, m3⟩, m4, m5, m6⟩ := hm
  intro H locs La hn hL hP hS
  refine xW_size fun hle => ?_
  have hf := hc.2.2.2.2.2.2.1.1
  exact xback hc hn hL hS (va_runIN (b := b0 + q) (As := as.map (xad b0 fz)) (n := n) (nL := nL) (bytes := M.2.1) (maxL := M.2.2.1) (own := xnm own) (host := host) (index := ix) ⟨hc.1, hc.2.1, hc.2.2.1, hc.2.2.2.1, hc.2.2.2.2.1⟩ (hM l D cA b0 fz) ⟨⟨⟨rfl, rfl, h4, h5, xws hc m1, by rw [← m0]; exact List.mem_cons_self⟩, by rw [← m0]; exact hc.2.2.2.2.1 _ m1, hc.2.2.2.2.1 _ m4, m5, xdesc m6, va_Nw.use rfl (hc.2.2.2.2.2.2.1.2.1 _ h3)⟩, m3, hc.2.2.2.2.1 _ m2⟩ ⟨xPre_blind, xpre hc hsz hle hP hS (.ref q :: as)⟩ rfl (by simpa using hw.1) hL.1 (by show List.map _ _ = _; simp [xad]) (lv_room (by rw [xcat_ok hf]; exact hw.2)) h1 ⟨hd3, hd4⟩) kk
end
