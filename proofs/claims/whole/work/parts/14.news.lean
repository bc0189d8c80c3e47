/-! rows of constructors: new, newarray, a final field, Object's own -/
def xinit (k : xK) : Prop := match k with
  | (_, _, _, _, _, _, _, _, meth, _) => meth.name = "<init>"
theorem xC.ofI {M : xM} {F L mc ms : Nat} {S S' : List xSh} {av : List Value} {g : xG} {Qp : Option Value → xG → Prop} (own : Nat) (ls : List (Option Value)) (hy : (plainName M.1.cls && decide (M.1.cls = xnm own) && decide (M.1.name = "<init>")) = true) (hy3 : ls.length = M.2.2.1) (hlen : ∀ b0 fz, (lg_sl (av.map (xad b0 fz))).length ≤ M.2.2.1) (hls : ∀ b0 fz, xlc b0 fz 0 ls = lv_args 0 (av.map (xad b0 fz)))
    (body : ∀ k : xK, xAt k M.2.1 own S S → xRet k mc ms S' Qp M.2.2.2 → xrm k = { frames := F, cells := mc, slots := ms, locals := L } → xhs k = xb0 k + S.length → xinit k → xW k S 0 0 0 ls [] g) : xC M F L mc ms S av g S' Qp := by
  intro l D cA b0 fz
  simp only [Bool.and_eq_true, decide_eq_true_eq] at hy
  obtain ⟨⟨hy1, hy2⟩, hy4⟩ := hy
  refine Met.ofW (cc := M.2.1) (maxL := M.2.2.1) (ret := M.2.2.2) hy1 rfl ?_
  intro p e s m args below meth c s₁ B hml hv
  obtain ⟨rfl, hsz, hP, hK, hF⟩ := hv
  have hts : ∀ w ∈ xTT, w.before (av.map (xad b0 fz)).toArray s = true := fun w hw => atoms_spec (ws := .code M.1 M.2.1 M.2.2.1 M.2.2.2 :: xTT) B.pre w (List.mem_cons_of_mem _ hw)
  have hown : s.vm.findClass M.1.cls = some m.cls := findClass_of_methodNamed B.named
  rw [lg_entry_eq]
  refine body (p, l, e, { frames := F, cells := mc, slots := ms, locals := L }, s, m, (av.map (xad b0 fz)).toArray, below, meth, c, _, M.2.1, M.2.2.1, M.1.cls, D, cA, b0, fz) ⟨⟨B.exec, B.bytes, hml, hown, hts, hK, hF, by omega⟩, rfl, hy2, fun _ _ h => h⟩ ⟨rfl, B.notSynchronized, B.returns⟩ rfl hsz ((name_of_methodNamed B.named B.method).1.trans hy4) s.heap [] _ hy3 ?_ hP va_S.rf
  rw [hls]
  exact lv_entry _ (hlen b0 fz)
theorem xmv {k : xK} {cc : ByteArray} {own : Nat} {SH S : List xSh} (A : xAt k cc own SH S) (S' : List xSh) : xAt k cc own S' S' := ⟨A.1, A.2.1, A.2.2.1, fun _ _ h => h⟩
theorem xmvp {k : xK} {cc : ByteArray} {own : Nat} {SH S SH' S' : List xSh} (A : xAt k cc own SH S) (h : xpf SH' S') : xAt k cc own SH' S' := ⟨A.1, A.2.1, A.2.2.1, h⟩
theorem xWd_push {b0 : Nat} {fz : Nat → Value} {cA : FieldType → ClassId} {S : List xSh} {g g' : xG} {c : xSh} (h1 : ∀ q, q ≠ S.length → g'.1 q = g.1 q) (h2 : ∀ q, q ≠ S.length → g'.2 q = g.2 q) : xWd b0 fz cA (S ++ [c]) g' = xWd b0 fz cA S g ++ [(b0 + S.length, xE b0 fz cA g' S.length c)] := by
  apply List.ext_getElem?
  intro j
  by_cases hj : j < S.length
  · rw [List.getElem?_append_left (by simpa [xWd] using hj)]
    simp only [xWd, List.getElem?_mapIdx]
    rw [List.getElem?_append_left hj]
    cases hS : S[j]? with
    | none => rfl
    | some d =>
      simp only [Option.map_some]
      have e1 := h1 j (by omega)
      have e2 := h2 j (by omega)
      obtain ⟨ty, n⟩ | ⟨ci, t⟩ := d
      · cases ty <;> simp [xE, e1, e2]
      · simp [xE, e1]
  · rw [List.getElem?_append_right (by simpa [xWd] using Nat.le_of_not_lt hj)]
    simp only [xWd, List.getElem?_mapIdx]
    rw [List.getElem?_append_right (Nat.le_of_not_lt hj)]
    simp only [List.length_mapIdx]
    by_cases hj2 : j = S.length
    · subst hj2; simp
    · have : 1 ≤ j - S.length := by omega
      rw [List.getElem?_eq_none (by simpa using this), List.getElem?_eq_none (by simpa using this)]
      rfl
def xzd (t : List Value) (ty : Nat → FieldType) (N : Nat) : Bool := Nat.beq t.length N && (List.range N).all (fun j => match t.getD j .null with
  | .int _ => decide (defaultValue (ty j) = .int 0)
  | .null => decide (defaultValue (ty j) = .null)
  | _ => false)
theorem xzd_ok {b0 : Nat} {fz : Nat → Value} {t : List Value} {ty : Nat → FieldType} {N : Nat} (h : xzd t ty N = true) : ∀ j, j < N → defaultValue (ty j) = vp_V (xfs b0 fz (fun _ => 0) t) j := by
  intro j hj
  simp only [xzd, Bool.and_eq_true, Nat.beq_eq, List.all_eq_true, List.mem_range] at h
  have h2 := h.2 j hj
  have hlt : j < t.length := h.1 ▸ hj
  simp only [vp_V, xfs, List.getD_eq_getElem?_getD, List.getElem?_mapIdx, List.getElem?_eq_getElem hlt, Option.map_some, Option.getD_some] at h2 ⊢
  generalize t[j] = v at h2 ⊢
  cases v <;> simp_all [xfv, xad]
theorem xobj_in : Cond.instanceMethod objectInit ∈ xTT := xcw_ok (i := 139) (by decide +kernel)
theorem xobj_code : Cond.code objectInit ⟨#[0xb1]⟩ 1 none ∈ xTT := xcw_ok (i := 140) (by decide +kernel)
section
variable {k : xK} {cc : ByteArray} {own : Nat} {SH S : List xSh} {cells slots pc F0' L0 C0 Z0 : Nat} {ls : List (Option Value)} {st : List Value} {g : xG}
theorem xobj (A : xAt k cc own SH S) (hrm : xrm k = { frames := F0', cells := C0, slots := Z0, locals := L0 }) {q ix nxt : Nat} (lk : Nat) (hd : (decide (decode cc pc = .ok (.invokespecial ix, 3)) && Nat.beq (pc + 3) nxt && xcw lk (.methodLink (xnm own) ix objectInit) && Nat.ble 1 F0' && Nat.ble 20 L0) = true) (hw : Nat.ble (xcat st) 8 = true) (kk : xW k S cells slots nxt ls st g) : xW k S cells slots pc ls (.ref q :: st) g := by
  obtain ⟨hc, hcc, hown, hpre⟩ := A
  obtain ⟨p, l, e, R, s, m, args, below, meth, c, Q, cc0, nL, ow, D, cA, b0, fz⟩ := k
  obtain rfl : cc0 = cc := hcc
  obtain rfl : ow = xnm own := hown
  obtain rfl : R = _ := hrm
  simp only [Bool.and_eq_true, decide_eq_true_eq, Nat.beq_eq, Nat.ble_eq] at hd hw
  obtain ⟨⟨⟨⟨hd, rfl⟩, h1⟩, h2⟩, h3⟩ := hd
  have hts := hc.2.2.2.2.1
  have hf := hc.2.2.2.2.2.2.1.1
  intro H locs La hn hL hP hS
  have hm : (F0 m pc La ((.ref q :: st).map (xad b0 fz))).monitorRoom = 0 := by rfl
  refine W.objInit hc.1 hc.2.1 hc.2.2.2.1 (hts _ (xcw_ok h1)) (hts _ xobj_in) (hts _ xobj_code) rfl (hL.1.trans hc.2.2.1.symm) rfl hd h2 ?_ (kk H locs La hn hL hP hS)
  rw [hm, xcat_ok hf]
  show 2 * 0 + xcat st + 12 ≤ L0
  omega
theorem xnew (A : xAt k cc own SH S) (hrm : xrm k = { frames := F0', cells := C0, slots := Z0, locals := L0 }) (hsz : xhs k + cells = xb0 k + S.length) {S' : List xSh} {ci ix nxt N : Nat} {C : String} {T : u_T} (lk li ln : Nat) (t : List Value) (ty : Nat → FieldType) (hty : ∀ k, k < N → parseFieldDescriptor (T k).2.2.1 = some (ty k)) (hci : vwCl[ci]? = some (C, T, N)) (hS' : S' = S ++ [.inr (ci, t)])
    (hd : (decide (decode cc pc = .ok (.new ix, 3)) && Nat.beq (pc + 3) nxt && xcw lk (.classLink (xnm own) ix C) && xcw li (.instantiable C N) && xcw ln (.initialized C) && xzd t ty N && Nat.ble (cells + 1) C0 && Nat.ble (slots + N) Z0) = true)
    (kk : xW k S' (cells + 1) (slots + N) nxt ls (.ref S.length :: st) (xrow g.1 S.length (fun _ => 0), g.2)) : xW k S cells slots pc ls st g := by
  obtain ⟨hc, hcc, hown, hpre⟩ := A
  obtain ⟨p, l, e, R, s, m, args, below, meth, c, Q, cc0, nL, ow, D, cA, b0, fz⟩ := k
  obtain rfl : cc0 = cc := hcc
  obtain rfl : ow = xnm own := hown
  obtain rfl : R = _ := hrm
  subst hS'
  simp only [Bool.and_eq_true, decide_eq_true_eq, Nat.beq_eq, Nat.ble_eq] at hd
  obtain ⟨⟨⟨⟨⟨⟨⟨hd, rfl⟩, h1⟩, h2⟩, h3⟩, h4⟩, h5⟩, h6⟩ := hd
  have hts := hc.2.2.2.2.1
  have hK := hc.2.2.2.2.2.1
  have hb : b0 ≤ s.heap.size := hc.2.2.2.2.2.2.2
  intro H locs La hn hL hP hS
  refine xW_size fun hle => ?_
  have hlow := xWd_low (Nat.le_trans hb hS.1) hP
  have hsz' : s.heap.size + cells = b0 + S.length := hsz
  have hH : H.size = b0 + S.length := by omega
  have hKn := hK.1 ci _ hci
  refine W.newcK hc.1 hc.2.1 hc.2.2.2.1 (hts _ (xcw_ok h1)) (hts _ (xcw_ok h2)) (hts _ (xcw_ok h3)) rfl hd h5 h6 hKn.2.1 hH fun H1 kC hkC e1 z1 o1 => ?_
  refine kk H1 locs La hn hL ?_ ⟨Nat.le_trans hS.1 (by omega), fun x g1 g2 => (o1 x (by have := hS.1; omega)).trans (hS.2.1 x g1 g2), hS.2.2⟩
  rw [xWd_push (g := g) (g' := (xrow g.1 S.length (fun _ => 0), g.2)) (c := .inr (ci, t)) (fun q h => xrow_ne h) (fun _ _ => rfl)]
  refine (hP.kept fun kk x hx => o1 x.1 (by have := (hP kk x hx).lt; omega)).app fun kk x hx => ?_
  have hz : kk < 1 := (List.getElem?_eq_some_iff.mp hx).1
  rw [show kk = 0 by omega] at hx
  cases hx
  refine ⟨_, hci, ?_⟩
  have := (u_born ty hts (xcl hci).2.2 hKn hkC e1 hty).to (xzd_ok (b0 := b0) (fz := fz) h4)
  simp only [xrow_same]
  exact this
theorem xnwi (A : xAt k cc own SH S) (hrm : xrm k = { frames := F0', cells := C0, slots := Z0, locals := L0 }) (hsz : xhs k + cells = xb0 k + S.length) {S' : List xSh} {nxt : Nat} {n : Int32} (N : Nat) (hn : n.toNatClampNeg = N) (hn0 : ¬ n < 0) (hS' : S' = S ++ [.inl (.int, N)])
    (hd : (decide (decode cc pc = .ok (.newarray .int, 2)) && Nat.beq (pc + 2) nxt && Nat.ble N 10000 && Nat.ble (cells + 1) C0 && Nat.ble (slots + N) Z0) = true)
    (kk : xW k S' (cells + 1) (slots + N) nxt ls (.ref S.length :: st) (xrow g.1 S.length (fun _ => 0), g.2)) : xW k S cells slots pc ls (.int n :: st) g := by
  obtain ⟨hc, hcc, hown, hpre⟩ := A
  obtain ⟨p, l, e, R, s, m, args, below, meth, c, Q, cc0, nL, ow, D, cA, b0, fz⟩ := k
  obtain rfl : cc0 = cc := hcc
  obtain rfl : ow = xnm own := hown
  obtain rfl : R = _ := hrm
  subst hS'
  simp only [Bool.and_eq_true, decide_eq_true_eq, Nat.beq_eq, Nat.ble_eq] at hd
  obtain ⟨⟨⟨⟨hd, rfl⟩, h1⟩, h5⟩, h6⟩ := hd
  have hts := hc.2.2.2.2.1
  have hK := hc.2.2.2.2.2.1
  have hb : b0 ≤ s.heap.size := hc.2.2.2.2.2.2.2
  intro H locs La hn2 hL hP hS
  refine xW_size fun hle => ?_
  have hlow := xWd_low (Nat.le_trans hb hS.1) hP
  have hsz' : s.heap.size + cells = b0 + S.length := hsz
  have hH : H.size = b0 + S.length := by omega
  refine va_newaK (atype := .int) hc.1 hc.2.1 (hts _ (xcw_ok (i := 184) (w := .arrayClass .int) (by decide +kernel))) rfl hd rfl hn0 hn (by simp only [newarray.typeOf, componentBytes]; omega) h5 h6 hH fun H1 cA' e1 z1 o1 hAr hNm => ?_
  have hcA : cA' = cA .int := by
    have h9 : s.vm.findClass ("[" ++ (FieldType.int).toString) = some (cA .int) := (hK.2 0 _ rfl).2
    exact Option.some.inj (hNm.symm.trans h9)
  refine kk H1 locs La hn2 hL ?_ ⟨Nat.le_trans hS.1 (by omega), fun x g1 g2 => (o1 x (by have := hS.1; omega)).trans (hS.2.1 x g1 g2), hS.2.2⟩
  rw [xWd_push (g := g) (g' := (xrow g.1 S.length (fun _ => 0), g.2)) (c := .inl (.int, N)) (fun q h => xrow_ne h) (fun _ _ => rfl)]
  refine (hP.kept fun kk x hx => o1 x.1 (by have := (hP kk x hx).lt; omega)).app fun kk x hx => ?_
  have hz : kk < 1 := (List.getElem?_eq_some_iff.mp hx).1
  rw [show kk = 0 by omega] at hx
  cases hx
  show H1[b0 + S.length]? = some (vp_cell _ _)
  rw [e1, hcA]
  simp only [xrow_same]
  rfl
theorem xnwl (A : xAt k cc own SH S) (hrm : xrm k = { frames := F0', cells := C0, slots := Z0, locals := L0 }) (hsz : xhs k + cells = xb0 k + S.length) {S' : List xSh} {nxt : Nat} {n : Int32} (N : Nat) (hn : n.toNatClampNeg = N) (hn0 : ¬ n < 0) (hS' : S' = S ++ [.inl (.long, N)])
    (hd : (decide (decode cc pc = .ok (.newarray .long, 2)) && Nat.beq (pc + 2) nxt && Nat.ble N 10000 && Nat.ble (cells + 1) C0 && Nat.ble (slots + N) Z0) = true)
    (kk : xW k S' (cells + 1) (slots + N) nxt ls (.ref S.length :: st) (g.1, xrowL g.2 S.length (fun _ => 0))) : xW k S cells slots pc ls (.int n :: st) g := by
  obtain ⟨hc, hcc, hown, hpre⟩ := A
  obtain ⟨p, l, e, R, s, m, args, below, meth, c, Q, cc0, nL, ow, D, cA, b0, fz⟩ := k
  obtain rfl : cc0 = cc := hcc
  obtain rfl : ow = xnm own := hown
  obtain rfl : R = _ := hrm
  subst hS'
  simp only [Bool.and_eq_true, decide_eq_true_eq, Nat.beq_eq, Nat.ble_eq] at hd
  obtain ⟨⟨⟨⟨hd, rfl⟩, h1⟩, h5⟩, h6⟩ := hd
  have hts := hc.2.2.2.2.1
  have hK := hc.2.2.2.2.2.1
  have hb : b0 ≤ s.heap.size := hc.2.2.2.2.2.2.2
  intro H locs La hn2 hL hP hS
  refine xW_size fun hle => ?_
  have hlow := xWd_low (Nat.le_trans hb hS.1) hP
  have hsz' : s.heap.size + cells = b0 + S.length := hsz
  have hH : H.size = b0 + S.length := by omega
  refine va_newaK (atype := .long) hc.1 hc.2.1 (hts _ (xcw_ok (i := 183) (w := .arrayClass .long) (by decide +kernel))) rfl hd rfl hn0 hn (by simp only [newarray.typeOf, componentBytes]; omega) h5 h6 hH fun H1 cA' e1 z1 o1 hAr hNm => ?_
  have hcA : cA' = cA .long := by
    have h9 : s.vm.findClass ("[" ++ (FieldType.long).toString) = some (cA .long) := (hK.2 1 _ rfl).2
    exact Option.some.inj (hNm.symm.trans h9)
  refine kk H1 locs La hn2 hL ?_ ⟨Nat.le_trans hS.1 (by omega), fun x g1 g2 => (o1 x (by have := hS.1; omega)).trans (hS.2.1 x g1 g2), hS.2.2⟩
  rw [xWd_push (g := g) (g' := (g.1, xrowL g.2 S.length (fun _ => 0))) (c := .inl (.long, N)) (fun _ _ => rfl) (fun q h => by simp [xrowL, h])]
  refine (hP.kept fun kk x hx => o1 x.1 (by have := (hP kk x hx).lt; omega)).app fun kk x hx => ?_
  have hz : kk < 1 := (List.getElem?_eq_some_iff.mp hx).1
  rw [show kk = 0 by omega] at hx
  cases hx
  show H1[b0 + S.length]? = some (vp_cell _ _)
  rw [e1, hcA]
  simp only [xrowL, if_true]
  rfl
theorem xnwb (A : xAt k cc own SH S) (hrm : xrm k = { frames := F0', cells := C0, slots := Z0, locals := L0 }) (hsz : xhs k + cells = xb0 k + S.length) {S' : List xSh} {nxt : Nat} {n : Int32} (N : Nat) (hn : n.toNatClampNeg = N) (hn0 : ¬ n < 0) (hS' : S' = S ++ [.inl (.byte, N)])
    (hd : (decide (decode cc pc = .ok (.newarray .byte, 2)) && Nat.beq (pc + 2) nxt && Nat.ble N 10000 && Nat.ble (cells + 1) C0 && Nat.ble (slots + N) Z0) = true)
    (kk : xW k S' (cells + 1) (slots + N) nxt ls (.ref S.length :: st) (xrow g.1 S.length (fun _ => 0), g.2)) : xW k S cells slots pc ls (.int n :: st) g := by
  obtain ⟨hc, hcc, hown, hpre⟩ := A
  obtain ⟨p, l, e, R, s, m, args, below, meth, c, Q, cc0, nL, ow, D, cA, b0, fz⟩ := k
  obtain rfl : cc0 = cc := hcc
  obtain rfl : ow = xnm own := hown
  obtain rfl : R = _ := hrm
  subst hS'
  simp only [Bool.and_eq_true, decide_eq_true_eq, Nat.beq_eq, Nat.ble_eq] at hd
  obtain ⟨⟨⟨⟨hd, rfl⟩, h1⟩, h5⟩, h6⟩ := hd
  have hts := hc.2.2.2.2.1
  have hK := hc.2.2.2.2.2.1
  have hb : b0 ≤ s.heap.size := hc.2.2.2.2.2.2.2
  intro H locs La hn2 hL hP hS
  refine xW_size fun hle => ?_
  have hlow := xWd_low (Nat.le_trans hb hS.1) hP
  have hsz' : s.heap.size + cells = b0 + S.length := hsz
  have hH : H.size = b0 + S.length := by omega
  refine va_newaK (atype := .byte) hc.1 hc.2.1 (hts _ (xcw_ok (i := 154) (w := .arrayClass .byte) (by decide +kernel))) rfl hd rfl hn0 hn (by simp only [newarray.typeOf, componentBytes]; omega) h5 h6 hH fun H1 cA' e1 z1 o1 hAr hNm => ?_
  have hcA : cA' = cA .byte := by
    have h9 : s.vm.findClass ("[" ++ (FieldType.byte).toString) = some (cA .byte) := (hK.2 2 _ rfl).2
    exact Option.some.inj (hNm.symm.trans h9)
  refine kk H1 locs La hn2 hL ?_ ⟨Nat.le_trans hS.1 (by omega), fun x g1 g2 => (o1 x (by have := hS.1; omega)).trans (hS.2.1 x g1 g2), hS.2.2⟩
  rw [xWd_push (g := g) (g' := (xrow g.1 S.length (fun _ => 0), g.2)) (c := .inl (.byte, N)) (fun q h => xrow_ne h) (fun _ _ => rfl)]
  refine (hP.kept fun kk x hx => o1 x.1 (by have := (hP kk x hx).lt; omega)).app fun kk x hx => ?_
  have hz : kk < 1 := (List.getElem?_eq_some_iff.mp hx).1
  rw [show kk = 0 by omega] at hx
  cases hx
  show H1[b0 + S.length]? = some (vp_cell _ _)
  rw [e1, hcA]
  simp only [xrow_same]
  rfl
theorem xnwz (A : xAt k cc own SH S) (hrm : xrm k = { frames := F0', cells := C0, slots := Z0, locals := L0 }) (hsz : xhs k + cells = xb0 k + S.length) {S' : List xSh} {nxt : Nat} {n : Int32} (N : Nat) (hn : n.toNatClampNeg = N) (hn0 : ¬ n < 0) (hS' : S' = S ++ [.inl (.boolean, N)])
    (hd : (decide (decode cc pc = .ok (.newarray .boolean, 2)) && Nat.beq (pc + 2) nxt && Nat.ble N 10000 && Nat.ble (cells + 1) C0 && Nat.ble (slots + N) Z0) = true)
    (kk : xW k S' (cells + 1) (slots + N) nxt ls (.ref S.length :: st) (xrow g.1 S.length (fun _ => 0), g.2)) : xW k S cells slots pc ls (.int n :: st) g := by
  obtain ⟨hc, hcc, hown, hpre⟩ := A
  obtain ⟨p, l, e, R, s, m, args, below, meth, c, Q, cc0, nL, ow, D, cA, b0, fz⟩ := k
  obtain rfl : cc0 = cc := hcc
  obtain rfl : ow = xnm own := hown
  obtain rfl : R = _ := hrm
  subst hS'
  simp only [Bool.and_eq_true, decide_eq_true_eq, Nat.beq_eq, Nat.ble_eq] at hd
  obtain ⟨⟨⟨⟨hd, rfl⟩, h1⟩, h5⟩, h6⟩ := hd
  have hts := hc.2.2.2.2.1
  have hK := hc.2.2.2.2.2.1
  have hb : b0 ≤ s.heap.size := hc.2.2.2.2.2.2.2
  intro H locs La hn2 hL hP hS
  refine xW_size fun hle => ?_
  have hlow := xWd_low (Nat.le_trans hb hS.1) hP
  have hsz' : s.heap.size + cells = b0 + S.length := hsz
  have hH : H.size = b0 + S.length := by omega
  refine va_newaK (atype := .boolean) hc.1 hc.2.1 (hts _ (xcw_ok (i := 441) (w := .arrayClass .boolean) (by decide +kernel))) rfl hd rfl hn0 hn (by simp only [newarray.typeOf, componentBytes]; omega) h5 h6 hH fun H1 cA' e1 z1 o1 hAr hNm => ?_
  have hcA : cA' = cA .boolean := by
    have h9 : s.vm.findClass ("[" ++ (FieldType.boolean).toString) = some (cA .boolean) := (hK.2 3 _ rfl).2
    exact Option.some.inj (hNm.symm.trans h9)
  refine kk H1 locs La hn2 hL ?_ ⟨Nat.le_trans hS.1 (by omega), fun x g1 g2 => (o1 x (by have := hS.1; omega)).trans (hS.2.1 x g1 g2), hS.2.2⟩
  rw [xWd_push (g := g) (g' := (xrow g.1 S.length (fun _ => 0), g.2)) (c := .inl (.boolean, N)) (fun q h => xrow_ne h) (fun _ _ => rfl)]
  refine (hP.kept fun kk x hx => o1 x.1 (by have := (hP kk x hx).lt; omega)).app fun kk x hx => ?_
  have hz : kk < 1 := (List.getElem?_eq_some_iff.mp hx).1
  rw [show kk = 0 by omega] at hx
  cases hx
  show H1[b0 + S.length]? = some (vp_cell _ _)
  rw [e1, hcA]
  simp only [xrow_same]
  rfl
theorem xputF (A : xAt k cc own SH S) (hi : xinit k) {S' : List xSh} {q r ix nxt ci b N w : Nat} {C : String} {T : u_T} (t : List Value) (ty : FieldType) (hci : vwCl[ci]? = some (C, T, N)) (hq : S[q]? = some (.inr (ci, t))) (hS' : S' = S.set q (.inr (ci, t.set b (.ref r))))
    (hd : (decide (decode cc pc = .ok (.putfield ix, 3)) && Nat.beq (pc + 3) nxt && xcw w (.fieldLink (xnm own) ix C (T b).2.1 (T b).2.2.1) && decide (b < N) && decide ((T b).2.2.2 = true) && decide ((T b).1 = xnm own) && decide ((T b).1 = C) && decide (parseFieldDescriptor (T b).2.2.1 = some ty) && ty.isReference && Nat.blt b t.length) = true)
    (kk : xW k S' cells slots nxt ls st g) : xW k S cells slots pc ls (.ref r :: .ref q :: st) g := by
  obtain ⟨hc, hcc, hown, hpre⟩ := A
  obtain ⟨p, l, e, R, s, m, args, below, meth, c, Q, cc0, nL, ow, D, cA, b0, fz⟩ := k
  obtain rfl : cc0 = cc := hcc
  obtain rfl : ow = xnm own := hown
  subst hS'
  simp only [Bool.and_eq_true, decide_eq_true_eq, Nat.beq_eq, Nat.blt_eq] at hd
  obtain ⟨⟨⟨⟨⟨⟨⟨⟨⟨hd, rfl⟩, h1⟩, h2⟩, h3⟩, h4⟩, h5⟩, h6⟩, h7⟩, h8⟩ := hd
  have hts := hc.2.2.2.2.1
  have hK := hc.2.2.2.2.2.1
  obtain ⟨⟨ty0, hty⟩, hnm, hin⟩ := xcl hci
  intro H locs La hn hL hP hS
  have hl : b < (xfs b0 fz (g.1 q) t).length := by simpa [xfs] using h8
  refine va_putF hc.1 hc.2.1 hts hin ty0 hty hnm hc.2.2.2.1 hK hP xWd_D hS q (xWd_get hq) hci b h2 (hts _ (xcw_ok h1)) (fun x h9 => by rw [← h5]; exact h9) h3 hi h4 (ty := ty) h6 (by cases ty <;> first | rfl | cases h7) (by cases ty <;> first | rfl | cases h7) hl hd (fun H1 locs1 hP1 _ hS1 => ?_)
  refine kk H1 locs1 La hn hL ?_ hS1
  have e9 : (xWd b0 fz cA S g).set q (b0 + q, .inr (ci, (xfs b0 fz (g.1 q) t).set b (.ref (b0 + r)))) = xWd b0 fz cA (S.set q (.inr (ci, t.set b (.ref r)))) g := by
    apply List.ext_getElem?
    intro j
    have hlq : q < S.length := (List.getElem?_eq_some_iff.mp hq).1
    by_cases hj : j = q
    · subst hj
      rw [List.getElem?_set_self (by simpa [xWd] using hlq), xWd_get (S := S.set j _) (c := .inr (ci, t.set b (.ref r))) (by rw [List.getElem?_set_self hlq])]
      show some (b0 + j, Sum.inr (ci, _)) = some (b0 + j, Sum.inr (ci, _))
      congr 4
      apply List.ext_getElem?
      intro i
      by_cases hib : i = b
      · subst hib
        rw [List.getElem?_set_self hl]
        unfold xfs
        rw [List.getElem?_mapIdx, List.getElem?_set_self h8]
        rfl
      · rw [List.getElem?_set_ne (Ne.symm hib)]
        unfold xfs
        rw [List.getElem?_mapIdx, List.getElem?_mapIdx, List.getElem?_set_ne (Ne.symm hib)]
    · rw [List.getElem?_set_ne (Ne.symm hj)]
      simp only [xWd, List.getElem?_mapIdx, List.getElem?_set_ne (Ne.symm hj)]
  rw [← e9]
  exact hP1
end
