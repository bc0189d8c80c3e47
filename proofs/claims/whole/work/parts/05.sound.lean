/-! W follows the executor -/
def xft (own i : Nat) (SH : List xSh) (a b : Nat) (v : Value) (d : Option String) : Bool :=
  xFT.any (fun e => Nat.beq e.1 own && Nat.beq e.2.1 i && Nat.beq e.2.2.2.1 b && (match SH[a]? with
    | some (.inr (ci, t)) => Nat.beq ci e.2.2.1 && decide (t[b]? = some v) && (match vwCl[ci]? with
      | some (_, T, _) => (match d with
        | some d => decide ((T b).2.2.1 = d) && !(T b).2.2.2
        | none => true)
      | none => false)
    | _ => false))
def xopk (own : Nat) (SH : List xSh) (o : xOp) : Bool :=
  match o.1 with
  | .iconst n => decide (o.2.2.2.2 = .int (Int32.ofInt n)) && Nat.beq o.2.1 1
  | .bipush n => decide (o.2.2.2.2 = .int (Int8.ofInt n).toInt32) && Nat.beq o.2.1 2
  | .sipush n => decide (o.2.2.2.2 = .int (Int16.ofInt n).toInt32) && Nat.beq o.2.1 3
  | .lconst n => decide (o.2.2.2.2 = .long (Int64.ofNat (n : Nat))) && Nat.beq o.2.1 1
  | .ldc i => (match o.2.2.2.2 with
    | .int x => xCT.any (fun e => Nat.beq e.1 own && Nat.beq e.2.1 i && decide (e.2.2.1 = x))
    | _ => false) && Nat.beq o.2.1 2
  | .ldc_w i => (match o.2.2.2.2 with
    | .int x => xCT.any (fun e => Nat.beq e.1 own && Nat.beq e.2.1 i && decide (e.2.2.1 = x))
    | _ => false) && Nat.beq o.2.1 3
  | .ldc2_w i => (match o.2.2.2.2 with
    | .long x => xCL.any (fun e => Nat.beq e.1 own && Nat.beq e.2.1 i && decide (e.2.2.1 = x))
    | _ => false) && Nat.beq o.2.1 3
  | .iload _ => Nat.beq o.2.1 2
  | .lload _ => Nat.beq o.2.1 2
  | .aload _ => Nat.beq o.2.1 2
  | .istore _ => Nat.beq o.2.1 2
  | .lstore _ => Nat.beq o.2.1 2
  | .astore _ => Nat.beq o.2.1 2
  | .iinc _ _ => Nat.beq o.2.1 3
  | .getfield i => xft own i SH o.2.2.1 o.2.2.2.1 o.2.2.2.2 none && Nat.beq o.2.1 3
  | .putfield i => (match o.2.2.2.2 with
    | .int 0 => xft own i SH o.2.2.1 o.2.2.2.1 o.2.2.2.2 (some "I")
    | .int 1 => xft own i SH o.2.2.1 o.2.2.2.1 o.2.2.2.2 (some "Z")
    | _ => false) && Nat.beq o.2.1 3
  | .arraylength => (match SH[o.2.2.1]? with
    | some (.inl (ty, n)) => (decide (ty = .int) || decide (ty = .long) || decide (ty = .byte) || decide (ty = .boolean)) && decide (o.2.2.2.2 = .int (Int32.ofNat n))
    | _ => false) && Nat.beq o.2.1 1
  | _ => Nat.beq o.2.1 1
theorem xft_spec {own i : Nat} {SH : List xSh} {a b : Nat} {v : Value} {d : Option String} (h : xft own i SH a b v d = true) :
    ∃ (ci : Nat) (t : List Value) (C : String) (T : u_T) (N : Nat), SH[a]? = some (.inr (ci, t)) ∧ t[b]? = some v ∧ vwCl[ci]? = some (C, T, N) ∧ b < N ∧ .fieldLink (xnm own) i C (T b).2.1 (T b).2.2.1 ∈ xTT ∧ (T b).1 = C ∧ ∀ d', d = some d' → (T b).2.2.1 = d' ∧ (T b).2.2.2 = false := by
  simp only [xft, List.any_eq_true, Bool.and_eq_true] at h
  obtain ⟨⟨o, j, c, k, w⟩, hm, ⟨⟨h1, h2⟩, h3⟩, h4⟩ := h
  have h0 := List.all_eq_true.mp xFT_ok _ hm
  simp only [Nat.beq_eq] at h1 h2 h3
  subst h1 h2 h3
  split at h4
  next ci t hS =>
    simp only [Bool.and_eq_true, Nat.beq_eq, decide_eq_true_eq] at h4
    obtain ⟨⟨rfl, ht⟩, h5⟩ := h4
    simp only [xftk] at h0
    split at h0
    next C T N hc =>
      rw [hc] at h5
      simp only [Bool.and_eq_true, decide_eq_true_eq] at h0
      obtain ⟨⟨⟨g1, g2⟩, g3⟩, g4⟩ := h0
      refine ⟨_, t, C, T, N, hS, ht, hc, g1, xTT_of _ ⟨g2, g4⟩, g3, fun d' hd => ?_⟩
      subst hd
      simpa using h5
    next => simp at h0
  next => simp at h4
theorem xct_spec {own i : Nat} {x : Int32} (h : xCT.any (fun e => Nat.beq e.1 own && Nat.beq e.2.1 i && decide (e.2.2.1 = x)) = true) : Cond.constant (xnm own) i x ∈ xTT := by
  simp only [List.any_eq_true, Bool.and_eq_true, Nat.beq_eq, decide_eq_true_eq] at h
  obtain ⟨⟨o, j, c, w⟩, hm, ⟨rfl, rfl⟩, rfl⟩ := h
  have h0 := List.all_eq_true.mp xCT_ok _ hm
  simp only [Bool.and_eq_true, decide_eq_true_eq] at h0
  exact xTT_of _ h0
theorem xcl_spec {own i : Nat} {x : Int64} (h : xCL.any (fun e => Nat.beq e.1 own && Nat.beq e.2.1 i && decide (e.2.2.1 = x)) = true) : Cond.constantLong (xnm own) i x ∈ xTT := by
  simp only [List.any_eq_true, Bool.and_eq_true, Nat.beq_eq, decide_eq_true_eq] at h
  obtain ⟨⟨o, j, c, w⟩, hm, ⟨rfl, rfl⟩, rfl⟩ := h
  have h0 := List.all_eq_true.mp xCL_ok _ hm
  simp only [Bool.and_eq_true, decide_eq_true_eq] at h0
  exact xTT_of _ h0
section
variable {k : xK} {S : List xSh} {cells slots pc own : Nat} {ls : List (Option Value)} {st : List Value} {g : xG} {SH : List xSh}
theorem xld_sound {i : Nat} {r : List (Option Value) × List Value × xG} (h : xld ls st g i = some r) : ∃ x, ls[i]? = some (some (.int x)) ∧ r = (ls, .int x :: st, g) := by
  simp only [xld, xnth_eq] at h
  split at h
  next x hx => exact ⟨x, hx, (Option.some.inj h).symm⟩
  next => cases h
theorem xldl_sound {i : Nat} {r : List (Option Value) × List Value × xG} (h : xldl ls st g i = some r) : ∃ x, ls[i]? = some (some (.long x)) ∧ r = (ls, .long x :: st, g) := by
  simp only [xldl, xnth_eq] at h
  split at h
  next x hx => exact ⟨x, hx, (Option.some.inj h).symm⟩
  next => cases h
theorem xlda_sound {i : Nat} {r : List (Option Value) × List Value × xG} (h : xlda ls st g i = some r) : ∃ v, ls[i]? = some (some v) ∧ ((∃ x, v = .ref x) ∨ ∃ x, v = .retAddr x) ∧ r = (ls, v :: st, g) := by
  simp only [xlda, xnth_eq] at h
  split at h
  next x hx => exact ⟨_, hx, Or.inl ⟨x, rfl⟩, (Option.some.inj h).symm⟩
  next x hx => exact ⟨_, hx, Or.inr ⟨x, rfl⟩, (Option.some.inj h).symm⟩
  next => cases h
theorem xad_ref {b0 : Nat} {fz : Nat → Value} (hf : ∀ u, fz u = .null ∨ ∃ a, fz u = .ref a) {v : Value} (h : (∃ x, v = .ref x) ∨ ∃ x, v = .retAddr x) : xad b0 fz v = .null ∨ ∃ a, xad b0 fz v = .ref a := by
  rcases h with ⟨x, rfl⟩ | ⟨x, rfl⟩
  · exact Or.inr ⟨_, rfl⟩
  · exact hf x
theorem xsti_sound {i : Nat} {v : Value} {r : List (Option Value) × List Value × xG} (h : xsti ls st g i v = some r) : i < ls.length ∧ xk1 ls i = true ∧ r = (ls.set i (some v), st, g) := by
  simp only [xsti, cond_eq_ite, xnth_eq] at h
  split at h
  next w hw =>
    split at h
    next hk => exact ⟨(List.getElem?_eq_some_iff.mp hw).1, hk, (Option.some.inj h).symm⟩
    next => cases h
  next => cases h
theorem xstl_sound {i : Nat} {v : Value} {r : List (Option Value) × List Value × xG} (h : xstl ls st g i v = some r) : i + 1 < ls.length ∧ xk1 ls i = true ∧ r = ((ls.set i (some v)).set (i + 1) none, st, g) := by
  simp only [xstl, cond_eq_ite, xnth_eq] at h
  split at h
  next w hw =>
    split at h
    next hk => exact ⟨(List.getElem?_eq_some_iff.mp hw).1, hk, (Option.some.inj h).symm⟩
    next => cases h
  next => cases h
end
set_option maxHeartbeats 4000000 in
theorem xop_sound {k : xK} {S SH : List xSh} {cells slots pc own : Nat} {ls ls' : List (Option Value)} {st st' : List Value} {g g' : xG} (C : xCtx k) (hown : xown k = xnm own) (hpre : ∀ (q : Nat) (c : xSh), SH[q]? = some c → S[q]? = some c) {o : xOp} (hd : decode (xcc k) pc = .ok (o.1, o.2.1)) (hk : xopk own SH o = true)
    (h : xop o ls st g = some (ls', st', g')) (kk : xW k S cells slots (pc + o.2.1) ls' st' g') : xW k S cells slots pc ls st g := by
  obtain ⟨i, n, a, b, v⟩ := o
  obtain ⟨p, l, e, R, s, m, args, below, meth, c, Q, cc, nL, ow, D, cA, b0, fz⟩ := k
  obtain ⟨hx, hb, hml, ho, hts, hK, hF, hb0⟩ := C
  obtain rfl : ow = xnm own := hown
  have hf := hF.1
  cases i <;> first | (simp [xop] at h; done) | skip
  case iadd =>
    obtain rfl : n = 1 := by simpa [xopk, Nat.beq_eq] using hk
    simp only [xop] at h
    split at h
    · cases h
      exact fun H locs La hn hL hP hS => lv_iadd hx hb hd (kk H locs La hn hL hP hS)
    · cases h
  case isub =>
    obtain rfl : n = 1 := by simpa [xopk, Nat.beq_eq] using hk
    simp only [xop] at h
    split at h
    · cases h
      exact fun H locs La hn hL hP hS => lv_isub hx hb hd (kk H locs La hn hL hP hS)
    · cases h
  case imul =>
    obtain rfl : n = 1 := by simpa [xopk, Nat.beq_eq] using hk
    simp only [xop] at h
    split at h
    · cases h
      exact fun H locs La hn hL hP hS => lv_imul hx hb hd (kk H locs La hn hL hP hS)
    · cases h
  case iand =>
    obtain rfl : n = 1 := by simpa [xopk, Nat.beq_eq] using hk
    simp only [xop] at h
    split at h
    · cases h
      exact fun H locs La hn hL hP hS => lv_iand hx hb hd (kk H locs La hn hL hP hS)
    · cases h
  case ior =>
    obtain rfl : n = 1 := by simpa [xopk, Nat.beq_eq] using hk
    simp only [xop] at h
    split at h
    · cases h
      exact fun H locs La hn hL hP hS => lv_ior hx hb hd (kk H locs La hn hL hP hS)
    · cases h
  case ixor =>
    obtain rfl : n = 1 := by simpa [xopk, Nat.beq_eq] using hk
    simp only [xop] at h
    split at h
    · cases h
      exact fun H locs La hn hL hP hS => lv_ixor hx hb hd (kk H locs La hn hL hP hS)
    · cases h
  case ishl =>
    obtain rfl : n = 1 := by simpa [xopk, Nat.beq_eq] using hk
    simp only [xop] at h
    split at h
    · cases h
      exact fun H locs La hn hL hP hS => lv_ishl hx hb hd (kk H locs La hn hL hP hS)
    · cases h
  case ishr =>
    obtain rfl : n = 1 := by simpa [xopk, Nat.beq_eq] using hk
    simp only [xop] at h
    split at h
    · cases h
      exact fun H locs La hn hL hP hS => lv_ishr hx hb hd (kk H locs La hn hL hP hS)
    · cases h
  case iushr =>
    obtain rfl : n = 1 := by simpa [xopk, Nat.beq_eq] using hk
    simp only [xop] at h
    split at h
    · cases h
      exact fun H locs La hn hL hP hS => lv_iushr hx hb hd rfl (kk H locs La hn hL hP hS)
    · cases h
  case ladd =>
    obtain rfl : n = 1 := by simpa [xopk, Nat.beq_eq] using hk
    simp only [xop] at h
    split at h
    · cases h
      exact fun H locs La hn hL hP hS => lv_ladd hx hb hd (kk H locs La hn hL hP hS)
    · cases h
  case lmul =>
    obtain rfl : n = 1 := by simpa [xopk, Nat.beq_eq] using hk
    simp only [xop] at h
    split at h
    · cases h
      exact fun H locs La hn hL hP hS => lv_lmul hx hb hd (kk H locs La hn hL hP hS)
    · cases h
  case lcmp =>
    obtain rfl : n = 1 := by simpa [xopk, Nat.beq_eq] using hk
    simp only [xop] at h
    split at h
    · cases h
      exact fun H locs La hn hL hP hS => W.lcmp hx hb hd (kk H locs La hn hL hP hS)
    · cases h
  case i2l =>
    obtain rfl : n = 1 := by simpa [xopk, Nat.beq_eq] using hk
    simp only [xop] at h
    split at h
    · cases h
      exact fun H locs La hn hL hP hS => lv_i2l hx hb hd rfl (kk H locs La hn hL hP hS)
    · cases h
  case l2i =>
    obtain rfl : n = 1 := by simpa [xopk, Nat.beq_eq] using hk
    simp only [xop] at h
    split at h
    · cases h
      exact fun H locs La hn hL hP hS => lv_l2i hx hb hd rfl (kk H locs La hn hL hP hS)
    · cases h
  case i2b =>
    obtain rfl : n = 1 := by simpa [xopk, Nat.beq_eq] using hk
    simp only [xop] at h
    split at h
    · cases h
      exact fun H locs La hn hL hP hS => lv_i2b hx hb hd rfl (kk H locs La hn hL hP hS)
    · cases h
  case i2c =>
    obtain rfl : n = 1 := by simpa [xopk, Nat.beq_eq] using hk
    simp only [xop] at h
    split at h
    · cases h
      exact fun H locs La hn hL hP hS => lv_i2c hx hb hd rfl (kk H locs La hn hL hP hS)
    · cases h
  case pop =>
    obtain rfl : n = 1 := by simpa [xopk, Nat.beq_eq] using hk
    simp only [xop] at h
    split at h
    · cases h
      exact fun H locs La hn hL hP hS => lv_pop hx hb hd rfl (kk H locs La hn hL hP hS)
    · cases h
  case iconst n0 =>
    simp only [xopk, Bool.and_eq_true, decide_eq_true_eq, Nat.beq_eq] at hk
    obtain ⟨rfl, rfl⟩ := hk
    simp only [xop] at h
    cases h
    exact fun H locs La hn hL hP hS => lv_iconst hx hb hd rfl (kk H locs La hn hL hP hS)
  case bipush n0 =>
    simp only [xopk, Bool.and_eq_true, decide_eq_true_eq, Nat.beq_eq] at hk
    obtain ⟨rfl, rfl⟩ := hk
    simp only [xop] at h
    cases h
    exact fun H locs La hn hL hP hS => lv_bipush hx hb hd rfl (kk H locs La hn hL hP hS)
  case sipush n0 =>
    simp only [xopk, Bool.and_eq_true, decide_eq_true_eq, Nat.beq_eq] at hk
    obtain ⟨rfl, rfl⟩ := hk
    simp only [xop] at h
    cases h
    exact fun H locs La hn hL hP hS => lv_sipush hx hb hd rfl (kk H locs La hn hL hP hS)
  case lconst n0 =>
    simp only [xopk, Bool.and_eq_true, decide_eq_true_eq, Nat.beq_eq] at hk
    obtain ⟨rfl, rfl⟩ := hk
    simp only [xop] at h
    cases h
    exact fun H locs La hn hL hP hS => lv_lconst hx hb hd rfl (kk H locs La hn hL hP hS)
  case ldc i0 =>
    simp only [xopk, Bool.and_eq_true, Nat.beq_eq] at hk
    obtain ⟨hk, rfl⟩ := hk
    simp only [xop] at h
    cases h
    split at hk
    next x =>
      exact fun H locs La hn hL hP hS => lv_ldc hx hb ho (hts _ (xct_spec hk)) hd (kk H locs La hn hL hP hS)
    next => cases hk
  case ldc_w i0 =>
    simp only [xopk, Bool.and_eq_true, Nat.beq_eq] at hk
    obtain ⟨hk, rfl⟩ := hk
    simp only [xop] at h
    cases h
    split at hk
    next x =>
      exact fun H locs La hn hL hP hS => lv_ldcw hx hb ho (hts _ (xct_spec hk)) hd (kk H locs La hn hL hP hS)
    next => cases hk
  case ldc2_w i0 =>
    simp only [xopk, Bool.and_eq_true, Nat.beq_eq] at hk
    obtain ⟨hk, rfl⟩ := hk
    simp only [xop] at h
    cases h
    split at hk
    next x =>
      exact fun H locs La hn hL hP hS => lv_ldc2 hx hb ho (hts _ (xcl_spec hk)) hd (kk H locs La hn hL hP hS)
    next => cases hk
  case iload_n k0 =>
    obtain rfl : n = 1 := by simpa [xopk, Nat.beq_eq] using hk
    obtain ⟨x, h1, h2⟩ := xld_sound (i := (k0 : Nat)) h
    cases h2
    exact fun H locs La hn hL hP hS => lv_iload_n hx hb hd rfl (xlc_get hL h1) (kk H locs La hn hL hP hS)
  case lload_n k0 =>
    obtain rfl : n = 1 := by simpa [xopk, Nat.beq_eq] using hk
    obtain ⟨x, h1, h2⟩ := xldl_sound (i := (k0 : Nat)) h
    cases h2
    exact fun H locs La hn hL hP hS => lv_lload_n hx hb hd rfl (xlc_get hL h1) (kk H locs La hn hL hP hS)
  case iload k0 =>
    obtain rfl : n = 2 := by simpa [xopk, Nat.beq_eq] using hk
    obtain ⟨x, h1, h2⟩ := xld_sound (i := k0) h
    cases h2
    exact fun H locs La hn hL hP hS => lv_iload hx hb hd (xlc_get hL h1) (kk H locs La hn hL hP hS)
  case lload k0 =>
    obtain rfl : n = 2 := by simpa [xopk, Nat.beq_eq] using hk
    obtain ⟨x, h1, h2⟩ := xldl_sound (i := k0) h
    cases h2
    exact fun H locs La hn hL hP hS => lv_lload hx hb hd (xlc_get hL h1) (kk H locs La hn hL hP hS)
  case aload_n k0 =>
    obtain rfl : n = 1 := by simpa [xopk, Nat.beq_eq] using hk
    obtain ⟨v, h1, h3, h2⟩ := xlda_sound (i := (k0 : Nat)) h
    cases h2
    intro H locs La hn hL hP hS
    have h4 := xlc_get hL h1
    have h5 := kk H locs La hn hL hP hS
    rw [List.map_cons] at h5
    rcases xad_ref (b0 := b0) hf h3 with e | ⟨a, e⟩
    · rw [e] at h4 h5
      exact lv_aload_nN hx hb hd rfl h4 h5
    · rw [e] at h4 h5
      exact lv_aload_n hx hb hd rfl h4 h5
  case aload k0 =>
    obtain rfl : n = 2 := by simpa [xopk, Nat.beq_eq] using hk
    obtain ⟨v, h1, h3, h2⟩ := xlda_sound (i := (k0 : Nat)) h
    cases h2
    intro H locs La hn hL hP hS
    have h4 := xlc_get hL h1
    have h5 := kk H locs La hn hL hP hS
    rw [List.map_cons] at h5
    rcases xad_ref (b0 := b0) hf h3 with e | ⟨a, e⟩
    · rw [e] at h4 h5
      exact lv_aloadN hx hb hd h4 h5
    · rw [e] at h4 h5
      exact lv_aload hx hb hd h4 h5
  case istore_n k0 =>
    obtain rfl : n = 1 := by simpa [xopk, Nat.beq_eq] using hk
    simp only [xop] at h
    split at h
    next x st0 =>
      obtain ⟨hi, h1, h2⟩ := xsti_sound (i := (k0 : Nat)) h
      cases h2
      intro H locs La hn hL hP hS
      exact lv_istore_n hx hb hd rfl hL (hn ▸ hi) rfl (fun La' hL' => kk H locs La' (by simpa using hn) (xlc_set1 (v := .int x) hf h1 hL') hP hS)
    next => cases h
  case istore k0 =>
    obtain rfl : n = 2 := by simpa [xopk, Nat.beq_eq] using hk
    simp only [xop] at h
    split at h
    next x st0 =>
      obtain ⟨hi, h1, h2⟩ := xsti_sound (i := (k0 : Nat)) h
      cases h2
      intro H locs La hn hL hP hS
      exact lv_istore hx hb hd hL (hn ▸ hi) rfl (fun La' hL' => kk H locs La' (by simpa using hn) (xlc_set1 (v := .int x) hf h1 hL') hP hS)
    next => cases h
  case lstore_n k0 =>
    obtain rfl : n = 1 := by simpa [xopk, Nat.beq_eq] using hk
    simp only [xop] at h
    split at h
    next x st0 =>
      obtain ⟨hi, h1, h2⟩ := xstl_sound (i := (k0 : Nat)) h
      cases h2
      intro H locs La hn hL hP hS
      exact lv_lstore_n hx hb hd rfl hL (hn ▸ hi) rfl (fun La' hL' => kk H locs La' (by simpa using hn) (xlc_set2 (v := .long x) hf h1 hL') hP hS)
    next => cases h
  case lstore k0 =>
    obtain rfl : n = 2 := by simpa [xopk, Nat.beq_eq] using hk
    simp only [xop] at h
    split at h
    next x st0 =>
      obtain ⟨hi, h1, h2⟩ := xstl_sound (i := (k0 : Nat)) h
      cases h2
      intro H locs La hn hL hP hS
      exact lv_lstore hx hb hd hL (hn ▸ hi) rfl (fun La' hL' => kk H locs La' (by simpa using hn) (xlc_set2 (v := .long x) hf h1 hL') hP hS)
    next => cases h
  case astore_n k0 =>
    obtain rfl : n = 1 := by simpa [xopk, Nat.beq_eq] using hk
    simp only [xop] at h
    split at h
    next x st0 =>
      obtain ⟨hi, h1, h2⟩ := xsti_sound (i := (k0 : Nat)) h
      cases h2
      intro H locs La hn hL hP hS
      exact lv_astore_n hx hb hd rfl hL (hn ▸ hi) rfl (fun La' hL' => kk H locs La' (by simpa using hn) (xlc_set1 (v := .ref x) hf h1 hL') hP hS)
    next => cases h
  case astore k0 =>
    obtain rfl : n = 2 := by simpa [xopk, Nat.beq_eq] using hk
    simp only [xop] at h
    split at h
    next x st0 =>
      obtain ⟨hi, h1, h2⟩ := xsti_sound (i := (k0 : Nat)) h
      cases h2
      intro H locs La hn hL hP hS
      exact lv_astore hx hb hd hL (hn ▸ hi) rfl (fun La' hL' => kk H locs La' (by simpa using hn) (xlc_set1 (v := .ref x) hf h1 hL') hP hS)
    next => cases h
  case iinc i0 n0 =>
    obtain rfl : n = 3 := by simpa [xopk, Nat.beq_eq] using hk
    simp only [xop, xnth_eq] at h
    split at h
    next x hx0 =>
      obtain ⟨hi, h1, h2⟩ := xsti_sound (i := i0) h
      cases h2
      intro H locs La hn hL hP hS
      obtain ⟨j, hj⟩ := List.getElem?_of_mem (xlc_mem (b0 := b0) (fz := fz) ls 0 i0 _ hx0)
      exact lv_iinc hx hb hd hL (k := j) (by rw [hj, Nat.zero_add]; rfl) rfl (hn ▸ hi) rfl (fun La' hL' => kk H locs La' (by simpa using hn) (xlc_set1 (v := .int (x + Int32.ofInt n0)) hf h1 hL') hP hS)
    next => cases h
  case dup =>
    obtain rfl : n = 1 := by simpa [xopk, Nat.beq_eq] using hk
    simp only [xop] at h
    split at h
    · cases h
      exact fun H locs La hn hL hP hS => lv_dup hx hb hd rfl (kk H locs La hn hL hP hS)
    · cases h
      exact fun H locs La hn hL hP hS => lv_dup hx hb hd rfl (kk H locs La hn hL hP hS)
    · cases h
  case dup2 =>
    obtain rfl : n = 1 := by simpa [xopk, Nat.beq_eq] using hk
    simp only [xop] at h
    split at h
    · cases h
      exact fun H locs La hn hL hP hS => lv_dup2_11 hx hb hd rfl rfl (kk H locs La hn hL hP hS)
    · cases h
      exact fun H locs La hn hL hP hS => lv_dup2_11 hx hb hd rfl rfl (kk H locs La hn hL hP hS)
    · cases h
  case arraylength =>
    simp only [xopk, Bool.and_eq_true, Nat.beq_eq] at hk
    obtain ⟨hk, rfl⟩ := hk
    simp only [xop] at h
    split at h
    next q st0 =>
      simp only [cond_eq_ite, Nat.beq_eq] at h
      split at h
      next hq =>
        subst hq
        cases h
        split at hk
        next ty n0 hS0 =>
          simp only [Bool.and_eq_true, Bool.or_eq_true, decide_eq_true_eq] at hk
          obtain ⟨hty, rfl⟩ := hk
          intro H locs La hn hL hP hS
          have hg := xWd_get (b0 := b0) (fz := fz) (cA := cA) (g := g) (hpre _ _ hS0)
          rcases hty with ((rfl | rfl) | rfl) | rfl
          · exact va_alen hx hb hK hP _ 0 hg rfl rfl hd (kk H locs La hn hL hP hS)
          · exact va_alen hx hb hK hP _ 1 hg rfl rfl hd (kk H locs La hn hL hP hS)
          · exact va_alen hx hb hK hP _ 2 hg rfl rfl hd (kk H locs La hn hL hP hS)
          · exact va_alen hx hb hK hP _ 3 hg rfl rfl hd (kk H locs La hn hL hP hS)
        next => cases hk
      next => cases h
    next => cases h
  case getfield i0 =>
    simp only [xopk, Bool.and_eq_true, Nat.beq_eq] at hk
    obtain ⟨hk, rfl⟩ := hk
    obtain ⟨ci, t, CC, T, N, e1, e2, e3, e4, e5, e6, -⟩ := xft_spec hk
    simp only [xop] at h
    split at h
    next q st0 =>
      simp only [cond_eq_ite, Nat.beq_eq] at h
      split at h
      next hq =>
        subst hq
        intro H locs La hn hL hP hS
        have hg := xWd_get (b0 := b0) (fz := fz) (cA := cA) (g := g) (hpre _ _ e1)
        have hv : (xfs b0 fz (g.1 q) t)[b]? = some (xfv b0 fz (g.1 q b) v) := by simp [xfs, List.getElem?_mapIdx, e2]
        refine va_get hx hb hts (xcl e3).2.2 ho hK hP q hg e3 b e4 (hts _ e5) (fun x h9 => by rw [← e6]; exact h9) hv hd ?_
        split at h
        next x =>
          cases h
          exact kk H locs La hn hL hP hS
        next hne =>
          cases h
          have : xfv b0 fz (g.1 q b) v = xad b0 fz v := by cases v <;> first | rfl | exact absurd rfl (hne _)
          rw [this]
          exact kk H locs La hn hL hP hS
      next => cases h
    next => cases h
  case putfield i0 =>
    simp only [xopk, Bool.and_eq_true, Nat.beq_eq] at hk
    obtain ⟨hk, rfl⟩ := hk
    simp only [xop] at h
    split at h
    next x q st0 =>
      simp only [cond_eq_ite, Nat.beq_eq] at h
      split at h
      next hq =>
        subst hq
        have main : ∀ (d : String) (ty : FieldType), xft own i0 SH q b v (some d) = true → (∃ z, v = .int z) → parseFieldDescriptor d = some ty → narrow ty (.int x) = .int x → fits ty (.int x) = true → (ls', st', g') = (ls, st0, xupd g.1 q b x, g.2) → xW (p, l, e, R, s, m, args, below, meth, c, Q, cc, nL, xnm own, D, cA, b0, fz) S cells slots pc ls (.int x :: .ref q :: st0) g := by
          intro d ty hk ⟨z, hz0⟩ hd1 hn1 hf1 heq
          subst hz0
          obtain ⟨ci, t, CC, T, N, e1, e2, e3, e4, e5, e6, e7⟩ := xft_spec hk
          obtain ⟨e7, e8⟩ := e7 d rfl
          cases heq
          intro H locs La hn hL hP hS
          have hg := xWd_get (b0 := b0) (fz := fz) (cA := cA) (g := g) (hpre _ _ e1)
          obtain ⟨⟨ty0, hty⟩, hnm, hin⟩ := xcl e3
          have hl : b < (xfs b0 fz (g.1 q) t).length := by simp [xfs]; exact (List.getElem?_eq_some_iff.mp e2).1
          refine va_put hx hb hts hin ty0 hty hnm ho hK hP xWd_D hS q hg e3 b e4 (hts _ e5) (fun x h9 => by rw [← e6]; exact h9) e8 (ty := ty) (by rw [e7]; exact hd1) hn1 hf1 hl hd (fun H1 locs1 hP1 _ hS1 => ?_)
          have hset : (xfs b0 fz (g.1 q) t).set b (.int x) = xfs b0 fz (xupd g.1 q b x q) t := by
            apply List.ext_getElem?
            intro j
            by_cases hj : j = b
            · subst hj
              rw [List.getElem?_set_self hl]
              simp [xfs, List.getElem?_mapIdx, e2, xupd_same, upd, xfv]
            · rw [List.getElem?_set_ne (Ne.symm hj)]
              simp [xfs, List.getElem?_mapIdx, xupd_same, upd, hj]
          rw [show (xE b0 fz cA g q (.inr (ci, t))) = .inr (ci, xfs b0 fz (g.1 q) t) from rfl] at hg
          rw [show xad b0 fz (.int x) = .int x from rfl, hset, xWd_set (g' := (xupd g.1 q b x, g.2)) (e := .inr (ci, xfs b0 fz (xupd g.1 q b x q) t)) (hpre _ _ e1) rfl (fun q' h => xupd_ne h) (fun _ _ => rfl)] at hP1
          exact kk H1 locs1 La hn hL hP1 hS1
        split at h
        next =>
          refine main "I" .int hk ⟨_, rfl⟩ rfl rfl rfl ?_
          simpa using h.symm
        next hne =>
          split at h
          next hx1 =>
            split at hk
            next => exact absurd rfl hne
            next =>
              refine main "Z" .boolean hk ⟨_, rfl⟩ rfl ?_ ?_ (by simpa using h.symm)
              · rcases (by simpa using hx1 : x = 0 ∨ x = 1) with rfl | rfl <;> rfl
              · rcases (by simpa using hx1 : x = 0 ∨ x = 1) with rfl | rfl <;> rfl
            next => cases hk
          next => cases h
      next => cases h
    next => cases h
