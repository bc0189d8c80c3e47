/-! An abstract machine over pure worlds, and that the kit's judgement W follows it. Addresses of ours are b0 + index; .retAddr u stands for a frozen reference. -/
def xTT : List Cond := lw_tbl.filter goodWord
theorem xTT_of {w : Cond} (i : Nat) (h : lw_tbl[i]? = some w ∧ goodWord w = true) : w ∈ xTT := List.mem_filter.mpr ⟨List.mem_of_getElem? h.1, h.2⟩
theorem xTT_good {w : Cond} (h : w ∈ xTT) : w ∈ xTT ∧ ((w.onTables && w.keeps) = true ∨ ∃ ty, w = .arrayClass ty) := ⟨h, good_of_word (List.mem_filter.mp h).2⟩
abbrev xSh : Type := (FieldType × Nat) ⊕ (Nat × List Value)
abbrev xG : Type := (Nat → Nat → Int32) × (Nat → Nat → Int64)
def xad (b0 : Nat) (fz : Nat → Value) : Value → Value
  | .ref q => .ref (b0 + q)
  | .retAddr u => fz u
  | v => v
def xfv (b0 : Nat) (fz : Nat → Value) (x : Int32) : Value → Value
  | .int _ => .int x
  | v => xad b0 fz v
def xfs (b0 : Nat) (fz : Nat → Value) (f : Nat → Int32) (t : List Value) : List Value := t.mapIdx (fun k v => xfv b0 fz (f k) v)
def xE (b0 : Nat) (fz : Nat → Value) (cA : FieldType → ClassId) (g : xG) (q : Nat) : xSh → va_E
  | .inl (.long, n) => .inl (cA .long, n, .inr (.inl (g.2 q)))
  | .inl (ty, n) => .inl (cA ty, n, .inl (g.1 q))
  | .inr (ci, t) => .inr (ci, xfs b0 fz (g.1 q) t)
def xWd (b0 : Nat) (fz : Nat → Value) (cA : FieldType → ClassId) (S : List xSh) (g : xG) : va_W := S.mapIdx (fun q c => (b0 + q, xE b0 fz cA g q c))
def xlc (b0 : Nat) (fz : Nat → Value) : Nat → List (Option Value) → List (Nat × Value)
  | _, [] => []
  | i, none :: t => xlc b0 fz (i + 1) t
  | i, some v :: t => (i, xad b0 fz v) :: xlc b0 fz (i + 1) t
def xtys (cA : FieldType → ClassId) : List (ClassId × FieldType) := [(cA .int, .int), (cA .long, .long), (cA .byte, .byte), (cA .boolean, .boolean)]
abbrev xAb (b0 : Nat) : Nat → Prop := fun q => b0 ≤ q
def xFz (b0 : Nat) (fz : Nat → Value) (U : State) : Prop :=
  (∀ u, fz u = .null ∨ ∃ a, fz u = .ref a) ∧
  (∀ q ∈ xNest, va_Nw (.methodLinkNest q.1 q.2.1 q.2.2.1 q.2.2.2) U) ∧
  va_Z "java/lang/String" "COMPACT_STRINGS" "Z" (.int 1) (xAb b0) U U.heap ∧
  va_Z "jdk/internal/util/Preconditions" "SIOOBE_FORMATTER" "Ljava/util/function/BiFunction;" (fz 4) (xAb b0) U U.heap ∧
  ∃ adK adV : Nat → Nat, vk_S 2 xLens xByts adK adV (xAb b0) U U.heap ∧ fz 0 = .ref (adK 0) ∧ fz 1 = .ref (adV 0) ∧ fz 2 = .ref (adK 1) ∧ fz 3 = .ref (adV 1) ∧
    vk_R "NoonRinger$Tokens" xIxW xTxW (adK 0) U ∧ vk_R "NoonRinger$Tokens" xIxS xTxS (adK 1) U
abbrev xK : Type := Program × Launch × Env × Room × State × MethodId × Array Value × List Frame × Method × Code × (State → Prop) × ByteArray × Nat × String × va_G × (FieldType → ClassId) × Nat × (Nat → Value)
def xCtx (k : xK) : Prop := match k with
  | (p, _, _, _, s, m, args, _, _, c, _, cc, nL, own, D, cA, b0, fz) =>
    p.tables.exec = Jvm.exec ∧ c.code = cc ∧ c.maxLocals = nL ∧ s.vm.findClass own = some m.cls ∧ (∀ w ∈ xTT, w.before args s = true) ∧ va_K D vwCl (xtys cA) s ∧ xFz b0 fz s ∧ b0 ≤ s.heap.size
def xW (k : xK) (S : List xSh) (cells slots pc : Nat) (ls : List (Option Value)) (st : List Value) (g : xG) : Prop := match k with
  | (p, l, e, R, s, m, args, below, meth, c, Q, _, nL, _, D, cA, b0, fz) =>
    ∀ (H : Heap) (locs : List Loc) (La : Array Slot), ls.length = nL → lv_has La nL (xlc b0 fz 0 ls) → va_P D vwCl (xWd b0 fz cA S g) H → va_S (xAb b0) s.heap H locs →
      W p l e R s m args below meth c H locs cells slots Q (F0 m pc La (st.map (xad b0 fz)))
abbrev xcc (k : xK) : ByteArray := k.2.2.2.2.2.2.2.2.2.2.2.1
abbrev xnl (k : xK) : Nat := k.2.2.2.2.2.2.2.2.2.2.2.2.1
abbrev xown (k : xK) : String := k.2.2.2.2.2.2.2.2.2.2.2.2.2.1
abbrev xrm (k : xK) : Room := k.2.2.2.1
-- worlds
theorem xWd_get {b0 : Nat} {fz : Nat → Value} {cA : FieldType → ClassId} {S : List xSh} {g : xG} {q : Nat} {c : xSh} (h : S[q]? = some c) : (xWd b0 fz cA S g)[q]? = some (b0 + q, xE b0 fz cA g q c) := by
  simp [xWd, List.getElem?_mapIdx, h]
theorem xWd_D {b0 : Nat} {fz : Nat → Value} {cA : FieldType → ClassId} {S : List xSh} {g : xG} : va_D (xAb b0) (xWd b0 fz cA S g) := by
  refine ⟨fun i j p q hi hj e => ?_, fun k q hk => ?_⟩
  · simp only [xWd, List.getElem?_mapIdx, Option.map_eq_some_iff] at hi hj
    obtain ⟨a, -, rfl⟩ := hi
    obtain ⟨b, -, rfl⟩ := hj
    exact Nat.add_left_cancel e
  · simp only [xWd, List.getElem?_mapIdx, Option.map_eq_some_iff] at hk
    obtain ⟨a, -, rfl⟩ := hk
    exact Nat.le_add_right _ _
theorem xWd_set {b0 : Nat} {fz : Nat → Value} {cA : FieldType → ClassId} {S : List xSh} {g g' : xG} {q : Nat} {c : xSh} (h : S[q]? = some c) {e : va_E} (he : xE b0 fz cA g' q c = e) (h1 : ∀ q', q' ≠ q → g'.1 q' = g.1 q') (h2 : ∀ q', q' ≠ q → g'.2 q' = g.2 q') : (xWd b0 fz cA S g).set q (b0 + q, e) = xWd b0 fz cA S g' := by
  apply List.ext_getElem?
  intro j
  by_cases hj : j = q
  · subst hj
    rw [List.getElem?_set_self (by simp [xWd]; exact (List.getElem?_eq_some_iff.mp h).1), xWd_get h, he]
  · rw [List.getElem?_set_ne (Ne.symm hj)]
    simp only [xWd, List.getElem?_mapIdx]
    cases hS : S[j]? with
    | none => rfl
    | some d =>
      simp only [Option.map_some]
      have e1 := h1 j hj
      have e2 := h2 j hj
      obtain ⟨ty, n⟩ | ⟨ci, t⟩ := d
      · cases ty <;> simp [xE, e1, e2]
      · simp [xE, e1]
def xupd (f : Nat → Nat → Int32) (q k : Nat) (x : Int32) : Nat → Nat → Int32 := fun j => if j = q then upd (f q) k x else f j
def xrow (f : Nat → Nat → Int32) (q : Nat) (r : Nat → Int32) : Nat → Nat → Int32 := fun j => if j = q then r else f j
def xupdL (f : Nat → Nat → Int64) (q k : Nat) (x : Int64) : Nat → Nat → Int64 := fun j => if j = q then vp_updL (f q) k x else f j
def xrowL (f : Nat → Nat → Int64) (q : Nat) (r : Nat → Int64) : Nat → Nat → Int64 := fun j => if j = q then r else f j
theorem xupd_same {f : Nat → Nat → Int32} {q k : Nat} {x : Int32} : xupd f q k x q = upd (f q) k x := by simp [xupd]
theorem xupd_ne {f : Nat → Nat → Int32} {q k j : Nat} {x : Int32} (h : j ≠ q) : xupd f q k x j = f j := by simp [xupd, h]
theorem xrow_same {f : Nat → Nat → Int32} {q : Nat} {r : Nat → Int32} : xrow f q r q = r := by simp [xrow]
theorem xrow_ne {f : Nat → Nat → Int32} {q j : Nat} {r : Nat → Int32} (h : j ≠ q) : xrow f q r j = f j := by simp [xrow, h]
theorem xupdL_same {f : Nat → Nat → Int64} {q k : Nat} {x : Int64} : xupdL f q k x q = vp_updL (f q) k x := by simp [xupdL]
theorem xupdL_ne {f : Nat → Nat → Int64} {q k j : Nat} {x : Int64} (h : j ≠ q) : xupdL f q k x j = f j := by simp [xupdL, h]
