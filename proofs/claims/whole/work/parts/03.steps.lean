/-! straight-line runs: an executor that computes, and that W follows it -/
def xnth {α : Type} : List α → Nat → Option α
  | [], _ => none
  | a :: _, 0 => some a
  | _ :: t, n + 1 => xnth t n
theorem xnth_eq {α : Type} : ∀ (l : List α) (n : Nat), xnth l n = l[n]?
  | [], _ => rfl
  | _ :: _, 0 => rfl
  | _ :: t, n + 1 => by rw [xnth, xnth_eq t n]; simp
theorem xlc_mem {b0 : Nat} {fz : Nat → Value} : ∀ (ls : List (Option Value)) (i j : Nat) (v : Value), ls[j]? = some (some v) → (i + j, xad b0 fz v) ∈ xlc b0 fz i ls
  | [], _, _, _, h => by simp at h
  | none :: t, i, 0, v, h => by simp at h
  | some w :: t, i, 0, v, h => by simp at h; subst h; simp [xlc]
  | none :: t, i, j + 1, v, h => by
    have := xlc_mem (b0 := b0) (fz := fz) t (i + 1) j v (by simpa using h)
    rw [show i + 1 + j = i + (j + 1) by omega] at this
    simpa [xlc] using this
  | some w :: t, i, j + 1, v, h => by
    have := xlc_mem (b0 := b0) (fz := fz) t (i + 1) j v (by simpa using h)
    rw [show i + 1 + j = i + (j + 1) by omega] at this
    simp only [xlc]
    exact List.mem_cons_of_mem _ this
theorem xlc_inv {b0 : Nat} {fz : Nat → Value} : ∀ (ls : List (Option Value)) (i : Nat) (q : Nat × Value), q ∈ xlc b0 fz i ls → ∃ j v, ls[j]? = some (some v) ∧ q = (i + j, xad b0 fz v)
  | [], _, _, h => by simp [xlc] at h
  | none :: t, i, q, h => by
    obtain ⟨j, v, h1, h2⟩ := xlc_inv t (i + 1) q (by simpa [xlc] using h)
    exact ⟨j + 1, v, by simpa using h1, by rw [h2, show i + 1 + j = i + (j + 1) by omega]⟩
  | some w :: t, i, q, h => by
    simp only [xlc, List.mem_cons] at h
    rcases h with h | h
    · exact ⟨0, w, rfl, h⟩
    · obtain ⟨j, v, h1, h2⟩ := xlc_inv t (i + 1) q h
      exact ⟨j + 1, v, by simpa using h1, by rw [h2, show i + 1 + j = i + (j + 1) by omega]⟩
theorem xlc_get {b0 : Nat} {fz : Nat → Value} {La : Array Slot} {nL : Nat} {ls : List (Option Value)} (hL : lv_has La nL (xlc b0 fz 0 ls)) {i : Nat} {v : Value} (h : ls[i]? = some (some v)) : La[i]? = some (.val (xad b0 fz v)) := by
  have := hL.2.2 _ (xlc_mem ls 0 i v h)
  simpa using this
theorem xlc_sub {b0 : Nat} {fz : Nat → Value} {La : Array Slot} {nL : Nat} {l : List (Nat × Value)} {ls : List (Option Value)} (hL : lv_has La nL l) (h : ∀ j v, ls[j]? = some (some v) → (j, xad b0 fz v) ∈ l) : lv_has La nL (xlc b0 fz 0 ls) := by
  refine ⟨hL.1, hL.2.1, fun q hq => ?_⟩
  obtain ⟨j, v, h1, rfl⟩ := xlc_inv _ _ _ hq
  have := hL.2.2 _ (h j v h1)
  simpa using this
def xk1 (ls : List (Option Value)) : Nat → Bool
  | 0 => true
  | j + 1 => match xnth ls j with
    | some (some (.long _)) => false
    | some (some (.double _)) => false
    | _ => true
theorem xad_cat {b0 : Nat} {fz : Nat → Value} (hf : ∀ u, fz u = .null ∨ ∃ a, fz u = .ref a) (v : Value) : (xad b0 fz v).category = v.category := by
  cases v <;> try rfl
  rename_i u
  rcases hf u with h | ⟨a, h⟩ <;> simp [xad, h, Value.category]
theorem xk1_ok {ls : List (Option Value)} {i j : Nat} {v : Value} (h : xk1 ls i = true) (hj : j + 1 = i) (hv : ls[j]? = some (some v)) : v.category ≠ 2 := by
  subst hj
  simp only [xk1, xnth_eq, hv] at h
  cases v <;> simp_all [Value.category]
theorem xlc_set1 {b0 : Nat} {fz : Nat → Value} (hf : ∀ u, fz u = .null ∨ ∃ a, fz u = .ref a) {ls : List (Option Value)} {i : Nat} {v : Value} (hk : xk1 ls i = true) {La : Array Slot} {nL : Nat} (hL : lv_has La nL ((i, xad b0 fz v) :: (xlc b0 fz 0 ls).filter (fun q => !(q.1 == i) && !(q.1 + 1 == i && q.2.category == 2)))) : lv_has La nL (xlc b0 fz 0 (ls.set i (some v))) := by
  refine xlc_sub hL fun j w hj => ?_
  by_cases e : j = i
  · subst e
    have hlt : j < (ls.set j (some v)).length := (List.getElem?_eq_some_iff.mp hj).1
    rw [List.length_set] at hlt
    rw [List.getElem?_set_self hlt] at hj
    simp only [Option.some.injEq] at hj
    subst hj
    exact List.mem_cons_self
  · rw [List.getElem?_set_ne (Ne.symm e)] at hj
    refine List.mem_cons_of_mem _ (List.mem_filter.mpr ⟨by simpa using xlc_mem ls 0 j w hj, ?_⟩)
    have h2 : ¬ (j + 1 = i ∧ w.category = 2) := fun ⟨h1, h2⟩ => xk1_ok hk h1 hj h2
    simp [e, xad_cat hf]
    omega
theorem xlc_set2 {b0 : Nat} {fz : Nat → Value} (hf : ∀ u, fz u = .null ∨ ∃ a, fz u = .ref a) {ls : List (Option Value)} {i : Nat} {v : Value} (hk : xk1 ls i = true) {La : Array Slot} {nL : Nat} (hL : lv_has La nL ((i, xad b0 fz v) :: (xlc b0 fz 0 ls).filter (fun q => !(q.1 == i) && (!(q.1 == i + 1) && !(q.1 + 1 == i && q.2.category == 2))))) : lv_has La nL (xlc b0 fz 0 ((ls.set i (some v)).set (i + 1) none)) := by
  refine xlc_sub hL fun j w hj => ?_
  by_cases e1 : j = i + 1
  · subst e1
    have hlt : i + 1 < ((ls.set i (some v)).set (i + 1) none).length := (List.getElem?_eq_some_iff.mp hj).1
    rw [List.length_set] at hlt
    rw [List.getElem?_set_self hlt] at hj
    simp at hj
  rw [List.getElem?_set_ne (Ne.symm e1)] at hj
  by_cases e : j = i
  · subst e
    have hlt : j < (ls.set j (some v)).length := (List.getElem?_eq_some_iff.mp hj).1
    rw [List.length_set] at hlt
    rw [List.getElem?_set_self hlt] at hj
    simp only [Option.some.injEq] at hj
    subst hj
    exact List.mem_cons_self
  · rw [List.getElem?_set_ne (Ne.symm e)] at hj
    refine List.mem_cons_of_mem _ (List.mem_filter.mpr ⟨by simpa using xlc_mem ls 0 j w hj, ?_⟩)
    have h2 : ¬ (j + 1 = i ∧ w.category = 2) := fun ⟨h1, h2⟩ => xk1_ok hk h1 hj h2
    simp [e, e1, xad_cat hf]
    omega
/-- a resolved instruction: itself, its length, two numbers and a value that its check knows -/
abbrev xOp : Type := ClassFile.Instr × Nat × Nat × Nat × Value
def xld (ls : List (Option Value)) (st : List Value) (g : xG) (i : Nat) : Option (List (Option Value) × List Value × xG) :=
  match xnth ls i with
  | some (some (.int x)) => some (ls, .int x :: st, g)
  | _ => none
def xldl (ls : List (Option Value)) (st : List Value) (g : xG) (i : Nat) : Option (List (Option Value) × List Value × xG) :=
  match xnth ls i with
  | some (some (.long x)) => some (ls, .long x :: st, g)
  | _ => none
def xlda (ls : List (Option Value)) (st : List Value) (g : xG) (i : Nat) : Option (List (Option Value) × List Value × xG) :=
  match xnth ls i with
  | some (some (.ref x)) => some (ls, .ref x :: st, g)
  | some (some (.retAddr x)) => some (ls, .retAddr x :: st, g)
  | _ => none
def xsti (ls : List (Option Value)) (st : List Value) (g : xG) (i : Nat) (v : Value) : Option (List (Option Value) × List Value × xG) :=
  match xnth ls i with
  | some _ => bif xk1 ls i then some (ls.set i (some v), st, g) else none
  | none => none
def xstl (ls : List (Option Value)) (st : List Value) (g : xG) (i : Nat) (v : Value) : Option (List (Option Value) × List Value × xG) :=
  match xnth ls (i + 1) with
  | some _ => bif xk1 ls i then some ((ls.set i (some v)).set (i + 1) none, st, g) else none
  | none => none
def xop (o : xOp) (ls : List (Option Value)) (st : List Value) (g : xG) : Option (List (Option Value) × List Value × xG) :=
  match o.1 with
  | .iconst _ => some (ls, o.2.2.2.2 :: st, g)
  | .bipush _ => some (ls, o.2.2.2.2 :: st, g)
  | .sipush _ => some (ls, o.2.2.2.2 :: st, g)
  | .lconst _ => some (ls, o.2.2.2.2 :: st, g)
  | .ldc _ => some (ls, o.2.2.2.2 :: st, g)
  | .ldc_w _ => some (ls, o.2.2.2.2 :: st, g)
  | .ldc2_w _ => some (ls, o.2.2.2.2 :: st, g)
  | .iload_n k => xld ls st g k
  | .iload i => xld ls st g i
  | .lload_n k => xldl ls st g k
  | .lload i => xldl ls st g i
  | .aload_n k => xlda ls st g k
  | .aload i => xlda ls st g i
  | .istore_n k => match st with
    | .int x :: st => xsti ls st g k (.int x)
    | _ => none
  | .istore i => match st with
    | .int x :: st => xsti ls st g i (.int x)
    | _ => none
  | .lstore_n k => match st with
    | .long x :: st => xstl ls st g k (.long x)
    | _ => none
  | .lstore i => match st with
    | .long x :: st => xstl ls st g i (.long x)
    | _ => none
  | .astore_n k => match st with
    | .ref x :: st => xsti ls st g k (.ref x)
    | _ => none
  | .astore i => match st with
    | .ref x :: st => xsti ls st g i (.ref x)
    | _ => none
  | .iinc i n => match xnth ls i with
    | some (some (.int x)) => xsti ls st g i (.int (x + Int32.ofInt n))
    | _ => none
  | .iadd => match st with
    | .int y :: .int x :: st => some (ls, .int (x + y) :: st, g)
    | _ => none
  | .isub => match st with
    | .int y :: .int x :: st => some (ls, .int (x - y) :: st, g)
    | _ => none
  | .imul => match st with
    | .int y :: .int x :: st => some (ls, .int (x * y) :: st, g)
    | _ => none
  | .iand => match st with
    | .int y :: .int x :: st => some (ls, .int (x &&& y) :: st, g)
    | _ => none
  | .ior => match st with
    | .int y :: .int x :: st => some (ls, .int (x ||| y) :: st, g)
    | _ => none
  | .ixor => match st with
    | .int y :: .int x :: st => some (ls, .int (x ^^^ y) :: st, g)
    | _ => none
  | .ishl => match st with
    | .int y :: .int x :: st => some (ls, .int (x <<< (y &&& 31)) :: st, g)
    | _ => none
  | .ishr => match st with
    | .int y :: .int x :: st => some (ls, .int (x >>> (y &&& 31)) :: st, g)
    | _ => none
  | .iushr => match st with
    | .int y :: .int x :: st => some (ls, .int (x.toUInt32 >>> (y.toUInt32 &&& Int32.toUInt32 31)).toInt32 :: st, g)
    | _ => none
  | .ladd => match st with
    | .long y :: .long x :: st => some (ls, .long (x + y) :: st, g)
    | _ => none
  | .lmul => match st with
    | .long y :: .long x :: st => some (ls, .long (x * y) :: st, g)
    | _ => none
  | .lcmp => match st with
    | .long y :: .long x :: st => some (ls, .int (lg_cmp x y) :: st, g)
    | _ => none
  | .i2l => match st with
    | .int x :: st => some (ls, .long x.toInt64 :: st, g)
    | _ => none
  | .l2i => match st with
    | .long x :: st => some (ls, .int x.toInt32 :: st, g)
    | _ => none
  | .i2b => match st with
    | .int x :: st => some (ls, .int x.toInt8.toInt32 :: st, g)
    | _ => none
  | .i2c => match st with
    | .int x :: st => some (ls, .int (x.toUInt32 % 65536).toInt32 :: st, g)
    | _ => none
  | .dup => match st with
    | .int x :: st => some (ls, .int x :: .int x :: st, g)
    | .ref x :: st => some (ls, .ref x :: .ref x :: st, g)
    | _ => none
  | .dup2 => match st with
    | .int y :: .int x :: st => some (ls, .int y :: .int x :: .int y :: .int x :: st, g)
    | .int y :: .ref x :: st => some (ls, .int y :: .ref x :: .int y :: .ref x :: st, g)
    | _ => none
  | .pop => match st with
    | .int _ :: st => some (ls, st, g)
    | _ => none
  | .getfield _ => match st with
    | .ref q :: st => bif Nat.beq q o.2.2.1 then (match o.2.2.2.2 with
      | .int _ => some (ls, .int (g.1 q o.2.2.2.1) :: st, g)
      | v => some (ls, v :: st, g)) else none
    | _ => none
  | .putfield _ => match st with
    | .int x :: .ref q :: st => bif Nat.beq q o.2.2.1 then (match o.2.2.2.2 with
      | .int 0 => some (ls, st, (xupd g.1 q o.2.2.2.1 x, g.2))
      | _ => bif (x == 0 || x == 1) then some (ls, st, (xupd g.1 q o.2.2.2.1 x, g.2)) else none) else none
    | _ => none
  | .arraylength => match st with
    | .ref q :: st => bif Nat.beq q o.2.2.1 then some (ls, o.2.2.2.2 :: st, g) else none
    | _ => none
  | _ => none
def xrun : List xOp → List (Option Value) → List Value → xG → Option (List (Option Value) × List Value × xG)
  | [], ls, st, g => some (ls, st, g)
  | o :: t, ls, st, g => match xop o ls st g with
    | some (ls, st, g) => xrun t ls st g
    | none => none
