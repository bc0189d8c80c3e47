/-! the launch's start: what the kit's judgement wants of it, out of the Statement's words -/
theorem xst_cond (tm : Term) {args : Array Value} {s : State} {v : Int32} (h : (Cond.eq tm (.int v)).before args s = true) : tm.eval args s none [] s = some (.int v) := va_eqt h
abbrev xgv : List Cond := flatC (Jvm.Cond.and given_1 narrow_1)
abbrev xtmS (i : Nat) : Term := .string "NoonRinger$Tokens" (if i = 0 then xIxW else xIxS)
theorem xgv_el0 : (List.range 122).all (fun j => decide (Cond.eq (.elem (.field (.string "NoonRinger$Tokens" xIxW) "java/lang/String" "value" "[B") (.int (Int32.ofNat j))) (.int ((xByts.getD 0 []).getD j 0)) ∈ xgv)) = true := by decide +kernel
theorem xgv_el1 : (List.range 9).all (fun j => decide (Cond.eq (.elem (.field (.string "NoonRinger$Tokens" xIxS) "java/lang/String" "value" "[B") (.int (Int32.ofNat j))) (.int ((xByts.getD 1 []).getD j 0)) ∈ xgv)) = true := by decide +kernel
theorem xcw_in {i : Nat} {w : Cond} (h : lw_tbl[i]? = some w) : w ∈ lw_tbl := List.mem_of_getElem? h
theorem xnest_in : xNest.all (fun q => decide (Cond.methodLinkNest q.1 q.2.1 q.2.2.1 q.2.2.2 ∈ tables_1)) = true := by decide +kernel
theorem xfz_start {s : State} {b : Nat} (hts : ∀ w ∈ lw_tbl, w.before #[Value.ref b] s = true) (hgv : (Jvm.Cond.and given_1 narrow_1).before #[Value.ref b] s = true) : ∃ fz : Nat → Value, xFz s.heap.size fz s ∧ fz 5 = .ref b := by
  have hs := flat_of_before _ hgv
  have hA : ∀ a : Nat, a < s.heap.size → ¬ xAb s.heap.size a := fun a h => Nat.not_le.mpr h
  have hz1 : va_Z "java/lang/String" "COMPACT_STRINGS" "Z" (.int 1) (xAb s.heap.size) s s.heap := va_Zof (hts _ (xcw_in (i := 250) (by decide +kernel))) (hts _ (xcw_in (i := 119) (by decide +kernel))) (va_eqi (hs _ (by decide +kernel))) hA
  obtain ⟨v4, hv4, hr4⟩ := Cond.isRef_spec (hs (Cond.isRef (.static "jdk/internal/util/Preconditions" "SIOOBE_FORMATTER" "Ljava/util/function/BiFunction;")) (by decide +kernel))
  have hz2 : va_Z "jdk/internal/util/Preconditions" "SIOOBE_FORMATTER" "Ljava/util/function/BiFunction;" v4 (xAb s.heap.size) s s.heap := va_Zof (hts _ (xcw_in (i := 266) (by decide +kernel))) (hts _ (xcw_in (i := 121) (by decide +kernel))) hv4 hA
  obtain ⟨adK, adV, hS, hev⟩ := vk_Sof (args := #[Value.ref b]) (s := s) (N := 2) (tm := xtmS) (len := xLens) (byt := xByts) (A := xAb s.heap.size)
    (fun i hi => by rcases (show i = 0 ∨ i = 1 by omega) with rfl | rfl <;> decide)
    (fun i hi => by rcases (show i = 0 ∨ i = 1 by omega) with rfl | rfl <;> exact hs _ (by decide +kernel))
    (fun i hi => by rcases (show i = 0 ∨ i = 1 by omega) with rfl | rfl <;> exact hs _ (by decide +kernel))
    (fun i hi => by rcases (show i = 0 ∨ i = 1 by omega) with rfl | rfl <;> exact hs _ (by decide +kernel))
    (fun i hi => by rcases (show i = 0 ∨ i = 1 by omega) with rfl | rfl <;> exact hs _ (by decide +kernel))
    (fun i hi j hj => by
      rcases (show i = 0 ∨ i = 1 by omega) with rfl | rfl
      · exact hs _ (of_decide_eq_true (List.all_eq_true.mp xgv_el0 j (List.mem_range.mpr hj)))
      · exact hs _ (of_decide_eq_true (List.all_eq_true.mp xgv_el1 j (List.mem_range.mpr hj))))
    (fun i j hi hj hij => by
      rcases (show i = 0 ∨ i = 1 by omega) with rfl | rfl <;> rcases (show j = 0 ∨ j = 1 by omega) with rfl | rfl
      · exact absurd rfl hij
      · first | exact Or.inl (hs _ (by decide +kernel)) | exact Or.inr (hs _ (by decide +kernel))
      · first | exact Or.inl (hs _ (by decide +kernel)) | exact Or.inr (hs _ (by decide +kernel))
      · exact absurd rfl hij) hA
  have h4 : v4 = .null ∨ ∃ a, v4 = .ref a := by
    cases v4 <;> simp_all [Value.isRef]
  refine ⟨fun u => if u = 0 then .ref (adK 0) else if u = 1 then .ref (adV 0) else if u = 2 then .ref (adK 1) else if u = 3 then .ref (adV 1) else if u = 4 then v4 else if u = 5 then .ref b else .null, ⟨fun u => ?_, fun q hq => ?_, hz1, hz2, adK, adV, hS, rfl, rfl, rfl, rfl, ?_, ?_⟩, rfl⟩
  · by_cases h0 : u = 0
    · exact Or.inr ⟨adK 0, by subst h0; rfl⟩
    by_cases h1 : u = 1
    · exact Or.inr ⟨adV 0, by subst h1; rfl⟩
    by_cases h2 : u = 2
    · exact Or.inr ⟨adK 1, by subst h2; rfl⟩
    by_cases h3 : u = 3
    · exact Or.inr ⟨adV 1, by subst h3; rfl⟩
    by_cases h4' : u = 4
    · simpa [h4'] using h4
    by_cases h5 : u = 5
    · exact Or.inr ⟨b, by subst h5; rfl⟩
    exact Or.inl (by simp [h0, h1, h2, h3, h4', h5])
  · have := List.all_eq_true.mp xnest_in q hq
    exact va_Nw.of rfl (hts _ (List.mem_append_right _ (by simpa using this)))
  · exact vk_R.of (hts (.stringRef "NoonRinger$Tokens" xIxW xTxW) (xcw_in (i := 240) (by decide +kernel))) (hev 0 (by decide))
  · exact vk_R.of (hts (.stringRef "NoonRinger$Tokens" xIxS xTxS) (xcw_in (i := 643) (by decide +kernel))) (hev 1 (by decide))
theorem xinst {c : Nat} {q : vw_C} (h : vwCl[c]? = some q) : ∃ (n i : Nat), lw_tbl[i]? = some (Cond.instantiable q.1 n) := by
  match c, h with
  | 0, h => cases h; exact ⟨6, 417, by decide +kernel⟩
  | 1, h => cases h; exact ⟨3, 378, by decide +kernel⟩
  | 2, h => cases h; exact ⟨5, 162, by decide +kernel⟩
  | 3, h => cases h; exact ⟨9, 229, by decide +kernel⟩
  | 4, h => cases h; exact ⟨14, 156, by decide +kernel⟩
  | 5, h => cases h; exact ⟨1, 404, by decide +kernel⟩
  | 6, h => cases h; exact ⟨1, 394, by decide +kernel⟩
  | 7, h => cases h; exact ⟨3, 362, by decide +kernel⟩
  | 8, h => cases h; exact ⟨2, 142, by decide +kernel⟩
  | 9, h => cases h; exact ⟨6, 235, by decide +kernel⟩
  | 10, h => cases h; exact ⟨3, 346, by decide +kernel⟩
  | 11, h => cases h; exact ⟨17, 134, by decide +kernel⟩
  | 12, h => cases h; exact ⟨64, 1354, by decide +kernel⟩
  | n + 13, h => simp [vwCl] at h
theorem xar_of {args : Array Value} {s : State} {ty : FieldType} (h : (Cond.arrayClass ty).before args s = true) (hp : ty = .int ∨ ty = .long ∨ ty = .byte ∨ ty = .boolean) : ∃ cA : ClassId, ArrOfT s cA ty ∧ va_RA s cA ty := by
  obtain ⟨cA, kA, comp, h1, h2, h3⟩ := Cond.arrayClass_spec h
  refine ⟨cA, fun n z => ⟨fun k h => (by cases h), kA, h2, comp, h3⟩, ?_⟩
  rcases hp with rfl | rfl | rfl | rfl <;> exact h1
theorem xK_start {s : State} {b : Nat} {mc : ClassId} (hts : ∀ w ∈ lw_tbl, w.before #[Value.ref b] s = true) : ∃ (D : va_G) (cA : FieldType → ClassId), va_K D vwCl (xtys cA) s := by
  have h1 : ∀ c : Nat, ∃ p : ClassId × (Nat → Nat), ∀ q : vw_C, vwCl[c]? = some q → u_Kn s q.1 q.2.1 q.2.2 p.1 p.2 := fun c => by
    cases hq : vwCl[c]? with
    | none => exact ⟨(mc, fun _ => 0), fun q h => by cases h⟩
    | some q =>
      obtain ⟨n, i, hi⟩ := xinst hq
      obtain ⟨C, T, N⟩ := q
      obtain ⟨cC, iS, hk⟩ := u_known (C := C) (T := T) (N := N) (n := n) hts (fun w hw => (List.mem_filter.mp ((xcl hq).2.2 w hw)).1) (hts _ (List.mem_of_getElem? hi))
      exact ⟨(cC, iS), fun q h => by cases h; exact hk⟩
  obtain ⟨DF, hDF⟩ := Classical.axiomOfChoice h1
  obtain ⟨a1, i1, r1⟩ := xar_of (hts (.arrayClass .int) (List.mem_of_getElem? (i := 184) (by decide +kernel))) (.inl rfl)
  obtain ⟨a2, i2, r2⟩ := xar_of (hts (.arrayClass .long) (List.mem_of_getElem? (i := 183) (by decide +kernel))) (.inr (.inl rfl))
  obtain ⟨a3, i3, r3⟩ := xar_of (hts (.arrayClass .byte) (List.mem_of_getElem? (i := 154) (by decide +kernel))) (.inr (.inr (.inl rfl)))
  obtain ⟨a4, i4, r4⟩ := xar_of (hts (.arrayClass .boolean) (List.mem_of_getElem? (i := 441) (by decide +kernel))) (.inr (.inr (.inr rfl)))
  refine ⟨(fun c => (DF c).1, fun c => (DF c).2), fun ty => match ty with | .int => a1 | .long => a2 | .byte => a3 | _ => a4, fun c q hq => hDF c q hq, fun k q hk => ?_⟩
  match k, hk with
  | 0, hk => cases hk; exact ⟨i1, r1⟩
  | 1, hk => cases hk; exact ⟨i2, r2⟩
  | 2, hk => cases hk; exact ⟨i3, r3⟩
  | 3, hk => cases hk; exact ⟨i4, r4⟩
  | n + 4, hk => simp [xtys] at hk
set_option maxRecDepth 20000 in
/-- the walk from the law's entry to its loop, over a pure world -/
theorem x_walk {k : xK} {xs : Nat → Int32} {L : Nat} (hL : L ≤ 3072) (hX : xScr k xs L) (A : xAt k code 13 [] []) (hR : xEnd k CS215) (hrm : xrm k = room_1) (hz : xhs k + 0 = xb0 k + 0) : xW k [] 0 0 0 [some (.retAddr 5), none, none, none] [] (zI, zL) := by
  obtain ⟨w1, w2, out, e1, z60, e2, e3, e4⟩ := w_all xs L hL
  refine xnew (xmv A []) hrm (by have h := hz; show xhs k + 0 = xb0 k + 0; omega) (S' := CS1) (ix := 7) (nxt := 3) (ci := 11) 133 134 113 [.null, .null, .null, .null, .null, .null, .null, .null, .null, .null, .null, .null, .null, .int 0, .int 0, .int 0, .int 0] tyX11 tyX11_ok rfl rfl (by decide +kernel) ?_
  rw [show ((xrow (zI, zL).1 ([] : List xSh).length (fun _ => 0), (zI, zL).2) : xG) = (zI, zL) from by rw [show xrow (zI, zL).1 ([] : List xSh).length (fun _ => 0) = zI from xz 0]]
  show xW k CS1 1 17 3 [some (.retAddr 5), none, none, none] [.ref 0] (zI, zL)
  refine xb (xmv A CS1) [(.dup, 1, 0, 0, .null)] (pc' := 4) (ls' := [some (.retAddr 5), none, none, none]) (st' := [.ref 0, .ref 0]) (g' := (zI, zL)) (by decide +kernel) rfl ?_
  refine xcallI (xmv A CS1) (ix := 9) (nxt := 7) hrm (by have h := hz; rw [ln_CS1]; omega) [] [.ref 0] 135 (c_n_c _ e1) ok_X11_init (by decide +kernel) rfl (fun r g1 hq => ?_)
  rw [hq.1, hq.2]
  show xW k CS130 60 7789 7 [some (.retAddr 5), none, none, none] [.ref 0] w1
  refine xb (xmv A CS130) [(.astore_n 1, 1, 0, 0, .null)] (pc' := 8) (ls' := [some (.retAddr 5), some (.ref 0), none, none]) (st' := []) (g' := w1) (by decide +kernel) rfl ?_
  refine xnew (xmv A CS130) hrm (by have h := hz; rw [ln_CS130]; omega) (S' := CS131) (ix := 10) (nxt := 11) (ci := 12) 1353 1354 130 [.int 0, .null, .int 0, .null, .int 0, .null, .null, .null, .null, .null, .int 0, .int 0, .int 0, .int 0, .int 0, .int 0, .int 0, .int 0, .int 0, .int 0, .int 0, .null, .null, .null, .null, .null, .null, .null, .null, .null, .null, .null, .null, .null, .null, .null, .int 0, .null, .null, .null, .null, .null, .int 0, .null, .null, .null, .int 0, .null, .null, .int 1, .null, .null, .int 0, .int 1, .null, .int 0, .null, .null, .int 0, .null, .null, .null, .null, .null] tyX12 tyX12_ok rfl rfl (by decide +kernel) ?_
  rw [ln_CS130, z60]
  show xW k CS131 61 7853 11 [some (.retAddr 5), some (.ref 0), none, none] [.ref 60] w1
  refine xb (xmv A CS131) [(.dup, 1, 0, 0, .null)] (pc' := 12) (ls' := [some (.retAddr 5), some (.ref 0), none, none]) (st' := [.ref 60, .ref 60]) (g' := w1) (by decide +kernel) rfl ?_
  refine xcallI (xmv A CS131) (ix := 12) (nxt := 15) hrm (by have h := hz; rw [ln_CS131]; omega) [] [.ref 60] 1355 (c_n_m _ e2) ok_X12_init (by decide +kernel) rfl (fun r g1 hq => ?_)
  rw [hq.1, hq.2]
  show xW k CS215 103 19882 15 [some (.retAddr 5), some (.ref 0), none, none] [.ref 60] w2
  refine xb (xmv A CS215) [(.astore_n 2, 1, 0, 0, .null)] (pc' := 16) (ls' := [some (.retAddr 5), some (.ref 0), some (.ref 60), none]) (st' := []) (g' := w2) (by decide +kernel) rfl ?_
  exact t_law e4 (eq_CS215 ▸ fun _ _ h => h) (fun q c h => by
    have h2 : SH2[q]? = some c := by
      have hl : q < SH1.length := (List.getElem?_eq_some_iff.mp h).1
      unfold SH2
      rw [List.getElem?_append_left hl]
      exact h
    rw [← eq_CS215]
    exact h2) hX (xmvp A (eq_CS215 ▸ fun _ _ h => h)) hR hrm (by have h := hz; rw [ln_CS215]; omega) e3
