/-! plain rows: loops, bits, cells -/
theorem lp {σ β : Type} (F : Nat → Int32 → σ → Option β) (I : Nat → σ → Prop) (B : Nat) (Q : Option β → Prop) (hs : ∀ n i s, i < B → I i s → (∃ s', F (n + 1) (nI i) s = F n (nI (i + 1)) s' ∧ I (i + 1) s') ∨ Q (F (n + 1) (nI i) s)) (he : ∀ n s, I B s → Q (F (n + 1) (nI B) s)) : ∀ (fuel i : Nat) (s : σ), i ≤ B → B < fuel + i → I i s → Q (F fuel (nI i) s) := by
  intro fuel
  induction fuel with
  | zero => intro i s h1 h2; omega
  | succ n ih =>
    intro i s h1 h2 h3
    rcases Nat.lt_or_ge i B with hi | hi
    · rcases hs n i s hi h3 with ⟨s', e, h⟩ | h
      · rw [e]; exact ih (i + 1) s' (by omega) (by omega) h
      · exact h
    · obtain rfl : i = B := by omega
      exact he n s h3
theorem lpv {σ β : Type} (F : Nat → Int32 → σ → Option β) (acc : Nat → σ) (B : Nat) (v : Option β) (hs : ∀ n i, i < B → F (n + 1) (nI i) (acc i) = F n (nI (i + 1)) (acc (i + 1))) (he : ∀ n, F (n + 1) (nI B) (acc B) = v) : ∀ (fuel i : Nat), i ≤ B → B < fuel + i → F fuel (nI i) (acc i) = v := by
  intro fuel i h1 h2
  refine lp F (fun i s => s = acc i) B (fun o => o = v) ?_ ?_ fuel i (acc i) h1 h2 rfl
  · rintro n i s hi rfl
    exact .inl ⟨_, hs n i hi, rfl⟩
  · rintro n s rfl
    exact he n
theorem ite_le {α : Type} {a b : Nat} {x y : α} (ha : a < 2 ^ 31) (hb : b < 2 ^ 31) : (if nI a ≤ nI b then x else y) = if a ≤ b then x else y := by simp only [nI_leI ha hb]
theorem ite_lt {α : Type} {a b : Nat} {x y : α} (ha : a < 2 ^ 31) (hb : b < 2 ^ 31) : (if nI a < nI b then x else y) = if a < b then x else y := by simp only [nI_ltI ha hb]
theorem ite_eqn {α : Type} {a b : Nat} {x y : α} (ha : a < 2 ^ 31) (hb : b < 2 ^ 31) : (if nI a = nI b then x else y) = if a = b then x else y := by simp only [nI_eq ha hb]
theorem li_0 : (0 : Int32) = nI 0 := rfl
theorem xg_t {α : Type} {c : Prop} [Decidable c] {E : Option α} (h : c) : xg c E = E := if_pos h
theorem xg_in {α : Type} {c N : Nat} {E : Option α} (h : c < N) (hN : N < 2 ^ 31) : xg (¬ (nI c < 0 ∨ N ≤ (nI c).toNatClampNeg)) E = E := xg_t (nI_in h hN)
theorem xg_in' {α : Type} {c N : Nat} {E : Option α} (h : c < N) (hN : N < 2 ^ 31) : xg (¬ (nI c < 0 ∨ N ≤ c)) E = E := xg_t (fun hx => hx.elim (nI_pos (Nat.lt_trans h hN)) (fun h2 => absurd h (Nat.not_lt.mpr h2)))
theorem xat_in {g : xG} {q n i : Nat} (h : i < n) (hn : n < 2 ^ 31) : xat g q n (nI i) = g.1 q i := by
  unfold xat
  rw [if_neg (nI_pos (Nat.lt_trans h hn)), if_neg (show ¬ Int32.ofNat n ≤ nI i from nI_ge h hn), nI_clamp (Nat.lt_trans h hn)]
theorem xat_out {g : xG} {q n i : Nat} (h : n ≤ i) (hn : i < 2 ^ 31) : xat g q n (nI i) = 0 := by
  unfold xat
  rw [if_neg (nI_pos hn), if_pos (show Int32.ofNat n ≤ nI i from nI_le h hn)]
theorem xat_neg {g : xG} {q n : Nat} {x : Int32} (h : x < 0) : xat g q n x = 0 := by
  unfold xat
  rw [if_pos h]
theorem xlat_in {g : xG} {q n i : Nat} (h : i < n) (hn : n < 2 ^ 31) : xlat g q n (nI i) = g.2 q i := by
  unfold xlat
  rw [if_neg (nI_pos (Nat.lt_trans h hn)), if_neg (show ¬ Int32.ofNat n ≤ nI i from nI_ge h hn), nI_clamp (Nat.lt_trans h hn)]
theorem xput_in {g : xG} {q n i : Nat} {v : Int32} (h : i < n) (hn : n < 2 ^ 31) : xput g q n (nI i) v = (xupd g.1 q i v, g.2) := by
  unfold xput
  rw [if_neg (nI_pos (Nat.lt_trans h hn)), if_neg (show ¬ Int32.ofNat n ≤ nI i from nI_ge h hn), nI_clamp (Nat.lt_trans h hn)]
theorem xlput_in {g : xG} {q n i : Nat} {v : Int64} (h : i < n) (hn : n < 2 ^ 31) : xlput g q n (nI i) v = (g.1, xupdL g.2 q i v) := by
  unfold xlput
  rw [if_neg (nI_pos (Nat.lt_trans h hn)), if_neg (show ¬ Int32.ofNat n ≤ nI i from nI_ge h hn), nI_clamp (Nat.lt_trans h hn)]
theorem xu_eq {f : Nat → Nat → Int32} {q k : Nat} {x : Int32} : xupd f q k x q k = x := by simp [xupd, upd]
theorem xu_ne {f : Nat → Nat → Int32} {q k j : Nat} {x : Int32} (h : j ≠ k) : xupd f q k x q j = f q j := by simp [xupd, upd, h]
theorem xu_q {f : Nat → Nat → Int32} {q k p j : Nat} {x : Int32} (h : p ≠ q) : xupd f q k x p j = f p j := by simp [xupd, h]
theorem xu_at (f : Nat → Nat → Int32) (q k : Nat) (x : Int32) (p j : Nat) : xupd f q k x p j = if p = q ∧ j = k then x else f p j := by
  unfold xupd upd
  split
  · next h => subst h; simp
  · next h => simp [h]
theorem xuL_eq {f : Nat → Nat → Int64} {q k : Nat} {x : Int64} : xupdL f q k x q k = x := by simp [xupdL, vp_updL]
theorem xuL_ne {f : Nat → Nat → Int64} {q k j : Nat} {x : Int64} (h : j ≠ k) : xupdL f q k x q j = f q j := by simp [xupdL, vp_updL, h]
theorem xuL_q {f : Nat → Nat → Int64} {q k p j : Nat} {x : Int64} (h : p ≠ q) : xupdL f q k x p j = f p j := by simp [xupdL, h]
theorem xl_e {α β : Type} (a : α) (k : α → β) : xl a k = k a := rfl
theorem mx_in {a b : Nat} (ha : a < 2 ^ 31) (hb : b < 2 ^ 31) : xmax (nI a) (nI b) = nI (max a b) := by
  unfold xmax
  rw [ite_lt ha hb]
  split
  · rw [Nat.max_eq_right (by omega)]
  · rw [Nat.max_eq_left (by omega)]
theorem mn_in {a b : Nat} (ha : a < 2 ^ 31) (hb : b < 2 ^ 31) : xmin (nI a) (nI b) = nI (min a b) := by
  unfold xmin
  rw [ite_lt hb ha]
  split
  · rw [Nat.min_eq_right (by omega)]
  · rw [Nat.min_eq_left (by omega)]
/-! bits -/
theorem bi_sh : ∀ i, i < 31 → (1 : Int32) <<< (nI i &&& 31) = nI (2 ^ i) := by decide +kernel
theorem bi_bit : ∀ i, i < 31 → f_X11_bit (nI i) = nI (2 ^ i) := by decide +kernel
theorem bi_bitN (x : Int32) (h : x < 0) : f_X11_bit x = 0 := if_pos h
theorem nb_and (a b : Nat) : nI a &&& nI b = nI (a &&& b) := by
  apply Int32.toBitVec_inj.1
  show BitVec.ofNat 32 a &&& BitVec.ofNat 32 b = BitVec.ofNat 32 (a &&& b)
  apply BitVec.eq_of_getLsbD_eq
  intro i hi
  simp [hi]
theorem nb_or (a b : Nat) : nI a ||| nI b = nI (a ||| b) := by
  apply Int32.toBitVec_inj.1
  show BitVec.ofNat 32 a ||| BitVec.ofNat 32 b = BitVec.ofNat 32 (a ||| b)
  apply BitVec.eq_of_getLsbD_eq
  intro i hi
  simp [hi]
theorem nb_xor (a b : Nat) : nI a ^^^ nI b = nI (a ^^^ b) := by
  apply Int32.toBitVec_inj.1
  show BitVec.ofNat 32 a ^^^ BitVec.ofNat 32 b = BitVec.ofNat 32 (a ^^^ b)
  apply BitVec.eq_of_getLsbD_eq
  intro i hi
  simp [hi]
theorem bs_l : ∀ n, n < 32 → ((nI n &&& 31).toBitVec.smod 32).toNat = n := by decide +kernel
theorem bi_shr {c r : Nat} (hc : c < 2 ^ 31) (hr : r < 32) : nI c >>> (nI r &&& 31) = nI (c >>> r) := by
  rw [pk_shrN hc _ r (bs_l r hr), Nat.shiftRight_eq_div_pow]
theorem bi_one {c r : Nat} (hc : c < 2 ^ 31) (hr : r < 32) : (nI c >>> (nI r &&& 31)) &&& 1 = if c.testBit r then 1 else 0 := by
  rw [bi_shr hc hr]
  show nI (c >>> r) &&& nI 1 = _
  rw [nb_and, Nat.and_one_is_mod, Nat.shiftRight_eq_div_pow, Nat.testBit_eq_decide_div_mod_eq]
  have : c / 2 ^ r % 2 = 0 ∨ c / 2 ^ r % 2 = 1 := by omega
  rcases this with h | h <;> rw [h] <;> rfl
theorem nb_in (c r : Nat) : c &&& 2 ^ r = 0 ↔ c.testBit r = false := by
  constructor
  · intro h
    have := congrArg (fun x => x.testBit r) h
    simpa [Nat.testBit_and, Nat.testBit_two_pow] using this
  · intro h
    apply Nat.eq_of_testBit_eq
    intro j
    rw [Nat.testBit_and, Nat.testBit_two_pow, Nat.zero_testBit]
    by_cases e : r = j
    · subst e; rw [h, Bool.false_and]
    · rw [decide_eq_false e, Bool.and_false]
theorem bi_in {c r : Nat} (hc : c < 2 ^ 31) (hr : r < 31) : (nI c &&& nI (2 ^ r)) = 0 ↔ c.testBit r = false := by
  rw [nb_and, ← nI_0, nI_eq (Nat.lt_of_le_of_lt Nat.and_le_left hc) (by omega), nb_in]
/-- the number of a set: bit k where f k, of n -/
def bq (f : Nat → Bool) : Nat → Nat
  | 0 => 0
  | n + 1 => if f n then 2 ^ n + bq f n else bq f n
theorem bq_lt (f : Nat → Bool) : ∀ n, bq f n < 2 ^ n
  | 0 => by simp [bq]
  | n + 1 => by
    have := bq_lt f n
    unfold bq
    split <;> omega
theorem bq_bit (f : Nat → Bool) : ∀ n k, (bq f n).testBit k = (decide (k < n) && f k)
  | 0, k => by simp [bq]
  | n + 1, k => by
    have h := bq_bit f n k
    have hl := bq_lt f n
    unfold bq
    split
    · next hf =>
      rcases Nat.lt_trichotomy k n with z | z | z
      · rw [Nat.testBit_two_pow_add_gt z, h]; simp [z, Nat.lt_succ_of_lt z]
      · subst z; rw [Nat.testBit_two_pow_add_eq, h]; simp [hf]
      · rw [Nat.testBit_lt_two_pow (Nat.lt_of_lt_of_le (show 2 ^ n + bq f n < 2 ^ (n + 1) by omega) (Nat.pow_le_pow_right (by decide) z))]
        simp [Nat.not_lt.mpr (show n + 1 ≤ k by omega)]
    · next hf =>
      rw [h]
      rcases Nat.lt_trichotomy k n with z | z | z
      · simp [z, Nat.lt_succ_of_lt z]
      · subst z; simp [hf]
      · simp [Nat.not_lt.mpr (show n + 1 ≤ k by omega), Nat.not_lt.mpr (show n ≤ k by omega)]
theorem bq_or {f : Nat → Bool} {n : Nat} : nI (bq f n) ||| nI (2 ^ n) = nI (2 ^ n + bq f n) := by
  rw [nb_or]
  congr 1
  have := Nat.two_pow_add_eq_or_of_lt (bq_lt f n) 1
  rw [Nat.mul_one] at this
  rw [this, Nat.or_comm]
theorem bq_eq {f h : Nat → Bool} : ∀ {n : Nat}, (∀ k, k < n → f k = h k) → bq f n = bq h n
  | 0, _ => rfl
  | n + 1, e => by
    unfold bq
    rw [e n (Nat.lt_succ_self n), bq_eq (fun k hk => e k (Nat.lt_succ_of_lt hk))]
theorem bq_of {c n : Nat} (h : c < 2 ^ n) : bq c.testBit n = c := by
  apply Nat.eq_of_testBit_eq
  intro k
  rw [bq_bit]
  rcases Nat.lt_or_ge k n with z | z
  · simp [z]
  · rw [Nat.testBit_lt_two_pow (Nat.lt_of_lt_of_le h (Nat.pow_le_pow_right (by decide) z))]
    simp [Nat.not_lt.mpr z]
/-- how many of the first n bits -/
def pcn (s : Nat) : Nat → Nat
  | 0 => 0
  | n + 1 => pcn s n + if s.testBit n then 1 else 0
theorem pcn_le (s : Nat) : ∀ n, pcn s n ≤ n
  | 0 => Nat.le_refl 0
  | n + 1 => by
    have := pcn_le s n
    unfold pcn
    split <;> omega
theorem r_bits {s : Nat} (hs : s < 2 ^ 31) : f_X12_bits (nI s) = some (nI (pcn s 10)) := by
  unfold f_X12_bits
  refine lpv (fun n i a => f_X12_bits_4 n (nI s) a i) (fun i => nI (pcn s i)) 10 _ ?_ ?_ xN 0 (by decide) (by decide)
  · intro n i hi
    simp only [f_X12_bits_4]
    rw [if_neg (show ¬ (10 : Int32) ≤ nI i from nI_ge hi (by decide)), bi_one hs (by omega), nI_1]
    congr 1
    rw [show pcn s (i + 1) = pcn s i + if s.testBit i then 1 else 0 from rfl]
    split
    · exact nI_1 _
    · exact (show nI (pcn s i) + nI 0 = _ from nI_add _ _)
  · intro n
    simp only [f_X12_bits_4]
    rw [if_pos (show (10 : Int32) ≤ nI 10 from nI_le (Nat.le_refl _) (by decide))]
theorem c_bits : ∀ s, s < 128 → f_J6_bitCount_0f7a4 (nI s) = nI (pcn s 10) := by decide +kernel
