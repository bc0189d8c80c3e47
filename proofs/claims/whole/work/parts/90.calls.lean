/-! every call, in step -/
def okP (o : Option (Int32 × xG)) : Prop := ∃ out, o = some out ∧ out.1 = 1
def mDD (W : Nat → Int64) (F G : xG → Option (Int32 × xG)) : Prop := ∀ R L g, mMM W R L g → ∃ v w1 w2 R' L', F g = some (v, w1) ∧ G w1 = some (v, w2) ∧ mMM W R' L' w2
def frL (C : List (Nat × Option Nat)) (F : xG → Option (Int32 × xG)) : Prop := ∀ g out, F g = some out → xagr C g out.2
theorem mDD.of {W : Nat → Int64} {F G : xG → Option (Int32 × xG)} (h : ∀ R L, mD W R L F G) (hF : frL kLr F) (hG : frL kLr G) : mDD W F G := fun R L g ⟨h1, h2⟩ => by
  obtain ⟨v, w1, w2, e1, e2, h3⟩ := h R L g h1
  exact ⟨v, w1, w2, R, L, e1, e2, h3, (h2.ag (hF g _ e1)).ag (hG w1 _ e2)⟩
theorem frV {C : List (Nat × Option Nat)} (f : xG → Option Int32) : frL C (fV f) := fun g out H => by
  unfold fV at H
  cases e : f g with
  | none => rw [e] at H; cases H
  | some v =>
    rw [e] at H
    cases H
    exact xagr.rf
theorem frC {C : List (Nat × Option Nat)} (f : xG → Int32) : frL C (fun g => some (f g, g)) := fun g out H => by
  cases H
  exact xagr.rf
theorem mm_step {W : Nat → Int64} {F G : xG → Option (Int32 × xG)} {k : xG → Option (Int32 × xG)} (d : mDD W F G) {R : pR} {L : Nat} {g : xG} (hM : mMM W R L g) (nx : ∀ R L g, mMM W R L g → okP (k g)) : okP ((F g).bind fun a => (G a.2).bind fun b => if a.1 = b.1 then k b.2 else some (0, b.2)) := by
  obtain ⟨v, w1, w2, R', L', e1, e2, h⟩ := d R L g hM
  rw [e1, Option.bind_some]
  show okP ((G w1).bind fun b => if v = b.1 then k b.2 else some (0, b.2))
  rw [e2, Option.bind_some]
  show okP (if v = v then k w2 else some (0, w2))
  rw [if_pos rfl]
  exact nx _ _ _ h
theorem mm_stepV {W : Nat → Int64} {f : xG → Option Int32} {G : xG → Option (Int32 × xG)} {k : xG → Option (Int32 × xG)} (d : mDD W (fV f) G) {R : pR} {L : Nat} {g : xG} (hM : mMM W R L g) (nx : ∀ R L g, mMM W R L g → okP (k g)) : okP ((f g).bind fun a => (G g).bind fun b => if a = b.1 then k b.2 else some (0, b.2)) := by
  have h := mm_step d hM nx
  unfold fV at h
  cases e : f g with
  | none => rw [e] at h; exact h
  | some v => rw [e] at h; exact h
section
variable {W : Nat → Int64}
theorem d_feed (x y z u v : Int32) : mDD W (f_X11_feed_0 x y z u v) (f_X12_feed_60 x y z u v) := mDD.of (fun R L => m_feed x y z u v) (fun g out H => (fr_X11_feed_0 _ H).agr rfl) (fun g out H => (fr_X12_feed_60 _ H).agr rfl)
theorem d_back (x : Int32) : mDD W (fun g => some (f_X11_back_0 x g)) (fun g => some (f_X12_back_60 x g)) := mDD.of (fun R L => m_back x) (fun g out H => (fr_X11_back_0 _ (Option.some.inj H)).agr rfl) (fun g out H => (fr_X12_back_60 _ (Option.some.inj H)).agr rfl)
theorem d_place : mDD W (fun g => some (f_X11_place_0 g, g)) (fun g => some (f_X12_place_60 g, g)) := mDD.of (fun R L => m_place ) (frC _) (frC _)
theorem d_town (x y : Int32) : mDD W (fV (f_X11_town_0 x y)) (f_X12_town_60 x y) := mDD.of (fun R L => m_ask (fun c ρ hR ho hc hc2 => q_town hR ho hc hc2 x y) (frV _) (fun g out H => (fr_X12_town_60 _ H).agr rfl)) (frV _) (fun g out H => (fr_X12_town_60 _ H).agr rfl)
theorem d_road (x y : Int32) : mDD W (fun g => some (f_X11_road_0 x y g, g)) (f_X12_road_60 x y) := mDD.of (fun R L => m_ask (fun c ρ hR ho hc hc2 => q_road hR ho hc hc2 x y) (frC _) (fun g out H => (fr_X12_road_60 _ H).agr rfl)) (frC _) (fun g out H => (fr_X12_road_60 _ H).agr rfl)
theorem d_person (x y : Int32) : mDD W (f_X11_person_0 x y) (f_X12_person_60 x y) := mDD.of (fun R L => m_ask (fun c ρ hR ho hc hc2 => q_person hR ho hc hc2 x y) (fun g out H => (fr_X11_person_0 _ H).agr rfl) (fun g out H => (fr_X12_person_60 _ H).agr rfl)) (fun g out H => (fr_X11_person_0 _ H).agr rfl) (fun g out H => (fr_X12_person_60 _ H).agr rfl)
theorem d_send (x y : Int32) : mDD W (f_X11_send_0 x y) (f_X12_send_60 x y) := mDD.of (fun R L => m_send x y) (fun g out H => (fr_X11_send_0 _ H).agr rfl) (fun g out H => (fr_X12_send_60 _ H).agr rfl)
theorem d_close (x : Int32) {y : Int32} (hy : y = 0 ∨ y = 1) : mDD W (f_X11_close_0 x y) (f_X12_close_60 x y) := mDD.of (fun R L => m_close x hy) (fun g out H => (fr_X11_close_0 _ H).agr rfl) (fun g out H => (fr_X12_close_60 _ H).agr rfl)
theorem d_admit (x : Int32) : mDD W (f_X11_admit_0 x) (f_X12_admit_60 x) := mDD.of (fun R L => m_admit x) (fun g out H => (fr_X11_admit_0 _ H).agr rfl) (fun g out H => (fr_X12_admit_60 _ H).agr rfl)
theorem d_days (x : Int32) : mDD W (f_X11_days_0 x) (f_X12_days_60 x) := mDD.of (fun R L => m_days x) (fun g out H => (fr_X11_days_0 _ H).agr rfl) (fun g out H => (fr_X12_days_60 _ H).agr rfl)
theorem d_undo : mDD W f_X11_undo_0 f_X12_undo_60 := mDD.of (fun R L => m_undo ) (fun g out H => (fr_X11_undo_0 _ H).agr rfl) (fun g out H => (fr_X12_undo_60 _ H).agr rfl)
theorem d_ringer : mDD W f_X11_ringer_0 f_X12_ringer_60 := mDD.of (fun R L => m_ask (fun c ρ hR ho hc hc2 => q_ringer hR ho hc hc2 ) (fun g out H => (fr_X11_ringer_0 _ H).agr rfl) (fun g out H => (fr_X12_ringer_60 _ H).agr rfl)) (fun g out H => (fr_X11_ringer_0 _ H).agr rfl) (fun g out H => (fr_X12_ringer_60 _ H).agr rfl)
theorem d_far (x y : Int32) : mDD W (fun g => some (f_X11_far_0 x y g, g)) (f_X12_far_60 x y) := mDD.of (fun R L => m_ask (fun c ρ hR ho hc hc2 => q_far hR ho hc hc2 x y) (frC _) (fun g out H => (fr_X12_far_60 _ H).agr rfl)) (frC _) (fun g out H => (fr_X12_far_60 _ H).agr rfl)
theorem d_longest (x y : Int32) : mDD W (f_X11_longest_0 x y) (f_X12_longest_60 x y) := mDD.of (fun R L => m_ask (fun c ρ hR ho hc hc2 => q_longest hR ho hc hc2 x y) (fun g out H => (fr_X11_longest_0 _ H).agr rfl) (fun g out H => (fr_X12_longest_60 _ H).agr rfl)) (fun g out H => (fr_X11_longest_0 _ H).agr rfl) (fun g out H => (fr_X12_longest_60 _ H).agr rfl)
theorem d_liars : mDD W f_X11_liars_0 f_X12_liars_60 := mDD.of (fun R L => m_ask (fun c ρ hR ho hc hc2 => q_liars hR ho hc hc2 ) (fun g out H => (fr_X11_liars_0 _ H).agr rfl) (fun g out H => (fr_X12_liars_60 _ H).agr rfl)) (fun g out H => (fr_X11_liars_0 _ H).agr rfl) (fun g out H => (fr_X12_liars_60 _ H).agr rfl)
theorem d_truth : mDD W (fV f_X11_truth_0) f_X12_truth_60 := mDD.of (fun R L => m_ask (fun c ρ hR ho hc hc2 => q_truth hR ho hc hc2 ) (frV _) (fun g out H => (fr_X12_truth_60 _ H).agr rfl)) (frV _) (fun g out H => (fr_X12_truth_60 _ H).agr rfl)
theorem d_turns : mDD W f_X11_turns_0 f_X12_turns_60 := mDD.of (fun R L => m_ask (fun c ρ hR ho hc hc2 => q_turns hR ho hc hc2 ) (fun g out H => (fr_X11_turns_0 _ H).agr rfl) (fun g out H => (fr_X12_turns_60 _ H).agr rfl)) (fun g out H => (fr_X11_turns_0 _ H).agr rfl) (fun g out H => (fr_X12_turns_60 _ H).agr rfl)
theorem d_wish (x : Int32) : mDD W (f_X11_wish_0 x) (f_X12_wish_60 x) := mDD.of (fun R L => m_ask (fun c ρ hR ho hc hc2 => q_wish hR ho hc hc2 x) (fun g out H => (fr_X11_wish_0 _ H).agr rfl) (fun g out H => (fr_X12_wish_60 _ H).agr rfl)) (fun g out H => (fr_X11_wish_0 _ H).agr rfl) (fun g out H => (fr_X12_wish_60 _ H).agr rfl)
theorem d_when (x : Int32) : mDD W (f_X11_when_0 x) (f_X12_when_60 x) := mDD.of (fun R L => m_ask (fun c ρ hR ho hc hc2 => q_when hR ho hc hc2 x) (fun g out H => (fr_X11_when_0 _ H).agr rfl) (fun g out H => (fr_X12_when_60 _ H).agr rfl)) (fun g out H => (fr_X11_when_0 _ H).agr rfl) (fun g out H => (fr_X12_when_60 _ H).agr rfl)
theorem d_soonest (x : Int32) : mDD W (f_X11_soonest_0 x) (f_X12_soonest_60 x) := mDD.of (fun R L => m_ask (fun c ρ hR ho hc hc2 => q_soonest hR ho hc hc2 x) (fun g out H => (fr_X11_soonest_0 _ H).agr rfl) (fun g out H => (fr_X12_soonest_60 _ H).agr rfl)) (fun g out H => (fr_X11_soonest_0 _ H).agr rfl) (fun g out H => (fr_X12_soonest_60 _ H).agr rfl)
theorem d_often (x y : Int32) : mDD W (f_X11_often_0 x y) (f_X12_often_60 x y) := mDD.of (fun R L => m_ask (fun c ρ hR ho hc hc2 => q_often hR ho hc hc2 x y) (fun g out H => (fr_X11_often_0 _ H).agr rfl) (fun g out H => (fr_X12_often_60 _ H).agr rfl)) (fun g out H => (fr_X11_often_0 _ H).agr rfl) (fun g out H => (fr_X12_often_60 _ H).agr rfl)
theorem d_rings (x : Int32) : mDD W (f_X11_rings_0 x) (f_X12_rings_60 x) := mDD.of (fun R L => m_ask (fun c ρ hR ho hc hc2 => q_rings hR ho hc hc2 x) (fun g out H => (fr_X11_rings_0 _ H).agr rfl) (fun g out H => (fr_X12_rings_60 _ H).agr rfl)) (fun g out H => (fr_X11_rings_0 _ H).agr rfl) (fun g out H => (fr_X12_rings_60 _ H).agr rfl)
theorem d_walks (x : Int32) : mDD W (fV (f_X11_walks_0 x)) (f_X12_walks_60 x) := mDD.of (fun R L => m_ask (fun c ρ hR ho hc hc2 => q_walks hR ho hc hc2 x) (frV _) (fun g out H => (fr_X12_walks_60 _ H).agr rfl)) (frV _) (fun g out H => (fr_X12_walks_60 _ H).agr rfl)
theorem d_stranger (x : Int32) : mDD W (fV (f_X11_stranger_0 x)) (f_X12_stranger_60 x) := mDD.of (fun R L => m_ask (fun c ρ hR ho hc hc2 => q_stranger hR ho hc hc2 x) (frV _) (fun g out H => (fr_X12_stranger_60 _ H).agr rfl)) (frV _) (fun g out H => (fr_X12_stranger_60 _ H).agr rfl)
theorem d_clerks (x : Int32) : mDD W (fV (f_X11_clerks_0 x)) (f_X12_clerks_60 x) := mDD.of (fun R L => m_ask (fun c ρ hR ho hc hc2 => q_clerks hR ho hc hc2 x) (frV _) (fun g out H => (fr_X12_clerks_60 _ H).agr rfl)) (frV _) (fun g out H => (fr_X12_clerks_60 _ H).agr rfl)
theorem d_centre (x : Int32) : mDD W (fV (f_X11_centre_0 x)) (f_X12_centre_60 x) := mDD.of (fun R L => m_ask (fun c ρ hR ho hc hc2 => q_centre hR ho hc hc2 x) (frV _) (fun g out H => (fr_X12_centre_60 _ H).agr rfl)) (frV _) (fun g out H => (fr_X12_centre_60 _ H).agr rfl)
theorem d_meet (x : Int32) : mDD W (fV (f_X11_meet_0 x)) (f_X12_meet_60 x) := mDD.of (fun R L => m_ask (fun c ρ hR ho hc hc2 => q_meet hR ho hc hc2 x) (frV _) (fun g out H => (fr_X12_meet_60 _ H).agr rfl)) (frV _) (fun g out H => (fr_X12_meet_60 _ H).agr rfl)
theorem d_tree : mDD W (fV f_X11_tree_0) f_X12_tree_60 := mDD.of (fun R L => m_ask (fun c ρ hR ho hc hc2 => q_tree hR ho hc hc2 ) (frV _) (fun g out H => (fr_X12_tree_60 _ H).agr rfl)) (frV _) (fun g out H => (fr_X12_tree_60 _ H).agr rfl)
theorem d_bridges : mDD W f_X11_bridges_0 f_X12_bridges_60 := mDD.of (fun R L => m_ask (fun c ρ hR ho hc hc2 => q_bridges hR ho hc hc2 ) (fun g out H => (fr_X11_bridges_0 _ H).agr rfl) (fun g out H => (fr_X12_bridges_60 _ H).agr rfl)) (fun g out H => (fr_X11_bridges_0 _ H).agr rfl) (fun g out H => (fr_X12_bridges_60 _ H).agr rfl)
theorem d_steps (x y : Int32) : mDD W (fV (f_X11_steps_0 x y)) (f_X12_steps_60 x y) := mDD.of (fun R L => m_ask (fun c ρ hR ho hc hc2 => q_steps hR ho hc hc2 x y) (frV _) (fun g out H => (fr_X12_steps_60 _ H).agr rfl)) (frV _) (fun g out H => (fr_X12_steps_60 _ H).agr rfl)
theorem d_then (x y : Int32) : mDD W (f_X11_then_0 x y) (f_X12_then_60 x y) := mDD.of (fun R L => m_ask (fun c ρ hR ho hc hc2 => q_then hR ho hc hc2 x y) (fun g out H => (fr_X11_then_0 _ H).agr rfl) (fun g out H => (fr_X12_then_60 _ H).agr rfl)) (fun g out H => (fr_X11_then_0 _ H).agr rfl) (fun g out H => (fr_X12_then_60 _ H).agr rfl)
theorem d_rungIn (x y : Int32) : mDD W (f_X11_rungIn_0 x y) (f_X12_rungIn_60 x y) := mDD.of (fun R L => m_ask (fun c ρ hR ho hc hc2 => q_rungIn hR ho hc hc2 x y) (fun g out H => (fr_X11_rungIn_0 _ H).agr rfl) (fun g out H => (fr_X12_rungIn_60 _ H).agr rfl)) (fun g out H => (fr_X11_rungIn_0 _ H).agr rfl) (fun g out H => (fr_X12_rungIn_60 _ H).agr rfl)
theorem d_barredIn (x : Int32) : mDD W (f_X11_barredIn_0 x) (f_X12_barredIn_60 x) := mDD.of (fun R L => m_ask (fun c ρ hR ho hc hc2 => q_barredIn hR ho hc hc2 x) (fun g out H => (fr_X11_barredIn_0 _ H).agr rfl) (fun g out H => (fr_X12_barredIn_60 _ H).agr rfl)) (fun g out H => (fr_X11_barredIn_0 _ H).agr rfl) (fun g out H => (fr_X12_barredIn_60 _ H).agr rfl)
theorem d_year (x y z : Int32) : mDD W (f_X11_year_0 x y z) (f_X12_year_60 x y z) := mDD.of (fun R L => m_ask (fun c ρ hR ho hc hc2 => q_year hR ho hc hc2 x y z) (fun g out H => (fr_X11_year_0 _ H).agr rfl) (fun g out H => (fr_X12_year_60 _ H).agr rfl)) (fun g out H => (fr_X11_year_0 _ H).agr rfl) (fun g out H => (fr_X12_year_60 _ H).agr rfl)
theorem d_tell (x : Int32) {y : Int32} (hy : y = 0 ∨ y = 1) : mDD W (f_X11_tell_0 x y) (f_X12_tell_60 x y) := mDD.of (fun R L => m_tell x hy) (fun g out H => (fr_X11_tell_0 _ H).agr rfl) (fun g out H => (fr_X12_tell_60 _ H).agr rfl)
theorem d_forget : mDD W (fun g => some (f_X11_forget_0  g)) (fun g => some (f_X12_forget_60  g)) := mDD.of (fun R L => m_forget ) (fun g out H => (fr_X11_forget_0 _ (Option.some.inj H)).agr rfl) (fun g out H => (fr_X12_forget_60 _ (Option.some.inj H)).agr rfl)
theorem d_whence (x y z : Int32) : mDD W (f_X11_whence_0 x y z) (f_X12_whence_60 x y z) := mDD.of (fun R L => m_askH (fun c ρ hs hw n hR ho hc hc2 hn => q_whence hR ho hc hc2 hn x y z) (fun g out H => (fr_X11_whence_0 _ H).agr rfl) (fun g out H => (fr_X12_whence_60 _ H).agr rfl)) (fun g out H => (fr_X11_whence_0 _ H).agr rfl) (fun g out H => (fr_X12_whence_60 _ H).agr rfl)
theorem d_listen (x y : Int32) : mDD W (f_X11_listen_0 x y) (f_X12_listen_60 x y) := mDD.of (fun R L => m_askH (fun c ρ hs hw n hR ho hc hc2 hn => q_listen hR ho hc hc2 hn x y) (fun g out H => (fr_X11_listen_0 _ H).agr rfl) (fun g out H => (fr_X12_listen_60 _ H).agr rfl)) (fun g out H => (fr_X11_listen_0 _ H).agr rfl) (fun g out H => (fr_X12_listen_60 _ H).agr rfl)
theorem d_hold (x : Int32) : mDD W (f_X11_hold_0 x) (f_X12_hold_60 x) := mDD.of (fun R L => m_hold x) (fun g out H => (fr_X11_hold_0 _ H).agr rfl) (fun g out H => (fr_X12_hold_60 _ H).agr rfl)
theorem d_restore (x : Int32) : mDD W (f_X11_restore_0 x) (f_X12_restore_60 x) := mDD.of (fun R L => m_restore x) (fun g out H => (fr_X11_restore_0 _ H).agr rfl) (fun g out H => (fr_X12_restore_60 _ H).agr rfl)
theorem d_count (x : Int32) : mDD W (fV (f_X11_count_0 x)) (f_X12_count_60 x) := mDD.of (fun R L => m_count x) (frV _) (fun g out H => (fr_X12_count_60 _ H).agr rfl)
end
