/-! the changes of the law, one by one -/
def both (D : dT) (f g : dT → Option (Int32 × dT)) : Prop := ∃ v D1 D2, f D = some (v, D1) ∧ g D1 = some (v, D2) ∧ RR D2
theorem b_person {D : dT} (h : RR D) (x : Int32) : both D (F_X5_person x) (F_X6_person x) := chg h (op := F_X0_addPerson 19 x) (r := F_X6_refusesPerson x) (a := F_X6_addsPerson x) (fun _ _ _ _ hF hS => k_per hF hS x)
theorem b_job {D : dT} (h : RR D) (a b c d e : Int32) : both D (F_X5_job a b c d e) (F_X6_job a b c d e) := chg h (op := F_X0_addJob 19 a b c d e) (r := F_X6_refusesJob a b c d e) (a := F_X6_addsJob a b c d e) (fun _ _ _ _ hF hS => k_job hF hS a b c d e)
theorem b_begin {D : dT} (h : RR D) (a b c : Int32) : both D (F_X5_begin a b c) (F_X6_begin a b c) := chg h (op := F_X0_beginJob 19 a b c) (r := F_X6_refusesBegin a b c) (a := F_X6_begins a b c) (fun _ _ _ _ hF hS => k_beg hF hS a b c)
theorem b_delay {D : dT} (h : RR D) (a b : Int32) : both D (F_X5_delay a b) (F_X6_delay a b) := chg h (op := F_X0_delayJob 19 a b) (r := F_X6_refusesDelay a b) (a := F_X6_delays a b) (fun _ _ _ _ hF hS => k_del hF hS a b)
theorem b_callOff {D : dT} (h : RR D) (a : Int32) : both D (F_X5_callOff a) (F_X6_callOff a) := chg h (op := F_X0_callOffJob 19 a) (r := F_X6_refusesCall a) (a := F_X6_callsOff a) (fun _ _ _ _ hF hS => k_off hF hS a)
theorem b_pass {D : dT} (h : RR D) (a : Int32) : both D (F_X5_pass a) (F_X6_pass a) := chg h (op := F_X0_passHours 19 a) (r := F_X6_refusesHours a) (a := F_X6_passes a) (fun _ _ _ _ hF hS => k_hrs hF hS a)
theorem b_assign {D : dT} (h : RR D) : both D F_X5_assign F_X6_assign := by
  obtain ⟨v, D1, D2, a, b, c⟩ := chg h (op := F_X0_assignJobs 19) (r := fun E => some (0, E)) (a := F_X6_assigns) (fun D s P J hF hS => by
    obtain ⟨v, s', D', v0, k1, k2, k3, k4, k5⟩ := k_asg hF hS
    exact Or.inr ⟨v, s', D', P, J, v0, k1, fun _ _ => rfl, k2, k3, k4, k5⟩)
  refine ⟨v, D1, D2, a, ?_, c⟩
  rw [bd_some, if_pos (show (0 : Int32) = 0 from rfl)] at b
  exact b
/-- the questions -/
theorem b_ask {D : dT} (h : RR D) {f g : dT → Option (Int32 × dT)} (hq : ∀ P J, RF D P J → ∃ v, f D = some (v, D) ∧ g D = some (v, D)) : both D f g := by
  obtain ⟨⟨P, J, hF, hS⟩, h0, _⟩ := id h
  obtain ⟨v, a, b⟩ := hq P J ⟨hF, hS, h0⟩
  exact ⟨v, D, D, a, b, h⟩
theorem b_why {D : dT} (h : RR D) (a b c : Int32) : both D (F_X5_why a b c) (F_X6_why a b c) := b_ask h (fun _ _ hq => q_why hq a b c)
theorem b_crew {D : dT} (h : RR D) (a b : Int32) : both D (F_X5_crew a b) (F_X6_crew a b) := b_ask h (fun _ _ hq => q_crew hq a b)
theorem b_best {D : dT} (h : RR D) (a : Int32) : both D (F_X5_bestStraps a) (F_X6_bestStraps a) := b_ask h (fun _ _ hq => q_best hq a)
theorem b_waiting {D : dT} (h : RR D) (a : Int32) : both D (F_X5_waiting a) (F_X6_waiting a) := b_ask h (fun _ _ hq => q_waiting hq a)
theorem b_straps {D : dT} (h : RR D) (a b : Int32) : both D (F_X5_straps a b) (F_X6_straps a b) := b_ask h (fun _ _ hq => q_straps hq a b)
theorem b_of {D : dT} (h : RR D) (a b : Int32) : both D (F_X5_of a b) (F_X6_of a b) := b_ask h (fun _ _ hq => q_of hq a b)
theorem b_ofJob {D : dT} (h : RR D) (a b : Int32) : both D (F_X5_ofJob a b) (F_X6_ofJob a b) := b_ask h (fun _ _ hq => q_ofJob hq a b)
theorem b_count {D : dT} (h : RR D) (a : Int32) : both D (F_X5_count a) (F_X6_count a) := by
  obtain ⟨_, _, ⟨o, c, _, _, _, h2, h4, _⟩, _, ⟨L, _, h5, h6, _⟩⟩ := id h
  exact b_ask h (fun _ _ hq => q_count hq (by rw [h5, h6]) (by rw [h2, h4]) a)
