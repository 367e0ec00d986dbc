/-! ===== plan: a whole search ===== -/
theorem RES_root {n : Nat} {W : Int} {g : Nat → Nat → Int} {goal : Int} {N : Nat} {B' : Bst} (h : RES n W g goal N [] none B') : (B' = none → ∀ p, ¬ IsPlan n W g goal N p) ∧ (∀ q, B' = some q → Opt n W g goal N q) ∧ (∀ p, Opt n W g goal N p → B' = some p) := by
  have k : ∀ p, Opt n W g goal N p → B' = some p := fun p hp => h.2 p p hp rfl (fun q' hq => by cases hq)
  refine ⟨fun e p hp => ?_, fun q hq => ?_, k⟩
  · obtain ⟨o, ho⟩ := Opt_ex ⟨p, hp⟩
    have := k o ho
    rw [e] at this
    cases this
  · rcases h.1 with z | ⟨q1, r, e, hq1, hB, _⟩
    · rw [z] at hq; cases hq
    · obtain ⟨o, ho⟩ := Opt_ex ⟨q1, hq1⟩
      have := k o ho
      rw [hq] at this
      rw [Option.some.inj this]
      exact ho
theorem no_short {n : Nat} {W : Int} {g : Nat → Nat → Int} (ho : okT n W g) {goal : Int} {N : Nat} (h : tp g n + N < goal) (p : List Cry) : ¬ IsPlan n W g goal N p := by
  rintro ⟨h1, h2, h3⟩
  have := (run_tp p g ho h1).2
  omega
