/-! ===== plan: a step of the class's search, all of it ===== -/
theorem cl_keep (n : Nat) (g : Nat → Nat → Int) (P T : dt_Ob) (q : List Cry) (hl : q.length ≤ 5) (hP : CPr P q) : ∃ P', fX3_keep (jI (csP n g q)) P T = some (P', T) ∧ (∀ j, j ≠ 2 → j ≠ 3 → j ≠ 6 → P' j = P j) ∧ CBt P' n g (some q) := by
  refine ⟨_, rfl, fun j h2 h3 h6 => by rw [dt_setA_ne _ _ _ _ h3, dt_setA_ne _ _ _ _ h2, dt_set_n _ _ _ _ _ h6], ⟨fun q => (by cases q), fun q' hq => ?_⟩⟩
  have e := Option.some.inj hq
  subst e
  refine ⟨by rw [dt_setA_ne _ _ _ _ (by omega), dt_setA_ne _ _ _ _ (by omega), dt_set_at], fun i s hs => ?_⟩
  have l := get_lt hs
  obtain ⟨a, b⟩ := hP i s hs
  refine ⟨?_, ?_⟩
  · rw [dt_setA_ne _ _ _ _ (by omega), dt_setA_s]
    show va_cpy (P 0) (P 2) 0 0 5 i = _
    rw [va_cpy_i _ _ _ _ (by omega)]; exact a
  · rw [dt_setA_s]
    show va_cpy (P 1) (P 3) 0 0 5 i = _
    rw [va_cpy_i _ _ _ _ (by omega)]; exact b
