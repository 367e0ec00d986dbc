/-! ===== plan: the class, one number of carries after another ===== -/
theorem cl_seek39 {n : Nat} {W : Int} {g : Nat → Nat → Int} (ho : okT n W g) {goal : Int} (hgo : 1 ≤ goal ∧ goal ≤ 20) : ∀ (d fuel M : Nat) (P T : dt_Ob), M + d = 5 → d + 1 < fuel → TW T n W g → P 4 0 = jI goal → P 6 0 = 1000000 → (∀ p, ¬ IsPlan n W g goal M p) → ∃ P' T', fX3_seek_39 fuel (jI ((M + 1 : Nat) : Int)) P T = some (P', T') ∧ ((∃ N q, M < N ∧ N ≤ 5 ∧ (∀ N', M < N' → N' < N → ∀ p, ¬ IsPlan n W g goal N' p) ∧ Opt n W g goal N q ∧ P' 5 0 = jI (N : Nat) ∧ P' 6 0 = jI (csP n g q) ∧ ∀ i s, q[i]? = some s → P' 2 i = jI s.1 ∧ P' 3 i = jI s.2) ∨ (P' 5 0 = -1 ∧ ∀ N', M < N' → N' ≤ 5 → ∀ p, ¬ IsPlan n W g goal N' p)) := by
  intro d
  induction d with
  | zero =>
    intro fuel M P T hd hf hT h4 h6 hno
    obtain ⟨f, rfl⟩ : ∃ f, fuel = f + 1 := ⟨fuel - 1, by omega⟩
    refine ⟨dt_set P 5 0 (-1), T, ?_, Or.inr ⟨dt_set_at _ _ _ _, fun N' h1 h2 => by omega⟩⟩
    rw [fX3_seek_39, if_pos (by rw [show (5 : Int32) = jI 5 from rfl, jI_lt _ _ (by omega) (by omega) (by omega) (by omega)]; omega)]
  | succ d ih =>
    intro fuel M P T hd hf hT h4 h6 hno
    obtain ⟨f, rfl⟩ : ∃ f, fuel = f + 1 := ⟨fuel - 1, by omega⟩
    have n1 : jI ((M + 1 : Nat) : Int) + (1 : Int32) = jI ((M + 1 + 1 : Nat) : Int) := by rw [show (1 : Int32) = jI 1 from rfl, jI_add]; rfl
    have hS : CSt n W g goal (M + 1) [] (dt_set P 5 0 (jI ((M + 1 : Nat) : Int))) T none := ⟨hT, by rw [dt_set_n _ _ _ _ _ (by omega)]; exact h4, dt_set_at _ _ _ _, fun i s hs => (by cases hs), ⟨fun _ => by rw [dt_set_n _ _ _ _ _ (by omega)]; exact h6, fun q hq => (by cases hq)⟩, fun q hq => (by cases hq)⟩
    obtain ⟨P1, T1, B1, a1, a2, a3⟩ := cl_srch ho hgo (N := M) (by omega) hno 24 M [] _ T none (by show 0 + M = M; omega) (by omega) trivial hS
    have a1' : fX3_search 24 (0 : Int32) (0 : Int32) (dt_set P 5 0 (jI ((M + 1 : Nat) : Int))) T = some (P1, T1) := a1
    obtain ⟨r1, r2, r3⟩ := RES_root a3
    rw [fX3_seek_39, if_neg (by rw [show (5 : Int32) = jI 5 from rfl, jI_lt _ _ (by omega) (by omega) (by omega) (by omega)]; omega), a1', dt_b1]
    dsimp only
    cases hB : B1 with
    | none =>
      have e6 := a2.2.2.2.2.1.1 hB
      rw [if_pos (by rw [e6]; decide), n1]
      obtain ⟨P', T', b1, b2⟩ := ih f (M + 1) P1 T1 (by omega) (by omega) a2.1 a2.2.1 e6 (r1 hB)
      refine ⟨P', T', b1, ?_⟩
      rcases b2 with ⟨N, q, c1, c2, c3, c4⟩ | ⟨c1, c2⟩
      · refine Or.inl ⟨N, q, by omega, c2, fun N' h1 h2 => ?_, c4⟩
        by_cases e : N' = M + 1
        · rw [e]; exact r1 hB
        · exact c3 N' (by omega) h2
      · refine Or.inr ⟨c1, fun N' h1 h2 => ?_⟩
        by_cases e : N' = M + 1
        · rw [e]; exact r1 hB
        · exact c2 N' (by omega) h2
    | some q =>
      obtain ⟨e6, e23⟩ := a2.2.2.2.2.1.2 q hB
      have oq := r2 q hB
      have c0 := csP_nn n q g
      have c1 := csP_le q g ho oq.1.1
      have l := oq.1.2.1
      rw [if_neg (by rw [e6, show (1000000 : Int32) = jI 1000000 from rfl, jI_le _ _ (by omega) (by omega) (by omega) (by omega)]; omega)]
      exact ⟨P1, T1, rfl, Or.inl ⟨M + 1, q, by omega, by omega, fun N' h1 h2 => by omega, oq, a2.2.2.1, e6, e23⟩⟩
