/-! ===== plan: the class's search ===== -/
theorem cl_srch {n : Nat} {W : Int} {g : Nat → Nat → Int} (ho : okT n W g) {goal : Int} (hgo : 1 ≤ goal ∧ goal ≤ 20) {N : Nat} (hN : N + 1 ≤ 5) (hno : ∀ p, ¬ IsPlan n W g goal N p) : ∀ (fuel e : Nat) (pre : List Cry) (P T : dt_Ob) (B : Bst), pre.length + e = N → e < fuel → VdP n W g pre → CSt n W g goal (N + 1) pre P T B → ∃ P' T' B', fX3_search fuel (jI pre.length) (jI (csP n g pre)) P T = some (P', T') ∧ CSt n W g goal (N + 1) pre P' T' B' ∧ RES n W g goal (N + 1) pre B B' := by
  have hn := ho.1
  have hW := ho.2.2.1
  intro fuel
  induction fuel with
  | zero => intro e pre P T B _ hf; omega
  | succ f ih =>
    intro e pre P T B he hf hv hS
    have okp := VdP_T pre g ho hv
    have next : ∀ q s r, IsPlan n W g goal (N + 1) q → q = pre ++ s :: r → okS n W (runP n g pre) s := by
      intro q s r hq eq
      rw [eq] at hq
      exact ((VdP_app n W pre (s :: r) g).mp hq.1).2.1
    have top : fX3_search (f + 1) (jI pre.length) (jI (csP n g pre)) P T = fX3_search_9 (fX3_search f) dt_F (jI pre.length) (jI (csP n g pre)) (jI ((0 : Nat) : Int)) P T := by
      rw [fX3_search]
      unfold fX3_search_b
      rw [if_pos (show jI pre.length < (5 : Int32) by rw [show (5 : Int32) = jI 5 from rfl, jI_lt _ _ (by omega) (by omega) (by omega) (by omega)]; omega)]
      rfl
    have l9 : ∀ (m fuel x : Nat) (P T : dt_Ob) (B : Bst), x + m = n → m < fuel → CSt n W g goal (N + 1) pre P T B → ∃ P' T' B', fX3_search_9 (fX3_search f) fuel (jI pre.length) (jI (csP n g pre)) (jI x) P T = some (P', T') ∧ CSt n W g goal (N + 1) pre P' T' B' ∧ REL n W g goal (N + 1) pre (8 * x) B B' := by
      intro m
      induction m with
      | zero =>
        intro fuel x P T B hm hf hS
        obtain ⟨f', rfl⟩ : ∃ f', fuel = f' + 1 := ⟨fuel - 1, by omega⟩
        refine ⟨P, T, B, ?_, hS, REL_end pre _ B (fun q s r hq eq => ?_)⟩
        · rw [fX3_search_9, hS.1.2.1, if_pos (by rw [jI_le _ _ (by omega) (by omega) (by omega) (by omega)]; omega)]
        · have o1 := next q s r hq eq
          have rb := okp.2.2.2.1 s.1 o1.1
          unfold okB at rb
          have := o1.1
          have := o1.2.2.1
          have := o1.2.2.2.1
          unfold dig
          omega
      | succ m ihm =>
        intro fuel x P T B hm hf hS
        obtain ⟨f', rfl⟩ : ∃ f', fuel = f' + 1 := ⟨fuel - 1, by omega⟩
        have hx : x < n := by omega
        have rb := okp.2.2.2.1 x hx
        unfold okB at rb
        have n1 : jI x + (1 : Int32) = jI ((x + 1 : Nat) : Int) := by rw [show (1 : Int32) = jI 1 from rfl, jI_add]; rfl
        have ix : dt_ix (jI x) 20 = some x := dt_ix_n _ _ (by omega) (by omega)
        have em : (jI (runP n g pre 4 x) = (-1 : Int32)) = (runP n g pre 4 x = -1) := by rw [show (-1 : Int32) = jI (-1) from rfl]; exact jI_eq _ _ (by omega) (by omega) (by omega) (by omega)
        have t9 : fX3_search_9 (fX3_search f) (f' + 1) (jI pre.length) (jI (csP n g pre)) (jI x) P T = (if jI (runP n g pre 4 x) = (-1 : Int32) then fX3_search_9 (fX3_search f) f' (jI pre.length) (jI (csP n g pre)) (jI ((x + 1 : Nat) : Int)) P T else fX3_search_32 (fX3_search f) (fX3_search_9 (fX3_search f) f') dt_F (jI pre.length) (jI (csP n g pre)) (jI x) (jI ((0 : Nat) : Int)) P T) := by
          have t6 : T 6 x = jI (runP n g pre 4 x) := hS.1.2.2.1 4 (by omega) x hx
          rw [fX3_search_9]
          unfold fX3_search_66
          rw [hS.1.2.1, if_neg (by rw [jI_le _ _ (by omega) (by omega) (by omega) (by omega)]; omega), ix, dt_b1, t6, n1]
          rfl
        rw [t9]
        have e0 : runP n g pre 0 x = g 0 x := run_0 x pre g 0 (by omega)
        by_cases z : runP n g pre 4 x = -1
        · rw [if_pos (by rw [em]; exact z)]
          obtain ⟨P', T', B', a1, a2, a3⟩ := ihm f' (x + 1) P T B (by omega) (by omega) hS
          refine ⟨P', T', B', a1, a2, REL_gap pre _ _ B B' (by omega) (fun q s r hq eq hl => ?_) a3⟩
          have o1 := next q s r hq eq
          have rs := okp.2.2.2.1 s.1 o1.1
          unfold okB at rs
          have := o1.2.2.1
          have := o1.2.2.2.1
          have y := o1.2.1
          have ne : s.1 ≠ x := fun w => by rw [w] at y; omega
          unfold dig at hl ⊢
          omega
        · rw [if_neg (by rw [em]; exact z)]
          have l32 : ∀ (m2 fuel c : Nat) (P T : dt_Ob) (B : Bst), (c : Int) + m2 = W - g 0 x + 1 → m2 < fuel → CSt n W g goal (N + 1) pre P T B → ∃ P' T' B', fX3_search_32 (fX3_search f) (fX3_search_9 (fX3_search f) f') fuel (jI pre.length) (jI (csP n g pre)) (jI x) (jI c) P T = some (P', T') ∧ CSt n W g goal (N + 1) pre P' T' B' ∧ REL n W g goal (N + 1) pre (8 * x + c) B B' := by
            intro m2
            induction m2 with
            | zero =>
              intro fuel c P T B hm2 hf2 hS
              obtain ⟨f2, rfl⟩ : ∃ f2, fuel = f2 + 1 := ⟨fuel - 1, by omega⟩
              have t2 : T 2 x = jI (g 0 x) := by have := hS.1.2.2.1 0 (by omega) x hx; rw [e0] at this; exact this
              obtain ⟨P', T', B', a1, a2, a3⟩ := ihm f' (x + 1) P T B (by omega) (by omega) hS
              refine ⟨P', T', B', ?_, a2, REL_gap pre _ _ B B' (by omega) (fun q s r hq eq hl => ?_) a3⟩
              · rw [fX3_search_32]
                unfold fX3_search_66
                rw [ix, dt_b1, hS.1.1, t2, jI_sub, if_pos (by rw [jI_lt _ _ (by omega) (by omega) (by omega) (by omega)]; omega), n1]
                exact a1
              · have o1 := next q s r hq eq
                have rs := okp.2.2.2.1 s.1 o1.1
                unfold okB at rs
                have := o1.2.2.1
                have sw := o1.2.2.2.1
                unfold dig at hl ⊢
                by_cases w : s.1 = x
                · rw [w, e0] at sw; rw [w] at hl; omega
                · omega
            | succ m2 ihm2 =>
              intro fuel c P T B hm2 hf2 hS
              obtain ⟨f2, rfl⟩ : ∃ f2, fuel = f2 + 1 := ⟨fuel - 1, by omega⟩
              have t2 : T 2 x = jI (g 0 x) := by have := hS.1.2.2.1 0 (by omega) x hx; rw [e0] at this; exact this
              have c1 : jI c + (1 : Int32) = jI ((c + 1 : Nat) : Int) := by rw [show (1 : Int32) = jI 1 from rfl, jI_add]; rfl
              have el : (pre ++ [((x, (c : Int)) : Cry)]).length = pre.length + 1 := by rw [List.length_append]; rfl
              obtain ⟨P1, T1, B1, a1, a2, a3⟩ := cl_step ho hgo hN hno (fX3_search f) pre hv (by omega) (x, (c : Int)) hx (by show runP n g pre 5 x < 0; omega) (by show (0 : Int) ≤ c; omega) (by show (c : Int) + g 0 x ≤ W; omega) (fun hlt oks P T B h => by
                have := ih (e - 1) (pre ++ [((x, (c : Int)) : Cry)]) P T B (by omega) (by omega) ((VdP_app n W pre _ g).mpr ⟨hv, oks, trivial⟩) h
                rw [el] at this
                exact this) P T B hS
              obtain ⟨P', T', B', b1, b2, b3⟩ := ihm2 f2 (c + 1) P1 T1 B1 (by omega) (by omega) a2
              have ds : dig ((x, (c : Int)) : Cry) = 8 * x + c := by unfold dig; rw [Int.toNat_natCast]
              refine ⟨P', T', B', ?_, b2, ?_⟩
              · rw [fX3_search_32, ix, dt_b1, hS.1.1, t2, jI_sub, if_neg (by rw [jI_lt _ _ (by omega) (by omega) (by omega) (by omega)]; omega)]
                have a1' : fX3_step (fX3_search f) (jI pre.length) (jI (csP n g pre)) (jI x) (jI c) P T = some (P1, T1) := a1
                rw [a1', dt_b1, c1]
                exact b1
              · have := REL_step ho pre ((x, (c : Int)) : Cry) (by show (0 : Int) ≤ c; omega) (by show (c : Int) < 8; omega) B B1 B' a3 (by rw [ds]; exact b3)
                rw [ds] at this
                exact this
          exact l32 (W - g 0 x + 1).toNat dt_F 0 P T B (by omega) (by unfold dt_F; omega) hS
    rw [top]
    obtain ⟨P', T', B', a1, a2, a3⟩ := l9 n dt_F 0 P T B (by omega) (by unfold dt_F; omega) hS
    exact ⟨P', T', B', a1, a2, RES_of pre (by omega) B B' a3⟩
