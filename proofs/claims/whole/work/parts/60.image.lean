/-! ===== operations: image, bet ===== -/
theorem va_c0 (f g : Nat → Int32) (n k : Nat) (m : Int32) (hm : Int32.toNatClampNeg m = n) (h : k < n) : va_cpy f g (Int32.toNatClampNeg (0 : Int32)) (Int32.toNatClampNeg (0 : Int32)) (Int32.toNatClampNeg m) k = f k := by
  rw [hm, show Int32.toNatClampNeg (0 : Int32) = 0 from rfl]
  exact va_cpy_i f g n k h
theorem TW_become {O : dt_Ob} {n : Nat} {W : Int} {g : Nat → Nat → Int} (h : TW O n W g) (hn : n ≤ 20) (T : dt_Ob) : ∃ T', fX5_become O T = some T' ∧ TW T' n W g := by
  refine ⟨_, rfl, ?_, ?_, ?_, ?_, ?_⟩
  · simp (disch := omega) only [dt_setA_ne, dt_set_n, dt_set_at]; exact h.1
  · simp (disch := omega) only [dt_setA_ne, dt_set_n, dt_set_at]; exact h.2.1
  · intro f hf b hb
    rw [← h.2.2.1 f hf b hb]
    have hf' : f = 0 ∨ f = 1 ∨ f = 2 ∨ f = 3 ∨ f = 4 ∨ f = 5 ∨ f = 6 := by omega
    rcases hf' with q | q | q | q | q | q | q <;> subst q <;> simp (disch := omega) only [dt_setA_ne, dt_set_n, dt_setA_s, Nat.reduceAdd] <;> exact va_c0 _ _ 20 _ _ rfl (by omega)
  · intro c hc
    rw [← h.2.2.2.1 c hc]
    simp (disch := omega) only [dt_setA_ne, dt_set_n, dt_setA_s]
    exact va_c0 _ _ 8 _ _ rfl (by omega)
  · intro c l hc hl
    rw [← h.2.2.2.2 c l hc hl]
    simp (disch := omega) only [dt_setA_ne, dt_set_n, dt_setA_s]
    exact va_c0 _ _ 160 _ _ rfl (by omega)
theorem RD_become {O : dt_Ob} {w : Nat → Int32} (h : RD O w) (T : dt_Ob) : ∃ T', fX1_become O T = some T' ∧ RD T' w := by
  obtain ⟨a1, a2, a3, a4, a5, a6, a7⟩ := h
  unfold fX1_become
  exact ⟨_, if_pos a6, a1, a2, a3, a4, a5, a6, a7⟩
theorem RV_become {O : dt_Ob} {w : Nat → Int32} (h : RV O w) (T : dt_Ob) : ∃ T', fX7_become O T = some T' ∧ RV T' w := by
  refine ⟨_, rfl, RV_congr h rfl rfl (fun p hp => ?_) (fun _ _ _ => rfl)⟩
  rw [dt_setA_s]
  exact va_c0 _ _ 401 _ _ rfl (by omega)
theorem RC_become {O : dt_Ob} {w : Nat → Int32} (h : RC O w) (T : dt_Ob) : ∃ T', fX0_become O T = some T' ∧ RC T' w := by
  obtain ⟨k, k1, k2, k3, k4, q, k5, k6, k7, k8⟩ := h
  refine ⟨_, rfl, k, k1, k2, k3, fun i hi => ?_, q, k5, k6, k7, fun a ha b => ?_⟩
  · rw [dt_setA_ne _ _ _ _ (by omega), dt_setA_s, va_c0 _ _ 8 _ _ rfl (by omega)]
    exact k4 i hi
  · rw [dt_setA_s, va_c0 _ _ 8 _ _ rfl (by omega)]
    exact k8 a ha b
theorem RS_become {O : dt_Ob} {w : Nat → Int32} (h : RS O w) (T : dt_Ob) : ∃ T', fX4_become O T = some T' ∧ RS T' w := by
  refine ⟨_, rfl, fun hh t h1 h2 h3 => ?_, fun t ht => ?_⟩
  · rw [dt_setA_ne _ _ _ _ (by omega), dt_setA_s, va_c0 _ _ 72 _ _ rfl (by omega)]
    exact h.1 hh t h1 h2 h3
  · rw [dt_setA_s, va_c0 _ _ 9 _ _ rfl (by omega)]
    exact h.2 t ht
theorem RW_w {T D V C S : dt_Ob} {w w' : Nat → Int32} {n : Nat} {W : Int} {g : Nat → Nat → Int} (h : RW T D V C S w n W g) (e : ∀ q, q < 1225 → w' q = w q) : RW T D V C S w' n W g := by
  obtain ⟨hT, hok, hRT, hD, hV, hC, hS⟩ := h
  have hn := hok.1
  exact ⟨hT, hok, RT_congr hRT hn (fun q hq => e q (by omega)), RD_congr hD (fun q h1 h2 => e q (by omega)), RV_congr hV rfl rfl (fun _ _ => rfl) (fun q h1 h2 => e q (by omega)), RC_congr hC (fun q hq => e q (by omega)), RS_congr hS (fun q h1 h2 => e q (by omega))⟩
theorem fX10_image_j0 : ∀ (k fuel i : Nat) (T : dt_Ob), i + k = 1225 → k < fuel → ∃ T', fX10_image_15 fuel (jI 0) (jI i) T = some (1, T') ∧ (∀ j, j ≠ 0 → j ≠ 3 → j ≠ 6 → T' j = T j) ∧ T' 3 0 = 0 ∧ T' 6 0 = 1 ∧ ∀ q, q < 1225 → T' 0 q = if i ≤ q then T 1 q else T 0 q := by
  intro k
  induction k with
  | zero =>
    intro fuel i T hk hf
    obtain ⟨f, rfl⟩ : ∃ f, fuel = f + 1 := ⟨fuel - 1, by omega⟩
    refine ⟨dt_set (dt_set T 3 0 0) 6 0 1, ?_, ?_, ?_, ?_, ?_⟩
    · unfold fX10_image_15 fX10_forgets fX10_image_67
      simp (disch := omega) only [jI_lit, jI_add, jI_sub, jI_mul, jI_neg, jI_lt, jI_le, jI_eq, jI_div, dt_ix_j, dt_b1, Int.toNat_natCast, Int.reduceToNat]
      rw [if_pos (by omega), if_pos (by first | rfl | trivial)]
      try rfl
    · intro j h0 h3 h6
      rw [dt_set_n _ _ _ _ _ h6, dt_set_n _ _ _ _ _ h3]
    · rfl
    · rfl
    · intro q hq
      rw [dt_set_n _ _ _ _ _ (by omega), dt_set_n _ _ _ _ _ (by omega), if_neg (by omega)]
  | succ k ih =>
    intro fuel i T hk hf
    obtain ⟨f, rfl⟩ : ∃ f, fuel = f + 1 := ⟨fuel - 1, by omega⟩
    obtain ⟨T', a1, a2, a3, a4, a5⟩ := ih f (i + 1) (dt_set T 0 i (T 1 i)) (by omega) (by omega)
    refine ⟨T', ?_, fun j h0 h3 h6 => by rw [a2 j h0 h3 h6, dt_set_n _ _ _ _ _ h0], a3, a4, ?_⟩
    · unfold fX10_image_15 fX10_image_53
      simp (disch := omega) only [jI_lit, jI_add, jI_sub, jI_mul, jI_neg, jI_lt, jI_le, jI_eq, jI_div, dt_ix_j, dt_b1, Int.toNat_natCast, Int.reduceToNat]
      rw [if_neg (by omega), if_pos (by first | rfl | trivial), show ((i : Int) + 1) = ((i + 1 : Nat) : Int) by omega]
      exact a1
    · intro q hq
      rw [a5 q hq, dt_set_n _ _ _ _ _ (by omega), dt_set_s]
      by_cases e : q = i
      · rw [if_neg (by omega), if_pos (by omega), upd_e _ _ _ _ e, e]
      · rw [upd_n _ _ _ _ e]
        by_cases y : i + 1 ≤ q
        · rw [if_pos y, if_pos (by omega)]
        · rw [if_neg y, if_neg (by omega)]
theorem fX10_image_j1 : ∀ (k fuel i : Nat) (T : dt_Ob), i + k = 1225 → k < fuel → ∃ T', fX10_image_15 fuel (jI 1) (jI i) T = some (1, T') ∧ (∀ j, j ≠ 1 → j ≠ 6 → T' j = T j) ∧ T' 6 0 = 1 ∧ ∀ q, q < 1225 → T' 1 q = if i ≤ q then T 0 q else T 1 q := by
  intro k
  induction k with
  | zero =>
    intro fuel i T hk hf
    obtain ⟨f, rfl⟩ : ∃ f, fuel = f + 1 := ⟨fuel - 1, by omega⟩
    refine ⟨dt_set T 6 0 1, ?_, ?_, ?_, ?_⟩
    · unfold fX10_image_15 fX10_image_67
      simp (disch := omega) only [jI_lit, jI_add, jI_sub, jI_mul, jI_neg, jI_lt, jI_le, jI_eq, jI_div, dt_ix_j, dt_b1, Int.toNat_natCast, Int.reduceToNat]
      rw [if_pos (by omega), if_neg (by omega)]
      try rfl
    · intro j h0 h6
      rw [dt_set_n _ _ _ _ _ h6]
    · rfl
    · intro q hq
      rw [dt_set_n _ _ _ _ _ (by omega), if_neg (by omega)]
  | succ k ih =>
    intro fuel i T hk hf
    obtain ⟨f, rfl⟩ : ∃ f, fuel = f + 1 := ⟨fuel - 1, by omega⟩
    obtain ⟨T', a1, a2, a3, a4⟩ := ih f (i + 1) (dt_set T 1 i (T 0 i)) (by omega) (by omega)
    refine ⟨T', ?_, fun j h0 h6 => by rw [a2 j h0 h6, dt_set_n _ _ _ _ _ h0], a3, ?_⟩
    · unfold fX10_image_15 fX10_image_53
      simp (disch := omega) only [jI_lit, jI_add, jI_sub, jI_mul, jI_neg, jI_lt, jI_le, jI_eq, jI_div, dt_ix_j, dt_b1, Int.toNat_natCast, Int.reduceToNat]
      rw [if_neg (by omega), if_neg (by omega), show ((i : Int) + 1) = ((i + 1 : Nat) : Int) by omega]
      exact a1
    · intro q hq
      rw [a4 q hq, dt_set_n _ _ _ _ _ (by omega), dt_set_s]
      by_cases e : q = i
      · rw [if_neg (by omega), if_pos (by omega), upd_e _ _ _ _ e, e]
      · rw [upd_n _ _ _ _ e]
        by_cases y : i + 1 ≤ q
        · rw [if_pos y, if_pos (by omega)]
        · rw [if_neg y, if_neg (by omega)]
theorem s_image : St_image dt_I := by
  intro M a1 h ha
  have h' := h
  obtain ⟨n, W, g, ⟨hT, hok, hRT, hD, hV, hC, hS⟩, hU, hI, hP, hF, hR⟩ := h
  have same : dt_I (dt_put M 18 (M 18)) := by rw [dt_put_self]; exact h'
  rcases ha with rfl | rfl
  · -- gone back to
    rcases hI.2 with z | ⟨z, n', W', g', hT', hok', hRT', hD', hV', hC', hS'⟩
    · refine ⟨0, M, M 18, ?_, ?_, same⟩
      · unfold fX9_image
        rw [if_pos rfl, if_pos z]
      · unfold fX10_image
        rw [if_pos rfl, if_pos (by rw [← hI.1]; exact z)]
    · obtain ⟨T1, b1, c1⟩ := TW_become hT' hok'.1 (M 1)
      obtain ⟨T2, b2, c2⟩ := RD_become hD' (M 2)
      obtain ⟨T3, b3, c3⟩ := RV_become hV' (M 3)
      obtain ⟨T4, b4, c4⟩ := RC_become hC' (M 4)
      obtain ⟨T5, b5, c5⟩ := RS_become hS' (M 5)
      obtain ⟨X, x1, x2, x3, x4, x5⟩ := fX10_image_j0 1225 dt_F 0 (M 18) (by omega) (by unfold dt_F; omega)
      have x6 : M 18 6 0 = 1 := by rw [← hI.1]; exact z
      refine ⟨1, dt_put (dt_put (dt_put (dt_put (dt_put (dt_put M 1 T1) 2 T2) 3 T3) 4 T4) 5 T5) 11 (dt_set (dt_set (M 11) 4 0 0) 5 0 0), X, ?_, ?_, ?_⟩
      · unfold fX9_image fX8_become_w
        rw [if_pos rfl, z, if_neg (by decide), b1, dt_b1, b2, dt_b1, b3, dt_b1, b4, dt_b1, b5, dt_b1, dt_b1]
        try rfl
      · show fX10_image 0 (M 18) = _
        unfold fX10_image fX10_image_13
        rw [if_pos rfl, x6, if_neg (by decide)]
        exact x1
      · refine ⟨n', W', g', ?_, ?_, ?_, ?_, ?_, ?_⟩
        · show RW T1 T2 T3 T4 T5 (X 0) n' W' g'
          exact RW_w ⟨c1, hok', hRT', c2, c3, c4, c5⟩ (fun q hq => by rw [x5 q hq, if_pos (by omega)])
        · show RU (dt_set (dt_set (M 11) 4 0 0) 5 0 0) (X 2) (X 3 0) n' W' g' (X 0 4)
          rw [x3]
          exact RU_nil _ _ _ _ _ _ rfl rfl
        · show M 0 2 0 = X 6 0 ∧ (M 0 2 0 = 0 ∨ (M 0 2 0 = 1 ∧ ∃ (n' : Nat) (W' : Int) (g' : Nat → Nat → Int), RW (M 6) (M 7) (M 8) (M 9) (M 10) (X 1) n' W' g'))
          rw [x4, x2 1 (by omega) (by omega) (by omega)]
          exact ⟨z, Or.inr ⟨z, n', W', g', hT', hok', hRT', hD', hV', hC', hS'⟩⟩
        · show RP (M 0 4) (M 0 5 0) (X 13) (X 18 0)
          rw [x2 13 (by omega) (by omega) (by omega), x2 18 (by omega) (by omega) (by omega)]; exact hP
        · show M 12 6 0 = X 25 0 ∧ M 12 7 0 = X 27 0
          rw [x2 25 (by omega) (by omega) (by omega), x2 27 (by omega) (by omega) (by omega)]; exact hF
        · show M 0 7 0 = X 4 0 ∧ M 0 8 0 = X 5 0
          rw [x2 4 (by omega) (by omega) (by omega), x2 5 (by omega) (by omega) (by omega)]; exact hR
  · -- taken
    obtain ⟨T1, b1, c1⟩ := TW_become hT hok.1 (M 6)
    obtain ⟨T2, b2, c2⟩ := RD_become hD (M 7)
    obtain ⟨T3, b3, c3⟩ := RV_become hV (M 8)
    obtain ⟨T4, b4, c4⟩ := RC_become hC (M 9)
    obtain ⟨T5, b5, c5⟩ := RS_become hS (M 10)
    obtain ⟨X, x1, x2, x3, x4⟩ := fX10_image_j1 1225 dt_F 0 (M 18) (by omega) (by unfold dt_F; omega)
    refine ⟨1, dt_sM (dt_put (dt_put (dt_put (dt_put (dt_put M 6 T1) 7 T2) 8 T3) 9 T4) 10 T5) 0 2 0 1, X, ?_, ?_, ?_⟩
    · unfold fX9_image fX8_become_k
      rw [if_neg (by decide), b1, dt_b1, b2, dt_b1, b3, dt_b1, b4, dt_b1, b5, dt_b1, dt_b1]
    · show fX10_image 1 (M 18) = _
      unfold fX10_image fX10_image_13
      rw [if_neg (by decide)]
      exact x1
    · refine ⟨n, W, g, ?_, ?_, ?_, ?_, ?_, ?_⟩
      · show RW (M 1) (M 2) (M 3) (M 4) (M 5) (X 0) n W g
        rw [x2 0 (by omega) (by omega)]
        exact ⟨hT, hok, hRT, hD, hV, hC, hS⟩
      · show RU (M 11) (X 2) (X 3 0) n W g (X 0 4)
        rw [x2 0 (by omega) (by omega), x2 2 (by omega) (by omega), x2 3 (by omega) (by omega)]
        exact hU
      · show (1 : Int32) = X 6 0 ∧ ((1 : Int32) = 0 ∨ ((1 : Int32) = 1 ∧ ∃ (n' : Nat) (W' : Int) (g' : Nat → Nat → Int), RW T1 T2 T3 T4 T5 (X 1) n' W' g'))
        refine ⟨x3.symm, Or.inr ⟨rfl, n, W, g, ?_⟩⟩
        exact RW_w ⟨c1, hok, hRT, c2, c3, c4, c5⟩ (fun q hq => by rw [x4 q hq, if_pos (by omega)])
      · show RP (M 0 4) (M 0 5 0) (X 13) (X 18 0)
        rw [x2 13 (by omega) (by omega), x2 18 (by omega) (by omega)]; exact hP
      · show M 12 6 0 = X 25 0 ∧ M 12 7 0 = X 27 0
        rw [x2 25 (by omega) (by omega), x2 27 (by omega) (by omega)]; exact hF
      · show M 0 7 0 = X 4 0 ∧ M 0 8 0 = X 5 0
        rw [x2 4 (by omega) (by omega), x2 5 (by omega) (by omega)]; exact hR
