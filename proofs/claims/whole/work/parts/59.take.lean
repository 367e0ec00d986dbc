/-! ===== operations: take, undo ===== -/
theorem s_take_no (M : dt_M) (h : dt_I M) (a1 a2 : Int32) (X : dt_Ob) (hc : fX9_take a1 a2 M = fX9_take_31 M) (hm : fX10_take a1 a2 (M 18) = some (0, X)) (ex : ∀ j, j ≠ 4 → j ≠ 5 → j ≠ 7 → j ≠ 8 → X j = M 18 j) (x4 : X 4 0 = 1) (x5 : X 5 0 = -1) : ∃ (r : Int32) (M1 : dt_M) (T : dt_Ob), fX9_take a1 a2 M = some (r, M1) ∧ fX10_take a1 a2 (M1 18) = some (r, T) ∧ dt_I (dt_put M1 18 T) := by
  refine ⟨0, dt_sM (dt_sM M 0 7 0 1) 0 8 0 (-1), _, ?_, hm, ?_⟩
  · rw [hc] <;> rfl
  · have h' := h
    obtain ⟨n, W, g, ⟨hT, hok, hRT, hD, hV, hC, hS⟩, hU, hI, hP, hF, hR⟩ := h
    have := dt_I_no' h' (M 1) X 1 (-1) hT ⟨hT, hok, hRT, hD, hV, hC, hS⟩ hU (fun j hj => ex j (by omega) (by omega) (by omega) (by omega)) x4 x5
    rw [dt_put_self] at this
    exact this
theorem s_take : St_take dt_I := by
  intro M a1 a2 h
  have h' := h
  obtain ⟨n, W, g, ⟨hT, hok, hRT, hD, hV, hC, hS⟩, hU, hI, hP, hF, hR⟩ := h
  obtain ⟨b, rfl, b0, b1⟩ := jI_ex a1
  obtain ⟨p, rfl, p0, p1⟩ := jI_ex a2
  have od := hok.D
  have hn := od.1
  have w := od.2.2.1
  have w2 := od.2.1
  have X0 : ∃ X, X = dt_set (dt_set (M 18) 4 0 1) 5 0 (-1) := ⟨_, rfl⟩
  obtain ⟨X, hX⟩ := X0
  have x0 : X 0 = M 18 0 := by rw [hX, dt_set_n _ _ _ _ _ (by omega), dt_set_n _ _ _ _ _ (by omega)]
  have hRX : RT (X 0) n W g := by rw [x0]; exact hRT
  obtain ⟨T1, t1, t2, t3⟩ := fX10_laysTower_j hRX hn
  have ex : ∀ j, j ≠ 4 → j ≠ 5 → j ≠ 7 → j ≠ 8 → T1 j = M 18 j := by
    intro j h4 h5 h7 h8
    rw [t2 j h7 h8, hX, dt_set_n _ _ _ _ _ h5, dt_set_n _ _ _ _ _ h4]
  have x4 : T1 4 0 = 1 := by rw [t2 4 (by omega) (by omega), hX, dt_set_n _ _ _ _ _ (by omega)]; exact dt_set_at _ _ _ _
  have x5 : T1 5 0 = -1 := by rw [t2 5 (by omega) (by omega), hX]; exact dt_set_at _ _ _ _
  have ib := fX10_isBlock_j (T := T1) t3.2.1 hn b b0 b1
  have it := fX5_isInTower_j hT od b b0 b1
  have ip := fX9_isPlace_j p p0 p1
  by_cases zb : 0 ≤ b ∧ b < n
  · obtain ⟨q, rfl⟩ : ∃ q : Nat, b = q := ⟨b.toNat, by omega⟩
    have hq : q < n := by omega
    rw [Int.toNat_natCast] at it
    have rb := hok.2.2.2.1 q hq
    unfold okB at rb
    have T1w : T1 0 = M 18 0 := ex 0 (by omega) (by omega) (by omega) (by omega)
    have o5 : fX10_own (jI q) 5 T1 = some (jI (g 5 q)) := by rw [show (5 : Int32) = jI 5 from rfl, fX10_own_j T1 q 5 (by omega) (by omega) (by omega), T1w]; exact congrArg some (hRT.2.2 5 (by omega) q hq)
    by_cases zt : 0 ≤ g 5 q
    · have fr1 := fX5_isFree_j hT od q hq zt
      have fr2 := fX10_isOnTop_j t3 od q hq zt
      by_cases zp : 0 ≤ p ∧ p ≤ 59
      · by_cases zf : free n g q
        · -- done
          obtain ⟨m, x, eb, ep, ec, el, e0, er, u1, u2, u3, u4, u5, u6, u7⟩ := hU
          have lv := (od.2.2.2.1 q hq).2
          have e7 : M 1 7 q = jI (g 5 q) := hT.2.2.1 5 (by omega) q hq
          have e8 : M 1 8 q = jI (g 6 q) := hT.2.2.1 6 (by omega) q hq
          have m7 := t3.2.2.2.1 q hq
          have m8 := t3.2.2.2.2 q hq zt
          obtain ⟨T', l1, l2, l3⟩ := fX5_lift_j hT od q hq zt p zp
          obtain ⟨X3, m', v1, v2, v3, v4, v5, v6, v7, v8, v9, v10, v11, v12, v13, v14, v15, v16, v17, v18, v19⟩ := fX10_carries_j (dt_set T1 4 0 0) q m (by omega) u1 (by rw [dt_set_n _ _ _ _ _ (by omega), ex 3 (by omega) (by omega) (by omega) (by omega)]; exact u4) (jI p) (-1) (-1) (jI (cst p (g 5 q) (g 6 q)))
          obtain ⟨R', y1, y2, y3, y4, y5, y6, y7⟩ := fX6_remember_j (M 11) m x u1 u2 u3 u5 (jI q) (-1) (jI (g 5 q)) (jI (cst p (g 5 q) (g 6 q)))
          refine ⟨1, dt_put (dt_put (dt_put (dt_sM (dt_sM M 0 7 0 0) 0 8 0 (-1)) 1 T') 2 (dt_set (dt_set (M 2) 1 0 (M 2 1 0 + 1)) 2 0 (M 2 2 0 + jI (cst p (g 5 q) (g 6 q))))) 11 R', X3, ?_, ?_, ?_⟩
          · unfold fX9_take
            rw [it, if_pos (show (0 ≤ (q : Int) ∧ (q : Int) < n) ∧ 0 ≤ g 5 q by omega), dt_b1, if_neg (by decide), fr1.1 zf, dt_b1, if_neg (by decide), ip, if_pos zp, dt_b1, if_neg (by decide)]
            unfold fX9_refuse
            rw [dt_b1, dt_ix_n q 20 (by omega) (by omega), dt_b1, dt_b1]
            show ((fX9_costOf (jI p) (M 1 7 q) (M 1 8 q)).bind fun q7 => _) = _
            rw [e7, e8, fX9_costOf_j _ _ _ (by omega) (by omega) (by omega) (by omega), dt_b1]
            show ((fX5_lift (jI q) (jI p) (M 1)).bind fun q8 => _) = _
            rw [l1, dt_b1]
            unfold fX1_carry
            rw [dt_b1]
            show ((fX6_remember (jI q) (-1) (M 1 7 q) (jI (cst p (g 5 q) (g 6 q))) (M 11)).bind fun q9 => _) = _
            rw [e7, y1, dt_b1]
            try rfl
          · show fX10_take (jI q) (jI p) (M 18) = _
            unfold fX10_take
            rw [← hX, t1, dt_b1, ib, if_pos (show 0 ≤ (q : Int) ∧ (q : Int) < n by omega), dt_b1, if_neg (by decide), o5, dt_b1, if_neg (by rw [show (-1 : Int32) = jI (-1) from rfl, jI_eq _ _ (by omega) (by omega) (by omega) (by omega)]; omega), show (0 : Int32) = jI 0 from rfl, show (59 : Int32) = jI 59 from rfl, fX10_isIn_j _ _ _ (by omega) (by omega) (by omega) (by omega) (by omega) (by omega), dt_b1, if_pos zp, if_neg (by decide +kernel), fr2.1 zf, dt_b1, if_neg (by decide +kernel), dt_ix_n q 20 (by omega) (by omega), dt_b1, dt_b1, m7, m8, fX10_costOf_j _ _ _ _ (by omega) (by omega) (by omega) (by omega), dt_b1]
            rw [show jI 0 = (0 : Int32) from rfl, v1, dt_b1]
          · have w4 : (dt_set T1 4 0 0) 0 = M 18 0 := by rw [dt_set_n _ _ _ _ _ (by omega), T1w]
            rw [w4] at v9 v10 v11 v12 v17 v18 v19
            have hRT' : RT (X3 0) n W (gP g q p (-1) (-1)) := RT_put hRT hn hq p (-1) (-1) v14 v15 v16 v19
            have oth : ∀ j, j ≠ 0 → j ≠ 2 → j ≠ 3 → j ≠ 4 → j ≠ 5 → j ≠ 7 → j ≠ 8 → X3 j = M 18 j := by
              intro j h0 h2 h3 h4 h5 h7 h8
              rw [v6 j h0 h2 h3, dt_set_n _ _ _ _ _ h4, ex j h4 h5 h7 h8]
            refine dt_I_ref (n := n) (W := W) (g := gP g q p (-1) (-1)) ?_ ?_ h' ?_ ?_ ?_ ?_
            · show RW T' (dt_set (dt_set (M 2) 1 0 (M 2 1 0 + 1)) 2 0 (M 2 2 0 + jI (cst p (g 5 q) (g 6 q)))) (M 3) (M 4) (M 5) (X3 0) n W (gP g q p (-1) (-1))
              exact ⟨l2, okT_lift hok q hq p zp zf, hRT', RD_carry hD _ v17 v18 (fun y h3 h4 hy => v19 y h3 h4 (by omega)), RV_congr hV rfl rfl (fun _ _ => rfl) (fun y h1 h2 => v19 y (by omega) (by omega) (by omega)), RC_congr hC (fun y hy => v19 y (by omega) (by omega) (by omega)), RS_congr hS (fun y h1 h2 => v19 y (by omega) (by omega) (by omega))⟩
            · show RU R' (X3 2) (X3 3 0) n W (gP g q p (-1) (-1)) (X3 0 4)
              rw [v7, v18]
              have b2o : ∀ y, y < 5 * m' → X3 2 y = M 18 2 (5 * (m - m') + y) := by
                intro y hy
                rw [v13 y hy, dt_set_n _ _ _ _ _ (by omega), ex 2 (by omega) (by omega) (by omega) (by omega)]
              have g4 : g 4 q = -1 := by omega
              refine RU_carry u1 u2 u6 u7 q _ v2 v3 v4 v5 y2 y3 y4 (fun z => by rw [y5 z, g4] <;> rfl) y6 y7 v8 (by rw [v9]; exact hRT.2.2 4 (by omega) q hq) (by rw [v10]; exact hRT.2.2 5 (by omega) q hq) (by rw [v11]; exact hRT.2.2 6 (by omega) q hq) v12 b2o p (-1) (-1) hq hok (Or.inr ⟨g4, zt, by omega, by omega, (la_lift hok hq zt zf p).symm⟩)
            · intro k hk
              have : ∀ (A : dt_M) (q : Nat) (B : dt_Ob), q ≠ k → dt_put A q B k = A k := fun A q B hq => dt_put_ne A q k B (Ne.symm hq)
              unfold dt_sM
              rw [this _ _ _ (by omega), this _ _ _ (by omega), this _ _ _ (by omega), this _ _ _ (by omega), this _ _ _ (by omega), this _ _ _ (by omega)]
            · intro j hj
              show dt_set (dt_set (M 0) 7 0 _) 8 0 _ j = M 0 j
              rw [dt_set_n _ _ _ _ _ (by omega), dt_set_n _ _ _ _ _ (by omega)]
            · intro j hj
              show X3 j = M 18 j
              exact oth j (by omega) (by omega) (by omega) (by omega) (by omega) (by omega) (by omega)
            · show (0 : Int32) = X3 4 0 ∧ (-1 : Int32) = X3 5 0
              rw [v6 4 (by omega) (by omega) (by omega), v6 5 (by omega) (by omega) (by omega), dt_set_at, dt_set_n _ _ _ _ _ (by omega), x5]
              exact ⟨rfl, rfl⟩
        · apply s_take_no M h' _ _ T1 _ _ ex x4 x5
          · unfold fX9_take
            rw [it, if_pos (show (0 ≤ (q : Int) ∧ (q : Int) < n) ∧ 0 ≤ g 5 q by omega), dt_b1, if_neg (by decide), fr1.2 zf, dt_b1, if_pos rfl]
          · unfold fX10_take
            rw [← hX, t1, dt_b1, ib, if_pos (show 0 ≤ (q : Int) ∧ (q : Int) < n by omega), dt_b1, if_neg (by decide), o5, dt_b1, if_neg (by rw [show (-1 : Int32) = jI (-1) from rfl, jI_eq _ _ (by omega) (by omega) (by omega) (by omega)]; omega), show (0 : Int32) = jI 0 from rfl, show (59 : Int32) = jI 59 from rfl, fX10_isIn_j _ _ _ (by omega) (by omega) (by omega) (by omega) (by omega) (by omega), dt_b1, if_pos zp, if_neg (by decide +kernel), fr2.2 zf, dt_b1, if_pos (by rfl)]
      · apply s_take_no M h' _ _ T1 _ _ ex x4 x5
        · unfold fX9_take
          rw [it, if_pos (show (0 ≤ (q : Int) ∧ (q : Int) < n) ∧ 0 ≤ g 5 q by omega), dt_b1, if_neg (by decide), ip, if_neg zp]
          rcases Classical.em (free n g q) with zf | zf
          · rw [fr1.1 zf, dt_b1, if_neg (by decide), dt_b1, if_pos rfl]
          · rw [fr1.2 zf, dt_b1, if_pos rfl]
        · unfold fX10_take
          rw [← hX, t1, dt_b1, ib, if_pos (show 0 ≤ (q : Int) ∧ (q : Int) < n by omega), dt_b1, if_neg (by decide), o5, dt_b1, if_neg (by rw [show (-1 : Int32) = jI (-1) from rfl, jI_eq _ _ (by omega) (by omega) (by omega) (by omega)]; omega), show (0 : Int32) = jI 0 from rfl, show (59 : Int32) = jI 59 from rfl, fX10_isIn_j _ _ _ (by omega) (by omega) (by omega) (by omega) (by omega) (by omega), dt_b1, if_neg zp, if_pos (by rfl)]
    · apply s_take_no M h' _ _ T1 _ _ ex x4 x5
      · unfold fX9_take
        rw [it, if_neg (show ¬ ((0 ≤ (q : Int) ∧ (q : Int) < n) ∧ 0 ≤ g 5 q) by omega), dt_b1, if_pos rfl]
      · unfold fX10_take
        rw [← hX, t1, dt_b1, ib, if_pos (show 0 ≤ (q : Int) ∧ (q : Int) < n by omega), dt_b1, if_neg (by decide), o5, dt_b1, if_pos]
        rw [show (-1 : Int32) = jI (-1) from rfl]; congr 1; omega
  · apply s_take_no M h' _ _ T1 _ _ ex x4 x5
    · unfold fX9_take
      rw [it, if_neg (by omega), dt_b1, if_pos rfl]
    · unfold fX10_take
      rw [← hX, t1, dt_b1, ib, if_neg zb, dt_b1, if_pos rfl]
theorem fX10_undo_j (T : dt_Ob) (b m : Nat) (hb : b < 20) (hm : m < 12) (e3 : T 3 0 = jI ((m + 1 : Nat) : Int)) (eb : T 2 (5 * m) = jI b) : ∃ T', fX10_undo T = some (1, T') ∧ (∀ j, j ≠ 0 → j ≠ 3 → T' j = T j) ∧ T' 3 0 = jI m ∧ T' 0 (20 + 8 * b + 4) = T 2 (5 * m + 1) ∧ T' 0 (20 + 8 * b + 5) = T 2 (5 * m + 2) ∧ T' 0 (20 + 8 * b + 6) = T 2 (5 * m + 3) ∧ T' 0 3 = T 0 3 - 1 ∧ T' 0 4 = T 2 (5 * m + 4) ∧ ∀ q, q ≠ 3 → q ≠ 4 → q < 20 + 8 * b + 4 ∨ 20 + 8 * b + 6 < q → T' 0 q = T 0 q := by
  refine ⟨dt_set (dt_set (dt_set (dt_set (dt_set (dt_set T 3 0 (jI m)) 0 (20 + 8 * b + 4) (T 2 (5 * m + 1))) 0 (20 + 8 * b + 5) (T 2 (5 * m + 2))) 0 (20 + 8 * b + 6) (T 2 (5 * m + 3))) 0 4 (T 2 (5 * m + 4))) 0 3 (T 0 3 - 1), ?_, ?_, ?_, ?_, ?_, ?_, ?_, ?_, ?_⟩
  · unfold fX10_undo
    simp (disch := omega) only [jI_lit, jI_add, jI_sub, jI_mul, jI_neg, jI_lt, jI_le, jI_eq, jI_div, dt_ix_j, dt_b1, Int.toNat_natCast, Int.reduceToNat, e3]
    rw [if_neg (by omega), show ((((m + 1 : Nat) : Int)) - 1) = (m : Int) by omega]
    rw [show (5 * (m : Int)).toNat = 5 * m by omega, show (5 * (m : Int) + 1).toNat = 5 * m + 1 by omega, show (5 * (m : Int) + 2).toNat = 5 * m + 2 by omega, show (5 * (m : Int) + 3).toNat = 5 * m + 3 by omega, show (5 * (m : Int) + 4).toNat = 5 * m + 4 by omega]
    simp (disch := omega) only [eb, fX10_gives_j, dt_set_n, dt_b1, dt_set_s, upd_n, Int.reduceToNat]
    try rfl
  · intro j h0 h3
    simp (disch := omega) only [dt_set_n]
  · simp (disch := omega) only [dt_set_n, dt_set_at]
  · simp (disch := omega) only [dt_set_n, dt_set_s, upd_n, upd_s]
  · simp (disch := omega) only [dt_set_n, dt_set_s, upd_n, upd_s]
  · simp (disch := omega) only [dt_set_n, dt_set_s, upd_n, upd_s]
  · simp (disch := omega) only [dt_set_n, dt_set_s, upd_n, upd_s]
  · simp (disch := omega) only [dt_set_n, dt_set_s, upd_n, upd_s]
  · intro q h3 h4 h5
    simp (disch := omega) only [dt_set_n, dt_set_s, upd_n, upd_s]
theorem s_undo : St_undo dt_I := by
  intro M h
  have h' := h
  obtain ⟨n, W, g, ⟨hT, hok, hRT, hD, hV, hC, hS⟩, hU, hI, hP, hF, hR⟩ := h
  have same : dt_I (dt_put M 18 (M 18)) := by rw [dt_put_self]; exact h'
  obtain ⟨m, x, eb, ep, ec, el, e0, er, u1, u2, u3, u4, u5, u6, u7⟩ := hU
  cases m with
  | zero =>
    refine ⟨0, M, M 18, ?_, ?_, same⟩
    · unfold fX9_undo fX6_newest
      rw [u3]
      try rfl
    · unfold fX10_undo
      rw [u4]
      try rfl
  | succ m =>
    have od := hok.D
    have hn := od.1
    have w := od.2.2.1
    obtain ⟨z1, z2, z3, z4, z5⟩ := u7
    obtain ⟨a1, a2, a3, a4, a5, a6, a7, a8, a9⟩ := u6 0 (by omega)
    rw [show m + 1 - 1 - 0 = m by omega] at a5 a6 a7 a8 a9
    have rb := hok.2.2.2.1 (eb 0) z1
    unfold okB at rb
    obtain ⟨X, v1, v2, v3, v4, v5, v6, v7, v8, v9⟩ := fX10_undo_j (M 18) (eb 0) m (by omega) (by omega) u4 a5
    have y : ∃ y : Nat, y = (x + 11 - 0) % 12 := ⟨_, rfl⟩
    obtain ⟨y, hy⟩ := y
    rw [← hy] at a1 a2 a3 a4
    have y12 : y < 12 := by omega
    have nw : fX6_newest (M 11) = some (jI y) := by
      unfold fX6_newest
      rw [u3, u5]
      simp (disch := omega) only [jI_lit, jI_add, jI_sub, jI_mul, jI_neg, jI_lt, jI_le, jI_eq, jI_div, dt_ix_j, dt_b1, Int.toNat_natCast, Int.reduceToNat]
      rw [if_neg (by omega)]
      by_cases q : (x : Int) ≤ 0
      · rw [if_pos q]; congr 2; omega
      · rw [if_neg q]; congr 2; omega
    -- the tower goes back
    have tw : ∃ T', (if (((M 11) 1) y) = (-1 : Int32) then fX5_drop (((M 11) 0) y) (((M 11) 2) y) (M 1) else fX5_lift (((M 11) 0) y) (((M 11) 1) y) (M 1)) = some T' ∧ TW T' n W (gP g (eb 0) (ep 0) (ec 0) (el 0)) := by
      rw [a1, a2, a3]
      rcases z2 with ⟨p1, p2, p3, p4, p5⟩ | ⟨p1, p2, p3, p4, p5⟩
      · rw [if_neg (by rw [show (-1 : Int32) = jI (-1) from rfl, jI_eq _ _ (by omega) (by omega) (by omega) (by omega)]; omega)]
        obtain ⟨T', l1, l2, l3⟩ := fX5_lift_j hT od (eb 0) z1 p5 (ep 0) ⟨p1, p2⟩
        refine ⟨T', l1, ?_⟩
        rw [p3, p4]; exact l2
      · rw [p1, if_pos (show jI (-1) = -1 from rfl)]
        obtain ⟨T', d1, d2, d3⟩ := fX5_drop_j hT hok (eb 0) z1 (ec 0) p2 p3 p4
        refine ⟨T', d1, ?_⟩
        rw [p5]; exact d2
    obtain ⟨T', t1, t2⟩ := tw
    have dn : fX6_dropNewest (M 11) = some (dt_set (dt_set (M 11) 5 0 (jI y)) 4 0 (jI m)) := by
      unfold fX6_dropNewest
      rw [nw, u3]
      simp (disch := omega) only [jI_lit, jI_add, jI_sub, jI_mul, jI_neg, jI_lt, jI_le, jI_eq, jI_div, dt_ix_j, dt_b1, Int.toNat_natCast, Int.reduceToNat]
      rw [if_neg (by omega), show ((((m + 1 : Nat) : Int)) - 1) = (m : Int) by omega]
    have u81 : fX9_undo_81 (jI y) (dt_put M 1 T') = some (1, dt_put (dt_put (dt_put M 1 T') 2 (dt_set (dt_set (M 2) 1 0 (M 2 1 0 - 1)) 2 0 (M 2 2 0 - er 0))) 11 (dt_set (dt_set (M 11) 5 0 (jI y)) 4 0 (jI m))) := by
      unfold fX9_undo_81
      rw [dt_ix_n y 12 y12 (by omega), dt_b1]
      show ((fX1_uncarry (M 11 3 y) (M 2)).bind fun q9 => (fX6_dropNewest (M 11)).bind _) = _
      rw [a4, dn]
      try rfl
    refine ⟨1, dt_put (dt_put (dt_put M 1 T') 2 (dt_set (dt_set (M 2) 1 0 (M 2 1 0 - 1)) 2 0 (M 2 2 0 - er 0))) 11 (dt_set (dt_set (M 11) 5 0 (jI y)) 4 0 (jI m)), X, ?_, v1, ?_⟩
    · unfold fX9_undo
      rw [nw, dt_b1, if_neg (by rw [show (-1 : Int32) = jI (-1) from rfl, jI_eq _ _ (by omega) (by omega) (by omega) (by omega)]; omega), dt_ix_n y 12 y12 (by omega)]
      simp only [dt_b1]
      by_cases q : (((M 11) 1) y) = (-1 : Int32)
      · rw [if_pos q] at t1 ⊢
        rw [t1, dt_b1, u81]
      · rw [if_neg q] at t1 ⊢
        rw [t1, dt_b1, u81]
    · refine dt_I_of (n := n) (W := W) (g := gP g (eb 0) (ep 0) (ec 0) (el 0)) ?_ ?_ h' ?_ ?_
      · show RW T' (dt_set (dt_set (M 2) 1 0 (M 2 1 0 - 1)) 2 0 (M 2 2 0 - er 0)) (M 3) (M 4) (M 5) (X 0) n W (gP g (eb 0) (ep 0) (ec 0) (el 0))
        refine ⟨t2, z3, RT_put hRT hn z1 _ _ _ (by rw [v4]; exact a6) (by rw [v5]; exact a7) (by rw [v6]; exact a8) v9, ?_, RV_congr hV rfl rfl (fun _ _ => rfl) (fun y h1 h2 => v9 y (by omega) (by omega) (by omega)), RC_congr hC (fun y hy => v9 y (by omega) (by omega) (by omega)), RS_congr hS (fun y h1 h2 => v9 y (by omega) (by omega) (by omega))⟩
        obtain ⟨d1, d2, d3, d4, d5, d6, d7⟩ := hD
        refine ⟨?_, ?_, ?_, ?_, ?_, d6, ?_⟩
        · rw [v9 2 (by omega) (by omega) (by omega), ← d1] <;> rfl
        · rw [v7, ← d2] <;> rfl
        · rw [v8, a9]
          show M 2 2 0 - er 0 = e0 0
          rw [d3, z4]
          rw [Int32.add_sub_cancel]
        · rw [v9 5 (by omega) (by omega) (by omega), ← d4] <;> rfl
        · rw [v9 6 (by omega) (by omega) (by omega), ← d5] <;> rfl
        · rw [v9 7 (by omega) (by omega) (by omega), ← d7] <;> rfl
      · show RU (dt_set (dt_set (M 11) 5 0 (jI y)) 4 0 (jI m)) (X 2) (X 3 0) n W (gP g (eb 0) (ep 0) (ec 0) (el 0)) (X 0 4)
        rw [v2 2 (by omega) (by omega), v3, v8, a9]
        refine ⟨m, y, fun i => eb (i + 1), fun i => ep (i + 1), fun i => ec (i + 1), fun i => el (i + 1), fun i => e0 (i + 1), fun i => er (i + 1), by omega, y12, rfl, rfl, rfl, fun i hi => ?_, z5⟩
        have q := u6 (i + 1) (by omega)
        rw [show m + 1 - 1 - (i + 1) = m - 1 - i by omega, show (x + 11 - (i + 1)) % 12 = (y + 11 - i) % 12 by omega] at q
        simp (disch := omega) only [dt_set_n]
        exact q
      · intro k hk
        have : ∀ (A : dt_M) (q : Nat) (B : dt_Ob), q ≠ k → dt_put A q B k = A k := fun A q B hq => dt_put_ne A q k B (Ne.symm hq)
        rw [this _ _ _ (by omega), this _ _ _ (by omega), this _ _ _ (by omega), this _ _ _ (by omega)]
      · intro j hj
        show X j = M 18 j
        exact v2 j (by omega) (by omega)
