/-! ===== operations: put, take, undo ===== -/
theorem fX5_fits_j {T : dt_Ob} {n : Nat} {W : Int} {g : Nat → Nat → Int} (h : TW T n W g) (ho : okD n W g) (b : Nat) (hb : b < n) (c : Int) (c0 : -2147483648 ≤ c) (c1 : c < 2147483648) : fX5_fits (jI b) (jI c) T = some (if 0 ≤ c ∧ c ≤ W - g 0 b then 1 else 0) := by
  have hn := ho.1
  have w := ho.2.2
  have r := (ho.2.2.2.1 b hb).1
  unfold okB at r
  have e2 : T 2 b = jI (g 0 b) := h.2.2.1 0 (by omega) b hb
  unfold fX5_fits
  rw [fX5_isKnown_j h.2.1 hn b (by omega) (by omega), if_pos (by omega), dt_b1]
  simp (disch := omega) only [jI_lit, jI_add, jI_sub, jI_mul, jI_neg, jI_lt, jI_le, jI_eq, jI_div, dt_ix_j, dt_b1, Int.toNat_natCast, Int.reduceToNat, e2, h.1]
  rw [if_neg (by omega)]
  by_cases a : c < 0
  · rw [if_pos a, if_neg (by omega)] <;> rfl
  · rw [if_neg a]
    by_cases z : W - g 0 b < c
    · rw [if_pos z, if_neg (by omega)] <;> rfl
    · rw [if_neg z, if_pos (by omega)] <;> rfl
theorem RT_put {w w' : Nat → Int32} {n : Nat} {W : Int} {g : Nat → Nat → Int} (h : RT w n W g) (hn : n ≤ 20) {b : Nat} (hb : b < n) (p c l : Int) (h4 : w' (20 + 8 * b + 4) = jI p) (h5 : w' (20 + 8 * b + 5) = jI c) (h6 : w' (20 + 8 * b + 6) = jI l) (ho : ∀ q, q ≠ 3 → q ≠ 4 → q < 20 + 8 * b + 4 ∨ 20 + 8 * b + 6 < q → w' q = w q) : RT w' n W (gP g b p c l) := by
  refine ⟨by rw [ho 0 (by omega) (by omega) (by omega)]; exact h.1, by rw [ho 1 (by omega) (by omega) (by omega)]; exact h.2.1, fun f hf x hx => ?_⟩
  by_cases e : x = b
  · subst e
    by_cases f4 : f = 4
    · subst f4; rw [h4, gP_4]
    · by_cases f5 : f = 5
      · subst f5; rw [h5, gP_5]
      · by_cases f6 : f = 6
        · subst f6; rw [h6, gP_6]
        · rw [ho _ (by omega) (by omega) (by omega), gP_f _ _ _ _ _ _ _ (by omega)]
          exact h.2.2 f hf x hx
  · rw [gP_n _ _ _ _ _ _ _ e, ho _ (by omega) (by omega) (by omega)]
    exact h.2.2 f hf x hx
theorem RD_carry {D : dt_Ob} {w w' : Nat → Int32} (h : RD D w) (k : Int32) (h3 : w' 3 = w 3 + 1) (h4 : w' 4 = w 4 + k) (ho : ∀ q, q ≠ 3 → q ≠ 4 → q < 20 → w' q = w q) : RD (dt_set (dt_set D 1 0 (D 1 0 + 1)) 2 0 (D 2 0 + k)) w' := by
  obtain ⟨a1, a2, a3, a4, a5, a6, a7⟩ := h
  refine ⟨?_, ?_, ?_, ?_, ?_, ?_, ?_⟩
  · rw [ho 2 (by omega) (by omega) (by omega), ← a1] <;> rfl
  · rw [h3, ← a2] <;> rfl
  · rw [h4, ← a3] <;> rfl
  · rw [ho 5 (by omega) (by omega) (by omega), ← a4] <;> rfl
  · rw [ho 6 (by omega) (by omega) (by omega), ← a5] <;> rfl
  · exact a6
  · rw [ho 7 (by omega) (by omega) (by omega), ← a7] <;> rfl
theorem dt_I_ref {M M' : dt_M} {n : Nat} {W : Int} {g : Nat → Nat → Int} (hw : RW (M' 1) (M' 2) (M' 3) (M' 4) (M' 5) (M' 18 0) n W g) (hu : RU (M' 11) (M' 18 2) (M' 18 3 0) n W g (M' 18 0 4)) (h : dt_I M) (e : ∀ k, (6 ≤ k ∧ k ≤ 10) ∨ k = 12 → M' k = M k) (e0 : ∀ j, j = 2 ∨ j = 4 ∨ j = 5 → M' 0 j = M 0 j) (e18 : ∀ j, j = 1 ∨ j = 6 ∨ j = 13 ∨ j = 18 ∨ j = 25 ∨ j = 27 → M' 18 j = M 18 j) (hr : M' 0 7 0 = M' 18 4 0 ∧ M' 0 8 0 = M' 18 5 0) : dt_I M' := by
  obtain ⟨-, -, -, -, -, hI, hP, hF, -⟩ := h
  refine ⟨n, W, g, hw, hu, ?_, ?_, ?_, hr⟩
  · rw [e0 2 (by omega), e18 6 (by omega), e18 1 (by omega), e 6 (by omega), e 7 (by omega), e 8 (by omega), e 9 (by omega), e 10 (by omega)]; exact hI
  · rw [e0 4 (by omega), e0 5 (by omega), e18 13 (by omega), e18 18 (by omega)]; exact hP
  · rw [e 12 (by omega), e18 25 (by omega), e18 27 (by omega)]; exact hF
/-- refused: nothing is done but that it is told -/
theorem dt_I_no' {M : dt_M} (h : dt_I M) (T' X : dt_Ob) (r v : Int32) {n : Nat} {W : Int} {g : Nat → Nat → Int} (hT' : TW T' n W g) (hw : RW (M 1) (M 2) (M 3) (M 4) (M 5) (M 18 0) n W g) (hu : RU (M 11) (M 18 2) (M 18 3 0) n W g (M 18 0 4)) (ex : ∀ j, j = 0 ∨ j = 1 ∨ j = 2 ∨ j = 3 ∨ j = 6 ∨ j = 13 ∨ j = 18 ∨ j = 25 ∨ j = 27 → X j = M 18 j) (h4 : X 4 0 = r) (h5 : X 5 0 = v) : dt_I (dt_put (dt_sM (dt_sM (dt_put M 1 T') 0 7 0 r) 0 8 0 v) 18 X) := by
  obtain ⟨hT, hok, hRT, hD, hV, hC, hS⟩ := hw
  refine dt_I_ref (n := n) (W := W) (g := g) ?_ ?_ h ?_ ?_ ?_ ?_
  · show RW T' (M 2) (M 3) (M 4) (M 5) (X 0) n W g
    rw [ex 0 (by omega)]
    exact ⟨hT', hok, hRT, hD, hV, hC, hS⟩
  · show RU (M 11) (X 2) (X 3 0) n W g (X 0 4)
    rw [ex 0 (by omega), ex 2 (by omega), ex 3 (by omega)]
    exact hu
  · intro k hk
    have : ∀ (A : dt_M) (q : Nat) (B : dt_Ob), q ≠ k → dt_put A q B k = A k := fun A q B hq => dt_put_ne A q k B (Ne.symm hq)
    unfold dt_sM
    rw [this _ _ _ (by omega), this _ _ _ (by omega), this _ _ _ (by omega), this _ _ _ (by omega)]
  · intro j hj
    show dt_set (dt_set (M 0) 7 0 r) 8 0 v j = M 0 j
    rw [dt_set_n _ _ _ _ _ (by omega), dt_set_n _ _ _ _ _ (by omega)]
  · intro j hj
    show X j = M 18 j
    exact ex j (by omega)
  · show r = X 4 0 ∧ v = X 5 0
    exact ⟨h4.symm, h5.symm⟩
theorem s_put_no (M : dt_M) (h : dt_I M) (a1 a2 : Int32) (hc : fX9_put a1 a2 M = fX9_put_25 M) (hm : fX10_put a1 a2 (M 18) = some (-1, dt_set (dt_set (M 18) 4 0 1) 5 0 (-1))) : ∃ (r : Int32) (M1 : dt_M) (T : dt_Ob), fX9_put a1 a2 M = some (r, M1) ∧ fX10_put a1 a2 (M1 18) = some (r, T) ∧ dt_I (dt_put M1 18 T) := by
  refine ⟨-1, dt_sM (dt_sM M 0 7 0 1) 0 8 0 (-1), _, ?_, hm, ?_⟩
  · rw [hc] <;> rfl
  · have h' := h
    obtain ⟨n, W, g, ⟨hT, hok, hRT, hD, hV, hC, hS⟩, hU, hI, hP, hF, hR⟩ := h
    have := dt_I_no' h' (M 1) (dt_set (dt_set (M 18) 4 0 1) 5 0 (-1)) 1 (-1) hT ⟨hT, hok, hRT, hD, hV, hC, hS⟩ hU (fun j hj => by rw [dt_set_n _ _ _ _ _ (by omega), dt_set_n _ _ _ _ _ (by omega)]) rfl rfl
    rw [dt_put_self] at this
    exact this
theorem s_put : St_put dt_I := by
  intro M a1 a2 h
  have h' := h
  obtain ⟨n, W, g, ⟨hT, hok, hRT, hD, hV, hC, hS⟩, hU, hI, hP, hF, hR⟩ := h
  obtain ⟨b, rfl, b0, b1⟩ := jI_ex a1
  obtain ⟨c, rfl, c0, c1⟩ := jI_ex a2
  have od := hok.D
  have hn := od.1
  have w := od.2.2.1
  have w2 := od.2.1
  -- what the reference starts with
  have X0 : ∃ X, X = dt_set (dt_set (M 18) 4 0 1) 5 0 (-1) := ⟨_, rfl⟩
  obtain ⟨X, hX⟩ := X0
  have x0 : X 0 = M 18 0 := by rw [hX, dt_set_n _ _ _ _ _ (by omega), dt_set_n _ _ _ _ _ (by omega)]
  have hRX : RT (X 0) n W g := by rw [x0]; exact hRT
  have ib := fX10_isBlock_j (T := X) hRX.2.1 hn b b0 b1
  have iy := fX5_isInYard_j hT od b b0 b1
  by_cases zb : 0 ≤ b ∧ b < n
  · obtain ⟨q, rfl⟩ : ∃ q : Nat, b = q := ⟨b.toNat, by omega⟩
    have hq : q < n := by omega
    rw [Int.toNat_natCast] at iy
    have rb := hok.2.2.2.1 q hq
    unfold okB at rb
    have o5 : fX10_own (jI q) 5 X = some (jI (g 5 q)) := by rw [show (5 : Int32) = jI 5 from rfl, fX10_own_j X q 5 (by omega) (by omega) (by omega)]; exact congrArg some (hRX.2.2 5 (by omega) q hq)
    have o0 : fX10_own (jI q) 0 X = some (jI (g 0 q)) := by rw [show (0 : Int32) = jI 0 from rfl, fX10_own_j X q 0 (by omega) (by omega) (by omega)]; exact congrArg some (hRX.2.2 0 (by omega) q hq)
    by_cases zy : g 5 q < 0
    · have ft := fX5_fits_j hT od q hq c c0 c1
      by_cases zc : 0 ≤ c ∧ c ≤ W - g 0 q
      · -- it is tried
        obtain ⟨T', r1, r2, r3⟩ := fX5_raise_j hT hok q hq c zc.1 (by omega) zy
        obtain ⟨T1, t1, t2, t3⟩ := fX10_laysTower_j hRX hn
        obtain ⟨T2, l1, l2, l3, l4, l5⟩ := fX10_lays_j t3 hok q hq c zc.1 (by omega) zy
        have e6 : M 1 6 q = jI (g 4 q) := hT.2.2.1 4 (by omega) q hq
        have rr : rsn n g q c = 0 ∨ rsn n g q c = 2 ∨ rsn n g q c = 3 := by
          unfold rsn
          split
          · split <;> omega
          · omega
        have x5 : T1 5 0 = jI (-1) := by rw [t2 5 (by omega) (by omega), hX]; exact dt_set_at _ _ _ _
        have w5 : T2 5 0 = jI (rsw n g q c) := by
          rw [l5]
          by_cases z : rsn n g q c = 2
          · rw [if_pos z, x5]
            unfold rsn at z
            unfold rsw
            by_cases s : stn n g q c
            · rw [if_pos s] at z
              exfalso
              revert z
              split <;> omega
            · rw [if_neg s]
          · rw [if_neg z]
        have mo : ∀ j, j < 38 → j ≠ 4 → j ≠ 5 → j ≠ 7 → j ≠ 8 → j ≠ 9 → T2 j = M 18 j := by
          intro j hj h4 h5 h7 h8 h9
          rw [l4 j hj h5 h7 h8 h9, t2 j h7 h8, hX, dt_set_n _ _ _ _ _ h5, dt_set_n _ _ _ _ _ h4]
        have cls : fX9_put (jI q) (jI c) M = (fX9_refuse (jI (rsn n g q c)) (jI (rsw n g q c)) (dt_put M 1 T')).bind fun q5 => (if jI (rsn n g q c) = 0 then ((dt_ix (jI q) 20).bind fun a6 => ((fX9_costOf (jI (g 4 q)) (jI c) (((q5 1) 8) a6)).bind fun q7 => ((fX1_carry q7 (q5 2)).bind fun q8 => ((fX6_remember (jI q) (jI (g 4 q)) (-1 : Int32) q7 (q5 11)).bind fun q9 => (some ((((q5 1) 8) a6), (dt_put (dt_put q5 2 q8) 11 q9))))))) else (some ((-1 : Int32), q5))) := by
          unfold fX9_put
          rw [iy, if_pos (show (0 ≤ (q : Int) ∧ (q : Int) < n) ∧ g 5 q < 0 by omega), dt_b1, if_neg (by decide), ft, if_pos zc, dt_b1, if_neg (by decide), dt_ix_n q 20 (by omega) (by omega), dt_b1, r1, dt_b1]
          dsimp only
          rw [r3, e6]
        have mdl : fX10_put (jI q) (jI c) (M 18) = (if jI (rsn n g q c) = 0 then ((dt_ix (jI q) 20).bind fun a8 => ((fX10_own (jI q) (4 : Int32) (dt_set T2 4 0 (jI (rsn n g q c)))).bind fun q9 => ((dt_ix (jI q) 20).bind fun a10 => ((fX10_costOf q9 (jI c) ((T2 8) a10) (dt_set T2 4 0 (jI (rsn n g q c)))).bind fun q11 => ((fX10_carries (jI q) (-1 : Int32) (jI c) ((T2 8) a8) q11 (dt_set T2 4 0 (jI (rsn n g q c)))).bind fun q12 => ((dt_ix (jI q) 20).bind fun a13 => (some (((q12 8) a13), q12)))))))) else (some ((-1 : Int32), (dt_set T2 4 0 (jI (rsn n g q c)))))) := by
          unfold fX10_put
          rw [← hX, ib, if_pos (show 0 ≤ (q : Int) ∧ (q : Int) < n by omega), dt_b1, if_neg (by decide), o5, dt_b1, if_pos (by rw [show (-1 : Int32) = jI (-1) from rfl]; congr 1; omega), show dt_ix (0 : Int32) 1225 = some 0 from rfl, dt_b1, o0, dt_b1, hRT.1, jI_sub, show (0 : Int32) = jI 0 from rfl, fX10_isIn_j _ _ _ (by omega) (by omega) (by omega) (by omega) (by omega) (by omega), dt_b1, if_pos zc, if_neg (by decide +kernel), t1, dt_b1, l1, dt_b1]
        by_cases z0 : rsn n g q c = 0
        · -- done
          rw [z0, ij00x] at mdl
          rw [z0] at cls
          rw [if_pos z0] at r2
          have ot := okT_drop hok hq c zy zc.1 (by omega)
          have lv := (ot.D.2.2.2.1 q hq).2
          have ln := la_nn n g c (g 0 q).toNat
          rw [gP_6] at lv
          have c8 : T' 8 q = jI (la n g c (g 0 q).toNat) := by
            have := r2.2.2.1 6 (by omega) q hq
            rw [gD_6] at this
            exact this
          obtain ⟨m, x, eb, ep, ec, el, e0, er, u1, u2, u3, u4, u5, u6, u7⟩ := hU
          have T2w : T2 0 = M 18 0 := mo 0 (by omega) (by omega) (by omega) (by omega) (by omega) (by omega)
          have o4 : fX10_own (jI q) 4 (dt_set T2 4 0 (jI 0)) = some (jI (g 4 q)) := by
            rw [show (4 : Int32) = jI 4 from rfl, fX10_own_j _ q 4 (by omega) (by omega) (by omega), dt_set_n _ _ _ _ _ (by omega), T2w]
            exact congrArg some (hRT.2.2 4 (by omega) q hq)
          obtain ⟨X3, m', v1, v2, v3, v4, v5, v6, v7, v8, v9, v10, v11, v12, v13, v14, v15, v16, v17, v18, v19⟩ := fX10_carries_j (dt_set T2 4 0 (jI 0)) q m (by omega) u1 (by rw [dt_set_n _ _ _ _ _ (by omega), mo 3 (by omega) (by omega) (by omega) (by omega) (by omega) (by omega)]; exact u4) (-1) (jI c) (jI (la n g c (g 0 q).toNat)) (jI (cst (g 4 q) c (la n g c (g 0 q).toNat)))
          obtain ⟨R', y1, y2, y3, y4, y5, y6, y7⟩ := fX6_remember_j (M 11) m x u1 u2 u3 u5 (jI q) (jI (g 4 q)) (-1) (jI (cst (g 4 q) c (la n g c (g 0 q).toNat)))
          refine ⟨jI (la n g c (g 0 q).toNat), dt_put (dt_put (dt_sM (dt_sM (dt_put M 1 T') 0 7 0 (jI 0)) 0 8 0 (jI (rsw n g q c))) 2 (dt_set (dt_set (M 2) 1 0 (M 2 1 0 + 1)) 2 0 (M 2 2 0 + jI (cst (g 4 q) c (la n g c (g 0 q).toNat))))) 11 R', X3, ?_, ?_, ?_⟩
          · rw [cls]
            unfold fX9_refuse
            rw [dt_b1, ij00x, dt_ix_n q 20 (by omega) (by omega), dt_b1]
            show ((fX9_costOf (jI (g 4 q)) (jI c) (T' 8 q)).bind fun q7 => _) = _
            rw [c8, fX9_costOf_j _ _ _ (by omega) (by omega) (by omega) (by omega), dt_b1]
            unfold fX1_carry
            rw [dt_b1]
            show ((fX6_remember (jI q) (jI (g 4 q)) (-1) (jI (cst (g 4 q) c (la n g c (g 0 q).toNat))) (M 11)).bind fun q9 => _) = _
            rw [y1, dt_b1]
            show some (T' 8 q, _) = _
            rw [c8]
            try rfl
          · show fX10_put (jI q) (jI c) (M 18) = _
            rw [mdl, dt_ix_n q 20 (by omega) (by omega), dt_b1, o4, dt_b1, dt_b1, l3, fX10_costOf_j _ _ _ _ (by omega) (by omega) (by omega) (by omega), dt_b1, v1, dt_b1, dt_b1, v6 8 (by omega) (by omega) (by omega), dt_set_n _ _ _ _ _ (by omega), l3]
          · have w4 : (dt_set T2 4 0 (jI 0)) 0 = M 18 0 := by rw [dt_set_n _ _ _ _ _ (by omega), T2w]
            rw [w4] at v9 v10 v11 v12 v17 v18 v19
            have hRT' : RT (X3 0) n W (gD n g q c) := RT_put hRT hn hq (-1) c _ v14 v15 v16 v19
            have oth : ∀ j, j < 38 → j ≠ 0 → j ≠ 2 → j ≠ 3 → j ≠ 4 → j ≠ 5 → j ≠ 7 → j ≠ 8 → j ≠ 9 → X3 j = M 18 j := by
              intro j hj h0 h2 h3 h4 h5 h7 h8 h9
              rw [v6 j h0 h2 h3, dt_set_n _ _ _ _ _ h4, mo j hj h4 h5 h7 h8 h9]
            refine dt_I_ref (n := n) (W := W) (g := gD n g q c) ?_ ?_ h' ?_ ?_ ?_ ?_
            · show RW T' (dt_set (dt_set (M 2) 1 0 (M 2 1 0 + 1)) 2 0 (M 2 2 0 + jI (cst (g 4 q) c (la n g c (g 0 q).toNat)))) (M 3) (M 4) (M 5) (X3 0) n W (gD n g q c)
              exact ⟨r2, ot, hRT', RD_carry hD _ v17 v18 (fun y h3 h4 hy => v19 y h3 h4 (by omega)), RV_congr hV rfl rfl (fun _ _ => rfl) (fun y h1 h2 => v19 y (by omega) (by omega) (by omega)), RC_congr hC (fun y hy => v19 y (by omega) (by omega) (by omega)), RS_congr hS (fun y h1 h2 => v19 y (by omega) (by omega) (by omega))⟩
            · show RU R' (X3 2) (X3 3 0) n W (gD n g q c) (X3 0 4)
              rw [v7, v18]
              have b2o : ∀ y, y < 5 * m' → X3 2 y = M 18 2 (5 * (m - m') + y) := by
                intro y hy
                rw [v13 y hy, dt_set_n _ _ _ _ _ (by omega), mo 2 (by omega) (by omega) (by omega) (by omega) (by omega) (by omega)]
              have g5 : g 5 q = -1 := by omega
              refine RU_carry u1 u2 u6 u7 q _ v2 v3 v4 v5 y2 y3 y4 y5 (fun z => by rw [y6 z, g5] <;> rfl) y7 v8 (by rw [v9]; exact hRT.2.2 4 (by omega) q hq) (by rw [v10]; exact hRT.2.2 5 (by omega) q hq) (by rw [v11]; exact hRT.2.2 6 (by omega) q hq) v12 b2o (-1) c _ hq hok (Or.inl ⟨by omega, by omega, by omega, by omega, zc.1⟩)
            · intro k hk
              have : ∀ (A : dt_M) (q : Nat) (B : dt_Ob), q ≠ k → dt_put A q B k = A k := fun A q B hq => dt_put_ne A q k B (Ne.symm hq)
              unfold dt_sM
              rw [this _ _ _ (by omega), this _ _ _ (by omega), this _ _ _ (by omega), this _ _ _ (by omega), this _ _ _ (by omega), this _ _ _ (by omega)]
            · intro j hj
              show dt_set (dt_set (M 0) 7 0 _) 8 0 _ j = M 0 j
              rw [dt_set_n _ _ _ _ _ (by omega), dt_set_n _ _ _ _ _ (by omega)]
            · intro j hj
              show X3 j = M 18 j
              exact oth j (by omega) (by omega) (by omega) (by omega) (by omega) (by omega) (by omega) (by omega) (by omega)
            · show jI 0 = X3 4 0 ∧ jI (rsw n g q c) = X3 5 0
              rw [v6 4 (by omega) (by omega) (by omega), v6 5 (by omega) (by omega) (by omega), dt_set_at, dt_set_n _ _ _ _ _ (by omega), w5]
              exact ⟨rfl, rfl⟩
        · -- refused
          have nz : ¬ (jI (rsn n g q c) = 0) := by
            rw [show (0 : Int32) = jI 0 from rfl, jI_eq _ _ (by omega) (by omega) (by omega) (by omega)]; exact z0
          rw [if_neg nz] at mdl
          rw [if_neg z0] at r2
          refine ⟨-1, dt_sM (dt_sM (dt_put M 1 T') 0 7 0 (jI (rsn n g q c))) 0 8 0 (jI (rsw n g q c)), dt_set T2 4 0 (jI (rsn n g q c)), ?_, mdl, ?_⟩
          · rw [cls]
            unfold fX9_refuse
            rw [dt_b1, if_neg nz]
          · refine dt_I_no' h' T' _ _ _ r2 ⟨hT, hok, hRT, hD, hV, hC, hS⟩ hU (fun j hj => ?_) (dt_set_at _ _ _ _) ?_
            · rw [dt_set_n _ _ _ _ _ (by omega)]
              exact mo j (by omega) (by omega) (by omega) (by omega) (by omega) (by omega)
            · rw [dt_set_n _ _ _ _ _ (by omega)]; exact w5
      · apply s_put_no M h'
        · unfold fX9_put
          rw [iy, if_pos (show (0 ≤ (q : Int) ∧ (q : Int) < n) ∧ g 5 q < 0 by omega), dt_b1, if_neg (by decide), ft, if_neg zc, dt_b1, if_pos rfl]
        · unfold fX10_put
          rw [← hX, ib, if_pos (show 0 ≤ (q : Int) ∧ (q : Int) < n by omega), dt_b1, if_neg (by decide), o5, dt_b1, if_pos (by rw [show (-1 : Int32) = jI (-1) from rfl]; congr 1; omega), show dt_ix (0 : Int32) 1225 = some 0 from rfl, dt_b1, o0, dt_b1, hRT.1, jI_sub, show (0 : Int32) = jI 0 from rfl, fX10_isIn_j _ _ _ (by omega) (by omega) (by omega) (by omega) (by omega) (by omega), dt_b1, if_neg zc, if_pos (by rfl)]
    · apply s_put_no M h'
      · unfold fX9_put
        rw [iy, if_neg (show ¬ ((0 ≤ (q : Int) ∧ (q : Int) < n) ∧ g 5 q < 0) by omega), dt_b1, if_pos rfl]
      · unfold fX10_put
        rw [← hX, ib, if_pos (show 0 ≤ (q : Int) ∧ (q : Int) < n by omega), dt_b1, if_neg (by decide), o5, dt_b1, if_neg]
        rw [show (-1 : Int32) = jI (-1) from rfl, jI_eq _ _ (by omega) (by omega) (by omega) (by omega)]; omega
  · apply s_put_no M h'
    · unfold fX9_put
      rw [iy, if_neg (by omega), dt_b1, if_pos rfl]
    · unfold fX10_put
      rw [← hX, ib, if_neg zb, dt_b1, if_pos rfl]
