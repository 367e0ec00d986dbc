/-! ===== operation: text ===== -/
theorem s_text : St_text dt_I := by
  intro M h
  obtain ⟨n, W, g, ⟨hT, hok, hRT, hD, hV, hC, hS⟩, hU, hI, hP, hF, hR⟩ := h
  obtain ⟨t, p1, p2, p3, p4⟩ := hP
  -- the tape
  have hB : ∃ B : Nat → Int, TB (M 0 4) B t ∧ MB (M 18) B t := by
    refine ⟨fun i => (M 18 13 i).toInt, ⟨p1, fun i hi => ?_⟩, ⟨p1, p3, fun i hi => ?_⟩⟩
    · obtain ⟨v, w1, w2, w3, w4⟩ := p4 i hi
      have e : (M 18 13 i).toInt = v := by rw [w3]; exact jI_toInt _ (by omega) (by omega)
      show 0 ≤ (M 18 13 i).toInt ∧ (M 18 13 i).toInt ≤ 255 ∧ M 0 4 i = jI (if (M 18 13 i).toInt < 128 then (M 18 13 i).toInt else (M 18 13 i).toInt - 256)
      rw [e]
      exact ⟨w1, w2, w4⟩
    · obtain ⟨v, w1, w2, w3, w4⟩ := p4 i hi
      dsimp only
      rw [w3, jI_toInt _ (by omega) (by omega)]
      exact ⟨w1, w2, rfl⟩
  obtain ⟨B, hTB, hMB⟩ := hB
  obtain ⟨q1, c, st, en, size, s1, s2, s3, s4, s5, s6, s7, s8⟩ := fX7_scan_j hTB (M 12)
  have P : PX B t c st en size := ⟨s2, s3, s4, s5.2.1, fun p hp => (s5.2.2.1 p hp).2, s5.2.2.2⟩
  have hz : size ≤ 400 := s5.2.1
  have hVC : VC q1 c size (fun j => q1 4 j) := ⟨s5, fun _ _ => rfl⟩
  have hst : ∀ p, p ≤ size → q1 1 p = jI (stx st size t p) := by
    intro p hp
    unfold stx
    by_cases z : p < size
    · rw [if_pos z]; exact s6 p z
    · rw [if_neg z, show p = size by omega]; exact s7
  -- the first token
  have hX : ∃ X, X = dt_set (dt_set (dt_set (dt_set (M 18) 23 0 (0 : Int32)) 19 0 (0 : Int32)) 16 0 (0 : Int32)) 17 0 (0 : Int32) := ⟨_, rfl⟩
  obtain ⟨X, eX⟩ := hX
  have oX : ∀ j, j ≠ 16 → j ≠ 17 → j ≠ 19 → j ≠ 23 → X j = M 18 j := fun j h16 h17 h19 h23 => by rw [eX, dt_set_n _ _ _ _ _ h17, dt_set_n _ _ _ _ _ h16, dt_set_n _ _ _ _ _ h19, dt_set_n _ _ _ _ _ h23]
  have x16 : X 16 0 = jI ((0 : Nat) : Int) := by rw [eX, dt_set_n _ _ _ _ _ (by omega), dt_set_at]; rfl
  have x17 : X 17 0 = jI ((0 : Nat) : Int) := by rw [eX, dt_set_at]; rfl
  have x19 : X 19 0 = jI ((0 : Nat) : Int) := by rw [eX, dt_set_n _ _ _ _ _ (by omega), dt_set_n _ _ _ _ _ (by omega), dt_set_at]; rfl
  have x23 : X 23 0 = 0 := by rw [eX, dt_set_n _ _ _ _ _ (by omega), dt_set_n _ _ _ _ _ (by omega), dt_set_n _ _ _ _ _ (by omega), dt_set_at]
  obtain ⟨Y, y1, y2, y3⟩ := m_first P (MB_congr hMB (oX 18 (by omega) (by omega) (by omega) (by omega)) (oX 13 (by omega) (by omega) (by omega) (by omega))) x19 x17
  have oY : ∀ j, j ≠ 16 → j ≠ 17 → j ≠ 19 → j ≠ 20 → j ≠ 21 → j ≠ 22 → j ≠ 23 → Y j = M 18 j := fun j h16 h17 h19 h20 h21 h22 h23 => by rw [y3 j h19 h20 h21 h22, oX j h16 h17 h19 h23]
  have y16 : Y 16 0 = jI ((0 : Nat) : Int) := by rw [y3 16 (by omega) (by omega) (by omega) (by omega)]; exact x16
  have y23 : Y 23 0 = 0 := by rw [y3 23 (by omega) (by omega) (by omega) (by omega)]; exact x23
  have mtop : fX10_text (M 18) = fX10_text_26 dt_F 1 Y := by
    unfold fX10_text
    rw [← eX, y1, dt_b1]
  have ctop : fX7_read (-1) q1 = fX7_read_24 dt_F (-1) (-1) (jI ((0 : Nat) : Int)) (tS (dt_set q1 5 0 (jI ((0 : Nat) : Int))) (jI ((0 : Nat) : Int)) 0 (-1)) := by
    unfold fX7_read
    rw [tS_self]
    rfl
  have lp0 : LQ c size Y 0 0 0 := ⟨fun _ => 0, fun _ => 0, fun _ => 0, fun _ => 0, rfl, rfl, fun i hi => by omega⟩
  have base : ∀ (M2 : dt_M) (w : Nat → Int32), (∀ k, k ≠ 0 → k ≠ 3 → k ≠ 12 → k ≠ 18 → M2 k = M k) → (∀ j, j ≠ 5 → M2 0 j = M 0 j) → M2 0 5 0 = 0 → (∀ j, 0 < j → j ≤ 6 → M2 18 j = M 18 j) → M2 18 13 = M 18 13 → M2 18 18 0 = 0 → (∀ q, q < 340 → M2 18 0 q = M 18 0 q) → RV (M2 3) (M2 18 0) → (M2 12 6 0 = M2 18 25 0 ∧ M2 12 7 0 = M2 18 27 0) → dt_I M2 := by
    intro M2 w ek e0 e5 e6 e13 e18 ew hv hf
    refine ⟨n, W, g, ?_, ?_, ?_, ?_, hf, ?_⟩
    · rw [ek 1 (by omega) (by omega) (by omega) (by omega), ek 2 (by omega) (by omega) (by omega) (by omega), ek 4 (by omega) (by omega) (by omega) (by omega), ek 5 (by omega) (by omega) (by omega) (by omega)]
      exact ⟨hT, hok, RT_congr hRT hok.1 (fun q hq => ew q (by omega)), RD_congr hD (fun q h1 h2 => ew q (by omega)), hv, RC_congr hC (fun q hq => ew q (by omega)), RS_congr hS (fun q h1 h2 => ew q (by omega))⟩
    · rw [ek 11 (by omega) (by omega) (by omega) (by omega), e6 2 (by omega) (by omega), e6 3 (by omega) (by omega), ew 4 (by omega)]
      exact hU
    · rw [e0 2 (by omega), e6 6 (by omega) (by omega), e6 1 (by omega) (by omega), ek 6 (by omega) (by omega) (by omega) (by omega), ek 7 (by omega) (by omega) (by omega) (by omega), ek 8 (by omega) (by omega) (by omega) (by omega), ek 9 (by omega) (by omega) (by omega) (by omega), ek 10 (by omega) (by omega) (by omega) (by omega)]
      exact hI
    · exact ⟨0, by omega, e5, e18, fun i hi => by omega⟩
    · rw [e0 7 (by omega), e0 8 (by omega), e6 4 (by omega) (by omega), e6 5 (by omega) (by omega)]
      exact hR
  rcases tx_loop P hVC hst (-1) size dt_F dt_F 0 0 0 Y (by omega) (by unfold dt_F; omega) (by unfold dt_F; omega) y2 (by omega) y16 (by omega) lp0 with ⟨Z, L, s, v1, v2, v3, v4, v5, v6, v7, v8⟩ | ⟨Z, k, q, v, v1, v2, v3, v4, v5, v6⟩
  · -- good
    have hDr : ∃ Dr, Dr = tS (dt_set q1 5 0 (jI L)) (jI size) 0 (-1) := ⟨_, rfl⟩
    obtain ⟨Dr, eDr⟩ := hDr
    have d0 : Dr 0 = q1 0 := by rw [eDr, tS_o _ _ _ _ 0 (by omega) (by omega) (by omega), dt_set_n _ _ _ _ _ (by omega)]
    have d2 : Dr 2 = q1 2 := by rw [eDr, tS_o _ _ _ _ 2 (by omega) (by omega) (by omega), dt_set_n _ _ _ _ _ (by omega)]
    have d5 : Dr 5 0 = jI L := by rw [eDr, tS_o _ _ _ _ 5 (by omega) (by omega) (by omega)]; exact dt_set_at _ _ _ _
    have d6 : Dr 6 0 = 0 := by rw [eDr]; exact tS_6 _ _ _ _
    have d7 : Dr 7 0 = -1 := by rw [eDr]; exact tS_7 _ _ _ _
    -- the reference's copy
    have hZ1 : ∃ Z1, Z1 = dt_set (dt_set (dt_set (dt_set Z 18 0 (0 : Int32)) 25 0 (Z 23 0)) 27 0 (-1 : Int32)) 0 340 (jI L) := ⟨_, rfl⟩
    obtain ⟨Z1, eZ1⟩ := hZ1
    have oZ1 : ∀ j, j ≠ 0 → j ≠ 18 → j ≠ 25 → j ≠ 27 → Z1 j = Z j := fun j h0 h18 h25 h27 => by rw [eZ1, dt_set_n _ _ _ _ _ h0, dt_set_n _ _ _ _ _ h27, dt_set_n _ _ _ _ _ h25, dt_set_n _ _ _ _ _ h18]
    have z0 : Z1 0 = upd (Z 0) 340 (jI L) := by rw [eZ1, dt_set_s, dt_set_n _ _ _ _ _ (by omega), dt_set_n _ _ _ _ _ (by omega), dt_set_n _ _ _ _ _ (by omega)]
    have z18 : Z1 18 0 = 0 := by rw [eZ1, dt_set_n _ _ _ _ _ (by omega), dt_set_n _ _ _ _ _ (by omega), dt_set_n _ _ _ _ _ (by omega), dt_set_at]
    have z25 : Z1 25 0 = 0 := by
      rw [eZ1, dt_set_n _ _ _ _ _ (by omega), dt_set_n _ _ _ _ _ (by omega), dt_set_at, v7 23 (by omega) (by omega) (by omega) (by omega) (by omega) (by omega) (by omega) (by omega) (by omega)]
      exact y23
    have z27 : Z1 27 0 = -1 := by rw [eZ1, dt_set_n _ _ _ _ _ (by omega), dt_set_at]
    obtain ⟨Z2, b1, b2, b3, b4⟩ := tx_heads L v1 L dt_F 0 Z1 (by omega) (by unfold dt_F; omega) (by rw [oZ1 16 (by omega) (by omega) (by omega) (by omega)]; exact v3)
    obtain ⟨Z3, c1, c2, c3, c4⟩ := tx_steps s (by omega) (2 * s) dt_F 0 Z2 (by omega) (by unfold dt_F; omega) (by rw [b2 17 (by omega), oZ1 17 (by omega) (by omega) (by omega) (by omega)]; exact v4)
    have fin : fX10_text (M 18) = some (jI L, Z3) := by
      rw [mtop, v2]
      unfold fX10_text_63
      rw [if_neg n10]
      unfold fX10_text_89
      have x340 : dt_ix (340 : Int32) 1225 = some 340 := rfl
      have e16 : (dt_set (dt_set Z 18 0 (0 : Int32)) 25 0 (Z 23 0)) 16 0 = jI L := by rw [dt_set_n _ _ _ _ _ (by omega), dt_set_n _ _ _ _ _ (by omega)]; exact v3
      have e23 : (dt_set Z 18 0 (0 : Int32)) 23 0 = Z 23 0 := by rw [dt_set_n _ _ _ _ _ (by omega)]
      rw [if_neg n10, x340, dt_b1, e16, ← eZ1]
      have bb : fX10_text_112 dt_F 0 Z1 = fX10_text_186 dt_F 0 Z2 := b1
      have cc : fX10_text_186 dt_F 0 Z2 = some (Z2 16 0, Z3) := c1
      rw [bb, cc, b2 16 (by omega), oZ1 16 (by omega) (by omega) (by omega) (by omega), v3]
    have zj : ∀ j, j ≠ 0 → Z3 j = Z1 j := fun j hj => by rw [c2 j hj, b2 j hj]
    have w0 : ∀ q, q < 345 → Z3 0 q = (upd (Z 0) 340 (jI L)) q := fun q hq => by rw [c4 q (by omega), b4 q (by omega), z0]
    have Z0 : Z 0 = M 18 0 := by rw [v7 0 (by omega) (by omega) (by omega) (by omega) (by omega) (by omega) (by omega) (by omega) (by omega), oY 0 (by omega) (by omega) (by omega) (by omega) (by omega) (by omega) (by omega)]
    have hv : RV Dr (Z3 0) := by
      obtain ⟨pos, wd, fr, to, l1, l2, l3⟩ := v6
      refine ⟨c, size, L, wd, fr, to, ⟨by rw [d2]; exact s5.1, hz, fun p hp => ?_, s5.2.2.2⟩, v1, d5, ?_, fun i hi => ?_, pos, l1, l2, fun i hi => ?_⟩
      · rw [d0]; exact s5.2.2.1 p hp
      · rw [w0 340 (by omega)]; exact upd_s _ _ _
      · obtain ⟨a1, a2, a3, a4, a5, a6, a7, a8, a9⟩ := l3 i hi
        obtain ⟨e1, e2, e3⟩ := b3 i (by omega) hi
        rw [c4 (345 + i) (by omega), c4 (365 + i) (by omega), c4 (385 + i) (by omega), e1, e2, e3, oZ1 11 (by omega) (by omega) (by omega) (by omega)]
        exact ⟨a6, a7, a8⟩
      · obtain ⟨a1, a2, a3, a4, a5, a6, a7, a8, a9⟩ := l3 i hi
        refine ⟨a1, a2, a3, a4, by omega, fun F => ?_⟩
        obtain ⟨so, g1, g2⟩ := a9 F
        refine ⟨so, g1, ?_⟩
        rw [← g2]
        refine eRun_cg _ _ _ (fun j j1 j2 => ?_)
        rw [c3 j (by omega) (by omega), b2 12 (by omega), oZ1 12 (by omega) (by omega) (by omega) (by omega)]
    obtain ⟨V3, g1, g2⟩ := RV_become hv (M 3)
    refine ⟨jI L, dt_put (dt_put (dt_sM (dt_put M 12 q1) 0 5 0 (0 : Int32)) 12 Dr) 3 V3, Z3, ?_, ?_, ?_⟩
    · unfold fX9_text
      rw [p2, s1, dt_b1, ctop, v8, dt_b1]
      dsimp only
      rw [← eDr, if_pos d6, g1, dt_b1, d5]
    · rw [dt_put_ne _ _ _ _ (by omega), dt_put_ne _ _ _ _ (by omega), show (dt_sM (dt_put M 12 q1) 0 5 0 (0 : Int32)) 18 = M 18 from rfl]
      exact fin
    · refine base _ (Z3 0) (fun k h0 h3 h12 h18 => ?_) (fun j hj => ?_) ?_ (fun j h1 h6 => ?_) ?_ ?_ (fun q hq => ?_) ?_ ⟨?_, ?_⟩
      · rw [dt_put_ne _ _ _ _ h18, dt_put_ne _ _ _ _ h3, dt_put_ne _ _ _ _ h12]
        unfold dt_sM
        rw [dt_put_ne _ _ _ _ h0, dt_put_ne _ _ _ _ h12]
      · rw [dt_put_ne _ _ _ _ (by omega), dt_put_ne _ _ _ _ (by omega), dt_put_ne _ _ _ _ (by omega)]
        unfold dt_sM
        rw [dt_put_s, dt_set_n _ _ _ _ _ hj, dt_put_ne _ _ _ _ (by omega)]
      · rw [dt_put_ne _ _ _ _ (by omega), dt_put_ne _ _ _ _ (by omega), dt_put_ne _ _ _ _ (by omega)]
        unfold dt_sM
        rw [dt_put_s]
        exact dt_set_at _ _ _ _
      · rw [dt_put_s, zj j (by omega), oZ1 j (by omega) (by omega) (by omega) (by omega), v7 j (by omega) (by omega) (by omega) (by omega) (by omega) (by omega) (by omega) (by omega) (by omega), oY j (by omega) (by omega) (by omega) (by omega) (by omega) (by omega) (by omega)]
      · rw [dt_put_s, zj 13 (by omega), oZ1 13 (by omega) (by omega) (by omega) (by omega), v7 13 (by omega) (by omega) (by omega) (by omega) (by omega) (by omega) (by omega) (by omega) (by omega), oY 13 (by omega) (by omega) (by omega) (by omega) (by omega) (by omega) (by omega)]
      · rw [dt_put_s, zj 18 (by omega)]; exact z18
      · rw [dt_put_s, w0 q (by omega), upd_n _ _ _ _ (by omega), Z0]
      · rw [dt_put_s, dt_put_ne _ _ _ _ (by omega), dt_put_s]; exact g2
      · rw [dt_put_s, dt_put_ne _ _ _ _ (by omega), dt_put_ne _ _ _ _ (by omega), dt_put_s, zj 25 (by omega), z25]; exact d6
      · rw [dt_put_s, dt_put_ne _ _ _ _ (by omega), dt_put_ne _ _ _ _ (by omega), dt_put_s, zj 27 (by omega), z27]; exact d7
  · -- a fault
    have hDr : ∃ Dr, Dr = tS (dt_set q1 5 0 v) (jI size) (jI k) (jI (stx st size t q)) := ⟨_, rfl⟩
    obtain ⟨Dr, eDr⟩ := hDr
    have d6 : Dr 6 0 = jI k := by rw [eDr]; exact tS_6 _ _ _ _
    have d7 : Dr 7 0 = jI (stx st size t q) := by rw [eDr]; exact tS_7 _ _ _ _
    have hZ1 : ∃ Z1, Z1 = dt_set (dt_set (dt_set Z 18 0 (0 : Int32)) 25 0 (Z 23 0)) 27 0 (Z 24 0) := ⟨_, rfl⟩
    obtain ⟨Z1, eZ1⟩ := hZ1
    have oZ1 : ∀ j, j ≠ 18 → j ≠ 25 → j ≠ 27 → Z1 j = Z j := fun j h18 h25 h27 => by rw [eZ1, dt_set_n _ _ _ _ _ h27, dt_set_n _ _ _ _ _ h25, dt_set_n _ _ _ _ _ h18]
    have z18 : Z1 18 0 = 0 := by rw [eZ1, dt_set_n _ _ _ _ _ (by omega), dt_set_n _ _ _ _ _ (by omega), dt_set_at]
    have z25 : Z1 25 0 = jI k := by rw [eZ1, dt_set_n _ _ _ _ _ (by omega), dt_set_at]; exact v3
    have z27 : Z1 27 0 = jI (stx st size t q) := by rw [eZ1, dt_set_at]; exact v4
    have fin : fX10_text (M 18) = some (-1, Z1) := by
      rw [mtop, v1]
      unfold fX10_text_63
      rw [if_pos rfl]
      unfold fX10_text_89
      rw [if_pos rfl, eZ1]
    refine ⟨-1, dt_put (dt_sM (dt_put M 12 q1) 0 5 0 (0 : Int32)) 12 Dr, Z1, ?_, ?_, ?_⟩
    · unfold fX9_text
      rw [p2, s1, dt_b1, ctop, v6, dt_b1]
      dsimp only
      rw [← eDr, if_neg (show ¬ Dr 6 0 = 0 by rw [d6]; exact kne v2)]
    · rw [dt_put_ne _ _ _ _ (by omega), show (dt_sM (dt_put M 12 q1) 0 5 0 (0 : Int32)) 18 = M 18 from rfl]
      exact fin
    · have Z0 : ∀ j, j ≤ 6 → Z1 j = M 18 j := fun j hj => by rw [oZ1 j (by omega) (by omega) (by omega), v5 j (by omega) (by omega) (by omega) (by omega) (by omega) (by omega) (by omega) (by omega) (by omega) (by omega) (by omega), oY j (by omega) (by omega) (by omega) (by omega) (by omega) (by omega) (by omega)]
      refine base _ (Z1 0) (fun k h0 h3 h12 h18 => ?_) (fun j hj => ?_) ?_ (fun j h1 h6 => ?_) ?_ ?_ (fun q hq => ?_) ?_ ⟨?_, ?_⟩
      · rw [dt_put_ne _ _ _ _ h18, dt_put_ne _ _ _ _ h12]
        unfold dt_sM
        rw [dt_put_ne _ _ _ _ h0, dt_put_ne _ _ _ _ h12]
      · rw [dt_put_ne _ _ _ _ (by omega), dt_put_ne _ _ _ _ (by omega)]
        unfold dt_sM
        rw [dt_put_s, dt_set_n _ _ _ _ _ hj, dt_put_ne _ _ _ _ (by omega)]
      · rw [dt_put_ne _ _ _ _ (by omega), dt_put_ne _ _ _ _ (by omega)]
        unfold dt_sM
        rw [dt_put_s]
        exact dt_set_at _ _ _ _
      · rw [dt_put_s, Z0 j (by omega)]
      · rw [dt_put_s, oZ1 13 (by omega) (by omega) (by omega), v5 13 (by omega) (by omega) (by omega) (by omega) (by omega) (by omega) (by omega) (by omega) (by omega) (by omega) (by omega), oY 13 (by omega) (by omega) (by omega) (by omega) (by omega) (by omega) (by omega)]
      · rw [dt_put_s]; exact z18
      · rw [dt_put_s, Z0 0 (by omega)]
      · rw [dt_put_s, dt_put_ne _ _ _ _ (by omega), dt_put_ne _ _ _ _ (by omega), Z0 0 (by omega)]
        exact hV
      · rw [dt_put_s, dt_put_ne _ _ _ _ (by omega), dt_put_s, z25]; exact d6
      · rw [dt_put_s, dt_put_ne _ _ _ _ (by omega), dt_put_s, z27]; exact d7
