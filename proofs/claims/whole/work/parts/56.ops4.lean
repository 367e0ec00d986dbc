/-! ===== operations: wind, pay, hand ===== -/
theorem RT_congr {w w' : Nat → Int32} {n : Nat} {W : Int} {g : Nat → Nat → Int} (h : RT w n W g) (hn : n ≤ 20) (e : ∀ q, q < 2 ∨ (20 ≤ q ∧ q < 180) → w' q = w q) : RT w' n W g := ⟨by rw [e 0 (by omega)]; exact h.1, by rw [e 1 (by omega)]; exact h.2.1, fun f hf b hb => by rw [e _ (by omega)]; exact h.2.2 f hf b hb⟩
theorem RD_congr {D : dt_Ob} {w w' : Nat → Int32} (h : RD D w) (e : ∀ q, 2 ≤ q → q < 8 → w' q = w q) : RD D w' := by
  unfold RD
  rw [e 2 (by omega) (by omega), e 3 (by omega) (by omega), e 4 (by omega) (by omega), e 5 (by omega) (by omega), e 6 (by omega) (by omega), e 7 (by omega) (by omega)]
  exact h
theorem RC_congr {C : dt_Ob} {w w' : Nat → Int32} (h : RC C w) (e : ∀ q, q = 8 ∨ (180 ≤ q ∧ q < 254) → w' q = w q) : RC C w' := by
  obtain ⟨k, k1, k2, k3, k4, q, k5, k6, k7, k8⟩ := h
  refine ⟨k, k1, k2, by rw [e 8 (by omega)]; exact k3, fun i hi => ?_, q, k5, k6, fun x y hx hy => by rw [e _ (by omega)]; exact k7 x y hx hy, k8⟩
  rw [e _ (by omega)]
  exact k4 i hi
theorem RS_congr {S : dt_Ob} {w w' : Nat → Int32} (h : RS S w) (e : ∀ q, 260 ≤ q → q < 340 → w' q = w q) : RS S w' := by
  refine ⟨fun hh t h1 h2 h3 => ?_, fun t ht => ?_⟩
  · rw [e _ (by omega) (by omega)]; exact h.1 hh t h1 h2 h3
  · rw [e _ (by omega) (by omega)]; exact h.2 t ht
theorem dt_I_of {M M' : dt_M} {n : Nat} {W : Int} {g : Nat → Nat → Int} (hw : RW (M' 1) (M' 2) (M' 3) (M' 4) (M' 5) (M' 18 0) n W g) (hu : RU (M' 11) (M' 18 2) (M' 18 3 0) n W g (M' 18 0 4)) (h : dt_I M) (e : ∀ k, k = 0 ∨ (6 ≤ k ∧ k ≤ 10) ∨ k = 12 → M' k = M k) (e18 : ∀ j, j = 1 ∨ j = 4 ∨ j = 5 ∨ j = 6 ∨ j = 13 ∨ j = 18 ∨ j = 25 ∨ j = 27 → M' 18 j = M 18 j) : dt_I M' := by
  obtain ⟨-, -, -, -, -, hI, hP, hF, hR⟩ := h
  refine ⟨n, W, g, hw, hu, ?_, ?_, ?_, ?_⟩
  · rw [e 0 (by omega), e18 6 (by omega), e18 1 (by omega), e 6 (by omega), e 7 (by omega), e 8 (by omega), e 9 (by omega), e 10 (by omega)]; exact hI
  · rw [e 0 (by omega), e18 13 (by omega), e18 18 (by omega)]; exact hP
  · rw [e 12 (by omega), e18 25 (by omega), e18 27 (by omega)]; exact hF
  · rw [e 0 (by omega), e18 4 (by omega), e18 5 (by omega)]; exact hR
/-- one number of the reference's row, and the sky or the crew with it -/
theorem dt_I_sky {M : dt_M} (h : dt_I M) (S : dt_Ob) (i : Nat) (hi : 260 ≤ i) (hi' : i < 340) (v : Int32) (hS : RS S (upd (M 18 0) i v)) : dt_I (dt_put (dt_put M 5 S) 18 (dt_set (M 18) 0 i v)) := by
  have h' := h
  obtain ⟨n, W, g, ⟨hT, hok, hRT, hD, hV, hC, -⟩, hU, hI, hP, hF, hR⟩ := h
  have e0 : (dt_set (M 18) 0 i v) 0 = upd (M 18 0) i v := dt_set_s _ _ _ _
  have eo : ∀ j, j ≠ 0 → (dt_set (M 18) 0 i v) j = M 18 j := fun j hj => dt_set_n _ _ _ _ _ hj
  refine dt_I_of (n := n) (W := W) (g := g) ?_ ?_ h' ?_ ?_
  · show RW (M 1) (M 2) (M 3) (M 4) S ((dt_set (M 18) 0 i v) 0) n W g
    rw [e0]
    exact ⟨hT, hok, RT_congr hRT hok.1 (fun q hq => upd_n _ _ _ _ (by omega)), RD_congr hD (fun q h1 h2 => upd_n _ _ _ _ (by omega)), RV_congr hV rfl rfl (fun _ _ => rfl) (fun q h1 h2 => upd_n _ _ _ _ (by omega)), RC_congr hC (fun q hq => upd_n _ _ _ _ (by omega)), hS⟩
  · show RU (M 11) ((dt_set (M 18) 0 i v) 2) ((dt_set (M 18) 0 i v) 3 0) n W g ((dt_set (M 18) 0 i v) 0 4)
    rw [eo 2 (by omega), eo 3 (by omega), e0, upd_n _ _ _ _ (by omega)]
    exact hU
  · intro k hk
    show (if k = 18 then _ else if k = 5 then _ else M k) = M k
    rw [if_neg (by omega), if_neg (by omega)]
  · intro j hj
    show (dt_set (M 18) 0 i v) j = M 18 j
    exact eo j (by omega)
theorem s_wind : St_wind dt_I := by
  intro M a1 a2 a3 h
  have h' := h
  obtain ⟨n, W, g, ⟨hT, hok, hRT, hD, hV, hC, hS⟩, hU, hI, hP, hF, hR⟩ := h
  obtain ⟨a, rfl, a0, a1⟩ := jI_ex a1
  obtain ⟨b, rfl, b0, b1⟩ := jI_ex a2
  obtain ⟨c, rfl, c0, c1⟩ := jI_ex a3
  have same : dt_I (dt_put M 18 (M 18)) := by rw [dt_put_self]; exact h'
  have q1 : fX10_isIn (jI a) 0 7 = some (if 0 ≤ a ∧ a ≤ 7 then 1 else 0) := fX10_isIn_j a 0 7 (by omega) (by omega) (by omega) (by omega) (by omega) (by omega)
  have q2 : fX10_isIn (jI b) 1 8 = some (if 1 ≤ b ∧ b ≤ 8 then 1 else 0) := fX10_isIn_j b 1 8 (by omega) (by omega) (by omega) (by omega) (by omega) (by omega)
  have q3 : fX10_isIn (jI c) 0 10 = some (if 0 ≤ c ∧ c ≤ 10 then 1 else 0) := fX10_isIn_j c 0 10 (by omega) (by omega) (by omega) (by omega) (by omega) (by omega)
  by_cases z : (0 ≤ a ∧ a ≤ 7) ∧ (1 ≤ b ∧ b ≤ 8) ∧ (0 ≤ c ∧ c ≤ 10)
  · obtain ⟨za, zb, zc⟩ := z
    refine ⟨1, dt_put M 5 (dt_set (M 5) 0 (9 * a.toNat + b.toNat) (jI c)), dt_set (M 18) 0 (259 + 8 * a.toNat + b.toNat) (jI c), ?_, ?_, ?_⟩
    · have q : fX4_setChance (jI a) (jI b) (jI c) (M 5) = some (1, dt_set (M 5) 0 (9 * a.toNat + b.toNat) (jI c)) := by
        unfold fX4_setChance fX4_setChance_15
        rw [i10]
        simp (disch := omega) only [jI_lit, jI_add, jI_sub, jI_mul, jI_neg, jI_lt, jI_le, jI_eq, jI_div, dt_ix_j, dt_b1, Int.toNat_natCast, Int.reduceToNat]
        rw [if_neg (by omega), if_neg (by omega), if_neg (by omega), if_neg (by omega), if_neg (by omega), if_pos (by omega), show (a * 9 + b).toNat = 9 * a.toNat + b.toNat by omega]
      unfold fX9_wind
      rw [q, dt_b1, if_pos (Or.inr rfl)]
    · show fX10_wind (jI a) (jI b) (jI c) (M 18) = _
      unfold fX10_wind
      rw [q1, dt_b1, if_pos za, i10, q2, dt_b1, if_pos zb, i10, q3, dt_b1, if_pos zc, i10]
      simp (disch := omega) only [jI_lit, jI_add, jI_sub, jI_mul, jI_neg, jI_lt, jI_le, jI_eq, jI_div, dt_ix_j, dt_b1, Int.toNat_natCast, Int.reduceToNat]
      rw [show (260 + 8 * a + b - 1).toNat = 259 + 8 * a.toNat + b.toNat by omega]
      try rfl
    · refine dt_I_sky h' _ _ (by omega) (by omega) _ ⟨fun hh t h1 h2 h3 => ?_, fun t ht => ?_⟩
      · by_cases e : hh = a.toNat ∧ t = b.toNat
        · refine ⟨c, zc.1, zc.2, ?_, upd_e _ _ _ _ (by omega)⟩
          rw [dt_set_s]; exact upd_e _ _ _ _ (by omega)
        · rw [dt_set_s, upd_n _ _ _ _ (by omega), upd_n _ _ _ _ (by omega)]
          exact hS.1 hh t h1 h2 h3
      · rw [dt_set_n _ _ _ _ _ (by omega), upd_n _ _ _ _ (by omega)]
        exact hS.2 t ht
  · refine ⟨0, M, M 18, ?_, ?_, same⟩
    · have q : fX4_setChance (jI a) (jI b) (jI c) (M 5) = some (0, M 5) := by
        unfold fX4_setChance fX4_setChance_14 fX4_setChance_15
        rw [i10, i00]
        simp (disch := omega) only [jI_lit, jI_add, jI_sub, jI_mul, jI_neg, jI_lt, jI_le, jI_eq, jI_div, dt_ix_j, dt_b1, Int.toNat_natCast, Int.reduceToNat]
        repeat' split
        all_goals first
          | rfl
          | (exfalso; omega)
      unfold fX9_wind
      rw [q, dt_b1, if_pos (Or.inl rfl), dt_put_self]
    · unfold fX10_wind
      rw [q1, dt_b1]
      by_cases za : 0 ≤ a ∧ a ≤ 7
      · rw [if_pos za, i10, q2, dt_b1]
        by_cases zb : 1 ≤ b ∧ b ≤ 8
        · rw [if_pos zb, i10, q3, dt_b1, if_neg (show ¬ (0 ≤ c ∧ c ≤ 10) by omega), i00]
        · rw [if_neg zb, i00]
      · rw [if_neg za, i00]
theorem s_pay : St_pay dt_I := by
  intro M a1 a2 h
  have h' := h
  obtain ⟨n, W, g, ⟨hT, hok, hRT, hD, hV, hC, hS⟩, hU, hI, hP, hF, hR⟩ := h
  obtain ⟨a, rfl, a0, a1⟩ := jI_ex a1
  obtain ⟨b, rfl, b0, b1⟩ := jI_ex a2
  have same : dt_I (dt_put M 18 (M 18)) := by rw [dt_put_self]; exact h'
  have q1 : fX10_isIn (jI a) 0 8 = some (if 0 ≤ a ∧ a ≤ 8 then 1 else 0) := fX10_isIn_j a 0 8 (by omega) (by omega) (by omega) (by omega) (by omega) (by omega)
  have q2 : fX10_isIn (jI b) 0 999 = some (if 0 ≤ b ∧ b ≤ 999 then 1 else 0) := fX10_isIn_j b 0 999 (by omega) (by omega) (by omega) (by omega) (by omega) (by omega)
  by_cases z : (0 ≤ a ∧ a ≤ 8) ∧ (0 ≤ b ∧ b ≤ 999)
  · obtain ⟨za, zb⟩ := z
    refine ⟨1, dt_put M 5 (dt_set (M 5) 1 a.toNat (jI b)), dt_set (M 18) 0 (330 + a.toNat) (jI b), ?_, ?_, ?_⟩
    · have q : fX4_setReward (jI a) (jI b) (M 5) = some (1, dt_set (M 5) 1 a.toNat (jI b)) := by
        unfold fX4_setReward
        simp (disch := omega) only [jI_lit, jI_add, jI_sub, jI_mul, jI_neg, jI_lt, jI_le, jI_eq, jI_div, dt_ix_j, dt_b1, Int.toNat_natCast, Int.reduceToNat]
        rw [if_neg (by omega), if_neg (by omega), if_neg (by omega), if_pos (by omega)]
      unfold fX9_pay
      rw [q, dt_b1, if_pos (Or.inr rfl)]
    · show fX10_pay (jI a) (jI b) (M 18) = _
      unfold fX10_pay
      rw [q1, dt_b1, if_pos za, i10, q2, dt_b1, if_pos zb, i10]
      simp (disch := omega) only [jI_lit, jI_add, jI_sub, jI_mul, jI_neg, jI_lt, jI_le, jI_eq, jI_div, dt_ix_j, dt_b1, Int.toNat_natCast, Int.reduceToNat]
      rw [show (330 + a).toNat = 330 + a.toNat by omega]
      try rfl
    · refine dt_I_sky h' _ _ (by omega) (by omega) _ ⟨fun hh t h1 h2 h3 => ?_, fun t ht => ?_⟩
      · rw [dt_set_n _ _ _ _ _ (by omega), upd_n _ _ _ _ (by omega)]
        exact hS.1 hh t h1 h2 h3
      · by_cases e : t = a.toNat
        · refine ⟨b, zb.1, zb.2, ?_, upd_e _ _ _ _ (by omega)⟩
          rw [dt_set_s]; exact upd_e _ _ _ _ e
        · rw [dt_set_s, upd_n _ _ _ _ (by omega), upd_n _ _ _ _ (by omega)]
          exact hS.2 t ht
  · refine ⟨0, M, M 18, ?_, ?_, same⟩
    · have q : fX4_setReward (jI a) (jI b) (M 5) = some (0, M 5) := by
        unfold fX4_setReward
        simp (disch := omega) only [jI_lit, jI_add, jI_sub, jI_mul, jI_neg, jI_lt, jI_le, jI_eq, jI_div, dt_ix_j, dt_b1, Int.toNat_natCast, Int.reduceToNat]
        repeat' split
        all_goals first
          | rfl
          | (exfalso; omega)
      unfold fX9_pay
      rw [q, dt_b1, if_pos (Or.inl rfl), dt_put_self]
    · unfold fX10_pay
      rw [q1, dt_b1]
      by_cases za : 0 ≤ a ∧ a ≤ 8
      · rw [if_pos za, i10, q2, dt_b1, if_neg (show ¬ (0 ≤ b ∧ b ≤ 999) by omega), i00]
      · rw [if_neg za, i00]
theorem dt_I_crew {M : dt_M} (h : dt_I M) (C : dt_Ob) (X : dt_Ob) (e0 : ∀ q, q ≠ 8 → q < 180 ∨ 254 ≤ q → X 0 q = M 18 0 q) (eo : ∀ j, j ≠ 0 → X j = M 18 j) (hC : RC C (X 0)) : dt_I (dt_put (dt_put M 4 C) 18 X) := by
  have h' := h
  obtain ⟨n, W, g, ⟨hT, hok, hRT, hD, hV, -, hS⟩, hU, hI, hP, hF, hR⟩ := h
  refine dt_I_of (n := n) (W := W) (g := g) ?_ ?_ h' ?_ ?_
  · show RW (M 1) (M 2) (M 3) C (M 5) (X 0) n W g
    exact ⟨hT, hok, RT_congr hRT hok.1 (fun q hq => e0 q (by omega) (by omega)), RD_congr hD (fun q h1 h2 => e0 q (by omega) (by omega)), RV_congr hV rfl rfl (fun _ _ => rfl) (fun q h1 h2 => e0 q (by omega) (by omega)), hC, RS_congr hS (fun q h1 h2 => e0 q (by omega) (by omega))⟩
  · show RU (M 11) (X 2) (X 3 0) n W g (X 0 4)
    rw [eo 2 (by omega), eo 3 (by omega), e0 4 (by omega) (by omega)]
    exact hU
  · intro k hk
    show (if k = 18 then _ else if k = 4 then _ else M k) = M k
    rw [if_neg (by omega), if_neg (by omega)]
  · intro j hj
    show X j = M 18 j
    exact eo j (by omega)
theorem s_hand : St_hand dt_I := by
  intro M a1 h
  have h' := h
  obtain ⟨n, W, g, ⟨hT, hok, hRT, hD, hV, hC, hS⟩, hU, hI, hP, hF, hR⟩ := h
  obtain ⟨a, rfl, a0, a1⟩ := jI_ex a1
  have same : dt_I (dt_put M 18 (M 18)) := by rw [dt_put_self]; exact h'
  obtain ⟨k, k1, k2, k3, k4, q, k5, k6, k7, k8⟩ := hC
  have q1 : fX10_isIn (jI a) 1 99 = some (if 1 ≤ a ∧ a ≤ 99 then 1 else 0) := fX10_isIn_j a 1 99 (by omega) (by omega) (by omega) (by omega) (by omega) (by omega)
  have x8 : dt_ix (8 : Int32) 1225 = some 8 := rfl
  have k8' : (jI k = (8 : Int32)) = ((k : Int) = 8) := jI_eq k 8 (by omega) (by omega) (by omega) (by omega)
  by_cases z : (1 ≤ a ∧ a ≤ 99) ∧ k < 8
  · obtain ⟨za, zk⟩ := z
    refine ⟨jI k, dt_put M 4 (dt_set (dt_set (M 4) 1 k (jI a)) 0 0 (jI ((k + 1 : Nat) : Int))), dt_set (dt_set (M 18) 0 (180 + k) (jI a)) 0 8 (jI ((k + 1 : Nat) : Int)), ?_, ?_, ?_⟩
    · unfold fX9_hand fX0_add
      simp (disch := omega) only [jI_lit, jI_add, jI_sub, jI_mul, jI_neg, jI_lt, jI_le, jI_eq, jI_div, dt_ix_j, dt_b1, Int.toNat_natCast, Int.reduceToNat, k2]
      rw [if_neg (by omega), if_neg (by omega), if_pos (by omega), dt_b1, show (k : Int) + 1 - 1 = k by omega]
      try rfl
    · show fX10_hand (jI a) (M 18) = _
      unfold fX10_hand
      rw [q1, dt_b1, if_pos za, i10, x8, dt_b1, k3, if_neg (by rw [k8']; omega), dt_b1, k3]
      have x180 : dt_ix ((180 : Int32) + jI k) 1225 = some (180 + k) := by
        rw [show (180 : Int32) = jI 180 from rfl, jI_add, dt_ix_j _ _ (by omega) (by omega) (by omega)] <;> congr 1 <;> omega
      have y8 : (dt_set (M 18) 0 (180 + k) (jI a)) 0 8 = jI k := by rw [dt_set_s, upd_n _ _ _ _ (by omega)]; exact k3
      rw [x180, dt_b1, dt_b1, y8, dt_b1, dt_b1, dt_set_at, show (1 : Int32) = jI 1 from rfl, jI_add, jI_sub, show (k : Int) + 1 - 1 = k by omega]
      try rfl
    · refine dt_I_crew h' _ _ (fun x h1 h2 => ?_) (fun j hj => ?_) ⟨k + 1, by omega, dt_set_at _ _ _ _, dt_set_at _ _ _ _, fun i hi => ?_, q, k5, k6, fun x y hx hy => ?_, fun x hx y => ?_⟩
      · rw [dt_set_s, upd_n _ _ _ _ h1, dt_set_s, upd_n _ _ _ _ (by omega)]
      · rw [dt_set_n _ _ _ _ _ hj, dt_set_n _ _ _ _ _ hj]
      · rw [dt_set_n _ _ _ _ _ (by omega), dt_set_s, dt_set_s, upd_n _ 8 _ _ (by omega), dt_set_s]
        by_cases e : i = k
        · rw [upd_e _ _ _ _ e, upd_e _ _ _ _ (by omega)]
          exact ⟨a, za.1, za.2, rfl, rfl⟩
        · rw [upd_n _ _ _ _ e, upd_n _ _ _ _ (by omega)]
          exact k4 i (by omega)
      · rw [dt_set_s, upd_n _ _ _ _ (by omega), dt_set_s, upd_n _ _ _ _ (by omega)]
        exact k7 x y hx hy
      · rw [dt_set_n _ _ _ _ _ (by omega), dt_set_n _ _ _ _ _ (by omega)]
        exact k8 x hx y
  · refine ⟨-1, M, M 18, ?_, ?_, same⟩
    · have qq : fX0_add (jI a) (M 4) = some (-1, M 4) := by
        unfold fX0_add
        simp (disch := omega) only [jI_lit, jI_add, jI_sub, jI_mul, jI_neg, jI_lt, jI_le, jI_eq, jI_div, dt_ix_j, dt_b1, Int.toNat_natCast, Int.reduceToNat, k2]
        repeat' split
        all_goals first
          | rfl
          | (exfalso; omega)
      unfold fX9_hand
      rw [qq, dt_b1, dt_put_self]
    · unfold fX10_hand
      rw [q1, dt_b1]
      by_cases za : 1 ≤ a ∧ a ≤ 99
      · rw [if_pos za, i10, x8, dt_b1, k3, if_pos (by rw [k8']; omega)]
      · rw [if_neg za, i00]
