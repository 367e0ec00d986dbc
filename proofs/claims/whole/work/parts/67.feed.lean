/-! ===== operation: feed ===== -/
theorem byte_j (y : Int32) : ∃ v : Int, 0 ≤ v ∧ v ≤ 255 ∧ (y &&& (255 : Int32)) = jI v ∧ (Int32.toInt8 (Int32.toInt8 y).toInt32).toInt32 = jI (if v < 128 then v else v - 256) := by
  have l : y.toBitVec.toNat < 4294967296 := y.toBitVec.isLt
  refine ⟨((y.toBitVec.toNat % 256 : Nat) : Int), by omega, by omega, ?_, ?_⟩
  · refine jN_ext _ _ (by omega) ?_
    rw [Int32.toBitVec_and, BitVec.toNat_and]
    have e : (255 : Int32).toBitVec.toNat = 2 ^ 8 - 1 := by decide +kernel
    rw [e, Nat.and_two_pow_sub_one_eq_mod]
  · apply Int32.toInt_inj.mp
    rw [Int8.toInt_toInt32, Int32.toInt_toInt8, Int8.toInt_toInt32, Int32.toInt_toInt8]
    have t : y.toInt = if 2 * y.toBitVec.toNat < 2 ^ 32 then (y.toBitVec.toNat : Int) else (y.toBitVec.toNat : Int) - ((2 ^ 32 : Nat) : Int) := BitVec.toInt_eq_toNat_cond _
    have t' : y.toInt % 256 = ((y.toBitVec.toNat % 256 : Nat) : Int) := by
      rw [t]
      split <;> omega
    have b : y.toInt.bmod (2 ^ 8) = if ((y.toBitVec.toNat % 256 : Nat) : Int) < 128 then ((y.toBitVec.toNat % 256 : Nat) : Int) else ((y.toBitVec.toNat % 256 : Nat) : Int) - 256 := by
      unfold Int.bmod
      show (if y.toInt % 256 < (256 + 1) / 2 then y.toInt % 256 else y.toInt % 256 - 256) = _
      rw [t']
      by_cases z : ((y.toBitVec.toNat % 256 : Nat) : Int) < 128
      · rw [if_pos z, if_pos (by omega)]
      · rw [if_neg z, if_neg (by omega)]
    rw [b]
    have b2 : ∀ v : Int, -128 ≤ v → v < 128 → v.bmod (2 ^ 8) = v := by
      intro v v0 v1
      unfold Int.bmod
      show (if v % 256 < (256 + 1) / 2 then v % 256 else v % 256 - 256) = _
      split <;> omega
    rw [b2 _ (by split <;> omega) (by split <;> omega), jI_toInt _ (by split <;> omega) (by split <;> omega)]
def byS (x : Int32) (r : Nat) : Int32 := x >>> (jI (24 - 8 * (r : Int)) &&& 31)
theorem fX9_punch_j3 (x : Int32) (t : Nat) (ht : t + 4 ≤ 400) : ∀ (d fuel r : Nat) (M : dt_M), r + d = 4 → d < fuel → M 0 5 0 = jI ((t + r : Nat) : Int) → ∃ M', fX9_punch_3 fuel x (jI (24 - 8 * (r : Int))) M = some M' ∧ (∀ k, k ≠ 0 → M' k = M k) ∧ (∀ j, j ≠ 4 → j ≠ 5 → M' 0 j = M 0 j) ∧ M' 0 5 0 = jI ((t + 4 : Nat) : Int) ∧ ∀ i, M' 0 4 i = if t + r ≤ i ∧ i < t + 4 then (Int32.toInt8 (Int32.toInt8 (byS x (i - t))).toInt32).toInt32 else M 0 4 i := by
  intro d
  induction d with
  | zero =>
    intro fuel r M hd hf e5
    obtain ⟨f, rfl⟩ : ∃ f, fuel = f + 1 := ⟨fuel - 1, by omega⟩
    refine ⟨M, ?_, fun _ _ => rfl, fun _ _ _ => rfl, by rw [e5, show t + r = t + 4 by omega], fun i => by rw [if_neg (by omega)]⟩
    unfold fX9_punch_3
    rw [if_pos (by rw [show (0 : Int32) = jI 0 from rfl, jI_lt _ _ (by omega) (by omega) (by omega) (by omega)]; omega)]
  | succ d ih =>
    intro fuel r M hd hf e5
    obtain ⟨f, rfl⟩ : ∃ f, fuel = f + 1 := ⟨fuel - 1, by omega⟩
    obtain ⟨M', a1, a2, a3, a4, a5⟩ := ih f (r + 1) (dt_sM (dt_sM M 0 4 (t + r) ((Int32.toInt8 (Int32.toInt8 (byS x r)).toInt32).toInt32)) 0 5 0 (jI ((t + (r + 1) : Nat) : Int))) (by omega) (by omega) rfl
    refine ⟨M', ?_, fun k hk => by rw [a2 k hk]; unfold dt_sM; rw [dt_put_ne _ _ _ _ hk, dt_put_ne _ _ _ _ hk], fun j h4 h5 => ?_, a4, fun i => ?_⟩
    · unfold fX9_punch_3 fX9_punch_42
      rw [if_neg (by rw [show (0 : Int32) = jI 0 from rfl, jI_lt _ _ (by omega) (by omega) (by omega) (by omega)]; omega), e5, if_neg (by rw [show (400 : Int32) = jI 400 from rfl, jI_le _ _ (by omega) (by omega) (by omega) (by omega)]; omega), dt_ix_n (t + r) 400 (by omega) (by omega), dt_b1, show (-8 : Int32) = jI (-8) from rfl, jI_add, show (24 - 8 * (r : Int) + -8) = 24 - 8 * ((r + 1 : Nat) : Int) by omega, show (1 : Int32) = jI 1 from rfl, jI_add, show (((t + r : Nat) : Int) + 1) = ((t + (r + 1) : Nat) : Int) by omega]
      exact a1
    · rw [a3 j h4 h5]
      show dt_set (dt_set (M 0) 4 _ _) 5 0 _ j = M 0 j
      rw [dt_set_n _ _ _ _ _ h5, dt_set_n _ _ _ _ _ h4]
    · rw [a5 i]
      have e : (dt_sM (dt_sM M 0 4 (t + r) ((Int32.toInt8 (Int32.toInt8 (byS x r)).toInt32).toInt32)) 0 5 0 (jI ((t + (r + 1) : Nat) : Int))) 0 4 i = if i = t + r then (Int32.toInt8 (Int32.toInt8 (byS x r)).toInt32).toInt32 else M 0 4 i := by
        show dt_set (dt_set (M 0) 4 (t + r) ((Int32.toInt8 (Int32.toInt8 (byS x r)).toInt32).toInt32)) 5 0 (jI ((t + (r + 1) : Nat) : Int)) 4 i = _
        rw [dt_set_n _ _ _ _ _ (by omega), dt_set_s]
        rfl
      rw [e]
      by_cases z : i = t + r
      · rw [if_neg (by omega), if_pos z, if_pos (by omega), z, show t + r - t = r by omega]
      · by_cases y : t + (r + 1) ≤ i ∧ i < t + 4
        · rw [if_pos y, if_pos (by omega)]
        · rw [if_neg y, if_neg z, if_neg (by omega)]
theorem fX9_punch_j (x : Int32) (t : Nat) (ht : t + 4 ≤ 400) (M : dt_M) (e5 : M 0 5 0 = jI t) : ∃ M', fX9_punch x M = some M' ∧ (∀ k, k ≠ 0 → M' k = M k) ∧ (∀ j, j ≠ 4 → j ≠ 5 → M' 0 j = M 0 j) ∧ M' 0 5 0 = jI ((t + 4 : Nat) : Int) ∧ ∀ i, M' 0 4 i = if t ≤ i ∧ i < t + 4 then (Int32.toInt8 (Int32.toInt8 (byS x (i - t))).toInt32).toInt32 else M 0 4 i := fX9_punch_j3 x t ht 4 dt_F 0 M (by omega) (by unfold dt_F; omega) e5
/-- which of five numbers -/
def pk5 (x1 x2 x3 x4 x5 : Int32) (k : Nat) : Int32 := if k < 4 then x1 else if k < 8 then x2 else if k < 12 then x3 else if k < 16 then x4 else x5
theorem fX10_feed_j18 (x1 x2 x3 x4 x5 : Int32) (t : Nat) (ht : t + 20 ≤ 400) : ∀ (d fuel k : Nat) (T : dt_Ob), k + d = 20 → d < fuel → T 18 0 = jI ((t + k : Nat) : Int) → ∃ T', fX10_feed_18 fuel x1 x2 x3 x4 x5 (jI k) T = some (jI ((t + 20 : Nat) : Int), T') ∧ (∀ j, j ≠ 13 → j ≠ 18 → T' j = T j) ∧ T' 18 0 = jI ((t + 20 : Nat) : Int) ∧ ∀ i, T' 13 i = if t + k ≤ i ∧ i < t + 20 then (byS (pk5 x1 x2 x3 x4 x5 (i - t)) ((i - t) % 4)) &&& (255 : Int32) else T 13 i := by
  intro d
  induction d with
  | zero =>
    intro fuel k T hd hf e18
    obtain ⟨f, rfl⟩ : ∃ f, fuel = f + 1 := ⟨fuel - 1, by omega⟩
    refine ⟨T, ?_, fun _ _ _ => rfl, by rw [e18, show t + k = t + 20 by omega], fun i => by rw [if_neg (by omega)]⟩
    unfold fX10_feed_18
    rw [if_pos (by rw [show (20 : Int32) = jI 20 from rfl, jI_le _ _ (by omega) (by omega) (by omega) (by omega)]; omega), e18, show t + k = t + 20 by omega]
  | succ d ih =>
    intro fuel k T hd hf e18
    obtain ⟨f, rfl⟩ : ∃ f, fuel = f + 1 := ⟨fuel - 1, by omega⟩
    obtain ⟨T', a1, a2, a3, a4⟩ := ih f (k + 1) (dt_set (dt_set T 13 (t + k) ((byS (pk5 x1 x2 x3 x4 x5 k) (k % 4)) &&& (255 : Int32))) 18 0 (jI ((t + (k + 1) : Nat) : Int))) (by omega) (by omega) (dt_set_at _ _ _ _)
    have l4 : ((4 : Int32) ≤ jI k) = ((4 : Int) ≤ k) := jI_le 4 k (by omega) (by omega) (by omega) (by omega)
    have l8 : ((8 : Int32) ≤ jI k) = ((8 : Int) ≤ k) := jI_le 8 k (by omega) (by omega) (by omega) (by omega)
    have l12 : ((12 : Int32) ≤ jI k) = ((12 : Int) ≤ k) := jI_le 12 k (by omega) (by omega) (by omega) (by omega)
    have l16 : ((16 : Int32) ≤ jI k) = ((16 : Int) ≤ k) := jI_le 16 k (by omega) (by omega) (by omega) (by omega)
    have sh : ((24 : Int32) - ((8 : Int32) * (jI k - jI k / (4 : Int32) * (4 : Int32)))) = jI (24 - 8 * ((k % 4 : Nat) : Int)) := by
      simp (disch := omega) only [jI_lit, jI_add, jI_sub, jI_mul, jI_neg, jI_lt, jI_le, jI_eq, jI_div, dt_ix_j, dt_b1, Int.toNat_natCast]
      congr 1
      omega
    have st : ∀ s0 : Int32, s0 = pk5 x1 x2 x3 x4 x5 k → fX10_feed_71 (fX10_feed_18 f) x1 x2 x3 x4 x5 (jI k) s0 T = some (jI ((t + 20 : Nat) : Int), T') := by
      intro s0 hs
      unfold fX10_feed_71
      rw [e18, dt_ix_n (t + k) 400 (by omega) (by omega), dt_b1, sh, show (1 : Int32) = jI 1 from rfl, jI_add, jI_add, show ((k : Int) + 1) = ((k + 1 : Nat) : Int) by omega, show (((t + k : Nat) : Int) + 1) = ((t + (k + 1) : Nat) : Int) by omega, hs]
      exact a1
    refine ⟨T', ?_, fun j h13 h18 => by rw [a2 j h13 h18, dt_set_n _ _ _ _ _ h18, dt_set_n _ _ _ _ _ h13], a3, fun i => ?_⟩
    · unfold fX10_feed_18
      rw [if_neg (by rw [show (20 : Int32) = jI 20 from rfl, jI_le _ _ (by omega) (by omega) (by omega) (by omega)]; omega)]
      unfold pk5 at st
      by_cases z4 : (4 : Int) ≤ k
      · rw [if_pos (by rw [l4]; exact z4)]
        by_cases z8 : (8 : Int) ≤ k
        · rw [if_pos (by rw [l8]; exact z8)]
          by_cases z12 : (12 : Int) ≤ k
          · rw [if_pos (by rw [l12]; exact z12)]
            by_cases z16 : (16 : Int) ≤ k
            · rw [if_pos (by rw [l16]; exact z16)]
              exact st x5 (by rw [if_neg (by omega), if_neg (by omega), if_neg (by omega), if_neg (by omega)])
            · rw [if_neg (by rw [l16]; exact z16)]
              exact st x4 (by rw [if_neg (by omega), if_neg (by omega), if_neg (by omega), if_pos (by omega)])
          · rw [if_neg (by rw [l12]; exact z12)]
            exact st x3 (by rw [if_neg (by omega), if_neg (by omega), if_pos (by omega)])
        · rw [if_neg (by rw [l8]; exact z8)]
          exact st x2 (by rw [if_neg (by omega), if_pos (by omega)])
      · rw [if_neg (by rw [l4]; exact z4)]
        exact st x1 (by rw [if_pos (by omega)])
    · rw [a4 i, dt_set_n _ _ _ _ _ (by omega), dt_set_s]
      by_cases z : i = t + k
      · rw [if_neg (by omega), upd_e _ _ _ _ z, if_pos (by omega), z, show t + k - t = k by omega]
      · rw [upd_n _ _ _ _ z]
        by_cases y : t + (k + 1) ≤ i ∧ i < t + 20
        · rw [if_pos y, if_pos (by omega)]
        · rw [if_neg y, if_neg (by omega)]
theorem s_feed : St_feed dt_I := by
  intro M x1 x2 x3 x4 x5 h
  have h' := h
  obtain ⟨n, W, g, ⟨hT, hok, hRT, hD, hV, hC, hS⟩, hU, hI, hP, hF, hR⟩ := h
  have same : dt_I (dt_put M 18 (M 18)) := by rw [dt_put_self]; exact h'
  obtain ⟨t, p1, p2, p3, p4⟩ := hP
  have le : (jI t + (20 : Int32) ≤ (400 : Int32)) = ((t : Int) + 20 ≤ 400) := by
    rw [show (20 : Int32) = jI 20 from rfl, jI_add]
    exact jI_le _ 400 (by omega) (by omega) (by omega) (by omega)
  by_cases z : (t : Int) + 20 ≤ 400
  · obtain ⟨M1, a1, a2, a3, a4, a5⟩ := fX9_punch_j x1 t (by omega) M p2
    obtain ⟨M2, b1, b2, b3, b4, b5⟩ := fX9_punch_j x2 (t + 4) (by omega) M1 a4
    obtain ⟨M3, c1, c2, c3, c4, c5⟩ := fX9_punch_j x3 (t + 4 + 4) (by omega) M2 b4
    obtain ⟨M4, d1, d2, d3, d4, d5⟩ := fX9_punch_j x4 (t + 4 + 4 + 4) (by omega) M3 c4
    obtain ⟨M5, e1, e2, e3, e4, e5⟩ := fX9_punch_j x5 (t + 4 + 4 + 4 + 4) (by omega) M4 d4
    obtain ⟨X, v1, v2, v3, v4⟩ := fX10_feed_j18 x1 x2 x3 x4 x5 t (by omega) 20 dt_F 0 (M 18) (by omega) (by unfold dt_F; omega) p3
    have ek : ∀ k, k ≠ 0 → M5 k = M k := fun k hk => by rw [e2 k hk, d2 k hk, c2 k hk, b2 k hk, a2 k hk]
    have ej : ∀ j, j ≠ 4 → j ≠ 5 → M5 0 j = M 0 j := fun j h4 h5 => by rw [e3 j h4 h5, d3 j h4 h5, c3 j h4 h5, b3 j h4 h5, a3 j h4 h5]
    refine ⟨jI ((t + 20 : Nat) : Int), M5, X, ?_, ?_, ?_⟩
    · unfold fX9_feed
      rw [p2, if_pos (by rw [le]; exact z), a1, dt_b1, b1, dt_b1, c1, dt_b1, d1, dt_b1, e1, dt_b1, e4]
    · rw [ek 18 (by omega)]
      unfold fX10_feed
      rw [p3, if_pos (by rw [le]; exact z)]
      exact v1
    · have n18 : ∀ k, k ≠ 18 → (dt_put M5 18 X) k = M5 k := fun k hk => dt_put_ne _ _ _ _ hk
      refine ⟨n, W, g, ?_, ?_, ?_, ?_, ?_, ?_⟩
      · rw [n18 1 (by omega), n18 2 (by omega), n18 3 (by omega), n18 4 (by omega), n18 5 (by omega), dt_put_s, ek 1 (by omega), ek 2 (by omega), ek 3 (by omega), ek 4 (by omega), ek 5 (by omega), v2 0 (by omega) (by omega)]
        exact ⟨hT, hok, hRT, hD, hV, hC, hS⟩
      · rw [n18 11 (by omega), dt_put_s, ek 11 (by omega), v2 0 (by omega) (by omega), v2 2 (by omega) (by omega), v2 3 (by omega) (by omega)]
        exact hU
      · rw [n18 0 (by omega), n18 6 (by omega), n18 7 (by omega), n18 8 (by omega), n18 9 (by omega), n18 10 (by omega), dt_put_s, ej 2 (by omega) (by omega), ek 6 (by omega), ek 7 (by omega), ek 8 (by omega), ek 9 (by omega), ek 10 (by omega), v2 6 (by omega) (by omega), v2 1 (by omega) (by omega)]
        exact hI
      · rw [n18 0 (by omega), dt_put_s]
        refine ⟨t + 20, by omega, e4, v3, fun i hi => ?_⟩
        by_cases lo : i < t
        · have q := p4 i lo
          rw [v4 i, if_neg (by omega), e5 i, if_neg (by omega), d5 i, if_neg (by omega), c5 i, if_neg (by omega), b5 i, if_neg (by omega), a5 i, if_neg (by omega)]
          exact q
        · have main : ∀ (x : Int32) (r : Nat), x = pk5 x1 x2 x3 x4 x5 (i - t) → r = (i - t) % 4 → M5 0 4 i = (Int32.toInt8 (Int32.toInt8 (byS x r)).toInt32).toInt32 → ∃ v : Int, 0 ≤ v ∧ v ≤ 255 ∧ X 13 i = jI v ∧ M5 0 4 i = jI (if v < 128 then v else v - 256) := by
            intro x r hx hr hm
            obtain ⟨v, w1, w2, w3, w4⟩ := byte_j (byS x r)
            refine ⟨v, w1, w2, ?_, ?_⟩
            · rw [v4 i, if_pos (by omega), ← hx, ← hr]; exact w3
            · rw [hm]; exact w4
          unfold pk5 at main
          by_cases z5 : t + 16 ≤ i
          · exact main x5 (i - (t + 4 + 4 + 4 + 4)) (by rw [if_neg (by omega), if_neg (by omega), if_neg (by omega), if_neg (by omega)]) (by omega) (by rw [e5 i, if_pos (by omega)])
          · by_cases z4 : t + 12 ≤ i
            · exact main x4 (i - (t + 4 + 4 + 4)) (by rw [if_neg (by omega), if_neg (by omega), if_neg (by omega), if_pos (by omega)]) (by omega) (by rw [e5 i, if_neg (by omega), d5 i, if_pos (by omega)])
            · by_cases z3 : t + 8 ≤ i
              · exact main x3 (i - (t + 4 + 4)) (by rw [if_neg (by omega), if_neg (by omega), if_pos (by omega)]) (by omega) (by rw [e5 i, if_neg (by omega), d5 i, if_neg (by omega), c5 i, if_pos (by omega)])
              · by_cases z2 : t + 4 ≤ i
                · exact main x2 (i - (t + 4)) (by rw [if_neg (by omega), if_pos (by omega)]) (by omega) (by rw [e5 i, if_neg (by omega), d5 i, if_neg (by omega), c5 i, if_neg (by omega), b5 i, if_pos (by omega)])
                · exact main x1 (i - t) (by rw [if_pos (by omega)]) (by omega) (by rw [e5 i, if_neg (by omega), d5 i, if_neg (by omega), c5 i, if_neg (by omega), b5 i, if_neg (by omega), a5 i, if_pos (by omega)])
      · rw [n18 12 (by omega), dt_put_s, ek 12 (by omega), v2 25 (by omega) (by omega), v2 27 (by omega) (by omega)]; exact hF
      · rw [n18 0 (by omega), dt_put_s, ej 7 (by omega) (by omega), ej 8 (by omega) (by omega), v2 4 (by omega) (by omega), v2 5 (by omega) (by omega)]; exact hR
  · refine ⟨-1, M, M 18, ?_, ?_, same⟩
    · unfold fX9_feed
      rw [p2, if_neg (by rw [le]; exact z)]
    · unfold fX10_feed
      rw [p3, if_neg (by rw [le]; exact z)]
