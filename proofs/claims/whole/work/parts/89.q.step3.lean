/-! ===== plan: a step of the class's search ===== -/
theorem cl_step {n : Nat} {W : Int} {g : Nat → Nat → Int} (ho : okT n W g) {goal : Int} (hgo : 1 ≤ goal ∧ goal ≤ 20) {N : Nat} (hN : N + 1 ≤ 5) (hno : ∀ p, ¬ IsPlan n W g goal N p) (rc : Int32 → Int32 → dt_Ob → dt_Ob → Option (dt_Ob × dt_Ob)) (pre : List Cry) (hv : VdP n W g pre) (hpl : pre.length ≤ N) (s : Cry) (sb : s.1 < n) (sy : runP n g pre 5 s.1 < 0) (s0 : 0 ≤ s.2) (sW : s.2 + g 0 s.1 ≤ W) (hrc : pre.length < N → okS n W (runP n g pre) s → ∀ (P T : dt_Ob) (B : Bst), CSt n W g goal (N + 1) (pre ++ [s]) P T B → ∃ P' T' B', rc (jI ((pre.length + 1 : Nat) : Int)) (jI (csP n g (pre ++ [s]))) P T = some (P', T') ∧ CSt n W g goal (N + 1) (pre ++ [s]) P' T' B' ∧ RES n W g goal (N + 1) (pre ++ [s]) B B') (P T : dt_Ob) (B : Bst) (hS : CSt n W g goal (N + 1) pre P T B) : ∃ P' T' B', fX3_step rc (jI pre.length) (jI (csP n g pre)) (jI s.1) (jI s.2) P T = some (P', T') ∧ CSt n W g goal (N + 1) pre P' T' B' ∧ RES n W g goal (N + 1) (pre ++ [s]) B B' := by
  have hn := ho.1
  have hW := ho.2.2.1
  have okp := VdP_T pre g ho hv
  have ey := run_y pre g s.1 hv sy
  have rb := okp.2.2.2.1 s.1 sb
  unfold okB at rb
  have e0 := ey 0
  have e4 := ey 4
  have hS' := hS
  obtain ⟨hT, p4, p5, hP, hB, hpls⟩ := hS
  have ib : dt_ix (jI s.1) 20 = some s.1 := dt_ix_n _ _ (by omega) (by omega)
  have t6 : T 6 s.1 = jI (g 4 s.1) := by have := hT.2.2.1 4 (by omega) s.1 sb; rw [e4] at this; exact this
  have lr := okD_la okp.D s.2 (g 0 s.1).toNat
  have lf : fX5_levelFor (jI s.1) (jI s.2) T = some (jI (la n (runP n g pre) s.2 (g 0 s.1).toNat)) := by
    have := fX5_levelFor_j hT okp.D s.1 sb s.2 s0 (by rw [e0]; omega)
    rw [e0] at this; exact this
  have co : fX9_costOf (jI (g 4 s.1)) (jI s.2) (jI (la n (runP n g pre) s.2 (g 0 s.1).toNat)) = some (jI (cs n (runP n g pre) s)) := by
    unfold fX9_costOf cs
    rw [e4, e0, show (10 : Int32) = jI 10 from rfl, jI_sub, jI_sub]
    have l0 : ((0 : Int32) ≤ jI (g 4 s.1 - 10 - s.2)) = (0 ≤ g 4 s.1 - 10 - s.2) := by rw [show (0 : Int32) = jI 0 from rfl]; exact jI_le _ _ (by omega) (by omega) (by omega) (by omega)
    by_cases z : 0 ≤ g 4 s.1 - 10 - s.2
    · rw [if_pos (show (0 : Int32) ≤ jI (g 4 s.1 - 10 - s.2) by rw [l0]; exact z), if_pos z, jI_add]
    · rw [if_neg (show ¬ (0 : Int32) ≤ jI (g 4 s.1 - 10 - s.2) by rw [l0]; exact z), if_neg z, show (0 : Int32) = jI 0 from rfl, jI_sub, jI_add]
      congr 2
      omega
  have csr : 0 ≤ cs n (runP n g pre) s ∧ cs n (runP n g pre) s ≤ 100 := by
    refine ⟨cs_nn _ _ _, ?_⟩
    unfold cs
    rw [e4, e0]
    split <;> omega
  have ec : csP n g (pre ++ [s]) = csP n g pre + cs n (runP n g pre) s := by rw [csP_app]; show _ + (cs n (runP n g pre) s + 0) = _; omega
  have cpl := csP_le pre g ho hv
  have cpn := csP_nn n pre g
  have el : (pre ++ [s]).length = pre.length + 1 := by rw [List.length_append]; rfl
  -- the place in the code after the two easy cuts
  have h74 : ∀ x9 : Int32, (x9 = 1 ∧ pre.length = N ∨ x9 = 0 ∧ pre.length < N) → ∃ P' T' B', fX3_step_74 rc (jI pre.length) (jI s.1) (jI s.2) (jI (g 4 s.1)) (jI (csP n g (pre ++ [s]))) x9 P T = some (P', T') ∧ CSt n W g goal (N + 1) pre P' T' B' ∧ RES n W g goal (N + 1) (pre ++ [s]) B B' := by
    sorry
  have top : fX3_step rc (jI pre.length) (jI (csP n g pre)) (jI s.1) (jI s.2) P T = (if jI pre.length = jI (N : Nat) then (fX3_step_47 rc (jI pre.length) (jI s.1) (jI s.2) (jI (g 4 s.1)) (jI (la n (runP n g pre) s.2 (g 0 s.1).toNat)) (jI (csP n g (pre ++ [s]))) (1 : Int32) P T) else (fX3_step_47 rc (jI pre.length) (jI s.1) (jI s.2) (jI (g 4 s.1)) (jI (la n (runP n g pre) s.2 (g 0 s.1).toNat)) (jI (csP n g (pre ++ [s]))) (0 : Int32) P T)) := by
    unfold fX3_step
    have ep : jI ((N + 1 : Nat) : Int) - (1 : Int32) = jI (N : Nat) := by rw [show (1 : Int32) = jI 1 from rfl, jI_sub]; congr 1; omega
    rw [ib, dt_b1, lf, dt_b1, t6, co, dt_b1, p5, ep, jI_add, ← ec]
  rw [top]
  have elast : (jI pre.length = jI (N : Nat)) = ((pre.length : Int) = N) := jI_eq _ _ (by omega) (by omega) (by omega) (by omega)
  -- dear
  have dear : (∃ q0, B = some q0 ∧ csP n g q0 ≤ csP n g (pre ++ [s]) ∧ P 6 0 ≤ jI (csP n g (pre ++ [s]))) ∨ ¬ P 6 0 ≤ jI (csP n g (pre ++ [s])) := by
    cases hBc : B with
    | none =>
      right
      rw [hB.1 hBc, show (1000000 : Int32) = jI 1000000 from rfl, jI_le _ _ (by omega) (by omega) (by omega) (by omega)]
      omega
    | some q0 =>
      have h6 := (hB.2 q0 hBc).1
      have hq0 := hpls q0 hBc
      have c0 := csP_nn n q0 g
      have c1 := csP_le q0 g ho hq0.1
      have l0 := hq0.2.1
      have le : (P 6 0 ≤ jI (csP n g (pre ++ [s]))) = (csP n g q0 ≤ csP n g (pre ++ [s])) := by rw [h6]; exact jI_le _ _ (by omega) (by omega) (by omega) (by omega)
      by_cases z : csP n g q0 ≤ csP n g (pre ++ [s])
      · exact Or.inl ⟨q0, rfl, z, by rw [le]; exact z⟩
      · exact Or.inr (by rw [le]; exact z)
  rcases dear with ⟨q0, d1, d2, d3⟩ | d
  · refine ⟨P, T, B, ?_, hS', cut_dear pre s B q0 d1 d2⟩
    unfold fX3_step_47
    rw [if_pos d3, if_pos d3]
    split <;> rfl
  · by_cases z : pre.length = N
    · rw [if_pos (by rw [elast]; omega)]
      unfold fX3_step_47
      rw [if_neg d, if_neg n10, p4, show (1 : Int32) = jI 1 from rfl, jI_add]
      have lt : (jI (la n (runP n g pre) s.2 (g 0 s.1).toNat + 1) < jI goal) = (la n (runP n g pre) s.2 (g 0 s.1).toNat + 1 < goal) := jI_lt _ _ (by omega) (by omega) (by omega) (by omega)
      by_cases y : la n (runP n g pre) s.2 (g 0 s.1).toNat + 1 < goal
      · rw [if_pos (show jI (la n (runP n g pre) s.2 (g 0 s.1).toNat + 1) < jI goal by rw [lt]; exact y)]
        exact ⟨P, T, B, rfl, hS', RES_cut _ B (fun p r hp ep => cut_last ho hno pre s z y p r hp ep)⟩
      · rw [if_neg (show ¬ jI (la n (runP n g pre) s.2 (g 0 s.1).toNat + 1) < jI goal by rw [lt]; exact y)]
        exact h74 1 (Or.inl ⟨rfl, z⟩)
    · rw [if_neg (by rw [elast]; omega)]
      unfold fX3_step_47
      rw [if_neg d, if_pos rfl]
      exact h74 0 (Or.inr ⟨rfl, by omega⟩)
