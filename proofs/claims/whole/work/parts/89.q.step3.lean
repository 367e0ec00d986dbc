/-! ===== plan: a step of the class's search ===== -/
theorem cl_step {n : Nat} {W : Int} {g : Nat → Nat → Int} (ho : okT n W g) {goal : Int} (hgo : 1 ≤ goal ∧ goal ≤ 20) {N : Nat} (hN : N + 1 ≤ 5) (hno : ∀ p, ¬ IsPlan n W g goal N p) (rc : Int32 → Int32 → dt_Ob → dt_Ob → Option (dt_Ob × dt_Ob)) (pre : List Cry) (hv : VdP n W g pre) (hpl : pre.length ≤ N) (s : Cry) (sb : s.1 < n) (sy : runP n g pre 5 s.1 < 0) (s0 : 0 ≤ s.2) (sW : s.2 + g 0 s.1 ≤ W) (hrc : pre.length < N → okS n W (runP n g pre) s → ∀ (P T : dt_Ob) (B : Bst), CSt n W g goal (N + 1) (pre ++ [s]) P T B → ∃ P' T' B', rc (jI ((pre.length + 1 : Nat) : Int)) (jI (csP n g (pre ++ [s]))) P T = some (P', T') ∧ CSt n W g goal (N + 1) (pre ++ [s]) P' T' B' ∧ RES n W g goal (N + 1) (pre ++ [s]) B B') (P T : dt_Ob) (B : Bst) (hS : CSt n W g goal (N + 1) pre P T B) : ∃ P' T' B', fX3_step rc (jI pre.length) (jI (csP n g pre)) (jI s.1) (jI s.2) P T = some (P', T') ∧ CSt n W g goal (N + 1) pre P' T' B' ∧ RES n W g goal (N + 1) (pre ++ [s]) B B' := by
  have hn := ho.1
  have hW := ho.2.2.1
  have okp := VdP_T pre g ho hv
  have ey := run_y pre g s.1 hv sy
  have rb := okp.2.2.2.1 s.1 sb
  unfold okB at rb
  have e0 := ey 0
  have e4 := ey 4
  have hS' := hS
  obtain ⟨hT, p4, p5, hP, hB, hpls⟩ := hS
  have ib : dt_ix (jI s.1) 20 = some s.1 := dt_ix_n _ _ (by omega) (by omega)
  have t6 : T 6 s.1 = jI (g 4 s.1) := by have := hT.2.2.1 4 (by omega) s.1 sb; rw [e4] at this; exact this
  have lr := okD_la okp.D s.2 (g 0 s.1).toNat
  have lf : fX5_levelFor (jI s.1) (jI s.2) T = some (jI (la n (runP n g pre) s.2 (g 0 s.1).toNat)) := by
    have := fX5_levelFor_j hT okp.D s.1 sb s.2 s0 (by rw [e0]; omega)
    rw [e0] at this; exact this
  have co : fX9_costOf (jI (g 4 s.1)) (jI s.2) (jI (la n (runP n g pre) s.2 (g 0 s.1).toNat)) = some (jI (cs n (runP n g pre) s)) := by
    unfold fX9_costOf cs
    rw [e4, e0, show (10 : Int32) = jI 10 from rfl, jI_sub, jI_sub]
    have l0 : ((0 : Int32) ≤ jI (g 4 s.1 - 10 - s.2)) = (0 ≤ g 4 s.1 - 10 - s.2) := by rw [show (0 : Int32) = jI 0 from rfl]; exact jI_le _ _ (by omega) (by omega) (by omega) (by omega)
    by_cases z : 0 ≤ g 4 s.1 - 10 - s.2
    · rw [if_pos (show (0 : Int32) ≤ jI (g 4 s.1 - 10 - s.2) by rw [l0]; exact z), if_pos z, jI_add]
    · rw [if_neg (show ¬ (0 : Int32) ≤ jI (g 4 s.1 - 10 - s.2) by rw [l0]; exact z), if_neg z, show (0 : Int32) = jI 0 from rfl, jI_sub, jI_add]
      congr 2
      omega
  have csr : 0 ≤ cs n (runP n g pre) s ∧ cs n (runP n g pre) s ≤ 100 := by
    refine ⟨cs_nn _ _ _, ?_⟩
    unfold cs
    rw [e4, e0]
    split <;> omega
  have ec : csP n g (pre ++ [s]) = csP n g pre + cs n (runP n g pre) s := by rw [csP_app]; show _ + (cs n (runP n g pre) s + 0) = _; omega
  have cpl := csP_le pre g ho hv
  have cpn := csP_nn n pre g
  have el : (pre ++ [s]).length = pre.length + 1 := by rw [List.length_append]; rfl
  have top : fX3_step rc (jI pre.length) (jI (csP n g pre)) (jI s.1) (jI s.2) P T = (if jI pre.length = jI (N : Nat) then (fX3_step_47 rc (jI pre.length) (jI s.1) (jI s.2) (jI (g 4 s.1)) (jI (la n (runP n g pre) s.2 (g 0 s.1).toNat)) (jI (csP n g (pre ++ [s]))) (1 : Int32) P T) else (fX3_step_47 rc (jI pre.length) (jI s.1) (jI s.2) (jI (g 4 s.1)) (jI (la n (runP n g pre) s.2 (g 0 s.1).toNat)) (jI (csP n g (pre ++ [s]))) (0 : Int32) P T)) := by
    unfold fX3_step
    have ep : jI ((N + 1 : Nat) : Int) - (1 : Int32) = jI (N : Nat) := by rw [show (1 : Int32) = jI 1 from rfl, jI_sub]; congr 1; omega
    rw [ib, dt_b1, lf, dt_b1, t6, co, dt_b1, p5, ep, jI_add, ← ec]
  rw [top]
  have elast : (jI pre.length = jI (N : Nat)) = ((pre.length : Int) = N) := jI_eq _ _ (by omega) (by omega) (by omega) (by omega)
  -- dear
  have dear : (∃ q0, B = some q0 ∧ csP n g q0 ≤ csP n g (pre ++ [s]) ∧ P 6 0 ≤ jI (csP n g (pre ++ [s]))) ∨ ¬ P 6 0 ≤ jI (csP n g (pre ++ [s])) := by
    cases hBc : B with
    | none =>
      right
      rw [hB.1 hBc, show (1000000 : Int32) = jI 1000000 from rfl, jI_le _ _ (by omega) (by omega) (by omega) (by omega)]
      omega
    | some q0 =>
      have h6 := (hB.2 q0 hBc).1
      have hq0 := hpls q0 hBc
      have c0 := csP_nn n q0 g
      have c1 := csP_le q0 g ho hq0.1
      have l0 := hq0.2.1
      have le : (P 6 0 ≤ jI (csP n g (pre ++ [s]))) = (csP n g q0 ≤ csP n g (pre ++ [s])) := by rw [h6]; exact jI_le _ _ (by omega) (by omega) (by omega) (by omega)
      by_cases z : csP n g q0 ≤ csP n g (pre ++ [s])
      · exact Or.inl ⟨q0, rfl, z, by rw [le]; exact z⟩
      · exact Or.inr (by rw [le]; exact z)
  rcases dear with ⟨q0, d1, d2, d3⟩ | d
  · refine ⟨P, T, B, ?_, hS', cut_dear pre s B q0 d1 d2⟩
    unfold fX3_step_47
    rw [if_pos d3, if_pos d3]
    split <;> rfl
  · have hbet : bet n g (pre ++ [s]) B := by
      intro q' hq'
      have h6 := (hB.2 q' hq').1
      have hq0 := hpls q' hq'
      have c0 := csP_nn n q' g
      have c1 := csP_le q' g ho hq0.1
      have l0 := hq0.2.1
      rw [h6, jI_le _ _ (by omega) (by omega) (by omega) (by omega)] at d
      omega
    have h74 : ∀ x9 : Int32, (x9 = 1 ∧ pre.length = N ∧ goal ≤ la n (runP n g pre) s.2 (g 0 s.1).toNat + 1 ∨ x9 = 0 ∧ pre.length < N) → ∃ P' T' B', fX3_step_74 rc (jI pre.length) (jI s.1) (jI s.2) (jI (g 4 s.1)) (jI (csP n g (pre ++ [s]))) x9 P T = some (P', T') ∧ CSt n W g goal (N + 1) pre P' T' B' ∧ RES n W g goal (N + 1) (pre ++ [s]) B B' := by
      intro x9 hx
      obtain ⟨v, v1, v2⟩ := cl_late ho pre hv (by omega) hP (fun x hx => by have := hT.2.2.1 0 (by omega) x hx; rw [run_0 x pre g 0 (by omega)] at this; exact this) s.1 sb s.2 s0 sW dt_F pre.length pre [] (by rw [List.append_nil]) rfl (by unfold dt_F; omega) (fun u hu => by cases hu)
      have v1' : fX3_cameLate (jI pre.length) (jI s.1) (jI s.2) P T = some v := by
        unfold fX3_cameLate
        rw [show (1 : Int32) = jI 1 from rfl, jI_sub]; exact v1
      unfold fX3_step_74
      rw [v1', dt_b1]
      by_cases zv : v = 0
      · rw [if_pos zv]
        obtain ⟨T1, r1, r2, _⟩ := fX5_raise_j hT okp s.1 sb s.2 s0 (by rw [e0]; exact sW) sy
        rw [r1, dt_b1]
        have rr : rsn n (runP n g pre) s.1 s.2 = 0 ∨ rsn n (runP n g pre) s.1 s.2 = 2 ∨ rsn n (runP n g pre) s.1 s.2 = 3 := by
          unfold rsn
          split
          · split
            · exact Or.inl rfl
            · exact Or.inr (Or.inr rfl)
          · exact Or.inr (Or.inl rfl)
        have er : (jI (rsn n (runP n g pre) s.1 s.2) = (0 : Int32)) = (rsn n (runP n g pre) s.1 s.2 = 0) := by rw [show (0 : Int32) = jI 0 from rfl]; exact jI_eq _ _ (by omega) (by omega) (by omega) (by omega)
        dsimp only
        by_cases zr : rsn n (runP n g pre) s.1 s.2 = 0
        · rw [if_pos (show jI (rsn n (runP n g pre) s.1 s.2) = (0 : Int32) by rw [er]; exact zr)]
          rw [if_pos zr] at r2
          have oks : okS n W (runP n g pre) s := ⟨sb, sy, s0, by rw [e0]; exact sW, zr⟩
          have hv' : VdP n W g (pre ++ [s]) := (VdP_app n W pre [s] g).mpr ⟨hv, oks, trivial⟩
          have er' : runP n g (pre ++ [s]) = gD n (runP n g pre) s.1 s.2 := by rw [runP_app]; rfl
          have okq := okS_T okp oks
          have ixl : dt_ix (jI pre.length) 5 = some pre.length := dt_ix_n _ _ (by omega) (by omega)
          have hP1 : ∃ P1, P1 = dt_set (dt_set P 0 pre.length (jI s.1)) 1 pre.length (jI s.2) := ⟨_, rfl⟩
          obtain ⟨P1, eP1⟩ := hP1
          have oP1 : ∀ j, j ≠ 0 → j ≠ 1 → P1 j = P j := fun j a b => by rw [eP1, dt_set_n _ _ _ _ _ b, dt_set_n _ _ _ _ _ a]
          have cP1 : CPr P1 (pre ++ [s]) := by rw [eP1]; exact CPr_add hP s
          have cB1 : CBt P1 n g B := by unfold CBt; rw [oP1 2 (by omega) (by omega), oP1 3 (by omega) (by omega), oP1 6 (by omega) (by omega)]; exact hB
          have cs1 : CSt n W g goal (N + 1) (pre ++ [s]) P1 T1 B := ⟨by rw [er']; exact r2, by rw [oP1 4 (by omega) (by omega)]; exact p4, by rw [oP1 5 (by omega) (by omega)]; exact p5, cP1, cB1, hpls⟩
          -- taken back
          have back : ∀ (P2 T2 : dt_Ob) (B2 : Bst), CSt n W g goal (N + 1) (pre ++ [s]) P2 T2 B2 → ∃ T3, fX3_step_151 rc (jI s.1) (jI (g 4 s.1)) P2 T2 = some (P2, T3) ∧ CSt n W g goal (N + 1) pre P2 T3 B2 := by
            intro P2 T2 B2 h2
            have h2T := h2.1
            rw [er'] at h2T
            obtain ⟨T3, l1, l2, _⟩ := fX5_lift_j h2T okq.D s.1 sb (by rw [gD_5]; exact s0) (g 4 s.1) (by omega)
            have gb : gP (gD n (runP n g pre) s.1 s.2) s.1 (g 4 s.1) (-1) (-1) = runP n g pre := by
              have := gP_back (g := runP n g pre) (b := s.1) (-1) s.2 (la n (runP n g pre) s.2 (runP n g pre 0 s.1).toNat) (by omega) (by omega)
              rw [e4] at this
              exact this
            rw [gb] at l2
            refine ⟨T3, ?_, l2, h2.2.1, h2.2.2.1, CPr_sub h2.2.2.2.1, h2.2.2.2.2⟩
            unfold fX3_step_151
            rw [l1, dt_b1]
          rw [ixl, dt_b1, dt_b1, ← eP1]
          rcases hx with ⟨x1, x2, x3⟩ | ⟨x1, x2⟩
          · subst x1
            rw [if_neg n10]
            obtain ⟨P2, k1, k2, k3⟩ := cl_keep n g P1 T1 (pre ++ [s]) (by omega) cP1
            rw [k1, dt_b1]
            have tpd := tp_drop okp oks
            have reach : goal ≤ tp (runP n g (pre ++ [s])) n := by rw [er', tpd, e0]; omega
            have isp : IsPlan n W g goal (N + 1) (pre ++ [s]) := ⟨hv', by omega, reach⟩
            have cs2 : CSt n W g goal (N + 1) (pre ++ [s]) P2 T1 (some (pre ++ [s])) := ⟨by rw [er']; exact r2, by rw [k2 4 (by omega) (by omega) (by omega), oP1 4 (by omega) (by omega)]; exact p4, by rw [k2 5 (by omega) (by omega) (by omega), oP1 5 (by omega) (by omega)]; exact p5, fun i t ht => by rw [k2 0 (by omega) (by omega) (by omega), k2 1 (by omega) (by omega) (by omega)]; exact cP1 i t ht, k3, fun q hq => by rw [← Option.some.inj hq]; exact isp⟩
            obtain ⟨T3, b1, b2⟩ := back P2 T1 _ cs2
            exact ⟨P2, T3, some (pre ++ [s]), b1, b2, RES_leaf _ (by omega) hv' B _ (fun _ _ => rfl) (fun q => absurd ⟨reach, hbet⟩ q)⟩
          · subst x1
            rw [if_pos rfl]
            have nl : jI pre.length + (1 : Int32) = jI ((pre.length + 1 : Nat) : Int) := by rw [show (1 : Int32) = jI 1 from rfl, jI_add]; rfl
            obtain ⟨u, u1, u2⟩ := cl_hopeful cs1.1 (by rw [er']; exact okq.D) (pre ++ [s]) (N + 1) (by omega) hN goal hgo cs1.2.1 cs1.2.2.1 cP1 (fun t ht => VdP_in (pre ++ [s]) g hv' t ht)
            rw [el] at u1
            rw [nl, u1, dt_b1]
            by_cases zu : u = 0
            · rw [if_pos zu]
              obtain ⟨T3, b1, b2⟩ := back P1 T1 B cs1
              exact ⟨P1, T3, B, b1, b2, RES_cut _ B (fun p r hp ep => cut_hope ho hno (pre ++ [s]) hv' (u2 zu) p r hp ep)⟩
            · rw [if_neg zu]
              obtain ⟨P2, T2, B2, w1, w2, w3⟩ := hrc x2 oks P1 T1 B cs1
              rw [w1, dt_b1]
              obtain ⟨T3, b1, b2⟩ := back P2 T2 B2 w2
              exact ⟨P2, T3, B2, b1, b2, w3⟩
        · rw [if_neg (show ¬ jI (rsn n (runP n g pre) s.1 s.2) = (0 : Int32) by rw [er]; exact zr)]
          rw [if_neg zr] at r2
          refine ⟨P, T1, B, rfl, ⟨r2, p4, p5, hP, hB, hpls⟩, RES_cut _ B (fun p r hp ep => ?_)⟩
          have hq := hp.1
          rw [ep, List.append_assoc] at hq
          exact zr ((VdP_app n W pre _ g).mp hq.1).2.1.2.2.2.2
      · rw [if_neg zv]
        obtain ⟨q1, t, q2, a1, a2, a3⟩ := v2 zv
        exact ⟨P, T, B, rfl, hS', RES_cut _ B (fun p r hp ep => cut_late ho pre s q1 q2 t a1 a2 a3 p r hp ep)⟩
    by_cases z : pre.length = N
    · rw [if_pos (by rw [elast]; omega)]
      unfold fX3_step_47
      rw [if_neg d, if_neg n10, p4, show (1 : Int32) = jI 1 from rfl, jI_add]
      have lt : (jI (la n (runP n g pre) s.2 (g 0 s.1).toNat + 1) < jI goal) = (la n (runP n g pre) s.2 (g 0 s.1).toNat + 1 < goal) := jI_lt _ _ (by omega) (by omega) (by omega) (by omega)
      by_cases y : la n (runP n g pre) s.2 (g 0 s.1).toNat + 1 < goal
      · rw [if_pos (show jI (la n (runP n g pre) s.2 (g 0 s.1).toNat + 1) < jI goal by rw [lt]; exact y)]
        exact ⟨P, T, B, rfl, hS', RES_cut _ B (fun p r hp ep => cut_last ho hno pre s z y p r hp ep)⟩
      · rw [if_neg (show ¬ jI (la n (runP n g pre) s.2 (g 0 s.1).toNat + 1) < jI goal by rw [lt]; exact y)]
        exact h74 1 (Or.inl ⟨rfl, z, by omega⟩)
    · rw [if_neg (by rw [elast]; omega)]
      unfold fX3_step_47
      rw [if_neg d, if_pos rfl]
      exact h74 0 (Or.inr ⟨rfl, by omega⟩)
