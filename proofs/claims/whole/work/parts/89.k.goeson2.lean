/-! ===== plan: the reference's search, all of it ===== -/
/-- the state of the reference's search -/
def GS (n : Nat) (W : Int) (g : Nat → Nat → Int) (goal : Int) (N k : Nat) (yb : Nat → Nat) (w : Nat → Int32) (pre : List Cry) (T : dt_Ob) (B : Bst) : Prop := MT T n W (runP n g pre) ∧ T 0 = w ∧ MYd T k yb ∧ MPr T pre ∧ MBt T n g B ∧ ∀ q, B = some q → IsPlan n W g goal N q
def loY (n k : Nat) (yb : Nat → Nat) (i : Nat) : Nat := if i < k then 8 * yb i else 200
theorem bet_dec (n : Nat) (g : Nat → Nat → Int) (q : List Cry) (B : Bst) : bet n g q B ↔ (B = none ∨ ∃ q', B = some q' ∧ csP n g q < csP n g q') := by
  cases B with
  | none => exact ⟨fun _ => Or.inl rfl, fun _ q' h => by cases h⟩
  | some q0 =>
    constructor
    · intro h; exact Or.inr ⟨q0, rfl, h q0 rfl⟩
    · rintro (h | ⟨q', h1, h2⟩)
      · cases h
      · intro q2 h3
        rw [h1] at h3
        rw [← Option.some.inj h3]
        exact h2
theorem mo_goes {n : Nat} {W : Int} {g : Nat → Nat → Int} (ho : okT n W g) {goal : Int} (hgo : 1 ≤ goal ∧ goal ≤ 20) {N : Nat} (hN : N ≤ 5) {k : Nat} {yb : Nat → Nat} (hY : YL n g k yb) (w : Nat → Int32) (hw : ∀ b, b < n → g 5 b < 0 → w (20 + 8 * b + 4) = jI (g 4 b)) : ∀ (e fuel : Nat) (pre : List Cry) (T : dt_Ob) (B : Bst), pre.length + e = N → e < fuel → VdP n W g pre → GS n W g goal N k yb w pre T B → ∃ T' B', fX10_goesOn fuel (jI pre.length) (jI N) (jI goal) (jI (csP n g pre)) T = some T' ∧ SG5 T T' ∧ GS n W g goal N k yb w pre T' B' ∧ RES n W g goal N pre B B' := by
  have hn := ho.1
  have hW := ho.2.2.1
  have x0 : dt_ix (0 : Int32) 1225 = some 0 := rfl
  intro e
  induction e with
  | zero =>
    intro fuel pre T B he hf hv hS
    obtain ⟨f, rfl⟩ : ∃ f, fuel = f + 1 := ⟨fuel - 1, by omega⟩
    obtain ⟨hM, h0, hYd, hPr, hB, hpl⟩ := hS
    have okp := VdP_T pre g ho hv
    have hh := fX10_highest_j hM okp.D
    have tr := okD_tp okp.D
    have cl := csP_le pre g ho hv
    have cn := csP_nn n pre g
    have eL : pre.length = N := by omega
    have lt : (jI (tp (runP n g pre) n) < jI goal) = (tp (runP n g pre) n < goal) := jI_lt _ _ (by omega) (by omega) (by omega) (by omega)
    have top : fX10_goesOn (f + 1) (jI pre.length) (jI N) (jI goal) (jI (csP n g pre)) T = (if jI (tp (runP n g pre) n) < jI goal then (some T) else (if (T 34 0) = (-1 : Int32) then (fX10_goesOn_44 (fX10_goesOn f) dt_F (jI N) (jI ((0 : Nat) : Int)) (dt_set T 34 0 (jI (csP n g pre)))) else (if jI (csP n g pre) < (T 34 0) then (fX10_goesOn_44 (fX10_goesOn f) dt_F (jI N) (jI ((0 : Nat) : Int)) (dt_set T 34 0 (jI (csP n g pre)))) else (some T)))) := by
      rw [fX10_goesOn]
      unfold fX10_goesOn_b fX10_goesOn_35
      rw [hh, dt_b1, if_pos (show jI pre.length = jI N by rw [eL])]
      rfl
    rw [top]
    by_cases z : tp (runP n g pre) n < goal
    · rw [if_pos (show jI (tp (runP n g pre) n) < jI goal by rw [lt]; exact z)]
      exact ⟨T, B, rfl, fun _ _ _ _ _ _ _ _ _ _ _ => rfl, ⟨hM, h0, hYd, hPr, hB, hpl⟩, RES_leaf pre eL hv B B (fun q => by omega) (fun _ => rfl)⟩
    · rw [if_neg (show ¬ jI (tp (runP n g pre) n) < jI goal by rw [lt]; exact z)]
      have isp : IsPlan n W g goal N pre := ⟨hv, eL, by omega⟩
      -- it is kept
      obtain ⟨T1, a1, a2, a3, _⟩ := mo_44 (fX10_goesOn f) N hN N dt_F 0 (dt_set T 34 0 (jI (csP n g pre))) (by omega) (by unfold dt_F; omega)
      have kept : bet n g pre B → ∃ T' B', fX10_goesOn_44 (fX10_goesOn f) dt_F (jI N) (jI ((0 : Nat) : Int)) (dt_set T 34 0 (jI (csP n g pre))) = some T' ∧ SG5 T T' ∧ GS n W g goal N k yb w pre T' B' ∧ RES n W g goal N pre B B' := by
        intro hb
        have o : ∀ j, j ≠ 31 → j ≠ 32 → j ≠ 34 → T1 j = T j := fun j h1 h2 h3 => by rw [a2 j h1 h2, dt_set_n _ _ _ _ _ h3]
        refine ⟨T1, some pre, a1, fun j _ _ _ _ _ _ _ h31 h32 h34 => o j h31 h32 h34, ⟨MT_congr hM (o 0 (by omega) (by omega) (by omega)) (o 7 (by omega) (by omega) (by omega)) (o 8 (by omega) (by omega) (by omega)), by rw [o 0 (by omega) (by omega) (by omega)]; exact h0, ⟨by rw [o 33 (by omega) (by omega) (by omega)]; exact hYd.1, fun i hi' => by rw [o 28 (by omega) (by omega) (by omega)]; exact hYd.2 i hi'⟩, fun i s hs => by rw [o 29 (by omega) (by omega) (by omega), o 30 (by omega) (by omega) (by omega)]; exact hPr i s hs, ⟨fun q => (by cases q), fun q hq => ?_⟩, fun q hq => ?_⟩, RES_leaf pre eL hv B (some pre) (fun _ _ => rfl) (fun q => absurd ⟨by omega, hb⟩ q)⟩
        · have eq := Option.some.inj hq
          subst eq
          refine ⟨by rw [a2 34 (by omega) (by omega), dt_set_at], fun i s hs => ?_⟩
          have l := get_lt hs
          obtain ⟨c1, c2⟩ := a3 i (by omega) (by omega)
          rw [c1, c2, dt_set_n _ _ _ _ _ (by omega), dt_set_n _ _ _ _ _ (by omega)]
          exact hPr i s hs
        · rw [← Option.some.inj hq]; exact isp
      cases hBc : B with
      | none =>
        rw [if_pos (hB.1 hBc), ← hBc]
        exact kept (by rw [hBc]; intro q' h; cases h)
      | some q0 =>
        have h34 := (hB.2 q0 hBc).1
        have hq0 := hpl q0 hBc
        have c0 := csP_nn n q0 g
        have c1 := csP_le q0 g ho hq0.1
        have l0 := hq0.2.1
        have nm : ¬ T 34 0 = (-1 : Int32) := by
          rw [h34, show (-1 : Int32) = jI (-1) from rfl, jI_eq _ _ (by omega) (by omega) (by omega) (by omega)]; omega
        have ltc : (jI (csP n g pre) < T 34 0) = (csP n g pre < csP n g q0) := by rw [h34]; exact jI_lt _ _ (by omega) (by omega) (by omega) (by omega)
        rw [if_neg nm]
        by_cases y : csP n g pre < csP n g q0
        · rw [if_pos (show jI (csP n g pre) < T 34 0 by rw [ltc]; exact y), ← hBc]
          exact kept (by rw [hBc]; intro q' h; rw [← Option.some.inj h]; exact y)
        · rw [if_neg (show ¬ jI (csP n g pre) < T 34 0 by rw [ltc]; exact y), ← hBc]
          refine ⟨T, B, rfl, fun _ _ _ _ _ _ _ _ _ _ _ => rfl, ⟨hM, h0, hYd, hPr, hB, hpl⟩, RES_leaf pre eL hv B B (fun _ q => absurd (q q0 hBc) y) (fun _ => rfl)⟩
  | succ e ih =>
    intro fuel pre T B he hf hv hS
    obtain ⟨f, rfl⟩ : ∃ f, fuel = f + 1 := ⟨fuel - 1, by omega⟩
    have okp := VdP_T pre g ho hv
    have hh := fX10_highest_j hS.1 okp.D
    have tr := okD_tp okp.D
    have cl := csP_le pre g ho hv
    have cn := csP_nn n pre g
    have lN : pre.length < N := by omega
    have top : fX10_goesOn (f + 1) (jI pre.length) (jI N) (jI goal) (jI (csP n g pre)) T = (if jI goal ≤ jI (tp (runP n g pre) n) + jI N - jI pre.length then (fX10_goesOn_99 (fX10_goesOn f) dt_F (jI pre.length) (jI N) (jI goal) (jI (csP n g pre)) (jI ((0 : Nat) : Int)) T) else (some T)) := by
      rw [fX10_goesOn]
      unfold fX10_goesOn_b
      rw [hh, dt_b1, if_neg (show ¬ jI pre.length = jI N by rw [jI_eq _ _ (by omega) (by omega) (by omega) (by omega)]; omega)]
      rfl
    rw [top, jI_add, jI_sub]
    have le : (jI goal ≤ jI (tp (runP n g pre) n + N - pre.length)) = (goal ≤ tp (runP n g pre) n + N - pre.length) := jI_le _ _ (by omega) (by omega) (by omega) (by omega)
    by_cases zc : goal ≤ tp (runP n g pre) n + N - pre.length
    · rw [if_pos (show jI goal ≤ jI (tp (runP n g pre) n + N - pre.length) by rw [le]; exact zc)]
      -- what a plan goes on with
      have next : ∀ q s r, IsPlan n W g goal N q → q = pre ++ s :: r → okS n W (runP n g pre) s ∧ g 5 s.1 < 0 := by
        intro q s r hq eq
        rw [eq] at hq
        obtain ⟨_, v2⟩ := (VdP_app n W pre (s :: r) g).mp hq.1
        refine ⟨v2.1, ?_⟩
        have := v2.1.2.1
        rw [run_y pre g s.1 hv this] at this
        exact this
      have l99 : ∀ (m fuel i : Nat) (T : dt_Ob) (B : Bst), i + m = k → m < fuel → GS n W g goal N k yb w pre T B → ∃ T' B', fX10_goesOn_99 (fX10_goesOn f) fuel (jI pre.length) (jI N) (jI goal) (jI (csP n g pre)) (jI i) T = some T' ∧ SG5 T T' ∧ GS n W g goal N k yb w pre T' B' ∧ REL n W g goal N pre (loY n k yb i) B B' := by
        have k6 := hY.1
        intro m
        induction m with
        | zero =>
          intro fuel i T B hm hf hS
          obtain ⟨f', rfl⟩ : ∃ f', fuel = f' + 1 := ⟨fuel - 1, by omega⟩
          refine ⟨T, B, ?_, fun _ _ _ _ _ _ _ _ _ _ _ => rfl, hS, REL_end pre _ B (fun q s r hq eq => ?_)⟩
          · rw [fX10_goesOn_99, hS.2.2.1.1, if_pos (by rw [jI_le _ _ (by omega) (by omega) (by omega) (by omega)]; omega)]
          · obtain ⟨o1, _⟩ := next q s r hq eq
            have rb := okp.2.2.2.1 s.1 o1.1
            unfold okB at rb
            have := o1.1
            have := o1.2.2.1
            have := o1.2.2.2.1
            unfold loY dig
            rw [if_neg (by omega)]
            omega
        | succ m ihm =>
          intro fuel i T B hm hf hS
          obtain ⟨f', rfl⟩ : ∃ f', fuel = f' + 1 := ⟨fuel - 1, by omega⟩
          have ik : i < k := by omega
          obtain ⟨bn, by5⟩ := hY.2.1 i ik
          have i1 : jI i + (1 : Int32) = jI ((i + 1 : Nat) : Int) := by rw [show (1 : Int32) = jI 1 from rfl, jI_add]; rfl
          have ixi : dt_ix (jI i) 6 = some i := dt_ix_n _ _ (by omega) (by omega)
          have ixb : dt_ix (jI (yb i)) 20 = some (yb i) := dt_ix_n _ _ (by omega) (by omega)
          have rb := okp.2.2.2.1 (yb i) bn
          unfold okB at rb
          have l99' : ∀ (T : dt_Ob) (B : Bst), GS n W g goal N k yb w pre T B → ∃ T' B', fX10_goesOn_99 (fX10_goesOn f) f' (jI pre.length) (jI N) (jI goal) (jI (csP n g pre)) (jI ((i + 1 : Nat) : Int)) T = some T' ∧ SG5 T T' ∧ GS n W g goal N k yb w pre T' B' ∧ REL n W g goal N pre (loY n k yb (i + 1)) B B' := fun T B h => ihm f' (i + 1) T B (by omega) (by omega) h
          -- beyond this block
          have beyond : ∀ q s r, IsPlan n W g goal N q → q = pre ++ s :: r → yb i < s.1 → loY n k yb (i + 1) ≤ dig s := by
            intro q s r hq eq hlt
            obtain ⟨o1, o2⟩ := next q s r hq eq
            obtain ⟨j, j1, j2⟩ := hY.2.2.2 s.1 o1.1 o2
            have ij : i < j := by
              by_cases w1 : i < j
              · exact w1
              · by_cases w2 : j = i
                · subst w2; omega
                · have := hY.2.2.1 j i (by omega) ik; omega
            unfold loY
            rw [if_pos (by omega)]
            unfold dig
            by_cases w3 : j = i + 1
            · subst w3; omega
            · have := hY.2.2.1 (i + 1) j (by omega) j1; omega
          have em : (jI (runP n g pre 5 (yb i)) = (-1 : Int32)) = (runP n g pre 5 (yb i) = -1) := by rw [show (-1 : Int32) = jI (-1) from rfl]; exact jI_eq _ _ (by omega) (by omega) (by omega) (by omega)
          have t99 : fX10_goesOn_99 (fX10_goesOn f) (f' + 1) (jI pre.length) (jI N) (jI goal) (jI (csP n g pre)) (jI i) T = (if jI (runP n g pre 5 (yb i)) = (-1 : Int32) then (fX10_goesOn_134 (fX10_goesOn f) (fX10_goesOn_99 (fX10_goesOn f) f') dt_F (jI pre.length) (jI N) (jI goal) (jI (csP n g pre)) (jI i) (jI (yb i)) (jI ((0 : Nat) : Int)) T) else (fX10_goesOn_99 (fX10_goesOn f) f' (jI pre.length) (jI N) (jI goal) (jI (csP n g pre)) (jI ((i + 1 : Nat) : Int)) T)) := by
            rw [fX10_goesOn_99]
            unfold fX10_goesOn_234
            rw [hS.2.2.1.1, if_neg (by rw [jI_le _ _ (by omega) (by omega) (by omega) (by omega)]; omega), ixi, dt_b1, hS.2.2.1.2 i ik, ixb, dt_b1, hS.1.2.2.2.1 (yb i) bn, i1]
            rfl
          rw [t99]
          have lo_i : loY n k yb i = 8 * yb i := by unfold loY; rw [if_pos ik]
          by_cases zy : runP n g pre 5 (yb i) = -1
          · rw [if_pos (by rw [em]; exact zy), lo_i]
            have ey := run_y pre g (yb i) hv (by omega)
            have r0 : 1 ≤ g 0 (yb i) ∧ g 0 (yb i) ≤ 3 ∧ g 0 (yb i) ≤ W := by have := ey 0; omega
            -- the columns
            have l134 : ∀ (m fuel c : Nat) (T : dt_Ob) (B : Bst), (c : Int) + m = W - g 0 (yb i) + 1 → m < fuel → GS n W g goal N k yb w pre T B → ∃ T' B', fX10_goesOn_134 (fX10_goesOn f) (fX10_goesOn_99 (fX10_goesOn f) f') fuel (jI pre.length) (jI N) (jI goal) (jI (csP n g pre)) (jI i) (jI (yb i)) (jI c) T = some T' ∧ SG5 T T' ∧ GS n W g goal N k yb w pre T' B' ∧ REL n W g goal N pre (8 * yb i + c) B B' := by
              intro m
              induction m with
              | zero =>
                intro fuel c T B hm hf hS
                obtain ⟨f2, rfl⟩ : ∃ f2, fuel = f2 + 1 := ⟨fuel - 1, by omega⟩
                have o0 : fX10_own (jI (yb i)) (0 : Int32) T = some (jI (runP n g pre 0 (yb i))) := own_0 hS.1 hn (yb i) bn
                obtain ⟨T', B', a1, a2, a3, a4⟩ := l99' T B hS
                refine ⟨T', B', ?_, a2, a3, ?_⟩
                · rw [fX10_goesOn_134]
                  unfold fX10_goesOn_234
                  rw [x0, dt_b1, o0, dt_b1, hS.1.1, ey, jI_sub, if_pos (by rw [jI_lt _ _ (by omega) (by omega) (by omega) (by omega)]; omega), i1]
                  exact a1
                · have lo1 : 8 * yb i + c ≤ loY n k yb (i + 1) := by
                    unfold loY
                    by_cases w1 : i + 1 < k
                    · rw [if_pos w1]; have := hY.2.2.1 i (i + 1) (by omega) w1; omega
                    · rw [if_neg w1]; omega
                  refine REL_gap pre _ _ B B' lo1 (fun q s r hq eq hl => ?_) a4
                  obtain ⟨o1, o2⟩ := next q s r hq eq
                  have rs := okp.2.2.2.1 s.1 o1.1
                  unfold okB at rs
                  have s0 := o1.2.2.1
                  have sW := o1.2.2.2.1
                  refine beyond q s r hq eq ?_
                  unfold dig at hl
                  by_cases w1 : yb i < s.1
                  · exact w1
                  · by_cases w2 : s.1 = yb i
                    · rw [w2, ey] at sW; omega
                    · omega
              | succ m ihm2 =>
                intro fuel c T B hm hf hS
                obtain ⟨f2, rfl⟩ : ∃ f2, fuel = f2 + 1 := ⟨fuel - 1, by omega⟩
                have o0 : fX10_own (jI (yb i)) (0 : Int32) T = some (jI (runP n g pre 0 (yb i))) := own_0 hS.1 hn (yb i) bn
                have c1 : jI c + (1 : Int32) = jI ((c + 1 : Nat) : Int) := by rw [show (1 : Int32) = jI 1 from rfl, jI_add]; rfl
                have hs : ∃ s : Cry, s = (yb i, (c : Int)) := ⟨_, rfl⟩
                obtain ⟨s, es⟩ := hs
                have s1 : s.1 = yb i := by rw [es]
                have s2 : s.2 = (c : Int) := by rw [es]
                have ds : dig s = 8 * yb i + c := by unfold dig; rw [s1, s2, Int.toNat_natCast]
                obtain ⟨T1, l1, l2, l3, l4, l5⟩ := fX10_lays_j hS.1 okp (yb i) bn (c : Int) (by omega) (by rw [ey]; omega) (by omega)
                have ixl : dt_ix (jI pre.length) 5 = some pre.length := dt_ix_n _ _ (by omega) (by omega)
                -- taken back
                have back : ∀ (pre' : List Cry) (T3 : dt_Ob) (B1 : Bst), (pre' = pre ∨ pre' = pre ++ [s]) → MT T3 n W (gD n (runP n g pre) (yb i) c) → T3 0 = w → MYd T3 k yb → MPr T3 pre' → MBt T3 n g B1 → (∀ q, B1 = some q → IsPlan n W g goal N q) → GS n W g goal N k yb w pre (dt_set (dt_set T3 7 (yb i) (-1)) 8 (yb i) (-1)) B1 := by
                  intro pre' T3 B1 hpre m1 m2 m3 m4 m5 m6
                  have o : ∀ j, j ≠ 7 → j ≠ 8 → (dt_set (dt_set T3 7 (yb i) (-1)) 8 (yb i) (-1)) j = T3 j := fun j h7 h8 => by rw [dt_set_n _ _ _ _ _ h8, dt_set_n _ _ _ _ _ h7]
                  refine ⟨MT_back m1 (fun f x hx => gD_n _ _ _ _ _ _ hx) (fun f hf => gP_f _ _ _ _ _ _ _ hf) zy, by rw [o 0 (by omega) (by omega)]; exact m2, ⟨by rw [o 33 (by omega) (by omega)]; exact m3.1, fun x hx => by rw [o 28 (by omega) (by omega)]; exact m3.2 x hx⟩, fun x t ht => ?_, ⟨fun q => by rw [o 34 (by omega) (by omega)]; exact m5.1 q, fun q hq => ⟨by rw [o 34 (by omega) (by omega)]; exact (m5.2 q hq).1, fun x t ht => by rw [o 31 (by omega) (by omega), o 32 (by omega) (by omega)]; exact (m5.2 q hq).2 x t ht⟩⟩, m6⟩
                  rw [o 29 (by omega) (by omega), o 30 (by omega) (by omega)]
                  rcases hpre with z | z
                  · rw [z] at m4; exact m4 x t ht
                  · rw [z] at m4; exact MPr_sub m4 x t ht
                have sg1 : SG5 T T1 := fun j a b c d e _ _ _ _ _ => l4 j a b c d e
                obtain ⟨hM, h0, hYd, hPr, hB, hpl⟩ := hS
                have g0 : T1 0 = w := by rw [l4 0 (by omega) (by omega) (by omega) (by omega) (by omega)]; exact h0
                have gY1 : MYd T1 k yb := ⟨by rw [l4 33 (by omega) (by omega) (by omega) (by omega) (by omega)]; exact hYd.1, fun x hx => by rw [l4 28 (by omega) (by omega) (by omega) (by omega) (by omega)]; exact hYd.2 x hx⟩
                have gP1 : MPr T1 pre := fun x t ht => by rw [l4 29 (by omega) (by omega) (by omega) (by omega) (by omega), l4 30 (by omega) (by omega) (by omega) (by omega) (by omega)]; exact hPr x t ht
                have gB1 : MBt T1 n g B := ⟨fun q => by rw [l4 34 (by omega) (by omega) (by omega) (by omega) (by omega)]; exact hB.1 q, fun q hq => ⟨by rw [l4 34 (by omega) (by omega) (by omega) (by omega) (by omega)]; exact (hB.2 q hq).1, fun x t ht => by rw [l4 31 (by omega) (by omega) (by omega) (by omega) (by omega), l4 32 (by omega) (by omega) (by omega) (by omega) (by omega)]; exact (hB.2 q hq).2 x t ht⟩⟩
                have rr : rsn n (runP n g pre) (yb i) c = 0 ∨ rsn n (runP n g pre) (yb i) c = 2 ∨ rsn n (runP n g pre) (yb i) c = 3 := by
                  unfold rsn
                  split
                  · split
                    · exact Or.inl rfl
                    · exact Or.inr (Or.inr rfl)
                  · exact Or.inr (Or.inl rfl)
                have er : (jI (rsn n (runP n g pre) (yb i) c) = (0 : Int32)) = (rsn n (runP n g pre) (yb i) c = 0) := by rw [show (0 : Int32) = jI 0 from rfl]; exact jI_eq _ _ (by omega) (by omega) (by omega) (by omega)
                have hT2 : ∃ T2, T2 = dt_set (dt_set T1 29 pre.length (jI (yb i))) 30 pre.length (jI c) := ⟨_, rfl⟩
                obtain ⟨T2, eT2⟩ := hT2
                have oT2 : ∀ j, j ≠ 29 → j ≠ 30 → T2 j = T1 j := fun j a b => by rw [eT2, dt_set_n _ _ _ _ _ b, dt_set_n _ _ _ _ _ a]
                have o4 : fX10_own (jI (yb i)) (4 : Int32) T2 = some (jI (g 4 (yb i))) := by
                  have q := fX10_own_j T2 (yb i) 4 (by omega) (by omega) (by omega)
                  rw [oT2 0 (by omega) (by omega), g0] at q
                  rw [show (4 : Int32) = jI 4 from rfl, q]
                  exact congrArg some (hw (yb i) bn by5)
                have lr := okD_la okp.D (c : Int) (runP n g pre 0 (yb i)).toNat
                have pl4 : 0 ≤ g 4 (yb i) ∧ g 4 (yb i) ≤ 59 := by have := ey 4; omega
                have co : fX10_costOf (jI (g 4 (yb i))) (jI c) (jI (la n (runP n g pre) c (runP n g pre 0 (yb i)).toNat)) T2 = some (jI (cs n (runP n g pre) s)) := by
                  unfold fX10_costOf fX10_costOf_21 cs
                  rw [s1, s2, ey 4, show (10 : Int32) = jI 10 from rfl, jI_sub, jI_sub, jI_neg, jI_add, jI_add]
                  have l0 : ((0 : Int32) ≤ jI (g 4 (yb i) - 10 - c)) = (0 ≤ g 4 (yb i) - 10 - c) := by rw [show (0 : Int32) = jI 0 from rfl]; exact jI_le _ _ (by omega) (by omega) (by omega) (by omega)
                  by_cases z : 0 ≤ g 4 (yb i) - 10 - c
                  · rw [if_pos (show (0 : Int32) ≤ jI (g 4 (yb i) - 10 - c) by rw [l0]; exact z), if_pos z]
                  · rw [if_neg (show ¬ (0 : Int32) ≤ jI (g 4 (yb i) - 10 - c) by rw [l0]; exact z), if_neg z]
                have t134 : fX10_goesOn_134 (fX10_goesOn f) (fX10_goesOn_99 (fX10_goesOn f) f') (f2 + 1) (jI pre.length) (jI N) (jI goal) (jI (csP n g pre)) (jI i) (jI (yb i)) (jI c) T = (if jI (rsn n (runP n g pre) (yb i) c) = (0 : Int32) then ((fX10_goesOn f (jI pre.length + (1 : Int32)) (jI N) (jI goal) (jI (csP n g pre) + jI (cs n (runP n g pre) s)) T2).bind fun q16 => (fX10_goesOn_134 (fX10_goesOn f) (fX10_goesOn_99 (fX10_goesOn f) f') f2 (jI pre.length) (jI N) (jI goal) (jI (csP n g pre)) (jI i) (jI (yb i)) (jI ((c + 1 : Nat) : Int)) (dt_set (dt_set q16 7 (yb i) (-1)) 8 (yb i) (-1)))) else (fX10_goesOn_134 (fX10_goesOn f) (fX10_goesOn_99 (fX10_goesOn f) f') f2 (jI pre.length) (jI N) (jI goal) (jI (csP n g pre)) (jI i) (jI (yb i)) (jI ((c + 1 : Nat) : Int)) (dt_set (dt_set T1 7 (yb i) (-1)) 8 (yb i) (-1)))) := by
                  rw [fX10_goesOn_134]
                  unfold fX10_goesOn_212
                  rw [x0, dt_b1, o0, dt_b1, hM.1, ey, jI_sub, if_neg (by rw [jI_lt _ _ (by omega) (by omega) (by omega) (by omega)]; omega), l1, dt_b1]
                  dsimp only
                  rw [ixl, dt_b1, dt_b1, ← eT2, o4, dt_b1, ixb, dt_b1, l3, co, dt_b1, c1]
                  rfl
                rw [t134]
                have lg : ∀ p r, IsPlan n W g goal N p → p = (pre ++ [s]) ++ r → okS n W (runP n g pre) s := fun p r hp ep => (next p s r hp (by rw [ep, List.append_assoc]; rfl)).1
                by_cases zr : rsn n (runP n g pre) (yb i) c = 0
                · rw [if_pos (show jI (rsn n (runP n g pre) (yb i) c) = (0 : Int32) by rw [er]; exact zr)]
                  have oks : okS n W (runP n g pre) s := ⟨by rw [s1]; exact bn, by rw [s1]; omega, by rw [s2]; omega, by rw [s1, s2, ey]; omega, by rw [s1, s2]; exact zr⟩
                  have hv' : VdP n W g (pre ++ [s]) := (VdP_app n W pre [s] g).mpr ⟨hv, oks, trivial⟩
                  have er' : runP n g (pre ++ [s]) = gD n (runP n g pre) (yb i) c := by rw [runP_app]; show gD n (runP n g pre) s.1 s.2 = _; rw [s1, s2]
                  have el : (pre ++ [s]).length = pre.length + 1 := by rw [List.length_append]; rfl
                  have ec : csP n g (pre ++ [s]) = csP n g pre + cs n (runP n g pre) s := by rw [csP_app]; show _ + (cs n (runP n g pre) s + 0) = _; omega
                  have gs2 : GS n W g goal N k yb w (pre ++ [s]) T2 B := by
                    refine ⟨?_, by rw [oT2 0 (by omega) (by omega)]; exact g0, ⟨by rw [oT2 33 (by omega) (by omega)]; exact gY1.1, fun x hx => by rw [oT2 28 (by omega) (by omega)]; exact gY1.2 x hx⟩, ?_, ⟨fun q => by rw [oT2 34 (by omega) (by omega)]; exact gB1.1 q, fun q hq => ⟨by rw [oT2 34 (by omega) (by omega)]; exact (gB1.2 q hq).1, fun x t ht => by rw [oT2 31 (by omega) (by omega), oT2 32 (by omega) (by omega)]; exact (gB1.2 q hq).2 x t ht⟩⟩, hpl⟩
                    · rw [er']
                      exact MT_congr l2 (oT2 0 (by omega) (by omega)) (oT2 7 (by omega) (by omega)) (oT2 8 (by omega) (by omega))
                    · have := MPr_add gP1 s
                      rw [s1, s2, ← eT2] at this
                      exact this
                  obtain ⟨T3, B1, b1, b2, b3, b4⟩ := ih f (pre ++ [s]) T2 B (by omega) (by omega) hv' gs2
                  have b1' : fX10_goesOn f (jI pre.length + (1 : Int32)) (jI N) (jI goal) (jI (csP n g pre) + jI (cs n (runP n g pre) s)) T2 = some T3 := by
                    rw [show (1 : Int32) = jI 1 from rfl, jI_add, jI_add, ← ec]
                    rw [el] at b1
                    exact b1
                  rw [b1', dt_b1]
                  have b3m := b3.1
                  rw [er'] at b3m
                  have gs4 := back (pre ++ [s]) T3 B1 (Or.inr rfl) b3m b3.2.1 b3.2.2.1 b3.2.2.2.1 b3.2.2.2.2.1 b3.2.2.2.2.2
                  obtain ⟨T', B2, d1, d2, d3, d4⟩ := ihm2 f2 (c + 1) _ B1 (by omega) (by omega) gs4
                  refine ⟨T', B2, d1, ?_, d3, ?_⟩
                  · intro j a b c' d e' f'' g' h' i' k'
                    rw [d2 j a b c' d e' f'' g' h' i' k', dt_set_n _ _ _ _ _ d, dt_set_n _ _ _ _ _ c', b2 j a b c' d e' f'' g' h' i' k', oT2 j f'' g', sg1 j a b c' d e' f'' g' h' i' k']
                  · rw [← ds]
                    exact REL_step ho pre s (by rw [s2]; omega) (by rw [s2]; omega) B B1 B2 b4 (by rw [ds]; exact d4)
                · rw [if_neg (show ¬ jI (rsn n (runP n g pre) (yb i) c) = (0 : Int32) by rw [er]; exact zr)]
                  have gs4 := back pre T1 B (Or.inl rfl) l2 g0 gY1 gP1 gB1 hpl
                  obtain ⟨T', B2, d1, d2, d3, d4⟩ := ihm2 f2 (c + 1) _ B (by omega) (by omega) gs4
                  refine ⟨T', B2, d1, ?_, d3, ?_⟩
                  · intro j a b c' d e' f'' g' h' i' k'
                    rw [d2 j a b c' d e' f'' g' h' i' k', dt_set_n _ _ _ _ _ d, dt_set_n _ _ _ _ _ c', sg1 j a b c' d e' f'' g' h' i' k']
                  · rw [← ds]
                    refine REL_step ho pre s (by rw [s2]; omega) (by rw [s2]; omega) B B B2 (RES_cut _ B (fun p r hp ep => ?_)) (by rw [ds]; exact d4)
                    have := (lg p r hp.1 ep).2.2.2.2
                    rw [s1, s2] at this
                    exact zr this
            obtain ⟨T', B', a1, a2, a3, a4⟩ := l134 (W - g 0 (yb i) + 1).toNat dt_F 0 T B (by omega) (by unfold dt_F; omega) hS
            exact ⟨T', B', a1, a2, a3, a4⟩
          · rw [if_neg (by rw [em]; exact zy)]
            obtain ⟨T', B', a1, a2, a3, a4⟩ := l99' T B hS
            refine ⟨T', B', a1, a2, a3, REL_gap pre _ _ B B' ?_ (fun q s r hq eq hl => ?_) a4⟩
            · unfold loY
              rw [if_pos ik]
              by_cases w1 : i + 1 < k
              · rw [if_pos w1]; have := hY.2.2.1 i (i + 1) (by omega) w1; omega
              · rw [if_neg w1]; omega
            · obtain ⟨o1, o2⟩ := next q s r hq eq
              have rs := okp.2.2.2.1 s.1 o1.1
              unfold okB at rs
              have s0 := o1.2.2.1
              have sW := o1.2.2.2.1
              refine beyond q s r hq eq ?_
              rw [lo_i] at hl
              unfold dig at hl
              by_cases w1 : yb i < s.1
              · exact w1
              · by_cases w2 : s.1 = yb i
                · have := o1.2.1
                  rw [w2] at this
                  omega
                · omega
      obtain ⟨T', B', a1, a2, a3, a4⟩ := l99 k dt_F 0 T B (by omega) (by have := hY.1; unfold dt_F; omega) hS
      refine ⟨T', B', a1, a2, a3, RES_of pre lN B B' (REL_gap pre 0 _ B B' (Nat.zero_le _) (fun q s r hq eq _ => ?_) a4)⟩
      obtain ⟨o1, o2⟩ := next q s r hq eq
      obtain ⟨j, j1, j2⟩ := hY.2.2.2 s.1 o1.1 o2
      unfold loY dig
      rw [if_pos (by omega)]
      by_cases w1 : j = 0
      · subst w1; omega
      · have := hY.2.2.1 0 j (by omega) j1; omega
    · rw [if_neg (show ¬ jI goal ≤ jI (tp (runP n g pre) n + N - pre.length) by rw [le]; exact zc)]
      refine ⟨T, B, rfl, fun _ _ _ _ _ _ _ _ _ _ _ => rfl, hS, RES_cut pre B (fun p r hp ep => ?_)⟩
      have hq := hp.1
      rw [ep] at hq
      obtain ⟨v1, v2⟩ := (VdP_app n W pre r g).mp hq.1
      have t := run_tp r _ okp v2
      have l := hq.2.1
      rw [List.length_append] at l
      have h3 := hq.2.2
      rw [runP_app] at h3
      omega
