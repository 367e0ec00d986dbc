/-! ===== operation: down ===== -/
/-- a block on which nothing lies -/
abbrev top1 (n : Nat) (g : Nat → Nat → Int) (b : Nat) : Prop := 0 ≤ g 5 b ∧ free n g b
theorem top1_ex {n : Nat} {W : Int} {g : Nat → Nat → Int} (h : okD n W g) (ne : ∃ b, b < n ∧ 0 ≤ g 5 b) : ∃ b, b < n ∧ top1 n g b := by
  obtain ⟨b0, hb0, hc0⟩ := ne
  rcases tp_att g n with e | ⟨b, hb, hc, e⟩
  · have := tp_ge g n b0 hb0 hc0
    have r := (h.2.2.2.1 b0 hb0).1
    unfold okB at r
    omega
  · refine ⟨b, hb, hc, fun o ho ov => ?_⟩
    have := tp_ge g n o ho ov.2.1
    omega
/-- the least of those that P holds of -/
theorem least_ex (P : Nat → Prop) : ∀ n, (∃ b, b < n ∧ P b) → ∃ b, b < n ∧ P b ∧ ∀ x, x < b → ¬ P x := by
  intro n
  induction n with
  | zero => intro ⟨b, hb, _⟩; omega
  | succ n ih =>
    intro ⟨b, hb, hp⟩
    rcases Classical.em (∃ b, b < n ∧ P b) with z | z
    · obtain ⟨c, h1, h2, h3⟩ := ih z
      exact ⟨c, by omega, h2, h3⟩
    · refine ⟨b, hb, hp, fun x hx px => z ⟨x, by omega, px⟩⟩
theorem fX5_leastFree_j2 {T : dt_Ob} {n : Nat} {W : Int} {g : Nat → Nat → Int} (h : TW T n W g) (ho : okD n W g) : ∀ (k fuel i : Nat), i + k = n → k < fuel → (∀ b, i ≤ b → b < n → top1 n g b → (∀ x, i ≤ x → x < b → ¬ top1 n g x) → fX5_leastFree_2 fuel (jI i) T = some (jI b)) ∧ ((∀ x, i ≤ x → x < n → ¬ top1 n g x) → fX5_leastFree_2 fuel (jI i) T = some (-1)) := by
  have hn := ho.1
  have w := ho.2.2.1
  intro k
  induction k with
  | zero =>
    intro fuel i hk hf
    obtain ⟨f, rfl⟩ : ∃ f, fuel = f + 1 := ⟨fuel - 1, by omega⟩
    refine ⟨fun b h1 h2 => by omega, fun _ => ?_⟩
    unfold fX5_leastFree_2
    rw [h.2.1, if_pos (by rw [jI_le _ _ (by omega) (by omega) (by omega) (by omega)]; omega)]
  | succ k ih =>
    intro fuel i hk hf
    obtain ⟨f, rfl⟩ : ∃ f, fuel = f + 1 := ⟨fuel - 1, by omega⟩
    have hi' : i < n := by omega
    have r := (ho.2.2.2.1 i hi').1
    unfold okB at r
    have e6 : T 6 i = jI (g 4 i) := h.2.2.1 4 (by omega) i hi'
    have ihh := ih f (i + 1) (by omega) (by omega)
    have k6 : (jI (g 4 i) = (-1 : Int32)) = (g 4 i = -1) := by rw [show (-1 : Int32) = jI (-1) from rfl]; exact jI_eq (g 4 i) (-1) (by omega) (by omega) (by omega) (by omega)
    have skip : ¬ top1 n g i → fX5_leastFree_2 (f + 1) (jI i) T = fX5_leastFree_2 f (jI ((i + 1 : Nat) : Int)) T → (∀ b, i ≤ b → b < n → top1 n g b → (∀ x, i ≤ x → x < b → ¬ top1 n g x) → fX5_leastFree_2 (f + 1) (jI i) T = some (jI b)) ∧ ((∀ x, i ≤ x → x < n → ¬ top1 n g x) → fX5_leastFree_2 (f + 1) (jI i) T = some (-1)) := by
      intro no e
      rw [e]
      refine ⟨fun b h1 h2 h3 h4 => ihh.1 b ?_ h2 h3 (fun x hx => h4 x (by omega)), fun z => ihh.2 (fun x hx => z x (by omega))⟩
      by_cases q : b = i
      · subst q; exact absurd h3 no
      · omega
    by_cases z : g 4 i = -1
    · have hc : 0 ≤ g 5 i := by omega
      have fr := fX5_isFree_j h ho i hi' hc
      rcases Classical.em (free n g i) with q | q
      · have e : fX5_leastFree_2 (f + 1) (jI i) T = some (jI i) := by
          unfold fX5_leastFree_2
          rw [h.2.1, if_neg (by rw [jI_le _ _ (by omega) (by omega) (by omega) (by omega)]; omega), dt_ix_n i 20 (by omega) (by omega), dt_b1, e6, if_pos (by rw [k6]; exact z), fr.1 q, dt_b1, i10]
        rw [e]
        refine ⟨fun b h1 h2 h3 h4 => ?_, fun y => absurd ⟨hc, q⟩ (y i (by omega) hi')⟩
        by_cases t : b = i
        · rw [t]
        · exact absurd ⟨hc, q⟩ (h4 i (by omega) (by omega))
      · apply skip (fun y => q y.2)
        rw [fX5_leastFree_2]
        unfold fX5_leastFree_30
        rw [h.2.1, if_neg (by rw [jI_le _ _ (by omega) (by omega) (by omega) (by omega)]; omega), dt_ix_n i 20 (by omega) (by omega), dt_b1, e6, if_pos (by rw [k6]; exact z), fr.2 q, dt_b1, i00, show (1 : Int32) = jI 1 from rfl, jI_add]
        rfl
    · apply skip (fun y => by have := y.1; omega)
      rw [fX5_leastFree_2]
      unfold fX5_leastFree_30
      rw [h.2.1, if_neg (by rw [jI_le _ _ (by omega) (by omega) (by omega) (by omega)]; omega), dt_ix_n i 20 (by omega) (by omega), dt_b1, e6, if_neg (by rw [k6]; exact z), show (1 : Int32) = jI 1 from rfl, jI_add]
      rfl
theorem fX10_down_j31 {T : dt_Ob} {n : Nat} {W : Int} {g : Nat → Nat → Int} (h : MT T n W g) (ho : okD n W g) (r24 : Int32 → Int32 → Int32 → dt_Ob → Option (Int32 × dt_Ob)) (x1 x3 : Int32) (b : Nat) (hb : b < n) (tb : top1 n g b) (lb : ∀ x, x < b → ¬ top1 n g x) : ∀ (k fuel i : Nat), i + k = b → k < fuel → fX10_down_31 r24 fuel x1 (jI i) x3 T = r24 x1 (jI b) (x3 + 1) (dt_set T 7 b (-1)) := by
  have hn := ho.1
  have w := ho.2.2.1
  intro k
  induction k with
  | zero =>
    intro fuel i hk hf
    obtain ⟨f, rfl⟩ : ∃ f, fuel = f + 1 := ⟨fuel - 1, by omega⟩
    have e : i = b := by omega
    subst e
    have r := (ho.2.2.2.1 i hb).1
    unfold okB at r
    have e7 := h.2.2.2.1 i hb
    have k5 : (jI (g 5 i) = (-1 : Int32)) = (g 5 i = -1) := by rw [show (-1 : Int32) = jI (-1) from rfl]; exact jI_eq (g 5 i) (-1) (by omega) (by omega) (by omega) (by omega)
    unfold fX10_down_31
    rw [dt_ix_n i 20 (by omega) (by omega), dt_b1, e7, if_neg (by rw [k5]; have := tb.1; omega), (fX10_isOnTop_j h ho i hb tb.1).1 tb.2, dt_b1, i10, dt_b1]
  | succ k ih =>
    intro fuel i hk hf
    obtain ⟨f, rfl⟩ : ∃ f, fuel = f + 1 := ⟨fuel - 1, by omega⟩
    have hi' : i < n := by omega
    have r := (ho.2.2.2.1 i hi').1
    unfold okB at r
    have e7 := h.2.2.2.1 i hi'
    have k5 : (jI (g 5 i) = (-1 : Int32)) = (g 5 i = -1) := by rw [show (-1 : Int32) = jI (-1) from rfl]; exact jI_eq (g 5 i) (-1) (by omega) (by omega) (by omega) (by omega)
    have ihh := ih f (i + 1) (by omega) (by omega)
    have cst : jI i + (1 : Int32) = jI ((i + 1 : Nat) : Int) := by rw [show (1 : Int32) = jI 1 from rfl, jI_add]; rfl
    unfold fX10_down_31 fX10_down_49
    rw [dt_ix_n i 20 (by omega) (by omega), dt_b1, e7, cst]
    by_cases z : g 5 i = -1
    · rw [if_pos (by rw [k5]; exact z)]
      exact ihh
    · have hc : 0 ≤ g 5 i := by omega
      rw [if_neg (by rw [k5]; exact z), (fX10_isOnTop_j h ho i hi' hc).2 (fun q => lb i (by omega) ⟨hc, q⟩), dt_b1, i00]
      exact ihh
/-- in the tower, counted -/
theorem yc_lift {g : Nat → Nat → Int} {b : Nat} (p : Int) (hc : 0 ≤ g 5 b) : ∀ n, yc (gP g b p (-1) (-1)) n = yc g n + (if b < n then 1 else 0) := by
  intro n
  induction n with
  | zero => rfl
  | succ n ih =>
    show yc (gP g b p (-1) (-1)) n + (if 0 ≤ gP g b p (-1) (-1) 5 n then 0 else 1) = yc g n + (if 0 ≤ g 5 n then 0 else 1) + _
    rw [ih]
    by_cases e : n = b
    · subst e
      rw [gP_5, if_neg (show ¬ n < n by omega), if_neg (show ¬ (0 : Int) ≤ -1 by omega), if_pos hc, if_pos (by omega)]
    · rw [gP_n _ _ _ _ _ _ _ e]
      by_cases y : b < n
      · rw [if_pos y, if_pos (show b < n + 1 by omega)]; omega
      · rw [if_neg y, if_neg (show ¬ b < n + 1 by omega)]; omega
theorem yc_full {g : Nat → Nat → Int} : ∀ n, yc g n = n → ∀ b, b < n → ¬ 0 ≤ g 5 b := by
  intro n
  induction n with
  | zero => intro _ b hb; omega
  | succ n ih =>
    intro h b hb
    have l := yc_le g n
    have u : yc g (n + 1) = yc g n + (if 0 ≤ g 5 n then 0 else 1) := rfl
    rw [u] at h
    by_cases z : 0 ≤ g 5 n
    · rw [if_pos z] at h; omega
    · rw [if_neg z] at h
      by_cases e : b = n
      · rw [e]; exact z
      · exact ih (by omega) b (by omega)
theorem yc_lt {g : Nat → Nat → Int} : ∀ n, yc g n < n → ∃ b, b < n ∧ 0 ≤ g 5 b := by
  intro n
  induction n with
  | zero => intro h; omega
  | succ n ih =>
    intro h
    have u : yc g (n + 1) = yc g n + (if 0 ≤ g 5 n then 0 else 1) := rfl
    rw [u] at h
    by_cases z : 0 ≤ g 5 n
    · exact ⟨n, by omega, z⟩
    · rw [if_neg z] at h
      obtain ⟨b, hb, hc⟩ := ih (by omega)
      exact ⟨b, by omega, hc⟩
/-- the class, one by one; the reference beside it where there is one -/
theorem down_loop {n : Nat} {W : Int} (i : Nat) (hi : i < 20) : ∀ (d fuel t : Nat) (g : Nat → Nat → Int) (x : Int32) (M : dt_M), t + d = i + 1 → d < fuel → okT n W g → TW (M 13) n W g → ∃ (r : Int32) (M' : dt_M), fX9_down_30 fuel (jI i) x (jI t) M = some (r, M') ∧ (∀ k, k ≠ 13 → M' k = M k) ∧ ((n : Int) - yc g n < d → r = -1) ∧ ((d : Int) ≤ n - yc g n → ∀ (fuel' : Nat) (T : dt_Ob), d < fuel' → MT T n W g → ∃ T', fX10_down_24 fuel' (jI i) x (jI t) T = some (r, T') ∧ ∀ j, j ≠ 7 → T' j = T j) := by
  intro d
  induction d with
  | zero =>
    intro fuel t g x M hd hf ho hT
    obtain ⟨f, rfl⟩ : ∃ f, fuel = f + 1 := ⟨fuel - 1, by omega⟩
    have lt : jI i < jI t := by rw [jI_lt _ _ (by omega) (by omega) (by omega) (by omega)]; omega
    refine ⟨x, M, ?_, fun _ _ => rfl, fun z => ?_, fun _ fuel' T hf' _ => ?_⟩
    · unfold fX9_down_30
      rw [if_pos lt]
    · have := yc_le g n; omega
    · obtain ⟨f', rfl⟩ : ∃ f, fuel' = f + 1 := ⟨fuel' - 1, by omega⟩
      refine ⟨T, ?_, fun _ _ => rfl⟩
      unfold fX10_down_24
      rw [if_pos lt]
  | succ d ih =>
    intro fuel t g x M hd hf ho hT
    obtain ⟨f, rfl⟩ : ∃ f, fuel = f + 1 := ⟨fuel - 1, by omega⟩
    have od := ho.D
    have hn := od.1
    have nlt : ¬ jI i < jI t := by rw [jI_lt _ _ (by omega) (by omega) (by omega) (by omega)]; omega
    have cst : jI t + (1 : Int32) = jI ((t + 1 : Nat) : Int) := by rw [show (1 : Int32) = jI 1 from rfl, jI_add]; rfl
    have lf := fX5_leastFree_j2 hT od n dt_F 0 (by omega) (by unfold dt_F; omega)
    have yl := yc_le g n
    by_cases z : yc g n < n
    · obtain ⟨b, hb, tb, lb⟩ := least_ex (top1 n g) n (top1_ex od (yc_lt n z))
      have e1 : fX5_leastFree (M 13) = some (jI b) := lf.1 b (by omega) hb tb (fun y _ => lb y)
      obtain ⟨T1, l1, l2, l3⟩ := fX5_lift_j hT od b hb tb.1 0 (by omega)
      have ot := okT_lift ho b hb 0 (by omega) tb.2
      obtain ⟨r, M', a1, a2, a3, a4⟩ := ih f (t + 1) (gP g b 0 (-1) (-1)) (jI b) (dt_put M 13 T1) (by omega) (by omega) ot l2
      have yy := yc_lift (g := g) (b := b) 0 tb.1 n
      rw [if_pos hb] at yy
      refine ⟨r, M', ?_, fun k hk => by rw [a2 k hk, dt_put_ne _ _ _ _ hk], fun q => a3 (by omega), fun q fuel' T hf' hM => ?_⟩
      · unfold fX9_down_30
        have l1' : fX5_lift (jI b) 0 (M 13) = some T1 := l1
        rw [if_neg nlt, e1, dt_b1, if_neg (by rw [show (-1 : Int32) = jI (-1) from rfl, jI_eq _ _ (by omega) (by omega) (by omega) (by omega)]; omega), l1', dt_b1, cst]
        exact a1
      · obtain ⟨f', rfl⟩ : ∃ f, fuel' = f + 1 := ⟨fuel' - 1, by omega⟩
        have m2 : MT (dt_set T 7 b (-1)) n W (gP g b 0 (-1) (-1)) := by
          refine ⟨?_, ?_, fun fi hfi y hy => ?_, fun y hy => ?_, fun y hy h5 => ?_⟩
          · rw [dt_set_n _ _ _ _ _ (by omega)]; exact hM.1
          · rw [dt_set_n _ _ _ _ _ (by omega)]; exact hM.2.1
          · rw [dt_set_n _ _ _ _ _ (by omega), gP_f _ _ _ _ _ _ _ hfi]; exact hM.2.2.1 fi hfi y hy
          · rw [dt_set_s]
            by_cases e : y = b
            · subst e; rw [upd_s, gP_5]; rfl
            · rw [upd_n _ _ _ _ e, gP_n _ _ _ _ _ _ _ e]; exact hM.2.2.2.1 y hy
          · have e : y ≠ b := by intro e; subst e; rw [gP_5] at h5; omega
            rw [dt_set_n _ _ _ _ _ (by omega), gP_n _ _ _ _ _ _ _ e]
            rw [gP_n _ _ _ _ _ _ _ e] at h5
            exact hM.2.2.2.2 y hy h5
        obtain ⟨T', b1, b2⟩ := a4 (by omega) f' (dt_set T 7 b (-1)) (by omega) m2
        refine ⟨T', ?_, fun j hj => by rw [b2 j hj, dt_set_n _ _ _ _ _ hj]⟩
        unfold fX10_down_24
        rw [if_neg nlt, ← b1, ← cst]
        exact fX10_down_j31 hM od (fX10_down_24 f') (jI i) (jI t) b hb tb lb b dt_F 0 (by omega) (by unfold dt_F; omega)
    · have full := yc_full n (show yc g n = n by omega)
      have e1 : fX5_leastFree (M 13) = some (-1) := lf.2 (fun y _ hy q => full y hy q.1)
      refine ⟨-1, M, ?_, fun _ _ => rfl, fun _ => rfl, fun q => by omega⟩
      unfold fX9_down_30
      rw [if_neg nlt, e1, dt_b1, if_pos rfl]
theorem s_down : St_down dt_I := by
  intro M a1 h
  have h' := h
  obtain ⟨n, W, g, ⟨hT, hok, hRT, hD, hV, hC, hS⟩, hU, hI, hP, hF, hR⟩ := h
  obtain ⟨a, rfl, a0, a1⟩ := jI_ex a1
  have same : dt_I (dt_put M 18 (M 18)) := by rw [dt_put_self]; exact h'
  have od := hok.D
  have hn := od.1
  have it := fX10_inTower_j (T := M 18) hRT od
  have yl := yc_le g n
  have qi : fX10_isIn (jI a) 0 (jI ((n : Int) - yc g n - 1)) = some (if 0 ≤ a ∧ a ≤ (n : Int) - yc g n - 1 then 1 else 0) := fX10_isIn_j a 0 _ (by omega) (by omega) (by omega) (by omega) (by omega) (by omega)
  have k1 : (jI a < (0 : Int32)) = (a < 0) := jI_lt a 0 (by omega) (by omega) (by omega) (by omega)
  have k2 : (jI a < (20 : Int32)) = (a < 20) := jI_lt a 20 (by omega) (by omega) (by omega) (by omega)
  have mdl : fX10_down (jI a) (M 18) = (if 0 ≤ a ∧ a ≤ (n : Int) - yc g n - 1 then ((fX10_laysTower (M 18)).bind fun q3 => (fX10_down_24 dt_F (jI a) (-1 : Int32) (0 : Int32) q3)) else some (-1, M 18)) := by
    unfold fX10_down
    rw [it, dt_b1, show (1 : Int32) = jI 1 from rfl, jI_sub, qi, dt_b1]
    by_cases z : 0 ≤ a ∧ a ≤ (n : Int) - yc g n - 1
    · rw [if_pos z, if_pos z, i10] <;> rfl
    · rw [if_neg z, if_neg z, i00] <;> rfl
  by_cases z : 0 ≤ a ∧ a < 20
  · obtain ⟨i, rfl⟩ : ∃ q : Nat, a = q := ⟨a.toNat, by omega⟩
    obtain ⟨T1, t1, t2⟩ := TW_become hT hn (M 13)
    obtain ⟨r, M', b1, b2, b3, b4⟩ := down_loop (n := n) (W := W) i (by omega) (i + 1) dt_F 0 g (-1) (dt_put M 13 T1) (by omega) (by unfold dt_F; omega) hok t2
    have cls : fX9_down (jI i) M = some (r, M') := by
      unfold fX9_down
      rw [if_neg (by rw [k1]; omega), if_pos (by rw [k2]; omega), t1, dt_b1]
      exact b1
    have e13 : ∀ k, k ≠ 13 → M' k = M k := fun k hk => by rw [b2 k hk, dt_put_ne _ _ _ _ hk]
    have e18 : M' 18 = M 18 := e13 18 (by omega)
    have inv : ∀ X : dt_Ob, (∀ j, j ≠ 7 → j ≠ 8 → X j = M 18 j) → dt_I (dt_put M' 18 X) := by
      intro X hX
      have sc : dt_I (dt_put M 18 X) := dt_I_scr h' X (fun j hj => hX j (by omega) (by omega))
      have ek : ∀ k, k ≤ 12 → (dt_put M' 18 X) k = (dt_put M 18 X) k := fun k hk => by rw [dt_put_ne _ _ _ _ (by omega), dt_put_ne _ _ _ _ (by omega), e13 k (by omega)]
      have e18' : (dt_put M' 18 X) 18 = (dt_put M 18 X) 18 := by rw [dt_put_s, dt_put_s]
      obtain ⟨n', W', g', w1, w2, w3, w4, w5, w6⟩ := sc
      refine ⟨n', W', g', ?_, ?_, ?_, ?_, ?_, ?_⟩
      · rw [ek 1 (by omega), ek 2 (by omega), ek 3 (by omega), ek 4 (by omega), ek 5 (by omega), e18']; exact w1
      · rw [ek 11 (by omega), e18']; exact w2
      · rw [ek 0 (by omega), ek 6 (by omega), ek 7 (by omega), ek 8 (by omega), ek 9 (by omega), ek 10 (by omega), e18']; exact w3
      · rw [ek 0 (by omega), e18']; exact w4
      · rw [ek 12 (by omega), e18']; exact w5
      · rw [ek 0 (by omega), e18']; exact w6
    by_cases y : (i : Int) ≤ (n : Int) - yc g n - 1
    · obtain ⟨X1, x1, x2, x3⟩ := fX10_laysTower_j (T := M 18) hRT hn
      obtain ⟨X2, y1, y2⟩ := b4 (by omega) dt_F X1 (by unfold dt_F; omega) x3
      refine ⟨r, M', X2, cls, ?_, inv X2 (fun j h7 h8 => by rw [y2 j h7, x2 j h7 h8])⟩
      rw [e18, mdl, if_pos (by omega), x1, dt_b1]
      exact y1
    · have hr : r = -1 := b3 (by omega)
      subst hr
      refine ⟨-1, M', M 18, cls, ?_, inv (M 18) (fun _ _ _ => rfl)⟩
      rw [e18, mdl, if_neg (by omega)]
  · refine ⟨-1, M, M 18, ?_, ?_, same⟩
    · unfold fX9_down
      by_cases y : a < 0
      · rw [if_pos (by rw [k1]; exact y)]
      · rw [if_neg (by rw [k1]; exact y), if_neg (by rw [k2]; omega)]
    · rw [mdl, if_neg (by omega)]
