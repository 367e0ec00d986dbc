/-! ===== the reference: its tower laid, its words for a block ===== -/
theorem fX10_laysTower_j2 {n : Nat} {W : Int} {g : Nat → Nat → Int} (hn : n ≤ 20) : ∀ (k fuel i : Nat) (T : dt_Ob), RT (T 0) n W g → (∀ b, b < i → T 7 b = jI (g 5 b) ∧ T 8 b = jI (g 6 b)) → i + k = n → k < fuel → ∃ T', fX10_laysTower_2 fuel (jI i) T = some T' ∧ (∀ j, j ≠ 7 → j ≠ 8 → T' j = T j) ∧ (∀ b, b < n → T' 7 b = jI (g 5 b) ∧ T' 8 b = jI (g 6 b)) := by
  intro k
  induction k with
  | zero =>
    intro fuel i T h hz hk hf
    obtain ⟨f, rfl⟩ : ∃ f, fuel = f + 1 := ⟨fuel - 1, by omega⟩
    refine ⟨T, ?_, fun _ _ _ => rfl, fun b hb => hz b (by omega)⟩
    unfold fX10_laysTower_2
    simp (disch := omega) only [jI_lit, jI_add, jI_sub, jI_mul, jI_neg, jI_lt, jI_le, jI_eq, jI_div, dt_ix_j, dt_b1, Int.toNat_natCast, Int.reduceToNat, h.2.1]
    rw [if_pos (by omega)]
  | succ k ih =>
    intro fuel i T h hz hk hf
    obtain ⟨f, rfl⟩ : ∃ f, fuel = f + 1 := ⟨fuel - 1, by omega⟩
    have o5 : T 0 (20 + 8 * i + 5) = jI (g 5 i) := h.2.2 5 (by omega) i (by omega)
    have o6 : T 0 (20 + 8 * i + 6) = jI (g 6 i) := h.2.2 6 (by omega) i (by omega)
    obtain ⟨T', a1, a2, a3⟩ := ih f (i + 1) (dt_set (dt_set T 7 i (jI (g 5 i))) 8 i (jI (g 6 i))) (by rw [dt_set_n _ _ _ _ _ (by omega), dt_set_n _ _ _ _ _ (by omega)]; exact h) (fun b hb => by
      rw [dt_set_n (dt_set T 7 i (jI (g 5 i))) 8 i 7 _ (by omega), dt_set_s, dt_set_s, dt_set_n T 7 i 8 _ (by omega)]
      by_cases e : b = i
      · subst e; rw [upd_s, upd_s]; exact ⟨rfl, rfl⟩
      · rw [upd_n _ _ _ _ e, upd_n _ _ _ _ e]; exact hz b (by omega)) (by omega) (by omega)
    refine ⟨T', ?_, fun j h7 h8 => by rw [a2 j h7 h8, dt_set_n _ _ _ _ _ h8, dt_set_n _ _ _ _ _ h7], a3⟩
    unfold fX10_laysTower_2
    simp (disch := omega) only [jI_lit, jI_add, jI_sub, jI_mul, jI_neg, jI_lt, jI_le, jI_eq, jI_div, dt_ix_j, dt_b1, Int.toNat_natCast, Int.reduceToNat, h.2.1, fX10_own_j, o5, dt_set_n, o6]
    rw [if_neg (by omega), show ((i : Int) + 1) = ((i + 1 : Nat) : Int) by omega]
    exact a1
theorem RT_MT {T : dt_Ob} {n : Nat} {W : Int} {g : Nat → Nat → Int} (h : RT (T 0) n W g) (hz : ∀ b, b < n → T 7 b = jI (g 5 b) ∧ T 8 b = jI (g 6 b)) : MT T n W g := ⟨h.1, h.2.1, fun f hf b hb => h.2.2 f (by omega) b hb, fun b hb => (hz b hb).1, fun b hb _ => (hz b hb).2⟩
theorem fX10_laysTower_j {T : dt_Ob} {n : Nat} {W : Int} {g : Nat → Nat → Int} (h : RT (T 0) n W g) (hn : n ≤ 20) : ∃ T', fX10_laysTower T = some T' ∧ (∀ j, j ≠ 7 → j ≠ 8 → T' j = T j) ∧ MT T' n W g := by
  obtain ⟨T', a1, a2, a3⟩ := fX10_laysTower_j2 hn n dt_F 0 T h (fun b hb => by omega) (by omega) (by unfold dt_F; omega)
  exact ⟨T', a1, a2, RT_MT (by rw [a2 0 (by omega) (by omega)]; exact h) a3⟩
theorem fX10_isBlock_j {T : dt_Ob} {n : Nat} (h : T 0 1 = jI n) (hn : n ≤ 20) (b : Int) (h0 : -2147483648 ≤ b) (h1 : b < 2147483648) : fX10_isBlock (jI b) T = some (if 0 ≤ b ∧ b < n then 1 else 0) := by
  unfold fX10_isBlock
  simp (disch := omega) only [jI_lit, jI_add, jI_sub, jI_mul, jI_neg, jI_lt, jI_le, jI_eq, jI_div, dt_ix_j, dt_b1, Int.toNat_natCast, Int.reduceToNat, h]
  rw [fX10_isIn_j _ _ _ (by omega) (by omega) (by omega) (by omega) (by omega) (by omega), dt_b1]
  by_cases z : 0 ≤ b ∧ b < n
  · rw [if_pos z, if_pos (show 0 ≤ b ∧ b ≤ (n : Int) - 1 by omega)] <;> rfl
  · rw [if_neg z, if_neg (show ¬ (0 ≤ b ∧ b ≤ (n : Int) - 1) by omega)] <;> rfl
theorem fX10_isOnTop_j2 {T : dt_Ob} {n : Nat} {W : Int} {g : Nat → Nat → Int} (h : MT T n W g) (ho : okD n W g) (b : Nat) (hb : b < n) (hc : 0 ≤ g 5 b) : ∀ (k fuel i : Nat), i + k = n → k < fuel → ((∀ o, i ≤ o → o < n → ovl g b o → g 6 o ≤ g 6 b) → fX10_isOnTop_2 fuel (jI b) (jI i) T = some 1) ∧ ((∃ o, i ≤ o ∧ o < n ∧ ovl g b o ∧ ¬ g 6 o ≤ g 6 b) → fX10_isOnTop_2 fuel (jI b) (jI i) T = some 0) := by
  have hn := ho.1
  have r0 := ho.2.2.2.1 b hb
  have r := r0.1
  unfold okB at r
  have w := ho.2.2.1
  have e7 := h.2.2.2.1 b hb
  have e8 := h.2.2.2.2 b hb hc
  intro k
  induction k with
  | zero =>
    intro fuel i hk hf
    obtain ⟨f, rfl⟩ : ∃ f, fuel = f + 1 := ⟨fuel - 1, by omega⟩
    refine ⟨fun _ => ?_, fun ⟨j, z1, z2, _⟩ => by omega⟩
    unfold fX10_isOnTop_2
    simp (disch := omega) only [jI_lit, jI_add, jI_sub, jI_mul, jI_neg, jI_lt, jI_le, jI_eq, jI_div, dt_ix_j, dt_b1, Int.toNat_natCast, Int.reduceToNat, h.2.1]
    rw [if_pos (by omega)]
    try rfl
  | succ k ih =>
    intro fuel i hk hf
    obtain ⟨f, rfl⟩ : ∃ f, fuel = f + 1 := ⟨fuel - 1, by omega⟩
    have hi' : i < n := by omega
    have ri0 := ho.2.2.2.1 i hi'
    have ri := ri0.1
    unfold okB at ri
    have i7 := h.2.2.2.1 i hi'
    have ihh := ih f (i + 1) (by omega) (by omega)
    have cst : ((i : Int) + 1) = ((i + 1 : Nat) : Int) := by omega
    have skip : (¬ (ovl g b i ∧ ¬ g 6 i ≤ g 6 b)) → fX10_isOnTop_2 (f + 1) (jI b) (jI i) T = fX10_isOnTop_2 f (jI b) (jI ((i + 1 : Nat) : Int)) T → ((∀ o, i ≤ o → o < n → ovl g b o → g 6 o ≤ g 6 b) → fX10_isOnTop_2 (f + 1) (jI b) (jI i) T = some 1) ∧ ((∃ o, i ≤ o ∧ o < n ∧ ovl g b o ∧ ¬ g 6 o ≤ g 6 b) → fX10_isOnTop_2 (f + 1) (jI b) (jI i) T = some 0) := by
      intro no e
      rw [e]
      refine ⟨fun z => ihh.1 (fun o ho' => z o (by omega)), fun ⟨o, z1, z2, z3, z4⟩ => ihh.2 ⟨o, ?_, z2, z3, z4⟩⟩
      by_cases x : o = i
      · subst x; exact absurd ⟨z3, z4⟩ no
      · omega
    by_cases z : g 5 i = -1
    · apply skip
      · unfold ovl; omega
      · rw [fX10_isOnTop_2]
        unfold fX10_isOnTop_90
        simp (disch := omega) only [jI_lit, jI_add, jI_sub, jI_mul, jI_neg, jI_lt, jI_le, jI_eq, jI_div, dt_ix_j, dt_b1, Int.toNat_natCast, Int.reduceToNat, h.2.1, i7]
        rw [if_neg (by omega), if_pos z, cst]
    · have i8 := h.2.2.2.2 i hi' (by omega)
      by_cases y : g 6 b < g 6 i
      · by_cases x : g 5 b + g 0 b - 1 < g 5 i
        · apply skip
          · unfold ovl; omega
          · rw [fX10_isOnTop_2]
            unfold fX10_isOnTop_90
            simp (disch := omega) only [jI_lit, jI_add, jI_sub, jI_mul, jI_neg, jI_lt, jI_le, jI_eq, jI_div, dt_ix_j, dt_b1, Int.toNat_natCast, Int.reduceToNat, h.2.1, i7, i8, e7, e8, own_0 h hn b hb, own_0 h hn i hi']
            rw [if_neg (by omega), if_neg z, if_pos y, if_pos x, cst]
        · by_cases v : g 5 i + g 0 i - 1 < g 5 b
          · apply skip
            · unfold ovl; omega
            · rw [fX10_isOnTop_2]
              unfold fX10_isOnTop_90
              simp (disch := omega) only [jI_lit, jI_add, jI_sub, jI_mul, jI_neg, jI_lt, jI_le, jI_eq, jI_div, dt_ix_j, dt_b1, Int.toNat_natCast, Int.reduceToNat, h.2.1, i7, i8, e7, e8, own_0 h hn b hb, own_0 h hn i hi']
              rw [if_neg (by omega), if_neg z, if_pos y, if_neg x, if_pos v, cst]
          · have ov : ovl g b i := by unfold ovl; omega
            refine ⟨fun q => ?_, fun _ => ?_⟩
            · have := q i (by omega) hi' ov; omega
            · rw [fX10_isOnTop_2]
              simp (disch := omega) only [jI_lit, jI_add, jI_sub, jI_mul, jI_neg, jI_lt, jI_le, jI_eq, jI_div, dt_ix_j, dt_b1, Int.toNat_natCast, Int.reduceToNat, h.2.1, i7, i8, e7, e8, own_0 h hn b hb, own_0 h hn i hi']
              rw [if_neg (by omega), if_neg z, if_pos y, if_neg x, if_neg v]
              try rfl
      · apply skip
        · omega
        · rw [fX10_isOnTop_2]
          unfold fX10_isOnTop_90
          simp (disch := omega) only [jI_lit, jI_add, jI_sub, jI_mul, jI_neg, jI_lt, jI_le, jI_eq, jI_div, dt_ix_j, dt_b1, Int.toNat_natCast, Int.reduceToNat, h.2.1, i7, i8, e7, e8, own_0 h hn b hb, own_0 h hn i hi']
          rw [if_neg (by omega), if_neg z, if_neg y, cst]
theorem fX10_isOnTop_j {T : dt_Ob} {n : Nat} {W : Int} {g : Nat → Nat → Int} (h : MT T n W g) (ho : okD n W g) (b : Nat) (hb : b < n) (hc : 0 ≤ g 5 b) : (free n g b → fX10_isOnTop (jI b) T = some 1) ∧ (¬ free n g b → fX10_isOnTop (jI b) T = some 0) := by
  have hn := ho.1
  unfold fX10_isOnTop free
  have a := fX10_isOnTop_j2 h ho b hb hc n dt_F 0 (by omega) (by unfold dt_F; omega)
  refine ⟨fun z => a.1 (fun o _ => z o), fun z => a.2 ?_⟩
  refine Classical.byContradiction fun y => z (fun o ho' ov => ?_)
  refine Classical.byContradiction fun x => y ⟨o, by omega, ho', ov, x⟩
/-- what a carry costs -/
def cst (p c l : Int) : Int := (if 0 ≤ p - 10 - c then p - 10 - c else 0 - (p - 10 - c)) + l
theorem fX9_costOf_j (p c l : Int) (h0 : 0 ≤ p) (h1 : p < 100) (h2 : 0 ≤ c) (h3 : c < 100) : fX9_costOf (jI p) (jI c) (jI l) = some (jI (cst p c l)) := by
  unfold fX9_costOf cst
  simp (disch := omega) only [jI_lit, jI_add, jI_sub, jI_mul, jI_neg, jI_lt, jI_le, jI_eq, jI_div, dt_ix_j, dt_b1, Int.toNat_natCast, Int.reduceToNat]
  split <;> simp only [jI_add]
theorem fX10_costOf_j (T : dt_Ob) (p c l : Int) (h0 : 0 ≤ p) (h1 : p < 100) (h2 : 0 ≤ c) (h3 : c < 100) : fX10_costOf (jI p) (jI c) (jI l) T = some (jI (cst p c l)) := by
  unfold fX10_costOf fX10_costOf_21 cst
  simp (disch := omega) only [jI_lit, jI_add, jI_sub, jI_mul, jI_neg, jI_lt, jI_le, jI_eq, jI_div, dt_ix_j, dt_b1, Int.toNat_natCast, Int.reduceToNat]
  split
  · rfl
  · rw [Int.zero_sub]
theorem fX9_isPlace_j (p : Int) (h0 : -2147483648 ≤ p) (h1 : p < 2147483648) : fX9_isPlace (jI p) = some (if 0 ≤ p ∧ p ≤ 59 then 1 else 0) := by
  unfold fX9_isPlace
  simp (disch := omega) only [jI_lit, jI_add, jI_sub, jI_mul, jI_neg, jI_lt, jI_le, jI_eq, jI_div, dt_ix_j, dt_b1, Int.toNat_natCast]
  by_cases a : p < 0
  · rw [if_pos a, if_neg (by omega)] <;> rfl
  · rw [if_neg a]
    by_cases c : (60 : Int) ≤ p
    · rw [if_pos c, if_neg (by omega)] <;> rfl
    · rw [if_neg c, if_pos (by omega)] <;> rfl
/-! ===== operations: refused, fault, height ===== -/
theorem s_refused : St_refused dt_I := by
  intro M a1 h
  have h' := h
  obtain ⟨n, W, g, ⟨hT, hok, hRT, hD, hV, hC, hS⟩, hU, hI, hP, hF, hR⟩ := h
  unfold fX9_refused fX10_refused
  rw [hR.1, hR.2]
  by_cases z : a1 = 0
  · rw [if_pos z]; exact ⟨_, rfl, rfl, h'⟩
  · rw [if_neg z]
    by_cases y : a1 = 1
    · rw [if_pos y]; exact ⟨_, rfl, rfl, h'⟩
    · rw [if_neg y]; exact ⟨_, rfl, rfl, h'⟩
theorem s_fault : St_fault dt_I := by
  intro M a1 h
  have h' := h
  obtain ⟨n, W, g, ⟨hT, hok, hRT, hD, hV, hC, hS⟩, hU, hI, hP, hF, hR⟩ := h
  unfold fX9_fault fX10_fault
  rw [hF.1, hF.2]
  by_cases z : a1 = 0
  · rw [if_pos z]; exact ⟨_, rfl, rfl, h'⟩
  · rw [if_neg z]
    by_cases y : a1 = 1
    · rw [if_pos y]; exact ⟨_, rfl, rfl, h'⟩
    · rw [if_neg y]; exact ⟨_, rfl, rfl, h'⟩
/-- the reference's scratch rows may change -/
theorem dt_I_scr {M : dt_M} (h : dt_I M) (T : dt_Ob) (e : ∀ j, j = 0 ∨ j = 1 ∨ j = 2 ∨ j = 3 ∨ j = 4 ∨ j = 5 ∨ j = 6 ∨ j = 13 ∨ j = 18 ∨ j = 25 ∨ j = 27 → T j = M 18 j) : dt_I (dt_put M 18 T) := by
  obtain ⟨n, W, g, ⟨hT, hok, hRT, hD, hV, hC, hS⟩, hU, hI, hP, hF, hR⟩ := h
  have t0 := e 0 (by omega)
  have t1 := e 1 (by omega)
  have t2 := e 2 (by omega)
  have t3 := e 3 (by omega)
  have t4 := e 4 (by omega)
  have t5 := e 5 (by omega)
  have t6 := e 6 (by omega)
  have t13 := e 13 (by omega)
  have t18 := e 18 (by omega)
  have t25 := e 25 (by omega)
  have t27 := e 27 (by omega)
  refine ⟨n, W, g, ?_, ?_, ?_, ?_, ?_, ?_⟩
  · show RW (M 1) (M 2) (M 3) (M 4) (M 5) (T 0) n W g
    rw [t0]; exact ⟨hT, hok, hRT, hD, hV, hC, hS⟩
  · show RU (M 11) (T 2) (T 3 0) n W g (T 0 4)
    rw [t0, t2, t3]; exact hU
  · show M 0 2 0 = T 6 0 ∧ (M 0 2 0 = 0 ∨ (M 0 2 0 = 1 ∧ ∃ (n' : Nat) (W' : Int) (g' : Nat → Nat → Int), RW (M 6) (M 7) (M 8) (M 9) (M 10) (T 1) n' W' g'))
    rw [t6, t1]; exact hI
  · show RP (M 0 4) (M 0 5 0) (T 13) (T 18 0)
    rw [t13, t18]; exact hP
  · show M 12 6 0 = T 25 0 ∧ M 12 7 0 = T 27 0
    rw [t25, t27]; exact hF
  · show M 0 7 0 = T 4 0 ∧ M 0 8 0 = T 5 0
    rw [t4, t5]; exact hR
theorem s_height : St_height dt_I := by
  intro M a1 h
  have h' := h
  obtain ⟨n, W, g, ⟨hT, hok, hRT, hD, hV, hC, hS⟩, hU, hI, hP, hF, hR⟩ := h
  obtain ⟨a, rfl, l0, l1⟩ := jI_ex a1
  have od := hok.D
  have hn := od.1
  have w := od.2.2.1
  have w2 := od.2.1
  obtain ⟨T', t1, t2, t3⟩ := fX10_laysTower_j hRT hn
  have keep : dt_I (dt_put M 18 T') := dt_I_scr h' T' (fun j hj => t2 j (by omega) (by omega))
  have same : dt_I (dt_put M 18 (M 18)) := by rw [dt_put_self]; exact h'
  unfold fX9_height fX10_height
  rw [fX5_tallest_j hT od, show dt_ix (0 : Int32) 1225 = some 0 from rfl, dt_b1, dt_b1, hRT.1, t1]
  simp (disch := omega) only [jI_lit, jI_add, jI_sub, jI_mul, jI_neg, jI_lt, jI_le, jI_eq, jI_div, dt_ix_j, dt_b1, Int.toNat_natCast, Int.reduceToNat, hT.1]
  rw [fX10_isIn_j _ _ _ (by omega) (by omega) (by omega) (by omega) (by omega) (by omega), dt_b1]
  by_cases z : a = -1
  · rw [if_pos z, if_pos (show -1 ≤ a ∧ a ≤ W - 1 by omega), if_pos z, i10j, fX10_highest_j t3 od]
    exact ⟨_, T', rfl, rfl, keep⟩
  · rw [if_neg z]
    by_cases y : a < 0
    · rw [if_pos y, if_neg (show ¬ (-1 ≤ a ∧ a ≤ W - 1) by omega), i00j]
      exact ⟨_, M 18, rfl, rfl, same⟩
    · rw [if_neg y]
      by_cases x : W ≤ a
      · rw [if_pos x, if_neg (show ¬ (-1 ≤ a ∧ a ≤ W - 1) by omega), i00j]
        exact ⟨_, M 18, rfl, rfl, same⟩
      · rw [if_neg x, if_pos (show -1 ≤ a ∧ a ≤ W - 1 by omega), if_neg z, i10j]
        rw [fX10_highOf_j t3 od a (by omega) (by omega), hT.2.2.2.1 a.toNat (by omega), show ((a.toNat : Nat) : Int) = a by omega]
        exact ⟨_, T', rfl, rfl, keep⟩
