/-! ===== operations: columns, block ===== -/
theorem hi_congr {g g' : Nat → Nat → Int} (c : Int) : ∀ n, (∀ b, b < n → g' 0 b = g 0 b ∧ g' 5 b = g 5 b ∧ g' 6 b = g 6 b) → hi g' c n = hi g c n := by
  intro n
  induction n with
  | zero => intro _; rfl
  | succ n ih =>
    intro h
    unfold hi
    obtain ⟨h0, h5, h6⟩ := h n (by omega)
    rw [ih (fun b hb => h b (by omega)), h0, h5, h6]
theorem ce_congr {g g' : Nat → Nat → Int} (c l : Int) : ∀ n, (∀ b, b < n → g' 0 b = g 0 b ∧ g' 5 b = g 5 b ∧ g' 6 b = g 6 b) → ce g' c l n = ce g c l n := by
  intro n
  induction n with
  | zero => intro _; rfl
  | succ n ih =>
    intro h
    unfold ce
    obtain ⟨h0, h5, h6⟩ := h n (by omega)
    rw [ih (fun b hb => h b (by omega)), h0, h5, h6]
theorem fX10_columns_j14 (x1 : Int32) : ∀ (k fuel i : Nat) (T : dt_Ob), i + k = 1225 → k < fuel → ∃ T', fX10_columns_14 fuel x1 (jI i) T = some (1, T') ∧ (∀ j, j ≠ 0 → j ≠ 3 → T' j = T j) ∧ T' 3 0 = 0 ∧ T' 0 0 = x1 ∧ ∀ q, 0 < q → q < 1225 → T' 0 q = if i ≤ q then 0 else T 0 q := by
  intro k
  induction k with
  | zero =>
    intro fuel i T hk hf
    obtain ⟨f, rfl⟩ : ∃ f, fuel = f + 1 := ⟨fuel - 1, by omega⟩
    refine ⟨dt_set (dt_set T 0 0 x1) 3 0 0, ?_, ?_, ?_, ?_, ?_⟩
    · unfold fX10_columns_14 fX10_forgets
      simp (disch := omega) only [jI_lit, jI_add, jI_sub, jI_mul, jI_neg, jI_lt, jI_le, jI_eq, jI_div, dt_ix_j, dt_b1, Int.toNat_natCast, Int.reduceToNat]
      rw [if_pos (by omega)]
      try rfl
    · intro j h0 h3
      rw [dt_set_n _ _ _ _ _ h3, dt_set_n _ _ _ _ _ h0]
    · exact dt_set_at _ _ _ _
    · rw [dt_set_n _ _ _ _ _ (by omega)]; exact dt_set_at _ _ _ _
    · intro q h0 h1
      rw [dt_set_n _ _ _ _ _ (by omega), dt_set_s, upd_n _ _ _ _ (by omega), if_neg (by omega)]
  | succ k ih =>
    intro fuel i T hk hf
    obtain ⟨f, rfl⟩ : ∃ f, fuel = f + 1 := ⟨fuel - 1, by omega⟩
    obtain ⟨T', a1, a2, a3, a4, a5⟩ := ih f (i + 1) (dt_set T 0 i 0) (by omega) (by omega)
    refine ⟨T', ?_, fun j h0 h3 => by rw [a2 j h0 h3, dt_set_n _ _ _ _ _ h0], a3, a4, ?_⟩
    · unfold fX10_columns_14
      simp (disch := omega) only [jI_lit, jI_add, jI_sub, jI_mul, jI_neg, jI_lt, jI_le, jI_eq, jI_div, dt_ix_j, dt_b1, Int.toNat_natCast, Int.reduceToNat]
      rw [if_neg (by omega), show ((i : Int) + 1) = ((i + 1 : Nat) : Int) by omega]
      exact a1
    · intro q h0 h1
      rw [a5 q h0 h1, dt_set_s]
      by_cases e : q = i
      · rw [if_neg (by omega), if_pos (by omega), upd_e _ _ _ _ e]
      · rw [upd_n _ _ _ _ e]
        by_cases y : i + 1 ≤ q
        · rw [if_pos y, if_pos (by omega)]
        · rw [if_neg y, if_neg (by omega)]
theorem RW_begin (a : Int) (h2 : 2 ≤ a) (h8 : a ≤ 8) (T D V C S : dt_Ob) (w : Nat → Int32) (hw0 : w 0 = jI a) (hw : ∀ q, 0 < q → q < 1225 → w q = 0) : RW (dt_setA (dt_setA (dt_set (dt_set T 0 0 (jI a)) 1 0 (0 : Int32)) 10 (dt_fill ((dt_set (dt_set T 0 0 (jI a)) 1 0 (0 : Int32)) 10) 160 (-1 : Int32))) 9 (dt_fill ((dt_set (dt_set T 0 0 (jI a)) 1 0 (0 : Int32)) 9) 8 (0 : Int32))) (dt_set (dt_set (dt_set (dt_set (dt_set (dt_set D 0 0 (0 : Int32)) 5 0 (0 : Int32)) 1 0 (0 : Int32)) 2 0 (0 : Int32)) 3 0 (0 : Int32)) 4 0 (0 : Int32)) (dt_set (dt_set V 2 0 (0 : Int32)) 5 0 (0 : Int32)) (dt_setA (dt_set C 0 0 (0 : Int32)) 2 (dt_fill (C 2) 8 (0 : Int32))) (dt_setA (dt_setA S 0 (dt_fill (S 0) 72 (0 : Int32))) 1 (dt_fill (S 1) 9 (0 : Int32))) w 0 a (fun _ _ => 0) := by
  refine ⟨⟨?_, ?_, ?_, ?_, ?_⟩, ⟨by omega, h2, h8, fun b hb => by omega, fun b hb => by omega, fun b hb => by omega⟩, ⟨hw0, hw 1 (by omega) (by omega), fun f _ b hb => by omega⟩, ?_, ?_, ?_, ?_⟩
  · rfl
  · rfl
  · intro f hf b hb; omega
  · intro c hc
    rw [dt_setA_s, dt_fill_i _ _ _ _ hc]
    try rfl
  · intro c l hc hl
    rw [dt_setA_ne _ _ _ _ (by omega), dt_setA_s, dt_fill_i _ _ _ _ (by omega)]
    try rfl
  · refine ⟨?_, ?_, ?_, ?_, ?_, ?_, ?_⟩
    · rw [hw 2 (by omega) (by omega)] <;> rfl
    · rw [hw 3 (by omega) (by omega)] <;> rfl
    · rw [hw 4 (by omega) (by omega)] <;> rfl
    · rw [hw 5 (by omega) (by omega)] <;> rfl
    · rw [hw 6 (by omega) (by omega)] <;> rfl
    · exact Or.inl rfl
    · rw [hw 7 (by omega) (by omega)] <;> rfl
  · exact RV_empty rfl rfl (hw 340 (by omega) (by omega))
  · refine ⟨0, by omega, rfl, hw 8 (by omega) (by omega), fun i hi => by omega, fun _ _ => false, fun _ _ _ _ => rfl, fun _ _ => rfl, fun a b ha hb => hw _ (by omega) (by omega), fun a ha b => ?_⟩
    rw [dt_setA_s, dt_fill_i _ _ _ _ ha, Bool.and_false]
    show (0#32).getLsbD b = false
    exact BitVec.getLsbD_zero
  · refine ⟨fun h t hh h1 h2 => ⟨0, by omega, by omega, ?_, hw _ (by omega) (by omega)⟩, fun t ht => ⟨0, by omega, by omega, ?_, hw _ (by omega) (by omega)⟩⟩
    · rw [dt_setA_ne _ _ _ _ (by omega), dt_setA_s, dt_fill_i _ _ _ _ (by omega)] <;> rfl
    · rw [dt_setA_s, dt_fill_i _ _ _ _ (by omega)] <;> rfl
theorem s_columns : St_columns dt_I := by
  intro M a1 h
  have h' := h
  obtain ⟨n, W, g, ⟨hT, hok, hRT, hD, hV, hC, hS⟩, hU, hI, hP, hF, hR⟩ := h
  obtain ⟨a, rfl, l0, l1⟩ := jI_ex a1
  have same : dt_I (dt_put M 18 (M 18)) := by rw [dt_put_self]; exact h'
  by_cases z : 2 ≤ a ∧ a ≤ 8
  · obtain ⟨T', t1, t2, t3, t4, t5⟩ := fX10_columns_j14 (jI a) 1225 dt_F 0 (M 18) (by omega) (by unfold dt_F; omega)
    refine ⟨1, dt_put (dt_put (dt_put (dt_put (dt_put (dt_put M 1 (dt_setA (dt_setA (dt_set (dt_set (M 1) 0 0 (jI a)) 1 0 (0 : Int32)) 10 (dt_fill ((dt_set (dt_set (M 1) 0 0 (jI a)) 1 0 (0 : Int32)) 10) 160 (-1 : Int32))) 9 (dt_fill ((dt_set (dt_set (M 1) 0 0 (jI a)) 1 0 (0 : Int32)) 9) 8 (0 : Int32)))) 2 (dt_set (dt_set (dt_set (dt_set (dt_set (dt_set (M 2) 0 0 (0 : Int32)) 5 0 (0 : Int32)) 1 0 (0 : Int32)) 2 0 (0 : Int32)) 3 0 (0 : Int32)) 4 0 (0 : Int32))) 3 (dt_set (dt_set (M 3) 2 0 (0 : Int32)) 5 0 (0 : Int32))) 4 (dt_setA (dt_set (M 4) 0 0 (0 : Int32)) 2 (dt_fill (M 4 2) 8 (0 : Int32)))) 5 (dt_setA (dt_setA (M 5) 0 (dt_fill (M 5 0) 72 (0 : Int32))) 1 (dt_fill (M 5 1) 9 (0 : Int32)))) 11 (dt_set (dt_set (M 11) 4 0 (0 : Int32)) 5 0 (0 : Int32)), T', ?_, ?_, ?_⟩
    · unfold fX9_columns fX8_begin fX6_forget fX5_begin fX5_clearCells fX1_begin fX1_dawn fX7_begin fX0_begin fX4_begin
      rw [if_neg, if_pos]
      · rfl
      · rw [show (8 : Int32) = jI 8 from rfl, jI_le _ _ (by omega) (by omega) (by omega) (by omega)]; omega
      · rw [show (2 : Int32) = jI 2 from rfl, jI_lt _ _ (by omega) (by omega) (by omega) (by omega)]; omega
    · show fX10_columns (jI a) (M 18) = _
      have q1 : fX10_isIn (jI a) 2 8 = some (if 2 ≤ a ∧ a ≤ 8 then 1 else 0) := fX10_isIn_j a 2 8 (by omega) (by omega) (by omega) (by omega) (by omega) (by omega)
      unfold fX10_columns
      rw [q1, dt_b1, if_pos z, i10]
      exact t1
    · have rw1 := RW_begin a z.1 z.2 (M 1) (M 2) (M 3) (M 4) (M 5) (T' 0) t4 (fun q h0 h1 => by rw [t5 q h0 h1, if_pos (by omega)])
      refine ⟨0, a, fun _ _ => 0, rw1, ?_, ?_, ?_, ?_, ?_⟩
      · show RU (dt_set (dt_set (M 11) 4 0 (0 : Int32)) 5 0 (0 : Int32)) (T' 2) (T' 3 0) 0 a (fun _ _ => 0) (T' 0 4)
        rw [t3]
        exact RU_nil _ _ _ _ _ _ rfl rfl
      · show M 0 2 0 = T' 6 0 ∧ (M 0 2 0 = 0 ∨ (M 0 2 0 = 1 ∧ ∃ (n' : Nat) (W' : Int) (g' : Nat → Nat → Int), RW (M 6) (M 7) (M 8) (M 9) (M 10) (T' 1) n' W' g'))
        rw [t2 6 (by omega) (by omega), t2 1 (by omega) (by omega)]; exact hI
      · show RP (M 0 4) (M 0 5 0) (T' 13) (T' 18 0)
        rw [t2 13 (by omega) (by omega), t2 18 (by omega) (by omega)]; exact hP
      · show M 12 6 0 = T' 25 0 ∧ M 12 7 0 = T' 27 0
        rw [t2 25 (by omega) (by omega), t2 27 (by omega) (by omega)]; exact hF
      · show M 0 7 0 = T' 4 0 ∧ M 0 8 0 = T' 5 0
        rw [t2 4 (by omega) (by omega), t2 5 (by omega) (by omega)]; exact hR
  · refine ⟨0, M, M 18, ?_, ?_, same⟩
    · unfold fX9_columns
      simp (disch := omega) only [jI_lit, jI_add, jI_sub, jI_mul, jI_neg, jI_lt, jI_le, jI_eq, jI_div, dt_ix_j, dt_b1, Int.toNat_natCast, Int.reduceToNat]
      by_cases y : a < 2
      · rw [if_pos y]
      · rw [if_neg y, if_neg (by omega)]
    · have q1 : fX10_isIn (jI a) 2 8 = some (if 2 ≤ a ∧ a ≤ 8 then 1 else 0) := fX10_isIn_j a 2 8 (by omega) (by omega) (by omega) (by omega) (by omega) (by omega)
      unfold fX10_columns
      rw [q1, dt_b1, if_neg z, i00]
set_option maxRecDepth 20000 in
theorem dt_inv0 : dt_I dt_M1 := by
  have rw1 := RW_begin 5 (by omega) (by omega) (dt_M0 1) (dt_M0 2) (dt_M0 3) (dt_M0 4) (dt_M0 5) (dt_M0 18 0) rfl (fun q h0 _ => if_neg (by omega))
  refine ⟨0, 5, fun _ _ => 0, rw1, RU_nil _ _ _ _ _ _ rfl rfl, ⟨rfl, Or.inl rfl⟩, ⟨0, by omega, rfl, rfl, fun i hi => by omega⟩, ⟨rfl, rfl⟩, ⟨rfl, rfl⟩⟩
/-- one block more, in the yard -/
def gN (g : Nat → Nat → Int) (n : Nat) (a b c d e : Int) : Nat → Nat → Int := fun f x => if x = n then (if f = 0 then a else if f = 1 then b else if f = 2 then c else if f = 3 then d else if f = 4 then e else -1) else g f x
theorem gN_n (g : Nat → Nat → Int) (n : Nat) (a b c d e : Int) (f x : Nat) (h : x ≠ n) : gN g n a b c d e f x = g f x := if_neg h
theorem okT_add {n : Nat} {W : Int} {g : Nat → Nat → Int} (h : okT n W g) (hn : n < 20) (a b c d e : Int) (ha : 1 ≤ a ∧ a ≤ 3 ∧ a ≤ W) (hb : 1 ≤ b ∧ b ≤ 99) (hc : 0 ≤ c ∧ c ≤ 999) (hd : 0 ≤ d ∧ d ≤ 7) (he : 0 ≤ e ∧ e ≤ 59) : okT (n + 1) W (gN g n a b c d e) := by
  have s : ∀ f, gN g n a b c d e f n = (if f = 0 then a else if f = 1 then b else if f = 2 then c else if f = 3 then d else if f = 4 then e else -1) := fun f => if_pos rfl
  refine ⟨by omega, h.2.1, h.2.2.1, ?_, ?_, ?_⟩
  · intro x hx
    by_cases z : x = n
    · subst z
      unfold okB
      simp only [s]
      simp
      omega
    · have r := h.2.2.2.1 x (by omega)
      unfold okB at r ⊢
      simp only [gN_n _ _ _ _ _ _ _ _ _ z]
      exact r
  · intro x hx y hy ne ov
    unfold ovl at ov
    have zx : x ≠ n := by intro q; subst q; rw [s 5] at ov; simp at ov
    have zy : y ≠ n := by intro q; subst q; rw [s 5] at ov; simp at ov
    simp only [gN_n _ _ _ _ _ _ _ _ _ zx, gN_n _ _ _ _ _ _ _ _ _ zy] at ov ⊢
    exact h.2.2.2.2.1 x (by omega) y (by omega) ne ov
  · intro x hx h5
    have zx : x ≠ n := by intro q; subst q; rw [s 5] at h5; simp at h5
    rw [gN_n _ _ _ _ _ _ _ _ _ zx] at h5 ⊢
    rcases h.2.2.2.2.2 x (by omega) h5 with q | ⟨o, ho, ov, q⟩
    · exact Or.inl q
    · right
      refine ⟨o, by omega, ?_, ?_⟩
      · unfold ovl at ov ⊢
        simp only [gN_n _ _ _ _ _ _ _ _ _ zx, gN_n g n a b c d e _ o (show o ≠ n by omega)]
        exact ov
      · rw [gN_n g n a b c d e _ o (show o ≠ n by omega)]; exact q
theorem hi_add (g : Nat → Nat → Int) (n : Nat) (a b c d e : Int) (q : Int) : hi (gN g n a b c d e) q (n + 1) = hi g q n := by
  have s5 : gN g n a b c d e 5 n = -1 := by unfold gN; simp
  show (if 0 ≤ gN g n a b c d e 5 n ∧ gN g n a b c d e 5 n ≤ q ∧ q < gN g n a b c d e 5 n + gN g n a b c d e 0 n then max (hi (gN g n a b c d e) q n) (gN g n a b c d e 6 n + 1) else hi (gN g n a b c d e) q n) = hi g q n
  rw [s5, if_neg (by omega)]
  exact hi_congr q n (fun x hx => ⟨gN_n g n a b c d e 0 x (by omega), gN_n g n a b c d e 5 x (by omega), gN_n g n a b c d e 6 x (by omega)⟩)
theorem ce_add (g : Nat → Nat → Int) (n : Nat) (a b c d e : Int) (q l : Int) : ce (gN g n a b c d e) q l (n + 1) = ce g q l n := by
  have s5 : gN g n a b c d e 5 n = -1 := by unfold gN; simp
  show (if (0 ≤ gN g n a b c d e 5 n ∧ gN g n a b c d e 5 n ≤ q ∧ q < gN g n a b c d e 5 n + gN g n a b c d e 0 n) ∧ gN g n a b c d e 6 n = l then (n : Int) else ce (gN g n a b c d e) q l n) = ce g q l n
  rw [s5, if_neg (by omega)]
  exact ce_congr q l n (fun x hx => ⟨gN_n g n a b c d e 0 x (by omega), gN_n g n a b c d e 5 x (by omega), gN_n g n a b c d e 6 x (by omega)⟩)
theorem TW_add {T : dt_Ob} {n : Nat} {W : Int} {g : Nat → Nat → Int} (h : TW T n W g) (hn : n < 20) (a b c d e : Int) : TW (dt_set (dt_set (dt_set (dt_set (dt_set (dt_set (dt_set (dt_set T 2 n (jI a)) 3 n (jI b)) 4 n (jI c)) 5 n (jI d)) 6 n (jI e)) 7 n (jI (-1))) 8 n (jI (-1))) 1 0 (jI ((n + 1 : Nat) : Int))) (n + 1) W (gN g n a b c d e) := by
  refine ⟨?_, ?_, ?_, ?_, ?_⟩
  · simp (disch := omega) only [dt_set_n]; exact h.1
  · exact dt_set_at _ _ _ _
  · intro f hf x hx
    have s : ∀ f, gN g n a b c d e f n = (if f = 0 then a else if f = 1 then b else if f = 2 then c else if f = 3 then d else if f = 4 then e else -1) := fun f => if_pos rfl
    have hf' : f = 0 ∨ f = 1 ∨ f = 2 ∨ f = 3 ∨ f = 4 ∨ f = 5 ∨ f = 6 := by omega
    by_cases z : x = n
    · subst z
      rw [s f]
      rcases hf' with q | q | q | q | q | q | q <;> subst q <;> simp (disch := omega) only [dt_set_n, dt_set_at, Nat.reduceAdd] <;> rfl
    · rw [gN_n _ _ _ _ _ _ _ _ _ z, ← h.2.2.1 f hf x (by omega)]
      rcases hf' with q | q | q | q | q | q | q <;> subst q <;> simp (disch := omega) only [dt_set_n, dt_set_s, upd_n, Nat.reduceAdd]
  · intro q hq
    rw [hi_add]
    simp (disch := omega) only [dt_set_n]
    exact h.2.2.2.1 q hq
  · intro q l hq hl
    rw [ce_add]
    simp (disch := omega) only [dt_set_n]
    exact h.2.2.2.2 q l hq hl
