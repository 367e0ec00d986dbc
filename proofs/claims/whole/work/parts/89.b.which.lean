/-! ===== operation: which ===== -/
def gY (n : Nat) (g : Nat → Nat → Int) : Nat → Nat → Int := fun f b => if b < n ∧ g 5 b < 0 then g f b else if f = 4 then 0 else if f = 5 ∨ f = 6 then -1 else g f b
theorem gY_y (n : Nat) (g : Nat → Nat → Int) (f b : Nat) (h : b < n) (h5 : g 5 b < 0) : gY n g f b = g f b := by unfold gY; rw [if_pos ⟨h, h5⟩]
theorem gY_f (n : Nat) (g : Nat → Nat → Int) (f b : Nat) (h : f < 4) : gY n g f b = g f b := by
  unfold gY
  rw [if_neg (show ¬ f = 4 by omega), if_neg (show ¬ (f = 5 ∨ f = 6) by omega)]
  split <;> rfl
theorem gY_56 {n : Nat} {W : Int} {g : Nat → Nat → Int} (ho : okD n W g) (b : Nat) : gY n g 5 b = -1 ∧ gY n g 6 b = -1 := by
  unfold gY
  by_cases z : b < n ∧ g 5 b < 0
  · rw [if_pos z, if_pos z]
    have r := (ho.2.2.2.1 b z.1).1
    unfold okB at r
    omega
  · rw [if_neg z, if_neg z]
    exact ⟨rfl, rfl⟩
theorem YD_Y {n : Nat} {W : Int} {g : Nat → Nat → Int} (ho : okD n W g) : YD n W (gY n g) := by
  refine ⟨⟨ho.1, ho.2.1, ho.2.2.1, fun b hb => ?_, fun b hb o _ _ ov => ?_, fun b hb h0 => ?_⟩, fun b => gY_56 ho b⟩
  · have r := (ho.2.2.2.1 b hb).1
    have q := gY_56 ho b
    unfold okB at r ⊢
    rw [gY_f _ _ 0 _ (by omega), gY_f _ _ 1 _ (by omega), gY_f _ _ 2 _ (by omega), gY_f _ _ 3 _ (by omega), q.1, q.2]
    have p : 0 ≤ gY n g 4 b ∧ gY n g 4 b ≤ 59 := by
      unfold gY
      by_cases z : b < n ∧ g 5 b < 0
      · rw [if_pos z]; omega
      · rw [if_neg z, if_pos rfl]; omega
    omega
  · have := ov.1
    rw [(gY_56 ho b).1] at this
    omega
  · rw [(gY_56 ho b).1] at h0
    omega
theorem cl_clear {n : Nat} {W : Int} {g : Nat → Nat → Int} (ho : okD n W g) : ∀ (k fuel i : Nat) (T : dt_Ob), i + k = n → k < fuel → T 0 0 = jI W → T 1 0 = jI n → (∀ f, f < 7 → ∀ b, b < n → T (2 + f) b = jI (if b < i then gY n g f b else g f b)) → ∃ T', fX5_clear_2 fuel (jI i) T = some T' ∧ TW T' n W (gY n g) := by
  have hn := ho.1
  have w := ho.2.2.1
  intro k
  induction k with
  | zero =>
    intro fuel i T hk hf e0 e1 ef
    obtain ⟨f, rfl⟩ : ∃ f, fuel = f + 1 := ⟨fuel - 1, by omega⟩
    refine ⟨dt_setA (dt_setA T 10 (dt_fill (T 10) 160 (-1 : Int32))) 9 (dt_fill (T 9) 8 (0 : Int32)), ?_, ?_⟩
    · unfold fX5_clear_2 fX5_clearCells
      rw [e1, if_pos (by rw [jI_le _ _ (by omega) (by omega) (by omega) (by omega)]; omega)]
      rfl
    · refine TW_yard (fun b hb => by have := (gY_56 ho b).1; omega) ?_ ?_ (fun f hf b hb => ?_) (fun c hc => ?_) (fun q hq => ?_)
      · rw [dt_setA_ne _ _ _ _ (by omega), dt_setA_ne _ _ _ _ (by omega)]; exact e0
      · rw [dt_setA_ne _ _ _ _ (by omega), dt_setA_ne _ _ _ _ (by omega)]; exact e1
      · rw [dt_setA_ne _ _ _ _ (by omega), dt_setA_ne _ _ _ _ (by omega), ef f hf b hb, if_pos (by omega)]
      · rw [dt_setA_s, dt_fill_i _ _ _ _ hc]
      · rw [dt_setA_ne _ _ _ _ (by omega), dt_setA_s, dt_fill_i _ _ _ _ hq]
  | succ k ih =>
    intro fuel i T hk hf e0 e1 ef
    obtain ⟨f, rfl⟩ : ∃ f, fuel = f + 1 := ⟨fuel - 1, by omega⟩
    have hi' : i < n := by omega
    have r0 := ho.2.2.2.1 i hi'
    have r := r0.1
    unfold okB at r
    have f6 : T 6 i = jI (g 4 i) := by have := ef 4 (by omega) i hi'; rw [if_neg (by omega)] at this; exact this
    have e4 : (jI (g 4 i) = (-1 : Int32)) = (g 4 i = -1) := by rw [show (-1 : Int32) = jI (-1) from rfl]; exact jI_eq _ _ (by omega) (by omega) (by omega) (by omega)
    have ci : jI i + (1 : Int32) = jI ((i + 1 : Nat) : Int) := by rw [show (1 : Int32) = jI 1 from rfl, jI_add]; rfl
    have ix : dt_ix (jI i) 20 = some i := dt_ix_n i 20 (by omega) (by omega)
    unfold fX5_clear_2 fX5_clear_26
    rw [e1, if_neg (by rw [jI_le _ _ (by omega) (by omega) (by omega) (by omega)]; omega), ix, dt_b1, f6, ci]
    by_cases z : g 4 i = -1
    · have hc : ¬ (i < n ∧ g 5 i < 0) := by omega
      rw [if_pos (by rw [e4]; exact z)]
      unfold fX5_toYard
      rw [ix, dt_b1, dt_b1, dt_b1, dt_b1]
      refine ih f (i + 1) _ (by omega) (by omega) (by rw [dt_set_n _ _ _ _ _ (by omega), dt_set_n _ _ _ _ _ (by omega), dt_set_n _ _ _ _ _ (by omega)]; exact e0) (by rw [dt_set_n _ _ _ _ _ (by omega), dt_set_n _ _ _ _ _ (by omega), dt_set_n _ _ _ _ _ (by omega)]; exact e1) (fun f' hf' b hb => ?_)
      by_cases eb : b = i
      · subst eb
        rw [if_pos (by omega)]
        unfold gY
        rw [if_neg hc]
        have f7 : f' = 0 ∨ f' = 1 ∨ f' = 2 ∨ f' = 3 ∨ f' = 4 ∨ f' = 5 ∨ f' = 6 := by omega
        have old := ef f' hf' b hb
        rw [if_neg (by omega)] at old
        rcases f7 with q | q | q | q | q | q | q <;> subst q
        · rw [dt_set_n _ _ _ _ _ (by omega), dt_set_n _ _ _ _ _ (by omega), dt_set_n _ _ _ _ _ (by omega)]; exact old
        · rw [dt_set_n _ _ _ _ _ (by omega), dt_set_n _ _ _ _ _ (by omega), dt_set_n _ _ _ _ _ (by omega)]; exact old
        · rw [dt_set_n _ _ _ _ _ (by omega), dt_set_n _ _ _ _ _ (by omega), dt_set_n _ _ _ _ _ (by omega)]; exact old
        · rw [dt_set_n _ _ _ _ _ (by omega), dt_set_n _ _ _ _ _ (by omega), dt_set_n _ _ _ _ _ (by omega)]; exact old
        · rw [dt_set_n _ _ _ _ _ (by omega), dt_set_n _ _ _ _ _ (by omega)]; exact dt_set_at _ _ _ _
        · rw [dt_set_n _ _ _ _ _ (by omega)]; exact dt_set_at _ _ _ _
        · exact dt_set_at _ _ _ _
      · have old := ef f' hf' b hb
        have so : (dt_set (dt_set (dt_set T 6 i (0 : Int32)) 7 i (-1 : Int32)) 8 i (-1 : Int32)) (2 + f') b = T (2 + f') b := by
          by_cases q8 : 2 + f' = 8
          · rw [q8, dt_set_s, upd_n _ _ _ _ eb, dt_set_n _ _ _ _ _ (by omega), dt_set_n _ _ _ _ _ (by omega)]
          · rw [dt_set_n _ _ _ _ _ q8]
            by_cases q7 : 2 + f' = 7
            · rw [q7, dt_set_s, upd_n _ _ _ _ eb, dt_set_n _ _ _ _ _ (by omega)]
            · rw [dt_set_n _ _ _ _ _ q7]
              by_cases q6 : 2 + f' = 6
              · rw [q6, dt_set_s, upd_n _ _ _ _ eb]
              · rw [dt_set_n _ _ _ _ _ q6]
        rw [so, old]
        congr 1
        by_cases l : b < i
        · rw [if_pos l, if_pos (by omega)]
        · rw [if_neg l, if_neg (by omega)]
    · rw [if_neg (by rw [e4]; exact z)]
      refine ih f (i + 1) T (by omega) (by omega) e0 e1 (fun f' hf' b hb => ?_)
      rw [ef f' hf' b hb]
      congr 1
      by_cases l : b < i
      · rw [if_pos l, if_pos (by omega)]
      · rw [if_neg l]
        by_cases eb : b = i
        · subst eb
          rw [if_pos (by omega), gY_y _ _ _ _ hi' (by omega)]
        · rw [if_neg (by omega)]
theorem ys_tb (g : Nat → Nat → Int) (b : Nat) : ∀ n, (ys g n).testBit b = decide (b < n ∧ g 5 b < 0) := by
  intro n
  induction n with
  | zero => show (0 : Nat).testBit b = _; rw [Nat.zero_testBit]; simp
  | succ n ih =>
    show (ys g n + (if 0 ≤ g 5 n then 0 else 2 ^ n)).testBit b = _
    by_cases z : 0 ≤ g 5 n
    · rw [if_pos z, Nat.add_zero, ih]
      congr 1
      apply propext
      constructor
      · rintro ⟨h1, h2⟩; exact ⟨by omega, h2⟩
      · rintro ⟨h1, h2⟩
        refine ⟨?_, h2⟩
        by_cases e : b = n
        · subst e; omega
        · omega
    · rw [if_neg z, Nat.add_comm, show 2 ^ n = 2 ^ n * 1 by omega, Nat.testBit_two_pow_mul_add _ (ys_lt g n), ih]
      by_cases l : b < n
      · rw [if_pos l]
        congr 1
        apply propext
        constructor
        · rintro ⟨h1, h2⟩; exact ⟨by omega, h2⟩
        · rintro ⟨h1, h2⟩; exact ⟨l, h2⟩
      · rw [if_neg l]
        by_cases e : b = n
        · subst e
          rw [Nat.sub_self]
          have : decide (b < b + 1 ∧ g 5 b < 0) = true := decide_eq_true ⟨by omega, by omega⟩
          rw [this]; rfl
        · have : decide (b < n + 1 ∧ g 5 b < 0) = false := decide_eq_false (fun q => by omega)
          rw [this]
          have q : 1 < 2 ^ (b - n) := by
            have : 2 ^ 1 ≤ 2 ^ (b - n) := Nat.pow_le_pow_right (by omega) (by omega)
            omega
          exact Nat.testBit_lt_two_pow q
theorem sub_set (X Y : Nat) (hX : X < 4294967296) (hY : Y < 4294967296) : (jI X &&& (jI Y ^^^ (-1 : Int32)) = 0) ↔ ∀ b, X.testBit b = true → Y.testBit b = true := by
  rw [Int32.and_comm, foes_0 _ X hX]
  constructor
  · intro h b hb
    have q := h b hb
    rw [neg_lsb, jN_lsb Y b hY] at q
    have l : b < 32 := by
      by_cases z : b < 32
      · exact z
      · have := Nat.testBit_lt_two_pow (x := X) (i := b) (Nat.lt_of_lt_of_le (show X < 2 ^ 32 from hX) (Nat.pow_le_pow_right (by omega) (by omega)))
        rw [this] at hb
        cases hb
    simpa [l] using q
  · intro h b hb
    rw [neg_lsb, jN_lsb Y b hY, h b hb]
    simp
theorem sub_le (X Y : Nat) (h : ∀ b, X.testBit b = true → Y.testBit b = true) : X ≤ Y := by
  have e : X &&& Y = X := by
    apply Nat.eq_of_testBit_eq
    intro i
    rw [Nat.testBit_and]
    cases hb : X.testBit i with
    | false => rfl
    | true => rw [h i hb]; rfl
  rw [← e]
  exact Nat.and_le_right
