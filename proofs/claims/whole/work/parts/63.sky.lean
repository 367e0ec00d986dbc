/-! ===== operations: bet, worth ===== -/
def lI (a : Int) : Int64 := Int64.ofInt a
theorem lI_add (a b : Int) : lI a + lI b = lI (a + b) := (Int64.ofInt_add a b).symm
theorem lI_sub (a b : Int) : lI a - lI b = lI (a - b) := (Int64.ofInt_sub a b).symm
theorem lI_mul (a b : Int) : lI a * lI b = lI (a * b) := (Int64.ofInt_mul a b).symm
theorem jI_64 (a : Int) (h0 : -2147483648 ≤ a) (h1 : a < 2147483648) : Int32.toInt64 (jI a) = lI a := by
  apply Int64.toInt_inj.mp
  rw [Int32.toInt_toInt64, jI_toInt a h0 h1]
  exact (Int64.toInt_ofInt_of_le (by show (-9223372036854775808 : Int) ≤ a; omega) (by show a < (9223372036854775808 : Int); omega)).symm
theorem fX4_chanceAt_j {S : dt_Ob} {w : Nat → Int32} (hS : RS S w) (h t : Nat) (hh : h < 8) (h1 : 1 ≤ t) (h8 : t ≤ 8) : fX4_chanceAt (jI h) (jI t) S = some (S 0 (9 * h + t)) := by
  unfold fX4_chanceAt
  simp (disch := omega) only [jI_lit, jI_add, jI_sub, jI_mul, jI_neg, jI_lt, jI_le, jI_eq, jI_div, dt_ix_j, dt_b1, Int.toNat_natCast, Int.reduceToNat]
  rw [if_neg (by omega), if_neg (by omega), show ((h : Int) * 9 + t).toNat = 9 * h + t by omega]
theorem fX10_falls_j {T : dt_Ob} (h t : Nat) (hh : h < 8) (h1 : 1 ≤ t) (h8 : t ≤ 8) : fX10_falls (jI h) (jI t) T = some (T 0 (259 + 8 * h + t)) := by
  unfold fX10_falls
  simp (disch := omega) only [jI_lit, jI_add, jI_sub, jI_mul, jI_neg, jI_lt, jI_le, jI_eq, jI_div, dt_ix_j, dt_b1, Int.toNat_natCast, Int.reduceToNat]
  rw [show (260 + 8 * (h : Int) + t - 1).toNat = 259 + 8 * h + t by omega]
theorem bet_loop {S T : dt_Ob} (hS : RS S (T 0)) (n : Nat) (hn : n ≤ 8) (k : Int32) : ∀ (d fuel fuel' fuel'' i : Nat) (X Y : Int64), i + d = n → d < fuel → d < fuel' → d < fuel'' → ∃ X' Y', fX4_odds_8 fuel (jI n) k X Y (jI i) S = (if k = 0 then (some Y') else (if jI n < k then (some (0 : Int64)) else (some X'))) ∧ fX10_bet_45 fuel' (jI n) X (jI i) T = some X' ∧ fX10_tens_4 fuel'' (jI n) Y (jI i) = some Y' := by
  intro d
  induction d with
  | zero =>
    intro fuel fuel' fuel'' i X Y hd h1 h2 h3
    obtain ⟨f, rfl⟩ : ∃ f, fuel = f + 1 := ⟨fuel - 1, by omega⟩
    obtain ⟨f', rfl⟩ : ∃ f, fuel' = f + 1 := ⟨fuel' - 1, by omega⟩
    obtain ⟨f'', rfl⟩ : ∃ f, fuel'' = f + 1 := ⟨fuel'' - 1, by omega⟩
    have le : jI n ≤ jI i := by rw [jI_le _ _ (by omega) (by omega) (by omega) (by omega)]; omega
    refine ⟨X, Y, ?_, ?_, ?_⟩
    · unfold fX4_odds_8; rw [if_pos le]
    · unfold fX10_bet_45; rw [if_pos le]
    · unfold fX10_tens_4; rw [if_pos le]
  | succ d ih =>
    intro fuel fuel' fuel'' i X Y hd h1 h2 h3
    obtain ⟨f, rfl⟩ : ∃ f, fuel = f + 1 := ⟨fuel - 1, by omega⟩
    obtain ⟨f', rfl⟩ : ∃ f, fuel' = f + 1 := ⟨fuel' - 1, by omega⟩
    obtain ⟨f'', rfl⟩ : ∃ f, fuel'' = f + 1 := ⟨fuel'' - 1, by omega⟩
    have nle : ¬ jI n ≤ jI i := by rw [jI_le _ _ (by omega) (by omega) (by omega) (by omega)]; omega
    obtain ⟨v, v0, v1, v2, v3⟩ := hS.1 i (i + 1) (by omega) (by omega) (by omega)
    have cst : jI i + 1 = jI ((i + 1 : Nat) : Int) := by rw [show (1 : Int32) = jI 1 from rfl, jI_add]; rfl
    have e1 : Int32.toInt64 ((10 : Int32) - jI v) = lI (10 - v) := by rw [show (10 : Int32) = jI 10 from rfl, jI_sub, jI_64 _ (by omega) (by omega)]
    have e2 : (10 : Int64) - Int32.toInt64 (jI v) = lI (10 - v) := by rw [jI_64 _ (by omega) (by omega), show (10 : Int64) = lI 10 from rfl, lI_sub]
    obtain ⟨X', Y', a1, a2, a3⟩ := ih f f' f'' (i + 1) (X * lI (10 - v)) (Y * 10) (by omega) (by omega) (by omega) (by omega)
    refine ⟨X', Y', ?_, ?_, ?_⟩
    · unfold fX4_odds_8
      rw [if_neg nle, cst, fX4_chanceAt_j hS i (i + 1) (by omega) (by omega) (by omega), dt_b1, v2, e1]
      exact a1
    · unfold fX10_bet_45
      rw [if_neg nle, cst, fX10_falls_j i (i + 1) (by omega) (by omega) (by omega), dt_b1, v3, e2]
      exact a2
    · unfold fX10_tens_4
      rw [if_neg nle, cst]
      exact a3
theorem s_bet : St_bet dt_I := by
  intro M a1 a2 h
  have h' := h
  obtain ⟨n, W, g, ⟨hT, hok, hRT, hD, hV, hC, hS⟩, hU, hI, hP, hF, hR⟩ := h
  obtain ⟨a, rfl, a0, a1⟩ := jI_ex a1
  obtain ⟨b, rfl, b0, b1⟩ := jI_ex a2
  have q1 : fX10_isIn (jI a) 1 8 = some (if 1 ≤ a ∧ a ≤ 8 then 1 else 0) := fX10_isIn_j a 1 8 (by omega) (by omega) (by omega) (by omega) (by omega) (by omega)
  have q2 : fX10_isIn (jI b) 0 8 = some (if 0 ≤ b ∧ b ≤ 8 then 1 else 0) := fX10_isIn_j b 0 8 (by omega) (by omega) (by omega) (by omega) (by omega) (by omega)
  have k1 : (jI a < (1 : Int32)) = (a < 1) := jI_lt a 1 (by omega) (by omega) (by omega) (by omega)
  have k2 : ((8 : Int32) < jI a) = (8 < a) := jI_lt 8 a (by omega) (by omega) (by omega) (by omega)
  have k3 : (jI b < (0 : Int32)) = (b < 0) := jI_lt b 0 (by omega) (by omega) (by omega) (by omega)
  have k4 : (jI b ≤ (8 : Int32)) = (b ≤ 8) := jI_le b 8 (by omega) (by omega) (by omega) (by omega)
  have k5 : (jI b = (0 : Int32)) = (b = 0) := jI_eq b 0 (by omega) (by omega) (by omega) (by omega)
  have k6 : (jI a < jI b) = (a < b) := jI_lt a b (by omega) (by omega) (by omega) (by omega)
  have k7 : (jI b ≤ jI a) = (b ≤ a) := jI_le b a (by omega) (by omega) (by omega) (by omega)
  unfold fX9_bet fX10_bet fX9_bet_21 fX10_bet_20
  rw [q1, q2]
  simp only [dt_b1]
  by_cases za : 1 ≤ a ∧ a ≤ 8
  · rw [if_neg (by rw [k1]; omega), if_neg (by rw [k2]; omega), if_pos za, i10]
    by_cases zb : 0 ≤ b ∧ b ≤ 8
    · rw [if_neg (by rw [k3]; omega), if_pos (by rw [k4]; omega), if_pos zb, i10]
      obtain ⟨n', rfl⟩ : ∃ q : Nat, a = q := ⟨a.toNat, by omega⟩
      obtain ⟨X', Y', c1, c2, c3⟩ := bet_loop hS n' (by omega) (jI b) n' dt_F dt_F dt_F 0 1 1 (by omega) (by unfold dt_F; omega) (by unfold dt_F; omega) (by unfold dt_F; omega)
      have c1' : fX4_odds (jI n') (jI b) (M 5) = _ := c1
      have c3' : fX10_tens (jI n') = some Y' := c3
      have c2' : fX10_bet_45 dt_F (jI n') 1 0 (M 18) = some X' := c2
      rw [c1', c2', c3']
      simp only [dt_b1]
      by_cases x : b = 0
      · have y0 : jI b = 0 := by rw [k5]; exact x
        simp only [if_pos y0, dt_b1]
        exact ⟨_, rfl, rfl, h'⟩
      · have y0 : ¬ jI b = 0 := by rw [k5]; exact x
        simp only [if_neg y0]
        by_cases y : (n' : Int) < b
        · have y1 : jI n' < jI b := by rw [k6]; exact y
          have y2 : ¬ jI b ≤ jI n' := by rw [k7]; omega
          simp only [if_pos y1, if_neg y2, dt_b1]
          exact ⟨_, rfl, rfl, h'⟩
        · have y1 : ¬ jI n' < jI b := by rw [k6]; exact y
          have y2 : jI b ≤ jI n' := by rw [k7]; omega
          simp only [if_neg y1, if_pos y2, dt_b1]
          exact ⟨_, rfl, rfl, h'⟩
    · rw [if_neg zb, i00]
      by_cases y : b < 0
      · rw [if_pos (by rw [k3]; exact y)]; exact ⟨_, rfl, rfl, h'⟩
      · rw [if_neg (by rw [k3]; exact y), if_neg (by rw [k4]; omega)]; exact ⟨_, rfl, rfl, h'⟩
  · rw [if_neg za, i00]
    by_cases y : a < 1
    · rw [if_pos (by rw [k1]; exact y)]; exact ⟨_, rfl, rfl, h'⟩
    · rw [if_neg (by rw [k1]; exact y), if_pos (by rw [k2]; omega)]; exact ⟨_, rfl, rfl, h'⟩
/-! worth -/
def t10 : Nat → Int64
  | 0 => 1
  | k + 1 => t10 k * 10
/-- to go on, and the best, k hours ahead of the end -/
def swG (S : dt_Ob) (n k : Nat) (i : Nat) (v : Int64) : Int64 := Int32.toInt64 (S 0 (9 * (n - 1 - k) + (i + 1))) * Int32.toInt64 (S 1 0) * t10 k + ((10 : Int64) - Int32.toInt64 (S 0 (9 * (n - 1 - k) + (i + 1)))) * v
def sw (S : dt_Ob) (n : Nat) : Nat → Nat → Int64
  | 0, i => Int32.toInt64 (S 1 i)
  | k + 1, i => if i < 8 then (if swG S n k i (sw S n k (i + 1)) < Int32.toInt64 (S 1 i) * t10 k * 10 then Int32.toInt64 (S 1 i) * t10 k * 10 else swG S n k i (sw S n k (i + 1))) else Int32.toInt64 (S 1 i) * t10 k * 10
theorem fX10_tens_j (n : Nat) (hn : n ≤ 8) : fX10_tens (jI n) = some (t10 n) := by
  have key : ∀ (d fuel i : Nat), i + d = n → d < fuel → fX10_tens_4 fuel (jI n) (t10 i) (jI i) = some (t10 n) := by
    intro d
    induction d with
    | zero =>
      intro fuel i hd hf
      obtain ⟨f, rfl⟩ : ∃ f, fuel = f + 1 := ⟨fuel - 1, by omega⟩
      unfold fX10_tens_4
      rw [if_pos (by rw [jI_le _ _ (by omega) (by omega) (by omega) (by omega)]; omega), show i = n by omega]
    | succ d ih =>
      intro fuel i hd hf
      obtain ⟨f, rfl⟩ : ∃ f, fuel = f + 1 := ⟨fuel - 1, by omega⟩
      unfold fX10_tens_4
      rw [if_neg (by rw [jI_le _ _ (by omega) (by omega) (by omega) (by omega)]; omega), show (1 : Int32) = jI 1 from rfl, jI_add]
      exact ih f (i + 1) (by omega) (by omega)
  exact key n dt_F 0 (by omega) (by unfold dt_F; omega)
theorem t10_0 (x : Int64) : x * t10 0 = x := Int64.mul_one x
/-- the reference's goes on, over what its worth is -/
theorem fX10_goesOnFrom_j {S T : dt_Ob} (hS : RS S (T 0)) (rc : Int32 → Int32 → Int32 → dt_Ob → Option Int64) (n k i : Nat) (hn : n ≤ 8) (hk : k < n) (hi' : i < 8) (v : Int64) (hv : rc (jI n) (jI ((n - k : Nat) : Int)) (jI ((i + 1 : Nat) : Int)) T = some v) : fX10_goesOnFrom rc (jI n) (jI ((n - 1 - k : Nat) : Int)) (jI i) T = some (swG S n k i v) := by
  obtain ⟨c, c0, c1, c2, c3⟩ := hS.1 (n - 1 - k) (i + 1) (by omega) (by omega) (by omega)
  obtain ⟨r, r0, r1, r2, r3⟩ := hS.2 0 (by omega)
  have r3' : T 0 330 = jI r := r3
  unfold fX10_goesOnFrom
  rw [show (1 : Int32) = jI 1 from rfl, jI_add, jI_add, jI_sub, jI_sub, show ((i : Int) + 1) = ((i + 1 : Nat) : Int) by omega, show (((n - 1 - k : Nat) : Int) + 1) = ((n - k : Nat) : Int) by omega, show ((n : Int) - ((n - 1 - k : Nat) : Int) - 1) = (k : Int) by omega, fX10_falls_j _ _ (by omega) (by omega) (by omega), dt_b1, hv, dt_b1, show dt_ix (330 : Int32) 1225 = some 330 from rfl, dt_b1, fX10_tens_j k (by omega), dt_b1]
  unfold swG
  rw [r3', c3, c2, r2, jI_mul, jI_64 _ (by omega) (by omega), jI_64 r (by omega) (by omega), lI_mul]
  have cr : c * r ≤ 10 * 999 := Int.mul_le_mul c1 r1 r0 (by omega)
  have cr0 : 0 ≤ c * r := Int.mul_nonneg c0 r0
  rw [jI_64 (c * r) (by omega) (by omega), Int64.add_comm]
theorem fX10_worthFrom_j {S T : dt_Ob} (hS : RS S (T 0)) (n : Nat) (hn : n ≤ 8) : ∀ (k fuel i : Nat), k ≤ n → k < fuel → i ≤ 8 → fX10_worthFrom fuel (jI n) (jI ((n - k : Nat) : Int)) (jI i) T = some (sw S n k i) := by
  intro k
  induction k with
  | zero =>
    intro fuel i hk hf hi'
    obtain ⟨f, rfl⟩ : ∃ f, fuel = f + 1 := ⟨fuel - 1, by omega⟩
    obtain ⟨r, r0, r1, r2, r3⟩ := hS.2 i hi'
    have ix : dt_ix ((330 : Int32) + jI i) 1225 = some (330 + i) := by
      rw [show (330 : Int32) = jI 330 from rfl, jI_add, dt_ix_j _ _ (by omega) (by omega) (by omega), show ((330 : Int) + i).toNat = 330 + i by omega]
    unfold fX10_worthFrom fX10_worthFrom_b
    rw [ix, dt_b1, jI_sub, show ((n : Int) - ((n - 0 : Nat) : Int)) = ((0 : Nat) : Int) by omega, fX10_tens_j 0 (by omega), dt_b1, if_pos (by congr 1), t10_0, r3, ← r2]
    rfl
  | succ k ih =>
    intro fuel i hk hf hi'
    obtain ⟨f, rfl⟩ : ∃ f, fuel = f + 1 := ⟨fuel - 1, by omega⟩
    obtain ⟨r, r0, r1, r2, r3⟩ := hS.2 i hi'
    have ix : dt_ix ((330 : Int32) + jI i) 1225 = some (330 + i) := by
      rw [show (330 : Int32) = jI 330 from rfl, jI_add, dt_ix_j _ _ (by omega) (by omega) (by omega), show ((330 : Int) + i).toNat = 330 + i by omega]
    have st : Int32.toInt64 (S 1 i) * t10 k * 10 = Int32.toInt64 (jI r) * t10 (k + 1) := by rw [r2, Int64.mul_assoc]; rfl
    have e8 : (jI i = (8 : Int32)) = ((i : Int) = 8) := jI_eq i 8 (by omega) (by omega) (by omega) (by omega)
    unfold fX10_worthFrom fX10_worthFrom_b
    rw [ix, dt_b1, jI_sub, show ((n : Int) - ((n - (k + 1) : Nat) : Int)) = ((k + 1 : Nat) : Int) by omega, fX10_tens_j (k + 1) (by omega), dt_b1, if_neg (by rw [jI_eq _ _ (by omega) (by omega) (by omega) (by omega)]; omega), r3]
    unfold sw
    by_cases z : i = 8
    · rw [if_pos (by rw [e8]; omega), if_neg (by omega), st]
    · rw [if_neg (by rw [e8]; omega), if_pos (by omega), show n - (k + 1) = n - 1 - k by omega, fX10_goesOnFrom_j hS (fX10_worthFrom f) n k i hn (by omega) (by omega) _ (ih f (i + 1) (by omega) (by omega) (by omega)), dt_b1, st]
      by_cases lt : swG S n k i (sw S n k (i + 1)) < Int32.toInt64 (jI r) * t10 (k + 1)
      · rw [if_pos lt, if_pos]
        unfold lg_cmp
        rw [if_neg (fun q => Int64.lt_irrefl (Int64.lt_trans lt q))]
        split <;> decide
      · rw [if_neg lt]
        by_cases eq : swG S n k i (sw S n k (i + 1)) = Int32.toInt64 (jI r) * t10 (k + 1)
        · rw [← eq, if_pos (by unfold lg_cmp; rw [if_neg (fun q => Int64.lt_irrefl q), if_pos rfl]; decide)]
        · rw [if_neg]
          unfold lg_cmp
          rw [if_pos]
          · decide
          · have := Int64.lt_or_lt_of_ne eq
            rcases this with q | q
            · exact absurd q lt
            · exact q
