/-! ===== who lies in the yard; look ===== -/
/-- the yard as a set -/
def ys (g : Nat → Nat → Int) : Nat → Nat
  | 0 => 0
  | i + 1 => ys g i + (if 0 ≤ g 5 i then 0 else 2 ^ i)
/-- how many lie in the yard -/
def yc (g : Nat → Nat → Int) : Nat → Nat
  | 0 => 0
  | i + 1 => yc g i + (if 0 ≤ g 5 i then 0 else 1)
theorem ys_lt (g : Nat → Nat → Int) : ∀ n, ys g n < 2 ^ n := by
  intro n
  induction n with
  | zero => show 0 < 1; omega
  | succ n ih =>
    show ys g n + _ < 2 ^ (n + 1)
    rw [Nat.pow_succ]
    split <;> omega
theorem yc_le (g : Nat → Nat → Int) : ∀ n, yc g n ≤ n := by
  intro n
  induction n with
  | zero => exact Nat.le_refl _
  | succ n ih =>
    show yc g n + _ ≤ n + 1
    split <;> omega
theorem cnt_low (y t n : Nat) : ∀ i, i ≤ n → cnt (y + 2 ^ n * t) i = cnt y i := by
  intro i
  induction i with
  | zero => intro _; rfl
  | succ i ih =>
    intro hi'
    show cnt (y + 2 ^ n * t) i + (y + 2 ^ n * t) / 2 ^ i % 2 = cnt y i + y / 2 ^ i % 2
    rw [ih (by omega)]
    have e : 2 ^ n = 2 ^ i * (2 * 2 ^ (n - i - 1)) := by
      rw [← Nat.pow_succ', ← Nat.pow_add]
      congr 1
      omega
    rw [e, Nat.mul_assoc, Nat.add_mul_div_left _ _ (Nat.two_pow_pos i)]
    rw [show y / 2 ^ i + 2 * 2 ^ (n - i - 1) * t = y / 2 ^ i + 2 * (2 ^ (n - i - 1) * t) by rw [Nat.mul_assoc]]
    omega
theorem cnt_hi (x n : Nat) (h : x < 2 ^ n) : ∀ k, cnt x (n + k) = cnt x n := by
  intro k
  induction k with
  | zero => rfl
  | succ k ih =>
    show cnt x (n + k) + x / 2 ^ (n + k) % 2 = cnt x n
    rw [ih, Nat.div_eq_of_lt (Nat.lt_of_lt_of_le h (Nat.pow_le_pow_right (by omega) (by omega)))]
    rfl
theorem cnt_ys (g : Nat → Nat → Int) : ∀ n, cnt (ys g n) n = yc g n := by
  intro n
  induction n with
  | zero => rfl
  | succ n ih =>
    have l := ys_lt g n
    show cnt (ys g n + _) n + (ys g n + _) / 2 ^ n % 2 = yc g n + _
    by_cases z : 0 ≤ g 5 n
    · rw [if_pos z, if_pos z, Nat.add_zero, ih, Nat.div_eq_of_lt l]
    · have e := cnt_low (ys g n) 1 n n (Nat.le_refl n)
      rw [Nat.mul_one] at e
      rw [if_neg z, if_neg z, e, ih, Nat.add_div_right _ (Nat.two_pow_pos n), Nat.div_eq_of_lt l]
theorem sh_1 : ∀ i, i < 31 → (1 : Int32) <<< (jI (i : Nat) &&& 31) = jI ((2 ^ i : Nat) : Int) := by decide +kernel
theorem fX5_yardSet_j4 {T : dt_Ob} {n : Nat} {W : Int} {g : Nat → Nat → Int} (h : TW T n W g) (ho : okD n W g) : ∀ (k fuel i : Nat), i + k = n → k < fuel → fX5_yardSet_4 fuel (jI (ys g i : Nat)) (jI i) T = some (jI (ys g n : Nat)) := by
  have hn := ho.1
  intro k
  induction k with
  | zero =>
    intro fuel i hk hf
    obtain ⟨f, rfl⟩ : ∃ f, fuel = f + 1 := ⟨fuel - 1, by omega⟩
    unfold fX5_yardSet_4
    rw [h.2.1, if_pos]
    · rw [show i = n by omega]
    · rw [jI_le _ _ (by omega) (by omega) (by omega) (by omega)]; omega
  | succ k ih =>
    intro fuel i hk hf
    obtain ⟨f, rfl⟩ : ∃ f, fuel = f + 1 := ⟨fuel - 1, by omega⟩
    have hi' : i < n := by omega
    have r := (ho.2.2.2.1 i hi').1
    unfold okB at r
    have w := ho.2.2.1
    have e6 : T 6 i = jI (g 4 i) := h.2.2.1 4 (by omega) i hi'
    have ihh := ih f (i + 1) (by omega) (by omega)
    have l := ys_lt g i
    have l2 : 2 ^ i ≤ 2 ^ 19 := Nat.pow_le_pow_right (by omega) (by omega)
    have u : ys g (i + 1) = ys g i + (if 0 ≤ g 5 i then 0 else 2 ^ i) := rfl
    unfold fX5_yardSet_4 fX5_yardSet_28
    rw [h.2.1, if_neg (by rw [jI_le _ _ (by omega) (by omega) (by omega) (by omega)]; omega), dt_ix_n i 20 (by omega) (by omega), dt_b1, e6, show (1 : Int32) = jI 1 from rfl, jI_add, show ((i : Int) + 1) = ((i + 1 : Nat) : Int) by omega]
    by_cases z : g 4 i = -1
    · rw [if_pos (by rw [z]; rfl)]
      rw [u, if_pos (by omega), Nat.add_zero] at ihh
      exact ihh
    · rw [if_neg (by rw [show (-jI 1 : Int32) = jI (-1) from rfl, jI_eq _ _ (by omega) (by omega) (by omega) (by omega)]; exact z), show jI 1 = (1 : Int32) from rfl, sh_1 i (by omega), jN_or _ _ (by omega) (by omega)]
      rw [u, if_neg (by omega)] at ihh
      have o : ys g i ||| 2 ^ i = ys g i + 2 ^ i := by
        have := Nat.two_pow_add_eq_or_of_lt (i := i) l 1
        rw [Nat.mul_one] at this
        rw [Nat.or_comm, ← this, Nat.add_comm]
      rw [o]
      exact ihh
theorem fX5_yardSet_j {T : dt_Ob} {n : Nat} {W : Int} {g : Nat → Nat → Int} (h : TW T n W g) (ho : okD n W g) : fX5_yardSet T = some (jI (ys g n : Nat)) := by
  have hn := ho.1
  unfold fX5_yardSet
  exact fX5_yardSet_j4 h ho n dt_F 0 (by omega) (by unfold dt_F; omega)
theorem ys_20 (g : Nat → Nat → Int) (n : Nat) (hn : n ≤ 20) : ys g n < 1048576 := Nat.lt_of_lt_of_le (ys_lt g n) (Nat.pow_le_pow_right (n := 2) (by omega) hn)
theorem fX5_inYard_j {T : dt_Ob} {n : Nat} {W : Int} {g : Nat → Nat → Int} (h : TW T n W g) (ho : okD n W g) : fX5_inYard T = some (jI (yc g n : Nat)) := by
  have hn := ho.1
  have l := ys_lt g n
  unfold fX5_inYard
  rw [fX5_yardSet_j h ho, dt_b1, bitCount_j _ (ys_20 g n hn), dt_b1]
  have := cnt_hi (ys g n) n l (20 - n)
  rw [show n + (20 - n) = 20 by omega] at this
  rw [this, cnt_ys]
theorem fX10_inTower_j4 {T : dt_Ob} {n : Nat} {W : Int} {g : Nat → Nat → Int} (h : RT (T 0) n W g) (ho : okD n W g) : ∀ (k fuel i : Nat), i + k = n → k < fuel → fX10_inTower_4 fuel (jI ((i : Int) - yc g i)) (jI i) T = some (jI ((n : Int) - yc g n)) := by
  have hn := ho.1
  have w := ho.2.2.1
  have x1 : dt_ix (1 : Int32) 1225 = some 1 := rfl
  intro k
  induction k with
  | zero =>
    intro fuel i hk hf
    obtain ⟨f, rfl⟩ : ∃ f, fuel = f + 1 := ⟨fuel - 1, by omega⟩
    unfold fX10_inTower_4
    rw [x1, dt_b1, h.2.1, if_pos]
    · rw [show i = n by omega]
    · rw [jI_le _ _ (by omega) (by omega) (by omega) (by omega)]; omega
  | succ k ih =>
    intro fuel i hk hf
    obtain ⟨f, rfl⟩ : ∃ f, fuel = f + 1 := ⟨fuel - 1, by omega⟩
    have hi' : i < n := by omega
    have r := (ho.2.2.2.1 i hi').1
    unfold okB at r
    have o5 : fX10_own (jI i) 5 T = some (jI (g 5 i)) := by rw [show (5 : Int32) = jI 5 from rfl, fX10_own_j T i 5 (by omega) (by omega) (by omega)]; exact congrArg some (h.2.2 5 (by omega) i hi')
    have ihh := ih f (i + 1) (by omega) (by omega)
    have u : yc g (i + 1) = yc g i + (if 0 ≤ g 5 i then 0 else 1) := rfl
    have yl := yc_le g i
    unfold fX10_inTower_4 fX10_inTower_30
    rw [x1, dt_b1, h.2.1, if_neg (by rw [jI_le _ _ (by omega) (by omega) (by omega) (by omega)]; omega), o5, dt_b1, show (1 : Int32) = jI 1 from rfl, show (0 : Int32) = jI 0 from rfl, jI_add, jI_add, jI_add, show ((i : Int) + 1) = ((i + 1 : Nat) : Int) by omega]
    by_cases z : g 5 i = -1
    · rw [if_pos (by rw [z]; rfl)]
      rw [u, if_neg (by omega), show (((i + 1 : Nat) : Int) - ((yc g i + 1 : Nat) : Int)) = (i : Int) - yc g i + 0 by omega] at ihh
      exact ihh
    · rw [if_neg (by rw [show (-jI 1 : Int32) = jI (-1) from rfl, jI_eq _ _ (by omega) (by omega) (by omega) (by omega)]; exact z)]
      rw [u, if_pos (by omega), show (((i + 1 : Nat) : Int) - ((yc g i + 0 : Nat) : Int)) = (i : Int) - yc g i + 1 by omega] at ihh
      exact ihh
theorem fX10_inTower_j {T : dt_Ob} {n : Nat} {W : Int} {g : Nat → Nat → Int} (h : RT (T 0) n W g) (ho : okD n W g) : fX10_inTower T = some (jI ((n : Int) - yc g n)) := by
  have hn := ho.1
  unfold fX10_inTower
  exact fX10_inTower_j4 h ho n dt_F 0 (by omega) (by unfold dt_F; omega)
theorem s_look : St_look dt_I := by
  intro M a1 h
  have h' := h
  obtain ⟨n, W, g, ⟨hT, hok, hRT, hD, hV, hC, hS⟩, hU, hI, hP, hF, hR⟩ := h
  have od := hok.D
  obtain ⟨d1, d2, d3, d4, d5, d6, d7⟩ := hD
  obtain ⟨m, x, eb, ep, ec, el, e0, er, u1, u2, u3, u4, u5, u6, u7⟩ := hU
  obtain ⟨k, k1, k2, k3, k4⟩ := hC
  obtain ⟨c, size, lines, wd, fr, to, v1, v2, v3, v4, v5, v6⟩ := hV
  unfold fX9_look fX10_look
  rw [fX5_inYard_j hT od, fX10_inTower_j hRT od]
  rw [show dt_ix (0 : Int32) 1225 = some 0 from rfl, show dt_ix (1 : Int32) 1225 = some 1 from rfl, show dt_ix (2 : Int32) 1225 = some 2 from rfl, show dt_ix (3 : Int32) 1225 = some 3 from rfl, show dt_ix (4 : Int32) 1225 = some 4 from rfl, show dt_ix (5 : Int32) 1225 = some 5 from rfl, show dt_ix (7 : Int32) 1225 = some 7 from rfl, show dt_ix (8 : Int32) 1225 = some 8 from rfl, show dt_ix (340 : Int32) 1225 = some 340 from rfl]
  simp only [dt_b1]
  rw [hT.1, hT.2.1, hRT.1, hRT.2.1, d1, d2, d3, d4, d7, k2, k3, u3, u4, v3, v4, jI_sub]
  suffices hs : ∀ Y : Option Int32, (∃ r, Y = some r) → ∃ r, Y = some r ∧ Y = some r ∧ dt_I M by
    apply hs
    repeat' split
    all_goals exact ⟨_, rfl⟩
  intro Y ⟨r, hr⟩
  exact ⟨r, hr, hr, h'⟩
