/-! ===== the reference's tower over numbers ===== -/
def MT (T : dt_Ob) (n : Nat) (W : Int) (g : Nat → Nat → Int) : Prop := T 0 0 = jI W ∧ T 0 1 = jI n ∧ (∀ f, f < 4 → ∀ b, b < n → T 0 (20 + 8 * b + f) = jI (g f b)) ∧ (∀ b, b < n → T 7 b = jI (g 5 b)) ∧ (∀ b, b < n → 0 ≤ g 5 b → T 8 b = jI (g 6 b))
theorem MT_congr {T T' : dt_Ob} {n : Nat} {W : Int} {g : Nat → Nat → Int} (h : MT T n W g) (e0 : T' 0 = T 0) (e7 : T' 7 = T 7) (e8 : T' 8 = T 8) : MT T' n W g := by
  unfold MT
  rw [e0, e7, e8]
  exact h
theorem fX10_isIn_j (a l m : Int) (h0 : -2147483648 ≤ a) (h1 : a < 2147483648) (h2 : -2147483648 ≤ l) (h3 : l < 2147483648) (h4 : -2147483648 ≤ m) (h5 : m < 2147483648) : fX10_isIn (jI a) (jI l) (jI m) = some (if l ≤ a ∧ a ≤ m then 1 else 0) := by
  unfold fX10_isIn
  simp (disch := omega) only [jI_lt]
  by_cases z : a < l
  · rw [if_pos z, if_neg (by omega)]
  · rw [if_neg z]
    by_cases y : m < a
    · rw [if_pos y, if_neg (by omega)]
    · rw [if_neg y, if_pos (by omega)]
theorem fX10_most_j (a b : Int) (h0 : -2147483648 ≤ a) (h1 : a < 2147483648) (h2 : -2147483648 ≤ b) (h3 : b < 2147483648) : fX10_most (jI a) (jI b) = some (jI (max a b)) := by
  unfold fX10_most
  simp (disch := omega) only [jI_le]
  by_cases z : a ≤ b
  · rw [if_pos z, show max a b = b by omega]
  · rw [if_neg z, show max a b = a by omega]
theorem fX10_least_j (a b : Int) (h0 : -2147483648 ≤ a) (h1 : a < 2147483648) (h2 : -2147483648 ≤ b) (h3 : b < 2147483648) : fX10_least (jI a) (jI b) = some (jI (min a b)) := by
  unfold fX10_least
  simp (disch := omega) only [jI_le]
  by_cases z : b ≤ a
  · rw [if_pos z, show min a b = b by omega]
  · rw [if_neg z, show min a b = a by omega]
theorem fX10_own_j (T : dt_Ob) (b : Nat) (f : Int) (hb : b < 100) (h0 : 0 ≤ f) (h1 : f < 8) : fX10_own (jI b) (jI f) T = some (T 0 (20 + 8 * b + f.toNat)) := by
  unfold fX10_own
  simp (disch := omega) only [jI_lit, jI_add, jI_sub, jI_mul, jI_neg, jI_lt, jI_le, jI_eq, jI_div, dt_ix_j, dt_b1, Int.toNat_natCast]
  rw [show (20 + 8 * (b : Int) + f).toNat = 20 + 8 * b + f.toNat by omega]
theorem fX10_gives_j (T : dt_Ob) (b : Nat) (f : Int) (v : Int32) (hb : b < 100) (h0 : 0 ≤ f) (h1 : f < 8) : fX10_gives (jI b) (jI f) v T = some (dt_set T 0 (20 + 8 * b + f.toNat) v) := by
  unfold fX10_gives
  simp (disch := omega) only [jI_lit, jI_add, jI_sub, jI_mul, jI_neg, jI_lt, jI_le, jI_eq, jI_div, dt_ix_j, dt_b1, Int.toNat_natCast]
  rw [show (20 + 8 * (b : Int) + f).toNat = 20 + 8 * b + f.toNat by omega]
theorem own_0 {T : dt_Ob} {n : Nat} {W : Int} {g : Nat → Nat → Int} (h : MT T n W g) (hn : n ≤ 20) (b : Nat) (hb : b < n) : fX10_own (jI b) (jI 0) T = some (jI (g 0 b)) := by
  rw [fX10_own_j T b 0 (by omega) (by omega) (by omega)]; exact congrArg some (h.2.2.1 0 (by omega) b hb)
theorem own_1 {T : dt_Ob} {n : Nat} {W : Int} {g : Nat → Nat → Int} (h : MT T n W g) (hn : n ≤ 20) (b : Nat) (hb : b < n) : fX10_own (jI b) (jI 1) T = some (jI (g 1 b)) := by
  rw [fX10_own_j T b 1 (by omega) (by omega) (by omega)]; exact congrArg some (h.2.2.1 1 (by omega) b hb)
theorem own_2 {T : dt_Ob} {n : Nat} {W : Int} {g : Nat → Nat → Int} (h : MT T n W g) (hn : n ≤ 20) (b : Nat) (hb : b < n) : fX10_own (jI b) (jI 2) T = some (jI (g 2 b)) := by
  rw [fX10_own_j T b 2 (by omega) (by omega) (by omega)]; exact congrArg some (h.2.2.1 2 (by omega) b hb)
theorem own_3 {T : dt_Ob} {n : Nat} {W : Int} {g : Nat → Nat → Int} (h : MT T n W g) (hn : n ≤ 20) (b : Nat) (hb : b < n) : fX10_own (jI b) (jI 3) T = some (jI (g 3 b)) := by
  rw [fX10_own_j T b 3 (by omega) (by omega) (by omega)]; exact congrArg some (h.2.2.1 3 (by omega) b hb)
theorem fX10_highOf_j4 {T : dt_Ob} {n : Nat} {W : Int} {g : Nat → Nat → Int} (h : MT T n W g) (ho : okD n W g) (c : Int) (hc0 : 0 ≤ c) (hc1 : c < 100) : ∀ (k fuel i : Nat), i + k = n → k < fuel → fX10_highOf_4 fuel (jI c) (jI (hi g c i)) (jI i) T = some (jI (hi g c n)) := by
  have hn := ho.1
  have e1 := h.2.1
  have hh : ∀ i, i ≤ n → 0 ≤ hi g c i ∧ hi g c i ≤ 20 := by
    intro i hi'
    refine ⟨hi_nn g c i, hi_le g c i 20 (by omega) (fun b hb _ => ?_)⟩
    have := (ho.2.2.2.1 b (by omega)).2
    omega
  intro k
  induction k with
  | zero =>
    intro fuel i hk hf
    obtain ⟨f, rfl⟩ : ∃ f, fuel = f + 1 := ⟨fuel - 1, by omega⟩
    unfold fX10_highOf_4
    simp (disch := omega) only [jI_lit, jI_add, jI_sub, jI_mul, jI_neg, jI_lt, jI_le, jI_eq, jI_div, dt_ix_j, dt_b1, Int.toNat_natCast, show (1 : Int).toNat = 1 from rfl, e1]
    rw [if_pos (by omega), show i = n by omega]
  | succ k ih =>
    intro fuel i hk hf
    obtain ⟨f, rfl⟩ : ∃ f, fuel = f + 1 := ⟨fuel - 1, by omega⟩
    have hi' : i < n := by omega
    have r0 := ho.2.2.2.1 i hi'
    have r := r0.1
    unfold okB at r
    have w := ho.2.2
    have e7 := h.2.2.2.1 i hi'
    have q := hh i (by omega)
    have ihh := ih f (i + 1) (by omega) (by omega)
    have u : hi g c (i + 1) = if 0 ≤ g 5 i ∧ g 5 i ≤ c ∧ c < g 5 i + g 0 i then max (hi g c i) (g 6 i + 1) else hi g c i := rfl
    have cst : ((i : Int) + 1) = ((i + 1 : Nat) : Int) := by omega
    unfold fX10_highOf_4
    simp (disch := omega) only [jI_lit, jI_add, jI_sub, jI_mul, jI_neg, jI_lt, jI_le, jI_eq, jI_div, dt_ix_j, dt_b1, Int.toNat_natCast, show (1 : Int).toNat = 1 from rfl, e1, e7, own_0 h hn i hi']
    rw [if_neg (by omega)]
    by_cases z : g 5 i = -1
    · rw [if_pos z]
      unfold fX10_highOf_65
      simp only [jI_lit, jI_add]
      rw [cst]
      rw [u, if_neg (by omega)] at ihh
      exact ihh
    · have e8 := h.2.2.2.2 i hi' (by omega)
      rw [if_neg z, fX10_isIn_j _ _ _ (by omega) (by omega) (by omega) (by omega) (by omega) (by omega), dt_b1]
      by_cases y : g 5 i ≤ c ∧ c ≤ g 5 i + g 0 i - 1
      · rw [if_pos y, if_neg (by decide +kernel)]
        simp (disch := omega) only [jI_lit, jI_add, jI_sub, jI_mul, jI_neg, jI_lt, jI_le, jI_eq, jI_div, dt_ix_j, dt_b1, Int.toNat_natCast, e8]
        rw [fX10_most_j _ _ (by omega) (by omega) (by omega) (by omega), dt_b1]
        unfold fX10_highOf_65
        simp only [jI_lit, jI_add]
        rw [cst]
        rw [u, if_pos (by omega)] at ihh
        exact ihh
      · rw [if_neg y, if_pos (by rfl)]
        unfold fX10_highOf_65
        simp only [jI_lit, jI_add]
        rw [cst]
        rw [u, if_neg (by omega)] at ihh
        exact ihh
theorem fX10_highOf_j {T : dt_Ob} {n : Nat} {W : Int} {g : Nat → Nat → Int} (h : MT T n W g) (ho : okD n W g) (c : Int) (hc0 : 0 ≤ c) (hc1 : c < 100) : fX10_highOf (jI c) T = some (jI (hi g c n)) := by
  have hn := ho.1
  unfold fX10_highOf
  exact fX10_highOf_j4 h ho c hc0 hc1 n dt_F 0 (by omega) (by unfold dt_F; omega)
theorem fX10_highest_j4 {T : dt_Ob} {n : Nat} {W : Int} {g : Nat → Nat → Int} (h : MT T n W g) (ho : okD n W g) : ∀ (k fuel i : Nat), i + k = n → k < fuel → fX10_highest_4 fuel (jI (tp g i)) (jI i) T = some (jI (tp g n)) := by
  have hn := ho.1
  have e1 := h.2.1
  have hh : ∀ i, i ≤ n → 0 ≤ tp g i ∧ tp g i ≤ 20 := by
    intro i hi'
    refine ⟨tp_nn g i, ?_⟩
    rcases tp_att g i with e | ⟨b, hb, _, e⟩
    · omega
    · have := (ho.2.2.2.1 b (by omega)).2
      omega
  intro k
  induction k with
  | zero =>
    intro fuel i hk hf
    obtain ⟨f, rfl⟩ : ∃ f, fuel = f + 1 := ⟨fuel - 1, by omega⟩
    unfold fX10_highest_4
    simp (disch := omega) only [jI_lit, jI_add, jI_sub, jI_mul, jI_neg, jI_lt, jI_le, jI_eq, jI_div, dt_ix_j, dt_b1, Int.toNat_natCast, show (1 : Int).toNat = 1 from rfl, e1]
    rw [if_pos (by omega), show i = n by omega]
  | succ k ih =>
    intro fuel i hk hf
    obtain ⟨f, rfl⟩ : ∃ f, fuel = f + 1 := ⟨fuel - 1, by omega⟩
    have hi' : i < n := by omega
    have r0 := ho.2.2.2.1 i hi'
    have r := r0.1
    unfold okB at r
    have w := ho.2.2
    have e7 := h.2.2.2.1 i hi'
    have q := hh i (by omega)
    have ihh := ih f (i + 1) (by omega) (by omega)
    have u : tp g (i + 1) = if 0 ≤ g 5 i then max (tp g i) (g 6 i + 1) else tp g i := rfl
    have cst : ((i : Int) + 1) = ((i + 1 : Nat) : Int) := by omega
    unfold fX10_highest_4
    simp (disch := omega) only [jI_lit, jI_add, jI_sub, jI_mul, jI_neg, jI_lt, jI_le, jI_eq, jI_div, dt_ix_j, dt_b1, Int.toNat_natCast, show (1 : Int).toNat = 1 from rfl, e1, e7]
    rw [if_neg (by omega)]
    by_cases z : g 5 i = -1
    · rw [if_pos z]
      unfold fX10_highest_37
      simp only [jI_lit, jI_add]
      rw [cst]
      rw [u, if_neg (by omega)] at ihh
      exact ihh
    · have e8 := h.2.2.2.2 i hi' (by omega)
      rw [if_neg z]
      simp (disch := omega) only [jI_lit, jI_add, jI_sub, jI_mul, jI_neg, jI_lt, jI_le, jI_eq, jI_div, dt_ix_j, dt_b1, Int.toNat_natCast, e8]
      rw [fX10_most_j _ _ (by omega) (by omega) (by omega) (by omega), dt_b1]
      unfold fX10_highest_37
      simp only [jI_lit, jI_add]
      rw [cst]
      rw [u, if_pos (by omega)] at ihh
      exact ihh
theorem fX10_highest_j {T : dt_Ob} {n : Nat} {W : Int} {g : Nat → Nat → Int} (h : MT T n W g) (ho : okD n W g) : fX10_highest T = some (jI (tp g n)) := by
  have hn := ho.1
  unfold fX10_highest
  exact fX10_highest_j4 h ho n dt_F 0 (by omega) (by unfold dt_F; omega)
theorem fX10_levelAt_j5 {T : dt_Ob} {n : Nat} {W : Int} {g : Nat → Nat → Int} (h : MT T n W g) (ho : okD n W g) (b : Nat) (hb : b < n) (c : Int) (h0 : 0 ≤ c) (h1 : c < 50) : ∀ (k fuel i : Nat), (i : Int) + k = g 0 b → k < fuel → fX10_levelAt_5 fuel (jI b) (jI c) (jI (la n g c i)) (jI i) T = some (jI (la n g c (g 0 b).toNat)) := by
  have hn := ho.1
  have r := (ho.2.2.2.1 b hb).1
  unfold okB at r
  intro k
  induction k with
  | zero =>
    intro fuel i hk hf
    obtain ⟨f, rfl⟩ : ∃ f, fuel = f + 1 := ⟨fuel - 1, by omega⟩
    unfold fX10_levelAt_5
    simp (disch := omega) only [jI_lit, jI_add, jI_sub, jI_mul, jI_neg, jI_lt, jI_le, jI_eq, jI_div, dt_ix_j, dt_b1, Int.toNat_natCast, own_0 h hn b hb]
    rw [if_pos (by omega), show (g 0 b).toNat = i by omega]
  | succ k ih =>
    intro fuel i hk hf
    obtain ⟨f, rfl⟩ : ∃ f, fuel = f + 1 := ⟨fuel - 1, by omega⟩
    have q1 := okD_la ho c i
    have q2 := okD_hi ho (c + i)
    have ihh := ih f (i + 1) (by omega) (by omega)
    unfold fX10_levelAt_5
    simp (disch := omega) only [jI_lit, jI_add, jI_sub, jI_mul, jI_neg, jI_lt, jI_le, jI_eq, jI_div, dt_ix_j, dt_b1, Int.toNat_natCast, own_0 h hn b hb]
    rw [if_neg (by omega), fX10_highOf_j h ho (c + i) (by omega) (by omega), dt_b1, fX10_most_j _ _ (by omega) (by omega) (by omega) (by omega), dt_b1]
    rw [show ((i : Int) + 1) = ((i + 1 : Nat) : Int) by omega]
    exact ihh
theorem fX10_levelAt_j {T : dt_Ob} {n : Nat} {W : Int} {g : Nat → Nat → Int} (h : MT T n W g) (ho : okD n W g) (b : Nat) (hb : b < n) (c : Int) (h0 : 0 ≤ c) (h1 : c < 50) : fX10_levelAt (jI b) (jI c) T = some (jI (la n g c (g 0 b).toNat)) := by
  have r := (ho.2.2.2.1 b hb).1
  unfold okB at r
  unfold fX10_levelAt
  exact fX10_levelAt_j5 h ho b hb c h0 h1 (g 0 b).toNat dt_F 0 (by omega) (by unfold dt_F; omega)
/-! the grid -/
theorem fX10_laysGrid_j10 (r2 : Int32 → dt_Ob → Option dt_Ob) (c : Nat) (hc : c < 8) : ∀ (k fuel l : Nat) (T : dt_Ob), l + k = 21 → k < fuel → ∃ T', fX10_laysGrid_10 r2 fuel (jI c) (jI l) T = r2 (jI ((c + 1 : Nat) : Int)) T' ∧ (∀ j, j ≠ 38 + c → T' j = T j) ∧ (∀ q, T' (38 + c) q = if l ≤ q ∧ q < 21 then jI (-1) else T (38 + c) q) := by
  intro k
  induction k with
  | zero =>
    intro fuel l T hk hf
    obtain ⟨f, rfl⟩ : ∃ f, fuel = f + 1 := ⟨fuel - 1, by omega⟩
    refine ⟨T, ?_, fun _ _ => rfl, fun q => by rw [if_neg (by omega)]⟩
    unfold fX10_laysGrid_10
    simp (disch := omega) only [jI_lit, jI_add, jI_sub, jI_mul, jI_neg, jI_lt, jI_le, jI_eq, jI_div, dt_ix_j, dt_b1, Int.toNat_natCast]
    rw [if_pos (by omega)]
    rfl
  | succ k ih =>
    intro fuel l T hk hf
    obtain ⟨f, rfl⟩ : ∃ f, fuel = f + 1 := ⟨fuel - 1, by omega⟩
    obtain ⟨T', a1, a2, a3⟩ := ih f (l + 1) (dt_set T (38 + c) l (jI (-1))) (by omega) (by omega)
    refine ⟨T', ?_, fun j hj => by rw [a2 j hj, dt_set_n _ _ _ _ _ hj], fun q => ?_⟩
    · unfold fX10_laysGrid_10
      simp (disch := omega) only [jI_lit, jI_add, jI_sub, jI_mul, jI_neg, jI_lt, jI_le, jI_eq, jI_div, dt_ix_j, dt_b1, Int.toNat_natCast]
      rw [if_neg (by omega), show ((l : Int) + 1) = ((l + 1 : Nat) : Int) by omega]
      exact a1
    · rw [a3 q, dt_set_s]
      by_cases e : q = l
      · rw [if_neg (by omega), if_pos (by omega), upd_e _ _ _ _ e]
      · rw [upd_n _ _ _ _ e]
        by_cases y : l + 1 ≤ q ∧ q < 21
        · rw [if_pos y, if_pos (by omega)]
        · rw [if_neg y, if_neg (by omega)]
theorem fX10_laysGrid_j2 : ∀ (k fuel c : Nat) (T : dt_Ob), c + k = 8 → k < fuel → ∃ T', fX10_laysGrid_2 fuel (jI c) T = fX10_laysGrid_39 dt_F (jI 0) T' ∧ (∀ j, j < 38 ∨ 46 ≤ j → T' j = T j) ∧ (∀ q l, q < 8 → T' (38 + q) l = if c ≤ q ∧ l < 21 then jI (-1) else T (38 + q) l) := by
  intro k
  induction k with
  | zero =>
    intro fuel c T hk hf
    obtain ⟨f, rfl⟩ : ∃ f, fuel = f + 1 := ⟨fuel - 1, by omega⟩
    refine ⟨T, ?_, fun _ _ => rfl, fun q l hq => by rw [if_neg (by omega)]⟩
    unfold fX10_laysGrid_2
    simp (disch := omega) only [jI_lit, jI_add, jI_sub, jI_mul, jI_neg, jI_lt, jI_le, jI_eq, jI_div, dt_ix_j, dt_b1, Int.toNat_natCast]
    rw [if_pos (by omega)]
  | succ k ih =>
    intro fuel c T hk hf
    obtain ⟨f, rfl⟩ : ∃ f, fuel = f + 1 := ⟨fuel - 1, by omega⟩
    obtain ⟨T1, a1, a2, a3⟩ := fX10_laysGrid_j10 (fX10_laysGrid_2 f) c (by omega) 21 dt_F 0 T (by omega) (by unfold dt_F; omega)
    obtain ⟨T', b1, b2, b3⟩ := ih f (c + 1) T1 (by omega) (by omega)
    refine ⟨T', ?_, fun j hj => by rw [b2 j hj, a2 j (by omega)], fun q l hq => ?_⟩
    · unfold fX10_laysGrid_2
      simp (disch := omega) only [jI_lit, jI_add, jI_sub, jI_mul, jI_neg, jI_lt, jI_le, jI_eq, jI_div, dt_ix_j, dt_b1, Int.toNat_natCast]
      rw [if_neg (by omega), ← b1]
      exact a1
    · rw [b3 q l hq]
      by_cases e : q = c
      · subst e
        rw [if_neg (by omega), a3 l]
        by_cases y : l < 21
        · rw [if_pos (by omega), if_pos (by omega)]
        · rw [if_neg (by omega), if_neg (by omega)]
      · rw [a2 (38 + q) (by omega)]
        by_cases y : c + 1 ≤ q ∧ l < 21
        · rw [if_pos y, if_pos (by omega)]
        · rw [if_neg y, if_neg (by omega)]
theorem fX10_laysGrid_j61 {n : Nat} {W : Int} {g : Nat → Nat → Int} (ho : okD n W g) (r39 : Int32 → dt_Ob → Option dt_Ob) (b : Nat) (hb : b < n) (hc : 0 ≤ g 5 b) : ∀ (k fuel i : Nat) (T : dt_Ob), MT T n W g → (i : Int) + k = g 0 b → k < fuel → ∃ T', fX10_laysGrid_61 r39 fuel (jI b) (jI i) T = r39 (jI ((b + 1 : Nat) : Int)) T' ∧ (∀ j, j < 38 ∨ 46 ≤ j → T' j = T j) ∧ (∀ q l : Nat, q < 8 → T' (38 + q) l = if (g 5 b + i ≤ q ∧ (q : Int) < g 5 b + g 0 b) ∧ (l : Int) = g 6 b then jI b else T (38 + q) l) := by
  have hn := ho.1
  have w := ho.2.2
  have r0 := ho.2.2.2.1 b hb
  have r := r0.1
  unfold okB at r
  intro k
  induction k with
  | zero =>
    intro fuel i T h hk hf
    obtain ⟨f, rfl⟩ : ∃ f, fuel = f + 1 := ⟨fuel - 1, by omega⟩
    refine ⟨T, ?_, fun _ _ => rfl, fun q l hq => by rw [if_neg (by omega)]⟩
    unfold fX10_laysGrid_61 fX10_laysGrid_98
    simp (disch := omega) only [jI_lit, jI_add, jI_sub, jI_mul, jI_neg, jI_lt, jI_le, jI_eq, jI_div, dt_ix_j, dt_b1, Int.toNat_natCast, own_0 h hn b hb]
    rw [if_pos (by omega)]
    rfl
  | succ k ih =>
    intro fuel i T h hk hf
    obtain ⟨f, rfl⟩ : ∃ f, fuel = f + 1 := ⟨fuel - 1, by omega⟩
    have e7 := h.2.2.2.1 b hb
    have e8 := h.2.2.2.2 b hb hc
    obtain ⟨T', a1, a2, a3⟩ := ih f (i + 1) (dt_set T (38 + (g 5 b + i).toNat) (g 6 b).toNat (jI b)) (MT_congr h (dt_set_n _ _ _ _ _ (by omega)) (dt_set_n _ _ _ _ _ (by omega)) (dt_set_n _ _ _ _ _ (by omega))) (by omega) (by omega)
    refine ⟨T', ?_, fun j hj => by rw [a2 j hj, dt_set_n _ _ _ _ _ (by omega)], fun q l hq => ?_⟩
    · unfold fX10_laysGrid_61
      simp (disch := omega) only [jI_lit, jI_add, jI_sub, jI_mul, jI_neg, jI_lt, jI_le, jI_eq, jI_div, dt_ix_j, dt_b1, Int.toNat_natCast, own_0 h hn b hb, e7, e8]
      rw [if_neg (by omega), show ((i : Int) + 1) = ((i + 1 : Nat) : Int) by omega]
      exact a1
    · rw [a3 q l hq]
      by_cases e : (q : Int) = g 5 b + i
      · rw [if_neg (by omega), show 38 + (g 5 b + (i : Int)).toNat = 38 + q by omega, dt_set_s]
        by_cases y : (l : Int) = g 6 b
        · rw [upd_e _ _ _ _ (by omega), if_pos (by omega)]
        · rw [upd_n _ _ _ _ (by omega), if_neg (by omega)]
      · rw [dt_set_n _ _ _ _ _ (by omega)]
        by_cases y : (g 5 b + ((i + 1 : Nat) : Int) ≤ q ∧ (q : Int) < g 5 b + g 0 b) ∧ (l : Int) = g 6 b
        · rw [if_pos y, if_pos (by omega)]
        · rw [if_neg y, if_neg (by omega)]
theorem fX10_laysGrid_j39 {n : Nat} {W : Int} {g : Nat → Nat → Int} (ho : okD n W g) : ∀ (k fuel i : Nat) (T : dt_Ob), MT T n W g → (∀ q l : Nat, q < 8 → l < 21 → T (38 + q) l = jI (ce g q l i)) → i + k = n → k < fuel → ∃ T', fX10_laysGrid_39 fuel (jI i) T = some T' ∧ (∀ j, j < 38 ∨ 46 ≤ j → T' j = T j) ∧ (∀ q l : Nat, q < 8 → l < 21 → T' (38 + q) l = jI (ce g q l n)) := by
  have hn := ho.1
  have w := ho.2.2.1
  intro k
  induction k with
  | zero =>
    intro fuel i T h hg hk hf
    obtain ⟨f, rfl⟩ : ∃ f, fuel = f + 1 := ⟨fuel - 1, by omega⟩
    refine ⟨T, ?_, fun _ _ => rfl, ?_⟩
    · unfold fX10_laysGrid_39
      simp (disch := omega) only [jI_lit, jI_add, jI_sub, jI_mul, jI_neg, jI_lt, jI_le, jI_eq, jI_div, dt_ix_j, dt_b1, Int.toNat_natCast, show (1 : Int).toNat = 1 from rfl, h.2.1]
      rw [if_pos (by omega)]
    · rw [← show i = n by omega]; exact hg
  | succ k ih =>
    intro fuel i T h hg hk hf
    obtain ⟨f, rfl⟩ : ∃ f, fuel = f + 1 := ⟨fuel - 1, by omega⟩
    have hi' : i < n := by omega
    have r := (ho.2.2.2.1 i hi').1
    unfold okB at r
    have e7 := h.2.2.2.1 i hi'
    have cst : ((i : Int) + 1) = ((i + 1 : Nat) : Int) := by omega
    unfold fX10_laysGrid_39
    simp (disch := omega) only [jI_lit, jI_add, jI_sub, jI_mul, jI_neg, jI_lt, jI_le, jI_eq, jI_div, dt_ix_j, dt_b1, Int.toNat_natCast, show (1 : Int).toNat = 1 from rfl, h.2.1, e7]
    rw [if_neg (by omega)]
    by_cases z : g 5 i = -1
    · rw [if_pos z]
      unfold fX10_laysGrid_98
      simp only [jI_lit, jI_add]
      rw [cst]
      refine ih f (i + 1) T h (fun q l hq hl => ?_) (by omega) (by omega)
      rw [hg q l hq hl]
      show jI _ = jI (if _ then _ else _)
      rw [if_neg (by omega)]
    · rw [if_neg z]
      obtain ⟨T1, a1, a2, a3⟩ := fX10_laysGrid_j61 ho (fX10_laysGrid_39 f) i hi' (by omega) (g 0 i).toNat dt_F 0 T h (by omega) (by unfold dt_F; omega)
      obtain ⟨T', b1, b2, b3⟩ := ih f (i + 1) T1 (MT_congr h (a2 0 (by omega)) (a2 7 (by omega)) (a2 8 (by omega))) (fun q l hq hl => by
        rw [a3 q l hq]
        show _ = jI (if (0 ≤ g 5 i ∧ g 5 i ≤ q ∧ (q : Int) < g 5 i + g 0 i) ∧ g 6 i = l then (i : Int) else ce g q l i)
        by_cases y : (g 5 i + ((0 : Nat) : Int) ≤ q ∧ (q : Int) < g 5 i + g 0 i) ∧ (l : Int) = g 6 i
        · rw [if_pos y, if_pos (by omega)]
        · rw [if_neg y, if_neg (by omega)]
          exact hg q l hq hl) (by omega) (by omega)
      refine ⟨T', ?_, fun j hj => by rw [b2 j hj, a2 j hj], b3⟩
      rw [← b1]
      exact a1
theorem fX10_laysGrid_j {T : dt_Ob} {n : Nat} {W : Int} {g : Nat → Nat → Int} (h : MT T n W g) (ho : okD n W g) : ∃ T', fX10_laysGrid T = some T' ∧ (∀ j, j < 38 ∨ 46 ≤ j → T' j = T j) ∧ (∀ q l : Nat, q < 8 → l < 21 → T' (38 + q) l = jI (ce g q l n)) := by
  have hn := ho.1
  obtain ⟨T1, a1, a2, a3⟩ := fX10_laysGrid_j2 8 dt_F 0 T (by omega) (by unfold dt_F; omega)
  obtain ⟨T', b1, b2, b3⟩ := fX10_laysGrid_j39 ho n dt_F 0 T1 (MT_congr h (a2 0 (by omega)) (a2 7 (by omega)) (a2 8 (by omega))) (fun q l hq hl => by
    rw [a3 q l hq, if_pos (by omega)]
    rfl) (by omega) (by unfold dt_F; omega)
  refine ⟨T', ?_, fun j hj => by rw [b2 j hj, a2 j hj], b3⟩
  unfold fX10_laysGrid
  rw [← b1]
  exact a1
