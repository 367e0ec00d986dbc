/-! ===== a carry kept to be undone ===== -/
theorem gP_undo (g : Nat → Nat → Int) (b : Nat) (p c l : Int) : gP (gP g b p c l) b (g 4 b) (g 5 b) (g 6 b) = g := by
  funext f x
  unfold gP
  by_cases e : x = b
  · subst e
    by_cases f4 : f = 4
    · subst f4; simp
    · by_cases f5 : f = 5
      · subst f5; simp
      · by_cases f6 : f = 6
        · subst f6; simp
        · simp [f4, f5, f6]
  · simp [e]
/-- a free block taken away belongs where it was -/
theorem la_lift {n : Nat} {W : Int} {g : Nat → Nat → Int} (h : okT n W g) {b : Nat} (hb : b < n) (hc : 0 ≤ g 5 b) (fr : free n g b) (p : Int) : la n (gP g b p (-1) (-1)) (g 5 b) (g 0 b).toNat = g 6 b := by
  have r := h.2.2.2.1 b hb
  unfold okB at r
  have up : la n (gP g b p (-1) (-1)) (g 5 b) (g 0 b).toNat ≤ g 6 b := by
    rcases la_att n (gP g b p (-1) (-1)) (g 5 b) (g 0 b).toNat with e | ⟨i, hi', e⟩
    · omega
    · rw [e]
      refine hi_le _ _ _ _ (by omega) (fun o ho cv => ?_)
      have ne : o ≠ b := by intro z; subst z; have := (cov_b g o p (-1) (-1) _).mp cv; omega
      have cv' := (cov_n g b _ _ _ o ne _).mp cv
      have ov : ovl g b o := by unfold cov at cv'; unfold ovl; omega
      have a := fr o ho ov
      have b' := h.2.2.2.2.1 b hb o ho (Ne.symm ne) ov
      rw [gP_n _ _ _ _ _ _ _ ne]
      omega
  have lo : g 6 b ≤ la n (gP g b p (-1) (-1)) (g 5 b) (g 0 b).toNat := by
    rcases h.2.2.2.2.2 b hb hc with e | ⟨o, ho, ov, e⟩
    · have := la_nn n (gP g b p (-1) (-1)) (g 5 b) (g 0 b).toNat; omega
    · have ne : o ≠ b := by intro z; subst z; omega
      have ro := h.2.2.2.1 o ho
      unfold okB at ro
      obtain ⟨q, c1, c2⟩ := ovl_col g b o (by omega) (by omega) ov
      have a := hi_ge (gP g b p (-1) (-1)) q n o ho ((cov_n g b _ _ _ o ne q).mpr c2)
      rw [gP_n _ _ _ _ _ _ _ ne] at a
      unfold cov at c1
      have := la_ge n (gP g b p (-1) (-1)) (g 5 b) (g 0 b).toNat (q - g 5 b).toNat (by omega)
      rw [show g 5 b + (((q - g 5 b).toNat : Nat) : Int) = q by omega] at this
      omega
  omega
theorem UD_pre {n : Nat} {W : Int} : ∀ (m m' : Nat) (g : Nat → Nat → Int) (cst : Int32) (eb : Nat → Nat) (ep ec el : Nat → Int) (e0 er : Nat → Int32), m' ≤ m → UD n W g cst eb ep ec el e0 er m → UD n W g cst eb ep ec el e0 er m' := by
  intro m
  induction m with
  | zero => intro m' g cst eb ep ec el e0 er h1 h2; rw [show m' = 0 by omega]; exact h2
  | succ m ih =>
    intro m' g cst eb ep ec el e0 er h1 h2
    cases m' with
    | zero => exact trivial
    | succ m' => exact ⟨h2.1, h2.2.1, h2.2.2.1, h2.2.2.2.1, ih m' _ _ _ _ _ _ _ _ (by omega) h2.2.2.2.2⟩
theorem fX10_keeps_j11 (x1 : Int32) : ∀ (k fuel i : Nat) (T : dt_Ob), i + k = 55 → k < fuel → ∃ T', fX10_keeps_11 fuel x1 (jI i) T = fX10_keeps_47 x1 (dt_set T' 3 0 ((T 3 0) - (1 : Int32))) ∧ (∀ j, j ≠ 2 → T' j = T j) ∧ ∀ q, T' 2 q = if i ≤ q ∧ q < 55 then T 2 (q + 5) else T 2 q := by
  intro k
  induction k with
  | zero =>
    intro fuel i T hk hf
    obtain ⟨f, rfl⟩ : ∃ f, fuel = f + 1 := ⟨fuel - 1, by omega⟩
    refine ⟨T, ?_, fun _ _ => rfl, fun q => by rw [if_neg (by omega)]⟩
    unfold fX10_keeps_11
    rw [if_pos]
    rw [show (55 : Int32) = jI 55 from rfl, jI_le _ _ (by omega) (by omega) (by omega) (by omega)]; omega
  | succ k ih =>
    intro fuel i T hk hf
    obtain ⟨f, rfl⟩ : ∃ f, fuel = f + 1 := ⟨fuel - 1, by omega⟩
    obtain ⟨T', a1, a2, a3⟩ := ih f (i + 1) (dt_set T 2 i (T 2 (i + 5))) (by omega) (by omega)
    rw [dt_set_n _ _ _ _ _ (by omega)] at a1
    refine ⟨T', ?_, fun j hj => by rw [a2 j hj, dt_set_n _ _ _ _ _ hj], fun q => ?_⟩
    · rw [← a1]
      rw [fX10_keeps_11]
      simp (disch := omega) only [jI_lit, jI_add, jI_sub, jI_mul, jI_neg, jI_lt, jI_le, jI_eq, jI_div, dt_ix_j, dt_b1, Int.toNat_natCast, Int.reduceToNat]
      rw [if_neg (by omega), show ((i : Int) + 5).toNat = i + 5 by omega, show ((i : Int) + 1) = ((i + 1 : Nat) : Int) by omega]
    · rw [a3 q, dt_set_s]
      by_cases e : q = i
      · subst e
        rw [if_neg (by omega), upd_s, if_pos (by omega)]
      · by_cases y : i + 1 ≤ q ∧ q < 55
        · rw [if_pos y, if_pos (by omega), upd_n _ _ _ _ (by omega)]
        · rw [if_neg y, if_neg (by omega), upd_n _ _ _ _ e]
theorem fX10_keeps_j47 (T : dt_Ob) (b m : Nat) (hb : b < 20) (hm : m < 12) (e3 : T 3 0 = jI m) : ∃ T', fX10_keeps_47 (jI b) T = some T' ∧ (∀ j, j ≠ 2 → j ≠ 3 → T' j = T j) ∧ T' 3 0 = jI ((m + 1 : Nat) : Int) ∧ T' 2 (5 * m) = jI b ∧ T' 2 (5 * m + 1) = T 0 (20 + 8 * b + 4) ∧ T' 2 (5 * m + 2) = T 0 (20 + 8 * b + 5) ∧ T' 2 (5 * m + 3) = T 0 (20 + 8 * b + 6) ∧ T' 2 (5 * m + 4) = T 0 4 ∧ ∀ q, q < 5 * m → T' 2 q = T 2 q := by
  refine ⟨dt_set (dt_set (dt_set (dt_set (dt_set (dt_set T 2 (5 * m) (jI b)) 2 (5 * m + 1) (T 0 (20 + 8 * b + 4))) 2 (5 * m + 2) (T 0 (20 + 8 * b + 5))) 2 (5 * m + 3) (T 0 (20 + 8 * b + 6))) 2 (5 * m + 4) (T 0 4)) 3 0 (jI ((m + 1 : Nat) : Int)), ?_, ?_, ?_, ?_, ?_, ?_, ?_, ?_, ?_⟩
  · unfold fX10_keeps_47
    simp (disch := omega) only [jI_lit, jI_add, jI_sub, jI_mul, jI_neg, jI_lt, jI_le, jI_eq, jI_div, dt_ix_j, dt_b1, Int.toNat_natCast, Int.reduceToNat, e3, fX10_own_j, dt_set_n]
    rw [show (5 * (m : Int)).toNat = 5 * m by omega, show (5 * (m : Int) + 1).toNat = 5 * m + 1 by omega, show (5 * (m : Int) + 2).toNat = 5 * m + 2 by omega, show (5 * (m : Int) + 3).toNat = 5 * m + 3 by omega, show (5 * (m : Int) + 4).toNat = 5 * m + 4 by omega]
    try rfl
  · intro j h2 h3
    simp (disch := omega) only [dt_set_n]
  · exact dt_set_at _ _ _ _
  · simp (disch := omega) only [dt_set_n, dt_set_s, upd_n, upd_s]
  · simp (disch := omega) only [dt_set_n, dt_set_s, upd_n, upd_s]
  · simp (disch := omega) only [dt_set_n, dt_set_s, upd_n, upd_s]
  · simp (disch := omega) only [dt_set_n, dt_set_s, upd_n, upd_s]
  · simp (disch := omega) only [dt_set_n, dt_set_s, upd_n, upd_s]
  · intro q hq
    simp (disch := omega) only [dt_set_n, dt_set_s, upd_n, upd_s]
theorem fX10_keeps_j (T : dt_Ob) (b m : Nat) (hb : b < 20) (hm : m ≤ 12) (e3 : T 3 0 = jI m) : ∃ (T' : dt_Ob) (m' : Nat), fX10_keeps (jI b) T = some T' ∧ m' ≤ m ∧ m' ≤ 11 ∧ (m < 12 → m' = m) ∧ (m = 12 → m' = 11) ∧ (∀ j, j ≠ 2 → j ≠ 3 → T' j = T j) ∧ T' 3 0 = jI ((m' + 1 : Nat) : Int) ∧ T' 2 (5 * m') = jI b ∧ T' 2 (5 * m' + 1) = T 0 (20 + 8 * b + 4) ∧ T' 2 (5 * m' + 2) = T 0 (20 + 8 * b + 5) ∧ T' 2 (5 * m' + 3) = T 0 (20 + 8 * b + 6) ∧ T' 2 (5 * m' + 4) = T 0 4 ∧ ∀ q, q < 5 * m' → T' 2 q = T 2 (5 * (m - m') + q) := by
  unfold fX10_keeps
  have k12 : (jI m = (12 : Int32)) = ((m : Int) = 12) := jI_eq m 12 (by omega) (by omega) (by omega) (by omega)
  rw [e3]
  by_cases z : (m : Int) = 12
  · rw [if_pos (by rw [k12]; exact z)]
    obtain ⟨T1, a1, a2, a3⟩ := fX10_keeps_j11 (jI b) 55 dt_F 0 T (by omega) (by unfold dt_F; omega)
    have a1' : fX10_keeps_11 dt_F (jI b) (0 : Int32) T = fX10_keeps_47 (jI b) (dt_set T1 3 0 (T 3 0 - 1)) := a1
    obtain ⟨T', b1, b2, b3, b4, b5, b6, b7, b8, b9⟩ := fX10_keeps_j47 (dt_set T1 3 0 ((T 3 0) - (1 : Int32))) b 11 hb (by omega) (by rw [dt_set_at, e3, show (1 : Int32) = jI 1 from rfl, jI_sub, show (m : Int) - 1 = ((11 : Nat) : Int) by omega])
    refine ⟨T', 11, by rw [a1']; exact b1, by omega, by omega, fun q => by omega, fun _ => rfl, fun j h2 h3 => by rw [b2 j h2 h3, dt_set_n _ _ _ _ _ h3, a2 j h2], b3, b4, ?_, ?_, ?_, ?_, ?_⟩
    · rw [b5, dt_set_n _ _ _ _ _ (by omega), a2 0 (by omega)]
    · rw [b6, dt_set_n _ _ _ _ _ (by omega), a2 0 (by omega)]
    · rw [b7, dt_set_n _ _ _ _ _ (by omega), a2 0 (by omega)]
    · rw [b8, dt_set_n _ _ _ _ _ (by omega), a2 0 (by omega)]
    · intro q hq
      rw [b9 q hq, dt_set_n _ _ _ _ _ (by omega), a3 q, if_pos (by omega), show 5 * (m - 11) + q = q + 5 by omega]
  · rw [if_neg (by rw [k12]; exact z)]
    obtain ⟨T', b1, b2, b3, b4, b5, b6, b7, b8, b9⟩ := fX10_keeps_j47 T b m hb (by omega) e3
    refine ⟨T', m, b1, by omega, by omega, fun _ => rfl, fun q => by omega, b2, b3, b4, b5, b6, b7, b8, fun q hq => ?_⟩
    rw [b9 q hq]
    congr 1
    omega
/-- the reference's carry -/
theorem fX10_carries_j (T : dt_Ob) (b m : Nat) (hb : b < 20) (hm : m ≤ 12) (e3 : T 3 0 = jI m) (p c l k : Int32) : ∃ (T' : dt_Ob) (m' : Nat), fX10_carries (jI b) p c l k T = some T' ∧ m' ≤ m ∧ m' ≤ 11 ∧ (m < 12 → m' = m) ∧ (m = 12 → m' = 11) ∧ (∀ j, j ≠ 0 → j ≠ 2 → j ≠ 3 → T' j = T j) ∧ T' 3 0 = jI ((m' + 1 : Nat) : Int) ∧ T' 2 (5 * m') = jI b ∧ T' 2 (5 * m' + 1) = T 0 (20 + 8 * b + 4) ∧ T' 2 (5 * m' + 2) = T 0 (20 + 8 * b + 5) ∧ T' 2 (5 * m' + 3) = T 0 (20 + 8 * b + 6) ∧ T' 2 (5 * m' + 4) = T 0 4 ∧ (∀ q, q < 5 * m' → T' 2 q = T 2 (5 * (m - m') + q)) ∧ T' 0 (20 + 8 * b + 4) = p ∧ T' 0 (20 + 8 * b + 5) = c ∧ T' 0 (20 + 8 * b + 6) = l ∧ T' 0 3 = T 0 3 + 1 ∧ T' 0 4 = T 0 4 + k ∧ ∀ q, q ≠ 3 → q ≠ 4 → q < 20 + 8 * b + 4 ∨ 20 + 8 * b + 6 < q → T' 0 q = T 0 q := by
  obtain ⟨T1, m', a1, a2, a3, a3', a3'', a4, a5, a6, a7, a8, a9, a10, a11⟩ := fX10_keeps_j T b m hb hm e3
  have t0 : T1 0 = T 0 := a4 0 (by omega) (by omega)
  refine ⟨dt_set (dt_set (dt_set (dt_set (dt_set T1 0 (20 + 8 * b + 4) p) 0 (20 + 8 * b + 5) c) 0 (20 + 8 * b + 6) l) 0 3 (T 0 3 + 1)) 0 4 (T 0 4 + k), m', ?_, a2, a3, a3', a3'', ?_, ?_, ?_, ?_, ?_, ?_, ?_, ?_, ?_, ?_, ?_, ?_, ?_, ?_⟩
  · unfold fX10_carries
    rw [a1, dt_b1]
    simp (disch := omega) only [jI_lit, fX10_gives_j, dt_ix_j, dt_b1, Int.reduceToNat, dt_set_s, upd_n]
    rw [t0]
  · intro j h0 h2 h3
    simp (disch := omega) only [dt_set_n]
    exact a4 j h2 h3
  · simp (disch := omega) only [dt_set_n]; exact a5
  · simp (disch := omega) only [dt_set_n]; exact a6
  · simp (disch := omega) only [dt_set_n]; exact a7
  · simp (disch := omega) only [dt_set_n]; exact a8
  · simp (disch := omega) only [dt_set_n]; exact a9
  · simp (disch := omega) only [dt_set_n]; exact a10
  · intro q hq
    simp (disch := omega) only [dt_set_n]; exact a11 q hq
  · simp (disch := omega) only [dt_set_s, upd_n, upd_s]
  · simp (disch := omega) only [dt_set_s, upd_n, upd_s]
  · simp (disch := omega) only [dt_set_s, upd_n, upd_s]
  · simp (disch := omega) only [dt_set_s, upd_n, upd_s]
  · simp (disch := omega) only [dt_set_s, upd_n, upd_s]
  · intro q h3 h4 h5
    simp (disch := omega) only [dt_set_s, upd_n, upd_s]
    rw [t0]
/-- the class's carry remembered -/
theorem fX6_remember_j (R : dt_Ob) (m x : Nat) (hm : m ≤ 12) (hx : x < 12) (e4 : R 4 0 = jI m) (e5 : R 5 0 = jI x) (b p c k : Int32) : ∃ R', fX6_remember b p c k R = some R' ∧ R' 5 0 = jI (((x + 1) % 12 : Nat) : Int) ∧ R' 4 0 = jI ((min (m + 1) 12 : Nat) : Int) ∧ (∀ q, R' 0 q = if q = x then b else R 0 q) ∧ (∀ q, R' 1 q = if q = x then p else R 1 q) ∧ (∀ q, R' 2 q = if q = x then c else R 2 q) ∧ (∀ q, R' 3 q = if q = x then k else R 3 q) := by
  have em : (if (12 : Int32) < (jI m + (1 : Int32)) then (12 : Int32) else (jI m + (1 : Int32))) = jI ((min (m + 1) 12 : Nat) : Int) := by
    simp (disch := omega) only [jI_lit, jI_add, jI_sub, jI_mul, jI_neg, jI_lt, jI_le, jI_eq, jI_div, dt_ix_j, dt_b1, Int.toNat_natCast, Int.reduceToNat]
    by_cases z : (12 : Int) < (m : Int) + 1
    · rw [if_pos z]; congr 1; omega
    · rw [if_neg z]; congr 1; omega
  by_cases z : x = 11
  · refine ⟨dt_set (dt_set (dt_set (dt_set (dt_set (dt_set R 0 x b) 1 x p) 2 x c) 3 x k) 5 0 (jI 0)) 4 0 (jI ((min (m + 1) 12 : Nat) : Int)), ?_, ?_, ?_, ?_, ?_, ?_, ?_⟩
    · unfold fX6_remember
      rw [e5, dt_ix_n x 12 hx (by omega)]
      simp only [dt_b1]
      rw [if_pos]
      · unfold fX6_remember_63
        simp (disch := omega) only [dt_set_n]
        rw [e4, em]
        try rfl
      · simp (disch := omega) only [jI_lit, jI_add, jI_sub, jI_mul, jI_neg, jI_lt, jI_le, jI_eq, jI_div, dt_ix_j, dt_b1, Int.toNat_natCast, Int.reduceToNat]; omega
    · rw [dt_set_n _ _ _ _ _ (by omega), dt_set_at, z] <;> rfl
    · exact dt_set_at _ _ _ _
    · intro q; simp (disch := omega) only [dt_set_n, dt_set_s] <;> rfl
    · intro q; simp (disch := omega) only [dt_set_n, dt_set_s] <;> rfl
    · intro q; simp (disch := omega) only [dt_set_n, dt_set_s] <;> rfl
    · intro q; simp (disch := omega) only [dt_set_n, dt_set_s] <;> rfl
  · refine ⟨dt_set (dt_set (dt_set (dt_set (dt_set (dt_set R 0 x b) 1 x p) 2 x c) 3 x k) 5 0 (jI ((x : Int) + 1))) 4 0 (jI ((min (m + 1) 12 : Nat) : Int)), ?_, ?_, ?_, ?_, ?_, ?_, ?_⟩
    · unfold fX6_remember
      rw [e5, dt_ix_n x 12 hx (by omega)]
      simp only [dt_b1]
      rw [if_neg]
      · unfold fX6_remember_63
        simp (disch := omega) only [dt_set_n]
        rw [e4, em, show (1 : Int32) = jI 1 from rfl, jI_add]
      · simp (disch := omega) only [jI_lit, jI_add, jI_sub, jI_mul, jI_neg, jI_lt, jI_le, jI_eq, jI_div, dt_ix_j, dt_b1, Int.toNat_natCast, Int.reduceToNat]; omega
    · rw [dt_set_n _ _ _ _ _ (by omega), dt_set_at]; congr 1; omega
    · exact dt_set_at _ _ _ _
    · intro q; simp (disch := omega) only [dt_set_n, dt_set_s] <;> rfl
    · intro q; simp (disch := omega) only [dt_set_n, dt_set_s] <;> rfl
    · intro q; simp (disch := omega) only [dt_set_n, dt_set_s] <;> rfl
    · intro q; simp (disch := omega) only [dt_set_n, dt_set_s] <;> rfl
/-- a carry, remembered by both -/
theorem RU_carry {R R' : dt_Ob} {bk bk' : Nat → Int32} {n : Nat} {W : Int} {g : Nat → Nat → Int} {c0 : Int32} {m x m' : Nat} {eb : Nat → Nat} {ep ec el : Nat → Int} {e0 er : Nat → Int32} (hm : m ≤ 12) (hx : x < 12) (hen : ∀ i, i < m → R 0 ((x + 11 - i) % 12) = jI (eb i) ∧ R 1 ((x + 11 - i) % 12) = jI (ep i) ∧ R 2 ((x + 11 - i) % 12) = jI (ec i) ∧ R 3 ((x + 11 - i) % 12) = er i ∧ bk (5 * (m - 1 - i)) = jI (eb i) ∧ bk (5 * (m - 1 - i) + 1) = jI (ep i) ∧ bk (5 * (m - 1 - i) + 2) = jI (ec i) ∧ bk (5 * (m - 1 - i) + 3) = jI (el i) ∧ bk (5 * (m - 1 - i) + 4) = e0 i) (hud : UD n W g c0 eb ep ec el e0 er m) (b : Nat) (k : Int32) (hm1 : m' ≤ m) (hm2 : m' ≤ 11) (hm3 : m < 12 → m' = m) (hm4 : m = 12 → m' = 11)
    (r5 : R' 5 0 = jI (((x + 1) % 12 : Nat) : Int)) (r4 : R' 4 0 = jI ((min (m + 1) 12 : Nat) : Int)) (r0 : ∀ q, R' 0 q = if q = x then jI b else R 0 q) (r1 : ∀ q, R' 1 q = if q = x then jI (g 4 b) else R 1 q) (r2 : ∀ q, R' 2 q = if q = x then jI (g 5 b) else R 2 q) (r3 : ∀ q, R' 3 q = if q = x then k else R 3 q)
    (b0 : bk' (5 * m') = jI b) (b1 : bk' (5 * m' + 1) = jI (g 4 b)) (b2 : bk' (5 * m' + 2) = jI (g 5 b)) (b3 : bk' (5 * m' + 3) = jI (g 6 b)) (b4 : bk' (5 * m' + 4) = c0) (bo : ∀ q, q < 5 * m' → bk' q = bk (5 * (m - m') + q)) (p' c' l' : Int) (hb : b < n) (hok : okT n W g)
    (hd : (0 ≤ g 4 b ∧ g 4 b ≤ 59 ∧ g 5 b = -1 ∧ g 6 b = -1 ∧ 0 ≤ c') ∨ (g 4 b = -1 ∧ 0 ≤ g 5 b ∧ g 5 b + g 0 b ≤ W ∧ c' < 0 ∧ g 6 b = la n (gP g b p' c' l') (g 5 b) (g 0 b).toNat)) : RU R' bk' (jI ((m' + 1 : Nat) : Int)) n W (gP g b p' c' l') (c0 + k) := by
  refine ⟨m' + 1, (x + 1) % 12, fun i => match i with | 0 => b | i + 1 => eb i, fun i => match i with | 0 => g 4 b | i + 1 => ep i, fun i => match i with | 0 => g 5 b | i + 1 => ec i, fun i => match i with | 0 => g 6 b | i + 1 => el i, fun i => match i with | 0 => c0 | i + 1 => e0 i, fun i => match i with | 0 => k | i + 1 => er i, by omega, by omega, by rw [r4]; congr 1; omega, rfl, r5, ?_, ?_⟩
  · intro i hi
    cases i with
    | zero =>
      have q : ((x + 1) % 12 + 11 - 0) % 12 = x := by omega
      rw [q, r0, r1, r2, r3, if_pos rfl, if_pos rfl, if_pos rfl, if_pos rfl, show 5 * (m' + 1 - 1 - 0) = 5 * m' by omega]
      exact ⟨rfl, rfl, rfl, rfl, b0, b1, b2, b3, b4⟩
    | succ i =>
      have q : ((x + 1) % 12 + 11 - (i + 1)) % 12 = (x + 11 - i) % 12 := by omega
      have ne : (x + 11 - i) % 12 ≠ x := by omega
      have hen' := hen i (by omega)
      rw [q, r0, r1, r2, r3, if_neg ne, if_neg ne, if_neg ne, if_neg ne, bo (5 * (m' + 1 - 1 - (i + 1))) (by omega), bo (5 * (m' + 1 - 1 - (i + 1)) + 1) (by omega), bo (5 * (m' + 1 - 1 - (i + 1)) + 2) (by omega), bo (5 * (m' + 1 - 1 - (i + 1)) + 3) (by omega), bo (5 * (m' + 1 - 1 - (i + 1)) + 4) (by omega)]
      rw [show 5 * (m - m') + 5 * (m' + 1 - 1 - (i + 1)) = 5 * (m - 1 - i) by omega, show 5 * (m - m') + (5 * (m' + 1 - 1 - (i + 1)) + 1) = 5 * (m - 1 - i) + 1 by omega, show 5 * (m - m') + (5 * (m' + 1 - 1 - (i + 1)) + 2) = 5 * (m - 1 - i) + 2 by omega, show 5 * (m - m') + (5 * (m' + 1 - 1 - (i + 1)) + 3) = 5 * (m - 1 - i) + 3 by omega, show 5 * (m - m') + (5 * (m' + 1 - 1 - (i + 1)) + 4) = 5 * (m - 1 - i) + 4 by omega]
      exact hen'
  · refine ⟨hb, ?_, ?_, rfl, ?_⟩
    · show (0 ≤ g 4 b ∧ g 4 b ≤ 59 ∧ g 5 b = -1 ∧ g 6 b = -1 ∧ 0 ≤ gP g b p' c' l' 5 b) ∨ (g 4 b = -1 ∧ 0 ≤ g 5 b ∧ g 5 b + gP g b p' c' l' 0 b ≤ W ∧ gP g b p' c' l' 5 b < 0 ∧ g 6 b = la n (gP g b p' c' l') (g 5 b) (gP g b p' c' l' 0 b).toNat)
      rw [gP_5, gP_0]
      exact hd
    · show okT n W (gP (gP g b p' c' l') b (g 4 b) (g 5 b) (g 6 b))
      rw [gP_undo]; exact hok
    · show UD n W (gP (gP g b p' c' l') b (g 4 b) (g 5 b) (g 6 b)) c0 eb ep ec el e0 er m'
      rw [gP_undo]; exact UD_pre m m' g c0 eb ep ec el e0 er hm1 hud
