/-! ===== the class's tower: lift ===== -/
def sc (e : Nat → Int) : Nat → Int
  | 0 => 0
  | x + 1 => if e x = -1 then sc e x else x + 1
theorem fX5_settle_j38 (T : dt_Ob) (q : Nat) (hq : q < 8) (v : Int32) : fX5_settle_38 (jI q) v T = some (dt_set T 9 q v) := by
  unfold fX5_settle_38
  simp (disch := omega) only [jI_lit, jI_add, jI_sub, jI_mul, jI_neg, jI_lt, jI_le, jI_eq, jI_div, dt_ix_j, dt_b1, Int.toNat_natCast]
  rw [if_neg (by omega), if_neg (by omega)]
theorem fX5_settle_j10 (T : dt_Ob) (e : Nat → Int) (q : Nat) (hq : q < 8) (he : ∀ l, l < 20 → T 10 (20 * q + l) = jI (e l) ∧ -1 ≤ e l ∧ e l < 20) : ∀ (x fuel : Nat), x ≤ 20 → x + 1 < fuel → fX5_settle_10 fuel (jI q) (jI 0) (jI ((x : Int) - 1)) T = some (dt_set T 9 q (jI (sc e x))) := by
  intro x
  induction x with
  | zero =>
    intro fuel hx hf
    obtain ⟨f, rfl⟩ : ∃ f, fuel = f + 1 := ⟨fuel - 1, by omega⟩
    unfold fX5_settle_10
    simp (disch := omega) only [jI_lit, jI_add, jI_sub, jI_mul, jI_neg, jI_lt, jI_le, jI_eq, jI_div, dt_ix_j, dt_b1, Int.toNat_natCast]
    rw [if_pos (by omega), fX5_settle_j38 T q hq]
    rfl
  | succ x ih =>
    intro fuel hx hf
    obtain ⟨f, rfl⟩ : ∃ f, fuel = f + 1 := ⟨fuel - 1, by omega⟩
    obtain ⟨f', rfl⟩ : ∃ f', f = f' + 1 := ⟨f - 1, by omega⟩
    have h := he x (by omega)
    unfold fX5_settle_10
    have ca : fX5_cellAt (jI q) (jI (((x + 1 : Nat) : Int) - 1)) T = some (jI (e x)) := by
      unfold fX5_cellAt fX5_cellAt_25
      simp (disch := omega) only [jI_lit, jI_add, jI_sub, jI_mul, jI_neg, jI_lt, jI_le, jI_eq, jI_div, dt_ix_j, dt_b1, Int.toNat_natCast]
      rw [if_neg (by omega), if_neg (by omega), if_neg (by omega), if_neg (by omega), if_neg (by omega)]
      rw [show ((q : Int) * 20 + (((x + 1 : Nat) : Int) - 1)).toNat = 20 * q + x by omega, h.1]
    rw [ca, dt_b1]
    simp (disch := omega) only [jI_lit, jI_add, jI_sub, jI_mul, jI_neg, jI_lt, jI_le, jI_eq, jI_div, dt_ix_j, dt_b1, Int.toNat_natCast]
    rw [if_neg (by omega), if_pos trivial]
    unfold sc
    by_cases z : e x = -1
    · rw [if_pos z, if_pos z]
      unfold fX5_settle_32
      simp (disch := omega) only [jI_lit, jI_add, jI_sub, jI_mul, jI_neg, jI_lt, jI_le, jI_eq, jI_div, dt_ix_j, dt_b1, Int.toNat_natCast]
      rw [show (((x + 1 : Nat) : Int) - 1 + -1) = (x : Int) - 1 by omega]
      exact ih (f' + 1) (by omega) (by omega)
    · rw [if_neg z, if_neg z]
      unfold fX5_settle_32 fX5_settle_10
      simp (disch := omega) only [jI_lit, jI_add, jI_sub, jI_mul, jI_neg, jI_lt, jI_le, jI_eq, jI_div, dt_ix_j, dt_b1, Int.toNat_natCast]
      rw [fX5_settle_j38 T q hq]
      rw [show (((x + 1 : Nat) : Int) - 1 + 1) = (x : Int) + 1 by omega]
      by_cases zz : (((x + 1 : Nat) : Int) - 1 + -1) < 0
      · rw [if_pos zz]
      · rw [if_neg zz, if_neg (by omega)]
/-- the scan from the old height finds the height without the block -/
theorem sc_hi {n : Nat} {g' : Nat → Nat → Int} (q : Int) (h20 : ∀ b, b < n → cov g' b q → 0 ≤ g' 6 b) : ∀ x : Nat, (∀ b, b < n → cov g' b q → g' 6 b < x) → sc (fun l => ce g' q l n) x = hi g' q n := by
  intro x
  induction x with
  | zero =>
    intro h
    symm
    refine hi_uniq _ _ _ _ (by unfold sc; omega) (fun b hb hc => ?_) (Or.inl rfl)
    have := h b hb hc
    have := h20 b hb hc
    omega
  | succ x ih =>
    intro h
    unfold sc
    rcases ce_cases g' q x n with ⟨e, z⟩ | ⟨b, hb, e, hc, z⟩
    · rw [if_pos e]
      refine ih (fun b hb hc => ?_)
      have := h b hb hc
      have := z b hb hc
      omega
    · rw [if_neg (by omega)]
      symm
      refine hi_uniq _ _ _ _ (by omega) (fun o ho hc' => ?_) (Or.inr ⟨b, hb, hc, by omega⟩)
      have := h o ho hc'
      omega
theorem hi_lift_out {n : Nat} {g : Nat → Nat → Int} {b : Nat} (p : Int) (q : Int) (h : ¬ cov g b q) : hi (gP g b p (-1) (-1)) q n = hi g q n := by
  refine hi_uniq _ _ _ _ (hi_nn g q n) (fun o ho hc => ?_) ?_
  · have ne : o ≠ b := by intro z; subst z; have := (cov_b g o p (-1) (-1) q).mp hc; omega
    rw [gP_n _ _ _ _ _ _ _ ne]
    exact hi_ge g q n o ho ((cov_n g b _ _ _ o ne q).mp hc)
  · rcases hi_att g q n with e | ⟨o, ho, hc, e⟩
    · exact Or.inl e
    · have ne : o ≠ b := by intro z; subst z; exact h hc
      exact Or.inr ⟨o, ho, (cov_n g b _ _ _ o ne q).mpr hc, by rw [gP_n _ _ _ _ _ _ _ ne]; exact e⟩
theorem ce_lift {n : Nat} {W : Int} {g : Nat → Nat → Int} (h : okD n W g) {b : Nat} (hb : b < n) (p : Int) (hp : 0 ≤ p ∧ p ≤ 59) (q l : Int) : ce (gP g b p (-1) (-1)) q l n = if cov g b q ∧ l = g 6 b then -1 else ce g q l n := by
  have d := okD_lift h b p hp
  by_cases e : cov g b q ∧ l = g 6 b
  · have x : (if cov g b q ∧ l = g 6 b then (-1 : Int) else ce g q l n) = -1 := if_pos e
    rw [x]
    apply ce_none
    intro o ho hc
    have ne : o ≠ b := by intro z; subst z; have := (cov_b g o p (-1) (-1) q).mp hc; omega
    rw [gP_n _ _ _ _ _ _ _ ne, e.2]
    have hc' := (cov_n g b _ _ _ o ne q).mp hc
    have := h.2.2.2.2 o ho b hb ne (by have := e.1; unfold cov at hc' this; unfold ovl; omega)
    exact this
  · have xe : (if cov g b q ∧ l = g 6 b then (-1 : Int) else ce g q l n) = ce g q l n := if_neg e
    rw [xe]
    rcases ce_cases g q l n with ⟨e1, z4⟩ | ⟨o, ho', e1, hc, e3⟩
    · rw [e1, ce_none]
      intro x hx hc
      have ne : x ≠ b := by intro z; subst z; have := (cov_b g x p (-1) (-1) q).mp hc; omega
      rw [gP_n _ _ _ _ _ _ _ ne]; exact z4 x hx ((cov_n g b _ _ _ x ne q).mp hc)
    · have ne : o ≠ b := by intro q'; subst q'; exact e ⟨hc, e3.symm⟩
      rw [e1, ce_some d q l o ho' ((cov_n g b _ _ _ o ne q).mpr hc) (by rw [gP_n _ _ _ _ _ _ _ ne]; exact e3)]
theorem fX5_lift_j11 {n : Nat} {W : Int} {g : Nat → Nat → Int} (ho : okD n W g) (b : Nat) (hb : b < n) (hc : 0 ≤ g 5 b) (p : Int) (hp : 0 ≤ p ∧ p ≤ 59) : ∀ (k fuel i : Nat) (T : dt_Ob), T 2 b = jI (g 0 b) → T 7 b = jI (g 5 b) → T 8 b = jI (g 6 b) → (∀ q : Nat, g 5 b + i ≤ q → q < g 5 b + g 0 b → T 9 q = jI (hi g q n) ∧ ∀ l, l < 20 → T 10 (20 * q + l) = jI (ce g q l n)) → (i : Int) + k = g 0 b → k < fuel → ∃ T', fX5_lift_11 fuel (jI b) (jI p) (jI i) T = some T' ∧ (∀ j, j ≠ 9 → j ≠ 10 → T' j = dt_set (dt_set (dt_set T 6 b (jI p)) 7 b (jI (-1))) 8 b (jI (-1)) j) ∧ (∀ q : Nat, T' 9 q = if g 5 b + i ≤ q ∧ q < g 5 b + g 0 b then jI (hi (gP g b p (-1) (-1)) q n) else T 9 q) ∧ (∀ q l : Nat, l < 20 → T' 10 (20 * q + l) = if (g 5 b + i ≤ q ∧ q < g 5 b + g 0 b) ∧ l = g 6 b then jI (-1) else T 10 (20 * q + l)) := by
  have hn := ho.1
  have w := ho.2.2
  have r0 := ho.2.2.2.1 b hb
  have r := r0.1
  unfold okB at r
  intro k
  induction k with
  | zero =>
    intro fuel i T e2 e7 e8 hq hk hf
    obtain ⟨f, rfl⟩ : ∃ f, fuel = f + 1 := ⟨fuel - 1, by omega⟩
    refine ⟨dt_set (dt_set (dt_set T 6 b (jI p)) 7 b (jI (-1))) 8 b (jI (-1)), ?_, fun _ _ _ => rfl, ?_, ?_⟩
    · unfold fX5_lift_11 fX5_toYard
      simp (disch := omega) only [jI_lit, jI_add, jI_sub, jI_mul, jI_neg, jI_lt, jI_le, jI_eq, jI_div, dt_ix_j, dt_b1, Int.toNat_natCast, e2]
      rw [if_pos (by omega)]
    · intro q; rw [if_neg (by omega)]; simp (disch := omega) only [dt_set_at, dt_set_s, dt_set_n, dt_setA_s, dt_setA_ne, upd_s, upd_n, upd_e, ne_eq, not_false_eq_true]
    · intro q l _; rw [if_neg (by omega)]; simp (disch := omega) only [dt_set_at, dt_set_s, dt_set_n, dt_setA_s, dt_setA_ne, upd_s, upd_n, upd_e, ne_eq, not_false_eq_true]
  | succ k ih =>
    intro fuel i T e2 e7 e8 hq hk hf
    obtain ⟨f, rfl⟩ : ∃ f, fuel = f + 1 := ⟨fuel - 1, by omega⟩
    have hy := hq (g 5 b + i).toNat (by omega) (by omega)
    have ey : (((g 5 b + i).toNat : Nat) : Int) = g 5 b + i := by omega
    have hh := okD_hi ho (g 5 b + i)
    have cb : cov g b (g 5 b + i) := by unfold cov; omega
    generalize hyn : (g 5 b + i).toNat = y at *
    have T1 : ∃ T1, T1 = dt_set T 10 (20 * y + (g 6 b).toNat) (jI (-1)) := ⟨_, rfl⟩
    obtain ⟨T1, hT1⟩ := T1
    have mk : fX5_mark (jI (g 5 b + i)) (jI (g 6 b)) (jI (-1)) T = some T1 := by
      rw [fX5_mark_j T (g 5 b + i) (g 6 b) _ (by omega) (by omega) (by omega) (by omega), hyn, hT1]
    have cells : ∀ l, l < 20 → T1 10 (20 * y + l) = jI (ce (gP g b p (-1) (-1)) y l n) ∧ -1 ≤ ce (gP g b p (-1) (-1)) y l n ∧ ce (gP g b p (-1) (-1)) y l n < 20 := by
      intro l hl
      refine ⟨?_, by have := ce_rng (gP g b p (-1) (-1)) y l n; omega⟩
      rw [ce_lift ho hb p hp, hT1, dt_set_s]
      by_cases z : l = (g 6 b).toNat
      · rw [z, upd_s, if_pos (show cov g b y ∧ (((g 6 b).toNat : Nat) : Int) = g 6 b from ⟨by rw [ey]; exact cb, by omega⟩)]
      · rw [upd_n _ _ _ _ (by omega), hy.2 l hl, if_neg (by omega)]
    have st : fX5_settle (jI (g 5 b + i)) T1 = some (dt_set T1 9 y (jI (hi (gP g b p (-1) (-1)) y n))) := by
      unfold fX5_settle
      have ha : fX5_heightAt (jI (g 5 b + i)) T1 = some (jI (hi g y n)) := by
        unfold fX5_heightAt
        simp (disch := omega) only [jI_lit, jI_add, jI_sub, jI_mul, jI_neg, jI_lt, jI_le, jI_eq, jI_div, dt_ix_j, dt_b1, Int.toNat_natCast]
        rw [if_neg (by omega), if_neg (by omega), hyn, hT1, dt_set_n _ _ _ _ _ (by omega), hy.1]
      rw [ha, dt_b1, ← ey]
      simp (disch := omega) only [jI_lit, jI_add, jI_sub, jI_mul, jI_neg, jI_lt, jI_le, jI_eq, jI_div, dt_ix_j, dt_b1, Int.toNat_natCast]
      rw [ey]
      have s10 := fX5_settle_j10 T1 (fun l => ce (gP g b p (-1) (-1)) y l n) y (by omega) cells (hi g (g 5 b + i) n).toNat dt_F (by omega) (by unfold dt_F; omega)
      rw [show (((hi g (g 5 b + i) n).toNat : Nat) : Int) = hi g (g 5 b + i) n by omega] at s10
      rw [← ey] at s10 ⊢
      rw [s10]
      congr 3
      apply sc_hi
      · intro o ho' hc'
        have ne : o ≠ b := by intro z; subst z; have := (cov_b g o p (-1) (-1) y).mp hc'; omega
        have ro := (ho.2.2.2.1 o ho').1
        have := (cov_n g b _ _ _ o ne y).mp hc'
        unfold okB at ro
        unfold cov at this
        rw [gP_n _ _ _ _ _ _ _ ne]
        omega
      · intro o ho' hc'
        have ne : o ≠ b := by intro z; subst z; have := (cov_b g o p (-1) (-1) y).mp hc'; omega
        have := hi_ge g y n o ho' ((cov_n g b _ _ _ o ne y).mp hc')
        rw [gP_n _ _ _ _ _ _ _ ne]
        omega
    have T2 : ∃ T2, T2 = dt_set T1 9 y (jI (hi (gP g b p (-1) (-1)) y n)) := ⟨_, rfl⟩
    obtain ⟨T2, hT2⟩ := T2
    have T2n : ∀ j, j ≠ 9 → j ≠ 10 → T2 j = T j := by
      intro j h9 h10
      rw [hT2, hT1, dt_set_n _ _ _ _ _ h9, dt_set_n _ _ _ _ _ h10]
    have T29 : ∀ q, T2 9 q = if q = y then jI (hi (gP g b p (-1) (-1)) y n) else T 9 q := by
      intro q
      rw [hT2, hT1, dt_set_s, dt_set_n _ _ _ _ _ (by omega)]
      rfl
    have T210 : ∀ q, T2 10 q = if q = 20 * y + (g 6 b).toNat then jI (-1) else T 10 q := by
      intro q
      rw [hT2, hT1, dt_set_n _ _ _ _ _ (by omega), dt_set_s]
      rfl
    obtain ⟨T', z, z1, z2, z3⟩ := ih f (i + 1) T2 (by rw [T2n 2 (by omega) (by omega)]; exact e2) (by rw [T2n 7 (by omega) (by omega)]; exact e7) (by rw [T2n 8 (by omega) (by omega)]; exact e8) (by
      intro q hq1 hq2
      have old := hq q (by omega) (by omega)
      refine ⟨?_, ?_⟩
      · rw [T29, if_neg (by omega)]; exact old.1
      · intro l hl
        rw [T210, if_neg (by omega)]; exact old.2 l hl) (by omega) (by omega)
    refine ⟨T', ?_, ?_, ?_, ?_⟩
    · unfold fX5_lift_11
      simp (disch := omega) only [jI_lit, jI_add, jI_sub, jI_mul, jI_neg, jI_lt, jI_le, jI_eq, jI_div, dt_ix_j, dt_b1, Int.toNat_natCast, e2, e7, e8]
      rw [if_neg (by omega), mk, dt_b1, st, dt_b1, ← hT2]
      exact z
    · intro j h9 h10
      rw [z1 j h9 h10]
      by_cases j6 : j = 6
      · subst j6; simp (disch := omega) only [dt_set_at, dt_set_s, dt_set_n, dt_setA_s, dt_setA_ne, upd_s, upd_n, upd_e, ne_eq, not_false_eq_true]; rw [T2n 6 (by omega) (by omega)]
      · by_cases j7 : j = 7
        · subst j7; simp (disch := omega) only [dt_set_at, dt_set_s, dt_set_n, dt_setA_s, dt_setA_ne, upd_s, upd_n, upd_e, ne_eq, not_false_eq_true]; rw [T2n 7 (by omega) (by omega)]
        · by_cases j8 : j = 8
          · subst j8; simp (disch := omega) only [dt_set_at, dt_set_s, dt_set_n, dt_setA_s, dt_setA_ne, upd_s, upd_n, upd_e, ne_eq, not_false_eq_true]; rw [T2n 8 (by omega) (by omega)]
          · rw [dt_set_n _ _ _ _ _ j8, dt_set_n _ _ _ _ _ j7, dt_set_n _ _ _ _ _ j6, dt_set_n _ _ _ _ _ j8, dt_set_n _ _ _ _ _ j7, dt_set_n _ _ _ _ _ j6]
            exact T2n j h9 h10
    · intro q
      rw [z2 q, T29]
      by_cases e : q = y
      · subst e; rw [if_neg (by omega), if_pos rfl, if_pos (by omega)]
      · rw [if_neg e]
        by_cases e' : g 5 b + ((i + 1 : Nat) : Int) ≤ q ∧ (q : Int) < g 5 b + g 0 b
        · rw [if_pos e', if_pos (by omega)]
        · rw [if_neg e', if_neg (by omega)]
    · intro q l hl
      rw [z3 q l hl, T210]
      by_cases e : q = y ∧ (l : Int) = g 6 b
      · rw [if_neg (by omega), if_pos (by omega), if_pos (by omega)]
      · by_cases e' : (g 5 b + ((i + 1 : Nat) : Int) ≤ q ∧ (q : Int) < g 5 b + g 0 b) ∧ (l : Int) = g 6 b
        · rw [if_pos e', if_pos (by omega)]
        · rw [if_neg e', if_neg (by omega), if_neg (by omega)]
theorem fX5_isInTower_j {T : dt_Ob} {n : Nat} {W : Int} {g : Nat → Nat → Int} (h : TW T n W g) (ho : okD n W g) (b : Int) (h0 : -2147483648 ≤ b) (h1 : b < 2147483648) : fX5_isInTower (jI b) T = some (if (0 ≤ b ∧ b < n) ∧ 0 ≤ g 5 b.toNat then 1 else 0) := by
  have hn := ho.1
  unfold fX5_isInTower
  rw [fX5_isKnown_j h.2.1 hn b h0 h1, dt_b1]
  by_cases k : 0 ≤ b ∧ b < n
  · rw [if_pos k]
    have r := (ho.2.2.2.1 b.toNat (by omega)).1
    unfold okB at r
    have e6 : T 6 b.toNat = jI (g 4 b.toNat) := h.2.2.1 4 (by omega) b.toNat (by omega)
    simp (disch := omega) only [jI_lit, jI_add, jI_sub, jI_mul, jI_neg, jI_lt, jI_le, jI_eq, jI_div, dt_ix_j, dt_b1, Int.toNat_natCast, e6]
    rw [if_neg (by omega)]
    by_cases z : g 4 b.toNat = -1
    · rw [if_pos z, if_pos (by omega)]
    · rw [if_neg z, if_neg (by omega)]
  · rw [if_neg k, if_pos rfl, if_neg (by omega)]
theorem fX5_isInYard_j {T : dt_Ob} {n : Nat} {W : Int} {g : Nat → Nat → Int} (h : TW T n W g) (ho : okD n W g) (b : Int) (h0 : -2147483648 ≤ b) (h1 : b < 2147483648) : fX5_isInYard (jI b) T = some (if (0 ≤ b ∧ b < n) ∧ g 5 b.toNat < 0 then 1 else 0) := by
  have hn := ho.1
  unfold fX5_isInYard
  rw [fX5_isKnown_j h.2.1 hn b h0 h1, dt_b1]
  by_cases k : 0 ≤ b ∧ b < n
  · rw [if_pos k]
    have r := (ho.2.2.2.1 b.toNat (by omega)).1
    unfold okB at r
    have e6 : T 6 b.toNat = jI (g 4 b.toNat) := h.2.2.1 4 (by omega) b.toNat (by omega)
    simp (disch := omega) only [jI_lit, jI_add, jI_sub, jI_mul, jI_neg, jI_lt, jI_le, jI_eq, jI_div, dt_ix_j, dt_b1, Int.toNat_natCast, e6]
    rw [if_neg (by omega)]
    by_cases z : g 4 b.toNat = -1
    · rw [if_pos z, if_neg (by omega)]
    · rw [if_neg z, if_pos (by omega)]
  · rw [if_neg k, if_pos rfl, if_neg (by omega)]
theorem fX5_lift_j {T : dt_Ob} {n : Nat} {W : Int} {g : Nat → Nat → Int} (h : TW T n W g) (ho : okD n W g) (b : Nat) (hb : b < n) (hc : 0 ≤ g 5 b) (p : Int) (hp : 0 ≤ p ∧ p ≤ 59) : ∃ T', fX5_lift (jI b) (jI p) T = some T' ∧ TW T' n W (gP g b p (-1) (-1)) ∧ (∀ j, 10 < j → T' j = T j) := by
  have hn := ho.1
  have w := ho.2.2
  have r0 := ho.2.2.2.1 b hb
  have r := r0.1
  unfold okB at r
  obtain ⟨T', z, z1, z2, z3⟩ := fX5_lift_j11 ho b hb hc p hp (g 0 b).toNat dt_F 0 T (h.2.2.1 0 (by omega) b hb) (h.2.2.1 5 (by omega) b hb) (h.2.2.1 6 (by omega) b hb) (fun q h1 h2 => ⟨h.2.2.2.1 q (by omega), fun l hl => h.2.2.2.2 q l (by omega) hl⟩) (by omega) (by unfold dt_F; omega)
  refine ⟨T', ?_, ⟨?_, ?_, ?_, ?_, ?_⟩, ?_⟩
  · unfold fX5_lift
    rw [fX5_isInTower_j h ho b (by omega) (by omega), dt_b1, if_neg]
    · exact z
    · rw [if_pos ⟨by omega, by rw [Int.toNat_natCast]; exact hc⟩]; decide
  · rw [z1 0 (by omega) (by omega)]
    simp (disch := omega) only [dt_set_at, dt_set_s, dt_set_n, dt_setA_s, dt_setA_ne, upd_s, upd_n, upd_e, ne_eq, not_false_eq_true]
    exact h.1
  · rw [z1 1 (by omega) (by omega)]
    simp (disch := omega) only [dt_set_at, dt_set_s, dt_set_n, dt_setA_s, dt_setA_ne, upd_s, upd_n, upd_e, ne_eq, not_false_eq_true]
    exact h.2.1
  · intro f hf x hx
    have old := h.2.2.1 f hf x hx
    rw [z1 (2 + f) (by omega) (by omega)]
    by_cases f4 : f = 4
    · subst f4
      simp (disch := omega) only [dt_set_at, dt_set_s, dt_set_n, dt_setA_s, dt_setA_ne, upd_s, upd_n, upd_e, ne_eq, not_false_eq_true]
      by_cases e : x = b
      · subst e; rw [upd_s, gP_4]
      · rw [upd_n _ _ _ _ e, gP_n _ _ _ _ _ _ _ e]; exact old
    · by_cases f5 : f = 5
      · subst f5
        simp (disch := omega) only [dt_set_at, dt_set_s, dt_set_n, dt_setA_s, dt_setA_ne, upd_s, upd_n, upd_e, ne_eq, not_false_eq_true]
        by_cases e : x = b
        · subst e; rw [upd_s, gP_5]
        · rw [upd_n _ _ _ _ e, gP_n _ _ _ _ _ _ _ e]; exact old
      · by_cases f6 : f = 6
        · subst f6
          simp (disch := omega) only [dt_set_at, dt_set_s, dt_set_n, dt_setA_s, dt_setA_ne, upd_s, upd_n, upd_e, ne_eq, not_false_eq_true]
          by_cases e : x = b
          · subst e; rw [upd_s, gP_6]
          · rw [upd_n _ _ _ _ e, gP_n _ _ _ _ _ _ _ e]; exact old
        · rw [gP_f _ _ _ _ _ _ _ (by omega), dt_set_n _ _ _ _ _ (by omega), dt_set_n _ _ _ _ _ (by omega), dt_set_n _ _ _ _ _ (by omega)]
          exact old
  · intro q hq
    rw [z2 q]
    by_cases e : g 5 b + ((0 : Nat) : Int) ≤ q ∧ (q : Int) < g 5 b + g 0 b
    · rw [if_pos e]
    · rw [if_neg e, hi_lift_out p q (by unfold cov; omega)]
      exact h.2.2.2.1 q hq
  · intro q l hq hl
    rw [z3 q l hl, ce_lift ho hb p hp]
    by_cases e : (g 5 b + ((0 : Nat) : Int) ≤ q ∧ (q : Int) < g 5 b + g 0 b) ∧ (l : Int) = g 6 b
    · rw [if_pos e, if_pos (by unfold cov; omega)]
    · rw [if_neg e, if_neg (by unfold cov; omega)]
      exact h.2.2.2.2 q l hq hl
  · intro j hj
    rw [z1 j (by omega) (by omega), dt_set_n _ _ _ _ _ (by omega), dt_set_n _ _ _ _ _ (by omega), dt_set_n _ _ _ _ _ (by omega)]
/-- nothing is lifted that isn't in the tower -/
theorem fX5_lift_no {T : dt_Ob} {n : Nat} {W : Int} {g : Nat → Nat → Int} (h : TW T n W g) (ho : okD n W g) (b : Nat) (hc : g 5 b < 0) (p : Int32) : fX5_lift (jI b) p T = some T ∨ 2147483648 ≤ b := by
  by_cases hb : b < 2147483648
  · left
    unfold fX5_lift
    rw [fX5_isInTower_j h ho b (by omega) (by omega), dt_b1, if_pos]
    rw [if_neg]
    rw [Int.toNat_natCast]
    omega
  · right; omega
