/-! ===== the class's tower: stands, drop, lift ===== -/
abbrev stn (n : Nat) (g : Nat → Nat → Int) (b : Nat) (c : Int) : Prop := (g 0 b = 1 ∧ hi g c n = la n g c (g 0 b).toNat) ∨ (g 0 b = 2 ∧ hi g c n = la n g c (g 0 b).toNat ∧ hi g (c + 1) n = la n g c (g 0 b).toNat) ∨ (g 0 b = 3 ∧ (hi g (c + 1) n = la n g c (g 0 b).toNat ∨ (hi g c n = la n g c (g 0 b).toNat ∧ hi g (c + 2) n = la n g c (g 0 b).toNat)))
theorem fX5_wouldStand_j {T : dt_Ob} {n : Nat} {W : Int} {g : Nat → Nat → Int} (h : TW T n W g) (ho : okD n W g) (b : Nat) (hb : b < n) (c : Int) (h0 : 0 ≤ c) (h1 : c + g 0 b ≤ W) : fX5_wouldStand (jI b) (jI c) T = some (if stn n g b c then 1 else 0) := by
  have r := (ho.2.2.2.1 b hb).1
  have w := ho.2.2
  have hn := ho.1
  have e2 : T 2 b = jI (g 0 b) := h.2.2.1 0 (by omega) b hb
  have q1 := okD_la ho c (g 0 b).toNat
  have q2 := okD_hi ho c
  have q3 := okD_hi ho (c + 1)
  have q4 := okD_hi ho (c + 2)
  unfold okB at r
  unfold fX5_wouldStand
  rw [fX5_levelFor_j h ho b hb c h0 (by omega), dt_b1, fX5_heightAt_j h c h0 (by omega), dt_b1]
  unfold fX5_wouldStand_21 fX5_wouldStand_108
  simp (disch := omega) only [jI_lit, jI_add, jI_sub, jI_mul, jI_neg, jI_lt, jI_le, jI_eq, jI_div, dt_ix_j, dt_b1, Int.toNat_natCast, e2]
  have l : g 0 b = 1 ∨ g 0 b = 2 ∨ g 0 b = 3 := by omega
  unfold stn
  rcases l with e | e | e
  · by_cases z : hi g c n = la n g c (g 0 b).toNat
    · simp [e] at z
      simp [e, z]
    · simp [e] at z
      simp [e, z]
  · rw [fX5_heightAt_j h (c + 1) (by omega) (by omega)]
    simp (disch := omega) only [jI_lit, jI_add, jI_sub, jI_mul, jI_neg, jI_lt, jI_le, jI_eq, jI_div, dt_ix_j, dt_b1, Int.toNat_natCast]
    rw [e] at q1
    rw [e]
    generalize la n g c (2 : Int).toNat = L at *
    by_cases z : hi g c n = L <;> by_cases z' : hi g (c + 1) n = L <;> simp [z, z']
  · rw [fX5_heightAt_j h (c + 1) (by omega) (by omega), fX5_heightAt_j h (c + 2) (by omega) (by omega)]
    simp (disch := omega) only [jI_lit, jI_add, jI_sub, jI_mul, jI_neg, jI_lt, jI_le, jI_eq, jI_div, dt_ix_j, dt_b1, Int.toNat_natCast]
    rw [e] at q1
    rw [e]
    generalize la n g c (3 : Int).toNat = L at *
    by_cases z : hi g c n = L <;> by_cases z' : hi g (c + 1) n = L <;> by_cases z2 : hi g (c + 2) n = L <;> simp [z, z', z2]
theorem fX5_mark_j (T : dt_Ob) (c l : Int) (v : Int32) (h0 : 0 ≤ c) (h1 : c < 8) (h2 : 0 ≤ l) (h3 : l < 20) : fX5_mark (jI c) (jI l) v T = some (dt_set T 10 (20 * c.toNat + l.toNat) v) := by
  unfold fX5_mark
  simp (disch := omega) only [jI_lit, jI_add, jI_sub, jI_mul, jI_neg, jI_lt, jI_le, jI_eq, jI_div, dt_ix_j, dt_b1, Int.toNat_natCast]
  rw [if_neg (by omega), if_neg (by omega), if_neg (by omega), if_neg (by omega)]
  rw [show (c * 20 + l).toNat = 20 * c.toNat + l.toNat by omega]
theorem fX5_drop_j41 (b : Nat) (hb : b < 20) (L N : Nat) (hL : L < 20) (hN : N ≤ 3) (c : Nat) (hc : c + N ≤ 8) : ∀ (k fuel i : Nat) (T : dt_Ob), T 2 b = jI N → i + k = N → k < fuel → ∃ T', fX5_drop_41 fuel (jI b) (jI c) (jI L) (jI i) T = some T' ∧ (∀ j, j ≠ 9 → j ≠ 10 → T' j = T j) ∧ (∀ q, T' 9 q = if c + i ≤ q ∧ q < c + N then jI (L + 1) else T 9 q) ∧ (∀ q l, l < 20 → T' 10 (20 * q + l) = if (c + i ≤ q ∧ q < c + N) ∧ l = L then jI b else T 10 (20 * q + l)) := by
  intro k
  induction k with
  | zero =>
    intro fuel i T e2 hk hf
    obtain ⟨f, rfl⟩ : ∃ f, fuel = f + 1 := ⟨fuel - 1, by omega⟩
    refine ⟨T, ?_, fun _ _ _ => rfl, ?_, ?_⟩
    · unfold fX5_drop_41
      simp (disch := omega) only [jI_lit, jI_add, jI_sub, jI_mul, jI_neg, jI_lt, jI_le, jI_eq, jI_div, dt_ix_j, dt_b1, Int.toNat_natCast, e2]
      rw [if_pos (by omega)]
    · intro q; rw [if_neg (by omega)]
    · intro q l _; rw [if_neg (by omega)]
  | succ k ih =>
    intro fuel i T e2 hk hf
    obtain ⟨f, rfl⟩ : ∃ f, fuel = f + 1 := ⟨fuel - 1, by omega⟩
    obtain ⟨T', z, z1, z2, z3⟩ := ih f (i + 1) (dt_set (dt_set T 10 (20 * (c + i) + L) (jI b)) 9 (c + i) (jI (L + 1))) (by simp (disch := omega) only [dt_set_at, dt_set_s, dt_set_n, dt_setA_s, dt_setA_ne, upd_s, upd_n, upd_e, ne_eq, not_false_eq_true]; exact e2) (by omega) (by omega)
    refine ⟨T', ?_, ?_, ?_, ?_⟩
    · unfold fX5_drop_41
      simp (disch := omega) only [jI_lit, jI_add, jI_sub, jI_mul, jI_neg, jI_lt, jI_le, jI_eq, jI_div, dt_ix_j, dt_b1, Int.toNat_natCast, e2]
      rw [if_neg (by omega), fX5_mark_j T (c + i) L _ (by omega) (by omega) (by omega) (by omega), dt_b1]
      rw [show ((c : Int) + i).toNat = c + i by omega, Int.toNat_natCast, show ((i : Int) + 1) = ((i + 1 : Nat) : Int) by omega]
      exact z
    · intro j h9 h10
      rw [z1 j h9 h10]
      simp (disch := omega) only [dt_set_at, dt_set_s, dt_set_n, dt_setA_s, dt_setA_ne, upd_s, upd_n, upd_e, ne_eq, not_false_eq_true]
    · intro q
      rw [z2 q]
      simp (disch := omega) only [dt_set_at, dt_set_s, dt_set_n, dt_setA_s, dt_setA_ne, upd_s, upd_n, upd_e, ne_eq, not_false_eq_true]
      by_cases e : q = c + i
      · subst e; rw [if_neg (by omega), if_pos (by omega), upd_s]
      · rw [upd_n _ _ _ _ e]
        by_cases e' : c + (i + 1) ≤ q ∧ q < c + N
        · rw [if_pos e', if_pos (by omega)]
        · rw [if_neg e', if_neg (by omega)]
    · intro q l hl
      rw [z3 q l hl]
      simp (disch := omega) only [dt_set_at, dt_set_s, dt_set_n, dt_setA_s, dt_setA_ne, upd_s, upd_n, upd_e, ne_eq, not_false_eq_true]
      by_cases e : q = c + i ∧ l = L
      · rw [e.1, e.2, if_neg (by omega), if_pos (by omega), upd_s]
      · rw [upd_n _ _ _ _ (by omega)]
        by_cases e' : (c + (i + 1) ≤ q ∧ q < c + N) ∧ l = L
        · rw [if_pos e', if_pos (by omega)]
        · rw [if_neg e', if_neg (by omega)]
/-- dropped: a block of the yard, where it belongs -/
theorem fX5_drop_j {T : dt_Ob} {n : Nat} {W : Int} {g : Nat → Nat → Int} (h : TW T n W g) (ho : okT n W g) (b : Nat) (hb : b < n) (c : Int) (h0 : 0 ≤ c) (h1 : c + g 0 b ≤ W) (hy : g 5 b < 0) : ∃ T', fX5_drop (jI b) (jI c) T = some T' ∧ TW T' n W (gP g b (-1) c (la n g c (g 0 b).toNat)) ∧ (∀ j, 10 < j → T' j = T j) := by
  have od := ho.D
  have r := (od.2.2.2.1 b hb).1
  have w := od.2.2
  have hn := od.1
  have e2 : T 2 b = jI (g 0 b) := h.2.2.1 0 (by omega) b hb
  have q1 := okD_la od c (g 0 b).toNat
  have tn := okT_drop ho hb c hy h0 h1
  have lv := (tn.D.2.2.2.1 b hb).2
  rw [gP_6] at lv
  have r' := r
  unfold okB at r'
  obtain ⟨T', z, z1, z2, z3⟩ := fX5_drop_j41 b (by omega) (la n g c (g 0 b).toNat).toNat (g 0 b).toNat (by omega) (by omega) c.toNat (by omega) (g 0 b).toNat dt_F 0 (dt_set (dt_set (dt_set T 6 b (-1 : Int32)) 7 b (jI c)) 8 b (jI (la n g c (g 0 b).toNat))) (by simp (disch := omega) only [dt_set_at, dt_set_s, dt_set_n, dt_setA_s, dt_setA_ne, upd_s, upd_n, upd_e, ne_eq, not_false_eq_true]; rw [e2]; congr 1; omega) (by omega) (by unfold dt_F; omega)
  have cc : ((c.toNat : Nat) : Int) = c := by omega
  have cl : (((la n g c (g 0 b).toNat).toNat : Nat) : Int) = la n g c (g 0 b).toNat := by omega
  have c0 : ((0 : Nat) : Int) = 0 := rfl
  rw [cc, cl, c0] at z
  refine ⟨T', ?_, ⟨?_, ?_, ?_, ?_, ?_⟩, ?_⟩
  · unfold fX5_drop fX5_fits
    rw [fX5_isKnown_j h.2.1 hn b (by omega) (by omega), if_pos (by omega), dt_b1]
    simp (disch := omega) only [jI_lit, jI_add, jI_sub, jI_mul, jI_neg, jI_lt, jI_le, jI_eq, jI_div, dt_ix_j, dt_b1, Int.toNat_natCast, e2, h.1]
    rw [if_neg (by omega), if_neg (by omega), if_neg (by omega), dt_b1]
    simp (disch := omega) only [jI_lit, jI_add, jI_sub, jI_mul, jI_neg, jI_lt, jI_le, jI_eq, jI_div, dt_ix_j, dt_b1, Int.toNat_natCast]
    rw [if_neg (by omega), fX5_levelFor_j h od b hb c h0 (by omega), dt_b1]
    exact z
  · rw [z1 0 (by omega) (by omega)]
    simp (disch := omega) only [dt_set_at, dt_set_s, dt_set_n, dt_setA_s, dt_setA_ne, upd_s, upd_n, upd_e, ne_eq, not_false_eq_true]
    exact h.1
  · rw [z1 1 (by omega) (by omega)]
    simp (disch := omega) only [dt_set_at, dt_set_s, dt_set_n, dt_setA_s, dt_setA_ne, upd_s, upd_n, upd_e, ne_eq, not_false_eq_true]
    exact h.2.1
  · intro f hf x hx
    have old := h.2.2.1 f hf x hx
    rw [z1 (2 + f) (by omega) (by omega)]
    by_cases f4 : f = 4
    · subst f4
      simp (disch := omega) only [dt_set_at, dt_set_s, dt_set_n, dt_setA_s, dt_setA_ne, upd_s, upd_n, upd_e, ne_eq, not_false_eq_true]
      by_cases e : x = b
      · subst e; rw [upd_s, gP_4]; rfl
      · rw [upd_n _ _ _ _ e, gP_n _ _ _ _ _ _ _ e]; exact old
    · by_cases f5 : f = 5
      · subst f5
        simp (disch := omega) only [dt_set_at, dt_set_s, dt_set_n, dt_setA_s, dt_setA_ne, upd_s, upd_n, upd_e, ne_eq, not_false_eq_true]
        by_cases e : x = b
        · subst e; rw [upd_s, gP_5]
        · rw [upd_n _ _ _ _ e, gP_n _ _ _ _ _ _ _ e]; exact old
      · by_cases f6 : f = 6
        · subst f6
          simp (disch := omega) only [dt_set_at, dt_set_s, dt_set_n, dt_setA_s, dt_setA_ne, upd_s, upd_n, upd_e, ne_eq, not_false_eq_true]
          by_cases e : x = b
          · subst e; rw [upd_s, gP_6]
          · rw [upd_n _ _ _ _ e, gP_n _ _ _ _ _ _ _ e]; exact old
        · rw [gP_f _ _ _ _ _ _ _ (by omega), dt_set_n _ _ _ _ _ (by omega), dt_set_n _ _ _ _ _ (by omega), dt_set_n _ _ _ _ _ (by omega)]
          exact old
  · intro q hq
    rw [z2 q, hi_drop hb (-1) c _ hy h0 (fun i hi' => la_ge n g c (g 0 b).toNat i (by omega)) q1.1]
    by_cases e : c.toNat + 0 ≤ q ∧ q < c.toNat + (g 0 b).toNat
    · rw [if_pos e, if_pos (by omega), cl]
    · rw [if_neg e, if_neg (by omega)]
      simp (disch := omega) only [dt_set_at, dt_set_s, dt_set_n, dt_setA_s, dt_setA_ne, upd_s, upd_n, upd_e, ne_eq, not_false_eq_true]
      exact h.2.2.2.1 q hq
  · intro q l hq hl
    rw [z3 q l hl]
    by_cases e : (c.toNat + 0 ≤ q ∧ q < c.toNat + (g 0 b).toNat) ∧ l = (la n g c (g 0 b).toNat).toNat
    · rw [if_pos e, ce_some tn.D q l b hb ((cov_b g b _ c _ q).mpr (by omega)) (by rw [gP_6]; omega)]
    · rw [if_neg e]
      simp (disch := omega) only [dt_set_at, dt_set_s, dt_set_n, dt_setA_s, dt_setA_ne, upd_s, upd_n, upd_e, ne_eq, not_false_eq_true]
      rw [h.2.2.2.2 q l hq hl]
      congr 1
      rcases ce_cases g q l n with ⟨e1, z4⟩ | ⟨o, ho', e1, hc, e3⟩
      · rw [e1, ce_none]
        intro x hx hc
        by_cases ex : x = b
        · subst ex; rw [gP_6]; have := (cov_b g x _ c _ q).mp hc; omega
        · rw [gP_n _ _ _ _ _ _ _ ex]; exact z4 x hx ((cov_n g b _ _ _ x ex q).mp hc)
      · have ne : o ≠ b := by intro q'; subst q'; unfold cov at hc; omega
        rw [e1, ce_some tn.D q l o ho' ((cov_n g b _ _ _ o ne q).mpr hc) (by rw [gP_n _ _ _ _ _ _ _ ne]; exact e3)]
  · intro j hj
    rw [z1 j (by omega) (by omega), dt_set_n _ _ _ _ _ (by omega), dt_set_n _ _ _ _ _ (by omega), dt_set_n _ _ _ _ _ (by omega)]
