/-! ===== the class's tower over numbers ===== -/
def TW (T : dt_Ob) (n : Nat) (W : Int) (g : Nat → Nat → Int) : Prop := T 0 0 = jI W ∧ T 1 0 = jI n ∧ (∀ f, f < 7 → ∀ b, b < n → T (2 + f) b = jI (g f b)) ∧ (∀ c : Nat, c < 8 → T 9 c = jI (hi g c n)) ∧ (∀ c l : Nat, c < 8 → l < 20 → T 10 (20 * c + l) = jI (ce g c l n))
theorem fX5_heightAt_j {T : dt_Ob} {n : Nat} {W : Int} {g : Nat → Nat → Int} (h : TW T n W g) (c : Int) (h0 : 0 ≤ c) (h1 : c < 8) : fX5_heightAt (jI c) T = some (jI (hi g c n)) := by
  unfold fX5_heightAt
  simp (disch := omega) only [jI_lit, jI_add, jI_sub, jI_mul, jI_neg, jI_lt, jI_le, jI_eq, jI_div, dt_ix_j, dt_b1, Int.toNat_natCast]
  rw [if_neg (by omega), if_neg (by omega), h.2.2.2.1 c.toNat (by omega)]
  rw [show ((c.toNat : Nat) : Int) = c by omega]
theorem fX5_cellAt_j {T : dt_Ob} {n : Nat} {W : Int} {g : Nat → Nat → Int} (h : TW T n W g) (c l : Int) (h0 : 0 ≤ c) (h1 : c < 8) (h2 : 0 ≤ l) (h3 : l < 20) : fX5_cellAt (jI c) (jI l) T = some (jI (ce g c l n)) := by
  unfold fX5_cellAt fX5_cellAt_25
  simp (disch := omega) only [jI_lit, jI_add, jI_sub, jI_mul, jI_neg, jI_lt, jI_le, jI_eq, jI_div, dt_ix_j, dt_b1, Int.toNat_natCast]
  rw [if_neg (by omega), if_neg (by omega), if_neg (by omega), if_neg (by omega), if_neg (by omega)]
  rw [show (c * 20 + l).toNat = 20 * c.toNat + l.toNat by omega, h.2.2.2.2 c.toNat l.toNat (by omega) (by omega)]
  rw [show ((c.toNat : Nat) : Int) = c by omega, show ((l.toNat : Nat) : Int) = l by omega]
theorem fX5_isKnown_j {T : dt_Ob} {n : Nat} (h : T 1 0 = jI n) (hn : n ≤ 20) (b : Int) (h0 : -2147483648 ≤ b) (h1 : b < 2147483648) : fX5_isKnown (jI b) T = some (if 0 ≤ b ∧ b < n then 1 else 0) := by
  unfold fX5_isKnown
  simp (disch := omega) only [h, jI_lit, jI_add, jI_sub, jI_mul, jI_neg, jI_lt, jI_le, jI_eq, jI_div, dt_ix_j, dt_b1, Int.toNat_natCast]
  by_cases a : b < 0
  · rw [if_pos a, if_neg (by omega)]
  · rw [if_neg a]
    by_cases c : (n : Int) ≤ b
    · rw [if_pos c, if_neg (by omega)]
    · rw [if_neg c, if_pos (by omega)]
theorem fX5_levelFor_j5 {T : dt_Ob} {n : Nat} {W : Int} {g : Nat → Nat → Int} (h : TW T n W g) (ho : okD n W g) (b : Nat) (hb : b < n) (c : Int) (h0 : 0 ≤ c) (h1 : c + g 0 b ≤ 8) : ∀ (k fuel i : Nat), (i : Int) + k = g 0 b → k < fuel → fX5_levelFor_5 fuel (jI b) (jI c) (jI (la n g c i)) (jI i) T = some (jI (la n g c (g 0 b).toNat)) := by
  have hn := ho.1
  have e2 : T 2 b = jI (g 0 b) := h.2.2.1 0 (by omega) b hb
  have r := (ho.2.2.2.1 b hb).1
  intro k
  induction k with
  | zero =>
    intro fuel i hk hf
    obtain ⟨f, rfl⟩ : ∃ f, fuel = f + 1 := ⟨fuel - 1, by omega⟩
    unfold fX5_levelFor_5
    unfold okB at r
    simp (disch := omega) only [jI_lit, jI_add, jI_sub, jI_mul, jI_neg, jI_lt, jI_le, jI_eq, jI_div, dt_ix_j, dt_b1, Int.toNat_natCast, e2]
    rw [if_pos (by omega), show (g 0 b).toNat = i by omega]
  | succ k ih =>
    intro fuel i hk hf
    obtain ⟨f, rfl⟩ : ∃ f, fuel = f + 1 := ⟨fuel - 1, by omega⟩
    unfold fX5_levelFor_5
    unfold okB at r
    have q1 := okD_la ho c i
    have q2 := okD_hi ho (c + i)
    simp (disch := omega) only [jI_lit, jI_add, jI_sub, jI_mul, jI_neg, jI_lt, jI_le, jI_eq, jI_div, dt_ix_j, dt_b1, Int.toNat_natCast, e2]
    rw [if_neg (by omega), fX5_heightAt_j h (c + i) (by omega) (by omega), dt_b1]
    simp (disch := omega) only [jI_lit, jI_add, jI_sub, jI_mul, jI_neg, jI_lt, jI_le, jI_eq, jI_div, dt_ix_j, dt_b1, Int.toNat_natCast]
    have z := ih f (i + 1) (by omega) (by omega)
    rw [show ((i : Int) + 1) = ((i + 1 : Nat) : Int) by omega]
    rw [← z]
    congr 1
    rw [show la n g c (i + 1) = max (la n g c i) (hi g (c + i) n) from rfl]
    split
    · rw [show max (la n g c i) (hi g (c + i) n) = hi g (c + i) n by omega]
    · rw [show max (la n g c i) (hi g (c + i) n) = la n g c i by omega]
theorem fX5_levelFor_j {T : dt_Ob} {n : Nat} {W : Int} {g : Nat → Nat → Int} (h : TW T n W g) (ho : okD n W g) (b : Nat) (hb : b < n) (c : Int) (h0 : 0 ≤ c) (h1 : c + g 0 b ≤ 8) : fX5_levelFor (jI b) (jI c) T = some (jI (la n g c (g 0 b).toNat)) := by
  unfold fX5_levelFor
  have r := (ho.2.2.2.1 b hb).1
  unfold okB at r
  exact fX5_levelFor_j5 h ho b hb c h0 h1 (g 0 b).toNat dt_F 0 (by omega) (by unfold dt_F; omega)
