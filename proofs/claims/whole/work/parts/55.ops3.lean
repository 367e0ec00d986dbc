/-! ===== operations: block, end, wind, pay, hand ===== -/
theorem b74_0 (x1 x2 x3 x4 x5 s0 : Int32) (M : dt_M) : fX9_block_74 x1 x2 x3 x4 x5 0 s0 M = some (-1, M) := by
  unfold fX9_block_74
  rw [i00]
theorem b73_ (x1 x2 x3 x4 x5 x7 : Int32) (M : dt_M) : fX9_block_73 x1 x2 x3 x4 x5 x7 M = some (-1, M) := by
  unfold fX9_block_73 fX9_block_74
  by_cases z : x7 = 0
  · rw [if_pos z]
  · rw [if_neg z, i00]
theorem b45_0 (x1 x2 x3 x4 x5 : Int32) (M : dt_M) : fX9_block_45 x1 x2 x3 x4 x5 0 M = some (-1, M) := by
  unfold fX9_block_45
  rw [b73_, b74_0]
  repeat' split
  all_goals rfl
theorem fX9_block_no (M : dt_M) (a b c d e W : Int) (n : Nat) (hW : M 1 0 0 = jI W) (hN : M 1 1 0 = jI n) (hn : n ≤ 20) (hw : 2 ≤ W ∧ W ≤ 8) (ra : -2147483648 ≤ a ∧ a < 2147483648) (rb : -2147483648 ≤ b ∧ b < 2147483648) (rc : -2147483648 ≤ c ∧ c < 2147483648) (rd : -2147483648 ≤ d ∧ d < 2147483648) (re : -2147483648 ≤ e ∧ e < 2147483648) (z : ¬ ((1 ≤ a ∧ a ≤ 3 ∧ a ≤ W) ∧ (1 ≤ b ∧ b ≤ 99) ∧ (0 ≤ c ∧ c ≤ 999) ∧ (0 ≤ d ∧ d ≤ 7) ∧ (0 ≤ e ∧ e ≤ 59) ∧ n < 20)) : fX9_block (jI a) (jI b) (jI c) (jI d) (jI e) M = some (-1, M) := by
  have k1 : (jI a < (1 : Int32)) = (a < 1) := jI_lt a 1 (by omega) (by omega) (by omega) (by omega)
  have k2 : ((3 : Int32) < jI a) = (3 < a) := jI_lt 3 a (by omega) (by omega) (by omega) (by omega)
  have k3 : (jI W < jI a) = (W < a) := jI_lt W a (by omega) (by omega) (by omega) (by omega)
  have k4 : (jI d < (0 : Int32)) = (d < 0) := jI_lt d 0 (by omega) (by omega) (by omega) (by omega)
  have k5 : ((7 : Int32) < jI d) = (7 < d) := jI_lt 7 d (by omega) (by omega) (by omega) (by omega)
  have k6 : (jI b < (1 : Int32)) = (b < 1) := jI_lt b 1 (by omega) (by omega) (by omega) (by omega)
  have k7 : ((99 : Int32) < jI b) = (99 < b) := jI_lt 99 b (by omega) (by omega) (by omega) (by omega)
  have k8 : (jI c < (0 : Int32)) = (c < 0) := jI_lt c 0 (by omega) (by omega) (by omega) (by omega)
  have k9 : ((999 : Int32) < jI c) = (999 < c) := jI_lt 999 c (by omega) (by omega) (by omega) (by omega)
  have k10 : (jI n < (20 : Int32)) = ((n : Int) < 20) := jI_lt n 20 (by omega) (by omega) (by omega) (by omega)
  unfold fX9_block fX9_block_44
  rw [b45_0, hW]
  simp only [k1, k2, k3, k4, k5]
  by_cases h1 : 1 ≤ a ∧ a ≤ 3 ∧ a ≤ W ∧ 0 ≤ d ∧ d ≤ 7
  · rw [if_neg (by omega), if_neg (by omega), if_neg (by omega), if_neg (by omega), if_neg (by omega)]
    unfold fX9_block_45
    rw [b73_]
    simp only [k6, k7, k8, k9]
    by_cases h2 : 1 ≤ b ∧ b ≤ 99 ∧ 0 ≤ c ∧ c ≤ 999
    · rw [if_neg (by omega), if_neg (by omega), if_neg (by omega), if_neg (by omega)]
      unfold fX9_block_74
      rw [i10, i10, fX9_isPlace_j e re.1 re.2, dt_b1, hN]
      simp only [k10]
      by_cases h3 : 0 ≤ e ∧ e ≤ 59
      · rw [if_pos h3, i10, if_neg (by omega)]
      · rw [if_neg h3, i00]
    · repeat' split
      all_goals first
        | rfl
        | (exfalso; omega)
  · repeat' split
    all_goals first
      | rfl
      | (exfalso; omega)
theorem fX10_block_no (T : dt_Ob) (a b c d e W : Int) (n : Nat) (hW : T 0 0 = jI W) (hN : T 0 1 = jI n) (hn : n ≤ 20) (hw : 2 ≤ W ∧ W ≤ 8) (ra : -2147483648 ≤ a ∧ a < 2147483648) (rb : -2147483648 ≤ b ∧ b < 2147483648) (rc : -2147483648 ≤ c ∧ c < 2147483648) (rd : -2147483648 ≤ d ∧ d < 2147483648) (re : -2147483648 ≤ e ∧ e < 2147483648) (z : ¬ ((1 ≤ a ∧ a ≤ 3 ∧ a ≤ W) ∧ (1 ≤ b ∧ b ≤ 99) ∧ (0 ≤ c ∧ c ≤ 999) ∧ (0 ≤ d ∧ d ≤ 7) ∧ (0 ≤ e ∧ e ≤ 59) ∧ n < 20)) : fX10_block (jI a) (jI b) (jI c) (jI d) (jI e) T = some (-1, T) := by
  have q1 : fX10_isIn (jI a) 1 (jI (min 3 W)) = some (if 1 ≤ a ∧ a ≤ min 3 W then 1 else 0) := fX10_isIn_j a 1 (min 3 W) (by omega) (by omega) (by omega) (by omega) (by omega) (by omega)
  have q2 : fX10_isIn (jI b) 1 99 = some (if 1 ≤ b ∧ b ≤ 99 then 1 else 0) := fX10_isIn_j b 1 99 (by omega) (by omega) (by omega) (by omega) (by omega) (by omega)
  have q3 : fX10_isIn (jI c) 0 999 = some (if 0 ≤ c ∧ c ≤ 999 then 1 else 0) := fX10_isIn_j c 0 999 (by omega) (by omega) (by omega) (by omega) (by omega) (by omega)
  have q4 : fX10_isIn (jI d) 0 7 = some (if 0 ≤ d ∧ d ≤ 7 then 1 else 0) := fX10_isIn_j d 0 7 (by omega) (by omega) (by omega) (by omega) (by omega) (by omega)
  have q5 : fX10_isIn (jI e) 0 59 = some (if 0 ≤ e ∧ e ≤ 59 then 1 else 0) := fX10_isIn_j e 0 59 (by omega) (by omega) (by omega) (by omega) (by omega) (by omega)
  have q0 : fX10_least 3 (jI W) = some (jI (min 3 W)) := fX10_least_j 3 W (by omega) (by omega) (by omega) (by omega)
  have x0 : dt_ix (0 : Int32) 1225 = some 0 := rfl
  have x1 : dt_ix (1 : Int32) 1225 = some 1 := rfl
  have n20 : ((jI n = (20 : Int32)) = ((n : Int) = 20)) := jI_eq n 20 (by omega) (by omega) (by omega) (by omega)
  unfold fX10_block
  rw [x0, dt_b1, hW, q0, dt_b1, q1, dt_b1]
  by_cases c1 : 1 ≤ a ∧ a ≤ min 3 W
  · rw [if_pos c1, i10, q2, dt_b1]
    by_cases c2 : 1 ≤ b ∧ b ≤ 99
    · rw [if_pos c2, i10, q3, dt_b1]
      by_cases c3 : 0 ≤ c ∧ c ≤ 999
      · rw [if_pos c3, i10, q4, dt_b1]
        by_cases c4 : 0 ≤ d ∧ d ≤ 7
        · rw [if_pos c4, i10, q5, dt_b1]
          by_cases c5 : 0 ≤ e ∧ e ≤ 59
          · rw [if_pos c5, i10, x1, dt_b1, hN, if_pos (by rw [n20]; omega)]
          · rw [if_neg c5, i00]
        · rw [if_neg c4, i00]
      · rw [if_neg c3, i00]
    · rw [if_neg c2, i00]
  · rw [if_neg c1, i00]
theorem fX9_block_yes (M : dt_M) (a b c d e W : Int) (n : Nat) (hW : M 1 0 0 = jI W) (hN : M 1 1 0 = jI n) (hn : n < 20) (hw : 2 ≤ W ∧ W ≤ 8) (ha : 1 ≤ a ∧ a ≤ 3 ∧ a ≤ W) (hb : 1 ≤ b ∧ b ≤ 99) (hc : 0 ≤ c ∧ c ≤ 999) (hd : 0 ≤ d ∧ d ≤ 7) (he : 0 ≤ e ∧ e ≤ 59) : fX9_block (jI a) (jI b) (jI c) (jI d) (jI e) M = some (jI n, dt_put (dt_put M 11 (dt_set (dt_set (M 11) 4 0 0) 5 0 0)) 1 (dt_set (dt_set (dt_set (dt_set (dt_set (dt_set (dt_set (dt_set (M 1) 2 n (jI a)) 3 n (jI b)) 4 n (jI c)) 5 n (jI d)) 6 n (jI e)) 7 n (jI (-1))) 8 n (jI (-1))) 1 0 (jI ((n + 1 : Nat) : Int)))) := by
  have k1 : (jI a < (1 : Int32)) = (a < 1) := jI_lt a 1 (by omega) (by omega) (by omega) (by omega)
  have k2 : ((3 : Int32) < jI a) = (3 < a) := jI_lt 3 a (by omega) (by omega) (by omega) (by omega)
  have k3 : (jI W < jI a) = (W < a) := jI_lt W a (by omega) (by omega) (by omega) (by omega)
  have k4 : (jI d < (0 : Int32)) = (d < 0) := jI_lt d 0 (by omega) (by omega) (by omega) (by omega)
  have k5 : ((7 : Int32) < jI d) = (7 < d) := jI_lt 7 d (by omega) (by omega) (by omega) (by omega)
  have k6 : (jI b < (1 : Int32)) = (b < 1) := jI_lt b 1 (by omega) (by omega) (by omega) (by omega)
  have k7 : ((99 : Int32) < jI b) = (99 < b) := jI_lt 99 b (by omega) (by omega) (by omega) (by omega)
  have k8 : (jI c < (0 : Int32)) = (c < 0) := jI_lt c 0 (by omega) (by omega) (by omega) (by omega)
  have k9 : ((999 : Int32) < jI c) = (999 < c) := jI_lt 999 c (by omega) (by omega) (by omega) (by omega)
  have k10 : (jI n < (20 : Int32)) = ((n : Int) < 20) := jI_lt n 20 (by omega) (by omega) (by omega) (by omega)
  have ix : dt_ix (jI n) 20 = some n := dt_ix_n n 20 hn (by omega)
  unfold fX9_block
  rw [hW]
  simp only [k1, k2, k3, k4, k5]
  rw [if_neg (by omega), if_neg (by omega), if_neg (by omega), if_neg (by omega), if_neg (by omega)]
  unfold fX9_block_45
  simp only [k6, k7, k8, k9]
  rw [if_neg (by omega), if_neg (by omega), if_neg (by omega), if_neg (by omega)]
  unfold fX9_block_74 fX6_forget fX5_add
  rw [i10, i10, fX9_isPlace_j e (by omega) (by omega), if_pos he, dt_b1, i10, hN]
  simp only [k10]
  rw [if_pos (by omega), if_pos (by omega), ix]
  simp only [dt_b1]
  rw [show (1 : Int32) = jI 1 from rfl, jI_add, jI_sub, show (n : Int) + 1 - 1 = n by omega]
  rfl
theorem fX10_block_yes (T : dt_Ob) (a b c d e W : Int) (n : Nat) (hW : T 0 0 = jI W) (hN : T 0 1 = jI n) (hn : n < 20) (hw : 2 ≤ W ∧ W ≤ 8) (ha : 1 ≤ a ∧ a ≤ 3 ∧ a ≤ W) (hb : 1 ≤ b ∧ b ≤ 99) (hc : 0 ≤ c ∧ c ≤ 999) (hd : 0 ≤ d ∧ d ≤ 7) (he : 0 ≤ e ∧ e ≤ 59) : fX10_block (jI a) (jI b) (jI c) (jI d) (jI e) T = some (jI n, dt_set (dt_set (dt_set (dt_set (dt_set (dt_set (dt_set (dt_set (dt_set T 0 (20 + 8 * n + 0) (jI a)) 0 (20 + 8 * n + 1) (jI b)) 0 (20 + 8 * n + 2) (jI c)) 0 (20 + 8 * n + 3) (jI d)) 0 (20 + 8 * n + 4) (jI e)) 0 (20 + 8 * n + 5) (jI (-1))) 0 (20 + 8 * n + 6) (jI (-1))) 0 1 (jI ((n + 1 : Nat) : Int))) 3 0 0) := by
  have q1 : fX10_isIn (jI a) 1 (jI (min 3 W)) = some (if 1 ≤ a ∧ a ≤ min 3 W then 1 else 0) := fX10_isIn_j a 1 (min 3 W) (by omega) (by omega) (by omega) (by omega) (by omega) (by omega)
  have q2 : fX10_isIn (jI b) 1 99 = some (if 1 ≤ b ∧ b ≤ 99 then 1 else 0) := fX10_isIn_j b 1 99 (by omega) (by omega) (by omega) (by omega) (by omega) (by omega)
  have q3 : fX10_isIn (jI c) 0 999 = some (if 0 ≤ c ∧ c ≤ 999 then 1 else 0) := fX10_isIn_j c 0 999 (by omega) (by omega) (by omega) (by omega) (by omega) (by omega)
  have q4 : fX10_isIn (jI d) 0 7 = some (if 0 ≤ d ∧ d ≤ 7 then 1 else 0) := fX10_isIn_j d 0 7 (by omega) (by omega) (by omega) (by omega) (by omega) (by omega)
  have q5 : fX10_isIn (jI e) 0 59 = some (if 0 ≤ e ∧ e ≤ 59 then 1 else 0) := fX10_isIn_j e 0 59 (by omega) (by omega) (by omega) (by omega) (by omega) (by omega)
  have q0 : fX10_least 3 (jI W) = some (jI (min 3 W)) := fX10_least_j 3 W (by omega) (by omega) (by omega) (by omega)
  have x0 : dt_ix (0 : Int32) 1225 = some 0 := rfl
  have x1 : dt_ix (1 : Int32) 1225 = some 1 := rfl
  have n20 : ((jI n = (20 : Int32)) = ((n : Int) = 20)) := jI_eq n 20 (by omega) (by omega) (by omega) (by omega)
  have w1 : (dt_set (dt_set (dt_set (dt_set (dt_set (dt_set (dt_set T 0 (20 + 8 * n + 0) (jI a)) 0 (20 + 8 * n + 1) (jI b)) 0 (20 + 8 * n + 2) (jI c)) 0 (20 + 8 * n + 3) (jI d)) 0 (20 + 8 * n + 4) (jI e)) 0 (20 + 8 * n + 5) (jI (-1))) 0 (20 + 8 * n + 6) (jI (-1))) 0 1 = jI n := by
    simp (disch := omega) only [dt_set_s, upd_n]
    exact hN
  have g0 : ∀ (X : dt_Ob) (v : Int32), fX10_gives (jI n) 0 v X = some (dt_set X 0 (20 + 8 * n + 0) v) := fun X v => fX10_gives_j X n 0 v (by omega) (by omega) (by omega)
  have g1 : ∀ (X : dt_Ob) (v : Int32), fX10_gives (jI n) 1 v X = some (dt_set X 0 (20 + 8 * n + 1) v) := fun X v => fX10_gives_j X n 1 v (by omega) (by omega) (by omega)
  have g2 : ∀ (X : dt_Ob) (v : Int32), fX10_gives (jI n) 2 v X = some (dt_set X 0 (20 + 8 * n + 2) v) := fun X v => fX10_gives_j X n 2 v (by omega) (by omega) (by omega)
  have g3 : ∀ (X : dt_Ob) (v : Int32), fX10_gives (jI n) 3 v X = some (dt_set X 0 (20 + 8 * n + 3) v) := fun X v => fX10_gives_j X n 3 v (by omega) (by omega) (by omega)
  have g4 : ∀ (X : dt_Ob) (v : Int32), fX10_gives (jI n) 4 v X = some (dt_set X 0 (20 + 8 * n + 4) v) := fun X v => fX10_gives_j X n 4 v (by omega) (by omega) (by omega)
  have g5 : ∀ (X : dt_Ob) (v : Int32), fX10_gives (jI n) 5 v X = some (dt_set X 0 (20 + 8 * n + 5) v) := fun X v => fX10_gives_j X n 5 v (by omega) (by omega) (by omega)
  have g6 : ∀ (X : dt_Ob) (v : Int32), fX10_gives (jI n) 6 v X = some (dt_set X 0 (20 + 8 * n + 6) v) := fun X v => fX10_gives_j X n 6 v (by omega) (by omega) (by omega)
  unfold fX10_block fX10_forgets
  rw [x0, dt_b1, hW, q0, dt_b1, q1, dt_b1, if_pos (show 1 ≤ a ∧ a ≤ min 3 W by omega), i10, q2, dt_b1, if_pos hb, i10, q3, dt_b1, if_pos hc, i10, q4, dt_b1, if_pos hd, i10, q5, dt_b1, if_pos he, i10, x1, dt_b1, hN, if_neg (by rw [n20]; omega), dt_b1, hN, g0, dt_b1, g1, dt_b1, g2, dt_b1, g3, dt_b1, g4, dt_b1, g5, dt_b1, g6, dt_b1, dt_b1, dt_b1, show (-1 : Int32) = jI (-1) from rfl, w1, dt_b1, show (1 : Int32) = jI 1 from rfl, jI_add]
  rfl
theorem s_block : St_block dt_I := by
  intro M a1 a2 a3 a4 a5 h
  have h' := h
  obtain ⟨n, W, g, ⟨hT, hok, hRT, hD, hV, hC, hS⟩, hU, hI, hP, hF, hR⟩ := h
  obtain ⟨a, rfl, ra⟩ := jI_ex a1
  obtain ⟨b, rfl, rb⟩ := jI_ex a2
  obtain ⟨c, rfl, rc⟩ := jI_ex a3
  obtain ⟨d, rfl, rd⟩ := jI_ex a4
  obtain ⟨e, rfl, re⟩ := jI_ex a5
  have same : dt_I (dt_put M 18 (M 18)) := by rw [dt_put_self]; exact h'
  have hw : 2 ≤ W ∧ W ≤ 8 := ⟨hok.2.1, hok.2.2.1⟩
  by_cases z : (1 ≤ a ∧ a ≤ 3 ∧ a ≤ W) ∧ (1 ≤ b ∧ b ≤ 99) ∧ (0 ≤ c ∧ c ≤ 999) ∧ (0 ≤ d ∧ d ≤ 7) ∧ (0 ≤ e ∧ e ≤ 59) ∧ n < 20
  · obtain ⟨za, zb, zc, zd, ze, zn⟩ := z
    refine ⟨jI n, _, _, fX9_block_yes M a b c d e W n hT.1 hT.2.1 zn hw za zb zc zd ze, fX10_block_yes (M 18) a b c d e W n hRT.1 hRT.2.1 zn hw za zb zc zd ze, ?_⟩
    generalize hX : (dt_set (dt_set (dt_set (dt_set (dt_set (dt_set (dt_set (dt_set (dt_set (M 18) 0 (20 + 8 * n + 0) (jI a)) 0 (20 + 8 * n + 1) (jI b)) 0 (20 + 8 * n + 2) (jI c)) 0 (20 + 8 * n + 3) (jI d)) 0 (20 + 8 * n + 4) (jI e)) 0 (20 + 8 * n + 5) (jI (-1))) 0 (20 + 8 * n + 6) (jI (-1))) 0 1 (jI ((n + 1 : Nat) : Int))) 3 0 0) = X
    have far : ∀ q, q ≠ 1 → (q < 20 + 8 * n ∨ 20 + 8 * n + 7 ≤ q) → X 0 q = M 18 0 q := by
      intro q h1 h2
      rw [← hX]
      simp (disch := omega) only [dt_set_n, dt_set_s, upd_n]
    have oth : ∀ j, j ≠ 0 → j ≠ 3 → X j = M 18 j := by
      intro j h0 h3
      rw [← hX]
      simp (disch := omega) only [dt_set_n]
    have e1 : X 0 1 = jI ((n + 1 : Nat) : Int) := by
      rw [← hX]
      simp (disch := omega) only [dt_set_n, dt_set_at]
    have new : ∀ f, f < 7 → X 0 (20 + 8 * n + f) = jI (gN g n a b c d e f n) := by
      intro f hf
      have s : gN g n a b c d e f n = (if f = 0 then a else if f = 1 then b else if f = 2 then c else if f = 3 then d else if f = 4 then e else -1) := if_pos rfl
      have hf' : f = 0 ∨ f = 1 ∨ f = 2 ∨ f = 3 ∨ f = 4 ∨ f = 5 ∨ f = 6 := by omega
      rw [s, ← hX]
      rcases hf' with q | q | q | q | q | q | q <;> subst q <;> simp (disch := omega) only [dt_set_n, dt_set_s, upd_n, upd_s] <;> rfl
    refine ⟨n + 1, W, gN g n a b c d e, ⟨TW_add hT zn a b c d e, okT_add hok zn a b c d e za zb zc zd ze, ?_, ?_, ?_, ?_, ?_⟩, ?_, ?_, ?_, ?_, ?_⟩
    · show RT (X 0) (n + 1) W (gN g n a b c d e)
      refine ⟨by rw [far 0 (by omega) (by omega)]; exact hRT.1, e1, fun f hf x hx => ?_⟩
      by_cases q : x = n
      · subst q; exact new f hf
      · rw [far _ (by omega) (by omega), gN_n _ _ _ _ _ _ _ _ _ q]
        exact hRT.2.2 f hf x (by omega)
    · show RD (M 2) (X 0)
      unfold RD
      rw [far 2 (by omega) (by omega), far 3 (by omega) (by omega), far 4 (by omega) (by omega), far 5 (by omega) (by omega), far 6 (by omega) (by omega), far 7 (by omega) (by omega)]
      exact hD
    · exact RV_congr hV rfl rfl (fun _ _ => rfl) (fun j h1 h2 => far j (by omega) (by omega))
    · show RC (M 4) (X 0)
      obtain ⟨k, k1, k2, k3, k4, q, k5, k6, k7, k8⟩ := hC
      refine ⟨k, k1, k2, by rw [far 8 (by omega) (by omega)]; exact k3, fun i hi => ?_, q, k5, k6, fun x y hx hy => by rw [far _ (by omega) (by omega)]; exact k7 x y hx hy, k8⟩
      rw [far _ (by omega) (by omega)]
      exact k4 i hi
    · show RS (M 5) (X 0)
      refine ⟨fun hh t h1 h2 h3 => ?_, fun t ht => ?_⟩
      · rw [far _ (by omega) (by omega)]; exact hS.1 hh t h1 h2 h3
      · rw [far _ (by omega) (by omega)]; exact hS.2 t ht
    · show RU (dt_set (dt_set (M 11) 4 0 (0 : Int32)) 5 0 (0 : Int32)) (X 2) (X 3 0) (n + 1) W (gN g n a b c d e) (X 0 4)
      rw [show X 3 0 = 0 by rw [← hX]; exact dt_set_at _ _ _ _]
      exact RU_nil _ _ _ _ _ _ rfl rfl
    · show M 0 2 0 = X 6 0 ∧ (M 0 2 0 = 0 ∨ (M 0 2 0 = 1 ∧ ∃ (n' : Nat) (W' : Int) (g' : Nat → Nat → Int), RW (M 6) (M 7) (M 8) (M 9) (M 10) (X 1) n' W' g'))
      rw [oth 6 (by omega) (by omega), oth 1 (by omega) (by omega)]; exact hI
    · show RP (M 0 4) (M 0 5 0) (X 13) (X 18 0)
      rw [oth 13 (by omega) (by omega), oth 18 (by omega) (by omega)]; exact hP
    · show M 12 6 0 = X 25 0 ∧ M 12 7 0 = X 27 0
      rw [oth 25 (by omega) (by omega), oth 27 (by omega) (by omega)]; exact hF
    · show M 0 7 0 = X 4 0 ∧ M 0 8 0 = X 5 0
      rw [oth 4 (by omega) (by omega), oth 5 (by omega) (by omega)]; exact hR
  · exact ⟨-1, M, M 18, fX9_block_no M a b c d e W n hT.1 hT.2.1 hok.1 hw ra rb rc rd re z, fX10_block_no (M 18) a b c d e W n hRT.1 hRT.2.1 hok.1 hw ra rb rc rd re z, same⟩
theorem s_end : St_end dt_I := by
  intro M a1 h
  have h' := h
  obtain ⟨n, W, g, ⟨hT, hok, hRT, hD, hV, hC, hS⟩, hU, hI, hP, hF, hR⟩ := h
  obtain ⟨a, rfl, l0, l1⟩ := jI_ex a1
  have same : dt_I (dt_put M 18 (M 18)) := by rw [dt_put_self]; exact h'
  obtain ⟨m, m1, m2, m3, m4⟩ := hP
  unfold fX9_end fX10_end
  by_cases z : 0 ≤ a ∧ a ≤ m
  · refine ⟨1, dt_sM M 0 5 0 (jI a), dt_set (M 18) 18 0 (jI a), ?_, ?_, ?_⟩
    · simp (disch := omega) only [jI_lit, jI_add, jI_sub, jI_mul, jI_neg, jI_lt, jI_le, jI_eq, jI_div, dt_ix_j, dt_b1, Int.toNat_natCast, Int.reduceToNat, m2]
      rw [if_neg (by omega), if_pos (by omega)]
    · show ((fX10_isIn (jI a) 0 (M 18 18 0)).bind fun q1 => if q1 = 0 then some (0, M 18) else some (1, dt_set (M 18) 18 0 (jI a))) = _
      rw [m3, show (0 : Int32) = jI 0 from rfl, fX10_isIn_j _ _ _ (by omega) (by omega) (by omega) (by omega) (by omega) (by omega), dt_b1, if_pos z, if_neg (by decide +kernel)]
    · refine ⟨n, W, g, ⟨hT, hok, hRT, hD, hV, hC, hS⟩, hU, hI, ⟨a.toNat, by omega, ?_, ?_, fun i hi => m4 i (by omega)⟩, hF, hR⟩
      · show jI a = _
        rw [show ((a.toNat : Nat) : Int) = a by omega]
      · show jI a = _
        rw [show ((a.toNat : Nat) : Int) = a by omega]
  · refine ⟨0, M, M 18, ?_, ?_, same⟩
    · simp (disch := omega) only [jI_lit, jI_add, jI_sub, jI_mul, jI_neg, jI_lt, jI_le, jI_eq, jI_div, dt_ix_j, dt_b1, Int.toNat_natCast, Int.reduceToNat, m2]
      by_cases y : a < 0
      · rw [if_pos y]
      · rw [if_neg y, if_neg (by omega)]
    · rw [m3, show (0 : Int32) = jI 0 from rfl, fX10_isIn_j _ _ _ (by omega) (by omega) (by omega) (by omega) (by omega) (by omega), dt_b1, if_neg z, if_pos (by rfl)]
