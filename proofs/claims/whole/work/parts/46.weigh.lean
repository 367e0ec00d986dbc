/-! ===== the class's tower: tallest, weigh, overloaded, raise ===== -/
theorem TW_congr {T T' : dt_Ob} {n : Nat} {W : Int} {g : Nat → Nat → Int} (h : TW T n W g) (e : ∀ j, j ≤ 10 → T' j = T j) : TW T' n W g := by
  refine ⟨by rw [e 0 (by omega)]; exact h.1, by rw [e 1 (by omega)]; exact h.2.1, fun f hf b hb => by rw [e (2 + f) (by omega)]; exact h.2.2.1 f hf b hb, fun c hc => by rw [e 9 (by omega)]; exact h.2.2.2.1 c hc, fun c l hc hl => by rw [e 10 (by omega)]; exact h.2.2.2.2 c l hc hl⟩
def mxc (n : Nat) (g : Nat → Nat → Int) : Nat → Int
  | 0 => 0
  | c + 1 => max (mxc n g c) (hi g c n)
theorem mxc_tp {n : Nat} {W : Int} {g : Nat → Nat → Int} (h : okD n W g) : mxc n g W.toNat = tp g n := by
  have up : ∀ k : Nat, 0 ≤ mxc n g k ∧ mxc n g k ≤ tp g n := by
    intro k
    induction k with
    | zero => exact ⟨Int.le_refl _, tp_nn g n⟩
    | succ k ih =>
      unfold mxc
      have a : hi g k n ≤ tp g n := hi_le g k n _ (tp_nn g n) (fun b hb hc => tp_ge g n b hb hc.1)
      omega
  have lo : ∀ (k c : Nat), c < k → hi g c n ≤ mxc n g k := by
    intro k
    induction k with
    | zero => intro c hc; omega
    | succ k ih =>
      intro c hc
      unfold mxc
      by_cases e : c = k
      · subst e; omega
      · have := ih c (by omega); omega
  have a := up W.toNat
  rcases tp_att g n with e | ⟨b, hb, hc, e⟩
  · omega
  · have r := (h.2.2.2.1 b hb).1
    unfold okB at r
    have w := h.2.2.1
    have c1 := lo W.toNat (g 5 b).toNat (by omega)
    have c2 := hi_ge g (g 5 b).toNat n b hb (by unfold cov; omega)
    omega
theorem fX5_tallest_j4 {T : dt_Ob} {n : Nat} {W : Int} {g : Nat → Nat → Int} (h : TW T n W g) (ho : okD n W g) : ∀ (k fuel i : Nat), (i : Int) + k = W → k < fuel → fX5_tallest_4 fuel (jI (mxc n g i)) (jI i) T = some (jI (mxc n g W.toNat)) := by
  have w := ho.2.2.1
  have mb : ∀ i : Nat, 0 ≤ mxc n g i ∧ mxc n g i ≤ 20 := by
    intro i
    induction i with
    | zero => unfold mxc; omega
    | succ i ih => unfold mxc; have := okD_hi ho i; omega
  intro k
  induction k with
  | zero =>
    intro fuel i hk hf
    obtain ⟨f, rfl⟩ : ∃ f, fuel = f + 1 := ⟨fuel - 1, by omega⟩
    unfold fX5_tallest_4
    simp (disch := omega) only [jI_lit, jI_add, jI_sub, jI_mul, jI_neg, jI_lt, jI_le, jI_eq, jI_div, dt_ix_j, dt_b1, Int.toNat_natCast, h.1]
    rw [if_pos (by omega), show W.toNat = i by omega]
  | succ k ih =>
    intro fuel i hk hf
    obtain ⟨f, rfl⟩ : ∃ f, fuel = f + 1 := ⟨fuel - 1, by omega⟩
    unfold fX5_tallest_4
    have q1 := mb i
    have q2 := okD_hi ho i
    have e9 := h.2.2.2.1 i (by omega)
    simp (disch := omega) only [jI_lit, jI_add, jI_sub, jI_mul, jI_neg, jI_lt, jI_le, jI_eq, jI_div, dt_ix_j, dt_b1, Int.toNat_natCast, h.1, e9]
    rw [if_neg (by omega)]
    rw [← ih f (i + 1) (by omega) (by omega)]
    rw [show ((i : Int) + 1) = ((i + 1 : Nat) : Int) by omega]
    congr 1
    show _ = jI (max (mxc n g i) (hi g i n))
    split
    · rw [show max (mxc n g i) (hi g i n) = hi g i n by omega]
    · rw [show max (mxc n g i) (hi g i n) = mxc n g i by omega]
theorem fX5_tallest_j {T : dt_Ob} {n : Nat} {W : Int} {g : Nat → Nat → Int} (h : TW T n W g) (ho : okD n W g) : fX5_tallest T = some (jI (tp g n)) := by
  have w := ho.2.2.1
  have w' := ho.2.1
  unfold fX5_tallest
  rw [← mxc_tp ho]
  exact fX5_tallest_j4 h ho W.toNat dt_F 0 (by omega) (by unfold dt_F; omega)
theorem fX5_share_j90 {n : Nat} {W : Int} {g : Nat → Nat → Int} (ho : okD n W g) (o : Nat) (hb : o < n) (hc : 0 ≤ g 5 o) (hl : 1 ≤ g 6 o) (all : Int) (ha : 0 ≤ all) (ha' : all < 100000) (hN : 0 < nb n g o (g 0 o).toNat) (L : Nat → Int) : ∀ (k fuel i : Nat) (T : dt_Ob), TW T n W g → (∀ b, b < n → T 11 b = jI (L b + ck n g o all b i)) → (i : Int) + k = g 0 o → k < fuel → ∃ T', fX5_share_90 fuel (jI o) (jI (g 6 o - 1)) (jI (all / nb n g o (g 0 o).toNat)) (jI (all % nb n g o (g 0 o).toNat - nb n g o i)) (jI i) T = some T' ∧ (∀ j, j ≠ 11 → T' j = T j) ∧ ∀ b, b < n → T' 11 b = jI (L b + ctr n g o all b) := by
  have hn := ho.1
  have w := ho.2.2.1
  have r0 := ho.2.2.2.1 o hb
  have r := r0.1
  unfold okB at r
  intro k
  induction k with
  | zero =>
    intro fuel i T h hL hk hf
    obtain ⟨f, rfl⟩ : ∃ f, fuel = f + 1 := ⟨fuel - 1, by omega⟩
    have e2 : T 2 o = jI (g 0 o) := h.2.2.1 0 (by omega) o hb
    refine ⟨T, ?_, fun _ _ => rfl, ?_⟩
    · unfold fX5_share_90
      simp (disch := omega) only [jI_lit, jI_add, jI_sub, jI_mul, jI_neg, jI_lt, jI_le, jI_eq, jI_div, dt_ix_j, dt_b1, Int.toNat_natCast, e2]
      rw [if_pos (by omega)]
    · intro b hb'
      rw [hL b hb', ctr, show (g 0 o).toNat = i by omega]
  | succ k ih =>
    intro fuel i T h hL hk hf
    obtain ⟨f, rfl⟩ : ∃ f, fuel = f + 1 := ⟨fuel - 1, by omega⟩
    have e2 : T 2 o = jI (g 0 o) := h.2.2.1 0 (by omega) o hb
    have e7 : T 7 o = jI (g 5 o) := h.2.2.1 5 (by omega) o hb
    have nr := nb_rng n g o i
    have nr' := nb_rng n g o (g 0 o).toNat
    have er := Int.emod_nonneg all (show nb n g o (g 0 o).toNat ≠ 0 by omega)
    have er' := Int.emod_lt_of_pos all hN
    have cr := ce_rng g (g 5 o + i) (g 6 o - 1) n
    have cl := fX5_cellAt_j h (g 5 o + i) (g 6 o - 1) (by omega) (by omega) (by omega) (by omega)
    unfold fX5_share_90
    simp (disch := omega) only [jI_lit, jI_add, jI_sub, jI_mul, jI_neg, jI_lt, jI_le, jI_eq, jI_div, dt_ix_j, dt_b1, Int.toNat_natCast, e2, e7]
    rw [if_neg (by omega), cl, dt_b1]
    simp (disch := omega) only [jI_lit, jI_add, jI_sub, jI_mul, jI_neg, jI_lt, jI_le, jI_eq, jI_div, dt_ix_j, dt_b1, Int.toNat_natCast]
    by_cases z : ce g (g 5 o + i) (g 6 o - 1) n = -1
    · rw [if_pos z]
      unfold fX5_share_150
      have nbe : nb n g o (i + 1) = nb n g o i := by show nb n g o i + _ = _; rw [if_pos z, Int.add_zero]
      obtain ⟨T', a1, a2, a3⟩ := ih f (i + 1) T h (by
        intro b hb'
        rw [hL b hb']
        show _ = jI (L b + (ck n g o all b i + _))
        rw [if_neg (by omega), Int.add_zero]) (by omega) (by omega)
      rw [nbe, show (((i + 1 : Nat) : Int)) = (i : Int) + 1 by omega] at a1
      refine ⟨T', ?_, a2, a3⟩
      simp (disch := omega) only [jI_lit, jI_add, jI_sub, jI_mul, jI_neg, jI_lt, jI_le, jI_eq, jI_div, dt_ix_j, dt_b1, Int.toNat_natCast]
      exact a1
    · rw [if_neg z]
      have nbe : nb n g o (i + 1) = nb n g o i + 1 := by show nb n g o i + _ = _; rw [if_neg z]
      have c1 : (((ce g (g 5 o + i) (g 6 o - 1) n).toNat : Nat) : Int) = ce g (g 5 o + i) (g 6 o - 1) n := by omega
      have main : ∀ v : Int, v = all / nb n g o (g 0 o).toNat + (if nb n g o i < all % nb n g o (g 0 o).toNat then 1 else 0) → ∃ T', fX5_share_145 (fX5_share_90 f) (jI o) (jI (g 6 o - 1)) (jI (all / nb n g o (g 0 o).toNat)) (jI (all % nb n g o (g 0 o).toNat - nb n g o i)) (jI i) (jI (ce g (g 5 o + i) (g 6 o - 1) n)) (T 11 (ce g (g 5 o + i) (g 6 o - 1) n).toNat) (jI v) T = some T' ∧ (∀ j, j ≠ 11 → T' j = T j) ∧ ∀ b, b < n → T' 11 b = jI (L b + ctr n g o all b) := by
        intro v hv
        obtain ⟨T', a1, a2, a3⟩ := ih f (i + 1) (dt_set T 11 (ce g (g 5 o + i) (g 6 o - 1) n).toNat (T 11 (ce g (g 5 o + i) (g 6 o - 1) n).toNat + jI v)) (TW_congr h (fun j hj => by rw [dt_set_n _ _ _ _ _ (by omega)])) (by
          intro b hb'
          rw [dt_set_s]
          show _ = jI (L b + (ck n g o all b i + _))
          by_cases q : b = (ce g (g 5 o + i) (g 6 o - 1) n).toNat
          · rw [upd_e _ _ _ _ q, ← q, hL b hb', jI_add, if_pos (by omega), ← hv, Int.add_assoc]
          · rw [upd_n _ _ _ _ q, hL b hb', if_neg (by omega), Int.add_zero]) (by omega) (by omega)
        rw [nbe, show (((i + 1 : Nat) : Int)) = (i : Int) + 1 by omega] at a1
        refine ⟨T', ?_, fun j hj => by rw [a2 j hj, dt_set_n _ _ _ _ _ hj], a3⟩
        unfold fX5_share_145 fX5_share_150
        simp (disch := omega) only [jI_lit, jI_add, jI_sub, jI_mul, jI_neg, jI_lt, jI_le, jI_eq, jI_div, dt_ix_j, dt_b1, Int.toNat_natCast]
        rw [show all % nb n g o (g 0 o).toNat - nb n g o i + -1 = all % nb n g o (g 0 o).toNat - (nb n g o i + 1) by omega]
        exact a1
      by_cases y : all % nb n g o (g 0 o).toNat - nb n g o i ≤ 0
      · rw [if_pos y]
        exact main _ (by rw [if_neg (by omega), Int.add_zero])
      · rw [if_neg y]
        exact main _ (by rw [if_pos (by omega)])
theorem fX5_share_j14 {n : Nat} {W : Int} {g : Nat → Nat → Int} (ho : okD n W g) (o : Nat) (hb : o < n) (hc : 0 ≤ g 5 o) (hl : 1 ≤ g 6 o) (L : Nat → Int) (ha : 0 ≤ g 1 o + L o) (ha' : g 1 o + L o < 100000) (T : dt_Ob) (h : TW T n W g) (hL : ∀ b, b < n → T 11 b = jI (L b)) : ∀ (k fuel i : Nat), (i : Int) + k = g 0 o → k < fuel → ∃ T', fX5_share_14 fuel (jI o) (jI (g 6 o - 1)) (jI (nb n g o i)) (jI i) T = some T' ∧ (∀ j, j ≠ 11 → T' j = T j) ∧ ∀ b, b < n → T' 11 b = jI (L b + ctr n g o (g 1 o + L o) b) := by
  have hn := ho.1
  have w := ho.2.2.1
  have r0 := ho.2.2.2.1 o hb
  have r := r0.1
  unfold okB at r
  have e2 : T 2 o = jI (g 0 o) := h.2.2.1 0 (by omega) o hb
  have e3 : T 3 o = jI (g 1 o) := h.2.2.1 1 (by omega) o hb
  have e7 : T 7 o = jI (g 5 o) := h.2.2.1 5 (by omega) o hb
  have e11 := hL o hb
  intro k
  induction k with
  | zero =>
    intro fuel i hk hf
    obtain ⟨f, rfl⟩ : ∃ f, fuel = f + 1 := ⟨fuel - 1, by omega⟩
    have hi' : i = (g 0 o).toNat := by omega
    subst hi'
    have nr := nb_rng n g o (g 0 o).toNat
    unfold fX5_share_14
    simp (disch := omega) only [jI_lit, jI_add, jI_sub, jI_mul, jI_neg, jI_lt, jI_le, jI_eq, jI_div, dt_ix_j, dt_b1, Int.toNat_natCast, e2, e3, e11]
    rw [if_pos (by omega)]
    by_cases z : nb n g o (g 0 o).toNat = 0
    · rw [if_pos z]
      refine ⟨T, rfl, fun _ _ => rfl, ?_⟩
      intro b hb'
      have zero : ∀ k, k ≤ (g 0 o).toNat → ck n g o (g 1 o + L o) b k = 0 := by
        intro k
        induction k with
        | zero => intro _; rfl
        | succ k ih =>
          intro hk
          show ck n g o _ b k + _ = 0
          rw [ih (by omega), if_neg]
          · rfl
          · intro q
            have := nb_lt n g o k (g 0 o).toNat (by omega) (by omega)
            have := nb_rng n g o k
            omega
      show _ = jI (L b + ck n g o _ b _)
      rw [hL b hb', zero _ (Nat.le_refl _), Int.add_zero]
    · rw [if_neg z, if_neg z]
      have s90 := fX5_share_j90 ho o hb hc hl (g 1 o + L o) ha ha' (by omega) L (g 0 o).toNat dt_F 0 T h (by
        intro b hb'
        show _ = jI (L b + 0)
        rw [hL b hb', Int.add_zero]) (by omega) (by unfold dt_F; omega)
      have n0 : nb n g o 0 = 0 := rfl
      rw [n0, Int.sub_zero] at s90
      have ed := Int.mul_ediv_add_emod (g 1 o + L o) (nb n g o (g 0 o).toNat)
      rw [show g 1 o + L o - (g 1 o + L o) / nb n g o (g 0 o).toNat * nb n g o (g 0 o).toNat = (g 1 o + L o) % nb n g o (g 0 o).toNat by rw [Int.mul_comm ((g 1 o + L o) / _)]; omega]
      exact s90
  | succ k ih =>
    intro fuel i hk hf
    obtain ⟨f, rfl⟩ : ∃ f, fuel = f + 1 := ⟨fuel - 1, by omega⟩
    have nr := nb_rng n g o i
    have cr := ce_rng g (g 5 o + i) (g 6 o - 1) n
    have cl := fX5_cellAt_j h (g 5 o + i) (g 6 o - 1) (by omega) (by omega) (by omega) (by omega)
    have a := ih f (i + 1) (by omega) (by omega)
    rw [show (((i + 1 : Nat) : Int)) = (i : Int) + 1 by omega] at a
    unfold fX5_share_14
    simp (disch := omega) only [jI_lit, jI_add, jI_sub, jI_mul, jI_neg, jI_lt, jI_le, jI_eq, jI_div, dt_ix_j, dt_b1, Int.toNat_natCast, e2, e7]
    rw [if_neg (by omega), cl, dt_b1]
    unfold fX5_share_46
    simp (disch := omega) only [jI_lit, jI_add, jI_sub, jI_mul, jI_neg, jI_lt, jI_le, jI_eq, jI_div, dt_ix_j, dt_b1, Int.toNat_natCast]
    by_cases z : ce g (g 5 o + i) (g 6 o - 1) n = -1
    · rw [if_pos z]
      have nbe : nb n g o (i + 1) = nb n g o i := by show nb n g o i + _ = _; rw [if_pos z, Int.add_zero]
      rw [nbe] at a
      exact a
    · rw [if_neg z]
      have nbe : nb n g o (i + 1) = nb n g o i + 1 := by show nb n g o i + _ = _; rw [if_neg z]
      rw [nbe] at a
      exact a
theorem fX5_share_j {n : Nat} {W : Int} {g : Nat → Nat → Int} (ho : okD n W g) (o : Nat) (hb : o < n) (hc : 0 ≤ g 5 o) (hl : 1 ≤ g 6 o) (L : Nat → Int) (ha : 0 ≤ g 1 o + L o) (ha' : g 1 o + L o < 100000) (T : dt_Ob) (h : TW T n W g) (hL : ∀ b, b < n → T 11 b = jI (L b)) : ∃ T', fX5_share (jI o) T = some T' ∧ (∀ j, j ≠ 11 → T' j = T j) ∧ ∀ b, b < n → T' 11 b = jI (L b + ctr n g o (g 1 o + L o) b) := by
  have hn := ho.1
  have r0 := ho.2.2.2.1 o hb
  have r := r0.1
  unfold okB at r
  have e8 : T 8 o = jI (g 6 o) := h.2.2.1 6 (by omega) o hb
  have a := fX5_share_j14 ho o hb hc hl L ha ha' T h hL (g 0 o).toNat dt_F 0 (by omega) (by unfold dt_F; omega)
  unfold fX5_share
  simp (disch := omega) only [jI_lit, jI_add, jI_sub, jI_mul, jI_neg, jI_lt, jI_le, jI_eq, jI_div, dt_ix_j, dt_b1, Int.toNat_natCast, e8]
  exact a
theorem fX5_weigh_j21 {n : Nat} {W : Int} {g : Nat → Nat → Int} (ho : okD n W g) (l : Int) (hl : 1 ≤ l) (hl' : l < 20) (r15 : Int32 → dt_Ob → Option dt_Ob) : ∀ (k fuel c : Nat) (T : dt_Ob) (L : Nat → Int), TW T n W g → (∀ b, b < n → T 11 b = jI (L b)) → LI n g l (fun o => o < n ∧ 0 ≤ g 5 o ∧ g 6 o = l ∧ g 5 o < c) L → (c : Int) + k = W → k < fuel → ∃ (T' : dt_Ob) (L' : Nat → Int), fX5_weigh_21 r15 fuel (jI l) (jI c) T = r15 (jI (l - 1)) T' ∧ (∀ j, j ≠ 11 → T' j = T j) ∧ (∀ b, b < n → T' 11 b = jI (L' b)) ∧ LI n g (l - 1) (fun _ => False) L' := by
  have hn := ho.1
  have w := ho.2.2.1
  intro k
  induction k with
  | zero =>
    intro fuel c T L h hL hI hk hf
    obtain ⟨f, rfl⟩ : ∃ f, fuel = f + 1 := ⟨fuel - 1, by omega⟩
    refine ⟨T, L, ?_, fun _ _ => rfl, hL, LI_next ho l _ L hI (fun o ho' hc e => ?_) _ (fun _ z => z) hl⟩
    · unfold fX5_weigh_21
      simp (disch := omega) only [jI_lit, jI_add, jI_sub, jI_mul, jI_neg, jI_lt, jI_le, jI_eq, jI_div, dt_ix_j, dt_b1, Int.toNat_natCast, h.1]
      rw [if_pos (by omega)]
      rfl
    · have r := (ho.2.2.2.1 o ho').1
      unfold okB at r
      exact ⟨ho', hc, e, by omega⟩
  | succ k ih =>
    intro fuel c T L h hL hI hk hf
    obtain ⟨f, rfl⟩ : ∃ f, fuel = f + 1 := ⟨fuel - 1, by omega⟩
    have cr := ce_rng g c l n
    have cl := fX5_cellAt_j h c l (by omega) (by omega) (by omega) (by omega)
    have skip : (∀ o, o < n → 0 ≤ g 5 o → g 6 o = l → g 5 o ≠ c) → ∃ (T' : dt_Ob) (L' : Nat → Int), fX5_weigh_56 r15 (fX5_weigh_21 r15 f) (jI l) (jI c) T = r15 (jI (l - 1)) T' ∧ (∀ j, j ≠ 11 → T' j = T j) ∧ (∀ b, b < n → T' 11 b = jI (L' b)) ∧ LI n g (l - 1) (fun _ => False) L' := by
      intro q
      obtain ⟨T', L', a1, a2, a3, a4⟩ := ih f (c + 1) T L h hL (LI_congr hI (fun o => by
        constructor
        · intro ⟨x1, x2, x3, x4⟩
          have := q o x1 x2 x3
          exact ⟨x1, x2, x3, by omega⟩
        · intro ⟨x1, x2, x3, x4⟩
          exact ⟨x1, x2, x3, by omega⟩)) (by omega) (by omega)
      refine ⟨T', L', ?_, a2, a3, a4⟩
      unfold fX5_weigh_56
      simp (disch := omega) only [jI_lit, jI_add, jI_sub, jI_mul, jI_neg, jI_lt, jI_le, jI_eq, jI_div, dt_ix_j, dt_b1, Int.toNat_natCast]
      exact a1
    unfold fX5_weigh_21
    rw [cl, dt_b1]
    simp (disch := omega) only [jI_lit, jI_add, jI_sub, jI_mul, jI_neg, jI_lt, jI_le, jI_eq, jI_div, dt_ix_j, dt_b1, Int.toNat_natCast, h.1]
    rw [if_neg (by omega)]
    rcases ce_cases g c l n with ⟨e, z⟩ | ⟨o, hob, e, hcv, el⟩
    · rw [if_pos e]
      exact skip (fun o ho' hc' e' q => z o ho' (by
        have r := (ho.2.2.2.1 o ho').1
        unfold okB at r
        unfold cov; omega) e')
    · rw [if_neg (by omega)]
      have hcv' := hcv
      unfold cov at hcv'
      have e7 : T 7 o = jI (g 5 o) := h.2.2.1 5 (by omega) o hob
      have r := (ho.2.2.2.1 o hob).1
      unfold okB at r
      rw [e]
      simp (disch := omega) only [jI_lit, jI_add, jI_sub, jI_mul, jI_neg, jI_lt, jI_le, jI_eq, jI_div, dt_ix_j, dt_b1, Int.toNat_natCast, e7]
      by_cases q : g 5 o = c
      · rw [if_pos q]
        have st := LI_step ho l _ L hI o hob hcv'.1 el (by rintro ⟨_, _, _, z⟩; omega) (fun x => x < n ∧ 0 ≤ g 5 x ∧ g 6 x = l ∧ g 5 x < ((c + 1 : Nat) : Int)) (by
          intro x hx
          constructor
          · intro ⟨x1, x2, x3, x4⟩
            refine ⟨x1, x2, x3, ?_⟩
            have rx := (ho.2.2.2.1 x x1).1
            unfold okB at rx
            by_cases y : g 5 x = c
            · have := ho.2.2.2.2 x x1 o hob hx (by unfold ovl; omega)
              omega
            · omega
          · intro ⟨x1, x2, x3, x4⟩
            exact ⟨x1, x2, x3, by omega⟩) ⟨hob, hcv'.1, el, by omega⟩
        have bd := ld_le ho o hob hcv'.1
        have nn := ld_nn ho o
        obtain ⟨T1, s1, s2, s3⟩ := fX5_share_j ho o hob hcv'.1 (by omega) L (by rw [st.1]; omega) (by rw [st.1]; omega) T h hL
        rw [st.1] at s3
        obtain ⟨T', L', a1, a2, a3, a4⟩ := ih f (c + 1) T1 _ (TW_congr h (fun j hj => s2 j (by omega))) s3 st.2 (by omega) (by omega)
        refine ⟨T', L', ?_, fun j hj => by rw [a2 j hj, s2 j hj], a3, a4⟩
        rw [s1, dt_b1]
        unfold fX5_weigh_56
        simp (disch := omega) only [jI_lit, jI_add, jI_sub, jI_mul, jI_neg, jI_lt, jI_le, jI_eq, jI_div, dt_ix_j, dt_b1, Int.toNat_natCast]
        exact a1
      · rw [if_neg q]
        refine skip (fun x x1 x2 x3 y => ?_)
        have rx := (ho.2.2.2.1 x x1).1
        unfold okB at rx
        by_cases xo : x = o
        · subst xo; exact q y
        · have := ho.2.2.2.2 x x1 o hob xo (by unfold ovl; omega)
          omega
theorem fX5_weigh_j15 {n : Nat} {W : Int} {g : Nat → Nat → Int} (ho : okD n W g) : ∀ (m fuel : Nat) (l : Int) (T : dt_Ob) (L : Nat → Int), l ≤ m → -1 ≤ l → l < 20 → m < fuel → TW T n W g → (∀ b, b < n → T 11 b = jI (L b)) → LI n g l (fun _ => False) L → ∃ T', fX5_weigh_15 fuel (jI l) T = some T' ∧ (∀ j, j ≠ 11 → T' j = T j) ∧ (∀ b, b < n → T' 11 b = jI (lde n g b)) := by
  have w := ho.2.2.1
  have w' := ho.2.1
  intro m
  induction m with
  | zero =>
    intro fuel l T L hm h1 h2 hf h hL hI
    obtain ⟨f, rfl⟩ : ∃ f, fuel = f + 1 := ⟨fuel - 1, by omega⟩
    refine ⟨T, ?_, fun _ _ => rfl, fun b hb => by rw [hL b hb, LI_end ho hI (by omega) b hb]⟩
    unfold fX5_weigh_15
    simp (disch := omega) only [jI_lit, jI_add, jI_sub, jI_mul, jI_neg, jI_lt, jI_le, jI_eq, jI_div, dt_ix_j, dt_b1, Int.toNat_natCast]
    rw [if_pos (by omega)]
  | succ m ih =>
    intro fuel l T L hm h1 h2 hf h hL hI
    obtain ⟨f, rfl⟩ : ∃ f, fuel = f + 1 := ⟨fuel - 1, by omega⟩
    by_cases z : l ≤ 0
    · refine ⟨T, ?_, fun _ _ => rfl, fun b hb => by rw [hL b hb, LI_end ho hI z b hb]⟩
      unfold fX5_weigh_15
      simp (disch := omega) only [jI_lit, jI_add, jI_sub, jI_mul, jI_neg, jI_lt, jI_le, jI_eq, jI_div, dt_ix_j, dt_b1, Int.toNat_natCast]
      rw [if_pos z]
    · obtain ⟨T1, L1, a1, a2, a3, a4⟩ := fX5_weigh_j21 ho l (by omega) h2 (fX5_weigh_15 f) W.toNat dt_F 0 T L h hL (LI_congr hI (fun o => by
        constructor
        · intro ⟨x1, x2, x3, x4⟩; omega
        · intro z; exact z.elim)) (by omega) (by unfold dt_F; omega)
      obtain ⟨T', b1, b2, b3⟩ := ih f (l - 1) T1 L1 (by omega) (by omega) (by omega) (by omega) (TW_congr h (fun j hj => a2 j (by omega))) a3 a4
      refine ⟨T', ?_, fun j hj => by rw [b2 j hj, a2 j hj], b3⟩
      unfold fX5_weigh_15
      simp (disch := omega) only [jI_lit, jI_add, jI_sub, jI_mul, jI_neg, jI_lt, jI_le, jI_eq, jI_div, dt_ix_j, dt_b1, Int.toNat_natCast]
      rw [if_neg z, ← b1]
      exact a1
theorem fX5_weigh_j {T : dt_Ob} {n : Nat} {W : Int} {g : Nat → Nat → Int} (h : TW T n W g) (ho : okD n W g) : ∃ T', fX5_weigh T = some T' ∧ (∀ j, j ≠ 11 → T' j = T j) ∧ (∀ b, b < n → T' 11 b = jI (lde n g b)) := by
  have hn := ho.1
  have ht := okD_tp ho
  have h1 : TW (dt_setA T 11 (dt_fill (T 11) 20 0)) n W g := TW_congr h (fun j hj => by rw [dt_setA_ne _ _ _ _ (by omega)])
  have hz : ∀ b, b < n → (dt_setA T 11 (dt_fill (T 11) 20 0)) 11 b = jI 0 := by
    intro b hb
    rw [dt_setA_s, dt_fill_i _ _ _ _ (by omega)]
    rfl
  have li : LI n g (tp g n - 1) (fun _ => False) (fun _ => 0) := by
    by_cases z : tp g n = 0
    · refine LI_start ho _ (fun b hb hc => ?_) _ (fun _ z => z)
      have := tp_ge g n b hb hc
      have r := (ho.2.2.2.1 b hb).1
      unfold okB at r
      omega
    · refine LI_next ho (tp g n) (fun _ => False) _ (LI_start ho _ (fun b hb hc => ?_) _ (fun _ z => z)) (fun o ho' hc e => ?_) _ (fun _ z => z) (by omega)
      · have := tp_ge g n b hb hc; omega
      · have := tp_ge g n o ho' hc; omega
  obtain ⟨T', a1, a2, a3⟩ := fX5_weigh_j15 ho 20 dt_F (tp g n - 1) _ (fun _ => 0) (by omega) (by omega) (by omega) (by unfold dt_F; omega) h1 hz li
  refine ⟨T', ?_, fun j hj => by rw [a2 j hj, dt_setA_ne _ _ _ _ hj], a3⟩
  unfold fX5_weigh
  rw [fX5_tallest_j h1 ho, dt_b1, jI_lit 1, jI_sub]
  exact a1
