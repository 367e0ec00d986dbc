/-! ===== the reference's tower: loads, what is too much, a carry ===== -/
theorem n10 : ¬ ((1 : Int32) = 0) := by decide
theorem i10 {α : Type} {D : Decidable ((1 : Int32) = 0)} (a b : α) : @ite α ((1 : Int32) = 0) D a b = b := if_neg n10
theorem i10j {α : Type} {D : Decidable ((1 : Int32) = jI 0)} (a b : α) : @ite α ((1 : Int32) = jI 0) D a b = b := if_neg n10
theorem ij10 {α : Type} {D : Decidable (jI 1 = jI 0)} (a b : α) : @ite α (jI 1 = jI 0) D a b = b := if_neg n10
theorem ij10x {α : Type} {D : Decidable (jI 1 = 0)} (a b : α) : @ite α (jI 1 = 0) D a b = b := if_neg n10
theorem i00 {α : Type} {D : Decidable ((0 : Int32) = 0)} (a b : α) : @ite α ((0 : Int32) = 0) D a b = a := if_pos rfl
theorem i00j {α : Type} {D : Decidable ((0 : Int32) = jI 0)} (a b : α) : @ite α ((0 : Int32) = jI 0) D a b = a := if_pos rfl
theorem ij00 {α : Type} {D : Decidable (jI 0 = jI 0)} (a b : α) : @ite α (jI 0 = jI 0) D a b = a := if_pos rfl
theorem ij00x {α : Type} {D : Decidable (jI 0 = 0)} (a b : α) : @ite α (jI 0 = 0) D a b = a := if_pos rfl
def MG (T : dt_Ob) (n : Nat) (g : Nat → Nat → Int) : Prop := ∀ q l : Nat, q < 8 → l < 21 → T (38 + q) l = jI (ce g q l n)
theorem MG_congr {T T' : dt_Ob} {n : Nat} {g : Nat → Nat → Int} (h : MG T n g) (e : ∀ j, j < 38 ∨ 38 ≤ j → j ≠ 9 → T' j = T j) : MG T' n g := by
  intro q l hq hl
  rw [e (38 + q) (by omega) (by omega)]
  exact h q l hq hl
theorem fX10_isBorne_j {T : dt_Ob} {n : Nat} {W : Int} {g : Nat → Nat → Int} (h : MT T n W g) (ho : okD n W g) (hg : MG T n g) (b : Nat) (hb : b < n) (hc : 0 ≤ g 5 b) (k : Int) (h0 : 0 ≤ k) (h1 : k < g 0 b) : fX10_isBorne (jI b) (jI k) T = some (if g 6 b = 0 ∨ ce g (g 5 b + k) (g 6 b - 1) n ≠ -1 then 1 else 0) := by
  have hn := ho.1
  have w := ho.2.2
  have r0 := ho.2.2.2.1 b hb
  have r := r0.1
  unfold okB at r
  have e7 := h.2.2.2.1 b hb
  have e8 := h.2.2.2.2 b hb hc
  unfold fX10_isBorne fX10_isBorne_35
  rw [dt_ix_n b 20 (by omega) (by omega), dt_b1, e8]
  by_cases z : g 6 b = 0
  · rw [z, ij00x, if_pos (Or.inl rfl)]
  · have cr := ce_rng g (g 5 b + k) (g 6 b - 1) n
    have eg := hg (g 5 b + k).toNat (g 6 b - 1).toNat (by omega) (by omega)
    rw [show (((g 5 b + k).toNat : Nat) : Int) = g 5 b + k by omega, show (((g 6 b - 1).toNat : Nat) : Int) = g 6 b - 1 by omega] at eg
    simp (disch := omega) only [jI_lit, jI_add, jI_sub, jI_mul, jI_neg, jI_lt, jI_le, jI_eq, jI_div, dt_ix_j, dt_b1, Int.toNat_natCast, e7, e8, eg]
    rw [if_neg z]
    by_cases y : ce g (g 5 b + k) (g 6 b - 1) n = -1
    · rw [if_pos y, if_neg (by omega)]
    · rw [if_neg y, if_pos (Or.inr y)]
/-- the reference's word for it stands -/
abbrev bor (n : Nat) (g : Nat → Nat → Int) (b : Nat) (k : Int) : Prop := g 6 b = 0 ∨ ce g (g 5 b + k) (g 6 b - 1) n ≠ -1
abbrev sth (n : Nat) (g : Nat → Nat → Int) (b : Nat) : Prop := (g 0 b = 3 ∧ (bor n g b 1 ∨ (bor n g b 0 ∧ bor n g b 2))) ∨ (g 0 b ≠ 3 ∧ bor n g b 0 ∧ bor n g b (g 0 b - 1))
theorem fX10_standsThere_j {T : dt_Ob} {n : Nat} {W : Int} {g : Nat → Nat → Int} (h : MT T n W g) (ho : okD n W g) (hg : MG T n g) (b : Nat) (hb : b < n) (hc : 0 ≤ g 5 b) : fX10_standsThere (jI b) T = some (if sth n g b then 1 else 0) := by
  have hn := ho.1
  have r := (ho.2.2.2.1 b hb).1
  unfold okB at r
  unfold fX10_standsThere fX10_standsThere_39
  rw [show (0 : Int32) = jI 0 from rfl, own_0 h hn b hb, dt_b1]
  by_cases z : g 0 b = 3
  · rw [if_pos (show jI (g 0 b) = 3 by rw [z]; rfl), show (1 : Int32) = jI 1 from rfl, show (2 : Int32) = jI 2 from rfl, fX10_isBorne_j h ho hg b hb hc 1 (by omega) (by omega), fX10_isBorne_j h ho hg b hb hc 0 (by omega) (by omega), fX10_isBorne_j h ho hg b hb hc 2 (by omega) (by omega)]
    simp only [dt_b1]
    have e : sth n g b ↔ (bor n g b 1 ∨ (bor n g b 0 ∧ bor n g b 2)) := by
      unfold sth
      constructor
      · rintro (⟨_, q⟩ | ⟨q, _⟩)
        · exact q
        · exact absurd z q
      · intro q; exact Or.inl ⟨z, q⟩
    by_cases y1 : bor n g b 1
    · rw [if_pos y1, if_pos (e.mpr (Or.inl y1)), i10j]
    · by_cases y0 : bor n g b 0
      · by_cases y2 : bor n g b 2
        · rw [if_neg y1, if_pos y0, if_pos y2, if_pos (e.mpr (Or.inr ⟨y0, y2⟩)), i00j, i10j, i10j]
        · rw [if_neg y1, if_pos y0, if_neg y2, if_neg (fun q => (e.mp q).elim y1 (fun x => y2 x.2)), i00j, i10j, i00j]
      · rw [if_neg y1, if_neg y0, if_neg (fun q => (e.mp q).elim y1 (fun x => y0 x.1)), i00j, i00j]
  · rw [if_neg (by rw [show (3 : Int32) = jI 3 from rfl, jI_eq _ _ (by omega) (by omega) (by omega) (by omega)]; exact z), show (1 : Int32) = jI 1 from rfl, jI_sub, fX10_isBorne_j h ho hg b hb hc 0 (by omega) (by omega), fX10_isBorne_j h ho hg b hb hc (g 0 b - 1) (by omega) (by omega)]
    simp only [dt_b1]
    have e : sth n g b ↔ (bor n g b 0 ∧ bor n g b (g 0 b - 1)) := by
      unfold sth
      constructor
      · rintro (⟨q, _⟩ | ⟨_, q⟩)
        · exact absurd q z
        · exact q
      · intro q; exact Or.inr ⟨z, q⟩
    by_cases y0 : bor n g b 0
    · by_cases y1 : bor n g b (g 0 b - 1)
      · rw [if_pos y0, if_pos y1, if_pos (e.mpr ⟨y0, y1⟩), i10j, i10j]
      · rw [if_pos y0, if_neg y1, if_neg (fun q => y1 (e.mp q).2), i10j, i00j]
    · rw [if_neg y0, if_neg (fun q => y0 (e.mp q).1), i00j]
theorem fX10_laysLoads_j142 {n : Nat} {W : Int} {g : Nat → Nat → Int} (ho : okD n W g) (r32 : Int32 → dt_Ob → Option dt_Ob) (r38 : Int32 → Int32 → dt_Ob → Option dt_Ob) (o : Nat) (hb : o < n) (hc : 0 ≤ g 5 o) (hl : 1 ≤ g 6 o) (all : Int) (ha : 0 ≤ all) (ha' : all < 100000) (hN : 0 < nb n g o (g 0 o).toNat) (L : Nat → Int) : ∀ (k fuel i : Nat) (T : dt_Ob), MT T n W g → MG T n g → (∀ b, b < n → T 9 b = jI (L b + ck n g o all b i)) → (i : Int) + k = g 0 o → k < fuel → ∃ T', fX10_laysLoads_142 r32 r38 fuel (jI (g 6 o)) (jI o) (jI (nb n g o (g 0 o).toNat)) (jI all) (jI (all % nb n g o (g 0 o).toNat - nb n g o i)) (jI i) T = r38 (jI (g 6 o)) (jI ((o + 1 : Nat) : Int)) T' ∧ (∀ j, j ≠ 9 → T' j = T j) ∧ ∀ b, b < n → T' 9 b = jI (L b + ctr n g o all b) := by
  have hn := ho.1
  have w := ho.2.2.1
  have r0 := ho.2.2.2.1 o hb
  have r := r0.1
  unfold okB at r
  intro k
  induction k with
  | zero =>
    intro fuel i T h hg hL hk hf
    obtain ⟨f, rfl⟩ : ∃ f, fuel = f + 1 := ⟨fuel - 1, by omega⟩
    refine ⟨T, ?_, fun _ _ => rfl, ?_⟩
    · unfold fX10_laysLoads_142 fX10_laysLoads_216
      simp (disch := omega) only [jI_lit, jI_add, jI_sub, jI_mul, jI_neg, jI_lt, jI_le, jI_eq, jI_div, dt_ix_j, dt_b1, Int.toNat_natCast, own_0 h hn o hb]
      rw [if_pos (by omega)]
      rfl
    · intro b hb'
      rw [hL b hb', ctr, show (g 0 o).toNat = i by omega]
  | succ k ih =>
    intro fuel i T h hg hL hk hf
    obtain ⟨f, rfl⟩ : ∃ f, fuel = f + 1 := ⟨fuel - 1, by omega⟩
    have e7 := h.2.2.2.1 o hb
    have nr := nb_rng n g o i
    have nr' := nb_rng n g o (g 0 o).toNat
    have er := Int.emod_nonneg all (show nb n g o (g 0 o).toNat ≠ 0 by omega)
    have er' := Int.emod_lt_of_pos all hN
    have cr := ce_rng g (g 5 o + i) (g 6 o - 1) n
    have eg := hg (g 5 o + i).toNat (g 6 o - 1).toNat (by omega) (by omega)
    rw [show (((g 5 o + i).toNat : Nat) : Int) = g 5 o + i by omega, show (((g 6 o - 1).toNat : Nat) : Int) = g 6 o - 1 by omega] at eg
    unfold fX10_laysLoads_142
    rw [fX10_isBorne_j h ho hg o hb hc i (by omega) (by omega)]
    simp (disch := omega) only [jI_lit, jI_add, jI_sub, jI_mul, jI_neg, jI_lt, jI_le, jI_eq, jI_div, dt_ix_j, dt_b1, Int.toNat_natCast, own_0 h hn o hb]
    rw [if_neg (by omega)]
    by_cases z : ce g (g 5 o + i) (g 6 o - 1) n = -1
    · rw [if_neg (show ¬ (g 6 o = 0 ∨ ce g (g 5 o + i) (g 6 o - 1) n ≠ -1) by omega), if_pos rfl]
      unfold fX10_laysLoads_210
      have nbe : nb n g o (i + 1) = nb n g o i := by show nb n g o i + _ = _; rw [if_pos z, Int.add_zero]
      obtain ⟨T', a1, a2, a3⟩ := ih f (i + 1) T h hg (by
        intro b hb'
        rw [hL b hb']
        show _ = jI (L b + (ck n g o all b i + _))
        rw [if_neg (by omega), Int.add_zero]) (by omega) (by omega)
      rw [nbe, show (((i + 1 : Nat) : Int)) = (i : Int) + 1 by omega] at a1
      refine ⟨T', ?_, a2, a3⟩
      simp (disch := omega) only [jI_lit, jI_add, jI_sub, jI_mul, jI_neg, jI_lt, jI_le, jI_eq, jI_div, dt_ix_j, dt_b1, Int.toNat_natCast]
      exact a1
    · rw [if_pos (show (g 6 o = 0 ∨ ce g (g 5 o + i) (g 6 o - 1) n ≠ -1) by omega), if_neg (by decide +kernel)]
      simp (disch := omega) only [jI_lit, jI_add, jI_sub, jI_mul, jI_neg, jI_lt, jI_le, jI_eq, jI_div, dt_ix_j, dt_b1, Int.toNat_natCast, e7, eg]
      rw [if_neg (by omega)]
      have nbe : nb n g o (i + 1) = nb n g o i + 1 := by show nb n g o i + _ = _; rw [if_neg z]
      have main : ∀ v : Int, v = (if nb n g o i < all % nb n g o (g 0 o).toNat then 1 else 0) → ∃ T', fX10_laysLoads_204 r32 r38 (fX10_laysLoads_142 r32 r38 f) (jI (g 6 o)) (jI o) (jI (nb n g o (g 0 o).toNat)) (jI all) (jI (all % nb n g o (g 0 o).toNat - nb n g o i)) (jI i) (jI (ce g (g 5 o + i) (g 6 o - 1) n)) (T 9 (ce g (g 5 o + i) (g 6 o - 1) n).toNat) (jI (all / nb n g o (g 0 o).toNat)) (jI v) T = r38 (jI (g 6 o)) (jI ((o + 1 : Nat) : Int)) T' ∧ (∀ j, j ≠ 9 → T' j = T j) ∧ ∀ b, b < n → T' 9 b = jI (L b + ctr n g o all b) := by
        intro v hv
        obtain ⟨T', a1, a2, a3⟩ := ih f (i + 1) (dt_set T 9 (ce g (g 5 o + i) (g 6 o - 1) n).toNat (T 9 (ce g (g 5 o + i) (g 6 o - 1) n).toNat + jI (all / nb n g o (g 0 o).toNat + v))) (MT_congr h (dt_set_n _ _ _ _ _ (by omega)) (dt_set_n _ _ _ _ _ (by omega)) (dt_set_n _ _ _ _ _ (by omega))) (MG_congr hg (fun j _ hj => dt_set_n _ _ _ _ _ hj)) (by
          intro b hb'
          rw [dt_set_s]
          show _ = jI (L b + (ck n g o all b i + _))
          by_cases q : b = (ce g (g 5 o + i) (g 6 o - 1) n).toNat
          · rw [upd_e _ _ _ _ q, ← q, hL b hb', jI_add, if_pos (by omega), ← hv, Int.add_assoc]
          · rw [upd_n _ _ _ _ q, hL b hb', if_neg (by omega), Int.add_zero]) (by omega) (by omega)
        rw [nbe, show (((i + 1 : Nat) : Int)) = (i : Int) + 1 by omega] at a1
        refine ⟨T', ?_, fun j hj => by rw [a2 j hj, dt_set_n _ _ _ _ _ hj], a3⟩
        unfold fX10_laysLoads_204 fX10_laysLoads_210
        simp (disch := omega) only [jI_lit, jI_add, jI_sub, jI_mul, jI_neg, jI_lt, jI_le, jI_eq, jI_div, dt_ix_j, dt_b1, Int.toNat_natCast]
        rw [show all % nb n g o (g 0 o).toNat - nb n g o i + -1 = all % nb n g o (g 0 o).toNat - (nb n g o i + 1) by omega]
        exact a1
      by_cases y : all % nb n g o (g 0 o).toNat - nb n g o i ≤ 0
      · rw [if_pos y]
        exact main 0 (by rw [if_neg (by omega)])
      · rw [if_neg y]
        exact main 1 (by rw [if_pos (by omega)])
theorem ck_zero (n : Nat) (g : Nat → Nat → Int) (o : Nat) (all : Int) (b : Nat) (z : nb n g o (g 0 o).toNat = 0) : ctr n g o all b = 0 := by
  have zero : ∀ k, k ≤ (g 0 o).toNat → ck n g o all b k = 0 := by
    intro k
    induction k with
    | zero => intro _; rfl
    | succ k ih =>
      intro hk
      show ck n g o _ b k + _ = 0
      rw [ih (by omega), if_neg]
      · rfl
      · intro q
        have := nb_lt n g o k (g 0 o).toNat (by omega) (by omega)
        have := nb_rng n g o k
        omega
  exact zero _ (Nat.le_refl _)
theorem fX10_laysLoads_j76 {n : Nat} {W : Int} {g : Nat → Nat → Int} (ho : okD n W g) (r32 : Int32 → dt_Ob → Option dt_Ob) (r38 : Int32 → Int32 → dt_Ob → Option dt_Ob) (o : Nat) (hb : o < n) (hc : 0 ≤ g 5 o) (hl : 1 ≤ g 6 o) (L : Nat → Int) (ha : 0 ≤ g 1 o + L o) (ha' : g 1 o + L o < 100000) (T : dt_Ob) (h : MT T n W g) (hg : MG T n g) (hL : ∀ b, b < n → T 9 b = jI (L b)) : ∀ (k fuel i : Nat), (i : Int) + k = g 0 o → k < fuel → ∃ T', fX10_laysLoads_76 r32 r38 fuel (jI (g 6 o)) (jI o) (jI (nb n g o i)) (jI i) T = r38 (jI (g 6 o)) (jI ((o + 1 : Nat) : Int)) T' ∧ (∀ j, j ≠ 9 → T' j = T j) ∧ ∀ b, b < n → T' 9 b = jI (L b + ctr n g o (g 1 o + L o) b) := by
  have hn := ho.1
  have w := ho.2.2.1
  have r0 := ho.2.2.2.1 o hb
  have r := r0.1
  unfold okB at r
  have e9 := hL o hb
  intro k
  induction k with
  | zero =>
    intro fuel i hk hf
    obtain ⟨f, rfl⟩ : ∃ f, fuel = f + 1 := ⟨fuel - 1, by omega⟩
    have hi' : i = (g 0 o).toNat := by omega
    subst hi'
    have nr := nb_rng n g o (g 0 o).toNat
    unfold fX10_laysLoads_76
    simp (disch := omega) only [jI_lit, jI_add, jI_sub, jI_mul, jI_neg, jI_lt, jI_le, jI_eq, jI_div, dt_ix_j, dt_b1, Int.toNat_natCast, own_0 h hn o hb, own_1 h hn o hb, e9]
    rw [if_pos (by omega)]
    by_cases z : nb n g o (g 0 o).toNat = 0
    · rw [if_pos z]
      refine ⟨T, by unfold fX10_laysLoads_216; rw [show (1 : Int32) = jI 1 from rfl, jI_add]; rfl, fun _ _ => rfl, ?_⟩
      intro b hb'
      rw [hL b hb', ck_zero n g o _ b z, Int.add_zero]
    · rw [if_neg z, if_neg z]
      have s142 := fX10_laysLoads_j142 ho r32 r38 o hb hc hl (g 1 o + L o) ha ha' (by omega) L (g 0 o).toNat dt_F 0 T h hg (by
        intro b hb'
        show _ = jI (L b + 0)
        rw [hL b hb', Int.add_zero]) (by omega) (by unfold dt_F; omega)
      have n0 : nb n g o 0 = 0 := rfl
      rw [n0, Int.sub_zero] at s142
      have ed := Int.mul_ediv_add_emod (g 1 o + L o) (nb n g o (g 0 o).toNat)
      rw [show g 1 o + L o - (g 1 o + L o) / nb n g o (g 0 o).toNat * nb n g o (g 0 o).toNat = (g 1 o + L o) % nb n g o (g 0 o).toNat by rw [Int.mul_comm ((g 1 o + L o) / _)]; omega]
      exact s142
  | succ k ih =>
    intro fuel i hk hf
    obtain ⟨f, rfl⟩ : ∃ f, fuel = f + 1 := ⟨fuel - 1, by omega⟩
    have nr := nb_rng n g o i
    have a := ih f (i + 1) (by omega) (by omega)
    rw [show (((i + 1 : Nat) : Int)) = (i : Int) + 1 by omega] at a
    unfold fX10_laysLoads_76
    rw [fX10_isBorne_j h ho hg o hb hc i (by omega) (by omega)]
    unfold fX10_laysLoads_103
    simp (disch := omega) only [jI_lit, jI_add, jI_sub, jI_mul, jI_neg, jI_lt, jI_le, jI_eq, jI_div, dt_ix_j, dt_b1, Int.toNat_natCast, own_0 h hn o hb]
    rw [if_neg (by omega)]
    by_cases z : ce g (g 5 o + i) (g 6 o - 1) n = -1
    · rw [if_neg (show ¬ (g 6 o = 0 ∨ ce g (g 5 o + i) (g 6 o - 1) n ≠ -1) by omega), if_pos rfl]
      have nbe : nb n g o (i + 1) = nb n g o i := by show nb n g o i + _ = _; rw [if_pos z, Int.add_zero]
      rw [nbe] at a
      rw [Int.add_zero]
      exact a
    · rw [if_pos (show (g 6 o = 0 ∨ ce g (g 5 o + i) (g 6 o - 1) n ≠ -1) by omega), if_neg (by decide +kernel)]
      have nbe : nb n g o (i + 1) = nb n g o i + 1 := by show nb n g o i + _ = _; rw [if_neg z]
      rw [nbe] at a
      exact a
theorem fX10_laysLoads_j38 {n : Nat} {W : Int} {g : Nat → Nat → Int} (ho : okD n W g) (l : Int) (hl : 1 ≤ l) (hl' : l ≤ 20) (r32 : Int32 → dt_Ob → Option dt_Ob) : ∀ (k fuel i : Nat) (T : dt_Ob) (L : Nat → Int), MT T n W g → MG T n g → (∀ b, b < n → T 9 b = jI (L b)) → LI n g l (fun o => o < i ∧ 0 ≤ g 5 o ∧ g 6 o = l) L → i + k = n → k < fuel → ∃ (T' : dt_Ob) (L' : Nat → Int), fX10_laysLoads_38 r32 fuel (jI l) (jI i) T = r32 (jI (l - 1)) T' ∧ (∀ j, j ≠ 9 → T' j = T j) ∧ (∀ b, b < n → T' 9 b = jI (L' b)) ∧ LI n g (l - 1) (fun _ => False) L' := by
  have hn := ho.1
  have w := ho.2.2.1
  intro k
  induction k with
  | zero =>
    intro fuel i T L h hg hL hI hk hf
    obtain ⟨f, rfl⟩ : ∃ f, fuel = f + 1 := ⟨fuel - 1, by omega⟩
    refine ⟨T, L, ?_, fun _ _ => rfl, hL, LI_next ho l _ L hI (fun o ho' hc e => ⟨by omega, hc, e⟩) _ (fun _ z => z) hl⟩
    unfold fX10_laysLoads_38
    simp (disch := omega) only [jI_lit, jI_add, jI_sub, jI_mul, jI_neg, jI_lt, jI_le, jI_eq, jI_div, dt_ix_j, dt_b1, Int.toNat_natCast, show (1 : Int).toNat = 1 from rfl, h.2.1]
    rw [if_pos (by omega)]
    rfl
  | succ k ih =>
    intro fuel i T L h hg hL hI hk hf
    obtain ⟨f, rfl⟩ : ∃ f, fuel = f + 1 := ⟨fuel - 1, by omega⟩
    have hi' : i < n := by omega
    have r0 := ho.2.2.2.1 i hi'
    have r := r0.1
    unfold okB at r
    have e7 := h.2.2.2.1 i hi'
    have cst : ((i : Int) + 1) = ((i + 1 : Nat) : Int) := by omega
    have skip : ¬ (0 ≤ g 5 i ∧ g 6 i = l) → ∃ (T' : dt_Ob) (L' : Nat → Int), fX10_laysLoads_216 r32 (fX10_laysLoads_38 r32 f) (jI l) (jI i) T = r32 (jI (l - 1)) T' ∧ (∀ j, j ≠ 9 → T' j = T j) ∧ (∀ b, b < n → T' 9 b = jI (L' b)) ∧ LI n g (l - 1) (fun _ => False) L' := by
      intro q
      unfold fX10_laysLoads_216
      simp only [jI_lit, jI_add]
      rw [cst]
      refine ih f (i + 1) T L h hg hL (LI_congr hI (fun o => ?_)) (by omega) (by omega)
      constructor
      · intro ⟨x1, x2, x3⟩
        refine ⟨?_, x2, x3⟩
        by_cases e : o = i
        · subst e; exact absurd ⟨x2, x3⟩ q
        · omega
      · intro ⟨x1, x2, x3⟩
        exact ⟨by omega, x2, x3⟩
    unfold fX10_laysLoads_38
    simp (disch := omega) only [jI_lit, jI_add, jI_sub, jI_mul, jI_neg, jI_lt, jI_le, jI_eq, jI_div, dt_ix_j, dt_b1, Int.toNat_natCast, show (1 : Int).toNat = 1 from rfl, h.2.1, e7]
    rw [if_neg (by omega)]
    by_cases z : g 5 i = -1
    · rw [if_pos z]
      exact skip (by omega)
    · have hc : 0 ≤ g 5 i := by omega
      have e8 := h.2.2.2.2 i hi' hc
      rw [if_neg z]
      simp (disch := omega) only [jI_lit, jI_add, jI_sub, jI_mul, jI_neg, jI_lt, jI_le, jI_eq, jI_div, dt_ix_j, dt_b1, Int.toNat_natCast, e8]
      by_cases y : g 6 i = l
      · rw [if_pos y]
        have st := LI_step ho l _ L hI i hi' hc y (by rintro ⟨z, _⟩; omega) (fun x => x < i + 1 ∧ 0 ≤ g 5 x ∧ g 6 x = l) (by
          intro x hx
          constructor
          · intro ⟨x1, x2, x3⟩
            exact ⟨by omega, x2, x3⟩
          · intro ⟨x1, x2, x3⟩
            exact ⟨by omega, x2, x3⟩) ⟨by omega, hc, y⟩
        have bd := ld_le ho i hi' hc
        have nn := ld_nn ho i
        obtain ⟨T1, s1, s2, s3⟩ := fX10_laysLoads_j76 ho r32 (fX10_laysLoads_38 r32 f) i hi' hc (by omega) L (by rw [st.1]; omega) (by rw [st.1]; omega) T h hg hL (g 0 i).toNat dt_F 0 (by omega) (by unfold dt_F; omega)
        rw [st.1] at s3
        obtain ⟨T', L', a1, a2, a3, a4⟩ := ih f (i + 1) T1 _ (MT_congr h (s2 0 (by omega)) (s2 7 (by omega)) (s2 8 (by omega))) (MG_congr hg (fun j _ hj => s2 j hj)) s3 st.2 (by omega) (by omega)
        refine ⟨T', L', ?_, fun j hj => by rw [a2 j hj, s2 j hj], a3, a4⟩
        rw [← a1, ← y]
        exact s1
      · rw [if_neg y]
        exact skip (by omega)
theorem fX10_laysLoads_j32 {n : Nat} {W : Int} {g : Nat → Nat → Int} (ho : okD n W g) : ∀ (m fuel : Nat) (l : Int) (T : dt_Ob) (L : Nat → Int), l ≤ m → 0 ≤ l → l ≤ 20 → m < fuel → MT T n W g → MG T n g → (∀ b, b < n → T 9 b = jI (L b)) → LI n g l (fun _ => False) L → ∃ T', fX10_laysLoads_32 fuel (jI l) T = some T' ∧ (∀ j, j ≠ 9 → T' j = T j) ∧ (∀ b, b < n → T' 9 b = jI (lde n g b)) := by
  have hn := ho.1
  intro m
  induction m with
  | zero =>
    intro fuel l T L hm h1 h2 hf h hg hL hI
    obtain ⟨f, rfl⟩ : ∃ f, fuel = f + 1 := ⟨fuel - 1, by omega⟩
    refine ⟨T, ?_, fun _ _ => rfl, fun b hb => by rw [hL b hb, LI_end ho hI (by omega) b hb]⟩
    unfold fX10_laysLoads_32
    simp (disch := omega) only [jI_lit, jI_add, jI_sub, jI_mul, jI_neg, jI_lt, jI_le, jI_eq, jI_div, dt_ix_j, dt_b1, Int.toNat_natCast]
    rw [if_pos (by omega)]
  | succ m ih =>
    intro fuel l T L hm h1 h2 hf h hg hL hI
    obtain ⟨f, rfl⟩ : ∃ f, fuel = f + 1 := ⟨fuel - 1, by omega⟩
    by_cases z : l ≤ 0
    · refine ⟨T, ?_, fun _ _ => rfl, fun b hb => by rw [hL b hb, LI_end ho hI z b hb]⟩
      unfold fX10_laysLoads_32
      simp (disch := omega) only [jI_lit, jI_add, jI_sub, jI_mul, jI_neg, jI_lt, jI_le, jI_eq, jI_div, dt_ix_j, dt_b1, Int.toNat_natCast]
      rw [if_pos z]
    · obtain ⟨T1, L1, a1, a2, a3, a4⟩ := fX10_laysLoads_j38 ho l (by omega) h2 (fX10_laysLoads_32 f) n dt_F 0 T L h hg hL (LI_congr hI (fun o => by
        constructor
        · intro ⟨x1, x2, x3⟩; omega
        · intro z; exact z.elim)) (by omega) (by unfold dt_F; omega)
      obtain ⟨T', b1, b2, b3⟩ := ih f (l - 1) T1 L1 (by omega) (by omega) (by omega) (by omega) (MT_congr h (a2 0 (by omega)) (a2 7 (by omega)) (a2 8 (by omega))) (MG_congr hg (fun j _ hj => a2 j hj)) a3 a4
      refine ⟨T', ?_, fun j hj => by rw [b2 j hj, a2 j hj], b3⟩
      unfold fX10_laysLoads_32
      simp (disch := omega) only [jI_lit, jI_add, jI_sub, jI_mul, jI_neg, jI_lt, jI_le, jI_eq, jI_div, dt_ix_j, dt_b1, Int.toNat_natCast]
      rw [if_neg z, ← b1]
      exact a1
theorem fX10_laysLoads_j6 {n : Nat} {W : Int} {g : Nat → Nat → Int} (ho : okD n W g) : ∀ (k fuel i : Nat) (T : dt_Ob), MT T n W g → MG T n g → (∀ b, b < i → T 9 b = jI 0) → i + k = n → k < fuel → ∃ T', fX10_laysLoads_6 fuel (jI i) T = some T' ∧ (∀ j, j ≠ 9 → T' j = T j) ∧ (∀ b, b < n → T' 9 b = jI (lde n g b)) := by
  have hn := ho.1
  intro k
  induction k with
  | zero =>
    intro fuel i T h hg hz hk hf
    obtain ⟨f, rfl⟩ : ∃ f, fuel = f + 1 := ⟨fuel - 1, by omega⟩
    have li : LI n g 20 (fun _ => False) (fun _ => 0) := by
      refine LI_start ho _ (fun b hb hc => ?_) _ (fun _ z => z)
      have := (ho.2.2.2.1 b hb).2
      omega
    obtain ⟨T', a1, a2, a3⟩ := fX10_laysLoads_j32 ho 20 dt_F 20 T (fun _ => 0) (by omega) (by omega) (by omega) (by unfold dt_F; omega) h hg (fun b hb => hz b (by omega)) li
    refine ⟨T', ?_, a2, a3⟩
    unfold fX10_laysLoads_6
    simp (disch := omega) only [jI_lit, jI_add, jI_sub, jI_mul, jI_neg, jI_lt, jI_le, jI_eq, jI_div, dt_ix_j, dt_b1, Int.toNat_natCast, show (1 : Int).toNat = 1 from rfl, h.2.1]
    rw [if_pos (by omega)]
    exact a1
  | succ k ih =>
    intro fuel i T h hg hz hk hf
    obtain ⟨f, rfl⟩ : ∃ f, fuel = f + 1 := ⟨fuel - 1, by omega⟩
    obtain ⟨T', a1, a2, a3⟩ := ih f (i + 1) (dt_set T 9 i (jI 0)) (MT_congr h (dt_set_n _ _ _ _ _ (by omega)) (dt_set_n _ _ _ _ _ (by omega)) (dt_set_n _ _ _ _ _ (by omega))) (MG_congr hg (fun j _ hj => dt_set_n _ _ _ _ _ hj)) (fun b hb => by
      rw [dt_set_s]
      by_cases e : b = i
      · rw [upd_e _ _ _ _ e]
      · rw [upd_n _ _ _ _ e]; exact hz b (by omega)) (by omega) (by omega)
    refine ⟨T', ?_, fun j hj => by rw [a2 j hj, dt_set_n _ _ _ _ _ hj], a3⟩
    unfold fX10_laysLoads_6
    simp (disch := omega) only [jI_lit, jI_add, jI_sub, jI_mul, jI_neg, jI_lt, jI_le, jI_eq, jI_div, dt_ix_j, dt_b1, Int.toNat_natCast, show (1 : Int).toNat = 1 from rfl, h.2.1]
    rw [if_neg (by omega), show ((i : Int) + 1) = ((i + 1 : Nat) : Int) by omega]
    exact a1
/-- what the scratch rows of the reference are: all else stays -/
def scr (T T' : dt_Ob) : Prop := ∀ j, j < 38 → j ≠ 7 → j ≠ 8 → j ≠ 9 → T' j = T j
theorem fX10_laysLoads_j {T : dt_Ob} {n : Nat} {W : Int} {g : Nat → Nat → Int} (h : MT T n W g) (ho : okD n W g) : ∃ T', fX10_laysLoads T = some T' ∧ (∀ j, j < 38 → j ≠ 9 → T' j = T j) ∧ MG T' n g ∧ (∀ b, b < n → T' 9 b = jI (lde n g b)) := by
  have hn := ho.1
  obtain ⟨T1, a1, a2, a3⟩ := fX10_laysGrid_j h ho
  obtain ⟨T', b1, b2, b3⟩ := fX10_laysLoads_j6 ho n dt_F 0 T1 (MT_congr h (a2 0 (by omega)) (a2 7 (by omega)) (a2 8 (by omega))) a3 (fun b hb => by omega) (by omega) (by unfold dt_F; omega)
  refine ⟨T', ?_, fun j hj h9 => by rw [b2 j h9, a2 j (by omega)], MG_congr a3 (fun j _ hj => b2 j hj), b3⟩
  unfold fX10_laysLoads
  rw [a1, dt_b1]
  exact b1
