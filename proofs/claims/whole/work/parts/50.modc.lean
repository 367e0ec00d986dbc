/-! ===== the reference's tower: too much, a carry ===== -/
theorem fX10_bears_j {T : dt_Ob} {n : Nat} {W : Int} {g : Nat → Nat → Int} (h : MT T n W g) (ho : okD n W g) (b : Nat) (hb : b < n) : fX10_bears (jI b) T = some (jI (br g b)) := by
  have hn := ho.1
  have r := (ho.2.2.2.1 b hb).1
  unfold okB at r
  unfold fX10_bears fX10_bears_32
  simp (disch := omega) only [jI_lit, jI_add, jI_sub, jI_mul, jI_neg, jI_lt, jI_le, jI_eq, jI_div, dt_ix_j, dt_b1, Int.toNat_natCast, own_2 h hn b hb, own_3 h hn b hb, jI_and4, jI_and2, jI_and1]
  unfold br
  by_cases c4 : g 3 b < 4 <;> by_cases c2 : g 3 b / 2 % 2 = 0 <;> by_cases c1 : g 3 b % 2 = 0 <;> simp only [c4, c2, c1, if_true, if_false, ↓reduceIte]
theorem fX10_tooMuch_j8 {T : dt_Ob} {n : Nat} {W : Int} {g : Nat → Nat → Int} (h : MT T n W g) (ho : okD n W g) (L : Nat → Int) (hL : ∀ b, b < n → T 9 b = jI (L b)) (hr : ∀ b, b < n → 0 ≤ L b ∧ L b ≤ 1980) : ∀ (k fuel i : Nat), i + k = n → k < fuel → fX10_tooMuch_8 fuel (jI (ov L g i)) (jI i) T = some (jI (ov L g n), T) := by
  have hn := ho.1
  have w := ho.2.2.1
  intro k
  induction k with
  | zero =>
    intro fuel i hk hf
    obtain ⟨f, rfl⟩ : ∃ f, fuel = f + 1 := ⟨fuel - 1, by omega⟩
    unfold fX10_tooMuch_8
    simp (disch := omega) only [jI_lit, jI_add, jI_sub, jI_mul, jI_neg, jI_lt, jI_le, jI_eq, jI_div, dt_ix_j, dt_b1, Int.toNat_natCast, show (1 : Int).toNat = 1 from rfl, h.2.1]
    rw [if_pos (by omega), show i = n by omega]
  | succ k ih =>
    intro fuel i hk hf
    obtain ⟨f, rfl⟩ : ∃ f, fuel = f + 1 := ⟨fuel - 1, by omega⟩
    have hi' : i < n := by omega
    have r := (ho.2.2.2.1 i hi').1
    unfold okB at r
    have e7 := h.2.2.2.1 i hi'
    have e9 := hL i hi'
    have rl := hr i hi'
    have rb := br_rng g i (by omega) (by omega)
    have ro := ov_rng L g i
    have lv := (ho.2.2.2.1 i hi').2
    have ihh := ih f (i + 1) (by omega) (by omega)
    have cst : ((i : Int) + 1) = ((i + 1 : Nat) : Int) := by omega
    have skip : ov L g (i + 1) = ov L g i → fX10_tooMuch_64 (fX10_tooMuch_8 f) (jI (ov L g i)) (jI i) T = some (jI (ov L g n), T) := by
      intro e
      unfold fX10_tooMuch_64
      simp only [jI_lit, jI_add]
      rw [cst, ← e, ihh]
    have take : ov L g (i + 1) = i → fX10_tooMuch_62 (fX10_tooMuch_8 f) (jI i) T = some (jI (ov L g n), T) := by
      intro e
      unfold fX10_tooMuch_62 fX10_tooMuch_64
      simp only [jI_lit, jI_add]
      rw [cst]
      rw [e] at ihh
      exact ihh
    have uov : ov L g (i + 1) = if 0 ≤ g 5 i ∧ br g i < L i ∧ (ov L g i = -1 ∨ g 6 (ov L g i).toNat < g 6 i) then (i : Int) else ov L g i := rfl
    unfold fX10_tooMuch_8
    rw [fX10_bears_j h ho i hi']
    simp (disch := omega) only [jI_lit, jI_add, jI_sub, jI_mul, jI_neg, jI_lt, jI_le, jI_eq, jI_div, dt_ix_j, dt_b1, Int.toNat_natCast, show (1 : Int).toNat = 1 from rfl, h.2.1, e7, e9]
    rw [if_neg (by omega)]
    by_cases z : g 5 i = -1
    · rw [if_pos z]
      exact skip (by rw [uov, if_neg (by omega)])
    · rw [if_neg z]
      have e8 := h.2.2.2.2 i hi' (by omega)
      by_cases y : L i ≤ br g i
      · rw [if_pos y]
        exact skip (by rw [uov, if_neg (by omega)])
      · rw [if_neg y]
        by_cases x : ov L g i = -1
        · rw [if_pos x]
          exact take (by rw [uov, if_pos (by omega)])
        · have r' := (ho.2.2.2.1 (ov L g i).toNat (by omega))
          have r1 := r'.1
          unfold okB at r1
          have in5 : 0 ≤ g 5 (ov L g i).toNat := by
            have key : ∀ j, ov L g j ≠ -1 → 0 ≤ g 5 (ov L g j).toNat := by
              intro j
              induction j with
              | zero => intro q; exact absurd rfl q
              | succ j ihj =>
                intro q
                unfold ov at q ⊢
                split
                case isTrue s => rw [Int.toNat_natCast]; exact s.1
                case isFalse s => rw [if_neg s] at q; exact ihj q
            exact key i x
          have e8' := h.2.2.2.2 (ov L g i).toNat (by omega) in5
          rw [if_neg x]
          simp (disch := omega) only [jI_lit, jI_add, jI_sub, jI_mul, jI_neg, jI_lt, jI_le, jI_eq, jI_div, dt_ix_j, dt_b1, Int.toNat_natCast, e8, e8']
          by_cases v : g 6 i ≤ g 6 (ov L g i).toNat
          · rw [if_pos v]
            exact skip (by rw [uov, if_neg (by omega)])
          · rw [if_neg v]
            exact take (by rw [uov, if_pos (by omega)])
theorem fX10_tooMuch_j {T : dt_Ob} {n : Nat} {W : Int} {g : Nat → Nat → Int} (h : MT T n W g) (ho : okD n W g) : ∃ T', fX10_tooMuch T = some (jI (ovl_ n g), T') ∧ (∀ j, j < 38 → j ≠ 9 → T' j = T j) ∧ MG T' n g := by
  have hn := ho.1
  obtain ⟨T', a1, a2, a3, a4⟩ := fX10_laysLoads_j h ho
  have b := fX10_tooMuch_j8 (MT_congr h (a2 0 (by omega) (by omega)) (a2 7 (by omega) (by omega)) (a2 8 (by omega) (by omega))) ho (lde n g) a4 (fun b hb => lde_rng ho b hb) n dt_F 0 (by omega) (by unfold dt_F; omega)
  refine ⟨T', ?_, a2, a3⟩
  unfold fX10_tooMuch
  rw [a1, dt_b1]
  exact b
/-- at its level: what bears it -/
theorem bor_hi {n : Nat} {W : Int} {g : Nat → Nat → Int} (ho : okT n W g) (b : Nat) (hb : b < n) (hy : g 5 b < 0) (c : Int) (h0 : 0 ≤ c) (h1 : c + g 0 b ≤ W) (k : Int) (k0 : 0 ≤ k) (k1 : k < g 0 b) : bor n (gD n g b c) b k ↔ hi g (c + k) n = la n g c (g 0 b).toNat := by
  have ge := la_ge n g c (g 0 b).toNat k.toNat (by omega)
  rw [show c + ((k.toNat : Nat) : Int) = c + k by omega] at ge
  have nn := hi_nn g (c + k) n
  unfold bor
  rw [gD_5, gD_6]
  constructor
  · rintro (z | z)
    · omega
    · rcases ce_cases (gD n g b c) (c + k) (la n g c (g 0 b).toNat - 1) n with ⟨e, _⟩ | ⟨o, hob, e, cv, lv⟩
      · exact absurd e z
      · have ne : o ≠ b := by intro q; subst q; rw [gD_6] at lv; omega
        rw [gD_n _ _ _ _ _ _ ne] at lv
        have := hi_ge g (c + k) n o hob ((cov_n g b _ _ _ o ne _).mp cv)
        omega
  · intro z
    by_cases y : la n g c (g 0 b).toNat = 0
    · exact Or.inl y
    · right
      rcases hi_att g (c + k) n with e | ⟨o, hob, cv, e⟩
      · omega
      · have ne : o ≠ b := by intro q; subst q; unfold cov at cv; omega
        rw [ce_some (okT_drop ho hb c hy h0 h1).D (c + k) (la n g c (g 0 b).toNat - 1) o hob ((cov_n g b _ _ _ o ne _).mpr cv) (by rw [gP_n _ _ _ _ _ _ _ ne]; omega)]
        omega
theorem sth_stn {n : Nat} {W : Int} {g : Nat → Nat → Int} (ho : okT n W g) (b : Nat) (hb : b < n) (hy : g 5 b < 0) (c : Int) (h0 : 0 ≤ c) (h1 : c + g 0 b ≤ W) : sth n (gD n g b c) b ↔ stn n g b c := by
  have r := ho.2.2.2.1 b hb
  unfold okB at r
  have l : g 0 b = 1 ∨ g 0 b = 2 ∨ g 0 b = 3 := by omega
  unfold sth stn
  rw [gD_0]
  rcases l with e | e | e
  · have b0 := bor_hi ho b hb hy c h0 h1 0 (by omega) (by omega)
    rw [Int.add_zero] at b0
    have b1 : bor n (gD n g b c) b (g 0 b - 1) ↔ bor n (gD n g b c) b 0 := by rw [show g 0 b - 1 = 0 by omega]
    rw [b1, b0]
    constructor
    · rintro (⟨q, _⟩ | ⟨_, q, _⟩)
      · omega
      · exact Or.inl ⟨e, q⟩
    · rintro (⟨_, q⟩ | ⟨q, _⟩ | ⟨q, _⟩)
      · exact Or.inr ⟨by omega, q, q⟩
      · omega
      · omega
  · have b0 := bor_hi ho b hb hy c h0 h1 0 (by omega) (by omega)
    have b1 := bor_hi ho b hb hy c h0 h1 1 (by omega) (by omega)
    rw [Int.add_zero] at b0
    have b2 : bor n (gD n g b c) b (g 0 b - 1) ↔ bor n (gD n g b c) b 1 := by rw [show g 0 b - 1 = 1 by omega]
    rw [b2, b0, b1]
    constructor
    · rintro (⟨q, _⟩ | ⟨_, q, q'⟩)
      · omega
      · exact Or.inr (Or.inl ⟨e, q, q'⟩)
    · rintro (⟨q, _⟩ | ⟨_, q, q'⟩ | ⟨q, _⟩)
      · omega
      · exact Or.inr ⟨by omega, q, q'⟩
      · omega
  · have b0 := bor_hi ho b hb hy c h0 h1 0 (by omega) (by omega)
    have b1 := bor_hi ho b hb hy c h0 h1 1 (by omega) (by omega)
    have b2 := bor_hi ho b hb hy c h0 h1 2 (by omega) (by omega)
    rw [Int.add_zero] at b0
    rw [b0, b1, b2]
    constructor
    · rintro (⟨_, q⟩ | ⟨q, _⟩)
      · exact Or.inr (Or.inr ⟨e, q⟩)
      · omega
    · rintro (⟨q, _⟩ | ⟨q, _⟩ | ⟨_, q⟩)
      · omega
      · omega
      · exact Or.inl ⟨e, q⟩
theorem MT_put {T : dt_Ob} {n : Nat} {W : Int} {g : Nat → Nat → Int} (h : MT T n W g) (b : Nat) (hb : b < n) (p c l : Int) : MT (dt_set (dt_set T 7 b (jI c)) 8 b (jI l)) n W (gP g b p c l) := by
  refine ⟨?_, ?_, ?_, ?_, ?_⟩
  · rw [dt_set_n _ _ _ _ _ (by omega), dt_set_n _ _ _ _ _ (by omega)]; exact h.1
  · rw [dt_set_n _ _ _ _ _ (by omega), dt_set_n _ _ _ _ _ (by omega)]; exact h.2.1
  · intro f hf x hx
    rw [dt_set_n _ _ _ _ _ (by omega), dt_set_n _ _ _ _ _ (by omega), gP_f _ _ _ _ _ _ _ hf]
    exact h.2.2.1 f hf x hx
  · intro x hx
    rw [dt_set_n _ _ _ _ _ (by omega), dt_set_s]
    by_cases e : x = b
    · subst e; rw [upd_s, gP_5]
    · rw [upd_n _ _ _ _ e, gP_n _ _ _ _ _ _ _ e]; exact h.2.2.2.1 x hx
  · intro x hx h5
    rw [dt_set_s, dt_set_n _ _ _ _ _ (by omega)]
    by_cases e : x = b
    · subst e; rw [upd_s, gP_6]
    · rw [upd_n _ _ _ _ e, gP_n _ _ _ _ _ _ _ e]
      rw [gP_n _ _ _ _ _ _ _ e] at h5
      exact h.2.2.2.2 x hx h5
theorem fX10_lays_j {T : dt_Ob} {n : Nat} {W : Int} {g : Nat → Nat → Int} (h : MT T n W g) (ho : okT n W g) (b : Nat) (hb : b < n) (c : Int) (h0 : 0 ≤ c) (h1 : c + g 0 b ≤ W) (hy : g 5 b < 0) : ∃ T', fX10_lays (jI b) (jI c) T = some (jI (rsn n g b c), T') ∧ MT T' n W (gD n g b c) ∧ T' 8 b = jI (la n g c (g 0 b).toNat) ∧ (∀ j, j < 38 → j ≠ 5 → j ≠ 7 → j ≠ 8 → j ≠ 9 → T' j = T j) ∧ T' 5 0 = (if rsn n g b c = 2 then T 5 0 else jI (rsw n g b c)) := by
  have hn := ho.1
  have w := ho.2.2
  have rb := ho.2.2.2.1 b hb
  unfold okB at rb
  have ot := okT_drop ho hb c hy h0 h1
  have m1 := MT_put h b hb (-1) c (la n g c (g 0 b).toNat)
  obtain ⟨T1, a1, a2, a3⟩ := fX10_laysGrid_j m1 ot.D
  have m2 : MT T1 n W (gD n g b c) := MT_congr m1 (a2 0 (by omega)) (a2 7 (by omega)) (a2 8 (by omega))
  have st := fX10_standsThere_j m2 ot.D a3 b hb (by rw [gD_5]; exact h0)
  have l8 : T1 8 b = jI (la n g c (g 0 b).toNat) := by rw [a2 8 (by omega)]; exact dt_set_at _ _ _ _
  have fr : ∀ j, j < 38 → j ≠ 7 → j ≠ 8 → T1 j = T j := fun j hj h7 h8 => by rw [a2 j (by omega), dt_set_n _ _ _ _ _ h8, dt_set_n _ _ _ _ _ h7]
  unfold fX10_lays
  rw [fX10_levelAt_j h ho.D b hb c h0 (by omega), dt_b1, dt_ix_n b 20 (by omega) (by omega), dt_b1, dt_b1, a1, dt_b1, st, dt_b1]
  have eq := sth_stn ho b hb hy c h0 h1
  by_cases s : stn n g b c
  · rw [if_pos (eq.mpr s), if_neg (by decide)]
    obtain ⟨T2, b1, b2, b3⟩ := fX10_tooMuch_j m2 ot.D
    have or1 : -1 ≤ ovl_ n (gD n g b c) ∧ ovl_ n (gD n g b c) < n := ov_rng (lde n (gD n g b c)) (gD n g b c) n
    rw [b1, dt_b1]
    have er : rsn n g b c = if ovl_ n (gD n g b c) = -1 then 0 else 3 := by unfold rsn; rw [if_pos s]
    have ew : rsw n g b c = ovl_ n (gD n g b c) := by unfold rsw; rw [if_pos s]
    have m3 : MT (dt_set T2 5 0 (jI (ovl_ n (gD n g b c)))) n W (gD n g b c) := MT_congr m2 (by rw [dt_set_n _ _ _ _ _ (by omega), b2 0 (by omega) (by omega)]) (by rw [dt_set_n _ _ _ _ _ (by omega), b2 7 (by omega) (by omega)]) (by rw [dt_set_n _ _ _ _ _ (by omega), b2 8 (by omega) (by omega)])
    refine ⟨dt_set T2 5 0 (jI (ovl_ n (gD n g b c))), ?_, m3, ?_, ?_, ?_⟩
    · by_cases z : ovl_ n (gD n g b c) = -1
      · rw [er, if_pos z, if_pos (by rw [z]; rfl)]; rfl
      · rw [er, if_neg z, if_neg]
        · rfl
        · intro q
          apply z
          have q' : jI (ovl_ n (gD n g b c)) = jI (-1) := q
          rwa [jI_eq _ _ (by omega) (by omega) (by omega) (by omega)] at q'
    · rw [dt_set_n _ _ _ _ _ (by omega), b2 8 (by omega) (by omega)]; exact l8
    · intro j hj h5 h7 h8 h9
      rw [dt_set_n _ _ _ _ _ h5, b2 j hj h9, fr j hj h7 h8]
    · rw [dt_set_at, ew, if_neg]
      rw [er]
      split <;> omega
  · rw [if_neg (fun q => s (eq.mp q)), if_pos rfl]
    have er : rsn n g b c = 2 := by unfold rsn; rw [if_neg s]
    refine ⟨T1, by rw [er]; rfl, m2, l8, fun j hj h5 h7 h8 h9 => fr j hj h7 h8, ?_⟩
    rw [er, if_pos rfl, fr 5 (by omega) (by omega) (by omega)]
