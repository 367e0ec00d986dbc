/-! ===== which: the class builds a leaf ===== -/
/-- the blocks asked about -/
def BS (n k : Nat) (bs : Nat → Nat) : Prop := k ≤ 6 ∧ (∀ i, i < k → bs i < n) ∧ (∀ i j, i < k → j < k → bs i = bs j → i = j)
/-- the finder, m of the blocks put -/
def FP (P : dt_Ob) (k : Nat) (bs : Nat → Nat) (g : Nat → Nat → Int) (col : Nat → Int) (m : Nat) : Prop := P 6 0 = jI k ∧ (∀ i, i < k → P 0 i = jI (bs i) ∧ P 3 i = jI (g 4 (bs i))) ∧ ∀ i, i < m → P 1 i = jI (col (bs i)) ∧ P 2 i = jI (lv g (bs i) (col (bs i)))
/-- a whole leaf -/
def LF (n : Nat) (W : Int) (g : Nat → Nat → Int) (k : Nat) (bs : Nat → Nat) (col : Nat → Int) : Prop := CO n W g col ∧ (∀ i, i < k → 0 ≤ col (bs i)) ∧ (∀ b, 0 ≤ col b → ∃ j, j < k ∧ bs j = b) ∧ ∀ b, 0 ≤ col b → lv g b (col b) < k
abbrev Std (n : Nat) (W : Int) (g : Nat → Nat → Int) (col : Nat → Int) : Prop := okT n W (gL g col) ∧ ∀ b, b < n → 0 ≤ col b → sth n (gL g col) b
section
variable {n : Nat} {W : Int} {g : Nat → Nat → Int} {k : Nat} {bs : Nat → Nat} {col : Nat → Int}
theorem yplace (hY : YD n W g) (b : Nat) (hb : b < n) : 0 ≤ g 4 b ∧ g 4 b ≤ 59 := by
  have r := hY.1.2.2.2.1 b hb
  have y := hY.2 b
  unfold okB at r
  omega
theorem cl_build12 (hY : YD n W g) (hB : BS n k bs) (hL : LF n W g k bs col) {P : dt_Ob} (hP : FP P k bs g col k) (r2 : Int32 → dt_Ob → dt_Ob → Option (Int32 × dt_Ob × dt_Ob)) (x2 : Nat) (hx2 : x2 < k) : ∀ (d fuel x3 : Nat) (T : dt_Ob) (p : Nat → Bool), x3 + d = k → d < fuel → TW T n W (gL g (cS p col)) → okT n W (gL g (cS p col)) → (∀ b, p b = true ↔ 0 ≤ col b ∧ (lv g b (col b) < x2 ∨ (lv g b (col b) = x2 ∧ ∃ j, j < x3 ∧ bs j = b))) → (∀ b, p b = true → sth n (gL g col) b) →
    (∃ (T' : dt_Ob) (p' : Nat → Bool), fX2_build_12 r2 fuel (jI x2) (jI x3) P T = r2 (jI ((x2 + 1 : Nat) : Int)) P T' ∧ TW T' n W (gL g (cS p' col)) ∧ okT n W (gL g (cS p' col)) ∧ (∀ b, p' b = true ↔ 0 ≤ col b ∧ lv g b (col b) < ((x2 + 1 : Nat) : Int)) ∧ (∀ b, p' b = true → sth n (gL g col) b)) ∨
    (∃ (T' : dt_Ob) (p' : Nat → Bool), fX2_build_12 r2 fuel (jI x2) (jI x3) P T = some (0, P, T') ∧ TW T' n W (gL g (cS p' col)) ∧ okT n W (gL g (cS p' col)) ∧ (∀ b, p' b = true → 0 ≤ col b) ∧ ¬ Std n W g col) := by
  have k6 := hB.1
  have hy := hY.2
  have hW := hY.1.2.2.1
  intro d
  induction d with
  | zero =>
    intro fuel x3 T p hd hf hT ho hp hs
    obtain ⟨f, rfl⟩ : ∃ f, fuel = f + 1 := ⟨fuel - 1, by omega⟩
    left
    refine ⟨T, p, ?_, hT, ho, fun b => ?_, hs⟩
    · rw [fX2_build_12, hP.1, if_pos (by rw [jI_le _ _ (by omega) (by omega) (by omega) (by omega)]; omega), show (1 : Int32) = jI 1 from rfl, jI_add]
      rfl
    · rw [hp b]
      constructor
      · rintro ⟨h0, h1 | ⟨h1, _⟩⟩
        · exact ⟨h0, by omega⟩
        · exact ⟨h0, by omega⟩
      · rintro ⟨h0, h1⟩
        refine ⟨h0, ?_⟩
        by_cases z : lv g b (col b) < x2
        · exact Or.inl z
        · obtain ⟨j, j1, j2⟩ := hL.2.2.1 b h0
          exact Or.inr ⟨by omega, j, by omega, j2⟩
  | succ d ih =>
    intro fuel x3 T p hd hf hT ho hp hs
    obtain ⟨f, rfl⟩ : ∃ f, fuel = f + 1 := ⟨fuel - 1, by omega⟩
    have hx3 : x3 < k := by omega
    have x3ix : dt_ix (jI x3) 6 = some x3 := dt_ix_n _ _ (by omega) (by omega)
    have hbn := hB.2.1 x3 hx3
    have hb0 := hL.2.1 x3 hx3
    have hlv := hL.2.2.2 (bs x3) hb0
    obtain ⟨_, hbW, hbl⟩ := (hL.1 (bs x3)).2 hb0
    have l0 : 0 ≤ lv g (bs x3) (col (bs x3)) := by unfold lv; omega
    have n1 : jI x3 + (1 : Int32) = jI ((x3 + 1 : Nat) : Int) := by rw [show (1 : Int32) = jI 1 from rfl, jI_add]; rfl
    have hpe := hP.2.2 x3 hx3
    have hpb := (hP.2.1 x3 hx3).1
    have e2 : (P 2 x3 = jI x2) = (lv g (bs x3) (col (bs x3)) = x2) := by rw [hpe.2]; exact jI_eq _ _ (by omega) (by omega) (by omega) (by omega)
    have top : fX2_build_12 r2 (f + 1) (jI x2) (jI x3) P T = (if P 2 x3 = jI x2 then ((fX5_levelFor (jI (bs x3)) (jI (col (bs x3))) T).bind fun q4 => (if q4 = jI x2 then (fX2_build_55 r2 (fX2_build_12 r2 f) (jI x2) (jI x3) (1 : Int32) P T) else (fX2_build_55 r2 (fX2_build_12 r2 f) (jI x2) (jI x3) (0 : Int32) P T))) else (fX2_build_99 r2 (fX2_build_12 r2 f) (jI x2) (jI x3) P T)) := by
      rw [fX2_build_12, hP.1, if_neg (by rw [jI_le _ _ (by omega) (by omega) (by omega) (by omega)]; omega), x3ix, dt_b1, dt_b1, dt_b1, hpb, hpe.1]
    rw [top]
    by_cases z : lv g (bs x3) (col (bs x3)) = x2
    · rw [if_pos (show P 2 x3 = jI x2 by rw [e2]; exact z)]
      have npb : ¬ p (bs x3) = true := by
        intro q
        obtain ⟨_, h1 | ⟨_, j, j1, j2⟩⟩ := (hp (bs x3)).mp q
        · omega
        · have := hB.2.2 j x3 (by omega) hx3 j2
          omega
      have lf := fX5_levelFor_j hT ho.D (bs x3) hbn (col (bs x3)) hb0 (by rw [gL_0]; omega)
      have ladr := okD_la ho.D (col (bs x3)) (gL g (cS p col) 0 (bs x3)).toNat
      have eq : (jI (la n (gL g (cS p col)) (col (bs x3)) (gL g (cS p col) 0 (bs x3)).toNat) = jI x2) = (la n (gL g (cS p col)) (col (bs x3)) (gL g (cS p col) 0 (bs x3)).toNat = x2) := jI_eq _ _ (by omega) (by omega) (by omega) (by omega)
      have ws := fX5_wouldStand_j hT ho.D (bs x3) hbn (col (bs x3)) hb0 (by rw [gL_0]; exact hbW)
      rw [lf, dt_b1]
      have stepok : Std n W g col → la n (gL g (cS p col)) (col (bs x3)) (g 0 (bs x3)).toNat = lv g (bs x3) (col (bs x3)) ∧ stn n (gL g (cS p col)) (bs x3) (col (bs x3)) := by
        rintro ⟨s1, s2⟩
        refine leaf_step hY hL.1 s1 (bs x3) hb0 (s2 _ hbn hb0) p (fun o q => ?_) (fun o q1 q2 => ?_) npb ho
        · obtain ⟨h0, h1 | ⟨h1, _⟩⟩ := (hp o).mp q
          · exact ⟨h0, by omega⟩
          · exact ⟨h0, by omega⟩
        · exact (hp o).mpr ⟨q1, Or.inl (by omega)⟩
      have pc : ∀ b, p b = true → 0 ≤ col b := fun b q => ((hp b).mp q).1
      by_cases y : la n (gL g (cS p col)) (col (bs x3)) (gL g (cS p col) 0 (bs x3)).toNat = x2
      · rw [if_pos (by rw [eq]; exact y)]
        unfold fX2_build_55
        rw [if_neg n10, x3ix, dt_b1, dt_b1, hpb, hpe.1, ws, dt_b1]
        by_cases w : stn n (gL g (cS p col)) (bs x3) (col (bs x3))
        · rw [if_pos w, if_neg n10, dt_b1, dt_b1]
          have yb : gL g (cS p col) 5 (bs x3) < 0 := by rw [gL_y _ _ _ _ (by rw [cS_f p col _ npb]; omega), (hy _).1]; omega
          obtain ⟨T', t1, t2, _⟩ := fX5_drop_j hT ho (bs x3) hbn (col (bs x3)) hb0 (by rw [gL_0]; exact hbW) yb
          rw [hpb, hpe.1, t1, dt_b1]
          obtain ⟨c1, c2, c3⟩ := leaf_back hY hL.1 (bs x3) hb0 p npb ho (by rw [gL_0] at y; omega) w
          have c3' : gP (gL g (cS p col)) (bs x3) (-1) (col (bs x3)) (la n (gL g (cS p col)) (col (bs x3)) (gL g (cS p col) 0 (bs x3)).toNat) = gL g (cS (fun x => p x || decide (x = bs x3)) col) := c3
          rw [c3'] at t2
          unfold fX2_build_99
          rw [n1]
          refine ih f (x3 + 1) T' _ (by omega) (by omega) t2 c1 (fun b => ?_) (fun b q => ?_)
          · constructor
            · intro q
              by_cases pb : p b = true
              · obtain ⟨h0, h1 | ⟨h1, j, j1, j2⟩⟩ := (hp b).mp pb
                · exact ⟨h0, Or.inl h1⟩
                · exact ⟨h0, Or.inr ⟨h1, j, by omega, j2⟩⟩
              · have e : b = bs x3 := by simpa [pb] using q
                subst e
                exact ⟨hb0, Or.inr ⟨z, x3, by omega, rfl⟩⟩
            · rintro ⟨h0, h1⟩
              by_cases e : b = bs x3
              · simp [e]
              · have : p b = true := (hp b).mpr ⟨h0, by
                  rcases h1 with h1 | ⟨h1, j, j1, j2⟩
                  · exact Or.inl h1
                  · refine Or.inr ⟨h1, j, ?_, j2⟩
                    by_cases ej : j = x3
                    · subst ej; exact absurd j2.symm e
                    · omega⟩
                simp [this]
          · by_cases pb : p b = true
            · exact hs b pb
            · have e : b = bs x3 := by simpa [pb] using q
              subst e
              exact c2
        · right
          rw [if_neg w, if_pos rfl]
          exact ⟨T, p, rfl, hT, ho, pc, fun s => w (stepok s).2⟩
      · right
        rw [if_neg (by rw [eq]; exact y)]
        unfold fX2_build_55
        rw [if_pos rfl]
        refine ⟨T, p, rfl, hT, ho, pc, fun s => y ?_⟩
        have := (stepok s).1
        rw [gL_0]
        omega
    · rw [if_neg (show ¬ P 2 x3 = jI x2 by rw [e2]; exact z)]
      unfold fX2_build_99
      rw [n1]
      refine ih f (x3 + 1) T p (by omega) (by omega) hT ho (fun b => ?_) hs
      rw [hp b]
      constructor
      · rintro ⟨h0, h1 | ⟨h1, j, j1, j2⟩⟩
        · exact ⟨h0, Or.inl h1⟩
        · exact ⟨h0, Or.inr ⟨h1, j, by omega, j2⟩⟩
      · rintro ⟨h0, h1 | ⟨h1, j, j1, j2⟩⟩
        · exact ⟨h0, Or.inl h1⟩
        · refine ⟨h0, Or.inr ⟨h1, j, ?_, j2⟩⟩
          by_cases ej : j = x3
          · subst ej
            subst j2
            exact absurd h1 z
          · omega
theorem cl_build2 (hY : YD n W g) (hB : BS n k bs) (hL : LF n W g k bs col) {P : dt_Ob} (hP : FP P k bs g col k) : ∀ (d fuel x2 : Nat) (T : dt_Ob) (p : Nat → Bool), x2 + d = k → d < fuel → TW T n W (gL g (cS p col)) → okT n W (gL g (cS p col)) → (∀ b, p b = true ↔ 0 ≤ col b ∧ lv g b (col b) < x2) → (∀ b, p b = true → sth n (gL g col) b) →
    (∃ (T' : dt_Ob), fX2_build_2 fuel (jI x2) P T = some (1, P, T') ∧ TW T' n W (gL g col) ∧ Std n W g col) ∨
    (∃ (T' : dt_Ob) (p' : Nat → Bool), fX2_build_2 fuel (jI x2) P T = some (0, P, T') ∧ TW T' n W (gL g (cS p' col)) ∧ okT n W (gL g (cS p' col)) ∧ (∀ b, p' b = true → 0 ≤ col b) ∧ ¬ Std n W g col) := by
  have k6 := hB.1
  intro d
  induction d with
  | zero =>
    intro fuel x2 T p hd hf hT ho hp hs
    obtain ⟨f, rfl⟩ : ∃ f, fuel = f + 1 := ⟨fuel - 1, by omega⟩
    left
    have e : gL g (cS p col) = gL g col := gL_cg g _ _ (fun b => by
      by_cases z : p b = true
      · exact cS_t _ _ _ z
      · have q : ¬ 0 ≤ col b := fun h0 => z ((hp b).mpr ⟨h0, by have := hL.2.2.2 b h0; omega⟩)
        have := (hL.1 b).1
        rw [cS_f _ _ _ z]; omega)
    rw [e] at hT ho
    refine ⟨T, ?_, hT, ho, fun b _ h0 => hs b ((hp b).mpr ⟨h0, by have := hL.2.2.2 b h0; omega⟩)⟩
    rw [fX2_build_2, hP.1, if_pos (by rw [jI_le _ _ (by omega) (by omega) (by omega) (by omega)]; omega)]
  | succ d ih =>
    intro fuel x2 T p hd hf hT ho hp hs
    obtain ⟨f, rfl⟩ : ∃ f, fuel = f + 1 := ⟨fuel - 1, by omega⟩
    have top : fX2_build_2 (f + 1) (jI x2) P T = fX2_build_12 (fX2_build_2 f) dt_F (jI x2) (jI ((0 : Nat) : Int)) P T := by
      rw [fX2_build_2, hP.1, if_neg (by rw [jI_le _ _ (by omega) (by omega) (by omega) (by omega)]; omega)]
      rfl
    rw [top]
    rcases cl_build12 hY hB hL hP (fX2_build_2 f) x2 (by omega) k dt_F 0 T p (by omega) (by unfold dt_F; omega) hT ho (fun b => by
      rw [hp b]
      constructor
      · rintro ⟨h0, h1⟩; exact ⟨h0, Or.inl h1⟩
      · rintro ⟨h0, h1 | ⟨_, j, j1, _⟩⟩
        · exact ⟨h0, h1⟩
        · omega) hs with ⟨T', p', a1, a2, a3, a4, a5⟩ | ⟨T', p', a1, a2, a3, a4, a5⟩
    · rw [a1]
      exact ih f (x2 + 1) T' p' (by omega) (by omega) a2 a3 a4 a5
    · right
      rw [a1]
      exact ⟨T', p', rfl, a2, a3, a4, a5⟩
/-- all lifted again -/
theorem cl_lift (hY : YD n W g) (hB : BS n k bs) {P : dt_Ob} (hP : FP P k bs g col k) (v : Int32) : ∀ (d fuel x3 : Nat) (T : dt_Ob) (p : Nat → Bool), x3 + d = k → d < fuel → TW T n W (gL g (cS p col)) → okD n W (gL g (cS p col)) → (∀ b, p b = true → 0 ≤ col b ∧ ∃ j, x3 ≤ j ∧ j < k ∧ bs j = b) → ∃ T', fX2_count_30 fuel v (jI x3) P T = (if v = 0 then (some (P, T')) else (fX2_count_77 dt_F (0 : Int32) (dt_set P 7 0 ((P 7 0) + (1 : Int32))) T')) ∧ TW T' n W g := by
  have k6 := hB.1
  have hy := hY.2
  intro d
  induction d with
  | zero =>
    intro fuel x3 T p hd hf hT ho hp
    obtain ⟨f, rfl⟩ : ∃ f, fuel = f + 1 := ⟨fuel - 1, by omega⟩
    have e : gL g (cS p col) = g := gL_none g _ (fun b => by
      by_cases z : p b = true
      · obtain ⟨_, j, j1, j2, _⟩ := hp b z; omega
      · rw [cS_f _ _ _ z]; omega)
    rw [e] at hT
    refine ⟨T, ?_, hT⟩
    rw [fX2_count_30, hP.1, if_pos (by rw [jI_le _ _ (by omega) (by omega) (by omega) (by omega)]; omega)]
  | succ d ih =>
    intro fuel x3 T p hd hf hT ho hp
    obtain ⟨f, rfl⟩ : ∃ f, fuel = f + 1 := ⟨fuel - 1, by omega⟩
    have hx3 : x3 < k := by omega
    have x3ix : dt_ix (jI x3) 6 = some x3 := dt_ix_n _ _ (by omega) (by omega)
    have hbn := hB.2.1 x3 hx3
    have pl := yplace hY (bs x3) hbn
    have n1 : jI x3 + (1 : Int32) = jI ((x3 + 1 : Nat) : Int) := by rw [show (1 : Int32) = jI 1 from rfl, jI_add]; rfl
    have top : fX2_count_30 (f + 1) v (jI x3) P T = ((fX5_lift (jI (bs x3)) (jI (g 4 (bs x3))) T).bind fun q6 => (fX2_count_30 f v (jI ((x3 + 1 : Nat) : Int)) P q6)) := by
      rw [fX2_count_30, hP.1, if_neg (by rw [jI_le _ _ (by omega) (by omega) (by omega) (by omega)]; omega), x3ix, dt_b1, dt_b1, (hP.2.1 x3 hx3).1, (hP.2.1 x3 hx3).2, n1]
    rw [top]
    by_cases z : p (bs x3) = true
    · have c0 := (hp _ z).1
      have e0 : cS p col (bs x3) = col (bs x3) := cS_t _ _ _ z
      obtain ⟨T', t1, t2, _⟩ := fX5_lift_j hT ho (bs x3) hbn (by rw [gL_5 _ _ _ (by rw [e0]; exact c0), e0]; exact c0) (g 4 (bs x3)) pl
      rw [gL_sub g col hy p (bs x3) (by rw [e0]; exact c0)] at t2
      have od := okD_lift ho (bs x3) (g 4 (bs x3)) pl
      rw [gL_sub g col hy p (bs x3) (by rw [e0]; exact c0)] at od
      rw [t1, dt_b1]
      refine ih f (x3 + 1) T' _ (by omega) (by omega) t2 od (fun b q => ?_)
      have q1 : p b = true ∧ b ≠ bs x3 := by simpa using q
      obtain ⟨h0, j, j1, j2, j3⟩ := hp b q1.1
      refine ⟨h0, j, ?_, j2, j3⟩
      by_cases ej : j = x3
      · subst ej; exact absurd j3.symm q1.2
      · omega
    · have nl : fX5_lift (jI (bs x3)) (jI (g 4 (bs x3))) T = some T := by
        unfold fX5_lift fX5_isInTower
        have kn := fX5_isKnown_j hT.2.1 ho.1 (bs x3) (by omega) (by have := ho.1; omega)
        have bx : dt_ix (jI (bs x3)) 20 = some (bs x3) := dt_ix_n _ _ (by have := ho.1; omega) (by omega)
        have e6 : T 6 (bs x3) = jI (g 4 (bs x3)) := by
          have := hT.2.2.1 4 (by omega) (bs x3) hbn
          rw [gL_y _ _ _ _ (by rw [cS_f _ _ _ z]; omega)] at this
          exact this
        have ne : ¬ jI (g 4 (bs x3)) = (-1 : Int32) := by
          rw [show (-1 : Int32) = jI (-1) from rfl, jI_eq _ _ (by omega) (by omega) (by omega) (by omega)]; omega
        rw [kn, if_pos (by omega), dt_b1, if_neg n10, bx, dt_b1, e6, if_neg ne, dt_b1, if_pos rfl]
      rw [nl, dt_b1]
      refine ih f (x3 + 1) T p (by omega) (by omega) hT ho (fun b q => ?_)
      obtain ⟨h0, j, j1, j2, j3⟩ := hp b q
      refine ⟨h0, j, ?_, j2, j3⟩
      by_cases ej : j = x3
      · subst ej; subst j3; exact absurd q z
      · omega
/-- the first one is kept -/
theorem cl_save (hB : BS n k bs) (hn : n ≤ 20) (T : dt_Ob) : ∀ (d fuel x3 : Nat) (P : dt_Ob), x3 + d = k → d < fuel → FP P k bs g col k → ∃ P', fX2_count_77 fuel (jI x3) P T = some (P', T) ∧ (∀ j, j ≠ 4 → j ≠ 5 → P' j = P j) ∧ (P 7 0 ≠ 1 → P' = P) ∧ (P 7 0 = 1 → (∀ i, x3 ≤ i → i < k → P' 4 (bs i) = jI (col (bs i)) ∧ P' 5 (bs i) = jI (lv g (bs i) (col (bs i)))) ∧ (∀ i, i < x3 → P' 4 (bs i) = P 4 (bs i) ∧ P' 5 (bs i) = P 5 (bs i))) := by
  have k6 := hB.1
  intro d
  induction d with
  | zero =>
    intro fuel x3 P hd hf hP
    obtain ⟨f, rfl⟩ : ∃ f, fuel = f + 1 := ⟨fuel - 1, by omega⟩
    refine ⟨P, ?_, fun _ _ _ => rfl, fun _ => rfl, fun _ => ⟨fun i h1 h2 => by omega, fun i _ => ⟨rfl, rfl⟩⟩⟩
    rw [fX2_count_77, hP.1, if_pos (by rw [jI_le _ _ (by omega) (by omega) (by omega) (by omega)]; omega)]
  | succ d ih =>
    intro fuel x3 P hd hf hP
    obtain ⟨f, rfl⟩ : ∃ f, fuel = f + 1 := ⟨fuel - 1, by omega⟩
    have hx3 : x3 < k := by omega
    have x3ix : dt_ix (jI x3) 6 = some x3 := dt_ix_n _ _ (by omega) (by omega)
    have hbn := hB.2.1 x3 hx3
    have bx : dt_ix (jI (bs x3)) 20 = some (bs x3) := dt_ix_n _ _ (by omega) (by omega)
    have n1 : jI x3 + (1 : Int32) = jI ((x3 + 1 : Nat) : Int) := by rw [show (1 : Int32) = jI 1 from rfl, jI_add]; rfl
    by_cases z : P 7 0 = 1
    · have hP1e : ∃ P1, P1 = dt_set (dt_set P 4 (bs x3) (P 1 x3)) 5 (bs x3) (P 2 x3) := ⟨_, rfl⟩
      obtain ⟨P1, eP1⟩ := hP1e
      have o1 : ∀ j, j ≠ 4 → j ≠ 5 → P1 j = P j := fun j h4 h5 => by rw [eP1, dt_set_n _ _ _ _ _ h5, dt_set_n _ _ _ _ _ h4]
      have o4 : P1 4 = upd (P 4) (bs x3) (P 1 x3) := by rw [eP1, dt_set_n _ _ _ _ _ (by omega), dt_set_s]
      have o5 : P1 5 = upd (P 5) (bs x3) (P 2 x3) := by rw [eP1, dt_set_s, dt_set_n _ _ _ _ _ (by omega)]
      have hP1 : FP P1 k bs g col k := by
        refine ⟨by rw [o1 6 (by omega) (by omega)]; exact hP.1, fun i hi' => ?_, fun i hi' => ?_⟩
        · rw [o1 0 (by omega) (by omega), o1 3 (by omega) (by omega)]; exact hP.2.1 i hi'
        · rw [o1 1 (by omega) (by omega), o1 2 (by omega) (by omega)]; exact hP.2.2 i hi'
      obtain ⟨P', a1, a2, a3, a4⟩ := ih f (x3 + 1) P1 (by omega) (by omega) hP1
      have z1 : P1 7 0 = 1 := by rw [o1 7 (by omega) (by omega)]; exact z
      obtain ⟨b1, b2⟩ := a4 z1
      have hpe := hP.2.2 x3 hx3
      refine ⟨P', ?_, fun j h4 h5 => by rw [a2 j h4 h5, o1 j h4 h5], fun q => absurd z q, fun _ => ⟨fun i h1 h2 => ?_, fun i h1 => ?_⟩⟩
      · rw [fX2_count_77, hP.1, if_neg (by rw [jI_le _ _ (by omega) (by omega) (by omega) (by omega)]; omega), if_pos z, x3ix, dt_b1, dt_b1, (hP.2.1 x3 hx3).1, bx, dt_b1, dt_b1, dt_b1, (hP.2.1 x3 hx3).1, bx, dt_b1, n1, ← eP1]
        exact a1
      · by_cases e : i = x3
        · subst e
          obtain ⟨c1, c2⟩ := b2 i (by omega)
          rw [c1, c2, o4, o5, upd_s, upd_s]
          exact hpe
        · exact b1 i (by omega) h2
      · obtain ⟨c1, c2⟩ := b2 i (by omega)
        have ne : bs i ≠ bs x3 := fun q => by have := hB.2.2 i x3 (by omega) hx3 q; omega
        rw [c1, c2, o4, o5, upd_n _ _ _ _ ne, upd_n _ _ _ _ ne]
        exact ⟨rfl, rfl⟩
    · refine ⟨P, ?_, fun _ _ _ => rfl, fun _ => rfl, fun q => absurd q z⟩
      rw [fX2_count_77, hP.1, if_neg (by rw [jI_le _ _ (by omega) (by omega) (by omega) (by omega)]; omega), if_neg z]
theorem cl_leaf (hY : YD n W g) (hB : BS n k bs) (hL : LF n W g k bs col) {P T : dt_Ob} (hP : FP P k bs g col k) (hT : TW T n W g) : ∃ P' T', fX2_count P T = some (P', T') ∧ TW T' n W g ∧ (¬ Good n W g col → P' = P) ∧ (Good n W g col → P' 7 0 = P 7 0 + 1 ∧ (∀ j, j ≠ 4 → j ≠ 5 → j ≠ 7 → P' j = P j) ∧ (P 7 0 + 1 ≠ 1 → P' 4 = P 4 ∧ P' 5 = P 5) ∧ (P 7 0 + 1 = 1 → ∀ i, i < k → P' 4 (bs i) = jI (col (bs i)) ∧ P' 5 (bs i) = jI (lv g (bs i) (col (bs i))))) := by
  have hn := hY.1.1
  have e0 : gL g (cS (fun _ => false) col) = g := gL_none g _ (fun b => by rw [cS_f _ _ _ (by simp)]; omega)
  have one : ∀ T', ∃ P', fX2_count_77 dt_F (0 : Int32) (dt_set P 7 0 ((P 7 0) + (1 : Int32))) T' = some (P', T') ∧ P' 7 0 = P 7 0 + 1 ∧ (∀ j, j ≠ 4 → j ≠ 5 → j ≠ 7 → P' j = P j) ∧ (P 7 0 + 1 ≠ 1 → P' 4 = P 4 ∧ P' 5 = P 5) ∧ (P 7 0 + 1 = 1 → ∀ i, i < k → P' 4 (bs i) = jI (col (bs i)) ∧ P' 5 (bs i) = jI (lv g (bs i) (col (bs i)))) := by
    intro T'
    have o : ∀ j, j ≠ 7 → (dt_set P 7 0 ((P 7 0) + (1 : Int32))) j = P j := fun j hj => dt_set_n _ _ _ _ _ hj
    obtain ⟨P', a1, a2, a3, a4⟩ := cl_save (g := g) (col := col) hB hn T' k dt_F 0 (dt_set P 7 0 ((P 7 0) + (1 : Int32))) (by omega) (by have := hB.1; unfold dt_F; omega) ⟨by rw [o 6 (by omega)]; exact hP.1, fun i hi' => by rw [o 0 (by omega), o 3 (by omega)]; exact hP.2.1 i hi', fun i hi' => by rw [o 1 (by omega), o 2 (by omega)]; exact hP.2.2 i hi'⟩
    rw [dt_set_at] at a3 a4
    refine ⟨P', a1, ?_, fun j h4 h5 h7 => by rw [a2 j h4 h5, o j h7], fun q => ?_, fun q i hi' => (a4 q).1 i (by omega) hi'⟩
    · rw [a2 7 (by omega) (by omega)]; exact dt_set_at _ _ _ _
    · rw [a3 q, o 4 (by omega), o 5 (by omega)]; exact ⟨rfl, rfl⟩
  unfold fX2_count fX2_build
  have bd := cl_build2 hY hB hL hP k dt_F 0 T (fun _ => false) (by omega) (by have := hB.1; unfold dt_F; omega) (by rw [e0]; exact hT) (by rw [e0]; exact hY.1) (fun b => ⟨fun q => by simp at q, fun ⟨h0, h1⟩ => by have := (hL.1 b).2 h0; unfold lv at h1; omega⟩) (fun b q => by simp at q)
  have z0 : jI ((0 : Nat) : Int) = (0 : Int32) := rfl
  rw [z0] at bd
  rcases bd with ⟨T1, a1, a2, a3⟩ | ⟨T1, p', a1, a2, a3, a4, a5⟩
  · rw [a1, dt_b1]
    dsimp only
    rw [if_neg n10]
    have od := a3.1.D
    obtain ⟨T2, b1, b2, b3⟩ := fX5_weigh_j a2 od
    have t2 : TW T2 n W (gL g col) := ⟨by rw [b2 0 (by omega)]; exact a2.1, by rw [b2 1 (by omega)]; exact a2.2.1, fun f hf b hb => by rw [b2 (2 + f) (by omega)]; exact a2.2.2.1 f hf b hb, fun c hc => by rw [b2 9 (by omega)]; exact a2.2.2.2.1 c hc, fun c l hc hl => by rw [b2 10 (by omega)]; exact a2.2.2.2.2 c l hc hl⟩
    have oj := fX5_overloaded_j t2 od (lde n (gL g col)) b3 (fun b hb => lde_rng od b hb)
    have orr := ov_rng (lde n (gL g col)) (gL g col) n
    rw [b1, dt_b1, oj, dt_b1]
    have em : (jI (ov (lde n (gL g col)) (gL g col) n) = (-1 : Int32)) = (ov (lde n (gL g col)) (gL g col) n = -1) := by
      rw [show (-1 : Int32) = jI (-1) from rfl]; exact jI_eq _ _ (by omega) (by omega) (by omega) (by omega)
    have eall : gL g (cS (fun _ => true) col) = gL g col := gL_cg g _ _ (fun b => cS_t _ _ _ rfl)
    have lif := fun v => cl_lift hY hB hP v k dt_F 0 T2 (fun b => decide (0 ≤ col b)) (by omega) (by have := hB.1; unfold dt_F; omega)
    have ecol : gL g (cS (fun b => decide (0 ≤ col b)) col) = gL g col := gL_cg g _ _ (fun b => by
      by_cases z : 0 ≤ col b
      · exact cS_t _ _ _ (by simp [z])
      · have := (hL.1 b).1
        rw [cS_f _ _ _ (by simp [z])]; omega)
    rw [ecol] at lif
    have hpp : ∀ b, (decide (0 ≤ col b)) = true → 0 ≤ col b ∧ ∃ j, 0 ≤ j ∧ j < k ∧ bs j = b := fun b q => by
      have h0 : 0 ≤ col b := by simpa using q
      obtain ⟨j, j1, j2⟩ := hL.2.2.1 b h0
      exact ⟨h0, j, by omega, j1, j2⟩
    by_cases z : ov (lde n (gL g col)) (gL g col) n = -1
    · rw [if_pos (by rw [em]; exact z)]
      unfold fX2_count_27 fX2_count_28
      obtain ⟨T3, c1, c2⟩ := lif 1 t2 od hpp
      rw [z0] at c1
      rw [c1, if_neg n10]
      obtain ⟨P', d1, d2, d3, d4, d5⟩ := one T3
      exact ⟨P', T3, d1, c2, fun q => absurd ⟨a3.1, a3.2, z⟩ q, fun _ => ⟨d2, d3, d4, d5⟩⟩
    · rw [if_neg (by rw [em]; exact z)]
      unfold fX2_count_27 fX2_count_28
      obtain ⟨T3, c1, c2⟩ := lif 0 t2 od hpp
      rw [z0] at c1
      rw [c1, if_pos rfl]
      exact ⟨P, T3, rfl, c2, fun _ => rfl, fun q => absurd q.2.2 z⟩
  · rw [a1, dt_b1]
    dsimp only
    rw [if_pos rfl]
    unfold fX2_count_28
    obtain ⟨T3, c1, c2⟩ := cl_lift hY hB hP 0 k dt_F 0 T1 p' (by omega) (by have := hB.1; unfold dt_F; omega) a2 a3.D (fun b q => by
      obtain ⟨j, j1, j2⟩ := hL.2.2.1 b (a4 b q)
      exact ⟨a4 b q, j, by omega, j1, j2⟩)
    rw [z0] at c1
    rw [c1, if_pos rfl]
    exact ⟨P, T3, rfl, c2, fun _ => rfl, fun q => absurd ⟨q.1, q.2.1⟩ a5⟩
end
