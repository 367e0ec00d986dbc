/-! ===== plan: the class's count of what lies bare ===== -/
theorem cell_hi (T : dt_Ob) (c : Int) (h0 : 0 ≤ c) (h1 : c < 8) (l : Int) (hl : 20 ≤ l) (hl' : l < 100) : fX5_cellAt (jI c) (jI l) T = some (-1) := by
  unfold fX5_cellAt
  have a0 : ¬ (jI c < (0 : Int32)) := by rw [show (0 : Int32) = jI 0 from rfl, jI_lt _ _ (by omega) (by omega) (by omega) (by omega)]; omega
  have a1 : ¬ ((8 : Int32) ≤ jI c) := by rw [show (8 : Int32) = jI 8 from rfl, jI_le _ _ (by omega) (by omega) (by omega) (by omega)]; omega
  have a2 : ¬ (jI l < (0 : Int32)) := by rw [show (0 : Int32) = jI 0 from rfl, jI_lt _ _ (by omega) (by omega) (by omega) (by omega)]; omega
  have a3 : ((20 : Int32) ≤ jI l) := by rw [show (20 : Int32) = jI 20 from rfl, jI_le _ _ (by omega) (by omega) (by omega) (by omega)]; omega
  rw [if_neg a0, if_neg a1, if_neg a2, if_pos a3]
  rfl
theorem cell_j {T : dt_Ob} {n : Nat} {W : Int} {g : Nat → Nat → Int} (h : TW T n W g) (ho : okD n W g) (c : Int) (h0 : 0 ≤ c) (h1 : c < 8) (l : Int) (hl : 0 ≤ l) (hl' : l ≤ 20) : fX5_cellAt (jI c) (jI l) T = some (jI (ce g c l n)) := by
  by_cases z : l < 20
  · exact fX5_cellAt_j h c l h0 h1 hl z
  · rw [cell_hi T c h0 h1 l (by omega) (by omega), ce_none g c l n (fun b hb cv e => by have := (ho.2.2.2.1 b hb).2; omega)]
    rfl
theorem cl_bare {T : dt_Ob} {n : Nat} {W : Int} {g : Nat → Nat → Int} (h : TW T n W g) (ho : okD n W g) (b : Nat) (hb : b < n) (hc : 0 ≤ g 5 b) : ∀ (d fuel i : Nat), (i : Int) + d = g 0 b → d < fuel → ((∀ j : Nat, i ≤ j → (j : Int) < g 0 b → ce g (g 5 b + j) (g 6 b + 1) n = -1) → fX5_isBare_2 fuel (jI b) (jI i) T = some 1) ∧ ((∃ j : Nat, i ≤ j ∧ (j : Int) < g 0 b ∧ ce g (g 5 b + j) (g 6 b + 1) n ≠ -1) → fX5_isBare_2 fuel (jI b) (jI i) T = some 0) := by
  have hn := ho.1
  have hW := ho.2.2.1
  have r := (ho.2.2.2.1 b hb).1
  have r6 := (ho.2.2.2.1 b hb).2
  unfold okB at r
  have ib : dt_ix (jI b) 20 = some b := dt_ix_n _ _ (by omega) (by omega)
  have t2 : T 2 b = jI (g 0 b) := h.2.2.1 0 (by omega) b hb
  have t7 : T 7 b = jI (g 5 b) := h.2.2.1 5 (by omega) b hb
  have t8 : T 8 b = jI (g 6 b) := h.2.2.1 6 (by omega) b hb
  intro d
  induction d with
  | zero =>
    intro fuel i hd hf
    obtain ⟨f, rfl⟩ : ∃ f, fuel = f + 1 := ⟨fuel - 1, by omega⟩
    have e : fX5_isBare_2 (f + 1) (jI b) (jI i) T = some 1 := by
      rw [fX5_isBare_2, ib, dt_b1, t2, if_pos (by rw [jI_le _ _ (by omega) (by omega) (by omega) (by omega)]; omega)]
    rw [e]
    exact ⟨fun _ => rfl, fun ⟨j, h1, h2, _⟩ => by omega⟩
  | succ d ih =>
    intro fuel i hd hf
    obtain ⟨f, rfl⟩ : ∃ f, fuel = f + 1 := ⟨fuel - 1, by omega⟩
    obtain ⟨ih1, ih2⟩ := ih f (i + 1) (by omega) (by omega)
    have n1 : jI i + (1 : Int32) = jI ((i + 1 : Nat) : Int) := by rw [show (1 : Int32) = jI 1 from rfl, jI_add]; rfl
    have cj := cell_j h ho (g 5 b + i) (by omega) (by omega) (g 6 b + 1) (by omega) (by omega)
    have cr := ce_rng g (g 5 b + i) (g 6 b + 1) n
    have em : (jI (ce g (g 5 b + i) (g 6 b + 1) n) = (-1 : Int32)) = (ce g (g 5 b + i) (g 6 b + 1) n = -1) := by rw [show (-1 : Int32) = jI (-1) from rfl]; exact jI_eq _ _ (by omega) (by omega) (by omega) (by omega)
    have top : fX5_isBare_2 (f + 1) (jI b) (jI i) T = (if jI (ce g (g 5 b + i) (g 6 b + 1) n) = (-1 : Int32) then fX5_isBare_2 f (jI b) (jI ((i + 1 : Nat) : Int)) T else some 0) := by
      rw [fX5_isBare_2, ib, dt_b1, t2, if_neg (by rw [jI_le _ _ (by omega) (by omega) (by omega) (by omega)]; omega), dt_b1, dt_b1, t7, t8, n1, jI_add, show (1 : Int32) = jI 1 from rfl, jI_add, cj, dt_b1]
    rw [top]
    by_cases z : ce g (g 5 b + i) (g 6 b + 1) n = -1
    · rw [if_pos (by rw [em]; exact z)]
      refine ⟨fun q => ih1 (fun j h1 h2 => q j (by omega) h2), fun ⟨j, h1, h2, h3⟩ => ih2 ⟨j, ?_, h2, h3⟩⟩
      by_cases e : j = i
      · subst e; exact absurd z h3
      · omega
    · rw [if_neg (by rw [em]; exact z)]
      exact ⟨fun q => absurd (q i (by omega) (by omega)) z, fun _ => rfl⟩
theorem bare_ce {n : Nat} {W : Int} {g : Nat → Nat → Int} (ho : okD n W g) (b : Nat) (hb : b < n) (hc : 0 ≤ g 5 b) : bare n g b ↔ ∀ j : Nat, 0 ≤ j → (j : Int) < g 0 b → ce g (g 5 b + j) (g 6 b + 1) n = -1 := by
  have rb := (ho.2.2.2.1 b hb).1
  unfold okB at rb
  constructor
  · intro h j _ hj
    refine ce_none g _ _ n (fun o hon cv e => h o hon ⟨?_, e.symm⟩)
    unfold cov at cv
    unfold ovl
    omega
  · rintro h o hon ⟨ov, e⟩
    have ro := (ho.2.2.2.1 o hon).1
    unfold okB at ro
    unfold ovl at ov
    have q : ∃ q : Int, g 5 o ≤ q ∧ q < g 5 o + g 0 o ∧ g 5 b ≤ q ∧ q < g 5 b + g 0 b := by
      by_cases y : g 5 o ≤ g 5 b
      · exact ⟨g 5 b, by omega, by omega, by omega, by omega⟩
      · exact ⟨g 5 o, by omega, by omega, by omega, by omega⟩
    obtain ⟨q, q1, q2, q3, q4⟩ := q
    have a := h (q - g 5 b).toNat (by omega) (by omega)
    rw [show g 5 b + (((q - g 5 b).toNat : Nat) : Int) = q by omega, ce_some ho q _ o hon ⟨by omega, q1, q2⟩ e.symm] at a
    omega
theorem cl_isBare {T : dt_Ob} {n : Nat} {W : Int} {g : Nat → Nat → Int} (h : TW T n W g) (ho : okD n W g) (b : Nat) (hb : b < n) (hc : 0 ≤ g 5 b) : (bare n g b → fX5_isBare (jI b) T = some 1) ∧ (¬ bare n g b → fX5_isBare (jI b) T = some 0) := by
  have rb := (ho.2.2.2.1 b hb).1
  unfold okB at rb
  obtain ⟨h1, h2⟩ := cl_bare h ho b hb hc (g 0 b).toNat dt_F 0 (by omega) (by unfold dt_F; omega)
  refine ⟨fun q => h1 ((bare_ce ho b hb hc).mp q), fun q => h2 ?_⟩
  apply Classical.byContradiction
  intro w
  refine q ((bare_ce ho b hb hc).mpr (fun j a1 a2 => ?_))
  apply Classical.byContradiction
  intro w2
  exact w ⟨j, a1, a2, w2⟩
theorem cl_longest {T : dt_Ob} {n : Nat} {W : Int} {g : Nat → Nat → Int} (h : TW T n W g) (ho : okD n W g) (P : dt_Ob) : ∀ (d fuel x : Nat) (m : Int), x + d = n → d < fuel → 1 ≤ m → m ≤ 3 → ∃ L : Int, fX3_longestInYard_4 fuel (jI m) (jI x) P T = some (jI L) ∧ m ≤ L ∧ L ≤ 3 ∧ ∀ b, x ≤ b → b < n → g 5 b < 0 → g 0 b ≤ L := by
  have hn := ho.1
  intro d
  induction d with
  | zero =>
    intro fuel x m hd hf m1 m3
    obtain ⟨f, rfl⟩ : ∃ f, fuel = f + 1 := ⟨fuel - 1, by omega⟩
    refine ⟨m, ?_, Int.le_refl _, m3, fun b h1 h2 => by omega⟩
    rw [fX3_longestInYard_4, h.2.1, if_pos (by rw [jI_le _ _ (by omega) (by omega) (by omega) (by omega)]; omega)]
  | succ d ih =>
    intro fuel x m hd hf m1 m3
    obtain ⟨f, rfl⟩ : ∃ f, fuel = f + 1 := ⟨fuel - 1, by omega⟩
    have hx : x < n := by omega
    have r := (ho.2.2.2.1 x hx).1
    unfold okB at r
    have n1 : jI x + (1 : Int32) = jI ((x + 1 : Nat) : Int) := by rw [show (1 : Int32) = jI 1 from rfl, jI_add]; rfl
    have ix : dt_ix (jI x) 20 = some x := dt_ix_n _ _ (by omega) (by omega)
    have t2 : T 2 x = jI (g 0 x) := h.2.2.1 0 (by omega) x hx
    have t6 : T 6 x = jI (g 4 x) := h.2.2.1 4 (by omega) x hx
    have em : (jI (g 4 x) = (-1 : Int32)) = (g 4 x = -1) := by rw [show (-1 : Int32) = jI (-1) from rfl]; exact jI_eq _ _ (by omega) (by omega) (by omega) (by omega)
    have lt : (jI m < jI (g 0 x)) = (m < g 0 x) := jI_lt _ _ (by omega) (by omega) (by omega) (by omega)
    have top : fX3_longestInYard_4 (f + 1) (jI m) (jI x) P T = (if jI (g 4 x) = (-1 : Int32) then fX3_longestInYard_4 f (jI m) (jI ((x + 1 : Nat) : Int)) P T else fX3_longestInYard_4 f (if jI m < jI (g 0 x) then jI (g 0 x) else jI m) (jI ((x + 1 : Nat) : Int)) P T) := by
      rw [fX3_longestInYard_4]
      unfold fX3_longestInYard_33
      rw [h.2.1, if_neg (by rw [jI_le _ _ (by omega) (by omega) (by omega) (by omega)]; omega), ix, dt_b1, dt_b1, t6, t2, n1]
    rw [top]
    by_cases z : g 4 x = -1
    · rw [if_pos (by rw [em]; exact z)]
      obtain ⟨L, a1, a2, a3, a4⟩ := ih f (x + 1) m (by omega) (by omega) m1 m3
      refine ⟨L, a1, a2, a3, fun b h1 h2 h3 => ?_⟩
      by_cases e : b = x
      · subst e; omega
      · exact a4 b (by omega) h2 h3
    · rw [if_neg (by rw [em]; exact z)]
      by_cases y : m < g 0 x
      · rw [if_pos (show jI m < jI (g 0 x) by rw [lt]; exact y)]
        obtain ⟨L, a1, a2, a3, a4⟩ := ih f (x + 1) (g 0 x) (by omega) (by omega) (by omega) (by omega)
        refine ⟨L, a1, by omega, a3, fun b h1 h2 h3 => ?_⟩
        by_cases e : b = x
        · subst e; exact a2
        · exact a4 b (by omega) h2 h3
      · rw [if_neg (show ¬ jI m < jI (g 0 x) by rw [lt]; exact y)]
        obtain ⟨L, a1, a2, a3, a4⟩ := ih f (x + 1) m (by omega) (by omega) m1 m3
        refine ⟨L, a1, a2, a3, fun b h1 h2 h3 => ?_⟩
        by_cases e : b = x
        · subst e; omega
        · exact a4 b (by omega) h2 h3
theorem cl_count {T P : dt_Ob} {n : Nat} {W : Int} {g : Nat → Nat → Int} (h : TW T n W g) (ho : okD n W g) (pre : List Cry) (hl : pre.length ≤ 5) (hP : CPr P pre) (hin : ∀ s, s ∈ pre → s.1 < n ∧ 0 ≤ g 5 s.1) (x3 : Int32) : ∀ (p2 p1 : List Cry) (fuel : Nat), pre = p1 ++ p2 → p2.length < fuel → fX3_isHopeful_28 fuel (jI pre.length) x3 (jI (cp (fun s => bare n g s.1) p1 : Nat)) (jI p1.length) P T = fX3_isHopeful_63 x3 (jI (cp (fun s => bare n g s.1) pre : Nat)) P T := by
  have hn := ho.1
  intro p2
  induction p2 with
  | nil =>
    intro p1 fuel ep hf
    obtain ⟨f, rfl⟩ : ∃ f, fuel = f + 1 := ⟨fuel - 1, by omega⟩
    rw [List.append_nil] at ep
    rw [ep, fX3_isHopeful_28, if_pos (by rw [← ep, jI_le _ _ (by omega) (by omega) (by omega) (by omega)]; omega)]
  | cons s r ih =>
    intro p1 fuel ep hf
    obtain ⟨f, rfl⟩ : ∃ f, fuel = f + 1 := ⟨fuel - 1, by omega⟩
    have ll : pre.length = p1.length + (r.length + 1) := by rw [ep, List.length_append, List.length_cons]
    have fr : r.length < f := by rw [List.length_cons] at hf; omega
    have sm : s ∈ pre := by rw [ep]; simp
    obtain ⟨sn, s0⟩ := hin s sm
    have gs : pre[p1.length]? = some s := by rw [ep, List.getElem?_append_right (Nat.le_refl _), Nat.sub_self]; rfl
    have n1 : jI p1.length + (1 : Int32) = jI ((p1 ++ [s]).length : Nat) := by rw [show (1 : Int32) = jI 1 from rfl, jI_add, List.length_append]; rfl
    have ix : dt_ix (jI p1.length) 5 = some p1.length := dt_ix_n _ _ (by omega) (by omega)
    obtain ⟨b1, b2⟩ := cl_isBare h ho s.1 sn s0
    have e' : pre = (p1 ++ [s]) ++ r := by rw [ep, List.append_assoc]; rfl
    have i1 := ih (p1 ++ [s]) f e' fr
    have ca : cp (fun s => bare n g s.1) (p1 ++ [s]) = cp (fun s => bare n g s.1) p1 + cp (fun s => bare n g s.1) [s] := cp_app _ _ _
    rw [fX3_isHopeful_28, if_neg (by rw [jI_le _ _ (by omega) (by omega) (by omega) (by omega)]; omega), if_neg (by rw [show (5 : Int32) = jI 5 from rfl, jI_le _ _ (by omega) (by omega) (by omega) (by omega)]; omega), ix, dt_b1, (hP _ s gs).1]
    unfold fX3_isHopeful_57
    rw [n1]
    by_cases z : bare n g s.1
    · have c1 : cp (fun s => bare n g s.1) [s] = 1 := by
        show (@ite _ (bare n g s.1) (Classical.propDecidable _) 1 0) + 0 = 1
        rw [if_pos z]
      rw [ca, c1] at i1
      rw [b1 z, dt_b1, if_neg n10, show (1 : Int32) = jI 1 from rfl, jI_add]
      exact i1
    · have c1 : cp (fun s => bare n g s.1) [s] = 0 := by
        show (@ite _ (bare n g s.1) (Classical.propDecidable _) 1 0) + 0 = 0
        rw [if_neg z]
      rw [ca, c1, Nat.add_zero] at i1
      rw [b2 z, dt_b1, if_pos rfl]
      exact i1
