/-! ===== which: the reference judges a leaf ===== -/
def CN (n : Nat) (G : Nat → Nat → Int) (x : Nat) : Prop := (∀ o, o < n → o ≠ x → ovl G x o → G 6 x ≠ G 6 o) ∧ (G 6 x = 0 ∨ ∃ o, o < n ∧ ovl G x o ∧ G 6 o + 1 = G 6 x)
section
variable {n : Nat} {W : Int} {G : Nat → Nat → Int}
/-- ranges -/
def RG (n : Nat) (G : Nat → Nat → Int) : Prop := n ≤ 20 ∧ ∀ b, b < n → 1 ≤ G 0 b ∧ G 0 b ≤ 3 ∧ -1 ≤ G 5 b ∧ G 5 b ≤ 8 ∧ (0 ≤ G 5 b → 0 ≤ G 6 b ∧ G 6 b ≤ 100)
theorem mo_29 {T : dt_Ob} (h : MT T n W G) (hr : RG n G) (r2 : Int32 → dt_Ob → Option (Int32 × dt_Ob)) (x : Nat) (hx : x < n) (hc : 0 ≤ G 5 x) : ∀ (d fuel y : Nat) (v : Int), y + d = n → d < fuel → (∀ o, o < y → o ≠ x → ovl G x o → G 6 x ≠ G 6 o) → (0 ≤ v ∧ v ≤ 101) → (∀ o, o < y → o ≠ x → ovl G x o → G 6 o < G 6 x → G 6 o + 1 ≤ v) → (v = 0 ∨ ∃ o, o < y ∧ ovl G x o ∧ G 6 o < G 6 x ∧ v = G 6 o + 1) → (fX10_isTower_29 r2 fuel (jI x) (jI v) (jI y) T = r2 (jI ((x + 1 : Nat) : Int)) T ∧ CN n G x) ∨ (fX10_isTower_29 r2 fuel (jI x) (jI v) (jI y) T = some (0, T) ∧ ¬ CN n G x) := by
  have hn := hr.1
  have rx := hr.2 x hx
  have lx := rx.2.2.2.2 hc
  have x1 : dt_ix (1 : Int32) 1225 = some 1 := rfl
  have e01 := h.2.1
  have ixx : dt_ix (jI x) 20 = some x := dt_ix_n _ _ (by omega) (by omega)
  have e8x := h.2.2.2.2 x hx hc
  have e7x := h.2.2.2.1 x hx
  have o0 : fX10_own (jI x) (0 : Int32) T = some (jI (G 0 x)) := own_0 h hn x hx
  intro d
  induction d with
  | zero =>
    intro fuel y v hd hf h1 h2 h3 h4
    obtain ⟨f, rfl⟩ : ∃ f, fuel = f + 1 := ⟨fuel - 1, by omega⟩
    have ey : y = n := by omega
    subst ey
    have ev : (jI v = jI (G 6 x)) = (v = G 6 x) := jI_eq _ _ (by omega) (by omega) (by omega) (by omega)
    have top : fX10_isTower_29 r2 (f + 1) (jI x) (jI v) (jI y) T = (if jI v = jI (G 6 x) then r2 (jI x + 1) T else some (0, T)) := by
      rw [fX10_isTower_29, x1, dt_b1, e01, if_pos (by rw [jI_le _ _ (by omega) (by omega) (by omega) (by omega)]; omega), ixx, dt_b1, e8x]
      rfl
    rw [top]
    by_cases z : v = G 6 x
    · left
      rw [if_pos (by rw [ev]; exact z), show (1 : Int32) = jI 1 from rfl, jI_add]
      refine ⟨rfl, h1, ?_⟩
      rcases h4 with q | ⟨o, q1, q2, q3, q4⟩
      · left; omega
      · right; exact ⟨o, q1, q2, by omega⟩
    · right
      rw [if_neg (by rw [ev]; exact z)]
      refine ⟨rfl, ?_⟩
      rintro ⟨_, c2⟩
      rcases c2 with q | ⟨o, q1, q2, q3⟩
      · rcases h4 with w | ⟨o, w1, w2, w3, w4⟩
        · omega
        · have := (hr.2 o w1).2.2.2.2 w2.2.1
          omega
      · have ne : o ≠ x := by intro w; subst w; omega
        have a := h3 o q1 ne q2 (by omega)
        have lo := (hr.2 o q1).2.2.2.2 q2.2.1
        rcases h4 with w | ⟨o', w1, w2, w3, w4⟩
        · omega
        · omega
  | succ d ih =>
    intro fuel y v hd hf h1 h2 h3 h4
    obtain ⟨f, rfl⟩ : ∃ f, fuel = f + 1 := ⟨fuel - 1, by omega⟩
    have hy : y < n := by omega
    have ry := hr.2 y hy
    have n1 : jI y + (1 : Int32) = jI ((y + 1 : Nat) : Int) := by rw [show (1 : Int32) = jI 1 from rfl, jI_add]; rfl
    have ixy : dt_ix (jI y) 20 = some y := dt_ix_n _ _ (by omega) (by omega)
    have e7y := h.2.2.2.1 y hy
    have oy : fX10_own (jI y) (0 : Int32) T = some (jI (G 0 y)) := own_0 h hn y hy
    have start : fX10_isTower_29 r2 (f + 1) (jI x) (jI v) (jI y) T = (if jI y = jI x then (fX10_isTower_29 r2 f (jI x) (jI v) (jI ((y + 1 : Nat) : Int)) T) else (if jI (G 5 y) = (-1 : Int32) then (fX10_isTower_29 r2 f (jI x) (jI v) (jI ((y + 1 : Nat) : Int)) T) else (if (jI (G 5 x) + jI (G 0 x) - (1 : Int32)) < jI (G 5 y) then (fX10_isTower_29 r2 f (jI x) (jI v) (jI ((y + 1 : Nat) : Int)) T) else (if jI (G 5 x) ≤ (jI (G 5 y) + jI (G 0 y) - (1 : Int32)) then (if T 8 y = jI (G 6 x) then (some ((0 : Int32), T)) else (if jI (G 6 x) ≤ T 8 y then (fX10_isTower_29 r2 f (jI x) (jI v) (jI ((y + 1 : Nat) : Int)) T) else ((fX10_most (jI v) (T 8 y + (1 : Int32))).bind fun q18 => (fX10_isTower_29 r2 f (jI x) q18 (jI ((y + 1 : Nat) : Int)) T)))) else (fX10_isTower_29 r2 f (jI x) (jI v) (jI ((y + 1 : Nat) : Int)) T))))) := by
      rw [fX10_isTower_29]
      unfold fX10_isTower_150
      simp only [x1, dt_b1, e01, ixy, ixx, o0, oy, e7x, e7y, e8x, n1]
      rw [if_neg (show ¬ jI n ≤ jI y by rw [jI_le _ _ (by omega) (by omega) (by omega) (by omega)]; omega)]
    rw [start]
    -- nothing to learn from y
    have skip : (y = x ∨ ¬ ovl G x y) → (fX10_isTower_29 r2 f (jI x) (jI v) (jI ((y + 1 : Nat) : Int)) T = r2 (jI ((x + 1 : Nat) : Int)) T ∧ CN n G x) ∨ (fX10_isTower_29 r2 f (jI x) (jI v) (jI ((y + 1 : Nat) : Int)) T = some (0, T) ∧ ¬ CN n G x) := by
      intro hs
      refine ih f (y + 1) v (by omega) (by omega) (fun o q1 q2 q3 => ?_) h2 (fun o q1 q2 q3 q4 => ?_) ?_
      · by_cases e : o = y
        · subst e; rcases hs with w | w
          · exact absurd w q2
          · exact absurd q3 w
        · exact h1 o (by omega) q2 q3
      · by_cases e : o = y
        · subst e; rcases hs with w | w
          · exact absurd w q2
          · exact absurd q3 w
        · exact h3 o (by omega) q2 q3 q4
      · rcases h4 with q | ⟨o, q1, q2, q3, q4⟩
        · exact Or.inl q
        · exact Or.inr ⟨o, by omega, q2, q3, q4⟩
    have exy : (jI y = jI x) = ((y : Int) = x) := jI_eq _ _ (by omega) (by omega) (by omega) (by omega)
    by_cases z0 : y = x
    · rw [if_pos (by rw [exy]; omega)]
      exact skip (Or.inl z0)
    · rw [if_neg (by rw [exy]; omega)]
      have em : (jI (G 5 y) = (-1 : Int32)) = (G 5 y = -1) := by rw [show (-1 : Int32) = jI (-1) from rfl]; exact jI_eq _ _ (by omega) (by omega) (by omega) (by omega)
      by_cases z1 : G 5 y = -1
      · rw [if_pos (by rw [em]; exact z1)]
        exact skip (Or.inr (fun q => by have := q.2.1; omega))
      · rw [if_neg (by rw [em]; exact z1)]
        have ly := ry.2.2.2.2 (by omega)
        have e8y := h.2.2.2.2 y hy (by omega)
        have c1 : (jI (G 5 x) + jI (G 0 x) - (1 : Int32) < jI (G 5 y)) = (G 5 x + G 0 x - 1 < G 5 y) := by rw [show (1 : Int32) = jI 1 from rfl, jI_add, jI_sub]; exact jI_lt _ _ (by omega) (by omega) (by omega) (by omega)
        have c2 : (jI (G 5 x) ≤ jI (G 5 y) + jI (G 0 y) - (1 : Int32)) = (G 5 x ≤ G 5 y + G 0 y - 1) := by rw [show (1 : Int32) = jI 1 from rfl, jI_add, jI_sub]; exact jI_le _ _ (by omega) (by omega) (by omega) (by omega)
        by_cases z2 : G 5 x + G 0 x - 1 < G 5 y
        · rw [if_pos (by rw [c1]; exact z2)]
          exact skip (Or.inr (fun q => by have := q.2.2.1; omega))
        · rw [if_neg (by rw [c1]; exact z2)]
          by_cases z3 : G 5 x ≤ G 5 y + G 0 y - 1
          · have ov : ovl G x y := ⟨hc, by omega, by omega, by omega⟩
            rw [if_pos (by rw [c2]; exact z3)]
            have c3 : (T 8 y = jI (G 6 x)) = (G 6 y = G 6 x) := by rw [e8y]; exact jI_eq _ _ (by omega) (by omega) (by omega) (by omega)
            have c4 : (jI (G 6 x) ≤ T 8 y) = (G 6 x ≤ G 6 y) := by rw [e8y]; exact jI_le _ _ (by omega) (by omega) (by omega) (by omega)
            by_cases z4 : G 6 y = G 6 x
            · right
              rw [if_pos (by rw [c3]; exact z4)]
              exact ⟨rfl, fun q => q.1 y hy z0 ov z4.symm⟩
            · rw [if_neg (by rw [c3]; exact z4)]
              by_cases z5 : G 6 x ≤ G 6 y
              · rw [if_pos (by rw [c4]; exact z5)]
                refine ih f (y + 1) v (by omega) (by omega) (fun o q1 q2 q3 => ?_) h2 (fun o q1 q2 q3 q4 => ?_) ?_
                · by_cases e : o = y
                  · subst e; omega
                  · exact h1 o (by omega) q2 q3
                · by_cases e : o = y
                  · subst e; omega
                  · exact h3 o (by omega) q2 q3 q4
                · rcases h4 with q | ⟨o, q1, q2, q3, q4⟩
                  · exact Or.inl q
                  · exact Or.inr ⟨o, by omega, q2, q3, q4⟩
              · have mo : fX10_most (jI v) (T 8 y + (1 : Int32)) = some (jI (max v (G 6 y + 1))) := by
                  rw [e8y, show (1 : Int32) = jI 1 from rfl, jI_add]; exact fX10_most_j _ _ (by omega) (by omega) (by omega) (by omega)
                rw [if_neg (by rw [c4]; exact z5), mo, dt_b1]
                refine ih f (y + 1) (max v (G 6 y + 1)) (by omega) (by omega) (fun o q1 q2 q3 => ?_) (by omega) (fun o q1 q2 q3 q4 => ?_) ?_
                · by_cases e : o = y
                  · subst e; omega
                  · exact h1 o (by omega) q2 q3
                · by_cases e : o = y
                  · subst e; omega
                  · have := h3 o (by omega) q2 q3 q4; omega
                · by_cases w : v ≤ G 6 y + 1
                  · exact Or.inr ⟨y, by omega, ov, by omega, by omega⟩
                  · rcases h4 with q | ⟨o, q1, q2, q3, q4⟩
                    · omega
                    · exact Or.inr ⟨o, by omega, q2, q3, by omega⟩
          · rw [if_neg (by rw [c2]; exact z3)]
            exact skip (Or.inr (fun q => by have := q.2.2.2; omega))
theorem mo_200 {T : dt_Ob} (h : MT T n W G) (ho : okD n W G) (hg : MG T n G) : ∀ (d fuel y : Nat), y + d = n → d < fuel → ((∀ b, y ≤ b → b < n → 0 ≤ G 5 b → sth n G b) → fX10_isTower_200 fuel 1 (jI y) T = some (1, T)) ∧ ((∃ b, y ≤ b ∧ b < n ∧ 0 ≤ G 5 b ∧ ¬ sth n G b) → fX10_isTower_200 fuel 1 (jI y) T = some (0, T)) := by
  have hn := ho.1
  have x1 : dt_ix (1 : Int32) 1225 = some 1 := rfl
  intro d
  induction d with
  | zero =>
    intro fuel y hd hf
    obtain ⟨f, rfl⟩ : ∃ f, fuel = f + 1 := ⟨fuel - 1, by omega⟩
    have e : fX10_isTower_200 (f + 1) 1 (jI y) T = some (1, T) := by
      rw [fX10_isTower_200, x1, dt_b1, h.2.1, if_pos (by rw [jI_le _ _ (by omega) (by omega) (by omega) (by omega)]; omega), if_pos (Or.inr rfl)]
    rw [e]
    exact ⟨fun _ => rfl, fun ⟨b, h1, h2, _⟩ => by omega⟩
  | succ d ih =>
    intro fuel y hd hf
    obtain ⟨f, rfl⟩ : ∃ f, fuel = f + 1 := ⟨fuel - 1, by omega⟩
    have hy : y < n := by omega
    have rb := (ho.2.2.2.1 y hy).1
    have hW := ho.2.2.1
    unfold okB at rb
    have n1 : jI y + (1 : Int32) = jI ((y + 1 : Nat) : Int) := by rw [show (1 : Int32) = jI 1 from rfl, jI_add]; rfl
    have ixy : dt_ix (jI y) 20 = some y := dt_ix_n _ _ (by omega) (by omega)
    have e7y := h.2.2.2.1 y hy
    obtain ⟨ih1, ih2⟩ := ih f (y + 1) (by omega) (by omega)
    have top : fX10_isTower_200 (f + 1) 1 (jI y) T = (if jI (G 5 y) = (-1 : Int32) then (fX10_isTower_200 f 1 (jI ((y + 1 : Nat) : Int)) T) else ((fX10_standsThere (jI y) T).bind fun q23 => (if q23 = 0 then (fX10_isTower_200 f 0 (jI ((y + 1 : Nat) : Int)) T) else (fX10_isTower_200 f 1 (jI ((y + 1 : Nat) : Int)) T)))) := by
      rw [fX10_isTower_200]
      unfold fX10_isTower_232 fX10_isTower_237
      rw [x1, dt_b1, h.2.1, if_neg (by rw [jI_le _ _ (by omega) (by omega) (by omega) (by omega)]; omega), if_neg n10, ixy, dt_b1, e7y, n1]
    have em : (jI (G 5 y) = (-1 : Int32)) = (G 5 y = -1) := by rw [show (-1 : Int32) = jI (-1) from rfl]; exact jI_eq _ _ (by omega) (by omega) (by omega) (by omega)
    have stop : fX10_isTower_200 f 0 (jI ((y + 1 : Nat) : Int)) T = some (0, T) := by
      obtain ⟨f', rfl⟩ : ∃ f', f = f' + 1 := ⟨f - 1, by omega⟩
      rw [fX10_isTower_200, x1, dt_b1, if_pos rfl, if_pos (Or.inl rfl)]
      split <;> rfl
    rw [top]
    by_cases z : G 5 y = -1
    · rw [if_pos (by rw [em]; exact z)]
      refine ⟨fun q => ih1 (fun b q1 q2 q3 => q b (by omega) q2 q3), fun ⟨b, q1, q2, q3, q4⟩ => ih2 ⟨b, ?_, q2, q3, q4⟩⟩
      by_cases e : b = y
      · subst e; omega
      · omega
    · rw [if_neg (by rw [em]; exact z), fX10_standsThere_j h ho hg y hy (by omega), dt_b1]
      by_cases w : sth n G y
      · rw [if_pos w, if_neg n10]
        refine ⟨fun q => ih1 (fun b q1 q2 q3 => q b (by omega) q2 q3), fun ⟨b, q1, q2, q3, q4⟩ => ih2 ⟨b, ?_, q2, q3, q4⟩⟩
        by_cases e : b = y
        · subst e; exact absurd w q4
        · omega
      · rw [if_neg w, if_pos rfl, stop]
        exact ⟨fun q => absurd (q y (by omega) hy (by omega)) w, fun _ => rfl⟩
theorem upd_self (f : Nat → Int32) (i : Nat) : upd f i (f i) = f := by
  funext j
  by_cases z : j = i
  · subst z; exact upd_s _ _ _
  · exact upd_n _ _ _ _ z
theorem mo_2 {T : dt_Ob} (h : MT T n W G) (hr : RG n G) (hok : (∀ x, x < n → 0 ≤ G 5 x → CN n G x) → okT n W G) : ∀ (d fuel x : Nat), x + d = n → d < fuel → (∀ b, b < x → 0 ≤ G 5 b → CN n G b) → ∃ T', (∀ j, j < 38 → j ≠ 9 → T' j = T j) ∧ ((okT n W G ∧ (∀ b, b < n → 0 ≤ G 5 b → sth n G b) ∧ ovl_ n G = -1) → fX10_isTower_2 fuel (jI x) T = some (1, T')) ∧ (¬ (okT n W G ∧ (∀ b, b < n → 0 ≤ G 5 b → sth n G b) ∧ ovl_ n G = -1) → fX10_isTower_2 fuel (jI x) T = some (0, T')) := by
  have hn := hr.1
  have x1 : dt_ix (1 : Int32) 1225 = some 1 := rfl
  intro d
  induction d with
  | zero =>
    intro fuel x hd hf hp
    obtain ⟨f, rfl⟩ : ∃ f, fuel = f + 1 := ⟨fuel - 1, by omega⟩
    have ok := hok (fun b q1 q2 => hp b (by omega) q2)
    obtain ⟨T1, a1, a2, a3⟩ := fX10_tooMuch_j h ok.D
    have orr := ov_rng (lde n G) G n
    have em : (jI (ovl_ n G) = (-1 : Int32)) = (ovl_ n G = -1) := by rw [show (-1 : Int32) = jI (-1) from rfl]; exact jI_eq _ _ (by unfold ovl_; omega) (by unfold ovl_; omega) (by omega) (by omega)
    have e5 : dt_set T1 5 0 (T 5 0) = T1 := by
      funext j
      by_cases z : j = 5
      · subst z; rw [dt_set_s, ← a2 5 (by omega) (by omega)]; exact upd_self _ _
      · rw [dt_set_n _ _ _ _ _ z]
    have h1 : MT T1 n W G := MT_congr h (a2 0 (by omega) (by omega)) (a2 7 (by omega) (by omega)) (a2 8 (by omega) (by omega))
    have top : fX10_isTower_2 (f + 1) (jI x) T = (if jI (ovl_ n G) = (-1 : Int32) then fX10_isTower_200 dt_F 1 (jI ((0 : Nat) : Int)) T1 else fX10_isTower_200 dt_F 0 (jI ((0 : Nat) : Int)) T1) := by
      rw [fX10_isTower_2, x1, dt_b1, h.2.1, if_pos (by rw [jI_le _ _ (by omega) (by omega) (by omega) (by omega)]; omega), a1, dt_b1]
      unfold fX10_isTower_192
      dsimp only
      rw [e5]
      rfl
    obtain ⟨s1, s2⟩ := mo_200 h1 ok.D a3 n dt_F 0 (by omega) (by unfold dt_F; omega)
    have stop : fX10_isTower_200 dt_F 0 (jI ((0 : Nat) : Int)) T1 = some (0, T1) := by
      rw [show dt_F = 1999 + 1 from rfl, fX10_isTower_200, x1, dt_b1, if_pos rfl, if_pos (Or.inl rfl)]
      split <;> rfl
    refine ⟨T1, a2, fun ⟨q1, q2, q3⟩ => ?_, fun q => ?_⟩
    · rw [top, if_pos (by rw [em]; exact q3)]
      exact s1 (fun b _ w1 w2 => q2 b w1 w2)
    · rw [top]
      by_cases z : ovl_ n G = -1
      · rw [if_pos (by rw [em]; exact z)]
        apply s2
        apply Classical.byContradiction
        intro w
        refine q ⟨ok, fun b w1 w2 => ?_, z⟩
        apply Classical.byContradiction
        intro w3
        exact w ⟨b, by omega, w1, w2, w3⟩
      · rw [if_neg (by rw [em]; exact z)]
        exact stop
  | succ d ih =>
    intro fuel x hd hf hp
    obtain ⟨f, rfl⟩ : ∃ f, fuel = f + 1 := ⟨fuel - 1, by omega⟩
    have hx : x < n := by omega
    have rx := hr.2 x hx
    have n1 : jI x + (1 : Int32) = jI ((x + 1 : Nat) : Int) := by rw [show (1 : Int32) = jI 1 from rfl, jI_add]; rfl
    have ixx : dt_ix (jI x) 20 = some x := dt_ix_n _ _ (by omega) (by omega)
    have e7x := h.2.2.2.1 x hx
    have em : (jI (G 5 x) = (-1 : Int32)) = (G 5 x = -1) := by rw [show (-1 : Int32) = jI (-1) from rfl]; exact jI_eq _ _ (by omega) (by omega) (by omega) (by omega)
    have top : fX10_isTower_2 (f + 1) (jI x) T = (if jI (G 5 x) = (-1 : Int32) then fX10_isTower_2 f (jI ((x + 1 : Nat) : Int)) T else fX10_isTower_29 (fX10_isTower_2 f) dt_F (jI x) (jI 0) (jI ((0 : Nat) : Int)) T) := by
      rw [fX10_isTower_2]
      unfold fX10_isTower_168
      rw [x1, dt_b1, h.2.1, if_neg (by rw [jI_le _ _ (by omega) (by omega) (by omega) (by omega)]; omega), ixx, dt_b1, e7x, n1]
      rfl
    rw [top]
    by_cases z : G 5 x = -1
    · rw [if_pos (by rw [em]; exact z)]
      exact ih f (x + 1) (by omega) (by omega) (fun b q1 q2 => by
        by_cases e : b = x
        · subst e; omega
        · exact hp b (by omega) q2)
    · rw [if_neg (by rw [em]; exact z)]
      rcases mo_29 h hr (fX10_isTower_2 f) x hx (by omega) n dt_F 0 0 (by omega) (by unfold dt_F; omega) (fun o q => by omega) (by omega) (fun o q => by omega) (Or.inl rfl) with ⟨a1, a2⟩ | ⟨a1, a2⟩
      · rw [a1]
        exact ih f (x + 1) (by omega) (by omega) (fun b q1 q2 => by
          by_cases e : b = x
          · subst e; exact a2
          · exact hp b (by omega) q2)
      · rw [a1]
        refine ⟨T, fun _ _ _ => rfl, fun q => absurd ?_ a2, fun _ => rfl⟩
        exact ⟨fun o q1 q2 q3 => q.1.2.2.2.2.1 x hx o q1 (Ne.symm q2) q3, q.1.2.2.2.2.2 x hx (by omega)⟩
end
/-- the reference's leaf -/
theorem mo_leaf {n : Nat} {W : Int} {g : Nat → Nat → Int} {col : Nat → Int} (hY : YD n W g) (hC : CO n W g col) {T : dt_Ob} (h : MT T n W (gL g col)) : ∃ T', (∀ j, j < 38 → j ≠ 9 → T' j = T j) ∧ (Good n W g col → fX10_isTower T = some (1, T')) ∧ (¬ Good n W g col → fX10_isTower T = some (0, T')) := by
  have hy := hY.2
  have okb : ∀ b, b < n → okB W (gL g col) b := by
    intro b hb
    have r := hY.1.2.2.2.1 b hb
    unfold okB at r ⊢
    rw [gL_f _ _ 0 _ (by omega), gL_f _ _ 1 _ (by omega), gL_f _ _ 2 _ (by omega), gL_f _ _ 3 _ (by omega)]
    by_cases z : 0 ≤ col b
    · obtain ⟨c1, c2, c3⟩ := (hC b).2 z
      rw [gL_4 _ _ _ z, gL_5 _ _ _ z, gL_6 _ _ _ z]
      unfold lv
      omega
    · rw [gL_y _ _ 4 _ (by omega), gL_y _ _ 5 _ (by omega), gL_y _ _ 6 _ (by omega)]
      exact r
  have rg : RG n (gL g col) := by
    refine ⟨hY.1.1, fun b hb => ?_⟩
    have r := okb b hb
    have hW := hY.1.2.2.1
    have p := yplace hY b hb
    unfold okB at r
    refine ⟨by omega, by omega, by omega, by omega, fun q => ?_⟩
    have z := (gL5_nn g col hy b).mp q
    have c3 := ((hC b).2 z).2.2
    rw [gL_6 _ _ _ z]
    unfold lv
    omega
  obtain ⟨T', a1, a2, a3⟩ := mo_2 h rg (fun q => ⟨hY.1.1, hY.1.2.1, hY.1.2.2.1, okb, fun b hb o ho ne ov => (q b hb ov.1).1 o ho (Ne.symm ne) ov, fun b hb h0 => (q b hb h0).2⟩) n dt_F 0 (by omega) (by have := hY.1.1; unfold dt_F; omega) (fun b q => by omega)
  have same : (okT n W (gL g col) ∧ (∀ b, b < n → 0 ≤ gL g col 5 b → sth n (gL g col) b) ∧ ovl_ n (gL g col) = -1) ↔ Good n W g col := by
    unfold Good
    constructor
    · rintro ⟨q1, q2, q3⟩
      exact ⟨q1, fun b w1 w2 => q2 b w1 ((gL5_nn g col hy b).mpr w2), q3⟩
    · rintro ⟨q1, q2, q3⟩
      exact ⟨q1, fun b w1 w2 => q2 b w1 ((gL5_nn g col hy b).mp w2), q3⟩
  exact ⟨T', a1, fun q => a2 (same.mpr q), fun q => a3 (fun w => q (same.mp w))⟩
