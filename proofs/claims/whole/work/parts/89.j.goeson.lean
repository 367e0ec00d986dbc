/-! ===== plan: the reference's search ===== -/
theorem run_y {n : Nat} {W : Int} : ∀ (l : List Cry) (g : Nat → Nat → Int) (b : Nat), VdP n W g l → runP n g l 5 b < 0 → ∀ f, runP n g l f b = g f b := by
  intro l
  induction l with
  | nil => intro g b _ _ f; rfl
  | cons s r ih =>
    intro g b hv h f
    have h' : runP n (gD n g s.1 s.2) r 5 b < 0 := h
    have e := ih (gD n g s.1 s.2) b hv.2 h'
    have ne : b ≠ s.1 := fun q => by
      have a := e 5
      rw [q, gD_5] at a
      rw [q] at h'
      have := hv.1.2.2.1
      omega
    show runP n (gD n g s.1 s.2) r f b = _
    rw [e f, gD_n _ _ _ _ _ _ ne]
theorem cs_le {n : Nat} {W : Int} {g : Nat → Nat → Int} (ho : okT n W g) {s : Cry} (h : okS n W g s) : cs n g s ≤ 100 := by
  have r := ho.2.2.2.1 s.1 h.1
  unfold okB at r
  have l := okD_la ho.D s.2 (g 0 s.1).toNat
  have hW := ho.2.2.1
  have := h.2.2.1
  have := h.2.2.2.1
  have := h.2.1
  unfold cs
  split <;> omega
theorem csP_le {n : Nat} {W : Int} : ∀ (l : List Cry) (g : Nat → Nat → Int), okT n W g → VdP n W g l → csP n g l ≤ 100 * l.length := by
  intro l
  induction l with
  | nil => intro g _ _; exact Int.le_refl _
  | cons s r ih =>
    intro g ho hv
    have a := ih _ (okS_T ho hv.1) hv.2
    have b := cs_le ho hv.1
    show cs n g s + csP n (gD n g s.1 s.2) r ≤ 100 * ((s :: r).length : Int)
    rw [List.length_cons]
    omega
theorem MT_back {n : Nat} {W : Int} {G G' : Nat → Nat → Int} {T : dt_Ob} {b : Nat} (h : MT T n W G') (e : ∀ f x, x ≠ b → G' f x = G f x) (e4 : ∀ f, f < 4 → G' f b = G f b) (e5 : G 5 b = -1) : MT (dt_set (dt_set T 7 b (-1)) 8 b (-1)) n W G := by
  obtain ⟨h1, h2, h3, h4, h5⟩ := h
  refine ⟨?_, ?_, fun f hf x hx => ?_, fun x hx => ?_, fun x hx q => ?_⟩
  · rw [dt_set_n _ _ _ _ _ (by omega), dt_set_n _ _ _ _ _ (by omega)]; exact h1
  · rw [dt_set_n _ _ _ _ _ (by omega), dt_set_n _ _ _ _ _ (by omega)]; exact h2
  · rw [dt_set_n _ _ _ _ _ (by omega), dt_set_n _ _ _ _ _ (by omega), h3 f hf x hx]
    by_cases z : x = b
    · rw [z, e4 f hf]
    · rw [e f x z]
  · rw [dt_set_n _ _ _ _ _ (by omega), dt_set_s]
    by_cases z : x = b
    · rw [z, upd_s, e5]; rfl
    · rw [upd_n _ _ _ _ z, h4 x hx, e 5 x z]
  · have z : x ≠ b := fun w => by rw [w, e5] at q; omega
    rw [dt_set_s, upd_n _ _ _ _ z, dt_set_n _ _ _ _ _ (by omega), h5 x hx (by rw [e 5 x z]; exact q), e 6 x z]
/-- the yard's blocks in order -/
def YL (n : Nat) (g : Nat → Nat → Int) (k : Nat) (yb : Nat → Nat) : Prop := k ≤ 6 ∧ (∀ i, i < k → yb i < n ∧ g 5 (yb i) < 0) ∧ (∀ i j, i < j → j < k → yb i < yb j) ∧ ∀ b, b < n → g 5 b < 0 → ∃ i, i < k ∧ yb i = b
/-- the best so far, in the reference -/
def MBt (T : dt_Ob) (n : Nat) (g : Nat → Nat → Int) (B : Bst) : Prop := (B = none → T 34 0 = -1) ∧ ∀ q, B = some q → T 34 0 = jI (csP n g q) ∧ ∀ i s, q[i]? = some s → T 31 i = jI s.1 ∧ T 32 i = jI s.2
def MPr (T : dt_Ob) (pre : List Cry) : Prop := ∀ i s, pre[i]? = some s → T 29 i = jI s.1 ∧ T 30 i = jI s.2
def MYd (T : dt_Ob) (k : Nat) (yb : Nat → Nat) : Prop := T 33 0 = jI k ∧ ∀ i, i < k → T 28 i = jI (yb i)
/-- fields the search leaves alone -/
def SG5 (T T' : dt_Ob) : Prop := ∀ j, j < 38 → j ≠ 5 → j ≠ 7 → j ≠ 8 → j ≠ 9 → j ≠ 29 → j ≠ 30 → j ≠ 31 → j ≠ 32 → j ≠ 34 → T' j = T j
theorem SG5_tr {T T1 T2 : dt_Ob} (h1 : SG5 T T1) (h2 : SG5 T1 T2) : SG5 T T2 := fun j a b c d e f g h i k => by rw [h2 j a b c d e f g h i k, h1 j a b c d e f g h i k]
theorem mo_44 (rc : Int32 → Int32 → Int32 → Int32 → dt_Ob → Option dt_Ob) (N : Nat) (hN : N ≤ 5) : ∀ (d fuel i : Nat) (T : dt_Ob), i + d = N → d < fuel → ∃ T', fX10_goesOn_44 rc fuel (jI N) (jI i) T = some T' ∧ (∀ j, j ≠ 31 → j ≠ 32 → T' j = T j) ∧ (∀ x, i ≤ x → x < N → T' 31 x = T 29 x ∧ T' 32 x = T 30 x) ∧ (∀ x, x < i → T' 31 x = T 31 x ∧ T' 32 x = T 32 x) := by
  intro d
  induction d with
  | zero =>
    intro fuel i T hd hf
    obtain ⟨f, rfl⟩ : ∃ f, fuel = f + 1 := ⟨fuel - 1, by omega⟩
    refine ⟨T, ?_, fun _ _ _ => rfl, fun x h1 h2 => by omega, fun x _ => ⟨rfl, rfl⟩⟩
    rw [fX10_goesOn_44, if_pos (by rw [jI_le _ _ (by omega) (by omega) (by omega) (by omega)]; omega)]
  | succ d ih =>
    intro fuel i T hd hf
    obtain ⟨f, rfl⟩ : ∃ f, fuel = f + 1 := ⟨fuel - 1, by omega⟩
    have n1 : jI i + (1 : Int32) = jI ((i + 1 : Nat) : Int) := by rw [show (1 : Int32) = jI 1 from rfl, jI_add]; rfl
    have ixi : dt_ix (jI i) 5 = some i := dt_ix_n _ _ (by omega) (by omega)
    have hT1 : ∃ T1, T1 = dt_set (dt_set T 31 i (T 29 i)) 32 i (T 30 i) := ⟨_, rfl⟩
    obtain ⟨T1, eT1⟩ := hT1
    have o1 : ∀ j, j ≠ 31 → j ≠ 32 → T1 j = T j := fun j h5 h6 => by rw [eT1, dt_set_n _ _ _ _ _ h6, dt_set_n _ _ _ _ _ h5]
    have o31 : T1 31 = upd (T 31) i (T 29 i) := by rw [eT1, dt_set_n _ _ _ _ _ (by omega), dt_set_s]
    have o32 : T1 32 = upd (T 32) i (T 30 i) := by rw [eT1, dt_set_s, dt_set_n _ _ _ _ _ (by omega)]
    obtain ⟨T', a1, a2, a3, a4⟩ := ih f (i + 1) T1 (by omega) (by omega)
    refine ⟨T', ?_, fun j h5 h6 => by rw [a2 j h5 h6, o1 j h5 h6], fun x h1 h2 => ?_, fun x hx => ?_⟩
    · rw [fX10_goesOn_44, if_neg (by rw [jI_le _ _ (by omega) (by omega) (by omega) (by omega)]; omega), ixi, dt_b1, dt_b1, dt_b1, dt_b1, n1, ← eT1]
      exact a1
    · by_cases e : x = i
      · subst e
        rw [(a4 x (by omega)).1, (a4 x (by omega)).2, o31, o32, upd_s, upd_s]
        exact ⟨rfl, rfl⟩
      · have q := a3 x (by omega) h2
        rw [o1 29 (by omega) (by omega), o1 30 (by omega) (by omega)] at q
        exact q
    · rw [(a4 x (by omega)).1, (a4 x (by omega)).2, o31, o32, upd_n _ _ _ _ (by omega), upd_n _ _ _ _ (by omega)]
      exact ⟨rfl, rfl⟩
theorem get_lt {l : List Cry} {i : Nat} {s : Cry} (h : l[i]? = some s) : i < l.length := by
  by_cases z : i < l.length
  · exact z
  · rw [List.getElem?_eq_none (by omega)] at h; cases h
theorem MPr_add {T : dt_Ob} {pre : List Cry} (h : MPr T pre) (s : Cry) : MPr (dt_set (dt_set T 29 pre.length (jI s.1)) 30 pre.length (jI s.2)) (pre ++ [s]) := by
  intro i t ht
  rw [dt_set_n _ _ _ _ _ (show 29 ≠ 30 by omega), dt_set_s, dt_set_s, dt_set_n _ _ _ _ _ (show 30 ≠ 29 by omega)]
  have l := get_lt ht
  rw [List.length_append] at l
  have l1 : [s].length = 1 := rfl
  by_cases z : i = pre.length
  · subst z
    rw [List.getElem?_append_right (Nat.le_refl _), Nat.sub_self] at ht
    have e : s = t := Option.some.inj ht
    rw [upd_s, upd_s, e]; exact ⟨rfl, rfl⟩
  · rw [upd_n _ _ _ _ z, upd_n _ _ _ _ z]
    rw [List.getElem?_append_left (by omega)] at ht
    exact h i t ht
theorem MPr_sub {T : dt_Ob} {pre : List Cry} {s : Cry} (h : MPr T (pre ++ [s])) : MPr T pre := by
  intro i t ht
  have l := get_lt ht
  exact h i t (by rw [List.getElem?_append_left l]; exact ht)
