/-! ===== plan: how many lie bare ===== -/
noncomputable def cp (P : Cry → Prop) : List Cry → Nat
  | [] => 0
  | s :: r => (@ite _ (P s) (Classical.propDecidable _) 1 0) + cp P r
theorem cp_app (P : Cry → Prop) : ∀ a b, cp P (a ++ b) = cp P a + cp P b := by
  intro a
  induction a with
  | nil => intro b; show cp P b = 0 + cp P b; omega
  | cons s r ih =>
    intro b
    show (@ite _ (P s) (Classical.propDecidable _) 1 0) + cp P (r ++ b) = (@ite _ (P s) (Classical.propDecidable _) 1 0) + cp P r + cp P b
    rw [ih b]; omega
theorem cp_le {P Q : Cry → Prop} : ∀ l, (∀ s, s ∈ l → P s → Q s) → cp P l ≤ cp Q l := by
  intro l
  induction l with
  | nil => intro _; exact Nat.le_refl _
  | cons s r ih =>
    intro h
    have i := ih (fun x hx => h x (List.mem_cons_of_mem s hx))
    have hs := h s (List.mem_cons_self ..)
    show (@ite _ (P s) (Classical.propDecidable _) 1 0) + cp P r ≤ (@ite _ (Q s) (Classical.propDecidable _) 1 0) + cp Q r
    by_cases z : P s
    · rw [if_pos z, if_pos (hs z)]; omega
    · rw [if_neg z]; omega
theorem cp_or (P Q : Cry → Prop) : ∀ l, cp (fun s => P s ∨ Q s) l ≤ cp P l + cp Q l := by
  intro l
  induction l with
  | nil => exact Nat.le_refl _
  | cons s r ih =>
    show (@ite _ (P s ∨ Q s) (Classical.propDecidable _) 1 0) + cp (fun s => P s ∨ Q s) r ≤ ((@ite _ (P s) (Classical.propDecidable _) 1 0) + cp P r) + ((@ite _ (Q s) (Classical.propDecidable _) 1 0) + cp Q r)
    by_cases z : P s
    · rw [if_pos z, if_pos (Or.inl z)]; omega
    · by_cases y : Q s
      · rw [if_pos y, if_pos (Or.inr y)]; omega
      · rw [if_neg z, if_neg y, if_neg (fun q => q.elim z y)]; omega
theorem cp_zero {P : Cry → Prop} (l : List Cry) (h : ∀ s, s ∈ l → ¬ P s) : cp P l = 0 := by
  induction l with
  | nil => rfl
  | cons s r ih =>
    show (@ite _ (P s) (Classical.propDecidable _) 1 0) + cp P r = 0
    rw [if_neg (h s (List.mem_cons_self ..)), ih (fun x hx => h x (List.mem_cons_of_mem s hx))]
/-- no block twice -/
def DS : List Cry → Prop
  | [] => True
  | s :: r => (∀ t, t ∈ r → t.1 ≠ s.1) ∧ DS r
theorem cp_one (v : Int) : ∀ l, DS l → cp (fun s => (s.1 : Int) = v) l ≤ 1 := by
  intro l
  induction l with
  | nil => intro _; show 0 ≤ 1; omega
  | cons s r ih =>
    intro h
    have i := ih h.2
    show (@ite _ ((s.1 : Int) = v) (Classical.propDecidable _) 1 0) + cp (fun s => (s.1 : Int) = v) r ≤ 1
    by_cases z : (s.1 : Int) = v
    · rw [if_pos z, cp_zero r (fun t ht e => h.1 t ht (by omega))]
      exact Nat.le_refl _
    · rw [if_neg z]; omega
theorem cp_hits (e : Nat → Int) (l : List Cry) (h : DS l) : ∀ m, cp (fun s => ∃ i, i < m ∧ (s.1 : Int) = e i) l ≤ m := by
  intro m
  induction m with
  | zero => rw [cp_zero l (fun s _ ⟨i, hi', _⟩ => by omega)]; exact Nat.le_refl _
  | succ m ih =>
    have a := cp_le (P := fun s => ∃ i, i < m + 1 ∧ (s.1 : Int) = e i) (Q := fun s => (∃ i, i < m ∧ (s.1 : Int) = e i) ∨ (s.1 : Int) = e m) l (fun s _ ⟨i, h1, h2⟩ => by
      by_cases z : i = m
      · subst z; exact Or.inr h2
      · exact Or.inl ⟨i, by omega, h2⟩)
    have b := cp_or (fun s => ∃ i, i < m ∧ (s.1 : Int) = e i) (fun s => (s.1 : Int) = e m) l
    have c := cp_one (e m) l h
    omega
theorem VdP_ne {n : Nat} {W : Int} : ∀ (l : List Cry) (g : Nat → Nat → Int), VdP n W g l → ∀ b, 0 ≤ g 5 b → ∀ t, t ∈ l → t.1 ≠ b := by
  intro l
  induction l with
  | nil => intro g _ b _ t ht; cases ht
  | cons s r ih =>
    intro g hv b h0 t ht
    have ne : s.1 ≠ b := fun q => by have := hv.1.2.1; rw [q] at this; omega
    rcases List.mem_cons.mp ht with e | e
    · rw [e]; exact ne
    · exact ih _ hv.2 b (by rw [gD_n _ _ _ _ _ _ (Ne.symm ne)]; exact h0) t e
theorem VdP_DS {n : Nat} {W : Int} : ∀ (l : List Cry) (g : Nat → Nat → Int), VdP n W g l → DS l := by
  intro l
  induction l with
  | nil => intro g _; trivial
  | cons s r ih => intro g hv; exact ⟨VdP_ne r _ hv.2 s.1 (by rw [gD_5]; exact hv.1.2.2.1), ih _ hv.2⟩
theorem VdP_in {n : Nat} {W : Int} : ∀ (l : List Cry) (g : Nat → Nat → Int), VdP n W g l → ∀ t, t ∈ l → t.1 < n ∧ 0 ≤ runP n g l 5 t.1 := by
  intro l
  induction l with
  | nil => intro g _ t ht; cases ht
  | cons s r ih =>
    intro g hv t ht
    rcases List.mem_cons.mp ht with e | e
    · rw [e]
      refine ⟨hv.1.1, ?_⟩
      show 0 ≤ runP n (gD n g s.1 s.2) r 5 s.1
      rw [run_keep r _ hv.2 s.1 (by rw [gD_5]; exact hv.1.2.2.1), gD_5]
      exact hv.1.2.2.1
    · exact ih _ hv.2 t e
theorem VdP_yard {n : Nat} {W : Int} (l : List Cry) (g : Nat → Nat → Int) (hv : VdP n W g l) (t : Cry) (ht : t ∈ l) : g 5 t.1 < 0 := by
  by_cases z : g 5 t.1 < 0
  · exact z
  · exact absurd rfl (VdP_ne l g hv t.1 (by omega) t ht)
/-- a carry covers no more than its length -/
theorem covers {n : Nat} {W : Int} {G : Nat → Nat → Int} (ho : okT n W G) {y : Cry} (hy : okS n W G y) (l : List Cry) (hd : DS l) (hl : ∀ s, s ∈ l → s.1 < n ∧ 0 ≤ G 5 s.1) : cp (fun s => bare n G s.1) l + 1 ≤ cp (fun s => bare n (gD n G y.1 y.2) s.1) (l ++ [y]) + (G 0 y.1).toNat := by
  have ry := ho.2.2.2.1 y.1 hy.1
  unfold okB at ry
  have yb : bare n (gD n G y.1 y.2) y.1 := by
    rintro o hon ⟨ov, e⟩
    have ne : o ≠ y.1 := fun q => by rw [q] at e; omega
    have o1 := ov.1
    have o2 := ov.2.2.1
    have o3 := ov.2.2.2
    rw [gD_n _ _ _ _ _ _ ne] at o1
    rw [gD_n _ _ _ _ 5 _ ne, gD_5, gD_0] at o2
    rw [gD_n _ _ _ _ 5 _ ne, gD_5, gD_0] at o3
    rw [gD_6, gD_n _ _ _ _ _ _ ne] at e
    have ro := ho.2.2.2.1 o hon
    unfold okB at ro
    have q : ∃ q : Int, G 5 o ≤ q ∧ q < G 5 o + G 0 o ∧ y.2 ≤ q ∧ q < y.2 + G 0 y.1 := by
      by_cases w : G 5 o ≤ y.2
      · exact ⟨y.2, by omega, by omega, by omega, by omega⟩
      · exact ⟨G 5 o, by omega, by omega, by omega, by omega⟩
    obtain ⟨q, q1, q2, q3, q4⟩ := q
    have a1 := hi_ge G q n o hon ⟨o1, q1, q2⟩
    have a2 := la_ge n G y.2 (G 0 y.1).toNat (q - y.2).toNat (by omega)
    rw [show y.2 + (((q - y.2).toNat : Nat) : Int) = q by omega] at a2
    omega
  have one : cp (fun s => bare n (gD n G y.1 y.2) s.1) [y] = 1 := by
    show (@ite _ (bare n (gD n G y.1 y.2) y.1) (Classical.propDecidable _) 1 0) + 0 = 1
    rw [if_pos yb]
  rw [cp_app, one]
  have a := cp_le (P := fun s => bare n G s.1) (Q := fun s => bare n (gD n G y.1 y.2) s.1 ∨ ∃ i, i < (G 0 y.1).toNat ∧ (s.1 : Int) = ce G (y.2 + (i : Int)) (la n G y.2 (G 0 y.1).toNat - 1) n) l (fun s hs hb => by
    by_cases z : bare n (gD n G y.1 y.2) s.1
    · exact Or.inl z
    · right
      have ex : ∃ o, o < n ∧ ovl (gD n G y.1 y.2) o s.1 ∧ gD n G y.1 y.2 6 s.1 + 1 = gD n G y.1 y.2 6 o := by
        apply Classical.byContradiction
        intro w
        exact z (fun o hon q => w ⟨o, hon, q⟩)
      obtain ⟨o, hon, ov, e⟩ := ex
      obtain ⟨sn, s0⟩ := hl s hs
      have sy : s.1 ≠ y.1 := fun q => by rw [q] at s0; have := hy.2.1; omega
      by_cases oy : o = y.1
      · subst oy
        have o2 := ov.2.2.1
        have o3 := ov.2.2.2
        rw [gD_5, gD_n _ _ _ _ 5 _ sy, gD_0] at o2
        rw [gD_5, gD_n _ _ _ _ 5 _ sy, gD_0] at o3
        rw [gD_6, gD_n _ _ _ _ _ _ sy] at e
        have rs := ho.2.2.2.1 s.1 sn
        unfold okB at rs
        have q : ∃ q : Int, G 5 s.1 ≤ q ∧ q < G 5 s.1 + G 0 s.1 ∧ y.2 ≤ q ∧ q < y.2 + G 0 y.1 := by
          by_cases w : G 5 s.1 ≤ y.2
          · exact ⟨y.2, by omega, by omega, by omega, by omega⟩
          · exact ⟨G 5 s.1, by omega, by omega, by omega, by omega⟩
        obtain ⟨q, q1, q2, q3, q4⟩ := q
        refine ⟨(q - y.2).toNat, by omega, ?_⟩
        rw [show y.2 + (((q - y.2).toNat : Nat) : Int) = q by omega]
        exact (ce_some ho.D q _ s.1 sn ⟨s0, q1, q2⟩ (by omega)).symm
      · exfalso
        refine hb o hon ?_
        unfold ovl at ov ⊢
        rw [gD_n _ _ _ _ _ _ oy, gD_n _ _ _ _ _ _ sy, gD_0, gD_0] at ov
        rw [gD_n _ _ _ _ _ _ sy, gD_n _ _ _ _ _ _ oy] at e
        exact ⟨ov, e⟩)
  have b := cp_or (fun s => bare n (gD n G y.1 y.2) s.1) (fun s => ∃ i, i < (G 0 y.1).toNat ∧ (s.1 : Int) = ce G (y.2 + (i : Int)) (la n G y.2 (G 0 y.1).toNat - 1) n) l
  have c := cp_hits (fun i => ce G (y.2 + (i : Int)) (la n G y.2 (G 0 y.1).toNat - 1) n) l hd (G 0 y.1).toNat
  omega
/-- lengths less one, of what is still to carry -/
def lens (g : Nat → Nat → Int) : List Cry → Nat
  | [] => 0
  | s :: r => ((g 0 s.1).toNat - 1) + lens g r
theorem bare_end {n : Nat} {W : Int} {g : Nat → Nat → Int} (ho : okT n W g) : ∀ (rest pre : List Cry), VdP n W g (pre ++ rest) → cp (fun s => bare n (runP n g pre) s.1) pre ≤ cp (fun s => bare n (runP n g (pre ++ rest)) s.1) (pre ++ rest) + lens g rest := by
  intro rest
  induction rest with
  | nil => intro pre _; rw [List.append_nil]; exact Nat.le_add_right _ _
  | cons y r ih =>
    intro pre hv
    obtain ⟨v1, v2⟩ := (VdP_app n W pre (y :: r) g).mp hv
    have okp := VdP_T pre g ho v1
    have ry := okp.2.2.2.1 y.1 v2.1.1
    unfold okB at ry
    have c := covers okp v2.1 pre (VdP_DS pre g v1) (fun s hs => VdP_in pre g v1 s hs)
    have sp : pre ++ y :: r = (pre ++ [y]) ++ r := by rw [List.append_assoc]; rfl
    rw [sp] at hv ⊢
    have i := ih (pre ++ [y]) hv
    have e : runP n g (pre ++ [y]) = gD n (runP n g pre) y.1 y.2 := by rw [runP_app]; rfl
    rw [e] at i
    rw [run_0 y.1 pre g 0 (by omega)] at c ry
    show _ ≤ _ + (((g 0 y.1).toNat - 1) + lens g r)
    omega
theorem hope {n : Nat} {W : Int} {g : Nat → Nat → Int} (ho : okT n W g) {goal : Int} {N : Nat} (hN : ∀ p, ¬ IsPlan n W g goal N p) (pre rest : List Cry) (hp : IsPlan n W g goal (N + 1) (pre ++ rest)) : cp (fun s => bare n (runP n g pre) s.1) pre ≤ 1 + lens g rest := by
  have b := bare_end ho rest pre hp.1
  have hl : (pre ++ rest).length = N + 1 := hp.2.1
  have ne : pre ++ rest ≠ [] := fun q => by rw [q] at hl; cases hl
  have e := (List.dropLast_concat_getLast ne).symm
  have one : cp (fun s => bare n (runP n g (pre ++ rest)) s.1) (pre ++ rest) ≤ 1 := by
    have key : ∀ (q : List Cry) (t : Cry), pre ++ rest = q ++ [t] → cp (fun s => bare n (runP n g (pre ++ rest)) s.1) (pre ++ rest) ≤ 1 := by
      intro q t eq
      rw [eq] at hp ⊢
      rw [cp_app, cp_zero q (fun s hs hb => by
        obtain ⟨a, c, eac⟩ := List.append_of_mem hs
        have eq2 : q ++ [t] = a ++ s :: (c ++ [t]) := by rw [eac, List.append_assoc]; rfl
        rw [eq2] at hp hb
        exact not_bare ho hN a c s t hp hb)]
      show 0 + ((@ite _ (bare n (runP n g (q ++ [t])) t.1) (Classical.propDecidable _) 1 0) + 0) ≤ 1
      split <;> omega
    exact key _ _ e
  omega
theorem lens_le {n : Nat} {W : Int} {g : Nat → Nat → Int} (M : Nat) (hM : 1 ≤ M) : ∀ (rest : List Cry), (∀ s, s ∈ rest → g 0 s.1 ≤ M) → lens g rest ≤ rest.length * (M - 1) := by
  intro rest
  induction rest with
  | nil => intro _; exact Nat.zero_le _
  | cons s r ih =>
    intro h
    have i := ih (fun x hx => h x (List.mem_cons_of_mem s hx))
    have a := h s (List.mem_cons_self ..)
    show ((g 0 s.1).toNat - 1) + lens g r ≤ (r.length + 1) * (M - 1)
    rw [Nat.succ_mul]
    omega
