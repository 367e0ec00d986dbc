/-! ===== which: all leaves in their order ===== -/
def fl {α : Type} (f : α → Nat → α) : Nat → Nat → α → α
  | 0, _, a => a
  | m + 1, c, a => fl f m (c + 1) (f a c)
abbrev Acc : Type := Nat × (Nat → Int)
noncomputable def lf (n : Nat) (W : Int) (g : Nat → Nat → Int) (a : Acc) (col : Nat → Int) : Acc := @ite _ (Good n W g col) (Classical.propDecidable _) (a.1 + 1, if a.1 = 0 then col else a.2) a
def cu (col : Nat → Int) (b : Nat) (c : Int) : Nat → Int := fun x => if x = b then c else col x
abbrev okc (g : Nat → Nat → Int) (b : Nat) (c : Nat) : Prop := 0 ≤ g 4 b - 10 - c ∧ (g 4 b - 10 - c) % 2 = 0 ∧ lv g b c < 6
noncomputable def en (n : Nat) (W : Int) (g : Nat → Nat → Int) (bs : Nat → Nat) : Nat → Nat → (Nat → Int) → Acc → Acc
  | 0, _, col, a => lf n W g a col
  | d + 1, i, col, a => fl (fun a c => if okc g (bs i) c then en n W g bs d (i + 1) (cu col (bs i) c) a else a) (W - g 0 (bs i) + 1).toNat 0 a
theorem cu_s (col : Nat → Int) (b : Nat) (c : Int) : cu col b c b = c := if_pos rfl
theorem cu_n (col : Nat → Int) (b : Nat) (c : Int) (x : Nat) (h : x ≠ b) : cu col b c x = col x := if_neg h
theorem fl_same {α : Type} (f : α → Nat → α) (a : α) : ∀ (m c : Nat), (∀ y, c ≤ y → y < c + m → f a y = a) → fl f m c a = a := by
  intro m
  induction m with
  | zero => intro c _; rfl
  | succ m ih =>
    intro c h
    unfold fl
    rw [h c (by omega) (by omega)]
    exact ih (c + 1) (fun y h1 h2 => h y (by omega) (by omega))
theorem lf_le (n : Nat) (W : Int) (g : Nat → Nat → Int) (a : Acc) (col : Nat → Int) : (lf n W g a col).1 ≤ a.1 + 1 := by
  unfold lf
  split <;> simp
theorem fl_le (f : Acc → Nat → Acc) (K : Nat) (hf : ∀ a c, (f a c).1 ≤ a.1 + K) : ∀ (m c : Nat) (a : Acc), (fl f m c a).1 ≤ a.1 + m * K := by
  intro m
  induction m with
  | zero => intro c a; unfold fl; omega
  | succ m ih =>
    intro c a
    unfold fl
    have h1 := ih (c + 1) (f a c)
    have h2 := hf a c
    rw [Nat.succ_mul]
    omega
section
variable {n : Nat} {W : Int} {g : Nat → Nat → Int} {k : Nat} {bs : Nat → Nat}
theorem en_le (hW : W ≤ 8) (hg : ∀ b, 1 ≤ g 0 b ∨ n ≤ b) (hB : BS n k bs) : ∀ (d i : Nat) (col : Nat → Int) (a : Acc), i + d ≤ k → (en n W g bs d i col a).1 ≤ a.1 + 8 ^ d := by
  intro d
  induction d with
  | zero => intro i col a _; unfold en; exact lf_le n W g a col
  | succ d ih =>
    intro i col a hk
    unfold en
    have h := fl_le (fun a c => if okc g (bs i) c then en n W g bs d (i + 1) (cu col (bs i) c) a else a) (8 ^ d) (fun a c => by
      split
      · exact ih (i + 1) _ a (by omega)
      · exact Nat.le_add_right _ _) (W - g 0 (bs i) + 1).toNat 0 a
    have m8 : (W - g 0 (bs i) + 1).toNat ≤ 8 := by
      rcases hg (bs i) with z | z
      · omega
      · have := hB.2.1 i (by omega); omega
    have : (W - g 0 (bs i) + 1).toNat * 8 ^ d ≤ 8 * 8 ^ d := Nat.mul_le_mul_right _ m8
    rw [Nat.pow_succ]
    omega
/-- where no leaf is good, nothing is counted -/
theorem en_none : ∀ (d i : Nat) (col : Nat → Int) (a : Acc), (∀ col' : Nat → Int, (∀ b, (∀ j, i ≤ j → j < i + d → bs j ≠ b) → col' b = col b) → ¬ Good n W g col') → en n W g bs d i col a = a := by
  intro d
  induction d with
  | zero =>
    intro i col a h
    unfold en lf
    rw [if_neg (h col (fun _ _ => rfl))]
  | succ d ih =>
    intro i col a h
    unfold en
    refine fl_same _ _ _ _ (fun y _ _ => ?_)
    split
    · refine ih (i + 1) _ a (fun col' hc => h col' (fun b hb => ?_))
      rw [hc b (fun j h1 h2 => hb j (by omega) (by omega)), cu_n _ _ _ _ (Ne.symm (hb i (by omega) (by omega)))]
    · rfl
/-- the finder's count and first -/
def AC (P : dt_Ob) (g : Nat → Nat → Int) (k : Nat) (bs : Nat → Nat) (a : Acc) : Prop := P 7 0 = jI a.1 ∧ (0 < a.1 → ∀ i, i < k → P 4 (bs i) = jI (a.2 (bs i)) ∧ P 5 (bs i) = jI (lv g (bs i) (a.2 (bs i))))
abbrev clash (g : Nat → Nat → Int) (bs : Nat → Nat) (col : Nat → Int) (i j : Nat) : Prop := col (bs j) < col (bs i) + g 0 (bs i) ∧ col (bs i) < col (bs j) + g 0 (bs j) ∧ lv g (bs i) (col (bs i)) = lv g (bs j) (col (bs j))
theorem cl_taken (hY : YD n W g) (hB : BS n k bs) {col : Nat → Int} (hC : CO n W g col) {P T : dt_Ob} (i : Nat) (hi' : i < k) (hP : FP P k bs g col (i + 1)) (hT : TW T n W g) (h0 : ∀ j, j ≤ i → 0 ≤ col (bs j)) (hl : ∀ j, j ≤ i → lv g (bs j) (col (bs j)) < 100) : ∀ (d fuel x : Nat), x + d = i → d < fuel → ((∃ j, x ≤ j ∧ j < i ∧ clash g bs col i j) → fX2_isTaken_2 fuel (jI i) (jI x) P T = some 1) ∧ ((∀ j, x ≤ j → j < i → ¬ clash g bs col i j) → fX2_isTaken_2 fuel (jI i) (jI x) P T = some 0) := by
  have k6 := hB.1
  have hW := hY.1.2.2.1
  have hn := hY.1.1
  have rng : ∀ j, j ≤ i → 0 ≤ col (bs j) ∧ col (bs j) ≤ 8 ∧ 0 ≤ lv g (bs j) (col (bs j)) ∧ 1 ≤ g 0 (bs j) ∧ g 0 (bs j) ≤ 3 := by
    intro j hj
    have a := (hC (bs j)).2 (h0 j hj)
    have r := hY.1.2.2.2.1 (bs j) a.1
    unfold okB at r
    have := h0 j hj
    unfold lv
    omega
  intro d
  induction d with
  | zero =>
    intro fuel x hd hf
    obtain ⟨f, rfl⟩ : ∃ f, fuel = f + 1 := ⟨fuel - 1, by omega⟩
    have e : fX2_isTaken_2 (f + 1) (jI i) (jI x) P T = some 0 := by
      rw [fX2_isTaken_2, if_pos (by rw [jI_le _ _ (by omega) (by omega) (by omega) (by omega)]; omega)]
    rw [e]
    exact ⟨fun ⟨j, h1, h2, _⟩ => by omega, fun _ => rfl⟩
  | succ d ih =>
    intro fuel x hd hf
    obtain ⟨f, rfl⟩ : ∃ f, fuel = f + 1 := ⟨fuel - 1, by omega⟩
    obtain ⟨ih1, ih2⟩ := ih f (x + 1) (by omega) (by omega)
    have n1 : jI x + (1 : Int32) = jI ((x + 1 : Nat) : Int) := by rw [show (1 : Int32) = jI 1 from rfl, jI_add]; rfl
    have ixi : dt_ix (jI i) 6 = some i := dt_ix_n _ _ (by omega) (by omega)
    have ixx : dt_ix (jI x) 6 = some x := dt_ix_n _ _ (by omega) (by omega)
    have bi : dt_ix (jI (bs i)) 20 = some (bs i) := dt_ix_n _ _ (by have := hB.2.1 i hi'; omega) (by omega)
    have bx : dt_ix (jI (bs x)) 20 = some (bs x) := dt_ix_n _ _ (by have := hB.2.1 x (by omega); omega) (by omega)
    have ti : T 2 (bs i) = jI (g 0 (bs i)) := hT.2.2.1 0 (by omega) _ (hB.2.1 i hi')
    have tx : T 2 (bs x) = jI (g 0 (bs x)) := hT.2.2.1 0 (by omega) _ (hB.2.1 x (by omega))
    have pi := hP.2.2 i (by omega)
    have px := hP.2.2 x (by omega)
    have ri := rng i (by omega)
    have rx := rng x (by omega)
    have li := hl i (by omega)
    have lx := hl x (by omega)
    have top : fX2_isTaken_2 (f + 1) (jI i) (jI x) P T = (if clash g bs col i x then some 1 else fX2_isTaken_2 f (jI i) (jI ((x + 1 : Nat) : Int)) P T) := by
      rw [fX2_isTaken_2]
      unfold fX2_isTaken_61 fX2_isTaken_66 fX2_isTaken_90
      simp only [ixi, ixx, dt_b1, (hP.2.1 i hi').1, (hP.2.1 x (by omega)).1, bi, bx, ti, tx, pi.1, pi.2, px.1, px.2, n1]
      simp (disch := omega) only [jI_lit, jI_add, jI_sub, jI_mul, jI_neg, jI_lt, jI_le, jI_eq, jI_div, dt_ix_j, dt_b1, Int.toNat_natCast, Int.reduceToNat]
      rw [if_neg (show ¬ (i : Int) ≤ (x : Int) by omega)]
      by_cases y1 : col (bs i) + g 0 (bs i) ≤ col (bs x)
      · rw [if_pos y1, if_neg (show ¬ clash g bs col i x from fun q => by have := q.1; omega)]
        split <;> rfl
      · rw [if_neg y1]
        by_cases y2 : col (bs i) < col (bs x) + g 0 (bs x)
        · rw [if_pos y2]
          by_cases y3 : lv g (bs i) (col (bs i)) = lv g (bs x) (col (bs x))
          · rw [if_pos y3, if_pos (show clash g bs col i x from ⟨by omega, y2, y3⟩)]
            rfl
          · rw [if_neg y3, if_neg (show ¬ clash g bs col i x from fun q => y3 q.2.2)]
        · rw [if_neg y2, if_neg (show ¬ clash g bs col i x from fun q => y2 q.2.1)]
          split <;> rfl
    rw [top]
    refine ⟨fun ⟨j, h1, h2, h3⟩ => ?_, fun h => ?_⟩
    · by_cases z : clash g bs col i x
      · rw [if_pos z]
      · rw [if_neg z]
        refine ih1 ⟨j, ?_, h2, h3⟩
        by_cases e : j = x
        · subst e; exact absurd h3 z
        · omega
    · rw [if_neg (h x (by omega) (by omega))]
      exact ih2 (fun j h1 h2 => h j (by omega) h2)
end
