/-! ===== plan: a tower within a tower ===== -/
/-- g' is g with blocks taken out on which nothing rests that stays -/
def SB (n : Nat) (g g' : Nat → Nat → Int) : Prop := (∀ f b, f < 4 → g' f b = g f b) ∧ (∀ b, b < n → 0 ≤ g' 5 b → g' 5 b = g 5 b ∧ g' 6 b = g 6 b) ∧ ∀ o b, o < n → b < n → 0 ≤ g' 5 o → ovl g o b → g 6 b + 1 = g 6 o → 0 ≤ g' 5 b
section
variable {n : Nat} {W : Int} {g g' : Nat → Nat → Int}
theorem SB_cov (h : SB n g g') (b : Nat) (hb : b < n) (q : Int) (hc : cov g' b q) : cov g b q := by
  have e := h.2.1 b hb hc.1
  have e0 := h.1 0 b (by omega)
  unfold cov at hc ⊢
  rw [e.1, e0] at hc
  exact hc
theorem SB_ovl (h : SB n g g') (b o : Nat) (hb : b < n) (ho : o < n) (hc : ovl g' b o) : ovl g b o := by
  have e := h.2.1 b hb hc.1
  have e' := h.2.1 o ho hc.2.1
  have e0 := h.1 0 b (by omega)
  have e1 := h.1 0 o (by omega)
  unfold ovl at hc ⊢
  rw [e.1, e0, e'.1, e1] at hc
  exact hc
theorem SB_okT (h : SB n g g') (ho : okT n W g) (hb : ∀ b, b < n → okB W g' b) : okT n W g' := by
  refine ⟨ho.1, ho.2.1, ho.2.2.1, hb, fun b hb' o ho' ne ov => ?_, fun b hb' h0 => ?_⟩
  · rw [(h.2.1 b hb' ov.1).2, (h.2.1 o ho' ov.2.1).2]
    exact ho.2.2.2.2.1 b hb' o ho' ne (SB_ovl h b o hb' ho' ov)
  · have e := h.2.1 b hb' h0
    rcases ho.2.2.2.2.2 b hb' (by omega) with z | ⟨o, o1, o2, o3⟩
    · left; rw [e.2]; exact z
    · right
      have h2 := h.2.2 b o hb' o1 h0 o2 o3
      have e' := h.2.1 o o1 h2
      refine ⟨o, o1, ?_, by rw [e.2, e'.2]; exact o3⟩
      have e0 := h.1 0 b (by omega)
      have e1 := h.1 0 o (by omega)
      unfold ovl at o2 ⊢
      rw [e.1, e'.1, e0, e1]
      exact o2
theorem SB_ce (h : SB n g g') (ho : okD n W g') (o : Nat) (hon : o < n) (h0 : 0 ≤ g' 5 o) (q : Int) (hq : cov g o q) : ce g' q (g 6 o - 1) n = ce g q (g 6 o - 1) n := by
  rcases ce_cases g q (g 6 o - 1) n with ⟨e, hno⟩ | ⟨b, hb, e, cv, l⟩
  · rw [e]
    exact ce_none g' q _ n (fun b hb cv => by
      rw [(h.2.1 b hb cv.1).2]
      exact hno b hb (SB_cov h b hb q cv))
  · rw [e]
    have ov : ovl g o b := by
      unfold cov at hq cv
      unfold ovl
      omega
    have hs := h.2.2 o b hon hb h0 ov (by omega)
    have eb := h.2.1 b hb hs
    have e0 := h.1 0 b (by omega)
    refine ce_some ho q _ b hb ?_ (by rw [eb.2]; exact l)
    unfold cov at cv ⊢
    rw [eb.1, e0]
    exact cv
theorem SB_nb (h : SB n g g') (ho : okD n W g') (o : Nat) (hon : o < n) (h0 : 0 ≤ g' 5 o) : ∀ k : Nat, (k : Int) ≤ g 0 o → nb n g' o k = nb n g o k := by
  have e := h.2.1 o hon h0
  intro k
  induction k with
  | zero => intro _; rfl
  | succ k ih =>
    intro hk
    show nb n g' o k + (if ce g' (g' 5 o + k) (g' 6 o - 1) n = -1 then 0 else 1) = nb n g o k + (if ce g (g 5 o + k) (g 6 o - 1) n = -1 then 0 else 1)
    rw [ih (by omega), e.1, e.2, SB_ce h ho o hon h0 (g 5 o + k) (by unfold cov; omega)]
theorem SB_ck (h : SB n g g') (hg : okD n W g) (ho : okD n W g') (o : Nat) (hon : o < n) (h0 : 0 ≤ g' 5 o) (all' all : Int) (hall : 0 ≤ all' ∧ all' ≤ all) (b : Nat) : ∀ k : Nat, (k : Int) ≤ g 0 o → ck n g' o all' b k ≤ ck n g o all b k := by
  have e := h.2.1 o hon h0
  have e0 := h.1 0 o (by omega)
  have r := (hg.2.2.2.1 o hon).1
  unfold okB at r
  have enb := SB_nb h ho o hon h0 (g 0 o).toNat (by omega)
  have nr := nb_rng n g o (g 0 o).toNat
  intro k
  induction k with
  | zero => intro _; exact Int.le_refl _
  | succ k ih =>
    intro hk
    have i1 := ih (by omega)
    have ece := SB_ce h ho o hon h0 (g 5 o + k) (by unfold cov; omega)
    have ek := SB_nb h ho o hon h0 k (by omega)
    show ck n g' o all' b k + (if ce g' (g' 5 o + k) (g' 6 o - 1) n = b then all' / nb n g' o (g' 0 o).toNat + (if nb n g' o k < all' % nb n g' o (g' 0 o).toNat then 1 else 0) else 0) ≤ ck n g o all b k + (if ce g (g 5 o + k) (g 6 o - 1) n = b then all / nb n g o (g 0 o).toNat + (if nb n g o k < all % nb n g o (g 0 o).toNat then 1 else 0) else 0)
    rw [e.1, e.2, e0, ece, enb, ek]
    by_cases z : ce g (g 5 o + k) (g 6 o - 1) n = b
    · rw [if_pos z, if_pos z]
      have lt := nb_lt n g o k (g 0 o).toNat (by omega) (by rw [z]; omega)
      have kr := nb_rng n g o k
      have := sh_mono all' all (nb n g o (g 0 o).toNat) (nb n g o k) hall.2 hall.1 (by omega) (by omega) (by omega) lt
      omega
    · rw [if_neg z, if_neg z]; omega
theorem SB_ldF (h : SB n g g') (hg : okD n W g) (ho : okD n W g') : ∀ (f b : Nat), b < n → 0 ≤ g' 5 b → ldF n g' f b ≤ ldF n g f b := by
  intro f
  induction f with
  | zero => intro b _ _; exact Int.le_refl _
  | succ f ih =>
    intro b hb h0
    show sumN (fun o => if 0 ≤ g' 5 o ∧ g' 6 o = g' 6 b + 1 then ctr n g' o (g' 1 o + ldF n g' f o) b else 0) n ≤ sumN (fun o => if 0 ≤ g 5 o ∧ g 6 o = g 6 b + 1 then ctr n g o (g 1 o + ldF n g f o) b else 0) n
    refine sumN_le n (fun o hon => ?_)
    have eb := h.2.1 b hb h0
    have rw' := (hg.2.2.2.1 o hon).1
    unfold okB at rw'
    by_cases z : 0 ≤ g' 5 o ∧ g' 6 o = g' 6 b + 1
    · have eo := h.2.1 o hon z.1
      have z2 : 0 ≤ g 5 o ∧ g 6 o = g 6 b + 1 := by omega
      rw [if_pos z, if_pos z2]
      have e0 := h.1 0 o (by omega)
      have e1 := h.1 1 o (by omega)
      have i1 := ih o hon z.1
      have nn := ldF_nn ho f o
      unfold ctr
      rw [e0, e1]
      exact SB_ck h hg ho o hon z.1 _ _ ⟨by omega, by omega⟩ b (g 0 o).toNat (by omega)
    · rw [if_neg z]
      by_cases z2 : 0 ≤ g 5 o ∧ g 6 o = g 6 b + 1
      · rw [if_pos z2]
        exact ck_nn n g o _ (by have := ldF_nn hg f o; omega) b _
      · rw [if_neg z2]; exact Int.le_refl _
theorem ov_none (L : Nat → Int) (g : Nat → Nat → Int) : ∀ i, ov L g i = -1 ↔ ∀ b, b < i → 0 ≤ g 5 b → L b ≤ br g b := by
  intro i
  induction i with
  | zero => exact ⟨fun _ b hb => by omega, fun _ => rfl⟩
  | succ i ih =>
    constructor
    · intro h
      unfold ov at h
      by_cases z : 0 ≤ g 5 i ∧ br g i < L i ∧ (ov L g i = -1 ∨ g 6 (ov L g i).toNat < g 6 i)
      · rw [if_pos z] at h; omega
      · rw [if_neg z] at h
        have old := ih.mp h
        intro b hb h0
        by_cases e : b = i
        · subst e
          by_cases y : L b ≤ br g b
          · exact y
          · exact absurd ⟨h0, by omega, Or.inl h⟩ z
        · exact old b (by omega) h0
    · intro h
      have old := ih.mpr (fun b hb h0 => h b (by omega) h0)
      unfold ov
      rw [if_neg (fun q => by have := h i (by omega) q.1; omega)]
      exact old
theorem SB_ovn (h : SB n g g') (hg : okD n W g) (ho : okD n W g') (hn : ovl_ n g = -1) : ovl_ n g' = -1 := by
  unfold ovl_ at hn ⊢
  rw [ov_none] at hn ⊢
  intro b hb h0
  have eb := h.2.1 b hb h0
  have a := hn b hb (by omega)
  have ebr : br g' b = br g b := by
    unfold br
    rw [h.1 2 b (by omega), h.1 3 b (by omega)]
  rw [ebr]
  have c := SB_ldF h hg ho 20 b hb h0
  unfold lde ld at a ⊢
  rw [if_pos h0]
  rw [if_pos (show 0 ≤ g 5 b by omega)] at a
  omega
end
