/-! ===== which: a leaf, put or built ===== -/
abbrev lv (g : Nat → Nat → Int) (b : Nat) (c : Int) : Int := (g 4 b - 10 - c) / 2
def gL (g : Nat → Nat → Int) (col : Nat → Int) : Nat → Nat → Int := fun f b => if 0 ≤ col b then (if f = 4 then -1 else if f = 5 then col b else if f = 6 then lv g b (col b) else g f b) else g f b
theorem gL_f (g : Nat → Nat → Int) (col : Nat → Int) (f b : Nat) (h : f < 4) : gL g col f b = g f b := by
  unfold gL
  rw [if_neg (show ¬ f = 4 by omega), if_neg (show ¬ f = 5 by omega), if_neg (show ¬ f = 6 by omega)]
  split <;> rfl
theorem gL_0 (g : Nat → Nat → Int) (col : Nat → Int) (b : Nat) : gL g col 0 b = g 0 b := gL_f g col 0 b (by omega)
theorem gL_y (g : Nat → Nat → Int) (col : Nat → Int) (f b : Nat) (h : col b < 0) : gL g col f b = g f b := by unfold gL; rw [if_neg (by omega)]
theorem gL_4 (g : Nat → Nat → Int) (col : Nat → Int) (b : Nat) (h : 0 ≤ col b) : gL g col 4 b = -1 := by unfold gL; rw [if_pos h]; rfl
theorem gL_5 (g : Nat → Nat → Int) (col : Nat → Int) (b : Nat) (h : 0 ≤ col b) : gL g col 5 b = col b := by unfold gL; rw [if_pos h]; rfl
theorem gL_6 (g : Nat → Nat → Int) (col : Nat → Int) (b : Nat) (h : 0 ≤ col b) : gL g col 6 b = lv g b (col b) := by unfold gL; rw [if_pos h]; rfl
/-- all in the yard -/
def YD (n : Nat) (W : Int) (g : Nat → Nat → Int) : Prop := okT n W g ∧ ∀ b, g 5 b = -1 ∧ g 6 b = -1
/-- columns for some of the blocks, in range -/
def CO (n : Nat) (W : Int) (g : Nat → Nat → Int) (col : Nat → Int) : Prop := ∀ b, -1 ≤ col b ∧ (0 ≤ col b → b < n ∧ col b + g 0 b ≤ W ∧ 0 ≤ g 4 b - 10 - col b)
def Good (n : Nat) (W : Int) (g : Nat → Nat → Int) (col : Nat → Int) : Prop := okT n W (gL g col) ∧ (∀ b, b < n → 0 ≤ col b → sth n (gL g col) b) ∧ ovl_ n (gL g col) = -1
def cS (p : Nat → Bool) (col : Nat → Int) : Nat → Int := fun b => if p b then col b else -1
theorem cS_t (p : Nat → Bool) (col : Nat → Int) (b : Nat) (h : p b = true) : cS p col b = col b := by unfold cS; rw [if_pos h]
theorem cS_f (p : Nat → Bool) (col : Nat → Int) (b : Nat) (h : ¬ p b = true) : cS p col b = -1 := by unfold cS; rw [if_neg h]
theorem ce_ne (g : Nat → Nat → Int) (c l : Int) (n : Nat) : ce g c l n ≠ -1 ↔ ∃ b, b < n ∧ cov g b c ∧ g 6 b = l := by
  rcases ce_cases g c l n with ⟨e, h⟩ | ⟨b, hb, e, cv, lv⟩
  · constructor
    · intro q; exact absurd e q
    · rintro ⟨b, hb, cv, lv⟩; exact absurd lv (h b hb cv)
  · constructor
    · intro _; exact ⟨b, hb, cv, lv⟩
    · intro _; omega
theorem gL5_nn (g : Nat → Nat → Int) (col : Nat → Int) (hy : ∀ b, g 5 b = -1 ∧ g 6 b = -1) (b : Nat) : 0 ≤ gL g col 5 b ↔ 0 ≤ col b := by
  by_cases z : 0 ≤ col b
  · rw [gL_5 g col b z]
  · rw [gL_y g col 5 b (by omega), (hy b).1]; omega
theorem cov_gL (g : Nat → Nat → Int) (col : Nat → Int) (hy : ∀ b, g 5 b = -1 ∧ g 6 b = -1) (b : Nat) (q : Int) : cov (gL g col) b q ↔ 0 ≤ col b ∧ col b ≤ q ∧ q < col b + g 0 b := by
  unfold cov
  rw [gL_0]
  by_cases z : 0 ≤ col b
  · rw [gL_5 g col b z]
  · rw [gL_y g col 5 b (by omega), (hy b).1]; omega
theorem ovl_gL (g : Nat → Nat → Int) (col : Nat → Int) (hy : ∀ b, g 5 b = -1 ∧ g 6 b = -1) (b o : Nat) : ovl (gL g col) b o ↔ 0 ≤ col b ∧ 0 ≤ col o ∧ col o < col b + g 0 b ∧ col b < col o + g 0 o := by
  unfold ovl
  rw [gL_0, gL_0]
  by_cases z : 0 ≤ col b
  · rw [gL_5 g col b z]
    by_cases y : 0 ≤ col o
    · rw [gL_5 g col o y]
    · rw [gL_y g col 5 o (by omega), (hy o).1]; omega
  · rw [gL_y g col 5 b (by omega), (hy b).1]; omega
/-- one more put -/
theorem gL_add (g : Nat → Nat → Int) (col : Nat → Int) (p : Nat → Bool) (b : Nat) (hb : 0 ≤ col b) (hp : ¬ p b = true) : gP (gL g (cS p col)) b (-1) (col b) (lv g b (col b)) = gL g (cS (fun x => p x || decide (x = b)) col) := by
  funext f x
  by_cases z : x = b
  · subst z
    have e : cS (fun y => p y || decide (y = x)) col x = col x := cS_t _ _ _ (by simp)
    unfold gP
    rw [if_pos rfl]
    by_cases f4 : f = 4
    · subst f4; rw [if_pos rfl, gL_4 _ _ _ (by rw [e]; exact hb)]
    · rw [if_neg f4]
      by_cases f5 : f = 5
      · subst f5; rw [if_pos rfl, gL_5 _ _ _ (by rw [e]; exact hb), e]
      · rw [if_neg f5]
        by_cases f6 : f = 6
        · subst f6; rw [if_pos rfl, gL_6 _ _ _ (by rw [e]; exact hb), e]
        · rw [if_neg f6, gL_y _ _ _ _ (by rw [cS_f _ _ _ hp]; omega)]
          unfold gL
          rw [if_neg f4, if_neg f5, if_neg f6]
          split <;> rfl
  · rw [gP_n _ _ _ _ _ _ _ z]
    have e : cS (fun y => p y || decide (y = b)) col x = cS p col x := by unfold cS; simp [z]
    unfold gL
    rw [e]
/-- one lifted -/
theorem gL_sub (g : Nat → Nat → Int) (col : Nat → Int) (hy : ∀ b, g 5 b = -1 ∧ g 6 b = -1) (p : Nat → Bool) (b : Nat) (hb : 0 ≤ cS p col b) : gP (gL g (cS p col)) b (g 4 b) (-1) (-1) = gL g (cS (fun x => p x && !decide (x = b)) col) := by
  funext f x
  by_cases z : x = b
  · subst z
    have e : cS (fun y => p y && !decide (y = x)) col x = -1 := cS_f _ _ _ (by simp)
    rw [gL_y g (cS (fun y => p y && !decide (y = x)) col) f x (by rw [e]; omega)]
    unfold gP
    rw [if_pos rfl]
    by_cases f4 : f = 4
    · subst f4; rw [if_pos rfl]
    · rw [if_neg f4]
      by_cases f5 : f = 5
      · subst f5; rw [if_pos rfl, (hy x).1]
      · rw [if_neg f5]
        by_cases f6 : f = 6
        · subst f6; rw [if_pos rfl, (hy x).2]
        · rw [if_neg f6]
          unfold gL
          rw [if_neg f4, if_neg f5, if_neg f6]
          split <;> rfl
  · rw [gP_n _ _ _ _ _ _ _ z]
    have e : cS (fun y => p y && !decide (y = b)) col x = cS p col x := by unfold cS; simp [z]
    unfold gL
    rw [e]
theorem gL_none (g : Nat → Nat → Int) (col : Nat → Int) (h : ∀ b, col b < 0) : gL g col = g := by
  funext f b
  exact gL_y g col f b (h b)
theorem gL_cg (g : Nat → Nat → Int) (col col' : Nat → Int) (h : ∀ b, col b = col' b) : gL g col = gL g col' := by
  rw [show col = col' from funext h]
/-- in a tower of some of the blocks: what bears a block stays -/
theorem bor_mono {n : Nat} {g : Nat → Nat → Int} (hy : ∀ b, g 5 b = -1 ∧ g 6 b = -1) (col col' : Nat → Int) (b : Nat) (hb : 0 ≤ col b) (hb' : 0 ≤ col' b) (e : col b = col' b) (h : ∀ o, o < n → 0 ≤ col o → lv g o (col o) < lv g b (col b) → col' o = col o) (k : Int) (hk : bor n (gL g col) b k) : bor n (gL g col') b k := by
  unfold bor at hk ⊢
  rw [gL_6 g col b hb, gL_5 g col b hb] at hk
  rw [gL_6 g col' b hb', gL_5 g col' b hb', ← e]
  rcases hk with z | z
  · exact Or.inl z
  · right
    rw [ce_ne] at z ⊢
    obtain ⟨o, ho, cv, l⟩ := z
    rw [cov_gL g col hy] at cv
    rw [gL_6 g col o cv.1] at l
    have eo := h o ho cv.1 (by omega)
    refine ⟨o, ho, (cov_gL g col' hy o _).mpr (by rw [eo]; exact cv), ?_⟩
    rw [gL_6 g col' o (by rw [eo]; exact cv.1), eo]
    exact l
theorem sth_mono {n : Nat} {g : Nat → Nat → Int} (hy : ∀ b, g 5 b = -1 ∧ g 6 b = -1) (col col' : Nat → Int) (b : Nat) (hb : 0 ≤ col b) (hb' : 0 ≤ col' b) (e : col b = col' b) (h : ∀ o, o < n → 0 ≤ col o → lv g o (col o) < lv g b (col b) → col' o = col o) (hk : sth n (gL g col) b) : sth n (gL g col') b := by
  have m := fun k => bor_mono hy col col' b hb hb' e h k
  unfold sth at hk ⊢
  rw [gL_0] at hk ⊢
  rcases hk with ⟨a, q | ⟨q1, q2⟩⟩ | ⟨a, q1, q2⟩
  · exact Or.inl ⟨a, Or.inl (m _ q)⟩
  · exact Or.inl ⟨a, Or.inr ⟨m _ q1, m _ q2⟩⟩
  · exact Or.inr ⟨a, m _ q1, m _ q2⟩
/-- where the whole is a tower, each of its blocks goes where it should -/
theorem leaf_step {n : Nat} {W : Int} {g : Nat → Nat → Int} (hY : YD n W g) {col : Nat → Int} (hC : CO n W g col) (hA : okT n W (gL g col)) (b : Nat) (hb : 0 ≤ col b) (hs : sth n (gL g col) b) (p : Nat → Bool) (hp : ∀ o, p o = true → 0 ≤ col o ∧ lv g o (col o) ≤ lv g b (col b)) (hlow : ∀ o, 0 ≤ col o → lv g o (col o) < lv g b (col b) → p o = true) (hpb : ¬ p b = true) (hS : okT n W (gL g (cS p col))) : la n (gL g (cS p col)) (col b) (g 0 b).toNat = lv g b (col b) ∧ stn n (gL g (cS p col)) b (col b) := by
  have hy := hY.2
  obtain ⟨hbn, hbW, hbl⟩ := (hC b).2 hb
  have len := hY.1.2.2.2.1 b hbn
  unfold okB at len
  have l0 : 0 ≤ lv g b (col b) := by unfold lv; omega
  have le : la n (gL g (cS p col)) (col b) (g 0 b).toNat ≤ lv g b (col b) := by
    rcases la_att n (gL g (cS p col)) (col b) (g 0 b).toNat with e | ⟨i, hi', e⟩
    · omega
    · rw [e]
      refine hi_le _ _ _ _ l0 (fun o ho cv => ?_)
      rw [cov_gL g (cS p col) hy] at cv
      have po : p o = true := by
        by_cases z : p o = true
        · exact z
        · have := cS_f p col o z; omega
      have eo := cS_t p col o po
      rw [eo] at cv
      obtain ⟨h1, h2⟩ := hp o po
      have ne : o ≠ b := fun q => hpb (q ▸ po)
      have neq := hA.2.2.2.2.1 b hbn o ho (Ne.symm ne) ((ovl_gL g col hy b o).mpr ⟨hb, cv.1, by omega, by omega⟩)
      rw [gL_6 g col b hb, gL_6 g col o cv.1] at neq
      rw [gL_6 g (cS p col) o (by rw [eo]; exact cv.1), eo]
      omega
  have ge : lv g b (col b) ≤ la n (gL g (cS p col)) (col b) (g 0 b).toNat := by
    rcases hA.2.2.2.2.2 b hbn (by rw [gL_5 g col b hb]; exact hb) with z | ⟨o, ho, ov, z⟩
    · rw [gL_6 g col b hb] at z
      rw [z]; exact la_nn _ _ _ _
    · rw [ovl_gL g col hy] at ov
      rw [gL_6 g col b hb, gL_6 g col o ov.2.1] at z
      have po := hlow o ov.2.1 (by omega)
      have eo := cS_t p col o po
      have hlen := hY.1.2.2.2.1 o ho
      unfold okB at hlen
      have q : ∃ q : Int, col b ≤ q ∧ q < col b + g 0 b ∧ col o ≤ q ∧ q < col o + g 0 o := by
        by_cases y : col b ≤ col o
        · exact ⟨col o, by omega, by omega, by omega, by omega⟩
        · exact ⟨col b, by omega, by omega, by omega, by omega⟩
      obtain ⟨q, q1, q2, q3, q4⟩ := q
      have a := hi_ge (gL g (cS p col)) q n o ho ((cov_gL g (cS p col) hy o q).mpr (by rw [eo]; exact ⟨ov.2.1, q3, q4⟩))
      rw [gL_6 g (cS p col) o (by rw [eo]; exact ov.2.1), eo] at a
      have a2 := la_ge n (gL g (cS p col)) (col b) (g 0 b).toNat (q - col b).toNat (by omega)
      rw [show col b + (((q - col b).toNat : Nat) : Int) = q by omega] at a2
      omega
  have el : la n (gL g (cS p col)) (col b) (g 0 b).toNat = lv g b (col b) := by omega
  refine ⟨el, ?_⟩
  have yb : gL g (cS p col) 5 b < 0 := by rw [gL_y _ _ _ _ (by rw [cS_f p col b hpb]; omega), (hy b).1]; omega
  rw [← sth_stn hS b hbn yb (col b) hb (by rw [gL_0]; exact hbW)]
  have eg : gD n (gL g (cS p col)) b (col b) = gL g (cS (fun x => p x || decide (x = b)) col) := by
    unfold gD
    rw [gL_0, el]
    exact gL_add g col p b hb hpb
  rw [eg]
  have eb : cS (fun x => p x || decide (x = b)) col b = col b := cS_t _ _ _ (by simp)
  refine sth_mono hy col _ b hb (by rw [eb]; exact hb) eb.symm (fun o ho h1 h2 => ?_) hs
  exact cS_t _ _ _ (by simp [hlow o h1 h2])
/-- a block that went where it should: then so in the whole -/
theorem leaf_back {n : Nat} {W : Int} {g : Nat → Nat → Int} (hY : YD n W g) {col : Nat → Int} (hC : CO n W g col) (b : Nat) (hb : 0 ≤ col b) (p : Nat → Bool) (hpb : ¬ p b = true) (hS : okT n W (gL g (cS p col))) (el : la n (gL g (cS p col)) (col b) (g 0 b).toNat = lv g b (col b)) (hs : stn n (gL g (cS p col)) b (col b)) : okT n W (gL g (cS (fun x => p x || decide (x = b)) col)) ∧ sth n (gL g col) b ∧ gD n (gL g (cS p col)) b (col b) = gL g (cS (fun x => p x || decide (x = b)) col) := by
  have hy := hY.2
  obtain ⟨hbn, hbW, hbl⟩ := (hC b).2 hb
  have yb : gL g (cS p col) 5 b < 0 := by rw [gL_y _ _ _ _ (by rw [cS_f p col b hpb]; omega), (hy b).1]; omega
  have eg : gD n (gL g (cS p col)) b (col b) = gL g (cS (fun x => p x || decide (x = b)) col) := by
    unfold gD
    rw [gL_0, el]
    exact gL_add g col p b hb hpb
  have od := okT_drop hS hbn (col b) yb hb (by rw [gL_0]; exact hbW)
  have eb : cS (fun x => p x || decide (x = b)) col b = col b := cS_t _ _ _ (by simp)
  refine ⟨by rw [← eg]; exact od, ?_, eg⟩
  rw [← sth_stn hS b hbn yb (col b) hb (by rw [gL_0]; exact hbW), eg] at hs
  refine sth_mono hy _ col b (by rw [eb]; exact hb) hb eb (fun o ho h1 _ => ?_) hs
  by_cases z : (p o || decide (o = b)) = true
  · exact (cS_t _ _ _ z).symm
  · have := cS_f (fun x => p x || decide (x = b)) col o z; omega
/-- levels are below the number of blocks put -/
theorem leaf_lev {n : Nat} {W : Int} {g : Nat → Nat → Int} (hY : YD n W g) {col : Nat → Int} (hA : okT n W (gL g col)) (k : Nat) (bs : Nat → Nat) (hbs : ∀ b, 0 ≤ col b → ∃ j, j < k ∧ bs j = b) (b : Nat) (hbn : b < n) (hb : 0 ≤ col b) : lv g b (col b) < k := by
  have hy := hY.2
  have l0 : 0 ≤ gL g col 6 b := by
    have := (hA.2.2.2.1 b hbn).2.2.2.2.2.2.2.2.2
    rw [gL_5 g col b hb] at this
    omega
  have ch := okT_chain hA (gL g col 6 b).toNat b hbn (by rw [gL_5 g col b hb]; exact hb) (by omega)
  have ch2 : ∀ i, i ≤ (gL g col 6 b).toNat → ∃ j, j < k ∧ gL g col 6 (bs j) = i := by
    intro i hi'
    obtain ⟨o, h1, h2, h3⟩ := ch i hi'
    obtain ⟨j, h4, h5⟩ := hbs o ((gL5_nn g col hy o).mp h2)
    exact ⟨j, h4, by rw [h5]; exact h3⟩
  have : (gL g col 6 b).toNat + 1 ≤ k := by
    refine php k _ (fun i => if q : i ≤ (gL g col 6 b).toNat then (ch2 i q).choose else 0) ?_ ?_
    · intro i hi'
      show (if q : i ≤ (gL g col 6 b).toNat then (ch2 i q).choose else 0) < k
      rw [dif_pos (by omega)]
      exact (ch2 i (by omega)).choose_spec.1
    · intro i j hi' hj e
      have e' : (if q : i ≤ (gL g col 6 b).toNat then (ch2 i q).choose else 0) = (if q : j ≤ (gL g col 6 b).toNat then (ch2 j q).choose else 0) := e
      rw [dif_pos (by omega), dif_pos (by omega)] at e'
      have a1 := (ch2 i (by omega)).choose_spec.2
      have a2 := (ch2 j (by omega)).choose_spec.2
      rw [e'] at a1
      omega
  rw [gL_6 g col b hb] at this l0
  omega
