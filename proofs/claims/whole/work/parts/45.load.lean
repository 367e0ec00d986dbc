/-! ===== loads ===== -/
def sumN (f : Nat → Int) : Nat → Int
  | 0 => 0
  | n + 1 => sumN f n + f n
theorem sumN_congr {f f' : Nat → Int} : ∀ n, (∀ i, i < n → f i = f' i) → sumN f n = sumN f' n := by
  intro n
  induction n with
  | zero => intro _; rfl
  | succ n ih => intro h; unfold sumN; rw [ih (fun i hi => h i (by omega)), h n (by omega)]
theorem sumN_add (f f' : Nat → Int) : ∀ n, sumN (fun i => f i + f' i) n = sumN f n + sumN f' n := by
  intro n
  induction n with
  | zero => rfl
  | succ n ih => unfold sumN; rw [ih]; omega
theorem sumN_le {f f' : Nat → Int} : ∀ n, (∀ i, i < n → f i ≤ f' i) → sumN f n ≤ sumN f' n := by
  intro n
  induction n with
  | zero => intro _; exact Int.le_refl _
  | succ n ih => intro h; unfold sumN; have := ih (fun i hi => h i (by omega)); have := h n (by omega); omega
theorem sumN_zero : ∀ n, sumN (fun _ => 0) n = 0 := by
  intro n
  induction n with
  | zero => rfl
  | succ n ih => unfold sumN; rw [ih]; rfl
theorem sumN_nn {f : Nat → Int} (n : Nat) (h : ∀ i, i < n → 0 ≤ f i) : 0 ≤ sumN f n := by
  have := sumN_le (f := fun _ => 0) (f' := f) n h
  rw [sumN_zero] at this
  exact this
theorem sumN_one {f : Nat → Int} : ∀ n, (∀ i, i < n → 0 ≤ f i) → ∀ i, i < n → f i ≤ sumN f n := by
  intro n
  induction n with
  | zero => intro _ i hi; omega
  | succ n ih =>
    intro h i hi
    unfold sumN
    by_cases e : i = n
    · subst e; have := sumN_nn i (fun j hj => h j (by omega)); omega
    · have := ih (fun j hj => h j (by omega)) i (by omega); have := h n (by omega); omega
theorem sumN_comm (f : Nat → Nat → Int) (m : Nat) : ∀ n, sumN (fun i => sumN (fun j => f i j) m) n = sumN (fun j => sumN (fun i => f i j) n) m := by
  intro n
  induction n with
  | zero => exact (sumN_zero m).symm
  | succ n ih =>
    show sumN (fun i => sumN (fun j => f i j) m) n + sumN (fun j => f n j) m = sumN (fun j => sumN (fun i => f i j) n + f n j) m
    rw [ih, sumN_add]
theorem sumN_if (x : Nat) (v : Int) : ∀ n, sumN (fun i => if i = x then v else 0) n = if x < n then v else 0 := by
  intro n
  induction n with
  | zero => rfl
  | succ n ih =>
    unfold sumN
    rw [ih]
    by_cases e : n = x
    · subst e; rw [if_neg (by omega), if_pos rfl, if_pos (by omega)]; omega
    · rw [if_neg e]
      by_cases z : x < n
      · rw [if_pos z, if_pos (by omega)]; omega
      · rw [if_neg z, if_neg (by omega)]; omega
/-- bearing columns among the first k of block o -/
def nb (n : Nat) (g : Nat → Nat → Int) (o : Nat) : Nat → Int
  | 0 => 0
  | k + 1 => nb n g o k + (if ce g (g 5 o + k) (g 6 o - 1) n = -1 then 0 else 1)
/-- what the first k columns of block o give to block b of all -/
def ck (n : Nat) (g : Nat → Nat → Int) (o : Nat) (all : Int) (b : Nat) : Nat → Int
  | 0 => 0
  | k + 1 => ck n g o all b k + (if ce g (g 5 o + k) (g 6 o - 1) n = b then all / nb n g o (g 0 o).toNat + (if nb n g o k < all % nb n g o (g 0 o).toNat then 1 else 0) else 0)
abbrev ctr (n : Nat) (g : Nat → Nat → Int) (o : Nat) (all : Int) (b : Nat) : Int := ck n g o all b (g 0 o).toNat
theorem nb_rng (n : Nat) (g : Nat → Nat → Int) (o : Nat) : ∀ k, 0 ≤ nb n g o k ∧ nb n g o k ≤ k := by
  intro k
  induction k with
  | zero => unfold nb; omega
  | succ k ih => unfold nb; split <;> omega
theorem nb_mono (n : Nat) (g : Nat → Nat → Int) (o : Nat) (k : Nat) : ∀ d, nb n g o k ≤ nb n g o (k + d) := by
  intro d
  induction d with
  | zero => exact Int.le_refl _
  | succ d ih =>
    show nb n g o k ≤ nb n g o (k + d) + _
    split <;> omega
/-- at a bearing column there is room for its share -/
theorem nb_lt (n : Nat) (g : Nat → Nat → Int) (o : Nat) (k m : Nat) (h : k < m) (hc : ce g (g 5 o + k) (g 6 o - 1) n ≠ -1) : nb n g o k < nb n g o m := by
  have a := nb_mono n g o (k + 1) (m - (k + 1))
  rw [show k + 1 + (m - (k + 1)) = m by omega] at a
  have : nb n g o (k + 1) = nb n g o k + 1 := by
    show nb n g o k + _ = _
    rw [if_neg hc]
  omega
theorem ck_nn (n : Nat) (g : Nat → Nat → Int) (o : Nat) (all : Int) (h : 0 ≤ all) (b : Nat) : ∀ k, 0 ≤ ck n g o all b k := by
  intro k
  induction k with
  | zero => exact Int.le_refl _
  | succ k ih =>
    unfold ck
    have := nb_rng n g o (g 0 o).toNat
    have := Int.ediv_nonneg h this.1
    split
    · split <;> omega
    · omega
/-- it gives to the level below alone -/
theorem ck_off (n : Nat) (g : Nat → Nat → Int) (o : Nat) (all : Int) (b : Nat) (h : ¬ (0 ≤ g 5 b ∧ g 6 b = g 6 o - 1)) : ∀ k, ck n g o all b k = 0 := by
  intro k
  induction k with
  | zero => rfl
  | succ k ih =>
    unfold ck
    rw [ih, if_neg]
    · rfl
    · intro z
      rcases ce_cases g (g 5 o + k) (g 6 o - 1) n with ⟨e, _⟩ | ⟨x, _, e, hc, e'⟩
      · omega
      · have : x = b := by omega
        subst this
        unfold cov at hc
        omega
theorem ck_sum (n : Nat) (g : Nat → Nat → Int) (o : Nat) (all : Int) : ∀ k, sumN (fun b => ck n g o all b k) n = nb n g o k * (all / nb n g o (g 0 o).toNat) + min (nb n g o k) (max 0 (all % nb n g o (g 0 o).toNat)) := by
  intro k
  induction k with
  | zero =>
    show sumN (fun _ => (0 : Int)) n = 0 * _ + min 0 _
    rw [sumN_zero, Int.zero_mul]
    omega
  | succ k ih =>
    have e : sumN (fun b => ck n g o all b (k + 1)) n = sumN (fun b => ck n g o all b k) n + sumN (fun b => if ce g (g 5 o + k) (g 6 o - 1) n = b then all / nb n g o (g 0 o).toNat + (if nb n g o k < all % nb n g o (g 0 o).toNat then 1 else 0) else 0) n := sumN_add _ _ n
    rw [e, ih]
    have r := nb_rng n g o k
    show _ = (nb n g o k + _) * _ + min (nb n g o k + _) _
    rcases ce_cases g (g 5 o + k) (g 6 o - 1) n with ⟨e', _⟩ | ⟨x, hx, e', _, _⟩
    · rw [if_pos e', Int.add_zero]
      rw [sumN_congr (f' := fun _ => 0) n (fun i hi => by rw [if_neg (by omega)]), sumN_zero]
      omega
    · rw [if_neg (show ¬ ce g (g 5 o + k) (g 6 o - 1) n = -1 by omega), Int.add_mul, Int.one_mul]
      rw [sumN_congr (f' := fun i => if i = x then all / nb n g o (g 0 o).toNat + (if nb n g o k < all % nb n g o (g 0 o).toNat then 1 else 0) else 0) n (fun i hi => by
        by_cases z : i = x
        · rw [if_pos (by omega), if_pos z]
        · rw [if_neg (by omega), if_neg z]), sumN_if, if_pos hx]
      split <;> omega
theorem ctr_sum (n : Nat) (g : Nat → Nat → Int) (o : Nat) (all : Int) (h : 0 ≤ all) : sumN (fun b => ctr n g o all b) n ≤ all := by
  unfold ctr
  rw [ck_sum]
  have r := nb_rng n g o (g 0 o).toNat
  generalize nb n g o (g 0 o).toNat = N at *
  by_cases z : N = 0
  · subst z; rw [Int.zero_mul]; omega
  · have a := Int.mul_ediv_add_emod all N
    have b := Int.emod_nonneg all z
    omega
/-- a share is monotone in all -/
theorem sh_mono (x y N r : Int) (h : x ≤ y) (h0 : 0 ≤ x) (hN : 0 < N) (hN3 : N ≤ 3) (hr : 0 ≤ r) (hrN : r < N) : x / N + (if r < x % N then 1 else 0) ≤ y / N + (if r < y % N then 1 else 0) := by
  have : N = 1 ∨ N = 2 ∨ N = 3 := by omega
  rcases this with e | e | e <;> subst e <;> split <;> split <;> omega
def ldF (n : Nat) (g : Nat → Nat → Int) : Nat → Nat → Int
  | 0, _ => 0
  | f + 1, b => sumN (fun o => if 0 ≤ g 5 o ∧ g 6 o = g 6 b + 1 then ctr n g o (g 1 o + ldF n g f o) b else 0) n
def ld (n : Nat) (g : Nat → Nat → Int) (b : Nat) : Int := ldF n g 20 b
theorem ldF_st {n : Nat} {W : Int} {g : Nat → Nat → Int} (h : okD n W g) : ∀ (f : Nat) (b : Nat), 19 ≤ (f : Int) + g 6 b → ldF n g (f + 1) b = ldF n g f b := by
  intro f
  induction f with
  | zero =>
    intro b hb
    show sumN _ n = 0
    rw [sumN_congr (f' := fun _ => 0) n (fun i hi => by
      have := (h.2.2.2.1 i hi).2
      rw [if_neg (by omega)]), sumN_zero]
  | succ f ih =>
    intro b hb
    show sumN (fun o => if 0 ≤ g 5 o ∧ g 6 o = g 6 b + 1 then ctr n g o (g 1 o + ldF n g (f + 1) o) b else 0) n = sumN (fun o => if 0 ≤ g 5 o ∧ g 6 o = g 6 b + 1 then ctr n g o (g 1 o + ldF n g f o) b else 0) n
    apply sumN_congr
    intro o ho
    by_cases z : 0 ≤ g 5 o ∧ g 6 o = g 6 b + 1
    · rw [if_pos z, if_pos z, ih o (by omega)]
    · rw [if_neg z, if_neg z]
theorem ld_eq {n : Nat} {W : Int} {g : Nat → Nat → Int} (h : okD n W g) (b : Nat) (hb : 0 ≤ g 6 b) : ld n g b = sumN (fun o => if 0 ≤ g 5 o ∧ g 6 o = g 6 b + 1 then ctr n g o (g 1 o + ld n g o) b else 0) n := by
  unfold ld
  show sumN (fun o => if 0 ≤ g 5 o ∧ g 6 o = g 6 b + 1 then ctr n g o (g 1 o + ldF n g 19 o) b else 0) n = _
  apply sumN_congr
  intro o ho
  by_cases z : 0 ≤ g 5 o ∧ g 6 o = g 6 b + 1
  · rw [if_pos z, if_pos z, ldF_st h 19 o (by omega)]
  · rw [if_neg z, if_neg z]
theorem ldF_nn {n : Nat} {W : Int} {g : Nat → Nat → Int} (h : okD n W g) : ∀ (f : Nat) (b : Nat), 0 ≤ ldF n g f b := by
  intro f
  induction f with
  | zero => intro b; exact Int.le_refl _
  | succ f ih =>
    intro b
    refine sumN_nn n (fun o ho => ?_)
    have r := (h.2.2.2.1 o ho).1
    unfold okB at r
    have := ih o
    split
    · exact ck_nn n g o _ (by omega) b _
    · exact Int.le_refl _
theorem ld_nn {n : Nat} {W : Int} {g : Nat → Nat → Int} (h : okD n W g) (b : Nat) : 0 ≤ ld n g b := ldF_nn h 20 b
/-- what a level and all above it weigh -/
theorem ld_tot {n : Nat} {W : Int} {g : Nat → Nat → Int} (h : okD n W g) : ∀ (d : Nat) (l : Nat), l + d = 20 → sumN (fun b => if 0 ≤ g 5 b ∧ g 6 b = l then g 1 b + ld n g b else 0) n ≤ sumN (fun b => if 0 ≤ g 5 b ∧ (l : Int) ≤ g 6 b then g 1 b else 0) n := by
  intro d
  induction d with
  | zero =>
    intro l hl
    apply sumN_le
    intro b hb
    have r := h.2.2.2.1 b hb
    rw [if_neg (by omega), if_neg (by omega)]
    exact Int.le_refl _
  | succ d ih =>
    intro l hl
    have a := ih (l + 1) (by omega)
    have e1 : sumN (fun b => if 0 ≤ g 5 b ∧ g 6 b = l then g 1 b + ld n g b else 0) n = sumN (fun b => if 0 ≤ g 5 b ∧ g 6 b = l then g 1 b else 0) n + sumN (fun b => if 0 ≤ g 5 b ∧ g 6 b = l then ld n g b else 0) n := by
      rw [← sumN_add]
      apply sumN_congr
      intro b _
      split <;> omega
    have e2 : sumN (fun b => if 0 ≤ g 5 b ∧ (l : Int) ≤ g 6 b then g 1 b else 0) n = sumN (fun b => if 0 ≤ g 5 b ∧ g 6 b = l then g 1 b else 0) n + sumN (fun b => if 0 ≤ g 5 b ∧ ((l + 1 : Nat) : Int) ≤ g 6 b then g 1 b else 0) n := by
      rw [← sumN_add]
      apply sumN_congr
      intro b _
      by_cases z : 0 ≤ g 5 b ∧ g 6 b = l
      · rw [if_pos z, if_pos (by omega), if_neg (by omega)]; omega
      · rw [if_neg z]
        by_cases z' : 0 ≤ g 5 b ∧ (l : Int) ≤ g 6 b
        · rw [if_pos z', if_pos (by omega)]; omega
        · rw [if_neg z', if_neg (by omega)]; rfl
    have e3 : sumN (fun b => if 0 ≤ g 5 b ∧ g 6 b = l then ld n g b else 0) n ≤ sumN (fun o => if 0 ≤ g 5 o ∧ g 6 o = ((l + 1 : Nat) : Int) then g 1 o + ld n g o else 0) n := by
      have s1 : sumN (fun b => if 0 ≤ g 5 b ∧ g 6 b = l then ld n g b else 0) n ≤ sumN (fun b => sumN (fun o => if 0 ≤ g 5 o ∧ g 6 o = ((l + 1 : Nat) : Int) then ctr n g o (g 1 o + ld n g o) b else 0) n) n := by
        apply sumN_le
        intro b hb
        by_cases z : 0 ≤ g 5 b ∧ g 6 b = l
        · rw [if_pos z, ld_eq h b (by omega)]
          apply sumN_le
          intro o _
          by_cases z' : 0 ≤ g 5 o ∧ g 6 o = g 6 b + 1
          · rw [if_pos z', if_pos (by omega)]; exact Int.le_refl _
          · rw [if_neg z', if_neg (by omega)]; exact Int.le_refl _
        · rw [if_neg z]
          refine sumN_nn n (fun o ho => ?_)
          have r := (h.2.2.2.1 o ho).1
          unfold okB at r
          have := ld_nn h o
          split
          · exact ck_nn n g o _ (by omega) b _
          · exact Int.le_refl _
      rw [sumN_comm] at s1
      refine Int.le_trans s1 ?_
      apply sumN_le
      intro o ho
      have r := (h.2.2.2.1 o ho).1
      unfold okB at r
      have := ld_nn h o
      by_cases z : 0 ≤ g 5 o ∧ g 6 o = ((l + 1 : Nat) : Int)
      · rw [if_pos z]
        rw [sumN_congr (f' := fun b => ctr n g o (g 1 o + ld n g o) b) n (fun i _ => by rw [if_pos z])]
        exact ctr_sum n g o _ (by omega)
      · rw [if_neg z]
        rw [sumN_congr (f' := fun _ => 0) n (fun i _ => by rw [if_neg z]), sumN_zero]
        exact Int.le_refl _
    omega
theorem sumN_bd {f : Nat → Int} (m : Int) : ∀ n, (∀ i, i < n → f i ≤ m) → 0 ≤ m → sumN f n ≤ m * n := by
  intro n
  induction n with
  | zero => intro _ _; show (0 : Int) ≤ _; omega
  | succ n ih =>
    intro h h0
    have a := ih (fun i hi => h i (by omega)) h0
    have b := h n (by omega)
    show sumN f n + f n ≤ _
    rw [show ((n + 1 : Nat) : Int) = (n : Int) + 1 by omega, Int.mul_add, Int.mul_one]
    omega
theorem ld_le {n : Nat} {W : Int} {g : Nat → Nat → Int} (h : okD n W g) (b : Nat) (hb : b < n) (hc : 0 ≤ g 5 b) : g 1 b + ld n g b ≤ 1980 := by
  have r := (h.2.2.2.1 b hb)
  have r' := r.1
  unfold okB at r'
  have a := ld_tot h (20 - (g 6 b).toNat) (g 6 b).toNat (by omega)
  have c := sumN_one (f := fun x => if 0 ≤ g 5 x ∧ g 6 x = ((g 6 b).toNat : Int) then g 1 x + ld n g x else 0) n (fun i hi => by
    have q := (h.2.2.2.1 i hi).1
    unfold okB at q
    have := ld_nn h i
    show 0 ≤ (if 0 ≤ g 5 i ∧ g 6 i = ((g 6 b).toNat : Int) then g 1 i + ld n g i else 0)
    split <;> omega) b hb
  have d := sumN_bd (f := fun x => if 0 ≤ g 5 x ∧ (((g 6 b).toNat : Nat) : Int) ≤ g 6 x then g 1 x else 0) 99 n (fun i hi => by
    have q := (h.2.2.2.1 i hi).1
    unfold okB at q
    show (if 0 ≤ g 5 i ∧ (((g 6 b).toNat : Nat) : Int) ≤ g 6 i then g 1 i else 0) ≤ 99
    split <;> omega) (by omega)
  have hn := h.1
  have e : (if 0 ≤ g 5 b ∧ g 6 b = ((g 6 b).toNat : Int) then g 1 b + ld n g b else 0) = g 1 b + ld n g b := if_pos ⟨hc, by omega⟩
  have c' : (if 0 ≤ g 5 b ∧ g 6 b = ((g 6 b).toNat : Int) then g 1 b + ld n g b else 0) ≤ _ := c
  rw [e] at c'
  omega
/-- loads while they are being laid: all of the levels l and above are right, and what level l's blocks in P gave lies below -/
def LI (n : Nat) (g : Nat → Nat → Int) (l : Int) (P : Nat → Prop) (L : Nat → Int) : Prop :=
  (∀ b, b < n → ¬ 0 ≤ g 5 b → L b = 0) ∧ (∀ b, b < n → 0 ≤ g 5 b → l ≤ g 6 b → L b = ld n g b) ∧ (∀ b, b < n → 0 ≤ g 5 b → g 6 b < l - 1 → L b = 0) ∧
  ∃ Q : Nat → Int, (∀ o, (P o → Q o = 1) ∧ (¬ P o → Q o = 0)) ∧ ∀ b, b < n → 0 ≤ g 5 b → g 6 b = l - 1 → L b = sumN (fun o => if 0 ≤ g 5 o ∧ g 6 o = l then Q o * ctr n g o (g 1 o + ld n g o) b else 0) n
theorem LI_start {n : Nat} {W : Int} {g : Nat → Nat → Int} (h : okD n W g) (l : Int) (hl : ∀ b, b < n → 0 ≤ g 5 b → g 6 b < l) (P : Nat → Prop) (hP : ∀ o, ¬ P o) : LI n g l P (fun _ => 0) := by
  refine ⟨fun _ _ _ => rfl, fun b hb hc z => ?_, fun _ _ _ _ => rfl, fun _ => 0, fun o => ⟨fun z => absurd z (hP o), fun _ => rfl⟩, fun b hb hc z => ?_⟩
  · have := hl b hb hc; omega
  · rw [sumN_congr (f' := fun _ => 0) n (fun o ho => by split <;> simp), sumN_zero]
theorem LI_next {n : Nat} {W : Int} {g : Nat → Nat → Int} (h : okD n W g) (l : Int) (P : Nat → Prop) (L : Nat → Int) (hL : LI n g l P L) (hall : ∀ o, o < n → 0 ≤ g 5 o → g 6 o = l → P o) (P' : Nat → Prop) (hP : ∀ o, ¬ P' o) (hl : 1 ≤ l) : LI n g (l - 1) P' L := by
  obtain ⟨h1, h2, h3, Q, hQ, h4⟩ := hL
  refine ⟨h1, fun b hb hc z => ?_, fun b hb hc z => h3 b hb hc (by omega), fun _ => 0, fun o => ⟨fun z => absurd z (hP o), fun _ => rfl⟩, fun b hb hc z => ?_⟩
  · by_cases e : l ≤ g 6 b
    · exact h2 b hb hc e
    · rw [h4 b hb hc (by omega), ld_eq h b (by omega)]
      apply sumN_congr
      intro o ho
      by_cases z' : 0 ≤ g 5 o ∧ g 6 o = l
      · rw [if_pos z', if_pos (by omega), (hQ o).1 (hall o ho z'.1 z'.2), Int.one_mul]
      · rw [if_neg z', if_neg (by omega)]
  · rw [h3 b hb hc (by omega)]
    symm
    rw [sumN_congr (f' := fun _ => 0) n (fun o ho => by split <;> simp), sumN_zero]
theorem sumN_upd (f : Nat → Int) (x : Nat) (v : Int) (n : Nat) (hx : x < n) : sumN (fun i => if i = x then f i + v else f i) n = sumN f n + v := by
  have := sumN_add f (fun i => if i = x then v else 0) n
  rw [sumN_if, if_pos hx] at this
  rw [← this]
  apply sumN_congr
  intro i _
  split <;> omega
theorem LI_step {n : Nat} {W : Int} {g : Nat → Nat → Int} (h : okD n W g) (l : Int) (P : Nat → Prop) (L : Nat → Int) (hL : LI n g l P L) (o : Nat) (ho : o < n) (hc : 0 ≤ g 5 o) (hlo : g 6 o = l) (hP : ¬ P o) (P' : Nat → Prop) (hP' : ∀ x, x ≠ o → (P' x ↔ P x)) (hPo : P' o) : L o = ld n g o ∧ LI n g l P' (fun b => L b + ctr n g o (g 1 o + ld n g o) b) := by
  obtain ⟨h1, h2, h3, Q, hQ, h4⟩ := hL
  refine ⟨h2 o ho hc (by omega), ?_, ?_, ?_, fun x => if x = o then 1 else Q x, ?_, ?_⟩
  · intro b hb hn
    show L b + ck n g o _ b _ = 0
    rw [h1 b hb hn, ck_off n g o _ b (by omega)]
    rfl
  · intro b hb hc' z
    show L b + ck n g o _ b _ = _
    rw [h2 b hb hc' z, ck_off n g o _ b (by omega), Int.add_zero]
  · intro b hb hc' z
    show L b + ck n g o _ b _ = _
    rw [h3 b hb hc' z, ck_off n g o _ b (by omega), Int.add_zero]
  · intro x
    show (P' x → (if x = o then (1 : Int) else Q x) = 1) ∧ (¬ P' x → (if x = o then (1 : Int) else Q x) = 0)
    by_cases e : x = o
    · rw [if_pos e]; subst e; exact ⟨fun _ => rfl, fun z => absurd hPo z⟩
    · rw [if_neg e, hP' x e]; exact hQ x
  · intro b hb hc' z
    show L b + _ = _
    rw [h4 b hb hc' z, ← sumN_upd _ o _ n ho]
    apply sumN_congr
    intro x hx
    by_cases e : x = o
    · subst e
      rw [if_pos rfl, if_pos ⟨hc, hlo⟩, if_pos ⟨hc, hlo⟩, (hQ x).2 hP]
      show 0 * _ + _ = (if x = x then (1 : Int) else Q x) * _
      rw [if_pos rfl, Int.zero_mul, Int.one_mul, Int.zero_add]
    · rw [if_neg e]
      show (if 0 ≤ g 5 x ∧ g 6 x = l then Q x * _ else 0) = if 0 ≤ g 5 x ∧ g 6 x = l then (if x = o then (1 : Int) else Q x) * _ else 0
      rw [if_neg e]
/-- ranges of loads while they are being laid -/
theorem LI_rng {n : Nat} {W : Int} {g : Nat → Nat → Int} (h : okD n W g) (l : Int) (P : Nat → Prop) (L : Nat → Int) (hL : LI n g l P L) (b : Nat) (hb : b < n) : 0 ≤ L b ∧ L b ≤ 1980 := by
  obtain ⟨h1, h2, h3, Q, hQ, h4⟩ := hL
  by_cases hc : 0 ≤ g 5 b
  · have a := ld_nn h b
    have c := ld_le h b hb hc
    have r := (h.2.2.2.1 b hb).1
    unfold okB at r
    by_cases z : l ≤ g 6 b
    · rw [h2 b hb hc z]; omega
    · by_cases z' : g 6 b = l - 1
      · have q : ∀ o, Q o = 0 ∨ Q o = 1 := by
          intro o
          rcases Classical.em (P o) with y | y
          · exact Or.inr ((hQ o).1 y)
          · exact Or.inl ((hQ o).2 y)
        rw [h4 b hb hc z']
        have e : ∀ o, o < n → 0 ≤ ctr n g o (g 1 o + ld n g o) b := by
          intro o ho
          have r := (h.2.2.2.1 o ho).1
          unfold okB at r
          have := ld_nn h o
          exact ck_nn n g o _ (by omega) b _
        refine ⟨sumN_nn n (fun o ho => ?_), ?_⟩
        · have := e o ho
          split
          · rcases q o with y | y <;> rw [y] <;> omega
          · exact Int.le_refl _
        · refine Int.le_trans (sumN_le (f' := fun o => if 0 ≤ g 5 o ∧ g 6 o = g 6 b + 1 then ctr n g o (g 1 o + ld n g o) b else 0) n (fun o ho => ?_)) ?_
          · have := e o ho
            by_cases y : 0 ≤ g 5 o ∧ g 6 o = l
            · rw [if_pos y, if_pos (by omega)]
              rcases q o with y | y <;> rw [y] <;> omega
            · rw [if_neg y, if_neg (by omega)]; exact Int.le_refl _
          · rw [← ld_eq h b (by omega)]; omega
      · rw [h3 b hb hc (by omega)]; omega
  · rw [h1 b hb hc]; omega
theorem LI_congr {n : Nat} {g : Nat → Nat → Int} {l : Int} {P P' : Nat → Prop} {L : Nat → Int} (h : LI n g l P L) (e : ∀ o, P' o ↔ P o) : LI n g l P' L := by
  obtain ⟨h1, h2, h3, Q, hQ, h4⟩ := h
  exact ⟨h1, h2, h3, Q, fun o => by rw [e o]; exact hQ o, h4⟩
/-- loads as they end -/
def lde (n : Nat) (g : Nat → Nat → Int) (b : Nat) : Int := if 0 ≤ g 5 b then ld n g b else 0
theorem LI_end {n : Nat} {W : Int} {g : Nat → Nat → Int} (h : okD n W g) {l : Int} {P : Nat → Prop} {L : Nat → Int} (hL : LI n g l P L) (hl : l ≤ 0) (b : Nat) (hb : b < n) : L b = lde n g b := by
  unfold lde
  have r := (h.2.2.2.1 b hb).1
  unfold okB at r
  by_cases z : 0 ≤ g 5 b
  · rw [if_pos z]; exact hL.2.1 b hb z (by omega)
  · rw [if_neg z]; exact hL.1 b hb z
theorem lde_rng {n : Nat} {W : Int} {g : Nat → Nat → Int} (h : okD n W g) (b : Nat) (hb : b < n) : 0 ≤ lde n g b ∧ lde n g b ≤ 1980 := by
  have r := (h.2.2.2.1 b hb).1
  unfold okB at r
  unfold lde
  split
  case isTrue z => have := ld_nn h b; have := ld_le h b hb z; omega
  case isFalse => omega
