/-! ===== the tower as numbers: g f b is field f of block b (0 length, 1 weight, 2 strength, 3 kind, 4 place, 5 column, 6 level) ===== -/
abbrev cov (g : Nat → Nat → Int) (b : Nat) (c : Int) : Prop := 0 ≤ g 5 b ∧ g 5 b ≤ c ∧ c < g 5 b + g 0 b
theorem cov_dec (g : Nat → Nat → Int) (b : Nat) (c : Int) : cov g b c ∨ ¬ cov g b c := by unfold cov; omega
def hi (g : Nat → Nat → Int) (c : Int) : Nat → Int
  | 0 => 0
  | n + 1 => if 0 ≤ g 5 n ∧ g 5 n ≤ c ∧ c < g 5 n + g 0 n then max (hi g c n) (g 6 n + 1) else hi g c n
def tp (g : Nat → Nat → Int) : Nat → Int
  | 0 => 0
  | n + 1 => if 0 ≤ g 5 n then max (tp g n) (g 6 n + 1) else tp g n
def la (n : Nat) (g : Nat → Nat → Int) (c : Int) : Nat → Int
  | 0 => 0
  | k + 1 => max (la n g c k) (hi g (c + k) n)
def ce (g : Nat → Nat → Int) (c l : Int) : Nat → Int
  | 0 => -1
  | n + 1 => if (0 ≤ g 5 n ∧ g 5 n ≤ c ∧ c < g 5 n + g 0 n) ∧ g 6 n = l then n else ce g c l n
theorem hi_nn (g : Nat → Nat → Int) (c : Int) : ∀ n, 0 ≤ hi g c n := by
  intro n
  induction n with
  | zero => exact Int.le_refl 0
  | succ n ih => unfold hi; split <;> omega
theorem hi_ge (g : Nat → Nat → Int) (c : Int) : ∀ n b, b < n → cov g b c → g 6 b + 1 ≤ hi g c n := by
  intro n
  induction n with
  | zero => intro b h; omega
  | succ n ih =>
    intro b h hc
    unfold hi
    by_cases e : b = n
    · subst e; unfold cov at hc; rw [if_pos hc]; omega
    · have := ih b (by omega) hc
      split <;> omega
theorem hi_att (g : Nat → Nat → Int) (c : Int) : ∀ n, hi g c n = 0 ∨ ∃ b, b < n ∧ cov g b c ∧ hi g c n = g 6 b + 1 := by
  intro n
  induction n with
  | zero => exact Or.inl rfl
  | succ n ih =>
    unfold hi
    split
    case isTrue h =>
      by_cases q : hi g c n ≤ g 6 n + 1
      · exact Or.inr ⟨n, by omega, h, by omega⟩
      · rcases ih with e | ⟨b, h1, h2, h3⟩
        · have := hi_nn g c n; left; omega
        · exact Or.inr ⟨b, by omega, h2, by omega⟩
    case isFalse h =>
      rcases ih with e | ⟨b, h1, h2, h3⟩
      · exact Or.inl e
      · exact Or.inr ⟨b, by omega, h2, h3⟩
theorem hi_le (g : Nat → Nat → Int) (c : Int) (n : Nat) (m : Int) (h0 : 0 ≤ m) (h : ∀ b, b < n → cov g b c → g 6 b + 1 ≤ m) : hi g c n ≤ m := by
  rcases hi_att g c n with e | ⟨b, h1, h2, h3⟩
  · omega
  · have := h b h1 h2; omega
theorem tp_nn (g : Nat → Nat → Int) : ∀ n, 0 ≤ tp g n := by
  intro n
  induction n with
  | zero => exact Int.le_refl 0
  | succ n ih => unfold tp; split <;> omega
theorem tp_ge (g : Nat → Nat → Int) : ∀ n b, b < n → 0 ≤ g 5 b → g 6 b + 1 ≤ tp g n := by
  intro n
  induction n with
  | zero => intro b h; omega
  | succ n ih =>
    intro b h hc
    unfold tp
    by_cases e : b = n
    · subst e; rw [if_pos hc]; omega
    · have := ih b (by omega) hc
      split <;> omega
theorem tp_att (g : Nat → Nat → Int) : ∀ n, tp g n = 0 ∨ ∃ b, b < n ∧ 0 ≤ g 5 b ∧ tp g n = g 6 b + 1 := by
  intro n
  induction n with
  | zero => exact Or.inl rfl
  | succ n ih =>
    unfold tp
    split
    case isTrue h =>
      by_cases q : tp g n ≤ g 6 n + 1
      · exact Or.inr ⟨n, by omega, h, by omega⟩
      · rcases ih with e | ⟨b, h1, h2, h3⟩
        · have := tp_nn g n; left; omega
        · exact Or.inr ⟨b, by omega, h2, by omega⟩
    case isFalse h =>
      rcases ih with e | ⟨b, h1, h2, h3⟩
      · exact Or.inl e
      · exact Or.inr ⟨b, by omega, h2, h3⟩
theorem la_nn (n : Nat) (g : Nat → Nat → Int) (c : Int) : ∀ k, 0 ≤ la n g c k := by
  intro k
  induction k with
  | zero => exact Int.le_refl 0
  | succ k ih => unfold la; omega
theorem la_ge (n : Nat) (g : Nat → Nat → Int) (c : Int) : ∀ k i : Nat, i < k → hi g (c + i) n ≤ la n g c k := by
  intro k
  induction k with
  | zero => intro i h; omega
  | succ k ih =>
    intro i h
    unfold la
    by_cases e : i = k
    · subst e; omega
    · have := ih i (by omega); omega
theorem la_att (n : Nat) (g : Nat → Nat → Int) (c : Int) : ∀ k, la n g c k = 0 ∨ ∃ i : Nat, i < k ∧ la n g c k = hi g (c + i) n := by
  intro k
  induction k with
  | zero => exact Or.inl rfl
  | succ k ih =>
    unfold la
    by_cases q : la n g c k ≤ hi g (c + k) n
    · exact Or.inr ⟨k, by omega, by omega⟩
    · rcases ih with e | ⟨i, h1, h2⟩
      · have := hi_nn g (c + k) n; left; omega
      · exact Or.inr ⟨i, by omega, by omega⟩
theorem ce_cases (g : Nat → Nat → Int) (c l : Int) : ∀ n, (ce g c l n = -1 ∧ ∀ b, b < n → cov g b c → g 6 b ≠ l) ∨ ∃ b, b < n ∧ ce g c l n = b ∧ cov g b c ∧ g 6 b = l := by
  intro n
  induction n with
  | zero => left; exact ⟨rfl, fun b h => by omega⟩
  | succ n ih =>
    unfold ce
    split
    case isTrue h => exact Or.inr ⟨n, by omega, rfl, h.1, h.2⟩
    case isFalse h =>
      rcases ih with ⟨e, h1⟩ | ⟨b, h1, h2, h3⟩
      · left
        refine ⟨e, fun b hb hc => ?_⟩
        by_cases q : b = n
        · subst q; exact fun z => h ⟨hc, z⟩
        · exact h1 b (by omega) hc
      · exact Or.inr ⟨b, by omega, h2, h3⟩
theorem ce_rng (g : Nat → Nat → Int) (c l : Int) (n : Nat) : -1 ≤ ce g c l n ∧ ce g c l n < n := by
  rcases ce_cases g c l n with ⟨e, _⟩ | ⟨b, h1, h2, _⟩ <;> omega
/-- two blocks share a column -/
def ovl (g : Nat → Nat → Int) (b o : Nat) : Prop := 0 ≤ g 5 b ∧ 0 ≤ g 5 o ∧ g 5 o < g 5 b + g 0 b ∧ g 5 b < g 5 o + g 0 o
/-- ranges of what a block is and where it may be -/
def okB (W : Int) (g : Nat → Nat → Int) (b : Nat) : Prop := 1 ≤ g 0 b ∧ g 0 b ≤ 3 ∧ g 0 b ≤ W ∧ 1 ≤ g 1 b ∧ g 1 b ≤ 99 ∧ 0 ≤ g 2 b ∧ g 2 b ≤ 999 ∧ 0 ≤ g 3 b ∧ g 3 b ≤ 7 ∧ ((g 5 b = -1 ∧ g 6 b = -1 ∧ 0 ≤ g 4 b ∧ g 4 b ≤ 59) ∨ (g 4 b = -1 ∧ 0 ≤ g 5 b ∧ g 5 b + g 0 b ≤ W ∧ 0 ≤ g 6 b))
/-- a tower: all in range, unlike levels where columns are shared, each at its level -/
def okT (n : Nat) (W : Int) (g : Nat → Nat → Int) : Prop := n ≤ 20 ∧ 2 ≤ W ∧ W ≤ 8 ∧ (∀ b, b < n → okB W g b) ∧ (∀ b, b < n → ∀ o, o < n → b ≠ o → ovl g b o → g 6 b ≠ g 6 o) ∧ (∀ b, b < n → 0 ≤ g 5 b → g 6 b = 0 ∨ ∃ o, o < n ∧ ovl g b o ∧ g 6 o + 1 = g 6 b)
theorem php : ∀ (n m : Nat) (f : Nat → Nat), (∀ i, i < m → f i < n) → (∀ i j, i < m → j < m → f i = f j → i = j) → m ≤ n := by
  intro n
  induction n with
  | zero =>
    intro m f h1 _
    cases m with
    | zero => omega
    | succ m => have := h1 0 (by omega); omega
  | succ n ih =>
    intro m f h1 h2
    cases m with
    | zero => omega
    | succ m =>
      have key := ih m (fun i => if f i = n then f m else f i) (by
        intro i hi
        show (if f i = n then f m else f i) < n
        split
        case isTrue e =>
          have a := h1 m (by omega)
          have b : f m ≠ n := by
            intro z
            have := h2 i m (by omega) (by omega) (by omega)
            omega
          omega
        case isFalse e => have := h1 i (by omega); omega) (by
        intro i j hi hj e
        have q : ∀ i, i < m → f i ≠ f m := by
          intro i hi z
          have := h2 i m (by omega) (by omega) z
          omega
        have e' : (if f i = n then f m else f i) = (if f j = n then f m else f j) := e
        by_cases a : f i = n
        · by_cases b : f j = n
          · exact h2 i j (by omega) (by omega) (by omega)
          · rw [if_pos a, if_neg b] at e'; exact absurd e'.symm (q j hj)
        · by_cases b : f j = n
          · rw [if_neg a, if_pos b] at e'; exact absurd e' (q i hi)
          · rw [if_neg a, if_neg b] at e'; exact h2 i j (by omega) (by omega) e')
      omega
theorem okT_chain {n : Nat} {W : Int} {g : Nat → Nat → Int} (h : okT n W g) : ∀ (k : Nat) b, b < n → 0 ≤ g 5 b → g 6 b = k → ∀ j : Nat, j ≤ k → ∃ o, o < n ∧ 0 ≤ g 5 o ∧ g 6 o = j := by
  intro k
  induction k with
  | zero => intro b hb hc hk j hj; exact ⟨b, hb, hc, by omega⟩
  | succ k ih =>
    intro b hb hc hk j hj
    by_cases e : j = k + 1
    · exact ⟨b, hb, hc, by omega⟩
    · rcases h.2.2.2.2.2 b hb hc with z | ⟨o, h1, h2, h3⟩
      · omega
      · exact ih o h1 h2.2.1 (by omega) j (by omega)
theorem okT_lev {n : Nat} {W : Int} {g : Nat → Nat → Int} (h : okT n W g) (b : Nat) (hb : b < n) (hc : 0 ≤ g 5 b) : g 6 b < n := by
  have h0 : 0 ≤ g 6 b := by
    have := (h.2.2.2.1 b hb).2.2.2.2.2.2.2.2.2
    omega
  have hk : g 6 b = ((g 6 b).toNat : Int) := by omega
  have ch := okT_chain h (g 6 b).toNat b hb hc hk
  have : (g 6 b).toNat + 1 ≤ n := by
    refine php n _ (fun i => if q : i ≤ (g 6 b).toNat then (ch i q).choose else 0) ?_ ?_
    · intro i hi
      show (if q : i ≤ (g 6 b).toNat then (ch i q).choose else 0) < n
      rw [dif_pos (by omega)]
      exact (ch i (by omega)).choose_spec.1
    · intro i j hi hj e
      have e' : (if q : i ≤ (g 6 b).toNat then (ch i q).choose else 0) = (if q : j ≤ (g 6 b).toNat then (ch j q).choose else 0) := e
      rw [dif_pos (by omega), dif_pos (by omega)] at e'
      have a1 := (ch i (by omega)).choose_spec.2.2
      have a2 := (ch j (by omega)).choose_spec.2.2
      rw [e'] at a1
      omega
  omega
/-- what the class's arrays need: ranges, levels below 20, unlike levels where columns are shared -/
def okD (n : Nat) (W : Int) (g : Nat → Nat → Int) : Prop := n ≤ 20 ∧ 2 ≤ W ∧ W ≤ 8 ∧ (∀ b, b < n → okB W g b ∧ g 6 b < 20) ∧ (∀ b, b < n → ∀ o, o < n → b ≠ o → ovl g b o → g 6 b ≠ g 6 o)
theorem okT.D {n : Nat} {W : Int} {g : Nat → Nat → Int} (h : okT n W g) : okD n W g := by
  refine ⟨h.1, h.2.1, h.2.2.1, fun b hb => ⟨h.2.2.2.1 b hb, ?_⟩, h.2.2.2.2.1⟩
  have a := h.2.2.2.1 b hb
  have := h.1
  by_cases z : 0 ≤ g 5 b
  · have := okT_lev h b hb z; omega
  · unfold okB at a; omega
theorem okD_hi {n : Nat} {W : Int} {g : Nat → Nat → Int} (h : okD n W g) (c : Int) : 0 ≤ hi g c n ∧ hi g c n ≤ 20 := by
  refine ⟨hi_nn g c n, hi_le g c n 20 (by omega) ?_⟩
  intro b hb hc
  have := (h.2.2.2.1 b hb).2
  omega
theorem okD_tp {n : Nat} {W : Int} {g : Nat → Nat → Int} (h : okD n W g) : 0 ≤ tp g n ∧ tp g n ≤ 20 := by
  refine ⟨tp_nn g n, ?_⟩
  rcases tp_att g n with e | ⟨b, hb, hc, e⟩
  · omega
  · have := (h.2.2.2.1 b hb).2
    omega
theorem okD_la {n : Nat} {W : Int} {g : Nat → Nat → Int} (h : okD n W g) (c : Int) (k : Nat) : 0 ≤ la n g c k ∧ la n g c k ≤ 20 := by
  refine ⟨la_nn n g c k, ?_⟩
  rcases la_att n g c k with e | ⟨i, _, e⟩
  · omega
  · have := okD_hi h (c + i); omega
theorem hi_uniq (g : Nat → Nat → Int) (c : Int) (n : Nat) (m : Int) (h0 : 0 ≤ m) (h1 : ∀ b, b < n → cov g b c → g 6 b + 1 ≤ m) (h2 : m = 0 ∨ ∃ b, b < n ∧ cov g b c ∧ m = g 6 b + 1) : hi g c n = m := by
  have a := hi_le g c n m h0 h1
  have b := hi_nn g c n
  rcases h2 with e | ⟨q, hq, hc, e⟩
  · omega
  · have := hi_ge g c n q hq hc; omega
theorem tp_uniq (g : Nat → Nat → Int) (n : Nat) (m : Int) (h0 : 0 ≤ m) (h1 : ∀ b, b < n → 0 ≤ g 5 b → g 6 b + 1 ≤ m) (h2 : m = 0 ∨ ∃ b, b < n ∧ 0 ≤ g 5 b ∧ m = g 6 b + 1) : tp g n = m := by
  have a : tp g n ≤ m := by
    rcases tp_att g n with e | ⟨b, hb, hc, e⟩
    · omega
    · have := h1 b hb hc; omega
  have b := tp_nn g n
  rcases h2 with e | ⟨q, hq, hc, e⟩
  · omega
  · have := tp_ge g n q hq hc; omega
theorem ce_none (g : Nat → Nat → Int) (c l : Int) (n : Nat) (h : ∀ b, b < n → cov g b c → g 6 b ≠ l) : ce g c l n = -1 := by
  rcases ce_cases g c l n with ⟨e, _⟩ | ⟨b, hb, _, hc, e⟩
  · exact e
  · exact absurd e (h b hb hc)
theorem ce_some {n : Nat} {W : Int} {g : Nat → Nat → Int} (h : okD n W g) (c l : Int) (b : Nat) (hb : b < n) (hc : cov g b c) (e : g 6 b = l) : ce g c l n = b := by
  rcases ce_cases g c l n with ⟨_, z⟩ | ⟨o, ho, z, hc', e'⟩
  · exact absurd e (z b hb hc)
  · by_cases q : b = o
    · rw [z, q]
    · have := h.2.2.2.2 b hb o ho q (by unfold cov at hc hc'; unfold ovl; omega)
      omega
/-- block b put at place p, column c, level l -/
def gP (g : Nat → Nat → Int) (b : Nat) (p c l : Int) : Nat → Nat → Int := fun f x => if x = b then (if f = 4 then p else if f = 5 then c else if f = 6 then l else g f x) else g f x
theorem gP_n (g : Nat → Nat → Int) (b : Nat) (p c l : Int) (f x : Nat) (h : x ≠ b) : gP g b p c l f x = g f x := if_neg h
theorem gP_f (g : Nat → Nat → Int) (b : Nat) (p c l : Int) (f x : Nat) (h : f < 4) : gP g b p c l f x = g f x := by
  unfold gP
  rw [if_neg (show ¬ f = 4 by omega), if_neg (show ¬ f = 5 by omega), if_neg (show ¬ f = 6 by omega)]
  split <;> rfl
theorem gP_4 (g : Nat → Nat → Int) (b : Nat) (p c l : Int) : gP g b p c l 4 b = p := by unfold gP; simp
theorem gP_5 (g : Nat → Nat → Int) (b : Nat) (p c l : Int) : gP g b p c l 5 b = c := by unfold gP; simp
theorem gP_6 (g : Nat → Nat → Int) (b : Nat) (p c l : Int) : gP g b p c l 6 b = l := by unfold gP; simp
theorem gP_0 (g : Nat → Nat → Int) (b : Nat) (p c l : Int) (x : Nat) : gP g b p c l 0 x = g 0 x := gP_f g b p c l 0 x (by omega)
theorem cov_n (g : Nat → Nat → Int) (b : Nat) (p c l : Int) (x : Nat) (h : x ≠ b) (q : Int) : cov (gP g b p c l) x q ↔ cov g x q := by
  unfold cov; rw [gP_n _ _ _ _ _ _ _ h, gP_n _ _ _ _ _ _ _ h]
theorem cov_b (g : Nat → Nat → Int) (b : Nat) (p c l : Int) (q : Int) : cov (gP g b p c l) b q ↔ 0 ≤ c ∧ c ≤ q ∧ q < c + g 0 b := by
  unfold cov; rw [gP_5, gP_0]
/-- heights after a block is put where it belongs -/
theorem hi_drop {n : Nat} {g : Nat → Nat → Int} {b : Nat} (hb : b < n) (p c l : Int) (hy : g 5 b < 0) (h0 : 0 ≤ c) (hl : ∀ i : Nat, (i : Int) < g 0 b → hi g (c + i) n ≤ l) (hl0 : 0 ≤ l) (q : Int) : hi (gP g b p c l) q n = if c ≤ q ∧ q < c + g 0 b then l + 1 else hi g q n := by
  split
  case isTrue h =>
    refine hi_uniq _ _ _ _ (by omega) ?_ (Or.inr ⟨b, hb, (cov_b g b p c l q).mpr (by omega), by rw [gP_6]⟩)
    intro o ho hc
    by_cases e : o = b
    · subst e; rw [gP_6]; omega
    · rw [gP_n _ _ _ _ _ _ _ e]
      have a := hi_ge g q n o ho ((cov_n g b p c l o e q).mp hc)
      have := hl (q - c).toNat (by omega)
      rw [show c + ((q - c).toNat : Int) = q by omega] at this
      omega
  case isFalse h =>
    refine hi_uniq _ _ _ _ (hi_nn g q n) ?_ ?_
    · intro o ho hc
      by_cases e : o = b
      · subst e; have := (cov_b g o p c l q).mp hc; omega
      · rw [gP_n _ _ _ _ _ _ _ e]
        exact hi_ge g q n o ho ((cov_n g b p c l o e q).mp hc)
    · rcases hi_att g q n with e | ⟨o, ho, hc, e⟩
      · exact Or.inl e
      · right
        have ne : o ≠ b := by intro z; subst z; unfold cov at hc; omega
        exact ⟨o, ho, (cov_n g b p c l o ne q).mpr hc, by rw [gP_n _ _ _ _ _ _ _ ne]; exact e⟩
theorem ovl_n (g : Nat → Nat → Int) (b : Nat) (p c l : Int) (x y : Nat) (h : x ≠ b) (h' : y ≠ b) : ovl (gP g b p c l) x y ↔ ovl g x y := by
  unfold ovl; rw [gP_n _ _ _ _ _ _ _ h, gP_n _ _ _ _ _ _ _ h, gP_n _ _ _ _ _ _ _ h', gP_n _ _ _ _ _ _ _ h']
theorem ovl_b (g : Nat → Nat → Int) (b : Nat) (p c l : Int) (y : Nat) (h' : y ≠ b) : ovl (gP g b p c l) b y ↔ 0 ≤ c ∧ 0 ≤ g 5 y ∧ g 5 y < c + g 0 b ∧ c < g 5 y + g 0 y := by
  unfold ovl; rw [gP_5, gP_0, gP_n _ _ _ _ _ _ _ h', gP_0]
theorem ovl_sym (g : Nat → Nat → Int) (x y : Nat) : ovl g x y ↔ ovl g y x := by unfold ovl; omega
/-- shared columns: one of them -/
theorem ovl_col (g : Nat → Nat → Int) (x y : Nat) (hx : 1 ≤ g 0 x) (hy : 1 ≤ g 0 y) (h : ovl g x y) : ∃ q : Int, cov g x q ∧ cov g y q := by
  unfold ovl at h
  exact ⟨max (g 5 x) (g 5 y), by unfold cov; omega, by unfold cov; omega⟩
/-- a block put where it belongs leaves a tower -/
theorem okT_drop {n : Nat} {W : Int} {g : Nat → Nat → Int} (h : okT n W g) {b : Nat} (hb : b < n) (c : Int) (hy : g 5 b < 0) (h0 : 0 ≤ c) (h1 : c + g 0 b ≤ W) : okT n W (gP g b (-1) c (la n g c (g 0 b).toNat)) := by
  have rb := h.2.2.2.1 b hb
  have lb := la_nn n g c (g 0 b).toNat
  have up : ∀ o, o < n → o ≠ b → 0 ≤ g 5 o ∧ g 5 o < c + g 0 b ∧ c < g 5 o + g 0 o → g 6 o < la n g c (g 0 b).toNat := by
    intro o ho ne z
    have ro := h.2.2.2.1 o ho
    unfold okB at rb ro
    have k := la_ge n g c (g 0 b).toNat ((max (g 5 o) c) - c).toNat (by omega)
    have := hi_ge g (max (g 5 o) c) n o ho (by unfold cov; omega)
    rw [show c + (((max (g 5 o) c) - c).toNat : Int) = max (g 5 o) c by omega] at k
    omega
  refine ⟨h.1, h.2.1, h.2.2.1, ?_, ?_, ?_⟩
  · intro x hx
    have rx := h.2.2.2.1 x hx
    by_cases e : x = b
    · subst e
      unfold okB at rx ⊢
      rw [gP_4, gP_5, gP_6, gP_f _ _ _ _ _ _ _ (by omega), gP_f _ _ _ _ _ _ _ (by omega), gP_f _ _ _ _ _ _ _ (by omega), gP_f _ _ _ _ _ _ _ (by omega)]
      omega
    · unfold okB at rx ⊢
      simp only [gP_n _ _ _ _ _ _ _ e]
      exact rx
  · intro x hx y hy' ne ov
    by_cases e : x = b
    · subst e
      rw [gP_6, gP_n _ _ _ _ _ _ _ (Ne.symm ne)]
      have z := (ovl_b g x (-1) c _ y (Ne.symm ne)).mp ov
      have := up y hy' (Ne.symm ne) z.2
      omega
    · by_cases e' : y = b
      · subst e'
        rw [gP_6, gP_n _ _ _ _ _ _ _ e]
        have z := (ovl_b g y (-1) c _ x e).mp ((ovl_sym _ _ _).mp ov)
        have := up x hx e z.2
        omega
      · rw [gP_n _ _ _ _ _ _ _ e, gP_n _ _ _ _ _ _ _ e']
        exact h.2.2.2.2.1 x hx y hy' ne ((ovl_n g b (-1) c _ x y e e').mp ov)
  · intro x hx hc
    by_cases e : x = b
    · subst e
      rw [gP_6]
      rcases la_att n g c (g 0 x).toNat with z | ⟨i, hi', z⟩
      · exact Or.inl z
      · rcases hi_att g (c + i) n with z' | ⟨o, ho, hc', z'⟩
        · left; omega
        · right
          have ne : o ≠ x := by intro q; subst q; unfold cov at hc'; omega
          refine ⟨o, ho, (ovl_b g x (-1) c _ o ne).mpr ?_, ?_⟩
          · unfold cov at hc'; omega
          · rw [gP_n _ _ _ _ _ _ _ ne]; omega
    · rw [gP_n _ _ _ _ _ _ _ e] at hc ⊢
      rcases h.2.2.2.2.2 x hx hc with z | ⟨o, ho, ov, z⟩
      · exact Or.inl z
      · right
        have ne : o ≠ b := by intro q; subst q; unfold ovl at ov; omega
        exact ⟨o, ho, (ovl_n g b (-1) c _ x o e ne).mpr ov, by rw [gP_n _ _ _ _ _ _ _ ne]; exact z⟩
/-- a block taken from the tower -/
theorem okD_lift {n : Nat} {W : Int} {g : Nat → Nat → Int} (h : okD n W g) (b : Nat) (p : Int) (hp : 0 ≤ p ∧ p ≤ 59) : okD n W (gP g b p (-1) (-1)) := by
  refine ⟨h.1, h.2.1, h.2.2.1, ?_, ?_⟩
  · intro x hx
    have rx := h.2.2.2.1 x hx
    by_cases e : x = b
    · subst e
      unfold okB at rx ⊢
      rw [gP_4, gP_5, gP_6, gP_f _ _ _ _ _ _ _ (by omega), gP_f _ _ _ _ _ _ _ (by omega), gP_f _ _ _ _ _ _ _ (by omega), gP_f _ _ _ _ _ _ _ (by omega)]
      omega
    · unfold okB at rx ⊢
      simp only [gP_n _ _ _ _ _ _ _ e]
      exact rx
  · intro x hx y hy' ne ov
    have ex : x ≠ b := by intro e; subst e; unfold ovl at ov; rw [gP_5] at ov; omega
    have ey : y ≠ b := by intro e; subst e; unfold ovl at ov; rw [gP_5] at ov; omega
    rw [gP_n _ _ _ _ _ _ _ ex, gP_n _ _ _ _ _ _ _ ey]
    exact h.2.2.2.2 x hx y hy' ne ((ovl_n g b _ _ _ x y ex ey).mp ov)
theorem okT_lift {n : Nat} {W : Int} {g : Nat → Nat → Int} (h : okT n W g) (b : Nat) (hb : b < n) (p : Int) (hp : 0 ≤ p ∧ p ≤ 59) (fr : ∀ o, o < n → ovl g b o → g 6 o ≤ g 6 b) : okT n W (gP g b p (-1) (-1)) := by
  have d := okD_lift h.D b p hp
  refine ⟨d.1, d.2.1, d.2.2.1, fun x hx => (d.2.2.2.1 x hx).1, d.2.2.2.2, ?_⟩
  intro x hx hc
  have ex : x ≠ b := by intro e; subst e; rw [gP_5] at hc; omega
  rw [gP_n _ _ _ _ _ _ _ ex] at hc ⊢
  rcases h.2.2.2.2.2 x hx hc with z | ⟨o, ho, ov, z⟩
  · exact Or.inl z
  · right
    have ne : o ≠ b := by
      intro q; subst q
      have := fr x hx ((ovl_sym _ _ _).mp ov)
      omega
    exact ⟨o, ho, (ovl_n g b _ _ _ x o ex ne).mpr ov, by rw [gP_n _ _ _ _ _ _ _ ne]; exact z⟩
