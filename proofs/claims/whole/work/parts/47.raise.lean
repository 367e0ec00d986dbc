/-! ===== the class's tower: what is too much, raise ===== -/
theorem jI_and4 (k : Int) (h0 : 0 ≤ k) (h1 : k ≤ 7) : ((jI k &&& jI 4) = jI 0) = (k < 4) := by
  have e : k = 0 ∨ k = 1 ∨ k = 2 ∨ k = 3 ∨ k = 4 ∨ k = 5 ∨ k = 6 ∨ k = 7 := by omega
  apply propext
  rcases e with e | e | e | e | e | e | e | e <;> subst e <;> decide +kernel
theorem jI_and2 (k : Int) (h0 : 0 ≤ k) (h1 : k ≤ 7) : ((jI k &&& jI 2) = jI 0) = (k / 2 % 2 = 0) := by
  have e : k = 0 ∨ k = 1 ∨ k = 2 ∨ k = 3 ∨ k = 4 ∨ k = 5 ∨ k = 6 ∨ k = 7 := by omega
  apply propext
  rcases e with e | e | e | e | e | e | e | e <;> subst e <;> decide +kernel
theorem jI_and1 (k : Int) (h0 : 0 ≤ k) (h1 : k ≤ 7) : ((jI k &&& jI 1) = jI 0) = (k % 2 = 0) := by
  have e : k = 0 ∨ k = 1 ∨ k = 2 ∨ k = 3 ∨ k = 4 ∨ k = 5 ∨ k = 6 ∨ k = 7 := by omega
  apply propext
  rcases e with e | e | e | e | e | e | e | e <;> subst e <;> decide +kernel
/-- what a block bears -/
def br (g : Nat → Nat → Int) (b : Nat) : Int := if g 3 b < 4 then (if g 3 b / 2 % 2 = 0 then (if g 3 b % 2 = 0 then g 2 b else g 2 b / 2) else (if g 3 b % 2 = 0 then g 2 b else g 2 b / 2) / 3) else 0
theorem br_rng (g : Nat → Nat → Int) (b : Nat) (h0 : 0 ≤ g 2 b) (h1 : g 2 b ≤ 999) : 0 ≤ br g b ∧ br g b ≤ 999 := by
  unfold br
  split
  · split
    · split <;> omega
    · split <;> omega
  · omega
theorem fX5_bears_j {T : dt_Ob} {g : Nat → Nat → Int} (b : Nat) (hb : b < 20) (e4 : T 4 b = jI (g 2 b)) (e5 : T 5 b = jI (g 3 b)) (h0 : 0 ≤ g 2 b) (h1 : g 2 b ≤ 999) (h2 : 0 ≤ g 3 b) (h3 : g 3 b ≤ 7) : fX5_bears (jI b) T = some (jI (br g b)) := by
  unfold fX5_bears fX5_bears_32
  simp (disch := omega) only [jI_lit, jI_add, jI_sub, jI_mul, jI_neg, jI_lt, jI_le, jI_eq, jI_div, dt_ix_j, dt_b1, Int.toNat_natCast, e4, e5, jI_and4, jI_and2, jI_and1]
  unfold br
  by_cases c4 : g 3 b < 4 <;> by_cases c2 : g 3 b / 2 % 2 = 0 <;> by_cases c1 : g 3 b % 2 = 0 <;> simp only [c4, c2, c1, if_true, if_false, ↓reduceIte]
/-- the one that has too much: the greatest level, then the least number -/
def ov (L : Nat → Int) (g : Nat → Nat → Int) : Nat → Int
  | 0 => -1
  | i + 1 => if 0 ≤ g 5 i ∧ br g i < L i ∧ (ov L g i = -1 ∨ g 6 (ov L g i).toNat < g 6 i) then i else ov L g i
theorem ov_rng (L : Nat → Int) (g : Nat → Nat → Int) : ∀ i, -1 ≤ ov L g i ∧ ov L g i < i := by
  intro i
  induction i with
  | zero => unfold ov; omega
  | succ i ih => unfold ov; split <;> omega
theorem fX5_overloaded_j4 {T : dt_Ob} {n : Nat} {W : Int} {g : Nat → Nat → Int} (h : TW T n W g) (ho : okD n W g) (L : Nat → Int) (hL : ∀ b, b < n → T 11 b = jI (L b)) (hr : ∀ b, b < n → 0 ≤ L b ∧ L b ≤ 1980) : ∀ (k fuel i : Nat), i + k = n → k < fuel → fX5_overloaded_4 fuel (jI (ov L g i)) (jI i) T = some (jI (ov L g n)) := by
  have hn := ho.1
  intro k
  induction k with
  | zero =>
    intro fuel i hk hf
    obtain ⟨f, rfl⟩ : ∃ f, fuel = f + 1 := ⟨fuel - 1, by omega⟩
    unfold fX5_overloaded_4
    simp (disch := omega) only [jI_lit, jI_add, jI_sub, jI_mul, jI_neg, jI_lt, jI_le, jI_eq, jI_div, dt_ix_j, dt_b1, Int.toNat_natCast, h.2.1]
    rw [if_pos (by omega), show i = n by omega]
  | succ k ih =>
    intro fuel i hk hf
    obtain ⟨f, rfl⟩ : ∃ f, fuel = f + 1 := ⟨fuel - 1, by omega⟩
    have hi' : i < n := by omega
    have r := (ho.2.2.2.1 i hi').1
    unfold okB at r
    have e4 : T 4 i = jI (g 2 i) := h.2.2.1 2 (by omega) i hi'
    have e5 : T 5 i = jI (g 3 i) := h.2.2.1 3 (by omega) i hi'
    have e6 : T 6 i = jI (g 4 i) := h.2.2.1 4 (by omega) i hi'
    have e8 : T 8 i = jI (g 6 i) := h.2.2.1 6 (by omega) i hi'
    have e11 := hL i hi'
    have rl := hr i hi'
    have rb := br_rng g i (by omega) (by omega)
    have ro := ov_rng L g i
    have lv := (ho.2.2.2.1 i hi').2
    have ihh := ih f (i + 1) (by omega) (by omega)
    have cst : ((i : Int) + 1) = ((i + 1 : Nat) : Int) := by omega
    have skip : ov L g (i + 1) = ov L g i → fX5_overloaded_68 (fX5_overloaded_4 f) (jI (ov L g i)) (jI i) T = some (jI (ov L g n)) := by
      intro e
      unfold fX5_overloaded_68
      simp only [jI_lit, jI_add]
      rw [cst, ← e, ihh]
    have take : ov L g (i + 1) = i → fX5_overloaded_66 (fX5_overloaded_4 f) (jI i) T = some (jI (ov L g n)) := by
      intro e
      unfold fX5_overloaded_66 fX5_overloaded_68
      simp only [jI_lit, jI_add]
      rw [cst]
      rw [e] at ihh
      exact ihh
    have uov : ov L g (i + 1) = if 0 ≤ g 5 i ∧ br g i < L i ∧ (ov L g i = -1 ∨ g 6 (ov L g i).toNat < g 6 i) then (i : Int) else ov L g i := rfl
    have s40 : ov L g (i + 1) = ov L g i → fX5_overloaded_40 (fX5_overloaded_4 f) (jI (ov L g i)) (jI i) T = some (jI (ov L g n)) := by
      intro e
      unfold fX5_overloaded_40 fX5_overloaded_41
      rw [if_pos rfl]
      exact skip e
    unfold fX5_overloaded_4
    rw [fX5_bears_j i (by omega) e4 e5 (by omega) (by omega) (by omega) (by omega)]
    simp (disch := omega) only [jI_lit, jI_add, jI_sub, jI_mul, jI_neg, jI_lt, jI_le, jI_eq, jI_div, dt_ix_j, dt_b1, Int.toNat_natCast, h.2.1, e6, e11]
    rw [if_neg (by omega)]
    by_cases z : g 4 i = -1
    · rw [if_pos z]
      by_cases y : L i ≤ br g i
      · rw [if_pos y]
        exact s40 (by rw [uov, if_neg (by omega)])
      · rw [if_neg y]
        unfold fX5_overloaded_41
        rw [if_neg (by decide +kernel)]
        simp (disch := omega) only [jI_lit, jI_add, jI_sub, jI_mul, jI_neg, jI_lt, jI_le, jI_eq, jI_div, dt_ix_j, dt_b1, Int.toNat_natCast]
        by_cases x : ov L g i = -1
        · rw [if_pos x]
          exact take (by rw [uov, if_pos (by omega)])
        · have e8' : T 8 (ov L g i).toNat = jI (g 6 (ov L g i).toNat) := h.2.2.1 6 (by omega) _ (by omega)
          have r' := (ho.2.2.2.1 (ov L g i).toNat (by omega))
          have r1 := r'.1
          unfold okB at r1
          rw [if_neg x]
          simp (disch := omega) only [jI_lit, jI_add, jI_sub, jI_mul, jI_neg, jI_lt, jI_le, jI_eq, jI_div, dt_ix_j, dt_b1, Int.toNat_natCast, e8, e8']
          by_cases v : g 6 i ≤ g 6 (ov L g i).toNat
          · rw [if_pos v]
            exact skip (by rw [uov, if_neg (by omega)])
          · rw [if_neg v]
            exact take (by rw [uov, if_pos (by omega)])
    · rw [if_neg z]
      exact s40 (by rw [uov, if_neg (by omega)])
theorem fX5_overloaded_j {T : dt_Ob} {n : Nat} {W : Int} {g : Nat → Nat → Int} (h : TW T n W g) (ho : okD n W g) (L : Nat → Int) (hL : ∀ b, b < n → T 11 b = jI (L b)) (hr : ∀ b, b < n → 0 ≤ L b ∧ L b ≤ 1980) : fX5_overloaded T = some (jI (ov L g n)) := by
  have hn := ho.1
  unfold fX5_overloaded
  exact fX5_overloaded_j4 h ho L hL hr n dt_F 0 (by omega) (by unfold dt_F; omega)
theorem gP_back {g : Nat → Nat → Int} {b : Nat} (p c l : Int) (h5 : g 5 b = -1) (h6 : g 6 b = -1) : gP (gP g b p c l) b (g 4 b) (-1) (-1) = g := by
  funext f x
  unfold gP
  by_cases e : x = b
  · subst e
    by_cases f4 : f = 4
    · subst f4; simp
    · by_cases f5 : f = 5
      · subst f5; simp [h5]
      · by_cases f6 : f = 6
        · subst f6; simp [h6]
        · simp [f4, f5, f6]
  · simp [e]
/-- the tower with block b put on column c -/
abbrev gD (n : Nat) (g : Nat → Nat → Int) (b : Nat) (c : Int) : Nat → Nat → Int := gP g b (-1) c (la n g c (g 0 b).toNat)
theorem gD_5 (n : Nat) (g : Nat → Nat → Int) (b : Nat) (c : Int) : gD n g b c 5 b = c := gP_5 _ _ _ _ _
theorem gD_6 (n : Nat) (g : Nat → Nat → Int) (b : Nat) (c : Int) : gD n g b c 6 b = la n g c (g 0 b).toNat := gP_6 _ _ _ _ _
theorem gD_0 (n : Nat) (g : Nat → Nat → Int) (b : Nat) (c : Int) (x : Nat) : gD n g b c 0 x = g 0 x := gP_0 _ _ _ _ _ _
theorem gD_n (n : Nat) (g : Nat → Nat → Int) (b : Nat) (c : Int) (f x : Nat) (h : x ≠ b) : gD n g b c f x = g f x := gP_n _ _ _ _ _ _ _ h
/-- what a tower has too much -/
abbrev ovl_ (n : Nat) (g : Nat → Nat → Int) : Int := ov (lde n g) g n
/-- why a carry is refused -/
def rsn (n : Nat) (g : Nat → Nat → Int) (b : Nat) (c : Int) : Int := if stn n g b c then (if ovl_ n (gD n g b c) = -1 then 0 else 3) else 2
def rsw (n : Nat) (g : Nat → Nat → Int) (b : Nat) (c : Int) : Int := if stn n g b c then ovl_ n (gD n g b c) else -1
theorem fX5_raise_j {T : dt_Ob} {n : Nat} {W : Int} {g : Nat → Nat → Int} (h : TW T n W g) (ho : okT n W g) (b : Nat) (hb : b < n) (c : Int) (h0 : 0 ≤ c) (h1 : c + g 0 b ≤ W) (hy : g 5 b < 0) : ∃ T', fX5_raise (jI b) (jI c) T = some (jI (rsn n g b c), T') ∧ TW T' n W (if rsn n g b c = 0 then gD n g b c else g) ∧ T' 12 0 = jI (rsw n g b c) := by
  have hn := ho.1
  have rb := ho.2.2.2.1 b hb
  unfold okB at rb
  have h1' : TW (dt_set T 12 0 (jI (-1))) n W g := TW_congr h (fun j hj => dt_set_n _ _ _ _ _ (by omega))
  have e6 : T 6 b = jI (g 4 b) := h.2.2.1 4 (by omega) b hb
  unfold fX5_raise
  rw [show (-1 : Int32) = jI (-1) from rfl, fX5_wouldStand_j h1' ho.D b hb c h0 h1, dt_b1]
  by_cases s : stn n g b c
  · rw [if_pos s, if_neg (by decide), dt_ix_n b 20 (by omega) (by omega), dt_b1]
    obtain ⟨T2, d1, d2, d3⟩ := fX5_drop_j h1' ho b hb c h0 h1 hy
    have ot := okT_drop ho hb c hy h0 h1
    obtain ⟨T3, w1, w2, w3⟩ := fX5_weigh_j d2 ot.D
    have t3 : TW T3 n W (gD n g b c) := TW_congr d2 (fun j hj => w2 j (by omega))
    have o1 := fX5_overloaded_j t3 ot.D (lde n (gD n g b c)) w3 (fun x hx => lde_rng ot.D x hx)
    have or1 := ov_rng (lde n (gD n g b c)) (gD n g b c) n
    rw [d1, dt_b1, w1, dt_b1, o1, dt_b1]
    have er : rsn n g b c = if ovl_ n (gD n g b c) = -1 then 0 else 3 := by unfold rsn; rw [if_pos s]
    have ew : rsw n g b c = ovl_ n (gD n g b c) := by unfold rsw; rw [if_pos s]
    have tn : TW (dt_set T3 12 0 (jI (ovl_ n (gD n g b c)))) n W (gD n g b c) := TW_congr t3 (fun j hj => dt_set_n _ _ _ _ _ (by omega))
    by_cases z : ovl_ n (gD n g b c) = -1
    · rw [if_pos z] at er
      refine ⟨dt_set T3 12 0 (jI (ovl_ n (gD n g b c))), ?_, ?_, ?_⟩
      · rw [er, if_pos (show jI (ovl_ n (gD n g b c)) = jI (-1) by rw [z])]; rfl
      · rw [er, if_pos rfl]; exact tn
      · rw [ew]; exact dt_set_at _ _ _ _
    · rw [if_neg z] at er
      obtain ⟨T4, l1, l2, l3⟩ := fX5_lift_j tn ot.D b hb (by rw [gD_5]; exact h0) (g 4 b) (by omega)
      rw [gP_back _ _ _ (by omega) (by omega)] at l2
      refine ⟨T4, ?_, ?_, ?_⟩
      · rw [if_neg (by rw [jI_eq _ _ (by omega) (by omega) (by omega) (by omega)]; exact z), e6, l1, dt_b1, er]; rfl
      · rw [er, if_neg (by decide)]; exact l2
      · rw [l3 12 (by omega), ew]; exact dt_set_at _ _ _ _
  · rw [if_neg s, if_pos rfl]
    have er : rsn n g b c = 2 := by unfold rsn; rw [if_neg s]
    have ew : rsw n g b c = -1 := by unfold rsw; rw [if_neg s]
    refine ⟨dt_set T 12 0 (jI (-1)), ?_, ?_, ?_⟩
    · rw [er]; rfl
    · rw [er, if_neg (by decide)]; exact h1'
    · rw [ew]; exact dt_set_at _ _ _ _
theorem fX5_loadOf_j {T : dt_Ob} {n : Nat} {W : Int} {g : Nat → Nat → Int} (h : TW T n W g) (ho : okD n W g) (b : Nat) (hb : b < n) : ∃ T', fX5_loadOf (jI b) T = some (jI (lde n g b), T') ∧ TW T' n W g := by
  have hn := ho.1
  unfold fX5_loadOf
  rw [fX5_isInTower_j h ho b (by omega) (by omega), dt_b1, Int.toNat_natCast]
  by_cases z : 0 ≤ g 5 b
  · rw [if_pos (show (0 ≤ (b : Int) ∧ (b : Int) < n) ∧ 0 ≤ g 5 b by omega), if_neg (by decide)]
    obtain ⟨T', w1, w2, w3⟩ := fX5_weigh_j h ho
    rw [w1, dt_b1, dt_ix_n b 20 (by omega) (by omega), dt_b1, w3 b hb]
    exact ⟨T', rfl, TW_congr h (fun j hj => w2 j (by omega))⟩
  · rw [if_neg (show ¬ ((0 ≤ (b : Int) ∧ (b : Int) < n) ∧ 0 ≤ g 5 b) by omega), if_pos rfl]
    refine ⟨T, ?_, h⟩
    unfold lde
    rw [if_neg z]
    rfl
/-- nothing lies on it -/
def free (n : Nat) (g : Nat → Nat → Int) (b : Nat) : Prop := ∀ o, o < n → ovl g b o → g 6 o ≤ g 6 b
theorem fX5_isFree_j2 {T : dt_Ob} {n : Nat} {W : Int} {g : Nat → Nat → Int} (h : TW T n W g) (ho : okD n W g) (b : Nat) (hb : b < n) (hc : 0 ≤ g 5 b) : ∀ (k fuel i : Nat), (i : Int) + k = g 0 b → k < fuel → ((∀ j : Nat, i ≤ j → (j : Int) < g 0 b → hi g (g 5 b + j) n ≤ g 6 b + 1) → fX5_isFree_2 fuel (jI b) (jI i) T = some 1) ∧ ((∃ j : Nat, i ≤ j ∧ (j : Int) < g 0 b ∧ ¬ hi g (g 5 b + j) n ≤ g 6 b + 1) → fX5_isFree_2 fuel (jI b) (jI i) T = some 0) := by
  have hn := ho.1
  have w := ho.2.2
  have r0 := ho.2.2.2.1 b hb
  have r := r0.1
  unfold okB at r
  have e2 : T 2 b = jI (g 0 b) := h.2.2.1 0 (by omega) b hb
  have e7 : T 7 b = jI (g 5 b) := h.2.2.1 5 (by omega) b hb
  have e8 : T 8 b = jI (g 6 b) := h.2.2.1 6 (by omega) b hb
  intro k
  induction k with
  | zero =>
    intro fuel i hk hf
    obtain ⟨f, rfl⟩ : ∃ f, fuel = f + 1 := ⟨fuel - 1, by omega⟩
    refine ⟨fun _ => ?_, fun ⟨j, z1, z2, _⟩ => by omega⟩
    unfold fX5_isFree_2
    simp (disch := omega) only [jI_lit, jI_add, jI_sub, jI_mul, jI_neg, jI_lt, jI_le, jI_eq, jI_div, dt_ix_j, dt_b1, Int.toNat_natCast, e2]
    rw [if_pos (by omega)]
  | succ k ih =>
    intro fuel i hk hf
    obtain ⟨f, rfl⟩ : ∃ f, fuel = f + 1 := ⟨fuel - 1, by omega⟩
    have ihh := ih f (i + 1) (by omega) (by omega)
    have hr := okD_hi ho (g 5 b + i)
    have step : fX5_isFree_2 (f + 1) (jI b) (jI i) T = if hi g (g 5 b + i) n ≤ g 6 b + 1 then fX5_isFree_2 f (jI b) (jI ((i + 1 : Nat) : Int)) T else some 0 := by
      rw [show fX5_isFree_2 (f + 1) (jI b) (jI i) T = ((dt_ix (jI b) 20).bind fun a1 => (if ((T 2) a1) ≤ (jI i) then (some (1 : Int32)) else ((dt_ix (jI b) 20).bind fun a2 => ((fX5_heightAt (((T 7) a2) + (jI i)) T).bind fun q3 => ((dt_ix (jI b) 20).bind fun a4 => (if q3 ≤ (((T 8) a4) + (1 : Int32)) then ((fX5_isFree_2 f) (jI b) ((jI i) + (1 : Int32)) T) else (some (0 : Int32)))))))) from rfl]
      rw [dt_ix_n b 20 (by omega) (by omega), dt_b1, e2, dt_b1, e7, jI_add, fX5_heightAt_j h _ (by omega) (by omega), dt_b1, dt_b1, e8]
      simp (disch := omega) only [jI_lit, jI_add, jI_sub, jI_mul, jI_neg, jI_lt, jI_le, jI_eq, jI_div, dt_ix_j, dt_b1, Int.toNat_natCast]
      rw [if_neg (by omega), show ((i : Int) + 1) = ((i + 1 : Nat) : Int) by omega]
    refine ⟨fun z => ?_, fun ⟨j, z1, z2, z3⟩ => ?_⟩
    · rw [step, if_pos (z i (by omega) (by omega))]
      exact ihh.1 (fun j hj => z j (by omega))
    · rw [step]
      by_cases y : hi g (g 5 b + i) n ≤ g 6 b + 1
      · rw [if_pos y]
        refine ihh.2 ⟨j, ?_, z2, z3⟩
        by_cases x : j = i
        · subst x; exact absurd y z3
        · omega
      · rw [if_neg y]
theorem free_hi {n : Nat} {W : Int} {g : Nat → Nat → Int} (ho : okD n W g) (b : Nat) (hb : b < n) (hc : 0 ≤ g 5 b) : free n g b ↔ ∀ j : Nat, 0 ≤ j → (j : Int) < g 0 b → hi g (g 5 b + j) n ≤ g 6 b + 1 := by
  have r := (ho.2.2.2.1 b hb).1
  unfold okB at r
  constructor
  · intro fr j _ hj
    refine hi_le g _ n _ (by omega) (fun o hob cv => ?_)
    have := fr o hob (by unfold cov at cv; unfold ovl; omega)
    omega
  · intro z o hob ov
    have ro := (ho.2.2.2.1 o hob).1
    unfold okB at ro
    obtain ⟨q, c1, c2⟩ := ovl_col g b o (by omega) (by omega) ov
    have a := hi_ge g q n o hob c2
    unfold cov at c1
    have := z (q - g 5 b).toNat (by omega) (by omega)
    rw [show g 5 b + (((q - g 5 b).toNat : Nat) : Int) = q by omega] at this
    omega
theorem fX5_isFree_j {T : dt_Ob} {n : Nat} {W : Int} {g : Nat → Nat → Int} (h : TW T n W g) (ho : okD n W g) (b : Nat) (hb : b < n) (hc : 0 ≤ g 5 b) : (free n g b → fX5_isFree (jI b) T = some 1) ∧ (¬ free n g b → fX5_isFree (jI b) T = some 0) := by
  have r := (ho.2.2.2.1 b hb).1
  unfold okB at r
  unfold fX5_isFree
  have a := fX5_isFree_j2 h ho b hb hc (g 0 b).toNat dt_F 0 (by omega) (by unfold dt_F; omega)
  rw [free_hi ho b hb hc]
  refine ⟨a.1, fun z => a.2 ?_⟩
  refine Classical.byContradiction fun y => z (fun j hj hj' => ?_)
  refine Classical.byContradiction fun x => y ⟨j, hj, hj', x⟩
