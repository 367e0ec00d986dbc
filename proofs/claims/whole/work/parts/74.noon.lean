/-! ===== operations: noon ===== -/
theorem fbr_fix (wd : Nat → Nat) (so : Nat → Bool) (t : Nat) : ∀ (k i : Nat) (br : Int), br ≠ -1 → fbr wd so t i k br = br := by
  intro k
  induction k with
  | zero => intro i br _; rfl
  | succ k ih =>
    intro i br h
    unfold fbr
    rw [if_neg (fun q => h q.2.2)]
    exact ih (i + 1) br h
theorem fbr_rng (wd : Nat → Nat) (so : Nat → Bool) (t : Nat) : ∀ (k i : Nat) (br : Int), -1 ≤ br → br < ((i + k : Nat) : Int) → -1 ≤ fbr wd so t i k br ∧ fbr wd so t i k br < ((i + k : Nat) : Int) := by
  intro k
  induction k with
  | zero => intro i br h1 h2; exact ⟨h1, h2⟩
  | succ k ih =>
    intro i br h1 h2
    unfold fbr
    have := ih (i + 1) (if so i = false ∧ wd i = t ∧ br = -1 then (i : Int) else br) (by split <;> omega) (by split <;> omega)
    rw [show i + (k + 1) = i + 1 + k by omega]
    exact this
/-- the block at the top -/
def tpo (g : Nat → Nat → Int) : Nat → Int
  | 0 => -1
  | i + 1 => if 0 ≤ g 5 i ∧ (tpo g i = -1 ∨ g 6 (tpo g i).toNat < g 6 i) then i else tpo g i
theorem tpo_rng (g : Nat → Nat → Int) : ∀ i, -1 ≤ tpo g i ∧ tpo g i < i := by
  intro i
  induction i with
  | zero => unfold tpo; omega
  | succ i ih => unfold tpo; split <;> omega
abbrev hol (n : Nat) (g : Nat → Nat → Int) : Bool := decide (tpo g n ≠ -1 ∧ 4 ≤ g 3 (tpo g n).toNat)
theorem fX5_isTopHoly_j4 {T : dt_Ob} {n : Nat} {W : Int} {g : Nat → Nat → Int} (h : TW T n W g) (ho : okD n W g) : ∀ (k fuel i : Nat), i + k = n → k < fuel → fX5_isTopHoly_4 fuel (jI (tpo g i)) (jI i) T = some (bI (hol n g)) := by
  have hn := ho.1
  have w := ho.2.2.1
  intro k
  induction k with
  | zero =>
    intro fuel i hk hf
    obtain ⟨f, rfl⟩ : ∃ f, fuel = f + 1 := ⟨fuel - 1, by omega⟩
    have e : i = n := by omega
    subst e
    have ro := tpo_rng g i
    unfold fX5_isTopHoly_4
    rw [h.2.1, if_pos (by rw [jI_le _ _ (by omega) (by omega) (by omega) (by omega)]; omega)]
    have e1 : (jI (tpo g i) = (-1 : Int32)) = (tpo g i = -1) := by rw [show (-1 : Int32) = jI (-1) from rfl]; exact jI_eq _ _ (by omega) (by omega) (by omega) (by omega)
    by_cases z : tpo g i = -1
    · rw [if_pos (by rw [e1]; exact z)]
      show _ = some (bI (decide _))
      rw [decide_eq_false (fun q => q.1 z)]; rfl
    · have r := (ho.2.2.2.1 (tpo g i).toNat (by omega)).1
      unfold okB at r
      have e5 : T 5 (tpo g i).toNat = jI (g 3 (tpo g i).toNat) := h.2.2.1 3 (by omega) _ (by omega)
      have a4 : (jI (g 3 (tpo g i).toNat) &&& (4 : Int32) = 0) = (g 3 (tpo g i).toNat < 4) := jI_and4 _ (by omega) (by omega)
      rw [if_neg (by rw [e1]; exact z), dt_ix_j _ _ (by omega) (by omega) (by omega), dt_b1, e5]
      show _ = some (bI (decide _))
      by_cases y : g 3 (tpo g i).toNat < 4
      · rw [if_pos (by rw [a4]; exact y), decide_eq_false (fun q => by have := q.2; omega)]; rfl
      · rw [if_neg (by rw [a4]; exact y), decide_eq_true ⟨z, by omega⟩]; rfl
  | succ k ih =>
    intro fuel i hk hf
    obtain ⟨f, rfl⟩ : ∃ f, fuel = f + 1 := ⟨fuel - 1, by omega⟩
    have hi' : i < n := by omega
    have r := (ho.2.2.2.1 i hi').1
    unfold okB at r
    have lv := (ho.2.2.2.1 i hi').2
    have e6 : T 6 i = jI (g 4 i) := h.2.2.1 4 (by omega) i hi'
    have e8 : T 8 i = jI (g 6 i) := h.2.2.1 6 (by omega) i hi'
    have ro := tpo_rng g i
    have ihh := ih f (i + 1) (by omega) (by omega)
    have cst : jI i + (1 : Int32) = jI ((i + 1 : Nat) : Int) := by rw [show (1 : Int32) = jI 1 from rfl, jI_add]; rfl
    have u : tpo g (i + 1) = if 0 ≤ g 5 i ∧ (tpo g i = -1 ∨ g 6 (tpo g i).toNat < g 6 i) then (i : Int) else tpo g i := rfl
    have e1 : (jI (tpo g i) = (-1 : Int32)) = (tpo g i = -1) := by rw [show (-1 : Int32) = jI (-1) from rfl]; exact jI_eq _ _ (by omega) (by omega) (by omega) (by omega)
    have e4 : (jI (g 4 i) = (-1 : Int32)) = (g 4 i = -1) := by rw [show (-1 : Int32) = jI (-1) from rfl]; exact jI_eq _ _ (by omega) (by omega) (by omega) (by omega)
    unfold fX5_isTopHoly_4 fX5_isTopHoly_42 fX5_isTopHoly_44
    rw [h.2.1, if_neg (by rw [jI_le _ _ (by omega) (by omega) (by omega) (by omega)]; omega), dt_ix_n i 20 (by omega) (by omega), dt_b1, e6, cst]
    by_cases z : g 4 i = -1
    · rw [if_pos (by rw [e4]; exact z)]
      by_cases y : tpo g i = -1
      · rw [if_pos (by rw [e1]; exact y)]
        rw [u, if_pos ⟨by omega, Or.inl y⟩] at ihh
        exact ihh
      · have r' := (ho.2.2.2.1 (tpo g i).toNat (by omega))
        have r1 := r'.1
        unfold okB at r1
        have e8' : T 8 (tpo g i).toNat = jI (g 6 (tpo g i).toNat) := h.2.2.1 6 (by omega) _ (by omega)
        rw [if_neg (by rw [e1]; exact y), dt_b1, dt_ix_j _ _ (by omega) (by omega) (by omega), dt_b1, e8, e8']
        by_cases x : g 6 i ≤ g 6 (tpo g i).toNat
        · rw [if_pos (by rw [jI_le _ _ (by omega) (by omega) (by omega) (by omega)]; exact x)]
          rw [u, if_neg (by omega)] at ihh
          exact ihh
        · rw [if_neg (by rw [jI_le _ _ (by omega) (by omega) (by omega) (by omega)]; exact x)]
          rw [u, if_pos (by omega)] at ihh
          exact ihh
    · rw [if_neg (by rw [e4]; exact z)]
      rw [u, if_neg (by omega)] at ihh
      exact ihh
theorem fX5_isTopHoly_j {T : dt_Ob} {n : Nat} {W : Int} {g : Nat → Nat → Int} (h : TW T n W g) (ho : okD n W g) : fX5_isTopHoly T = some (bI (hol n g)) := by
  have hn := ho.1
  exact fX5_isTopHoly_j4 h ho n dt_F 0 (by omega) (by unfold dt_F; omega)
theorem fX10_topOne_j4 {T : dt_Ob} {n : Nat} {W : Int} {g : Nat → Nat → Int} (h : RT (T 0) n W g) (ho : okD n W g) : ∀ (k fuel i : Nat), i + k = n → k < fuel → fX10_topOne_4 fuel (jI (tpo g i)) (jI i) T = some (jI (tpo g n)) := by
  have hn := ho.1
  have w := ho.2.2.1
  have x1 : dt_ix (1 : Int32) 1225 = some 1 := rfl
  have ow : ∀ b, b < n → fX10_own (jI b) 5 T = some (jI (g 5 b)) ∧ fX10_own (jI b) 6 T = some (jI (g 6 b)) := by
    intro b hb
    constructor
    · rw [show (5 : Int32) = jI 5 from rfl, fX10_own_j T b 5 (by omega) (by omega) (by omega)]; exact congrArg some (h.2.2 5 (by omega) b hb)
    · rw [show (6 : Int32) = jI 6 from rfl, fX10_own_j T b 6 (by omega) (by omega) (by omega)]; exact congrArg some (h.2.2 6 (by omega) b hb)
  intro k
  induction k with
  | zero =>
    intro fuel i hk hf
    obtain ⟨f, rfl⟩ : ∃ f, fuel = f + 1 := ⟨fuel - 1, by omega⟩
    unfold fX10_topOne_4
    rw [x1, dt_b1, h.2.1, if_pos (by rw [jI_le _ _ (by omega) (by omega) (by omega) (by omega)]; omega), show i = n by omega]
  | succ k ih =>
    intro fuel i hk hf
    obtain ⟨f, rfl⟩ : ∃ f, fuel = f + 1 := ⟨fuel - 1, by omega⟩
    have hi' : i < n := by omega
    have r := (ho.2.2.2.1 i hi').1
    unfold okB at r
    have lv := (ho.2.2.2.1 i hi').2
    have ro := tpo_rng g i
    have ihh := ih f (i + 1) (by omega) (by omega)
    have cst : jI i + (1 : Int32) = jI ((i + 1 : Nat) : Int) := by rw [show (1 : Int32) = jI 1 from rfl, jI_add]; rfl
    have u : tpo g (i + 1) = if 0 ≤ g 5 i ∧ (tpo g i = -1 ∨ g 6 (tpo g i).toNat < g 6 i) then (i : Int) else tpo g i := rfl
    have e1 : (jI (tpo g i) = (-1 : Int32)) = (tpo g i = -1) := by rw [show (-1 : Int32) = jI (-1) from rfl]; exact jI_eq _ _ (by omega) (by omega) (by omega) (by omega)
    have e5 : (jI (g 5 i) = (-1 : Int32)) = (g 5 i = -1) := by rw [show (-1 : Int32) = jI (-1) from rfl]; exact jI_eq _ _ (by omega) (by omega) (by omega) (by omega)
    unfold fX10_topOne_4 fX10_topOne_46 fX10_topOne_48
    rw [x1, dt_b1, h.2.1, if_neg (by rw [jI_le _ _ (by omega) (by omega) (by omega) (by omega)]; omega), (ow i hi').1, dt_b1, (ow i hi').2, dt_b1, cst]
    by_cases z : g 5 i = -1
    · rw [if_pos (by rw [e5]; exact z)]
      rw [u, if_neg (by omega)] at ihh
      exact ihh
    · rw [if_neg (by rw [e5]; exact z)]
      by_cases y : tpo g i = -1
      · rw [if_pos (by rw [e1]; exact y)]
        rw [u, if_pos ⟨by omega, Or.inl y⟩] at ihh
        exact ihh
      · have r' := (ho.2.2.2.1 (tpo g i).toNat (by omega))
        have r1 := r'.1
        unfold okB at r1
        have o6 := (ow (tpo g i).toNat (by omega)).2
        rw [show (((tpo g i).toNat : Nat) : Int) = tpo g i by omega] at o6
        rw [if_neg (by rw [e1]; exact y), o6, dt_b1]
        by_cases x : g 6 i ≤ g 6 (tpo g i).toNat
        · rw [if_pos (by rw [jI_le _ _ (by omega) (by omega) (by omega) (by omega)]; exact x)]
          rw [u, if_neg (by omega)] at ihh
          exact ihh
        · rw [if_neg (by rw [jI_le _ _ (by omega) (by omega) (by omega) (by omega)]; exact x)]
          rw [u, if_pos (by omega)] at ihh
          exact ihh
theorem fX10_topOne_j {T : dt_Ob} {n : Nat} {W : Int} {g : Nat → Nat → Int} (h : RT (T 0) n W g) (ho : okD n W g) : fX10_topOne T = some (jI (tpo g n)) := by
  have hn := ho.1
  exact fX10_topOne_j4 h ho n dt_F 0 (by omega) (by unfold dt_F; omega)
/-- the facts that a vow is judged by -/
def fcs (n : Nat) (g : Nat → Nat → Int) (w : Nat → Int32) : Nat → Int32 := fun j => if j = 0 then jI (tp g n) else if j = 1 then jI ((n : Int) - yc g n) else if j = 2 then w 3 else if j = 3 then w 4 else if j = 4 then bI (hol n g) else if j = 5 then w 5 else w 2
theorem fX7_tell_j (V : dt_Ob) (j : Nat) (hj : j < 7) (v : Int32) : fX7_tell (jI (20005 + (j : Int))) v V = some (dt_set V 4 j v) := by
  unfold fX7_tell
  rw [if_neg (by rw [show (20005 : Int32) = jI 20005 from rfl, jI_lt _ _ (by omega) (by omega) (by omega) (by omega)]; omega), if_neg (by rw [show (20012 : Int32) = jI 20012 from rfl, jI_le _ _ (by omega) (by omega) (by omega) (by omega)]; omega), show (20005 : Int32) = jI 20005 from rfl, jI_sub, show (20005 + (j : Int) - 20005) = (j : Int) by omega, dt_ix_n j 7 hj (by omega), dt_b1]
theorem fX9_judge_j {M : dt_M} {n : Nat} {W : Int} {g : Nat → Nat → Int} (hT : TW (M 1) n W g) (hok : okT n W g) (w : Nat → Int32) (hD : RD (M 2) w) (c : Nat → Int) (size lines : Nat) (hv : VS (M 3) c size) (hl : lines ≤ 16) (h5 : M 3 5 0 = jI lines) (wd : Nat → Nat) (so : Nat → Bool) (pos : Nat → Nat) (hp00 : pos 0 = 0) (hp0 : pos lines = size) (hp : ∀ i, i < lines → pos i < size ∧ wd i ≤ 1 ∧ c (pos i) = 20000 + wd i ∧ rLine c (fcs n g w) (pos i) = .inl (so i, pos (i + 1))) (t : Nat) (ht : t ≤ 1) : ∃ V', fX9_judge (jI (20000 + (t : Int))) M = some (jI (fbr wd so t 0 lines (-1)), if fbr wd so t 0 lines (-1) = -1 then dt_put M 3 V' else dt_sM (dt_put M 3 V') 2 5 0 (M 2 5 0 + 1)) ∧ V' 2 0 = M 3 2 0 ∧ V' 5 0 = M 3 5 0 ∧ V' 0 = M 3 0 := by
  have od := hok.D
  obtain ⟨d1, d2, d3, d4, d5, d6, d7⟩ := hD
  have V0 : ∃ V0, V0 = dt_set (dt_set (dt_set (dt_set (dt_set (dt_set (dt_set (M 3) 4 0 (jI (tp g n))) 4 1 (jI ((n : Int) - yc g n))) 4 2 (M 2 1 0)) 4 3 (M 2 2 0)) 4 4 (bI (hol n g))) 4 5 (M 2 3 0)) 4 6 (M 2 0 0) := ⟨_, rfl⟩
  obtain ⟨V0, hV0⟩ := V0
  have o4 : ∀ j, j ≠ 4 → V0 j = M 3 j := fun j hj => by rw [hV0]; simp (disch := omega) only [dt_set_n]
  have vc : VC V0 c size (fcs n g w) := by
    refine ⟨⟨by rw [o4 2 (by omega)]; exact hv.1, hv.2.1, fun p hp => by rw [o4 0 (by omega)]; exact hv.2.2.1 p hp, hv.2.2.2⟩, fun j hj => ?_⟩
    have hj' : j = 0 ∨ j = 1 ∨ j = 2 ∨ j = 3 ∨ j = 4 ∨ j = 5 ∨ j = 6 := by omega
    rw [hV0]
    unfold fcs
    rcases hj' with q | q | q | q | q | q | q <;> subst q <;> simp (disch := omega) only [dt_set_s, upd_n, upd_s]
    · rfl
    · rfl
    · rw [d2]; rfl
    · rw [d3]; rfl
    · rfl
    · rw [d4]; rfl
    · rw [d1]; rfl
  have rd := fX7_read_j24 vc lines hl wd so pos hp0 hp t ht (-1) lines dt_F 0 (-1) (by omega) (by unfold dt_F; omega) (by omega)
  have rr := fbr_rng wd so t lines 0 (-1) (by omega) (by omega)
  rw [Nat.zero_add] at rr
  have read : fX7_read (jI (20000 + (t : Int))) V0 = some (jI (fbr wd so t 0 lines (-1)), tS (dt_set V0 5 0 (jI lines)) (jI size) 0 (-1)) := by
    unfold fX7_read
    rw [tS_self]
    rw [hp00] at rd
    exact rd
  have j95 : ∀ s2 : Int32, s2 = bI (hol n g) → ∀ M4 : dt_M, M4 = dt_put M 3 (dt_set (dt_set (dt_set (dt_set (M 3) 4 0 (jI (tp g n))) 4 1 (jI ((n : Int) - yc g n))) 4 2 (M 2 1 0)) 4 3 (M 2 2 0)) → fX9_judge_95 (jI (20000 + (t : Int))) (20009 : Int32) s2 M4 = some (jI (fbr wd so t 0 lines (-1)), if fbr wd so t 0 lines (-1) = -1 then dt_put M 3 (tS (dt_set V0 5 0 (jI lines)) (jI size) 0 (-1)) else dt_sM (dt_put M 3 (tS (dt_set V0 5 0 (jI lines)) (jI size) 0 (-1))) 2 5 0 (M 2 5 0 + 1)) := by
    intro s2 hs2 M4 hM4
    have m43 : M4 3 = dt_set (dt_set (dt_set (dt_set (M 3) 4 0 (jI (tp g n))) 4 1 (jI ((n : Int) - yc g n))) 4 2 (M 2 1 0)) 4 3 (M 2 2 0) := by rw [hM4, dt_put_s]
    have m42 : M4 2 = M 2 := by rw [hM4, dt_put_ne _ _ _ _ (by omega)]
    unfold fX9_judge_95
    rw [show (20009 : Int32) = jI (20005 + ((4 : Nat) : Int)) from rfl, fX7_tell_j _ 4 (by omega), dt_b1, show (20010 : Int32) = jI (20005 + ((5 : Nat) : Int)) from rfl, fX7_tell_j _ 5 (by omega), dt_b1, show (20011 : Int32) = jI (20005 + ((6 : Nat) : Int)) from rfl, fX7_tell_j _ 6 (by omega), dt_b1, m43, m42, hs2, ← hV0, read, dt_b1]
    dsimp only
    rw [dt_put_put, dt_put_put, dt_put_put, hM4, dt_put_put]
    have e : (jI (fbr wd so t 0 lines (-1)) = (-1 : Int32)) = (fbr wd so t 0 lines (-1) = -1) := by rw [show (-1 : Int32) = jI (-1) from rfl]; exact jI_eq _ _ (by omega) (by omega) (by omega) (by omega)
    by_cases z : fbr wd so t 0 lines (-1) = -1
    · rw [if_pos z, if_pos (by rw [e]; exact z)]
    · rw [if_neg z, if_neg (by rw [e]; exact z)]
  refine ⟨tS (dt_set V0 5 0 (jI lines)) (jI size) 0 (-1), ?_, ?_, ?_, ?_⟩
  · unfold fX9_judge
    rw [fX5_tallest_j hT od, dt_b1, show (20005 : Int32) = jI (20005 + ((0 : Nat) : Int)) from rfl, fX7_tell_j _ 0 (by omega), dt_b1, fX5_inYard_j hT od, dt_b1, hT.2.1, jI_sub, show (20006 : Int32) = jI (20005 + ((1 : Nat) : Int)) from rfl, fX7_tell_j _ 1 (by omega), dt_b1, show (20007 : Int32) = jI (20005 + ((2 : Nat) : Int)) from rfl, fX7_tell_j _ 2 (by omega), dt_b1, show (20008 : Int32) = jI (20005 + ((3 : Nat) : Int)) from rfl, fX7_tell_j _ 3 (by omega), dt_b1, fX5_isTopHoly_j hT od, dt_b1, dt_put_put, dt_put_put, dt_put_put]
    cases hh : hol n g with
    | false => rw [show bI false = 0 from rfl, if_pos rfl]; exact j95 0 (by rw [hh]; rfl) _ rfl
    | true => rw [show bI true = 1 from rfl, if_neg n10]; exact j95 1 (by rw [hh]; rfl) _ rfl
  · rw [tS_o _ _ _ _ 2 (by omega) (by omega) (by omega), dt_set_n _ _ _ _ _ (by omega), o4 2 (by omega)]
  · rw [tS_o _ _ _ _ 5 (by omega) (by omega) (by omega), dt_set_at, h5]
  · rw [tS_o _ _ _ _ 0 (by omega) (by omega) (by omega), dt_set_n _ _ _ _ _ (by omega), o4 0 (by omega)]
theorem fX10_judges_j108 (S F : Nat → Int32) (lines : Nat) (hl : lines ≤ 16) (wd fr to : Nat → Nat) (so : Nat → Bool) (hw : ∀ i, i < lines → wd i ≤ 1 ∧ fr i ≤ to i ∧ to i ≤ 410 ∧ eRun S F (fr i) (to i - fr i) [] = some [bI (so i)]) (t : Nat) (ht : t ≤ 1) : ∀ (d fuel i : Nat) (T : dt_Ob), i + d = lines → d < fuel → T 0 340 = jI lines → (∀ i, i < lines → T 0 (345 + i) = jI (wd i) ∧ T 0 (365 + i) = jI (fr i) ∧ T 0 (385 + i) = jI (to i)) → (∀ j, j < 820 → T 0 (405 + j) = S j) → (∀ k, 1 ≤ k → k < 8 → T 15 k = F (k - 1)) → ∃ T', fX10_judges_108 fuel (jI t) (jI i) T = some (jI (fbr wd so t i d (-1)), T') ∧ (∀ j, j ≠ 0 → j ≠ 14 → T' j = T j) ∧ T' 0 = (if fbr wd so t i d (-1) = -1 then T 0 else upd (T 0) 7 (T 0 7 + 1)) := by
  intro d
  induction d with
  | zero =>
    intro fuel i T hd hf h340 hwd hS hF
    obtain ⟨f, rfl⟩ : ∃ f, fuel = f + 1 := ⟨fuel - 1, by omega⟩
    refine ⟨T, ?_, fun _ _ _ => rfl, by rw [show fbr wd so t i 0 (-1) = -1 from rfl, if_pos rfl]⟩
    unfold fX10_judges_108
    rw [show dt_ix (340 : Int32) 1225 = some 340 from rfl, dt_b1, h340, if_pos (by rw [jI_le _ _ (by omega) (by omega) (by omega) (by omega)]; omega)]
    rfl
  | succ d ih =>
    intro fuel i T hd hf h340 hwd hS hF
    obtain ⟨f, rfl⟩ : ∃ f, fuel = f + 1 := ⟨fuel - 1, by omega⟩
    obtain ⟨a1, a2, a3⟩ := hwd i (by omega)
    obtain ⟨b1, b2, b3, b4⟩ := hw i (by omega)
    have ix : ∀ b : Nat, b < 1000 → dt_ix (jI b + jI i) 1225 = some (b + i) := by
      intro b hb
      rw [jI_add, show ((b : Int) + i) = ((b + i : Nat) : Int) by omega]
      exact dt_ix_n _ _ (by omega) (by omega)
    have x345 : dt_ix ((345 : Int32) + jI i) 1225 = some (345 + i) := ix 345 (by omega)
    have x365 : dt_ix ((365 : Int32) + jI i) 1225 = some (365 + i) := ix 365 (by omega)
    have x385 : dt_ix ((385 : Int32) + jI i) 1225 = some (385 + i) := ix 385 (by omega)
    have ci : jI i + (1 : Int32) = jI ((i + 1 : Nat) : Int) := by rw [show (1 : Int32) = jI 1 from rfl, jI_add]; rfl
    have et : (jI (wd i) = jI t) = ((wd i : Int) = t) := jI_eq _ _ (by omega) (by omega) (by omega) (by omega)
    have u : fbr wd so t i (d + 1) (-1) = fbr wd so t (i + 1) d (if so i = false ∧ wd i = t ∧ (-1 : Int) = -1 then (i : Int) else -1) := rfl
    unfold fX10_judges_108 fX10_judges_178
    rw [show dt_ix (340 : Int32) 1225 = some 340 from rfl, dt_b1, h340, if_neg (by rw [jI_le _ _ (by omega) (by omega) (by omega) (by omega)]; omega), x345, dt_b1, a1, x365, dt_b1, x385, dt_b1, a2, a3, ci]
    by_cases z : wd i = t
    · rw [if_pos (by rw [et]; omega)]
      obtain ⟨T1, c1, c2, c3⟩ := fX10_comesTo_j5 S F (to i) b3 (to i - fr i) dt_F (fr i) [] [bI (so i)] T (by omega) (by unfold dt_F; omega) (by show 0 ≤ fr i; omega) hS hF (fun i x h => by simp at h) b4
      have tp := PL_top c2
      have tp' : T1 14 0 = bI (so i) := tp
      have ct : fX10_comesTo (jI (fr i)) (jI (to i)) T = some (bI (so i), T1) := by
        have c1' : fX10_comesTo (jI (fr i)) (jI (to i)) T = some (T1 14 0, T1) := c1
        rw [c1', tp']
      rw [ct, dt_b1]
      dsimp only
      cases hso : so i with
      | true =>
        rw [show bI true = 1 from rfl, if_pos rfl]
        obtain ⟨T', e1, e2, e3⟩ := ih f (i + 1) T1 (by omega) (by omega) (by rw [c3 0 (by omega)]; exact h340) (fun q hq => by rw [c3 0 (by omega)]; exact hwd q hq) (fun j hj => by rw [c3 0 (by omega)]; exact hS j hj) (fun k hk hk' => by rw [c3 15 (by omega)]; exact hF k hk hk')
        rw [u, hso, if_neg (by rintro ⟨q, _⟩; cases q)]
        refine ⟨T', e1, fun j h0 h14 => by rw [e2 j h0 h14, c3 j h14], ?_⟩
        rw [e3, c3 0 (by omega)]
      | false =>
        rw [show bI false = 0 from rfl, if_neg (by decide), show dt_ix (7 : Int32) 1225 = some 7 from rfl, dt_b1, dt_b1, u, hso, if_pos ⟨rfl, z, rfl⟩, fbr_fix _ _ _ _ _ _ (by omega)]
        refine ⟨dt_set T1 0 7 (T1 0 7 + 1), rfl, fun j h0 h14 => by rw [dt_set_n _ _ _ _ _ h0, c3 j h14], ?_⟩
        rw [if_neg (by omega), dt_set_s, c3 0 (by omega)]
    · rw [if_neg (by rw [et]; omega)]
      obtain ⟨T', e1, e2, e3⟩ := ih f (i + 1) T (by omega) (by omega) h340 hwd hS hF
      rw [u, if_neg (fun q => z q.2.1)]
      exact ⟨T', e1, e2, e3⟩
theorem fX10_judges_j {T : dt_Ob} {n : Nat} {W : Int} {g : Nat → Nat → Int} (h : RT (T 0) n W g) (hok : okT n W g) (lines : Nat) (hl : lines ≤ 16) (wd fr to : Nat → Nat) (so : Nat → Bool) (hw : ∀ i, i < lines → wd i ≤ 1 ∧ fr i ≤ to i ∧ to i ≤ 410 ∧ eRun (fun j => T 0 (405 + j)) (fcs n g (T 0)) (fr i) (to i - fr i) [] = some [bI (so i)]) (h340 : T 0 340 = jI lines) (hwd : ∀ i, i < lines → T 0 (345 + i) = jI (wd i) ∧ T 0 (365 + i) = jI (fr i) ∧ T 0 (385 + i) = jI (to i)) (t : Nat) (ht : t ≤ 1) : ∃ T', fX10_judges (jI t) T = some (jI (fbr wd so t 0 lines (-1)), T') ∧ (∀ j, j ≠ 0 → j ≠ 7 → j ≠ 8 → j ≠ 14 → j ≠ 15 → T' j = T j) ∧ T' 0 = (if fbr wd so t 0 lines (-1) = -1 then T 0 else upd (T 0) 7 (T 0 7 + 1)) := by
  have od := hok.D
  have hn := od.1
  have w8 := od.2.2.1
  obtain ⟨T1, t1, t2, t3⟩ := fX10_laysTower_j h hn
  have r1 : RT (T1 0) n W g := by rw [t2 0 (by omega) (by omega)]; exact h
  have to1 := fX10_topOne_j r1 od
  have hi1 := fX10_highest_j t3 od
  have ro := tpo_rng g n
  have x : ∀ k : Nat, k < 8 → dt_ix (jI k) 8 = some k := fun k hk => dt_ix_n k 8 hk (by omega)
  have fin : ∀ s2 : Int32, s2 = bI (hol n g) → ∃ T', fX10_judges_79 (jI t) (5 : Int32) s2 (dt_set (dt_set (dt_set (dt_set T1 15 1 (jI (tp g n))) 15 2 (jI ((n : Int) - yc g n))) 15 3 (T1 0 3)) 15 4 (T1 0 4)) = some (jI (fbr wd so t 0 lines (-1)), T') ∧ (∀ j, j ≠ 0 → j ≠ 7 → j ≠ 8 → j ≠ 14 → j ≠ 15 → T' j = T j) ∧ T' 0 = (if fbr wd so t 0 lines (-1) = -1 then T 0 else upd (T 0) 7 (T 0 7 + 1)) := by
    intro s2 hs2
    have e0 : T1 0 = T 0 := t2 0 (by omega) (by omega)
    unfold fX10_judges_79
    rw [show dt_ix (5 : Int32) 8 = some 5 from rfl, dt_b1, show dt_ix (5 : Int32) 1225 = some 5 from rfl, dt_b1, show dt_ix (6 : Int32) 8 = some 6 from rfl, dt_b1, show dt_ix (2 : Int32) 1225 = some 2 from rfl, dt_b1, show dt_ix (7 : Int32) 8 = some 7 from rfl, dt_b1]
    simp (disch := omega) only [dt_set_n]
    generalize hX : dt_set (dt_set (dt_set (dt_set (dt_set (dt_set (dt_set T1 15 1 (jI (tp g n))) 15 2 (jI ((n : Int) - yc g n))) 15 3 (T1 0 3)) 15 4 (T1 0 4)) 15 5 s2) 15 6 (T1 0 5)) 15 7 (T1 0 2) = X
    have xo : ∀ j, j ≠ 15 → X j = T1 j := fun j hj => by rw [← hX]; simp (disch := omega) only [dt_set_n]
    have x0 : X 0 = T 0 := by rw [xo 0 (by omega), e0]
    have xf : ∀ k, 1 ≤ k → k < 8 → X 15 k = fcs n g (T 0) (k - 1) := by
      intro k hk hk'
      have hk2 : k = 1 ∨ k = 2 ∨ k = 3 ∨ k = 4 ∨ k = 5 ∨ k = 6 ∨ k = 7 := by omega
      rw [← hX]
      unfold fcs
      rcases hk2 with q | q | q | q | q | q | q <;> subst q <;> simp (disch := omega) only [dt_set_s, upd_n, upd_s]
      · rfl
      · rfl
      · rw [e0]; rfl
      · rw [e0]; rfl
      · rw [hs2]; rfl
      · rw [e0]; rfl
      · rw [e0]; rfl
    obtain ⟨T', a1, a2, a3⟩ := fX10_judges_j108 (fun j => T 0 (405 + j)) (fcs n g (T 0)) lines hl wd fr to so hw t ht lines dt_F 0 X (by omega) (by unfold dt_F; omega) (by rw [x0]; exact h340) (fun i hi => by rw [x0]; exact hwd i hi) (fun j _ => by rw [x0]) xf
    refine ⟨T', a1, fun j h0 h7 h8 h14 h15 => by rw [a2 j h0 h14, xo j h15, t2 j h7 h8], ?_⟩
    rw [a3, x0]
  unfold fX10_judges
  rw [t1, dt_b1, to1, dt_b1, hi1, dt_b1, show dt_ix (1 : Int32) 8 = some 1 from rfl, dt_b1]
  have r2 : RT ((dt_set T1 15 1 (jI (tp g n))) 0) n W g := by rw [dt_set_n _ _ _ _ _ (by omega)]; exact r1
  rw [fX10_inTower_j r2 od, dt_b1, show dt_ix (2 : Int32) 8 = some 2 from rfl, dt_b1, show dt_ix (3 : Int32) 1225 = some 3 from rfl, dt_b1, show dt_ix (3 : Int32) 8 = some 3 from rfl, dt_b1, show dt_ix (4 : Int32) 1225 = some 4 from rfl, dt_b1, show dt_ix (4 : Int32) 8 = some 4 from rfl, dt_b1]
  have e1 : (jI (tpo g n) = (-1 : Int32)) = (tpo g n = -1) := by rw [show (-1 : Int32) = jI (-1) from rfl]; exact jI_eq _ _ (by omega) (by omega) (by omega) (by omega)
  unfold fX10_judges_78
  by_cases z : tpo g n = -1
  · rw [if_pos (by rw [e1]; exact z)]
    exact fin 0 (by show 0 = bI (decide _); rw [decide_eq_false (fun q => q.1 z)]; rfl)
  · have r := (od.2.2.2.1 (tpo g n).toNat (by omega)).1
    unfold okB at r
    have a4 : (jI (g 3 (tpo g n).toNat) &&& (4 : Int32) = 0) = (g 3 (tpo g n).toNat < 4) := jI_and4 _ (by omega) (by omega)
    have o3 : fX10_own (jI (tpo g n)) (3 : Int32) (dt_set (dt_set (dt_set (dt_set T1 15 1 (jI (tp g n))) 15 2 (jI ((n : Int) - yc g n))) 15 3 (T1 0 3)) 15 4 (T1 0 4)) = some (jI (g 3 (tpo g n).toNat)) := by
      have q := fX10_own_j (dt_set (dt_set (dt_set (dt_set T1 15 1 (jI (tp g n))) 15 2 (jI ((n : Int) - yc g n))) 15 3 (T1 0 3)) 15 4 (T1 0 4)) (tpo g n).toNat 3 (by omega) (by omega) (by omega)
      rw [show (((tpo g n).toNat : Nat) : Int) = tpo g n by omega] at q
      have q' : fX10_own (jI (tpo g n)) (3 : Int32) (dt_set (dt_set (dt_set (dt_set T1 15 1 (jI (tp g n))) 15 2 (jI ((n : Int) - yc g n))) 15 3 (T1 0 3)) 15 4 (T1 0 4)) = _ := q
      rw [q']
      simp (disch := omega) only [dt_set_n]
      exact congrArg some (r1.2.2 3 (by omega) _ (by omega))
    rw [if_neg (by rw [e1]; exact z), o3, dt_b1]
    by_cases y : g 3 (tpo g n).toNat < 4
    · rw [if_pos (by rw [a4]; exact y)]
      exact fin 0 (by show 0 = bI (decide _); rw [decide_eq_false (fun q => by have := q.2; omega)]; rfl)
    · rw [if_neg (by rw [a4]; exact y)]
      exact fin 1 (by show 1 = bI (decide _); rw [decide_eq_true ⟨z, by omega⟩]; rfl)
