/-! ===== the tape as tokens ===== -/
def LT (v : Int) : Prop := (97 ≤ v ∧ v ≤ 122) ∨ (65 ≤ v ∧ v ≤ 90)
def DG (v : Int) : Prop := 48 ≤ v ∧ v ≤ 57
def BL (v : Int) : Prop := v = 32 ∨ v = 10
def SG (v : Int) : Prop := v = 59 ∨ v = 43 ∨ v = 45 ∨ v = 42 ∨ v = 47 ∨ v = 40 ∨ v = 41 ∨ v = 60 ∨ v = 61 ∨ v = 62
/-- blanks passed over -/
def SK (B : Nat → Int) (t e x : Nat) : Prop := e ≤ x ∧ x ≤ t ∧ (∀ y, e ≤ y → y < x → BL (B y)) ∧ (x < t → ¬ BL (B x))
/-- a token's end -/
def TE (B : Nat → Int) (t i x : Nat) : Prop := i < x ∧ x ≤ t ∧ (LT (B i) → (∀ y, i ≤ y → y < x → LT (B y)) ∧ (x < t → ¬ LT (B x))) ∧ (DG (B i) → (∀ y, i ≤ y → y < x → DG (B y)) ∧ (x < t → ¬ DG (B x))) ∧ (¬ LT (B i) → ¬ DG (B i) → x = i + 1)
/-- the words: where they stand in the class's row of words, how long they are -/
def wst (k : Nat) : Nat := [0, 5, 10, 13, 17, 21, 28, 35, 43, 48, 53, 58].getD k 0
def wln (k : Nat) : Nat := [4, 4, 2, 3, 3, 6, 6, 7, 4, 4, 4, 3].getD k 0
def WM (B : Nat → Int) (k i x : Nat) : Prop := x - i = wln k ∧ ∀ j, j < wln k → jI (B (i + j)) = dt_sch 1 (wst k + j)
def nm (B : Nat → Int) (i : Nat) : Nat → Int
  | 0 => 0
  | m + 1 => nm B i m * 10 + B (i + m) - 48
def CD (B : Nat → Int) (i x : Nat) (c : Int) : Prop := (LT (B i) → (∃ k, k < 12 ∧ WM B k i x ∧ (∀ k', k' < k → ¬ WM B k' i x) ∧ c = 20000 + k) ∨ ((∀ k, k < 12 → ¬ WM B k i x) ∧ c = 30001)) ∧ (DG (B i) → (x - i ≤ 4 → c = nm B i (x - i)) ∧ (4 < x - i → c = 30001)) ∧ (¬ LT (B i) → ¬ DG (B i) → (SG (B i) → c = 10000 + B i) ∧ (¬ SG (B i) → c = 30001))
/-- a tape of bytes -/
def TB (C : Nat → Int32) (B : Nat → Int) (t : Nat) : Prop := t ≤ 400 ∧ ∀ i, i < t → 0 ≤ B i ∧ B i ≤ 255 ∧ C i = jI (if B i < 128 then B i else B i - 256)
theorem fX7_isLetter_j (v : Int) (h0 : 0 ≤ v) (h1 : v ≤ 255) : (LT v → fX7_isLetter (jI (if v < 128 then v else v - 256)) = some 1) ∧ (¬ LT v → fX7_isLetter (jI (if v < 128 then v else v - 256)) = some 0) := by
  generalize hs : (if v < 128 then v else v - 256) = s
  have hs' : (v < 128 ∧ s = v) ∨ (128 ≤ v ∧ s = v - 256) := by
    by_cases z : v < 128
    · rw [if_pos z] at hs; omega
    · rw [if_neg z] at hs; omega
  have a1 : (jI s < (97 : Int32)) = (s < 97) := jI_lt s 97 (by omega) (by omega) (by omega) (by omega)
  have a2 : (jI s ≤ (122 : Int32)) = (s ≤ 122) := jI_le s 122 (by omega) (by omega) (by omega) (by omega)
  have a3 : (jI s < (65 : Int32)) = (s < 65) := jI_lt s 65 (by omega) (by omega) (by omega) (by omega)
  have a4 : ((90 : Int32) < jI s) = (90 < s) := jI_lt 90 s (by omega) (by omega) (by omega) (by omega)
  unfold fX7_isLetter fX7_isLetter_12 fX7_isLetter_24 LT
  simp only [a1, a2, a3, a4]
  constructor
  · intro h
    repeat' split
    all_goals first
      | rfl
      | (exfalso; omega)
  · intro h
    repeat' split
    all_goals first
      | rfl
      | (exfalso; omega)
theorem fX7_isDigit_j (v : Int) (h0 : 0 ≤ v) (h1 : v ≤ 255) : (DG v → fX7_isDigit (jI (if v < 128 then v else v - 256)) = some 1) ∧ (¬ DG v → fX7_isDigit (jI (if v < 128 then v else v - 256)) = some 0) := by
  generalize hs : (if v < 128 then v else v - 256) = s
  have hs' : (v < 128 ∧ s = v) ∨ (128 ≤ v ∧ s = v - 256) := by
    by_cases z : v < 128
    · rw [if_pos z] at hs; omega
    · rw [if_neg z] at hs; omega
  have a1 : (jI s < (48 : Int32)) = (s < 48) := jI_lt s 48 (by omega) (by omega) (by omega) (by omega)
  have a2 : ((57 : Int32) < jI s) = (57 < s) := jI_lt 57 s (by omega) (by omega) (by omega) (by omega)
  unfold fX7_isDigit DG
  simp only [a1, a2]
  constructor
  · intro h
    repeat' split
    all_goals first
      | rfl
      | (exfalso; omega)
  · intro h
    repeat' split
    all_goals first
      | rfl
      | (exfalso; omega)
theorem LT_DG {v : Int} (h : LT v) : ¬ DG v := by unfold LT at h; unfold DG; omega
/-- the end of a run -/
theorem run_end (P : Nat → Prop) (i t : Nat) (hi : i < t) : ∃ x, i < x ∧ x ≤ t ∧ (∀ y, i < y → y < x → P y) ∧ (x < t → ¬ P x) := by
  obtain ⟨x, h1, h2, h3⟩ := least_ex (fun x => i < x ∧ (x = t ∨ ¬ P x)) (t + 1) ⟨t, by omega, hi, Or.inl rfl⟩
  refine ⟨x, h2.1, by omega, fun y hy hx => ?_, fun hx => ?_⟩
  · refine Classical.byContradiction fun z => h3 y hx ⟨hy, Or.inr z⟩
  · rcases h2.2 with q | q
    · omega
    · exact q
theorem TE_ex (B : Nat → Int) (t i : Nat) (hi : i < t) : ∃ x, TE B t i x := by
  rcases Classical.em (LT (B i)) with l | l
  · obtain ⟨x, h1, h2, h3, h4⟩ := run_end (fun y => LT (B y)) i t hi
    refine ⟨x, h1, h2, fun _ => ⟨fun y hy hx => ?_, h4⟩, fun d => absurd d (LT_DG l), fun q => absurd l q⟩
    by_cases e : y = i
    · rw [e]; exact l
    · exact h3 y (by omega) hx
  · rcases Classical.em (DG (B i)) with d | d
    · obtain ⟨x, h1, h2, h3, h4⟩ := run_end (fun y => DG (B y)) i t hi
      refine ⟨x, h1, h2, fun q => absurd q l, fun _ => ⟨fun y hy hx => ?_, h4⟩, fun _ q => absurd d q⟩
      by_cases e : y = i
      · rw [e]; exact d
      · exact h3 y (by omega) hx
    · exact ⟨i + 1, by omega, by omega, fun q => absurd q l, fun q => absurd q d, fun _ _ => rfl⟩
theorem fX7_tokenEnd_j {C : Nat → Int32} {B : Nat → Int} {t : Nat} (h : TB C B t) (i x : Nat) (hi : i < t) (hx : TE B t i x) : fX7_tokenEnd C (jI i) (jI t) = some (jI x) := by
  have ht := h.1
  obtain ⟨x1, x2, x3, x4, x5⟩ := hx
  have bi := h.2 i hi
  have li := fX7_isLetter_j (B i) bi.1 bi.2.1
  have di := fX7_isDigit_j (B i) bi.1 bi.2.1
  have key : ∀ (l d : Int32), ((LT (B i) ∧ l = 1 ∧ d = 0) ∨ (¬ LT (B i) ∧ DG (B i) ∧ l = 0 ∧ d = 1) ∨ (¬ LT (B i) ∧ ¬ DG (B i) ∧ l = 0 ∧ d = 0)) → ∀ (k fuel y : Nat), y + k = x → i < y → k < fuel → fX7_tokenEnd_20 C fuel (jI t) l d (jI y) = some (jI x) := by
    intro l d hc k
    induction k with
    | zero =>
      intro fuel y hk hy hf
      obtain ⟨f, rfl⟩ : ∃ f, fuel = f + 1 := ⟨fuel - 1, by omega⟩
      have e : y = x := by omega
      subst e
      unfold fX7_tokenEnd_20
      by_cases z : y < t
      · have b := h.2 y z
        rw [if_neg (by rw [jI_le _ _ (by omega) (by omega) (by omega) (by omega)]; omega)]
        unfold fX7_tokenEnd_40
        rw [dt_ix_n y 400 (by omega) (by omega), dt_b1, dt_b1, b.2.2]
        rcases hc with ⟨c1, rfl, rfl⟩ | ⟨c1, c2, rfl, rfl⟩ | ⟨c1, c2, rfl, rfl⟩
        · rw [if_neg n10, (fX7_isLetter_j (B y) b.1 b.2.1).2 ((x3 c1).2 z), dt_b1, i00, i00]
        · rw [i00, if_neg n10, (fX7_isDigit_j (B y) b.1 b.2.1).2 ((x4 c2).2 z), dt_b1, i00]
        · rw [i00, i00]
      · rw [if_pos (by rw [jI_le _ _ (by omega) (by omega) (by omega) (by omega)]; omega)]
    | succ k ih =>
      intro fuel y hk hy hf
      obtain ⟨f, rfl⟩ : ∃ f, fuel = f + 1 := ⟨fuel - 1, by omega⟩
      have yt : y < t := by omega
      have b := h.2 y yt
      have ihh := ih f (y + 1) (by omega) (by omega) (by omega)
      have cy : jI y + (1 : Int32) = jI ((y + 1 : Nat) : Int) := by rw [show (1 : Int32) = jI 1 from rfl, jI_add]; rfl
      unfold fX7_tokenEnd_20
      rw [if_neg (by rw [jI_le _ _ (by omega) (by omega) (by omega) (by omega)]; omega)]
      unfold fX7_tokenEnd_40 fX7_tokenEnd_55
      rw [dt_ix_n y 400 (by omega) (by omega), dt_b1, dt_b1, b.2.2, cy]
      rcases hc with ⟨c1, rfl, rfl⟩ | ⟨c1, c2, rfl, rfl⟩ | ⟨c1, c2, rfl, rfl⟩
      · rw [if_neg n10, (fX7_isLetter_j (B y) b.1 b.2.1).1 ((x3 c1).1 y (by omega) (by omega)), dt_b1, i10]
        exact ihh
      · rw [i00, if_neg n10, (fX7_isDigit_j (B y) b.1 b.2.1).1 ((x4 c2).1 y (by omega) (by omega)), dt_b1, i10]
        exact ihh
      · have := x5 c1 c2; omega
  unfold fX7_tokenEnd
  rw [dt_ix_n i 400 (by omega) (by omega), dt_b1, bi.2.2, show (1 : Int32) = jI 1 from rfl, jI_add, show ((i : Int) + 1) = ((i + 1 : Nat) : Int) by omega]
  rcases Classical.em (LT (B i)) with l | l
  · rw [li.1 l, dt_b1, dt_b1, bi.2.2, di.2 (LT_DG l), dt_b1]
    exact key 1 0 (Or.inl ⟨l, rfl, rfl⟩) (x - (i + 1)) dt_F (i + 1) (by omega) (by omega) (by unfold dt_F; omega)
  · rw [li.2 l, dt_b1, dt_b1, bi.2.2]
    rcases Classical.em (DG (B i)) with d | d
    · rw [di.1 d, dt_b1]
      exact key 0 1 (Or.inr (Or.inl ⟨l, d, rfl, rfl⟩)) (x - (i + 1)) dt_F (i + 1) (by omega) (by omega) (by unfold dt_F; omega)
    · rw [di.2 d, dt_b1]
      exact key 0 0 (Or.inr (Or.inr ⟨l, d, rfl, rfl⟩)) (x - (i + 1)) dt_F (i + 1) (by omega) (by omega) (by unfold dt_F; omega)
theorem sch_rng : ∀ a, a < 62 → ∃ c : Nat, c < 128 ∧ dt_sch 1 a = jI (c : Nat) := by decide +kernel
theorem sx_eq (v : Int) (h0 : 0 ≤ v) (h1 : v ≤ 255) (a : Nat) (ha : a < 62) : (jI (if v < 128 then v else v - 256) = dt_sch 1 a) ↔ (jI v = dt_sch 1 a) := by
  obtain ⟨c, hc, e⟩ := sch_rng a ha
  rw [e]
  rw [jI_eq v c (by omega) (by omega) (by omega) (by omega)]
  by_cases z : v < 128
  · rw [if_pos z, jI_eq v c (by omega) (by omega) (by omega) (by omega)]
  · rw [if_neg z, jI_eq (v - 256) c (by omega) (by omega) (by omega) (by omega)]
    omega
theorem fX7_isSame_j {C : Nat → Int32} {B : Nat → Int} {t : Nat} (h : TB C B t) (i s : Nat) (len : Nat) (hi : i + len ≤ t) (hs : s + len ≤ 62) : ∀ (k fuel j : Nat), j + k = len → k < fuel → ((∀ y, j ≤ y → y < len → jI (B (i + y)) = dt_sch 1 (s + y)) → fX7_isSame_3 C fuel (jI i) (jI s) (jI ((s + len : Nat) : Int)) (jI ((s + j : Nat) : Int)) = some 1) ∧ ((∃ y, j ≤ y ∧ y < len ∧ ¬ jI (B (i + y)) = dt_sch 1 (s + y)) → fX7_isSame_3 C fuel (jI i) (jI s) (jI ((s + len : Nat) : Int)) (jI ((s + j : Nat) : Int)) = some 0) := by
  have ht := h.1
  intro k
  induction k with
  | zero =>
    intro fuel j hk hf
    obtain ⟨f, rfl⟩ : ∃ f, fuel = f + 1 := ⟨fuel - 1, by omega⟩
    refine ⟨fun _ => ?_, fun ⟨y, h1, h2, _⟩ => by omega⟩
    unfold fX7_isSame_3
    rw [if_pos (by rw [jI_le _ _ (by omega) (by omega) (by omega) (by omega)]; omega)]
  | succ k ih =>
    intro fuel j hk hf
    obtain ⟨f, rfl⟩ : ∃ f, fuel = f + 1 := ⟨fuel - 1, by omega⟩
    have b := h.2 (i + j) (by omega)
    have ihh := ih f (j + 1) (by omega) (by omega)
    have ix : dt_ix ((jI i + jI ((s + j : Nat) : Int)) - jI s) 400 = some (i + j) := by
      rw [jI_add, jI_sub, show ((i : Int) + ((s + j : Nat) : Int) - s) = ((i + j : Nat) : Int) by omega]
      exact dt_ix_n _ _ (by omega) (by omega)
    have iy : dt_ix (jI ((s + j : Nat) : Int)) (dt_sln 1) = some (s + j) := dt_ix_n _ _ (by have : dt_sln 1 = 62 := by decide +kernel
                                                                                            omega) (by have : dt_sln 1 = 62 := by decide +kernel
                                                                                                       omega)
    have e : fX7_isSame_3 C (f + 1) (jI i) (jI s) (jI ((s + len : Nat) : Int)) (jI ((s + j : Nat) : Int)) = if C (i + j) = dt_sch 1 (s + j) then fX7_isSame_3 C f (jI i) (jI s) (jI ((s + len : Nat) : Int)) (jI ((s + (j + 1) : Nat) : Int)) else some 0 := by
      rw [fX7_isSame_3]
      rw [if_neg (by rw [jI_le _ _ (by omega) (by omega) (by omega) (by omega)]; omega), ix, dt_b1, iy, dt_b1, show (1 : Int32) = jI 1 from rfl, jI_add]
      rfl
    rw [e]
    have sx := sx_eq (B (i + j)) b.1 b.2.1 (s + j) (by omega)
    rw [b.2.2]
    by_cases z : jI (B (i + j)) = dt_sch 1 (s + j)
    · rw [if_pos (sx.mpr z)]
      refine ⟨fun q => ihh.1 (fun y h1 h2 => q y (by omega) h2), fun ⟨y, h1, h2, h3⟩ => ihh.2 ⟨y, ?_, h2, h3⟩⟩
      by_cases ey : y = j
      · subst ey; exact absurd z h3
      · omega
    · rw [if_neg (fun q => z (sx.mp q))]
      exact ⟨fun q => absurd (q j (by omega) (by omega)) z, fun _ => rfl⟩
theorem fX7_wordOf_seg {C : Nat → Int32} {B : Nat → Int} {t : Nat} (h : TB C B t) (i x : Nat) (hix : i < x) (hxt : x ≤ t) (code s len : Nat) (hs : s + len < 62) (hlen : 1 ≤ len) (hch : ∀ y, y < len → dt_sch 1 (s + y) ≠ 32) (hsp : dt_sch 1 (s + len) = 32) : ∀ (k fuel j : Nat), j + k = len → k < fuel → ((x - i = len ∧ ∀ y, y < len → jI (B (i + y)) = dt_sch 1 (s + y)) → fX7_wordOf_10 C fuel (jI i) (jI x) (jI code) (jI s) (jI ((s + j : Nat) : Int)) = some (jI code)) ∧ (¬ (x - i = len ∧ ∀ y, y < len → jI (B (i + y)) = dt_sch 1 (s + y)) → fX7_wordOf_10 C fuel (jI i) (jI x) (jI code) (jI s) (jI ((s + j : Nat) : Int)) = fX7_wordOf_10 C (fuel - (k + 1)) (jI i) (jI x) (jI ((code + 1 : Nat) : Int)) (jI ((s + len + 1 : Nat) : Int)) (jI ((s + len + 1 : Nat) : Int))) := by
  have ht := h.1
  have sl : dt_slen 1 = jI 62 := by decide +kernel
  have sn : dt_sln 1 = 62 := by decide +kernel
  intro k
  induction k with
  | zero =>
    intro fuel j hk hf
    obtain ⟨f, rfl⟩ : ∃ f, fuel = f + 1 := ⟨fuel - 1, by omega⟩
    have e : j = len := by omega
    subst e
    have iy : dt_ix (jI ((s + j : Nat) : Int)) (dt_sln 1) = some (s + j) := by rw [sn]; exact dt_ix_n _ _ (by omega) (by omega)
    have c1 : ((jI ((s + j : Nat) : Int) - jI s) = (jI x - jI i)) = ((((s + j : Nat) : Int) - s) = (x : Int) - i) := by
      rw [jI_sub, jI_sub]; exact jI_eq _ _ (by omega) (by omega) (by omega) (by omega)
    have st : fX7_wordOf_10 C (f + 1) (jI i) (jI x) (jI code) (jI s) (jI ((s + j : Nat) : Int)) = (if (jI ((s + j : Nat) : Int) - jI s) = (jI x - jI i) then ((fX7_isSame C (jI i) (jI s) (jI ((s + j : Nat) : Int))).bind fun q2 => (if q2 = 0 then fX7_wordOf_10 C f (jI i) (jI x) (jI ((code + 1 : Nat) : Int)) (jI ((s + j + 1 : Nat) : Int)) (jI ((s + j + 1 : Nat) : Int)) else some (jI code))) else fX7_wordOf_10 C f (jI i) (jI x) (jI ((code + 1 : Nat) : Int)) (jI ((s + j + 1 : Nat) : Int)) (jI ((s + j + 1 : Nat) : Int))) := by
      rw [fX7_wordOf_10]
      unfold fX7_wordOf_57 fX7_wordOf_66
      rw [sl, if_neg (by rw [jI_le _ _ (by omega) (by omega) (by omega) (by omega)]; omega), iy, dt_b1, hsp, if_pos rfl, show (1 : Int32) = jI 1 from rfl, jI_add, jI_add]
      rfl
    rw [st, show f + 1 - (0 + 1) = f by omega]
    by_cases z : x - i = j
    · rw [if_pos (by rw [c1]; omega)]
      have sm := fX7_isSame_j h i s j (by omega) (by omega) j dt_F 0 (by omega) (by unfold dt_F; omega)
      by_cases y : ∀ y, y < j → jI (B (i + y)) = dt_sch 1 (s + y)
      · have e1 : fX7_isSame C (jI i) (jI s) (jI ((s + j : Nat) : Int)) = some 1 := sm.1 (fun q _ hq => y q hq)
        rw [e1, dt_b1, i10]
        exact ⟨fun _ => rfl, fun q => absurd ⟨z, y⟩ q⟩
      · have ex : ∃ q, 0 ≤ q ∧ q < j ∧ ¬ jI (B (i + q)) = dt_sch 1 (s + q) := by
          refine Classical.byContradiction fun q => y (fun u hu => ?_)
          refine Classical.byContradiction fun v => q ⟨u, by omega, hu, v⟩
        have e1 : fX7_isSame C (jI i) (jI s) (jI ((s + j : Nat) : Int)) = some 0 := sm.2 ex
        rw [e1, dt_b1, i00]
        exact ⟨fun q => absurd q.2 y, fun _ => rfl⟩
    · rw [if_neg (by rw [c1]; omega)]
      exact ⟨fun q => absurd q.1 z, fun _ => rfl⟩
  | succ k ih =>
    intro fuel j hk hf
    obtain ⟨f, rfl⟩ : ∃ f, fuel = f + 1 := ⟨fuel - 1, by omega⟩
    have ihh := ih f (j + 1) (by omega) (by omega)
    have iy : dt_ix (jI ((s + j : Nat) : Int)) (dt_sln 1) = some (s + j) := by rw [sn]; exact dt_ix_n _ _ (by omega) (by omega)
    have st : fX7_wordOf_10 C (f + 1) (jI i) (jI x) (jI code) (jI s) (jI ((s + j : Nat) : Int)) = fX7_wordOf_10 C f (jI i) (jI x) (jI code) (jI s) (jI ((s + (j + 1) : Nat) : Int)) := by
      rw [fX7_wordOf_10]
      unfold fX7_wordOf_66
      rw [sl, if_neg (by rw [jI_le _ _ (by omega) (by omega) (by omega) (by omega)]; omega), iy, dt_b1, if_neg (hch j (by omega)), show (1 : Int32) = jI 1 from rfl, jI_add]
      rfl
    rw [st, show f + 1 - (k + 1 + 1) = f - (k + 1) by omega]
    exact ihh
