/-! ===== the reference's tokens ===== -/
def tkw (k : Nat) : Int := [20, 21, 4, 5, 6, 41, 42, 43, 44, 45, 46, 47].getD k 1
def tk (c : Int) : Int := if c < 10000 then 2 else if c = 30000 then 0 else if c = 30001 then 1 else if 20000 ≤ c then tkw (c - 20000).toNat else c - 9900
theorem fX10_isLetter_j (v : Int) (h0 : -1 ≤ v) (h1 : v ≤ 255) : (LT v → fX10_isLetter (jI v) = some 1) ∧ (¬ LT v → fX10_isLetter (jI v) = some 0) := by
  have q1 : fX10_isIn (jI v) 97 122 = some (if 97 ≤ v ∧ v ≤ 122 then 1 else 0) := fX10_isIn_j v 97 122 (by omega) (by omega) (by omega) (by omega) (by omega) (by omega)
  have q2 : fX10_isIn (jI v) 65 90 = some (if 65 ≤ v ∧ v ≤ 90 then 1 else 0) := fX10_isIn_j v 65 90 (by omega) (by omega) (by omega) (by omega) (by omega) (by omega)
  unfold fX10_isLetter fX10_isLetter_22 LT
  rw [q1, dt_b1, q2, dt_b1]
  by_cases a : 97 ≤ v ∧ v ≤ 122
  · rw [if_pos a, i10]
    exact ⟨fun _ => rfl, fun q => absurd (Or.inl a) q⟩
  · rw [if_neg a, i00]
    by_cases b : 65 ≤ v ∧ v ≤ 90
    · rw [if_pos b, i10]
      exact ⟨fun _ => rfl, fun q => absurd (Or.inr b) q⟩
    · rw [if_neg b, i00]
      exact ⟨fun q => (q.elim a b).elim, fun _ => rfl⟩
theorem fX10_isDigit_j (v : Int) (h0 : -1 ≤ v) (h1 : v ≤ 255) : (DG v → fX10_isDigit (jI v) = some 1) ∧ (¬ DG v → fX10_isDigit (jI v) = some 0) := by
  have q1 : fX10_isIn (jI v) 48 57 = some (if 48 ≤ v ∧ v ≤ 57 then 1 else 0) := fX10_isIn_j v 48 57 (by omega) (by omega) (by omega) (by omega) (by omega) (by omega)
  unfold fX10_isDigit DG
  rw [q1, dt_b1]
  by_cases a : 48 ≤ v ∧ v ≤ 57
  · rw [if_pos a, if_pos (Or.inr rfl)]
    exact ⟨fun _ => rfl, fun q => absurd a q⟩
  · rw [if_neg a, if_pos (Or.inl rfl)]
    exact ⟨fun q => absurd q a, fun _ => rfl⟩
/-- the reference's tape -/
def MB (T : dt_Ob) (B : Nat → Int) (t : Nat) : Prop := t ≤ 400 ∧ T 18 0 = jI t ∧ ∀ i, i < t → 0 ≤ B i ∧ B i ≤ 255 ∧ T 13 i = jI (B i)
def seb (B : Nat → Int) (t y : Nat) : Int := if y < t then B y else -1
theorem seb_rng {T : dt_Ob} {B : Nat → Int} {t : Nat} (h : MB T B t) (y : Nat) : -1 ≤ seb B t y ∧ seb B t y ≤ 255 := by
  unfold seb
  split
  case isTrue z => have := h.2.2 y z; omega
  case isFalse => omega
theorem fX10_see_j {T : dt_Ob} {B : Nat → Int} {t : Nat} (h : MB T B t) (y : Nat) (hy : y ≤ t) : fX10_see (jI y) T = some (jI (seb B t y)) := by
  have ht := h.1
  unfold fX10_see seb
  rw [h.2.1]
  by_cases z : y < t
  · rw [if_neg (by rw [jI_le _ _ (by omega) (by omega) (by omega) (by omega)]; omega), dt_ix_n y 400 (by omega) (by omega), dt_b1, (h.2.2 y z).2.2, if_pos z]
  · rw [if_pos (by rw [jI_le _ _ (by omega) (by omega) (by omega) (by omega)]; omega), if_neg z]
    rfl
theorem MB_congr {T T' : dt_Ob} {B : Nat → Int} {t : Nat} (h : MB T B t) (e18 : T' 18 = T 18) (e13 : T' 13 = T 13) : MB T' B t := by
  refine ⟨h.1, by rw [e18]; exact h.2.1, fun i hi => by rw [e13]; exact h.2.2 i hi⟩
/-- one word tried -/
theorem fX10_is_j {T : dt_Ob} {B : Nat → Int} {t : Nat} (h : MB T B t) (sn k : Nat) (hsl : dt_slen sn = jI (wln k : Nat)) (hsn : dt_sln sn = wln k) (hl : wln k ≤ 7) (hch : ∀ j, j < wln k → dt_sch sn j = dt_sch 1 (wst k + j)) (i x : Nat) (hix : i < x) (hxt : x ≤ t) (e19 : T 19 0 = jI x) (e21 : T 21 0 = jI i) : (WM B k i x → fX10_is sn T = some 1) ∧ (¬ WM B k i x → fX10_is sn T = some 0) := by
  have ht := h.1
  have key : x - i = wln k → ∀ (d fuel j : Nat), j + d = wln k → d + 1 < fuel → ((∀ y, j ≤ y → y < wln k → jI (B (i + y)) = dt_sch 1 (wst k + y)) → fX10_is_24 sn fuel 1 (jI j) T = some 1) ∧ ((∃ y, j ≤ y ∧ y < wln k ∧ ¬ jI (B (i + y)) = dt_sch 1 (wst k + y)) → fX10_is_24 sn fuel 1 (jI j) T = some 0) := by
    intro hx d
    induction d with
    | zero =>
      intro fuel j hd hf
      obtain ⟨f, rfl⟩ : ∃ f, fuel = f + 1 := ⟨fuel - 1, by omega⟩
      refine ⟨fun _ => ?_, fun ⟨y, h1, h2, _⟩ => by omega⟩
      unfold fX10_is_24
      rw [hsl, if_pos (by rw [jI_le _ _ (by omega) (by omega) (by omega) (by omega)]; omega), if_pos (Or.inr rfl)]
    | succ d ih =>
      intro fuel j hd hf
      obtain ⟨f, rfl⟩ : ∃ f, fuel = f + 1 := ⟨fuel - 1, by omega⟩
      have ihh := ih f (j + 1) (by omega) (by omega)
      have ix : dt_ix (jI i + jI j) 400 = some (i + j) := by
        rw [jI_add, show ((i : Int) + j) = ((i + j : Nat) : Int) by omega]; exact dt_ix_n _ _ (by omega) (by omega)
      have iy : dt_ix (jI j) (dt_sln sn) = some j := by rw [hsn]; exact dt_ix_n _ _ (by omega) (by omega)
      have e : fX10_is_24 sn (f + 1) 1 (jI j) T = if jI (B (i + j)) = dt_sch 1 (wst k + j) then fX10_is_24 sn f 1 (jI ((j + 1 : Nat) : Int)) T else fX10_is_24 sn f 0 (jI ((j + 1 : Nat) : Int)) T := by
        rw [fX10_is_24]
        unfold fX10_is_60
        rw [hsl, if_neg (by rw [jI_le _ _ (by omega) (by omega) (by omega) (by omega)]; omega), if_neg n10, e21, ix, dt_b1, iy, dt_b1, (h.2.2 (i + j) (by omega)).2.2, hch j (by omega), show (1 : Int32) = jI 1 from rfl, jI_add]
        rfl
      have z0 : fX10_is_24 sn f 0 (jI ((j + 1 : Nat) : Int)) T = some 0 := by
        obtain ⟨f2, rfl⟩ : ∃ f2, f = f2 + 1 := ⟨f - 1, by omega⟩
        unfold fX10_is_24
        rw [if_pos (show (0 : Int32) = 0 from rfl), if_pos (show (0 : Int32) = 0 ∨ (0 : Int32) = 1 from Or.inl rfl)]
        split <;> rfl
      rw [e]
      by_cases z : jI (B (i + j)) = dt_sch 1 (wst k + j)
      · rw [if_pos z]
        refine ⟨fun q => ihh.1 (fun y h1 h2 => q y (by omega) h2), fun ⟨y, h1, h2, h3⟩ => ihh.2 ⟨y, ?_, h2, h3⟩⟩
        by_cases ey : y = j
        · subst ey; exact absurd z h3
        · omega
      · rw [if_neg z, z0]
        exact ⟨fun q => absurd (q j (by omega) (by omega)) z, fun _ => rfl⟩
  have c1 : (jI x - jI i = jI (wln k : Nat)) = ((x : Int) - i = wln k) := by rw [jI_sub]; exact jI_eq _ _ (by omega) (by omega) (by omega) (by omega)
  unfold fX10_is fX10_is_21
  rw [e19, e21, hsl]
  by_cases z : x - i = wln k
  · rw [if_pos (by rw [c1]; omega)]
    have kk := key z (wln k) dt_F 0 (by omega) (by unfold dt_F; omega)
    refine ⟨fun w => kk.1 (fun y _ hy => w.2 y hy), fun w => kk.2 ?_⟩
    refine Classical.byContradiction fun q => w ⟨z, fun u hu => ?_⟩
    refine Classical.byContradiction fun v => q ⟨u, by omega, hu, v⟩
  · rw [if_neg (by rw [c1]; omega)]
    refine ⟨fun w => absurd w.1 z, fun _ => ?_⟩
    show fX10_is_24 sn dt_F 0 0 T = some 0
    rw [show dt_F = 1999 + 1 from rfl]
    unfold fX10_is_24
    rw [if_pos (show (0 : Int32) = 0 from rfl), if_pos (show (0 : Int32) = 0 ∨ (0 : Int32) = 1 from Or.inl rfl)]
    split <;> rfl
theorem wun : ∀ k, k < 12 → ∀ k', k' < 12 → k ≠ k' → ¬ (wln k = wln k' ∧ ∀ j, j < wln k → dt_sch 1 (wst k + j) = dt_sch 1 (wst k' + j)) := by decide +kernel
theorem WM_un {B : Nat → Int} {i x k k' : Nat} (hk : k < 12) (hk' : k' < 12) (h : WM B k i x) (h' : WM B k' i x) : k = k' := by
  refine Classical.byContradiction fun z => wun k hk k' hk' z ⟨by rw [← h.1, h'.1], fun j hj => ?_⟩
  rw [← h.2 j hj]
  exact h'.2 j (by rw [← h'.1, h.1]; exact hj)
/-- the reference's string of a word -/
def wsn (k : Nat) : Nat := [12, 13, 9, 10, 11, 2, 3, 4, 5, 6, 7, 8].getD k 0
theorem wsn_ok : ∀ k, k < 12 → dt_slen (wsn k) = jI (wln k : Nat) ∧ dt_sln (wsn k) = wln k ∧ wln k ≤ 7 ∧ ∀ j, j < wln k → dt_sch (wsn k) j = dt_sch 1 (wst k + j) := by decide +kernel
theorem fX10_word_j {T : dt_Ob} {B : Nat → Int} {t : Nat} (h : MB T B t) (i x : Nat) (hix : i < x) (hxt : x ≤ t) (e19 : T 19 0 = jI x) (e21 : T 21 0 = jI i) (c : Int) (hc : (∃ k, k < 12 ∧ WM B k i x ∧ (∀ k', k' < k → ¬ WM B k' i x) ∧ c = 20000 + k) ∨ ((∀ k, k < 12 → ¬ WM B k i x) ∧ c = 30001)) : fX10_word T = some (jI (tk c)) := by
  have is' : ∀ k, k < 12 → (WM B k i x → fX10_is (wsn k) T = some 1) ∧ (¬ WM B k i x → fX10_is (wsn k) T = some 0) := fun k hk => by
    obtain ⟨a1, a2, a3, a4⟩ := wsn_ok k hk
    exact fX10_is_j h (wsn k) k a1 a2 a3 a4 i x hix hxt e19 e21
  unfold fX10_word fX10_nameWord
  rcases hc with ⟨k, k1, k2, k3, k4⟩ | ⟨k1, k2⟩
  · have H : ∀ q, q < 12 → fX10_is (wsn q) T = some (if q = k then 1 else 0) := by
      intro q hq
      by_cases z : q = k
      · rw [if_pos z, z]; exact (is' k k1).1 k2
      · rw [if_neg z]; exact (is' q hq).2 (fun w => z (WM_un hq k1 w k2))
    have h0 : fX10_is 12 T = _ := H 0 (by omega)
    have h1 : fX10_is 13 T = _ := H 1 (by omega)
    have h2 : fX10_is 9 T = _ := H 2 (by omega)
    have h3 : fX10_is 10 T = _ := H 3 (by omega)
    have h4 : fX10_is 11 T = _ := H 4 (by omega)
    have h5 : fX10_is 2 T = _ := H 5 (by omega)
    have h6 : fX10_is 3 T = _ := H 6 (by omega)
    have h7 : fX10_is 4 T = _ := H 7 (by omega)
    have h8 : fX10_is 5 T = _ := H 8 (by omega)
    have h9 : fX10_is 6 T = _ := H 9 (by omega)
    have h10 : fX10_is 7 T = _ := H 10 (by omega)
    have h11 : fX10_is 8 T = _ := H 11 (by omega)
    rw [h0, h1, h2, h3, h4, h5, h6, h7, h8, h9, h10, h11, k4]
    have kc : k = 0 ∨ k = 1 ∨ k = 2 ∨ k = 3 ∨ k = 4 ∨ k = 5 ∨ k = 6 ∨ k = 7 ∨ k = 8 ∨ k = 9 ∨ k = 10 ∨ k = 11 := by omega
    rcases kc with e | e | e | e | e | e | e | e | e | e | e | e <;> subst e <;> rfl
  · have H : ∀ q, q < 12 → fX10_is (wsn q) T = some 0 := fun q hq => (is' q hq).2 (k1 q hq)
    have h0 : fX10_is 12 T = _ := H 0 (by omega)
    have h1 : fX10_is 13 T = _ := H 1 (by omega)
    have h2 : fX10_is 9 T = _ := H 2 (by omega)
    have h3 : fX10_is 10 T = _ := H 3 (by omega)
    have h4 : fX10_is 11 T = _ := H 4 (by omega)
    have h5 : fX10_is 2 T = _ := H 5 (by omega)
    have h6 : fX10_is 3 T = _ := H 6 (by omega)
    have h7 : fX10_is 4 T = _ := H 7 (by omega)
    have h8 : fX10_is 5 T = _ := H 8 (by omega)
    have h9 : fX10_is 6 T = _ := H 9 (by omega)
    have h10 : fX10_is 7 T = _ := H 10 (by omega)
    have h11 : fX10_is 8 T = _ := H 11 (by omega)
    rw [h0, h1, h2, h3, h4, h5, h6, h7, h8, h9, h10, h11, k2]
    rfl
/-- only what a token is of changes -/
def NF (T T' : dt_Ob) : Prop := ∀ j, j ≠ 19 → j ≠ 20 → j ≠ 21 → j ≠ 22 → T' j = T j
theorem fX10_next_letters {B : Nat → Int} {t : Nat} (i x : Nat) (hxt : x ≤ t) (hix : i < x) (hl : ∀ y, i ≤ y → y < x → LT (B y)) (he : x < t → ¬ LT (B x)) (c : Int) (hc : (∃ k, k < 12 ∧ WM B k i x ∧ (∀ k', k' < k → ¬ WM B k' i x) ∧ c = 20000 + k) ∨ ((∀ k, k < 12 → ¬ WM B k i x) ∧ c = 30001)) : ∀ (k fuel y : Nat) (T : dt_Ob), MB T B t → y + k = x → i ≤ y → k < fuel → T 19 0 = jI y → T 21 0 = jI i → ∃ T', fX10_next0_76 fuel T = some T' ∧ T' 19 0 = jI x ∧ T' 20 0 = jI (tk c) ∧ T' 21 0 = jI i ∧ NF T T' := by
  intro k
  induction k with
  | zero =>
    intro fuel y T h hk hy hf e19 e21
    obtain ⟨f, rfl⟩ : ∃ f, fuel = f + 1 := ⟨fuel - 1, by omega⟩
    have e : y = x := by omega
    subst e
    have r := seb_rng h y
    refine ⟨dt_set T 20 0 (jI (tk c)), ?_, ?_, dt_set_at _ _ _ _, ?_, fun j _ h20 _ _ => dt_set_n _ _ _ _ _ h20⟩
    · unfold fX10_next0_76
      have nl : ¬ LT (seb B t y) := by
        unfold seb
        by_cases z : y < t
        · rw [if_pos z]; exact he z
        · rw [if_neg z]; unfold LT; omega
      rw [e19, fX10_see_j h y hxt, dt_b1, (fX10_isLetter_j _ r.1 r.2).2 nl, dt_b1, i00, fX10_word_j h i y hix hxt e19 e21 c hc, dt_b1]
    · rw [dt_set_n _ _ _ _ _ (by omega)]; exact e19
    · rw [dt_set_n _ _ _ _ _ (by omega)]; exact e21
  | succ k ih =>
    intro fuel y T h hk hy hf e19 e21
    obtain ⟨f, rfl⟩ : ∃ f, fuel = f + 1 := ⟨fuel - 1, by omega⟩
    have r := seb_rng h y
    obtain ⟨T', a1, a2, a3, a4, a5⟩ := ih f (y + 1) (dt_set T 19 0 (jI ((y + 1 : Nat) : Int))) (MB_congr h (dt_set_n _ _ _ _ _ (by omega)) (dt_set_n _ _ _ _ _ (by omega))) (by omega) (by omega) (by omega) (dt_set_at _ _ _ _) (by rw [dt_set_n _ _ _ _ _ (by omega)]; exact e21)
    refine ⟨T', ?_, a2, a3, a4, fun j h1 h2 h3 h4 => by rw [a5 j h1 h2 h3 h4, dt_set_n _ _ _ _ _ h1]⟩
    unfold fX10_next0_76
    have l : LT (seb B t y) := by unfold seb; rw [if_pos (by omega)]; exact hl y hy (by omega)
    rw [e19, fX10_see_j h y (by omega), dt_b1, (fX10_isLetter_j _ r.1 r.2).1 l, dt_b1, i10, show (1 : Int32) = jI 1 from rfl, jI_add]
    exact a1
theorem fX10_next_digits {B : Nat → Int} {t : Nat} (i x : Nat) (hxt : x ≤ t) (hix : i < x) (hl : ∀ y, i ≤ y → y < x → DG (B y)) (he : x < t → ¬ DG (B x)) : ∀ (k fuel y : Nat) (T : dt_Ob), MB T B t → y + k = x → i ≤ y → k < fuel → T 19 0 = jI y → T 21 0 = jI i → T 22 0 = jI (nm B i (min (y - i) 4)) → ∃ T', fX10_next0_126 fuel T = some T' ∧ T' 19 0 = jI x ∧ T' 20 0 = (if x - i ≤ 4 then 2 else 1) ∧ T' 21 0 = jI i ∧ T' 22 0 = jI (nm B i (min (x - i) 4)) ∧ NF T T' := by
  intro k
  induction k with
  | zero =>
    intro fuel y T h hk hy hf e19 e21 e22
    obtain ⟨f, rfl⟩ : ∃ f, fuel = f + 1 := ⟨fuel - 1, by omega⟩
    have e : y = x := by omega
    subst e
    have r := seb_rng h y
    have ht := h.1
    have c5 : ((5 : Int32) ≤ jI y - jI i) = (5 ≤ (y : Int) - i) := by rw [jI_sub]; exact jI_le 5 _ (by omega) (by omega) (by omega) (by omega)
    refine ⟨dt_set T 20 0 (if y - i ≤ 4 then 2 else 1), ?_, ?_, dt_set_at _ _ _ _, ?_, ?_, fun j _ h20 _ _ => dt_set_n _ _ _ _ _ h20⟩
    · unfold fX10_next0_126 fX10_next0_208
      have nl : ¬ DG (seb B t y) := by
        unfold seb
        by_cases z : y < t
        · rw [if_pos z]; exact he z
        · rw [if_neg z]; unfold DG; omega
      rw [e19, fX10_see_j h y hxt, dt_b1, (fX10_isDigit_j _ r.1 r.2).2 nl, dt_b1, i00, e21]
      by_cases z : y - i ≤ 4
      · rw [if_neg (by rw [c5]; omega), if_pos z]
      · rw [if_pos (by rw [c5]; omega), if_neg z]
    · rw [dt_set_n _ _ _ _ _ (by omega)]; exact e19
    · rw [dt_set_n _ _ _ _ _ (by omega)]; exact e21
    · rw [dt_set_n _ _ _ _ _ (by omega)]; exact e22
  | succ k ih =>
    intro fuel y T h hk hy hf e19 e21 e22
    obtain ⟨f, rfl⟩ : ∃ f, fuel = f + 1 := ⟨fuel - 1, by omega⟩
    have r := seb_rng h y
    have ht := h.1
    have l : DG (seb B t y) := by unfold seb; rw [if_pos (by omega)]; exact hl y hy (by omega)
    have sy : seb B t y = B y := by unfold seb; rw [if_pos (by omega)]
    have c4 : (jI i + (4 : Int32) ≤ jI y) = ((i : Int) + 4 ≤ y) := by rw [show (4 : Int32) = jI 4 from rfl, jI_add]; exact jI_le _ _ (by omega) (by omega) (by omega) (by omega)
    have cy : jI y + (1 : Int32) = jI ((y + 1 : Nat) : Int) := by rw [show (1 : Int32) = jI 1 from rfl, jI_add]; rfl
    by_cases z : (i : Int) + 4 ≤ y
    · obtain ⟨T', a1, a2, a3, a4, a5, a6⟩ := ih f (y + 1) (dt_set T 19 0 (jI ((y + 1 : Nat) : Int))) (MB_congr h (dt_set_n _ _ _ _ _ (by omega)) (dt_set_n _ _ _ _ _ (by omega))) (by omega) (by omega) (by omega) (dt_set_at _ _ _ _) (by rw [dt_set_n _ _ _ _ _ (by omega)]; exact e21) (by rw [dt_set_n _ _ _ _ _ (by omega), e22, show min (y - i) 4 = min (y + 1 - i) 4 by omega])
      refine ⟨T', ?_, a2, a3, a4, a5, fun j h1 h2 h3 h4 => by rw [a6 j h1 h2 h3 h4, dt_set_n _ _ _ _ _ h1]⟩
      unfold fX10_next0_126 fX10_next0_176
      rw [e19, fX10_see_j h y (by omega), dt_b1, (fX10_isDigit_j _ r.1 r.2).1 l, dt_b1, i10, e21, if_pos (by rw [c4]; exact z), cy]
      exact a1
    · obtain ⟨T', a1, a2, a3, a4, a5, a6⟩ := ih f (y + 1) (dt_set (dt_set T 22 0 (jI (nm B i (min (y + 1 - i) 4)))) 19 0 (jI ((y + 1 : Nat) : Int))) (MB_congr h (by rw [dt_set_n _ _ _ _ _ (by omega), dt_set_n _ _ _ _ _ (by omega)]) (by rw [dt_set_n _ _ _ _ _ (by omega), dt_set_n _ _ _ _ _ (by omega)])) (by omega) (by omega) (by omega) (dt_set_at _ _ _ _) (by rw [dt_set_n _ _ _ _ _ (by omega), dt_set_n _ _ _ _ _ (by omega)]; exact e21) (by rw [dt_set_n _ _ _ _ _ (by omega)]; exact dt_set_at _ _ _ _)
      refine ⟨T', ?_, a2, a3, a4, a5, fun j h1 h2 h3 h4 => by rw [a6 j h1 h2 h3 h4, dt_set_n _ _ _ _ _ h1, dt_set_n _ _ _ _ _ h4]⟩
      have nv : ((10 : Int32) * jI (nm B i (min (y - i) 4)) + jI (B y)) - (48 : Int32) = jI (nm B i (min (y + 1 - i) 4)) := by
        rw [show (10 : Int32) = jI 10 from rfl, show (48 : Int32) = jI 48 from rfl, jI_mul, jI_add, jI_sub, show min (y + 1 - i) 4 = min (y - i) 4 + 1 by omega]
        show _ = jI (nm B i (min (y - i) 4) * 10 + B (i + min (y - i) 4) - 48)
        rw [show i + min (y - i) 4 = y by omega, Int.mul_comm 10]
      unfold fX10_next0_126 fX10_next0_176
      rw [e19, fX10_see_j h y (by omega), dt_b1, (fX10_isDigit_j _ r.1 r.2).1 l, dt_b1, i10, e21, if_neg (by rw [c4]; exact z), dt_b1, sy, e22, nv, dt_set_n _ _ _ _ _ (show (19 : Nat) ≠ 22 by omega), e19, cy]
      exact a1
/-- the next token, and the end -/
theorem fX10_next0_j {B : Nat → Int} {t : Nat} (i : Nat) : ∀ (k fuel e : Nat) (T : dt_Ob), MB T B t → SK B t e i → e + k = i → k < fuel → T 19 0 = jI e → ((i = t → ∃ T', fX10_next0_0 fuel T = some T' ∧ T' 19 0 = jI t ∧ T' 20 0 = 0 ∧ T' 21 0 = jI t ∧ NF T T') ∧ (∀ (x : Nat) (c : Int), i < t → TE B t i x → CD B i x c → 0 ≤ c → c ≤ 30001 → ∃ T', fX10_next0_0 fuel T = some T' ∧ T' 19 0 = jI x ∧ T' 20 0 = jI (tk c) ∧ T' 21 0 = jI i ∧ (c < 10000 → T' 22 0 = jI c) ∧ NF T T')) := by
  intro k
  induction k with
  | zero =>
    intro fuel e T h sk hk hf e19
    obtain ⟨f, rfl⟩ : ∃ f, fuel = f + 1 := ⟨fuel - 1, by omega⟩
    have ee : e = i := by omega
    subst ee
    obtain ⟨s1, s2, s3, s4⟩ := sk
    have ht := h.1
    have r := seb_rng h e
    have e32 : (jI (seb B t e) = (32 : Int32)) = (seb B t e = 32) := jI_eq _ 32 (by omega) (by omega) (by omega) (by omega)
    have e10 : (jI (seb B t e) = (10 : Int32)) = (seb B t e = 10) := jI_eq _ 10 (by omega) (by omega) (by omega) (by omega)
    have e_1 : (jI (seb B t e) = (-1 : Int32)) = (seb B t e = -1) := by rw [show (-1 : Int32) = jI (-1) from rfl]; exact jI_eq _ _ (by omega) (by omega) (by omega) (by omega)
    have nb : seb B t e ≠ 32 ∧ seb B t e ≠ 10 := by
      unfold seb
      by_cases z : e < t
      · rw [if_pos z]
        have := s4 z
        unfold BL at this
        omega
      · rw [if_neg z]; omega
    have h21 : MB (dt_set T 21 0 (jI e)) B t := MB_congr h (dt_set_n _ _ _ _ _ (by omega)) (dt_set_n _ _ _ _ _ (by omega))
    have hd : fX10_next0_0 (f + 1) T = (if jI (seb B t e) = (-1 : Int32) then (some (dt_set (dt_set T 21 0 (jI e)) 20 0 (0 : Int32))) else ((fX10_isLetter (jI (seb B t e))).bind fun q4 => (if q4 = 0 then ((fX10_isDigit (jI (seb B t e))).bind fun q5 => (if q5 = 0 then (if jI (seb B t e) = (59 : Int32) then (fX10_next0_284 (jI (seb B t e)) (dt_set (dt_set T 21 0 (jI e)) 19 0 (jI e + (1 : Int32)))) else (if jI (seb B t e) = (43 : Int32) then (fX10_next0_284 (jI (seb B t e)) (dt_set (dt_set T 21 0 (jI e)) 19 0 (jI e + (1 : Int32)))) else (if jI (seb B t e) = (45 : Int32) then (fX10_next0_284 (jI (seb B t e)) (dt_set (dt_set T 21 0 (jI e)) 19 0 (jI e + (1 : Int32)))) else (if jI (seb B t e) = (42 : Int32) then (fX10_next0_284 (jI (seb B t e)) (dt_set (dt_set T 21 0 (jI e)) 19 0 (jI e + (1 : Int32)))) else (if jI (seb B t e) = (47 : Int32) then (fX10_next0_284 (jI (seb B t e)) (dt_set (dt_set T 21 0 (jI e)) 19 0 (jI e + (1 : Int32)))) else (if jI (seb B t e) = (40 : Int32) then (fX10_next0_284 (jI (seb B t e)) (dt_set (dt_set T 21 0 (jI e)) 19 0 (jI e + (1 : Int32)))) else (if jI (seb B t e) = (41 : Int32) then (fX10_next0_284 (jI (seb B t e)) (dt_set (dt_set T 21 0 (jI e)) 19 0 (jI e + (1 : Int32)))) else (if jI (seb B t e) = (60 : Int32) then (fX10_next0_284 (jI (seb B t e)) (dt_set (dt_set T 21 0 (jI e)) 19 0 (jI e + (1 : Int32)))) else (if jI (seb B t e) = (61 : Int32) then (fX10_next0_284 (jI (seb B t e)) (dt_set (dt_set T 21 0 (jI e)) 19 0 (jI e + (1 : Int32)))) else (if jI (seb B t e) = (62 : Int32) then (fX10_next0_284 (jI (seb B t e)) (dt_set (dt_set T 21 0 (jI e)) 19 0 (jI e + (1 : Int32)))) else (fX10_next0_289 (jI (seb B t e)) (0 : Int32) (dt_set (dt_set T 21 0 (jI e)) 19 0 (jI e + (1 : Int32)))))))))))))) else (fX10_next0_126 dt_F (dt_set (dt_set T 21 0 (jI e)) 22 0 (0 : Int32))))) else (fX10_next0_76 dt_F (dt_set T 21 0 (jI e)))))) := by
      rw [fX10_next0_0]
      rw [e19, fX10_see_j h e s2, dt_b1, if_neg (by rw [e32]; exact nb.1), dt_b1, if_neg (by rw [e10]; exact nb.2), fX10_see_j h21 e s2, dt_b1]
    constructor
    · intro it
      have se : seb B t e = -1 := by unfold seb; rw [if_neg (by omega)]
      refine ⟨dt_set (dt_set T 21 0 (jI e)) 20 0 0, ?_, ?_, rfl, ?_, fun j h1 h2 h3 h4 => by rw [dt_set_n _ _ _ _ _ h2, dt_set_n _ _ _ _ _ h3]⟩
      · rw [hd, if_pos (by rw [e_1]; exact se)]
      · rw [dt_set_n _ _ _ _ _ (by omega), dt_set_n _ _ _ _ _ (by omega), e19, it]
      · rw [dt_set_n _ _ _ _ _ (by omega), dt_set_at, it]
    · intro x c it te cd c0 c3
      have se : seb B t e = B e := by unfold seb; rw [if_pos it]
      have b := h.2.2 e it
      obtain ⟨x1, x2, x3, x4, x5⟩ := te
      obtain ⟨d1, d2, d3⟩ := cd
      rw [hd, if_neg (by rw [e_1, se]; omega), se]
      have li := fX10_isLetter_j (B e) (by omega) b.2.1
      have di := fX10_isDigit_j (B e) (by omega) b.2.1
      rcases Classical.em (LT (B e)) with l | l
      · rw [li.1 l, dt_b1, i10]
        obtain ⟨T', a1, a2, a3, a4, a5⟩ := fX10_next_letters e x x2 x1 (x3 l).1 (x3 l).2 c (d1 l) (x - e) dt_F e (dt_set T 21 0 (jI e)) h21 (by omega) (by omega) (by unfold dt_F; omega) (by rw [dt_set_n _ _ _ _ _ (by omega)]; exact e19) (dt_set_at _ _ _ _)
        refine ⟨T', a1, a2, a3, a4, fun z => ?_, fun j h1 h2 h3 h4 => by rw [a5 j h1 h2 h3 h4, dt_set_n _ _ _ _ _ h3]⟩
        rcases d1 l with ⟨k, k1, _, _, k4⟩ | ⟨_, k4⟩ <;> omega
      · rw [li.2 l, dt_b1, i00]
        rcases Classical.em (DG (B e)) with d | d
        · rw [di.1 d, dt_b1, i10]
          obtain ⟨T', a1, a2, a3, a4, a5, a6⟩ := fX10_next_digits e x x2 x1 (x4 d).1 (x4 d).2 (x - e) dt_F e (dt_set (dt_set T 21 0 (jI e)) 22 0 0) (MB_congr h21 (dt_set_n _ _ _ _ _ (by omega)) (dt_set_n _ _ _ _ _ (by omega))) (by omega) (by omega) (by unfold dt_F; omega) (by rw [dt_set_n _ _ _ _ _ (by omega), dt_set_n _ _ _ _ _ (by omega)]; exact e19) (by rw [dt_set_n _ _ _ _ _ (by omega)]; exact dt_set_at _ _ _ _) (by rw [dt_set_at, show min (e - e) 4 = 0 by omega]; rfl)
          refine ⟨T', a1, a2, ?_, a4, fun z => ?_, fun j h1 h2 h3 h4 => by rw [a6 j h1 h2 h3 h4, dt_set_n _ _ _ _ _ h4, dt_set_n _ _ _ _ _ h3]⟩
          · rw [a3]
            by_cases q : x - e ≤ 4
            · have cc := (d2 d).1 q
              have r4 := nm_rng B e (x - e) q (fun y hy => (x4 d).1 (e + y) (by omega) (by omega))
              have : nm B e (x - e) < 10000 := by
                refine Int.lt_of_lt_of_le r4.2 ?_
                repeat' split
                all_goals omega
              unfold tk
              rw [if_pos q, if_pos (by omega)]
              rfl
            · have cc := (d2 d).2 (by omega)
              rw [if_neg q, cc]
              rfl
          · by_cases q : x - e ≤ 4
            · have cc := (d2 d).1 q
              rw [a5, show min (x - e) 4 = x - e by omega, cc]
            · have cc := (d2 d).2 (by omega)
              omega
        · rw [di.2 d, dt_b1, i00]
          have xx := x5 l d
          have dd := d3 l d
          have cy : jI e + (1 : Int32) = jI ((e + 1 : Nat) : Int) := by rw [show (1 : Int32) = jI 1 from rfl, jI_add]; rfl
          have eq : ∀ m : Int, 0 ≤ m → m < 1000 → (jI (B e) = jI m) = (B e = m) := fun m m0 m1 => jI_eq _ _ (by omega) (by omega) (by omega) (by omega)
          have q59 : (jI (B e) = (59 : Int32)) = (B e = 59) := eq 59 (by omega) (by omega)
          have q43 : (jI (B e) = (43 : Int32)) = (B e = 43) := eq 43 (by omega) (by omega)
          have q45 : (jI (B e) = (45 : Int32)) = (B e = 45) := eq 45 (by omega) (by omega)
          have q42 : (jI (B e) = (42 : Int32)) = (B e = 42) := eq 42 (by omega) (by omega)
          have q47 : (jI (B e) = (47 : Int32)) = (B e = 47) := eq 47 (by omega) (by omega)
          have q40 : (jI (B e) = (40 : Int32)) = (B e = 40) := eq 40 (by omega) (by omega)
          have q41 : (jI (B e) = (41 : Int32)) = (B e = 41) := eq 41 (by omega) (by omega)
          have q60 : (jI (B e) = (60 : Int32)) = (B e = 60) := eq 60 (by omega) (by omega)
          have q61 : (jI (B e) = (61 : Int32)) = (B e = 61) := eq 61 (by omega) (by omega)
          have q62 : (jI (B e) = (62 : Int32)) = (B e = 62) := eq 62 (by omega) (by omega)
          unfold fX10_next0_284 fX10_next0_289 fX10_next0_303
          rw [i00, if_neg n10, cy, show (100 : Int32) = jI 100 from rfl, jI_add]
          have fin : ∀ v : Int32, v = jI (tk c) → ∃ T', some (dt_set (dt_set (dt_set T 21 0 (jI e)) 19 0 (jI ((e + 1 : Nat) : Int))) 20 0 v) = some T' ∧ T' 19 0 = jI x ∧ T' 20 0 = jI (tk c) ∧ T' 21 0 = jI e ∧ (c < 10000 → T' 22 0 = jI c) ∧ NF T T' := by
            intro v hv
            refine ⟨_, rfl, ?_, ?_, ?_, fun z => ?_, fun j h1 h2 h3 h4 => by rw [dt_set_n _ _ _ _ _ h2, dt_set_n _ _ _ _ _ h1, dt_set_n _ _ _ _ _ h3]⟩
            · rw [dt_set_n _ _ _ _ _ (by omega), dt_set_at, xx]
            · rw [dt_set_at, hv]
            · rw [dt_set_n _ _ _ _ _ (by omega), dt_set_n _ _ _ _ _ (by omega)]; exact dt_set_at _ _ _ _
            · exfalso
              rcases Classical.em (SG (B e)) with s | s
              · have := dd.1 s; omega
              · have := dd.2 s; omega
          simp only [q59, q43, q45, q42, q47, q40, q41, q60, q61, q62]
          rcases Classical.em (SG (B e)) with s | s
          · have cc := dd.1 s
            have s' := s
            unfold SG at s'
            have tv : jI (100 + B e) = jI (tk c) := by
              unfold tk
              rw [if_neg (by omega), if_neg (by omega), if_neg (by omega), if_neg (by omega), cc]
              congr 1
              omega
            repeat' split
            all_goals first
              | exact fin _ tv
              | (exfalso; omega)
          · have cc := dd.2 s
            have s' := s
            unfold SG at s'
            have tv : (1 : Int32) = jI (tk c) := by rw [cc]; rfl
            repeat' split
            all_goals first
              | exact fin _ tv
              | (exfalso; omega)
  | succ k ih =>
    intro fuel e T h sk hk hf e19
    obtain ⟨f, rfl⟩ : ∃ f, fuel = f + 1 := ⟨fuel - 1, by omega⟩
    obtain ⟨s1, s2, s3, s4⟩ := sk
    have ht := h.1
    have se : seb B t e = B e := by unfold seb; rw [if_pos (by omega)]
    have b := h.2.2 e (by omega)
    have bl := s3 e (by omega) (by omega)
    unfold BL at bl
    have e32 : (jI (B e) = (32 : Int32)) = (B e = 32) := jI_eq _ 32 (by omega) (by omega) (by omega) (by omega)
    have e10 : (jI (B e) = (10 : Int32)) = (B e = 10) := jI_eq _ 10 (by omega) (by omega) (by omega) (by omega)
    have st : fX10_next0_0 (f + 1) T = fX10_next0_0 f (dt_set T 19 0 (jI ((e + 1 : Nat) : Int))) := by
      rw [fX10_next0_0]
      unfold fX10_next0_26
      rw [e19, fX10_see_j h e (by omega), dt_b1, se, show (1 : Int32) = jI 1 from rfl, jI_add]
      by_cases z : B e = 32
      · rw [if_pos (by rw [e32]; exact z)]; rfl
      · rw [if_neg (by rw [e32]; exact z), dt_b1, if_pos (by rw [e10]; omega)]; rfl
    have ihh := ih f (e + 1) (dt_set T 19 0 (jI ((e + 1 : Nat) : Int))) (MB_congr h (dt_set_n _ _ _ _ _ (by omega)) (dt_set_n _ _ _ _ _ (by omega))) ⟨by omega, s2, fun y h1 h2 => s3 y (by omega) h2, s4⟩ (by omega) (by omega) (dt_set_at _ _ _ _)
    rw [st]
    constructor
    · intro it
      obtain ⟨T', a1, a2, a3, a4, a5⟩ := ihh.1 it
      exact ⟨T', a1, a2, a3, a4, fun j h1 h2 h3 h4 => by rw [a5 j h1 h2 h3 h4, dt_set_n _ _ _ _ _ h1]⟩
    · intro x c it te cd c0 c3
      obtain ⟨T', a1, a2, a3, a4, a5, a6⟩ := ihh.2 x c it te cd c0 c3
      exact ⟨T', a1, a2, a3, a4, a5, fun j h1 h2 h3 h4 => by rw [a6 j h1 h2 h3 h4, dt_set_n _ _ _ _ _ h1]⟩
