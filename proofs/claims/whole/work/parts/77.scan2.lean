/-! ===== the class scans its tape ===== -/
theorem wseg : ∀ k, k < 12 → wst k + wln k < 62 ∧ 1 ≤ wln k ∧ (∀ y, y < wln k → dt_sch 1 (wst k + y) ≠ 32) ∧ dt_sch 1 (wst k + wln k) = 32 ∧ wst (k + 1) = (if k = 11 then 0 else wst k + wln k + 1) := by decide +kernel
theorem fX7_wordOf_j {C : Nat → Int32} {B : Nat → Int} {t : Nat} (h : TB C B t) (i x : Nat) (hix : i < x) (hxt : x ≤ t) : ∀ (m k fuel : Nat), k + m = 12 → 70 ≤ fuel + wst k ∨ k = 12 ∧ 1 ≤ fuel → ∃ c : Int, fX7_wordOf_10 C fuel (jI i) (jI x) (jI ((20000 + k : Nat) : Int)) (jI ((if k = 12 then 62 else wst k : Nat) : Int)) (jI ((if k = 12 then 62 else wst k : Nat) : Int)) = some (jI c) ∧ ((∃ k', k ≤ k' ∧ k' < 12 ∧ WM B k' i x ∧ (∀ q, k ≤ q → q < k' → ¬ WM B q i x) ∧ c = 20000 + k') ∨ ((∀ q, k ≤ q → q < 12 → ¬ WM B q i x) ∧ c = 30001)) := by
  intro m
  induction m with
  | zero =>
    intro k fuel hk hf
    obtain ⟨f, rfl⟩ : ∃ f, fuel = f + 1 := ⟨fuel - 1, by
      have : k = 12 := by omega
      subst this
      rcases hf with q | q
      · have : wst 12 = 0 := rfl
        omega
      · omega⟩
    refine ⟨30001, ?_, Or.inr ⟨fun q h1 h2 => by omega, rfl⟩⟩
    have e : k = 12 := by omega
    subst e
    unfold fX7_wordOf_10
    rw [if_pos (by decide +kernel)]
    rfl
  | succ m ih =>
    intro k fuel hk hf
    have hk12 : k < 12 := by omega
    obtain ⟨s1, s2, s3, s4, s5⟩ := wseg k hk12
    have ff : 70 ≤ fuel + wst k := by
      rcases hf with q | q
      · exact q
      · omega
    have sg := fX7_wordOf_seg h i x hix hxt (20000 + k) (wst k) (wln k) s1 s2 s3 s4 (wln k) fuel 0 (by omega) (by omega)
    rw [if_neg (show ¬ k = 12 by omega)]
    rcases Classical.em (WM B k i x) with w | w
    · exact ⟨((20000 + k : Nat) : Int), sg.1 w, Or.inl ⟨k, by omega, hk12, w, fun q h1 h2 => by omega, by omega⟩⟩
    · have g := sg.2 w
      by_cases e : k = 11
      · subst e
        have := ih 12 (fuel - (wln 11 + 1)) (by omega) (Or.inr ⟨rfl, by have : wst 11 = 58 := rfl
                                                                        have : wln 11 = 3 := rfl
                                                                        omega⟩)
        obtain ⟨c, c1, c2⟩ := this
        refine ⟨c, ?_, ?_⟩
        · rw [← c1]
          exact g
        · rcases c2 with ⟨k', q1, q2, _⟩ | ⟨q1, q2⟩
          · omega
          · right
            refine ⟨fun q h1 h2 => ?_, q2⟩
            have : q = 11 := by omega
            subst this; exact w
      · rw [if_neg e] at s5
        obtain ⟨c, c1, c2⟩ := ih (k + 1) (fuel - (wln k + 1)) (by omega) (Or.inl (by omega))
        rw [if_neg (show ¬ k + 1 = 12 by omega), s5] at c1
        refine ⟨c, ?_, ?_⟩
        · rw [← c1]
          exact g
        · rcases c2 with ⟨k', q1, q2, q3, q4, q5⟩ | ⟨q1, q2⟩
          · left
            refine ⟨k', by omega, q2, q3, fun q h1 h2 => ?_, q5⟩
            by_cases y : q = k
            · subst y; exact w
            · exact q4 q (by omega) h2
          · right
            refine ⟨fun q h1 h2 => ?_, q2⟩
            by_cases y : q = k
            · subst y; exact w
            · exact q1 q (by omega) h2
theorem nm_rng (B : Nat → Int) (i : Nat) : ∀ m, m ≤ 4 → (∀ y, y < m → DG (B (i + y))) → 0 ≤ nm B i m ∧ nm B i m < (if m = 0 then 1 else if m = 1 then 10 else if m = 2 then 100 else if m = 3 then 1000 else 10000) := by
  intro m
  induction m with
  | zero => intro _ _; unfold nm; simp
  | succ m ih =>
    intro hm hd
    have a := ih (by omega) (fun y hy => hd y (by omega))
    have d := hd m (by omega)
    unfold DG at d
    unfold nm
    have hm' : m = 0 ∨ m = 1 ∨ m = 2 ∨ m = 3 := by omega
    rcases hm' with q | q | q | q <;> subst q <;> (try simp only [Nat.add_zero] at d) <;> simp at a ⊢ <;> omega
theorem fX7_numberOf_j {C : Nat → Int32} {B : Nat → Int} {t : Nat} (h : TB C B t) (i x : Nat) (hix : i < x) (hxt : x ≤ t) (hd : ∀ y, i ≤ y → y < x → DG (B y)) : fX7_numberOf C (jI i) (jI x) = some (jI (if x - i ≤ 4 then nm B i (x - i) else 30001)) := by
  have ht := h.1
  have c1 : (jI x - jI i ≤ (4 : Int32)) = ((x : Int) - i ≤ 4) := by rw [jI_sub]; exact jI_le _ 4 (by omega) (by omega) (by omega) (by omega)
  have key : ∀ (k fuel m : Nat), i + m + k = x → k < fuel → fX7_numberOf_16 C fuel (jI x) (jI (nm B i m)) (jI ((i + m : Nat) : Int)) = some (jI (nm B i (x - i))) := by
    intro k
    induction k with
    | zero =>
      intro fuel m hk hf
      obtain ⟨f, rfl⟩ : ∃ f, fuel = f + 1 := ⟨fuel - 1, by omega⟩
      unfold fX7_numberOf_16
      rw [if_pos (by rw [jI_le _ _ (by omega) (by omega) (by omega) (by omega)]; omega), show m = x - i by omega]
    | succ k ih =>
      intro fuel m hk hf
      obtain ⟨f, rfl⟩ : ∃ f, fuel = f + 1 := ⟨fuel - 1, by omega⟩
      have b := h.2 (i + m) (by omega)
      have d := hd (i + m) (by omega) (by omega)
      unfold DG at d
      unfold fX7_numberOf_16
      rw [if_neg (by rw [jI_le _ _ (by omega) (by omega) (by omega) (by omega)]; omega), dt_ix_n (i + m) 400 (by omega) (by omega), dt_b1, b.2.2, if_pos (by omega), show (10 : Int32) = jI 10 from rfl, show (48 : Int32) = jI 48 from rfl, show (1 : Int32) = jI 1 from rfl, jI_mul, jI_add, jI_sub, jI_add]
      exact ih f (m + 1) (by omega) (by omega)
  unfold fX7_numberOf
  by_cases z : (x : Int) - i ≤ 4
  · rw [if_pos (by rw [c1]; exact z), if_pos (by omega)]
    exact key (x - i) dt_F 0 (by omega) (by unfold dt_F; omega)
  · rw [if_neg (by rw [c1]; exact z), if_neg (by omega)]
    rfl
theorem sign_j : ∀ v : Nat, v < 256 → (dt_six 0 (Int32.toUInt32 (jI (if (v : Int) < 128 then (v : Int) else (v : Int) - 256) &&& (255 : Int32)) % 65536).toInt32 < 0 ↔ ¬ (v = 59 ∨ v = 43 ∨ v = 45 ∨ v = 42 ∨ v = 47 ∨ v = 40 ∨ v = 41 ∨ v = 60 ∨ v = 61 ∨ v = 62)) ∧ (10000 : Int32) + (jI (if (v : Int) < 128 then (v : Int) else (v : Int) - 256) &&& (255 : Int32)) = jI (10000 + (v : Int)) := by decide +kernel
theorem fX7_codeOf_j {C : Nat → Int32} {B : Nat → Int} {t : Nat} (h : TB C B t) (i x : Nat) (hi : i < t) (hx : TE B t i x) : ∃ c : Int, fX7_codeOf C (jI i) (jI x) = some (jI c) ∧ CD B i x c ∧ 0 ≤ c ∧ c ≤ 30001 ∧ c ≠ 30000 := by
  have ht := h.1
  have hx' := hx
  obtain ⟨x1, x2, x3, x4, x5⟩ := hx
  have bi := h.2 i hi
  have li := fX7_isLetter_j (B i) bi.1 bi.2.1
  have di := fX7_isDigit_j (B i) bi.1 bi.2.1
  have ix : dt_ix (jI i) 400 = some i := dt_ix_n i 400 (by omega) (by omega)
  unfold fX7_codeOf
  rw [ix]
  simp only [dt_b1]
  rw [bi.2.2]
  rcases Classical.em (LT (B i)) with l | l
  · rw [li.1 l, dt_b1, i10]
    obtain ⟨c, c1, c2⟩ := fX7_wordOf_j h i x x1 x2 12 0 dt_F (by omega) (Or.inl (by unfold dt_F; omega))
    have c1' : fX7_wordOf C (jI i) (jI x) = some (jI c) := c1
    rw [c1', dt_b1]
    refine ⟨c, rfl, ⟨fun _ => ?_, fun d => absurd d (LT_DG l), fun q => absurd l q⟩, ?_⟩
    · rcases c2 with ⟨k', q1, q2, q3, q4, q5⟩ | ⟨q1, q2⟩
      · exact Or.inl ⟨k', q2, q3, fun q hq => q4 q (by omega) hq, q5⟩
      · exact Or.inr ⟨fun q hq => q1 q (by omega) hq, q2⟩
    · rcases c2 with ⟨k', q1, q2, q3, q4, q5⟩ | ⟨q1, q2⟩ <;> omega
  · rw [li.2 l, dt_b1, i00]
    rcases Classical.em (DG (B i)) with d | d
    · rw [di.1 d, dt_b1, i10, fX7_numberOf_j h i x x1 x2 (x4 d).1, dt_b1]
      refine ⟨_, rfl, ⟨fun q => absurd q l, fun _ => ⟨fun q => by rw [if_pos q], fun q => by rw [if_neg (by omega)]⟩, fun _ q => absurd d q⟩, ?_⟩
      by_cases z : x - i ≤ 4
      · rw [if_pos z]
        have r := nm_rng B i (x - i) z (fun y hy => (x4 d).1 (i + y) (by omega) (by omega))
        have : nm B i (x - i) < 10000 := by
          refine Int.lt_of_lt_of_le r.2 ?_
          repeat' split
          all_goals omega
        omega
      · rw [if_neg z]; omega
    · rw [di.2 d, dt_b1, i00]
      obtain ⟨v, hv⟩ : ∃ v : Nat, B i = v := ⟨(B i).toNat, by omega⟩
      have sj := sign_j v (by omega)
      rw [hv]
      rcases Classical.em (SG (B i)) with s | s
      · have s' := s
        unfold SG at s'
        rw [if_neg (by rw [sj.1]; omega), sj.2]
        refine ⟨_, rfl, ⟨fun q => absurd q l, fun q => absurd q d, fun _ _ => ⟨fun _ => by rw [hv], fun q => absurd s q⟩⟩, by omega, by omega, by omega⟩
      · have s' := s
        unfold SG at s'
        rw [if_pos (by rw [sj.1]; omega)]
        refine ⟨30001, rfl, ⟨fun q => absurd q l, fun q => absurd q d, fun _ _ => ⟨fun q => absurd q s, fun _ => rfl⟩⟩, by omega, by omega, by omega⟩
/-- the tokens of a tape: codes, starts, ends -/
def TK (B : Nat → Int) (t : Nat) (c : Nat → Int) (st en : Nat → Nat) (size : Nat) : Prop := (∀ p, p < size → SK B t (if p = 0 then 0 else en (p - 1)) (st p) ∧ st p < t ∧ TE B t (st p) (en p) ∧ CD B (st p) (en p) (c p))
theorem fX7_scan_j10 {C : Nat → Int32} {B : Nat → Int} {t : Nat} (h : TB C B t) : ∀ (k fuel i from_ size : Nat) (T : dt_Ob) (c : Nat → Int) (st en : Nat → Nat), i + k = t → k < fuel → from_ ≤ t → TK B t c st en size → (if size = 0 then 0 else en (size - 1)) = from_ → (∀ y, from_ ≤ y → y < i → BL (B y)) → size ≤ i → T 2 0 = jI size → (∀ p, p < size → T 0 p = jI (c p) ∧ 0 ≤ c p ∧ c p ≤ 30001 ∧ c p ≠ 30000) → (∀ p, p < size → T 1 p = jI (st p)) → (from_ ≤ i ∨ size ≤ i + 1) → size ≤ from_ → ∃ (T' : dt_Ob) (c' : Nat → Int) (st' en' : Nat → Nat) (size' : Nat), fX7_scan_10 C fuel (jI t) (jI from_) (jI i) T = some T' ∧ TK B t c' st' en' size' ∧ (size' = 0 → SK B t 0 t) ∧ (0 < size' → SK B t (en' (size' - 1)) t) ∧ size' ≤ t ∧ T' 2 0 = jI size' ∧ (∀ p, p < size' → T' 0 p = jI (c' p) ∧ 0 ≤ c' p ∧ c' p ≤ 30001 ∧ c' p ≠ 30000) ∧ (∀ p, p < size' → T' 1 p = jI (st' p)) ∧ T' 1 size' = jI t ∧ (∀ j, 3 ≤ j → T' j = T j) := by
  have ht := h.1
  intro k
  induction k with
  | zero =>
    intro fuel i from_ size T c st en hk hf hft htk hfr hbl hsi e2 ec es hor hsf
    obtain ⟨f, rfl⟩ : ∃ f, fuel = f + 1 := ⟨fuel - 1, by omega⟩
    have e : i = t := by omega
    subst e
    have sk : SK B i from_ i := ⟨hft, Nat.le_refl _, hbl, fun q => by omega⟩
    refine ⟨dt_set T 1 size (jI i), c, st, en, size, ?_, htk, fun z => ?_, fun z => ?_, by omega, ?_, ?_, ?_, dt_set_at _ _ _ _, fun j hj => dt_set_n _ _ _ _ _ (by omega)⟩
    · unfold fX7_scan_10 fX7_scan_104
      rw [if_pos (by rw [jI_le _ _ (by omega) (by omega) (by omega) (by omega)]; omega), e2, dt_ix_n size 401 (by omega) (by omega), dt_b1]
    · rw [if_pos z] at hfr; rw [hfr]; exact sk
    · rw [if_neg (by omega)] at hfr; rw [hfr]; exact sk
    · rw [dt_set_n _ _ _ _ _ (by omega)]; exact e2
    · intro p hp; rw [dt_set_n _ _ _ _ _ (by omega)]; exact ec p hp
    · intro p hp; rw [dt_set_s, upd_n _ _ _ _ (by omega)]; exact es p hp
  | succ k ih =>
    intro fuel i from_ size T c st en hk hf hft htk hfr hbl hsi e2 ec es hor hsf
    obtain ⟨f, rfl⟩ : ∃ f, fuel = f + 1 := ⟨fuel - 1, by omega⟩
    have hit : i < t := by omega
    have b := h.2 i hit
    have ci : jI i + (1 : Int32) = jI ((i + 1 : Nat) : Int) := by rw [show (1 : Int32) = jI 1 from rfl, jI_add]; rfl
    have ix : dt_ix (jI i) 400 = some i := dt_ix_n i 400 (by omega) (by omega)
    have n1 : ¬ jI t ≤ jI i := by rw [jI_le _ _ (by omega) (by omega) (by omega) (by omega)]; omega
    have n2 : ¬ (400 : Int32) ≤ jI size := by rw [show (400 : Int32) = jI 400 from rfl, jI_le _ _ (by omega) (by omega) (by omega) (by omega)]; omega
    have e32 : (C i = (32 : Int32)) = (B i = 32) := by
      rw [b.2.2]
      by_cases z : B i < 128
      · rw [if_pos z]; exact jI_eq _ 32 (by omega) (by omega) (by omega) (by omega)
      · rw [if_neg z, show (jI (B i - 256) = (32 : Int32)) = (B i - 256 = 32) from jI_eq _ 32 (by omega) (by omega) (by omega) (by omega)]
        apply propext
        constructor <;> intro q <;> omega
    have e10 : (C i = (10 : Int32)) = (B i = 10) := by
      rw [b.2.2]
      by_cases z : B i < 128
      · rw [if_pos z]; exact jI_eq _ 10 (by omega) (by omega) (by omega) (by omega)
      · rw [if_neg z, show (jI (B i - 256) = (10 : Int32)) = (B i - 256 = 10) from jI_eq _ 10 (by omega) (by omega) (by omega) (by omega)]
        apply propext
        constructor <;> intro q <;> omega
    unfold fX7_scan_10 fX7_scan_98
    rw [if_neg n1, e2, if_neg n2, ci]
    by_cases zf : i < from_
    · rw [if_pos (by rw [jI_lt _ _ (by omega) (by omega) (by omega) (by omega)]; omega)]
      exact ih f (i + 1) from_ size T c st en (by omega) (by omega) hft htk hfr (fun y h1 h2 => by omega) (by omega) e2 ec es (by omega) hsf
    · rw [if_neg (by rw [jI_lt _ _ (by omega) (by omega) (by omega) (by omega)]; omega), ix, dt_b1, dt_b1]
      by_cases z32 : B i = 32
      · rw [if_pos (by rw [e32]; exact z32)]
        exact ih f (i + 1) from_ size T c st en (by omega) (by omega) hft htk hfr (fun y h1 h2 => by
          by_cases q : y = i
          · rw [q]; exact Or.inl z32
          · exact hbl y h1 (by omega)) (by omega) e2 ec es (by omega) hsf
      · rw [if_neg (by rw [e32]; exact z32)]
        by_cases z10 : B i = 10
        · rw [if_pos (by rw [e10]; exact z10)]
          exact ih f (i + 1) from_ size T c st en (by omega) (by omega) hft htk hfr (fun y h1 h2 => by
            by_cases q : y = i
            · rw [q]; exact Or.inr z10
            · exact hbl y h1 (by omega)) (by omega) e2 ec es (by omega) hsf
        · rw [if_neg (by rw [e10]; exact z10)]
          obtain ⟨x, hx⟩ := TE_ex B t i hit
          obtain ⟨cc, c1, c2, c3, c4, c5⟩ := fX7_codeOf_j h i x hit hx
          have xr := hx
          obtain ⟨x1, x2, -⟩ := xr
          rw [fX7_tokenEnd_j h i x hit hx, dt_b1, c1, dt_b1, dt_ix_n size 401 (by omega) (by omega), dt_b1, dt_b1, show (1 : Int32) = jI 1 from rfl, jI_add, show ((size : Int) + 1) = ((size + 1 : Nat) : Int) by omega]
          have sk : SK B t from_ i := ⟨by omega, by omega, hbl, fun _ q => by unfold BL at q; omega⟩
          obtain ⟨T', c', st', en', size', r1, r2, r3, r4, r5, r6, r7, r8, r9, r10⟩ := ih f (i + 1) x (size + 1) (dt_set (dt_set (dt_set T 0 size (jI cc)) 1 size (jI i)) 2 0 (jI ((size + 1 : Nat) : Int))) (fun p => if p = size then cc else c p) (fun p => if p = size then i else st p) (fun p => if p = size then x else en p) (by omega) (by omega) x2 (by
            intro p hp
            by_cases q : p = size
            · subst q
              show SK B t (if p = 0 then 0 else (if p - 1 = p then x else en (p - 1))) (if p = p then i else st p) ∧ (if p = p then i else st p) < t ∧ TE B t (if p = p then i else st p) (if p = p then x else en p) ∧ CD B (if p = p then i else st p) (if p = p then x else en p) (if p = p then cc else c p)
              rw [if_pos rfl, if_pos rfl, if_pos rfl]
              refine ⟨?_, hit, hx, c2⟩
              by_cases q0 : p = 0
              · rw [if_pos q0]; rw [if_pos q0] at hfr; rw [hfr]; exact sk
              · rw [if_neg q0, if_neg (by omega)]; rw [if_neg q0] at hfr; rw [hfr]; exact sk
            · have old := htk p (by omega)
              show SK B t (if p = 0 then 0 else (if p - 1 = size then x else en (p - 1))) (if p = size then i else st p) ∧ (if p = size then i else st p) < t ∧ TE B t (if p = size then i else st p) (if p = size then x else en p) ∧ CD B (if p = size then i else st p) (if p = size then x else en p) (if p = size then cc else c p)
              rw [if_neg q, if_neg q, if_neg q, if_neg (show ¬ p - 1 = size by omega)]
              exact old) (by
            show (if size + 1 = 0 then 0 else (if size + 1 - 1 = size then x else en (size + 1 - 1))) = x
            rw [if_neg (by omega), if_pos (by omega)]) (fun y h1 h2 => by omega) (by omega) (dt_set_at _ _ _ _) (by
            intro p hp
            show (dt_set (dt_set (dt_set T 0 size (jI cc)) 1 size (jI i)) 2 0 (jI ((size + 1 : Nat) : Int))) 0 p = jI (if p = size then cc else c p) ∧ 0 ≤ (if p = size then cc else c p) ∧ (if p = size then cc else c p) ≤ 30001 ∧ (if p = size then cc else c p) ≠ 30000
            rw [dt_set_n _ _ _ _ _ (by omega), dt_set_n _ _ _ _ _ (by omega), dt_set_s]
            by_cases q : p = size
            · rw [if_pos q, upd_e _ _ _ _ q]; exact ⟨rfl, c3, c4, c5⟩
            · rw [if_neg q, upd_n _ _ _ _ q]; exact ec p (by omega)) (by
            intro p hp
            show (dt_set (dt_set (dt_set T 0 size (jI cc)) 1 size (jI i)) 2 0 (jI ((size + 1 : Nat) : Int))) 1 p = jI (((if p = size then i else st p) : Nat) : Int)
            rw [dt_set_n _ _ _ _ _ (by omega), dt_set_s]
            by_cases q : p = size
            · rw [if_pos q, upd_e _ _ _ _ q]
            · rw [if_neg q, upd_n _ _ _ _ q, dt_set_n _ _ _ _ _ (by omega)]; exact es p (by omega)) (by omega) (by omega)
          refine ⟨T', c', st', en', size', r1, r2, r3, r4, r5, r6, r7, r8, r9, fun j hj => ?_⟩
          rw [r10 j hj, dt_set_n _ _ _ _ _ (by omega), dt_set_n _ _ _ _ _ (by omega), dt_set_n _ _ _ _ _ (by omega)]
theorem fX7_scan_j {C : Nat → Int32} {B : Nat → Int} {t : Nat} (h : TB C B t) (T : dt_Ob) : ∃ (T' : dt_Ob) (c : Nat → Int) (st en : Nat → Nat) (size : Nat), fX7_scan C (jI t) T = some T' ∧ TK B t c st en size ∧ (size = 0 → SK B t 0 t) ∧ (0 < size → SK B t (en (size - 1)) t) ∧ VS T' c size ∧ (∀ p, p < size → T' 1 p = jI (st p)) ∧ T' 1 size = jI t ∧ (∀ j, 3 ≤ j → T' j = T j) := by
  have ht := h.1
  obtain ⟨T', c, st, en, size, r1, r2, r3, r4, r5, r6, r7, r8, r9, r10⟩ := fX7_scan_j10 h t dt_F 0 0 0 (dt_set T 2 0 0) (fun _ => 30000) (fun _ => 0) (fun _ => 0) (by omega) (by unfold dt_F; omega) (by omega) (fun p hp => by omega) rfl (fun y _ hy => by omega) (by omega) (dt_set_at _ _ _ _) (fun p hp => by omega) (fun p hp => by omega) (by omega) (by omega)
  refine ⟨T', fun p => if p < size then c p else 30000, st, en, size, r1, fun p hp => ?_, r3, r4, ⟨r6, by omega, fun p hp => ?_, fun p hp => if_neg (by omega)⟩, r8, r9, fun j hj => by rw [r10 j hj, dt_set_n _ _ _ _ _ (by omega)]⟩
  · have old := r2 p hp
    show SK B t _ _ ∧ _ ∧ _ ∧ CD B (st p) (en p) (if p < size then c p else 30000)
    rw [if_pos hp]
    exact old
  · show T' 0 p = jI (if p < size then c p else 30000) ∧ 0 ≤ (if p < size then c p else 30000) ∧ (if p < size then c p else 30000) ≤ 30001 ∧ (if p < size then c p else 30000) ≠ 30000
    rw [if_pos hp]
    exact r7 p hp
