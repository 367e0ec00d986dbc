/-! ===== operations: noon, dusk ===== -/
/-- both judge alike -/
theorem judge_both {M : dt_M} {X : dt_Ob} {n : Nat} {W : Int} {g : Nat → Nat → Int} (hT : TW (M 1) n W g) (hok : okT n W g) (hRT : RT (X 0) n W g) (hD : RD (M 2) (X 0)) (hV : RV (M 3) (X 0)) (t : Nat) (ht : t ≤ 1) : ∃ (r : Int32) (M1 : dt_M) (X1 : dt_Ob), fX9_judge (jI (20000 + (t : Int))) M = some (r, M1) ∧ fX10_judges (jI t) X = some (r, X1) ∧ (∀ k, k ≠ 2 → k ≠ 3 → M1 k = M k) ∧ (∀ j, j ≠ 0 → j ≠ 7 → j ≠ 8 → j ≠ 14 → j ≠ 15 → X1 j = X j) ∧ (∀ q, q ≠ 7 → X1 0 q = X 0 q) ∧ RD (M1 2) (X1 0) ∧ RV (M1 3) (X1 0) := by
  have hV' := hV
  obtain ⟨c, size, lines, wd, fr, to, v1, v2, v3, v4, v5, pos, p0, p1, p2⟩ := hV
  have so0 : ∃ so : Nat → Bool, ∀ i, i < lines → rLine c (fcs n g (X 0)) (pos i) = .inl (so i, pos (i + 1)) ∧ eRun (fun j => X 0 (405 + j)) (fcs n g (X 0)) (fr i) (to i - fr i) [] = some [bI (so i)] := by
    refine ⟨fun i => if h : i < lines then ((p2 i h).2.2.2.2.2 (fcs n g (X 0))).choose else false, fun i hi => ?_⟩
    have := ((p2 i hi).2.2.2.2.2 (fcs n g (X 0))).choose_spec
    show rLine c (fcs n g (X 0)) (pos i) = .inl ((if h : i < lines then ((p2 i h).2.2.2.2.2 (fcs n g (X 0))).choose else false), pos (i + 1)) ∧ eRun (fun j => X 0 (405 + j)) (fcs n g (X 0)) (fr i) (to i - fr i) [] = some [bI (if h : i < lines then ((p2 i h).2.2.2.2.2 (fcs n g (X 0))).choose else false)]
    rw [dif_pos hi]
    exact this
  obtain ⟨so, hso⟩ := so0
  obtain ⟨V', a1, a2, a3, a4⟩ := fX9_judge_j hT hok (X 0) hD c size lines v1 v2 v3 wd so pos p0 p1 (fun i hi => ⟨(p2 i hi).1, (p2 i hi).2.1, (p2 i hi).2.2.1, (hso i hi).1⟩) t ht
  obtain ⟨X1, b1, b2, b3⟩ := fX10_judges_j hRT hok lines v2 wd fr to so (fun i hi => ⟨(p2 i hi).2.1, (p2 i hi).2.2.2.1, (p2 i hi).2.2.2.2.1, (hso i hi).2⟩) v4 v5 t ht
  have xq : ∀ q, q ≠ 7 → X1 0 q = X 0 q := by
    intro q hq
    rw [b3]
    split
    · rfl
    · exact upd_n _ _ _ _ hq
  refine ⟨_, _, X1, a1, b1, fun k h2 h3 => ?_, b2, xq, ?_, ?_⟩
  · split
    · rw [dt_put_ne _ _ _ _ h3]
    · unfold dt_sM
      rw [dt_put_ne _ _ _ _ h2, dt_put_ne _ _ _ _ h3]
  · obtain ⟨d1, d2, d3, d4, d5, d6, d7⟩ := hD
    by_cases z : fbr wd so t 0 lines (-1) = -1
    · rw [if_pos z] at b3 ⊢
      rw [b3]
      exact ⟨d1, d2, d3, d4, d5, d6, d7⟩
    · rw [if_neg z] at b3 ⊢
      have e7 : X1 0 7 = X 0 7 + 1 := by rw [b3]; exact upd_s _ _ _
      refine ⟨?_, ?_, ?_, ?_, ?_, d6, ?_⟩
      · rw [xq 2 (by omega), ← d1]; rfl
      · rw [xq 3 (by omega), ← d2]; rfl
      · rw [xq 4 (by omega), ← d3]; rfl
      · rw [xq 5 (by omega), ← d4]; rfl
      · rw [xq 6 (by omega), ← d5]; rfl
      · rw [e7, ← d7]; rfl
  · have e : (if fbr wd so t 0 lines (-1) = -1 then dt_put M 3 V' else dt_sM (dt_put M 3 V') 2 5 0 (M 2 5 0 + 1)) 3 = V' := by
      split
      · exact dt_put_s _ _ _
      · unfold dt_sM
        rw [dt_put_ne _ _ _ _ (by omega)]
        exact dt_put_s _ _ _
    rw [e]
    exact RV_congr hV' a2 a3 (fun p _ => by rw [a4]) (fun j h1 h2 => xq j (by omega))
theorem s_noon : St_noon dt_I := by
  intro M h
  have h' := h
  obtain ⟨n, W, g, ⟨hT, hok, hRT, hD, hV, hC, hS⟩, hU, hI, hP, hF, hR⟩ := h
  have same : dt_I (dt_put M 18 (M 18)) := by rw [dt_put_self]; exact h'
  have od := hok.D
  have hn := od.1
  have hD' := hD
  obtain ⟨d1, d2, d3, d4, d5, d6, d7⟩ := hD
  have x6 : dt_ix (6 : Int32) 1225 = some 6 := rfl
  rcases d6 with z | z
  · -- it is noon
    have z' : M 18 0 6 = 0 := by rw [← d5]; exact z
    obtain ⟨T1, t1, t2, t3⟩ := fX10_laysTower_j (T := M 18) hRT hn
    have t3' : MT (dt_set T1 0 6 1) n W g := by
      refine ⟨?_, ?_, fun f hf b hb => ?_, fun b hb => ?_, fun b hb h5 => ?_⟩
      · rw [dt_set_s, upd_n _ _ _ _ (by omega)]; exact t3.1
      · rw [dt_set_s, upd_n _ _ _ _ (by omega)]; exact t3.2.1
      · rw [dt_set_s, upd_n _ _ _ _ (by omega)]; exact t3.2.2.1 f hf b hb
      · rw [dt_set_n _ _ _ _ _ (by omega)]; exact t3.2.2.2.1 b hb
      · rw [dt_set_n _ _ _ _ _ (by omega)]; exact t3.2.2.2.2 b hb h5
    have hi1 := fX10_highest_j t3' od
    have Xd : ∃ X, X = dt_set (dt_set (dt_set T1 0 6 1) 0 5 (jI (tp g n))) 3 0 0 := ⟨_, rfl⟩
    obtain ⟨X, hX⟩ := Xd
    have xq : ∀ q, q ≠ 5 → q ≠ 6 → X 0 q = M 18 0 q := by
      intro q h5 h6
      rw [hX]
      simp (disch := omega) only [dt_set_n, dt_set_s, upd_n]
      rw [t2 0 (by omega) (by omega)]
    have x5 : X 0 5 = jI (tp g n) := by rw [hX, dt_set_n _ _ _ _ _ (by omega)]; exact dt_set_at _ _ _ _
    have x6' : X 0 6 = 1 := by rw [hX, dt_set_n _ _ _ _ _ (by omega), dt_set_s, upd_n _ _ _ _ (by omega)]; exact dt_set_at _ _ _ _
    have xo : ∀ j, j ≠ 0 → j ≠ 3 → j ≠ 7 → j ≠ 8 → X j = M 18 j := by
      intro j h0 h3 h7 h8
      rw [hX]
      simp (disch := omega) only [dt_set_n]
      exact t2 j h7 h8
    have x3 : X 3 0 = 0 := by rw [hX]; exact dt_set_at _ _ _ _
    have Md : ∃ M2 : dt_M, M2 = dt_put (dt_sM (dt_sM M 2 4 0 1) 2 3 0 (jI (tp g n))) 11 (dt_set (dt_set (M 11) 4 0 0) 5 0 0) := ⟨_, rfl⟩
    obtain ⟨M2, hM2⟩ := Md
    have mk : ∀ k, k ≠ 2 → k ≠ 11 → M2 k = M k := by
      intro k h2 h11
      rw [hM2]
      unfold dt_sM
      rw [dt_put_ne _ _ _ _ h11, dt_put_ne _ _ _ _ h2, dt_put_ne _ _ _ _ h2]
    have m2 : M2 2 = dt_set (dt_set (M 2) 4 0 1) 3 0 (jI (tp g n)) := by rw [hM2]; rfl
    have rt2 : RT (X 0) n W g := RT_congr hRT hn (fun q hq => xq q (by omega) (by omega))
    have rd2 : RD (M2 2) (X 0) := by
      rw [m2]
      refine ⟨?_, ?_, ?_, ?_, ?_, Or.inr rfl, ?_⟩
      · rw [xq 2 (by omega) (by omega), ← d1]; rfl
      · rw [xq 3 (by omega) (by omega), ← d2]; rfl
      · rw [xq 4 (by omega) (by omega), ← d3]; rfl
      · rw [x5]; rfl
      · rw [x6']; rfl
      · rw [xq 7 (by omega) (by omega), ← d7]; rfl
    have rv2 : RV (M2 3) (X 0) := by
      rw [mk 3 (by omega) (by omega)]
      exact RV_congr hV rfl rfl (fun _ _ => rfl) (fun j h1 h2 => xq j (by omega) (by omega))
    obtain ⟨r, M1, X1, j1, j2, j3, j4, j5, j6, j7⟩ := judge_both (M := M2) (X := X) (by rw [mk 1 (by omega) (by omega)]; exact hT) hok rt2 rd2 rv2 0 (by omega)
    refine ⟨r, M1, X1, ?_, ?_, ?_⟩
    · unfold fX9_noon fX6_forget
      rw [z, if_pos rfl, fX5_tallest_j hT od, dt_b1, dt_b1, ← hM2]
      have j1' : fX9_judge (20000 : Int32) M2 = some (r, M1) := j1
      rw [j1', dt_b1]
    · rw [j3 18 (by omega) (by omega), mk 18 (by omega) (by omega)]
      unfold fX10_noon fX10_forgets
      have j2' : fX10_judges (0 : Int32) X = some (r, X1) := j2
      rw [x6, dt_b1, z', if_neg (by decide), t1, dt_b1, dt_b1, hi1, dt_b1, show dt_ix (5 : Int32) 1225 = some 5 from rfl, dt_b1, dt_b1, ← hX, j2', dt_b1]
    · have mm : ∀ k, k ≠ 2 → k ≠ 3 → k ≠ 11 → M1 k = M k := fun k h2 h3 h11 => by rw [j3 k h2 h3, mk k h2 h11]
      have m11 : M1 11 = dt_set (dt_set (M 11) 4 0 0) 5 0 0 := by rw [j3 11 (by omega) (by omega), hM2]; exact dt_put_s _ _ _
      refine dt_I_of (n := n) (W := W) (g := g) ?_ ?_ h' ?_ ?_
      · show RW (M1 1) (M1 2) (M1 3) (M1 4) (M1 5) (X1 0) n W g
        rw [mm 1 (by omega) (by omega) (by omega), mm 4 (by omega) (by omega) (by omega), mm 5 (by omega) (by omega) (by omega)]
        exact ⟨hT, hok, RT_congr rt2 hn (fun q hq => j5 q (by omega)), j6, j7, RC_congr hC (fun q hq => by rw [j5 q (by omega), xq q (by omega) (by omega)]), RS_congr hS (fun q h1 h2 => by rw [j5 q (by omega), xq q (by omega) (by omega)])⟩
      · show RU (M1 11) (X1 2) (X1 3 0) n W g (X1 0 4)
        rw [m11, j4 3 (by omega) (by omega) (by omega) (by omega) (by omega), x3]
        exact RU_nil _ _ _ _ _ _ rfl rfl
      · intro k hk
        rw [dt_put_ne _ _ _ _ (by omega)]
        exact mm k (by omega) (by omega) (by omega)
      · intro j hj
        rw [dt_put_s, j4 j (by omega) (by omega) (by omega) (by omega) (by omega), xo j (by omega) (by omega) (by omega) (by omega)]
  · have z' : M 18 0 6 = 1 := by rw [← d5]; exact z
    refine ⟨-2, M, M 18, ?_, ?_, same⟩
    · unfold fX9_noon
      rw [z, if_neg (by decide)]
    · unfold fX10_noon
      rw [x6, dt_b1, z', if_pos rfl]
/-- all fallen -/
def gF (g : Nat → Nat → Int) : Nat → Nat → Int := fun f b => if 0 ≤ g 5 b then (if f = 2 then max 0 (g 2 b - g 6 b) else if f = 4 then min 59 (10 + g 5 b + 2 * g 6 b) else if f = 5 ∨ f = 6 then -1 else g f b) else g f b
theorem gF_y (g : Nat → Nat → Int) (f b : Nat) (h : g 5 b < 0) : gF g f b = g f b := by unfold gF; rw [if_neg (by omega)]
theorem gF_t (g : Nat → Nat → Int) (b : Nat) (h : 0 ≤ g 5 b) : gF g 0 b = g 0 b ∧ gF g 1 b = g 1 b ∧ gF g 2 b = max 0 (g 2 b - g 6 b) ∧ gF g 3 b = g 3 b ∧ gF g 4 b = min 59 (10 + g 5 b + 2 * g 6 b) ∧ gF g 5 b = -1 ∧ gF g 6 b = -1 := by
  unfold gF
  simp [h]
theorem gF_5 {n : Nat} {W : Int} {g : Nat → Nat → Int} (h : okD n W g) (b : Nat) (hb : b < n) : gF g 5 b = -1 ∧ gF g 6 b = -1 := by
  have r := (h.2.2.2.1 b hb).1
  unfold okB at r
  by_cases z : 0 ≤ g 5 b
  · exact ⟨(gF_t g b z).2.2.2.2.2.1, (gF_t g b z).2.2.2.2.2.2⟩
  · rw [gF_y g 5 b (by omega), gF_y g 6 b (by omega)]; omega
theorem okT_fall {n : Nat} {W : Int} {g : Nat → Nat → Int} (h : okD n W g) : okT n W (gF g) := by
  refine ⟨h.1, h.2.1, h.2.2.1, fun b hb => ?_, fun b hb o ho _ ov => ?_, fun b hb h5 => ?_⟩
  · have r0 := h.2.2.2.1 b hb
    have r := r0.1
    have f5 := gF_5 h b hb
    unfold okB at r ⊢
    by_cases z : 0 ≤ g 5 b
    · obtain ⟨a0, a1, a2, a3, a4, a5, a6⟩ := gF_t g b z
      rw [a0, a1, a2, a3, a4, a5, a6]
      omega
    · rw [gF_y g 0 b (by omega), gF_y g 1 b (by omega), gF_y g 2 b (by omega), gF_y g 3 b (by omega), gF_y g 4 b (by omega), gF_y g 5 b (by omega), gF_y g 6 b (by omega)]
      exact r
  · have := (gF_5 h b hb).1
    unfold ovl at ov
    omega
  · have := (gF_5 h b hb).1
    omega
theorem TW_yard {T : dt_Ob} {n : Nat} {W : Int} {g : Nat → Nat → Int} (h5 : ∀ b, b < n → g 5 b < 0) (e0 : T 0 0 = jI W) (e1 : T 1 0 = jI n) (ef : ∀ f, f < 7 → ∀ b, b < n → T (2 + f) b = jI (g f b)) (e9 : ∀ c : Nat, c < 8 → T 9 c = 0) (e10 : ∀ q : Nat, q < 160 → T 10 q = -1) : TW T n W g := by
  refine ⟨e0, e1, ef, fun c hc => ?_, fun c l hc hl => ?_⟩
  · rw [e9 c hc, hi_uniq g c n 0 (by omega) (fun b hb cv => by have := h5 b hb; unfold cov at cv; omega) (Or.inl rfl)]
    rfl
  · rw [e10 _ (by omega), ce_none g c l n (fun b hb cv => by have := h5 b hb; unfold cov at cv; omega)]
    rfl
theorem fX5_fall_j2 {n : Nat} {W : Int} {g : Nat → Nat → Int} (ho : okD n W g) : ∀ (k fuel i : Nat) (T : dt_Ob), i + k = n → k < fuel → T 0 0 = jI W → T 1 0 = jI n → (∀ f, f < 7 → ∀ b, b < n → T (2 + f) b = jI (if b < i then gF g f b else g f b)) → ∃ T', fX5_fall_2 fuel (jI i) T = some T' ∧ TW T' n W (gF g) := by
  have hn := ho.1
  have w := ho.2.2.1
  intro k
  induction k with
  | zero =>
    intro fuel i T hk hf e0 e1 ef
    obtain ⟨f, rfl⟩ : ∃ f, fuel = f + 1 := ⟨fuel - 1, by omega⟩
    refine ⟨dt_setA (dt_setA T 10 (dt_fill (T 10) 160 (-1 : Int32))) 9 (dt_fill (T 9) 8 (0 : Int32)), ?_, ?_⟩
    · unfold fX5_fall_2 fX5_clearCells
      rw [e1, if_pos (by rw [jI_le _ _ (by omega) (by omega) (by omega) (by omega)]; omega)]
      rfl
    · refine TW_yard (fun b hb => by have := (gF_5 ho b hb).1; omega) ?_ ?_ (fun f hf b hb => ?_) (fun c hc => ?_) (fun q hq => ?_)
      · rw [dt_setA_ne _ _ _ _ (by omega), dt_setA_ne _ _ _ _ (by omega)]; exact e0
      · rw [dt_setA_ne _ _ _ _ (by omega), dt_setA_ne _ _ _ _ (by omega)]; exact e1
      · rw [dt_setA_ne _ _ _ _ (by omega), dt_setA_ne _ _ _ _ (by omega), ef f hf b hb, if_pos (by omega)]
      · rw [dt_setA_s, dt_fill_i _ _ _ _ hc]
      · rw [dt_setA_ne _ _ _ _ (by omega), dt_setA_s, dt_fill_i _ _ _ _ hq]
  | succ k ih =>
    intro fuel i T hk hf e0 e1 ef
    obtain ⟨f, rfl⟩ : ∃ f, fuel = f + 1 := ⟨fuel - 1, by omega⟩
    have hi' : i < n := by omega
    have r0 := ho.2.2.2.1 i hi'
    have r := r0.1
    unfold okB at r
    have f4 : T 4 i = jI (g 2 i) := by have := ef 2 (by omega) i hi'; rw [if_neg (by omega)] at this; exact this
    have f6 : T 6 i = jI (g 4 i) := by have := ef 4 (by omega) i hi'; rw [if_neg (by omega)] at this; exact this
    have f7 : T 7 i = jI (g 5 i) := by have := ef 5 (by omega) i hi'; rw [if_neg (by omega)] at this; exact this
    have f8 : T 8 i = jI (g 6 i) := by have := ef 6 (by omega) i hi'; rw [if_neg (by omega)] at this; exact this
    have e4 : (jI (g 4 i) = (-1 : Int32)) = (g 4 i = -1) := by rw [show (-1 : Int32) = jI (-1) from rfl]; exact jI_eq _ _ (by omega) (by omega) (by omega) (by omega)
    have ci : jI i + (1 : Int32) = jI ((i + 1 : Nat) : Int) := by rw [show (1 : Int32) = jI 1 from rfl, jI_add]; rfl
    have ix : dt_ix (jI i) 20 = some i := dt_ix_n i 20 (by omega) (by omega)
    unfold fX5_fall_2 fX5_fall_68
    rw [e1, if_neg (by rw [jI_le _ _ (by omega) (by omega) (by omega) (by omega)]; omega), ix, dt_b1, f6, ci]
    by_cases z : g 4 i = -1
    · have hc : 0 ≤ g 5 i := by omega
      obtain ⟨a0, a1, a2, a3, a4, a5, a6⟩ := gF_t g i hc
      have v1 : (if (((10 : Int32) + (T 7 i)) + ((2 : Int32) * (T 8 i))) < (59 : Int32) then (((10 : Int32) + (T 7 i)) + ((2 : Int32) * (T 8 i))) else (59 : Int32)) = jI (gF g 4 i) := by
        rw [f7, f8, a4]
        simp (disch := omega) only [jI_lit, jI_add, jI_sub, jI_mul, jI_neg, jI_lt, jI_le, jI_eq, jI_div, dt_ix_j, dt_b1, Int.toNat_natCast, Int.reduceToNat]
        split
        · congr 1; omega
        · congr 1; omega
      have v2 : (if (0 : Int32) < ((T 4 i) - (T 8 i)) then ((T 4 i) - (T 8 i)) else (0 : Int32)) = jI (gF g 2 i) := by
        rw [f4, f8, a2]
        simp (disch := omega) only [jI_lit, jI_add, jI_sub, jI_mul, jI_neg, jI_lt, jI_le, jI_eq, jI_div, dt_ix_j, dt_b1, Int.toNat_natCast, Int.reduceToNat]
        split
        · congr 1; omega
        · congr 1; omega
      rw [if_pos (by rw [e4]; exact z)]
      simp only [dt_b1]
      unfold fX5_toYard
      rw [ix]
      simp only [dt_b1]
      rw [v1, v2]
      refine ih f (i + 1) (dt_set (dt_set (dt_set (dt_set T 4 i (jI (gF g 2 i))) 6 i (jI (gF g 4 i))) 7 i (-1)) 8 i (-1)) (by omega) (by omega) ?_ ?_ (fun fi hfi b hb => ?_)
      · simp (disch := omega) only [dt_set_n]; exact e0
      · simp (disch := omega) only [dt_set_n]; exact e1
      · have old := ef fi hfi b hb
        by_cases e : b = i
        · subst e
          rw [if_neg (by omega)] at old
          rw [if_pos (by omega)]
          have hf' : fi = 0 ∨ fi = 1 ∨ fi = 2 ∨ fi = 3 ∨ fi = 4 ∨ fi = 5 ∨ fi = 6 := by omega
          rcases hf' with q | q | q | q | q | q | q <;> subst q <;> simp (disch := omega) only [dt_set_n, dt_set_s, upd_s, Nat.reduceAdd] at old ⊢
          · rw [old, a0]
          · rw [old, a1]
          · rw [old, a3]
          · rw [a5]; rfl
          · rw [a6]; rfl
        · have same : (if b < i + 1 then gF g fi b else g fi b) = (if b < i then gF g fi b else g fi b) := by
            by_cases q : b < i
            · rw [if_pos q, if_pos (by omega)]
            · rw [if_neg q, if_neg (by omega)]
          rw [same, ← old]
          have hf' : fi = 0 ∨ fi = 1 ∨ fi = 2 ∨ fi = 3 ∨ fi = 4 ∨ fi = 5 ∨ fi = 6 := by omega
          rcases hf' with q | q | q | q | q | q | q <;> subst q <;> simp (disch := omega) only [dt_set_n, dt_set_s, upd_n, Nat.reduceAdd]
    · rw [if_neg (by rw [e4]; exact z)]
      refine ih f (i + 1) T (by omega) (by omega) e0 e1 (fun fi hfi b hb => ?_)
      rw [ef fi hfi b hb]
      by_cases q : b < i
      · rw [if_pos q, if_pos (by omega)]
      · rw [if_neg q]
        by_cases e : b = i
        · rw [if_pos (by omega), e, gF_y g fi i (by omega)]
        · rw [if_neg (by omega)]
theorem fX10_dusk_j8 {n : Nat} {W : Int} {g : Nat → Nat → Int} (ho : okD n W g) (v : Int32) : ∀ (k fuel i : Nat) (T : dt_Ob), i + k = n → k < fuel → T 0 1 = jI n → (∀ f, f < 7 → ∀ b, b < n → T 0 (20 + 8 * b + f) = jI (if b < i then gF g f b else g f b)) → ∃ T', fX10_dusk_8 fuel v (jI i) T = some (v, T') ∧ (∀ j, j ≠ 0 → j ≠ 3 → T' j = T j) ∧ T' 3 0 = 0 ∧ (∀ f, f < 7 → ∀ b, b < n → T' 0 (20 + 8 * b + f) = jI (gF g f b)) ∧ (∀ q, q < 2 ∨ (7 ≤ q ∧ q < 20) ∨ 180 ≤ q → T' 0 q = T 0 q) ∧ T' 0 3 = 0 ∧ T' 0 4 = 0 ∧ T' 0 5 = 0 ∧ T' 0 6 = 0 ∧ T' 0 2 = T 0 2 + 1 := by
  have hn := ho.1
  have w := ho.2.2.1
  have x1 : dt_ix (1 : Int32) 1225 = some 1 := rfl
  intro k
  induction k with
  | zero =>
    intro fuel i T hk hf e1 ef
    obtain ⟨f, rfl⟩ : ∃ f, fuel = f + 1 := ⟨fuel - 1, by omega⟩
    refine ⟨dt_set (dt_set (dt_set (dt_set (dt_set (dt_set T 0 3 0) 0 4 0) 0 5 0) 0 6 0) 0 2 (T 0 2 + 1)) 3 0 0, ?_, fun j h0 h3 => ?_, rfl, fun f hf b hb => ?_, fun q hq => ?_, ?_, ?_, ?_, ?_, ?_⟩
    · unfold fX10_dusk_8 fX10_forgets
      rw [x1, dt_b1, e1, if_pos (by rw [jI_le _ _ (by omega) (by omega) (by omega) (by omega)]; omega), show dt_ix (3 : Int32) 1225 = some 3 from rfl, dt_b1, show dt_ix (4 : Int32) 1225 = some 4 from rfl, dt_b1, show dt_ix (5 : Int32) 1225 = some 5 from rfl, dt_b1, show dt_ix (6 : Int32) 1225 = some 6 from rfl, dt_b1, show dt_ix (2 : Int32) 1225 = some 2 from rfl, dt_b1, dt_b1, dt_b1]
      simp (disch := omega) only [dt_set_s, upd_n]
    · rw [dt_set_n _ _ _ _ _ h3]
      simp (disch := omega) only [dt_set_n]
    · simp (disch := omega) only [dt_set_n, dt_set_s, upd_n]
      rw [ef f hf b hb, if_pos (by omega)]
    · simp (disch := omega) only [dt_set_n, dt_set_s, upd_n]
    · simp (disch := omega) only [dt_set_n, dt_set_s, upd_n, upd_s]
    · simp (disch := omega) only [dt_set_n, dt_set_s, upd_n, upd_s]
    · simp (disch := omega) only [dt_set_n, dt_set_s, upd_n, upd_s]
    · simp (disch := omega) only [dt_set_n, dt_set_s, upd_n, upd_s]
    · simp (disch := omega) only [dt_set_n, dt_set_s, upd_n, upd_s]
  | succ k ih =>
    intro fuel i T hk hf e1 ef
    obtain ⟨f, rfl⟩ : ∃ f, fuel = f + 1 := ⟨fuel - 1, by omega⟩
    have hi' : i < n := by omega
    have r0 := ho.2.2.2.1 i hi'
    have r := r0.1
    unfold okB at r
    have own : ∀ (X : dt_Ob) (f : Nat), f < 7 → fX10_own (jI i) (jI f) X = some (X 0 (20 + 8 * i + f)) := fun X f hf => by rw [fX10_own_j X i f (by omega) (by omega) (by omega), Int.toNat_natCast]
    have giv : ∀ (X : dt_Ob) (f : Nat) (v : Int32), f < 7 → fX10_gives (jI i) (jI f) v X = some (dt_set X 0 (20 + 8 * i + f) v) := fun X f v hf => by rw [fX10_gives_j X i f v (by omega) (by omega) (by omega), Int.toNat_natCast]
    have o5 : ∀ X : dt_Ob, fX10_own (jI i) 5 X = some (X 0 (20 + 8 * i + 5)) := fun X => own X 5 (by omega)
    have o6 : ∀ X : dt_Ob, fX10_own (jI i) 6 X = some (X 0 (20 + 8 * i + 6)) := fun X => own X 6 (by omega)
    have o2 : ∀ X : dt_Ob, fX10_own (jI i) 2 X = some (X 0 (20 + 8 * i + 2)) := fun X => own X 2 (by omega)
    have g4 : ∀ (X : dt_Ob) (v : Int32), fX10_gives (jI i) 4 v X = some (dt_set X 0 (20 + 8 * i + 4) v) := fun X v => giv X 4 v (by omega)
    have g2 : ∀ (X : dt_Ob) (v : Int32), fX10_gives (jI i) 2 v X = some (dt_set X 0 (20 + 8 * i + 2) v) := fun X v => giv X 2 v (by omega)
    have g5 : ∀ (X : dt_Ob) (v : Int32), fX10_gives (jI i) 5 v X = some (dt_set X 0 (20 + 8 * i + 5) v) := fun X v => giv X 5 v (by omega)
    have g6 : ∀ (X : dt_Ob) (v : Int32), fX10_gives (jI i) 6 v X = some (dt_set X 0 (20 + 8 * i + 6) v) := fun X v => giv X 6 v (by omega)
    have f2 : T 0 (20 + 8 * i + 2) = jI (g 2 i) := by have := ef 2 (by omega) i hi'; rw [if_neg (by omega)] at this; exact this
    have f5 : T 0 (20 + 8 * i + 5) = jI (g 5 i) := by have := ef 5 (by omega) i hi'; rw [if_neg (by omega)] at this; exact this
    have f6 : T 0 (20 + 8 * i + 6) = jI (g 6 i) := by have := ef 6 (by omega) i hi'; rw [if_neg (by omega)] at this; exact this
    have e5 : (jI (g 5 i) = (-1 : Int32)) = (g 5 i = -1) := by rw [show (-1 : Int32) = jI (-1) from rfl]; exact jI_eq _ _ (by omega) (by omega) (by omega) (by omega)
    have ci : jI i + (1 : Int32) = jI ((i + 1 : Nat) : Int) := by rw [show (1 : Int32) = jI 1 from rfl, jI_add]; rfl
    unfold fX10_dusk_8 fX10_dusk_96
    rw [x1, dt_b1, e1, if_neg (by rw [jI_le _ _ (by omega) (by omega) (by omega) (by omega)]; omega), o5, dt_b1, f5, ci]
    by_cases z : g 5 i = -1
    · rw [if_pos (by rw [e5]; exact z)]
      refine ih f (i + 1) T (by omega) (by omega) e1 (fun fi hfi b hb => ?_)
      rw [ef fi hfi b hb]
      by_cases q : b < i
      · rw [if_pos q, if_pos (by omega)]
      · rw [if_neg q]
        by_cases e : b = i
        · rw [if_pos (by omega), e, gF_y g fi i (by omega)]
        · rw [if_neg (by omega)]
    · have hc : 0 ≤ g 5 i := by omega
      obtain ⟨a0, a1, a2, a3, a4, a5, a6⟩ := gF_t g i hc
      have ls : fX10_least (59 : Int32) (((10 : Int32) + jI (g 5 i)) + ((2 : Int32) * jI (g 6 i))) = some (jI (gF g 4 i)) := by
        rw [show (10 : Int32) = jI 10 from rfl, show (2 : Int32) = jI 2 from rfl, jI_mul, jI_add, jI_add, a4]
        exact fX10_least_j 59 _ (by omega) (by omega) (by omega) (by omega)
      have ms : fX10_most (0 : Int32) (jI (g 2 i) - jI (g 6 i)) = some (jI (gF g 2 i)) := by
        rw [jI_sub, a2]
        exact fX10_most_j 0 _ (by omega) (by omega) (by omega) (by omega)
      have f2' : (dt_set T 0 (20 + 8 * i + 4) (jI (gF g 4 i))) 0 (20 + 8 * i + 2) = jI (g 2 i) := by rw [dt_set_s, upd_n _ _ _ _ (by omega)]; exact f2
      rw [if_neg (by rw [e5]; exact z), o6, dt_b1, dt_b1, f6, ls, dt_b1, g4, dt_b1, o2, dt_b1, f2', ms, dt_b1, g2, dt_b1, g5, dt_b1, g6, dt_b1]
      obtain ⟨T', b1, b2, b3, b4, b5, b6, b7, b8, b9, b10⟩ := ih f (i + 1) (dt_set (dt_set (dt_set (dt_set T 0 (20 + 8 * i + 4) (jI (gF g 4 i))) 0 (20 + 8 * i + 2) (jI (gF g 2 i))) 0 (20 + 8 * i + 5) (-1)) 0 (20 + 8 * i + 6) (-1)) (by omega) (by omega) (by simp (disch := omega) only [dt_set_s, upd_n]; exact e1) (fun fi hfi b hb => by
        have old := ef fi hfi b hb
        by_cases e : b = i
        · subst e
          rw [if_neg (by omega)] at old
          rw [if_pos (by omega)]
          have hf' : fi = 0 ∨ fi = 1 ∨ fi = 2 ∨ fi = 3 ∨ fi = 4 ∨ fi = 5 ∨ fi = 6 := by omega
          rcases hf' with q | q | q | q | q | q | q <;> subst q <;> simp (disch := omega) only [dt_set_s, upd_s, upd_n]
          · rw [old, a0]
          · rw [old, a1]
          · rw [old, a3]
          · rw [a5]; rfl
          · rw [a6]; rfl
        · have same : (if b < i + 1 then gF g fi b else g fi b) = (if b < i then gF g fi b else g fi b) := by
            by_cases q : b < i
            · rw [if_pos q, if_pos (by omega)]
            · rw [if_neg q, if_neg (by omega)]
          rw [same, ← old]
          simp (disch := omega) only [dt_set_s, upd_n])
      refine ⟨T', b1, fun j h0 h3 => by rw [b2 j h0 h3]; simp (disch := omega) only [dt_set_n], b3, b4, fun q hq => by rw [b5 q hq]; simp (disch := omega) only [dt_set_s, upd_n], b6, b7, b8, b9, ?_⟩
      rw [b10]
      simp (disch := omega) only [dt_set_s, upd_n]
theorem s_dusk : St_dusk dt_I := by
  intro M h
  have h' := h
  obtain ⟨n, W, g, ⟨hT, hok, hRT, hD, hV, hC, hS⟩, hU, hI, hP, hF, hR⟩ := h
  have od := hok.D
  have hn := od.1
  obtain ⟨r, M1, X1, j1, j2, j3, j4, j5, j6, j7⟩ := judge_both (M := M) (X := M 18) hT hok hRT hD hV 1 (by omega)
  have t1 : TW (M1 1) n W g := by rw [j3 1 (by omega) (by omega)]; exact hT
  obtain ⟨T', f1, f2⟩ := fX5_fall_j2 od n dt_F 0 (M1 1) (by omega) (by unfold dt_F; omega) t1.1 t1.2.1 (fun f hf b hb => by rw [if_neg (by omega)]; exact t1.2.2.1 f hf b hb)
  have rt1 : RT (X1 0) n W g := RT_congr hRT hn (fun q hq => j5 q (by omega))
  obtain ⟨X2, x1, x2, x3, x4, x5, x6, x7, x8, x9, x10⟩ := fX10_dusk_j8 od r n dt_F 0 X1 (by omega) (by unfold dt_F; omega) rt1.2.1 (fun f hf b hb => by rw [if_neg (by omega)]; exact rt1.2.2 f hf b hb)
  refine ⟨r, dt_put (dt_put (dt_put M1 1 T') 2 (dt_set (dt_set (dt_set (dt_set (dt_set (M1 2) 0 0 (M1 2 0 0 + 1)) 1 0 0) 2 0 0) 3 0 0) 4 0 0)) 11 (dt_set (dt_set (M 11) 4 0 0) 5 0 0), X2, ?_, ?_, ?_⟩
  · unfold fX9_dusk fX6_forget fX1_pass fX1_dawn
    have j1' : fX9_judge (20001 : Int32) M = some (r, M1) := j1
    have f1' : fX5_fall (M1 1) = some T' := f1
    rw [j1', dt_b1]
    dsimp only
    rw [f1', dt_b1, dt_b1, dt_b1, dt_b1, j3 11 (by omega) (by omega)]
  · show fX10_dusk (M1 18) = _
    rw [j3 18 (by omega) (by omega)]
    unfold fX10_dusk
    have j2' : fX10_judges (1 : Int32) (M 18) = some (r, X1) := j2
    rw [j2', dt_b1]
    exact x1
  · obtain ⟨d1, d2, d3, d4, d5, d6, d7⟩ := j6
    refine dt_I_of (n := n) (W := W) (g := gF g) ?_ ?_ h' ?_ ?_
    · show RW T' (dt_set (dt_set (dt_set (dt_set (dt_set (M1 2) 0 0 (M1 2 0 0 + 1)) 1 0 0) 2 0 0) 3 0 0) 4 0 0) (M1 3) (M1 4) (M1 5) (X2 0) n W (gF g)
      rw [j3 4 (by omega) (by omega), j3 5 (by omega) (by omega)]
      refine ⟨f2, okT_fall od, ⟨by rw [x5 0 (by omega)]; exact rt1.1, by rw [x5 1 (by omega)]; exact rt1.2.1, x4⟩, ⟨?_, ?_, ?_, ?_, ?_, Or.inl rfl, ?_⟩, RV_congr j7 rfl rfl (fun _ _ => rfl) (fun j h1 h2 => x5 j (by omega)), RC_congr hC (fun q hq => by rw [x5 q (by omega), j5 q (by omega)]), RS_congr hS (fun q h1 h2 => by rw [x5 q (by omega), j5 q (by omega)])⟩
      · rw [x10, ← d1]; rfl
      · rw [x6]; rfl
      · rw [x7]; rfl
      · rw [x8]; rfl
      · rw [x9]; rfl
      · rw [x5 7 (by omega), ← d7]; rfl
    · show RU (dt_set (dt_set (M 11) 4 0 0) 5 0 0) (X2 2) (X2 3 0) n W (gF g) (X2 0 4)
      rw [x3]
      exact RU_nil _ _ _ _ _ _ rfl rfl
    · intro k hk
      have nk : ∀ (A : dt_M) (q : Nat) (B : dt_Ob), q ≠ k → dt_put A q B k = A k := fun A q B hq => dt_put_ne A q k B (Ne.symm hq)
      rw [nk _ _ _ (by omega), nk _ _ _ (by omega), nk _ _ _ (by omega), nk _ _ _ (by omega)]
      exact j3 k (by omega) (by omega)
    · intro j hj
      show X2 j = M 18 j
      rw [x2 j (by omega) (by omega), j4 j (by omega) (by omega) (by omega) (by omega) (by omega)]
