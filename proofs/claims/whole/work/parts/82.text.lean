/-! ===== the whole text ===== -/
def LQ (c : Nat → Int) (size : Nat) (T : dt_Ob) (L s p : Nat) : Prop := ∃ (pos wd fr to : Nat → Nat), pos 0 = 0 ∧ pos L = p ∧ ∀ i, i < L → pos i < size ∧ wd i ≤ 1 ∧ c (pos i) = 20000 + wd i ∧ fr i ≤ to i ∧ to i ≤ s ∧ T 11 (3 * i) = jI (wd i) ∧ T 11 (3 * i + 1) = jI (fr i) ∧ T 11 (3 * i + 2) = jI (to i) ∧ ∀ F, ∃ so, rLine c F (pos i) = .inl (so, pos (i + 1)) ∧ eRun (T 12) F (fr i) (to i - fr i) [] = some [bI so]
theorem LQ_step {c : Nat → Int} {size : Nat} {T T' : dt_Ob} {L s p q s' : Nat} (h : LQ c size T L s p) (hp : p < size) (hs : s ≤ s') (hw : c p = 20000 ∨ c p = 20001) (e12 : ∀ i, i < 2 * s → T' 12 i = T 12 i) (e11 : ∀ i, i < 3 * L → T' 11 i = T 11 i) (a0 : T' 11 (3 * L) = jI (c p - 20000)) (a1 : T' 11 (3 * L + 1) = jI s) (a2 : T' 11 (3 * L + 2) = jI s') (hF : ∀ F, ∃ so, EX T' s s' F [] [bI so] ∧ rLine c F p = .inl (so, q)) : LQ c size T' (L + 1) s' q := by
  obtain ⟨pos, wd, fr, to, h1, h2, h3⟩ := h
  refine ⟨fun i => if i = L + 1 then q else pos i, fun i => if i = L then (c p - 20000).toNat else wd i, fun i => if i = L then s else fr i, fun i => if i = L then s' else to i, ?_, if_pos rfl, fun i hi => ?_⟩
  · show (if 0 = L + 1 then q else pos 0) = 0
    rw [if_neg (by omega)]; exact h1
  · dsimp only
    by_cases z : i = L
    · subst z
      rw [if_neg (by omega), if_pos rfl, if_pos rfl, if_pos rfl, if_pos rfl, h2]
      refine ⟨hp, by omega, by omega, hs, Nat.le_refl _, ?_, a1, a2, fun F => ?_⟩
      · rw [a0]; congr 1; omega
      · obtain ⟨so, w1, w2⟩ := hF F
        exact ⟨so, w2, w1 []⟩
    · obtain ⟨b1, b2, b3, b4, b5, b6, b7, b8, b9⟩ := h3 i (by omega)
      rw [if_neg (by omega), if_neg z, if_neg z, if_neg z, if_neg (by omega)]
      refine ⟨b1, b2, b3, b4, by omega, by rw [e11 _ (by omega)]; exact b6, by rw [e11 _ (by omega)]; exact b7, by rw [e11 _ (by omega)]; exact b8, fun F => ?_⟩
      obtain ⟨so, w1, w2⟩ := b9 F
      refine ⟨so, w1, ?_⟩
      rw [← w2]
      exact eRun_cg _ _ _ (fun j j1 j2 => e12 j (by omega))
section
variable {B : Nat → Int} {t : Nat} {c : Nat → Int} {st en : Nat → Nat} {size : Nat}
theorem m_first (P : PX B t c st en size) {T : dt_Ob} (m1 : MB T B t) (e19 : T 19 0 = jI ((0 : Nat) : Int)) (e17 : T 17 0 = jI ((0 : Nat) : Int)) : ∃ T', fX10_next0 T = some T' ∧ MS B t c st en size T' 0 0 ∧ NF T T' := by
  have t1 := m1.1
  have n17 : ∀ T' : dt_Ob, NF T T' → T' 17 0 = jI ((0 : Nat) : Int) ∧ MB T' B t := fun T' q => ⟨by rw [q 17 (by omega) (by omega) (by omega) (by omega)]; exact e17, MB_congr m1 (q 18 (by omega) (by omega) (by omega) (by omega)) (q 13 (by omega) (by omega) (by omega) (by omega))⟩
  by_cases z : 0 < size
  · have tq := P.1 0 z
    rw [if_pos rfl] at tq
    obtain ⟨q1, q2, q3, q4⟩ := tq
    have cr := PX_c P 0
    obtain ⟨T', a1, a2, a3, a4, a5, a6⟩ := (fX10_next0_j (st 0) (st 0 - 0) dt_F 0 T m1 q1 (by omega) (by unfold dt_F; omega) e19).2 (en 0) (c 0) q2 q3 q4 cr.1 cr.2
    refine ⟨T', a1, ⟨(n17 T' a6).2, a3, ?_, ?_, a5, (n17 T' a6).1, by omega⟩, a6⟩
    · rw [a4]; unfold stx; rw [if_pos z]
    · rw [a2]; unfold stx; rw [if_pos z]
  · have sk := P.2.1 (by omega)
    obtain ⟨T', a1, a2, a3, a4, a5⟩ := (fX10_next0_j t (t - 0) dt_F 0 T m1 sk (by omega) (by unfold dt_F; omega) e19).1 rfl
    have ce : c 0 = 30000 := P.2.2.2.2.2 0 (by omega)
    refine ⟨T', a1, ⟨(n17 T' a5).2, ?_, ?_, ?_, fun q => by omega, (n17 T' a5).1, by omega⟩, a5⟩
    · rw [a3, ce]; rfl
    · rw [a4]; unfold stx; rw [if_neg (by omega)]
    · rw [a2]; unfold stx; rw [if_neg (by omega)]
theorem tx_loop (P : PX B t c st en size) {T0 : dt_Ob} {F0 : Nat → Int32} (h : VC T0 c size F0) (hst : ∀ p, p ≤ size → T0 1 p = jI (stx st size t p)) (a : Int32) : ∀ (d f f' p s L : Nat) (T : dt_Ob), p + d = size → d + 2 < f → d + 2 < f' → MS B t c st en size T p s → s ≤ p → T 16 0 = jI L → L ≤ 16 → LQ c size T L s p →
    (∃ (T' : dt_Ob) (L' s' : Nat), L' ≤ 16 ∧ fX10_text_26 f 1 T = fX10_text_63 1 T' ∧ T' 16 0 = jI L' ∧ T' 17 0 = jI s' ∧ s' ≤ size ∧ LQ c size T' L' s' size ∧ (∀ j, j ≠ 11 → j ≠ 12 → j ≠ 16 → j ≠ 17 → j ≠ 19 → j ≠ 20 → j ≠ 21 → j ≠ 22 → j ≠ 26 → T' j = T j) ∧ fX7_read_24 f' (-1) (-1) (jI L) (tS (dt_set T0 5 0 (jI L)) (jI p) 0 a) = some (-1, tS (dt_set T0 5 0 (jI L')) (jI size) 0 a)) ∨
    (∃ (T' : dt_Ob) (k : Int) (q : Nat) (v : Int32), fX10_text_26 f 1 T = fX10_text_63 0 T' ∧ (1 ≤ k ∧ k ≤ 3) ∧ T' 23 0 = jI k ∧ T' 24 0 = jI (stx st size t q) ∧ (∀ j, j ≠ 11 → j ≠ 12 → j ≠ 16 → j ≠ 17 → j ≠ 19 → j ≠ 20 → j ≠ 21 → j ≠ 22 → j ≠ 23 → j ≠ 24 → j ≠ 26 → T' j = T j) ∧ fX7_read_24 f' (-1) (-1) (jI L) (tS (dt_set T0 5 0 (jI L)) (jI p) 0 a) = some (-1, tS (dt_set T0 5 0 v) (jI size) (jI k) (jI (stx st size t q)))) := by
  have hz := P.2.2.2.1
  intro d
  induction d using Nat.strongRecOn with
  | _ d ih =>
    intro f f' p s L T hd hf hf' hm hs hL hL16 hl
    obtain ⟨g, rfl⟩ : ∃ g, f = g + 1 + 1 := ⟨f - 2, by omega⟩
    obtain ⟨g', rfl⟩ : ∃ g, f' = g + 2 := ⟨f' - 2, by omega⟩
    have r := PX_c P p
    have tc := tk_cases (c p) r.1 r.2
    have e0 : (jI (tk (c p)) = (0 : Int32)) = (tk (c p) = 0) := tkE P p 0 (by omega)
    by_cases zp : p < size
    · have ne := (P.2.2.2.2.1 p zp).2.2
      have top : fX10_text_26 (g + 1 + 1) 1 T = ((fX10_aLine T).bind fun q2 => (if q2.1 = 0 then (fX10_text_56 (fX10_text_26 (g + 1)) q2.1 (q2.2 16 0) (0 : Int32) q2.2) else (fX10_text_56 (fX10_text_26 (g + 1)) q2.1 (q2.2 16 0) (1 : Int32) q2.2))) := by
        rw [fX10_text_26, if_neg n10, hm.2.1, if_neg (show ¬ jI (tk (c p)) = (0 : Int32) by rw [e0]; omega)]
      have bad : ∀ (T' : dt_Ob) (k : Int) (q : Nat), fX10_aLine T = some (0, T') → BE st size t T T' k q → ∃ T'', fX10_text_26 (g + 1 + 1) 1 T = fX10_text_63 0 T'' ∧ T'' 23 0 = jI k ∧ T'' 24 0 = jI (stx st size t q) ∧ (∀ j, j ≠ 11 → j ≠ 12 → j ≠ 16 → j ≠ 17 → j ≠ 19 → j ≠ 20 → j ≠ 21 → j ≠ 22 → j ≠ 23 → j ≠ 24 → j ≠ 26 → T'' j = T j) := by
        intro T' k q a1 a2
        refine ⟨dt_set T' 16 0 (T' 16 0 + 0), ?_, ?_, ?_, fun j h11 h12 h16 h17 h19 h20 h21 h22 h23 h24 h26 => ?_⟩
        · rw [top, a1, dt_b1]
          dsimp only
          rw [if_pos rfl]
          unfold fX10_text_56
          rw [fX10_text_26, if_pos rfl]
        · rw [dt_set_n _ _ _ _ _ (by omega)]; exact a2.1
        · rw [dt_set_n _ _ _ _ _ (by omega)]; exact a2.2.1
        · rw [dt_set_n _ _ _ _ _ h16, a2.2.2.1 j h11 h12 h17 h19 h20 h21 h22 h23 h24 h26]
      obtain ⟨l1, l2⟩ := m_line P hm hs hL hL16 zp
      obtain ⟨k1, k2⟩ := cl_line h g' p L zp hL16 a
      by_cases zw : c p = 20000 ∨ c p = 20001
      · obtain ⟨l3, l4⟩ := l2 zw
        obtain ⟨k3, k4⟩ := k2 zw
        by_cases zL : L = 16
        · right
          obtain ⟨T', a1, a2⟩ := l3 zL
          obtain ⟨v, b1⟩ := k3 zL
          obtain ⟨T'', c1, c2, c3, c4⟩ := bad T' 3 p a1 a2
          exact ⟨T'', 3, p, v, c1, by omega, c2, c3, c4, by rw [b1, hst p (by omega)]; rfl⟩
        · have k5 := k4 (by omega)
          rcases l4 (by omega) with ⟨T', q', s', a1, a2, a3, a4, a5, a6, a7, a8, a9, a10, a11, a12⟩ | ⟨T', k, qf, a1, a2, a3⟩
          · have q's := a2.2.2.2.2.2.2
            obtain ⟨so, w1, w2⟩ := a12 F0
            rw [w2] at k5
            dsimp only at k5
            rw [k5]
            have T1e : ∃ T1, T1 = dt_set T' 16 0 (jI ((L + 1 : Nat) : Int)) := ⟨_, rfl⟩
            obtain ⟨T1, eT1⟩ := T1e
            have o1 : ∀ j, j ≠ 16 → T1 j = T' j := fun j h16 => by rw [eT1, dt_set_n _ _ _ _ _ h16]
            have m1 : MS B t c st en size T1 q' s' := MS_cg a2 (o1 13 (by omega)) (o1 17 (by omega)) (o1 18 (by omega)) (o1 19 (by omega)) (o1 20 (by omega)) (o1 21 (by omega)) (o1 22 (by omega))
            have e16 : T' 16 0 = jI L := by rw [a6 16 (by omega) (by omega) (by omega) (by omega) (by omega) (by omega) (by omega) (by omega)]; exact hL
            have step : fX10_text_26 (g + 1 + 1) 1 T = fX10_text_26 (g + 1) 1 T1 := by
              rw [top, a1, dt_b1]
              dsimp only
              rw [if_neg n10]
              unfold fX10_text_56
              rw [e16, show (1 : Int32) = jI 1 from rfl, jI_add, eT1]
              rfl
            have lp : LQ c size T1 (L + 1) s' q' := LQ_step hl zp a4 zw (fun i hi => by rw [o1 12 (by omega)]; exact a7 i hi) (fun i hi => by rw [o1 11 (by omega)]; exact a8 i hi) (by rw [o1 11 (by omega)]; exact a9) (by rw [o1 11 (by omega)]; exact a10) (by rw [o1 11 (by omega)]; exact a11) (fun F => by
              obtain ⟨so, u1, u2⟩ := a12 F
              exact ⟨so, EX_mono u1 a4 (fun i hi => by rw [o1 12 (by omega)]), u2⟩)
            rw [step]
            have oT : ∀ j, j ≠ 11 → j ≠ 12 → j ≠ 16 → j ≠ 17 → j ≠ 19 → j ≠ 20 → j ≠ 21 → j ≠ 22 → j ≠ 26 → T1 j = T j := fun j h11 h12 h16 h17 h19 h20 h21 h22 h26 => by rw [o1 j h16, a6 j h11 h12 h17 h19 h20 h21 h22 h26]
            rcases ih (size - q') (by omega) (g + 1) (g' + 1) q' s' (L + 1) T1 (by omega) (by omega) (by omega) m1 (by omega) (by rw [eT1]; exact dt_set_at _ _ _ _) (by omega) lp with ⟨X, L', sx, v1, v2, v3, v4, v5, v6, v7, v8⟩ | ⟨X, k, q, v, v1, v2, v3, v4, v5, v6⟩
            · left
              exact ⟨X, L', sx, v1, v2, v3, v4, v5, v6, fun j h11 h12 h16 h17 h19 h20 h21 h22 h26 => by rw [v7 j h11 h12 h16 h17 h19 h20 h21 h22 h26, oT j h11 h12 h16 h17 h19 h20 h21 h22 h26], v8⟩
            · right
              exact ⟨X, k, q, v, v1, v2, v3, v4, fun j h11 h12 h16 h17 h19 h20 h21 h22 h23 h24 h26 => by rw [v5 j h11 h12 h16 h17 h19 h20 h21 h22 h23 h24 h26, oT j h11 h12 h16 h17 h19 h20 h21 h22 h26], v6⟩
          · right
            rw [a3 F0] at k5
            obtain ⟨v, b1⟩ := k5
            obtain ⟨T'', c1, c2, c3, c4⟩ := bad T' k qf a1 a2
            exact ⟨T'', k, qf, v, c1, a2.2.2.2.1, c2, c3, c4, by rw [b1, hst qf a2.2.2.2.2]⟩
      · right
        obtain ⟨T', a1, a2⟩ := l1 zw
        obtain ⟨v, b1⟩ := k1 zw
        obtain ⟨T'', c1, c2, c3, c4⟩ := bad T' 1 p a1 a2
        exact ⟨T'', 1, p, v, c1, by omega, c2, c3, c4, by rw [b1, hst p (by omega)]; rfl⟩
    · left
      have ep : p = size := by omega
      subst ep
      have ce := P.2.2.2.2.2 p (Nat.le_refl _)
      refine ⟨T, L, s, hL16, ?_, hL, hm.2.2.2.2.2.1, hs, hl, fun _ _ _ _ _ _ _ _ _ _ => rfl, ?_⟩
      · rw [fX10_text_26, if_neg n10, hm.2.1, if_pos (show jI (tk (c p)) = (0 : Int32) by rw [e0]; omega)]
      · exact cl_dead (VC_5 h (jI L)) (g' + 1) L (by omega) (-1) (-1) 0 a
end
/-! what the reference keeps -/
theorem tx_steps (s : Nat) (hs : s ≤ 400) : ∀ (d fuel i : Nat) (T : dt_Ob), i + d = 2 * s → d < fuel → T 17 0 = jI s → ∃ T', fX10_text_186 fuel (jI i) T = some (T 16 0, T') ∧ (∀ j, j ≠ 0 → T' j = T j) ∧ (∀ x, i ≤ x → x < 2 * s → T' 0 (405 + x) = T 12 x) ∧ (∀ q, q < 405 + i → T' 0 q = T 0 q) := by
  intro d
  induction d with
  | zero =>
    intro fuel i T hd hf h17
    obtain ⟨f, rfl⟩ : ∃ f, fuel = f + 1 := ⟨fuel - 1, by omega⟩
    refine ⟨T, ?_, fun _ _ => rfl, fun x h1 h2 => by omega, fun _ _ => rfl⟩
    rw [fX10_text_186, h17, show (2 : Int32) = jI 2 from rfl, jI_mul, if_pos (by rw [jI_le _ _ (by omega) (by omega) (by omega) (by omega)]; omega)]
  | succ d ih =>
    intro fuel i T hd hf h17
    obtain ⟨f, rfl⟩ : ∃ f, fuel = f + 1 := ⟨fuel - 1, by omega⟩
    have x1 : dt_ix (jI i) 820 = some i := dt_ix_n _ _ (by omega) (by omega)
    have x2 : dt_ix ((405 : Int32) + jI i) 1225 = some (405 + i) := by
      rw [show (405 : Int32) = jI 405 from rfl, jI_add, show ((405 : Int) + i) = ((405 + i : Nat) : Int) by omega]; exact dt_ix_n _ _ (by omega) (by omega)
    obtain ⟨T', a1, a2, a3, a4⟩ := ih f (i + 1) (dt_set T 0 (405 + i) (T 12 i)) (by omega) (by omega) (by rw [dt_set_n _ _ _ _ _ (by omega)]; exact h17)
    refine ⟨T', ?_, fun j hj => by rw [a2 j hj, dt_set_n _ _ _ _ _ hj], fun x h1 h2 => ?_, fun q hq => ?_⟩
    · rw [fX10_text_186, h17, show (2 : Int32) = jI 2 from rfl, jI_mul, if_neg (by rw [jI_le _ _ (by omega) (by omega) (by omega) (by omega)]; omega), x1, dt_b1, x2, dt_b1, show (1 : Int32) = jI 1 from rfl, jI_add]
      rw [dt_set_n _ _ _ _ _ (by omega)] at a1
      exact a1
    · by_cases z : x = i
      · subst z; rw [a4 _ (by omega), dt_set_at]
      · rw [a3 x (by omega) h2, dt_set_n _ _ _ _ _ (by omega)]
    · rw [a4 q (by omega), dt_set_s, upd_n _ _ _ _ (by omega)]
theorem tx_heads (L : Nat) (hL : L ≤ 16) : ∀ (d fuel i : Nat) (T : dt_Ob), i + d = L → d < fuel → T 16 0 = jI L → ∃ T', fX10_text_112 fuel (jI i) T = fX10_text_186 dt_F 0 T' ∧ (∀ j, j ≠ 0 → T' j = T j) ∧ (∀ x, i ≤ x → x < L → T' 0 (345 + x) = T 11 (3 * x) ∧ T' 0 (365 + x) = T 11 (3 * x + 1) ∧ T' 0 (385 + x) = T 11 (3 * x + 2)) ∧ (∀ q, q < 345 + i ∨ (361 ≤ q ∧ q < 365 + i) ∨ (381 ≤ q ∧ q < 385 + i) ∨ 401 ≤ q → T' 0 q = T 0 q) := by
  intro d
  induction d with
  | zero =>
    intro fuel i T hd hf h16
    obtain ⟨f, rfl⟩ : ∃ f, fuel = f + 1 := ⟨fuel - 1, by omega⟩
    refine ⟨T, ?_, fun _ _ => rfl, fun x h1 h2 => by omega, fun _ _ => rfl⟩
    rw [fX10_text_112, h16, if_pos (by rw [jI_le _ _ (by omega) (by omega) (by omega) (by omega)]; omega)]
  | succ d ih =>
    intro fuel i T hd hf h16
    obtain ⟨f, rfl⟩ : ∃ f, fuel = f + 1 := ⟨fuel - 1, by omega⟩
    have x0 : dt_ix ((3 : Int32) * jI i) 48 = some (3 * i) := by
      rw [show (3 : Int32) = jI 3 from rfl, jI_mul, show ((3 : Int) * i) = ((3 * i : Nat) : Int) by omega]; exact dt_ix_n _ _ (by omega) (by omega)
    have x1 : dt_ix ((3 : Int32) * jI i + (1 : Int32)) 48 = some (3 * i + 1) := by
      rw [show (3 : Int32) = jI 3 from rfl, show (1 : Int32) = jI 1 from rfl, jI_mul, jI_add, show ((3 : Int) * i + 1) = ((3 * i + 1 : Nat) : Int) by omega]; exact dt_ix_n _ _ (by omega) (by omega)
    have x2 : dt_ix ((3 : Int32) * jI i + (2 : Int32)) 48 = some (3 * i + 2) := by
      rw [show (3 : Int32) = jI 3 from rfl, show (2 : Int32) = jI 2 from rfl, jI_mul, jI_add, show ((3 : Int) * i + 2) = ((3 * i + 2 : Nat) : Int) by omega]; exact dt_ix_n _ _ (by omega) (by omega)
    have y0 : dt_ix ((345 : Int32) + jI i) 1225 = some (345 + i) := by
      rw [show (345 : Int32) = jI 345 from rfl, jI_add, show ((345 : Int) + i) = ((345 + i : Nat) : Int) by omega]; exact dt_ix_n _ _ (by omega) (by omega)
    have y1 : dt_ix ((365 : Int32) + jI i) 1225 = some (365 + i) := by
      rw [show (365 : Int32) = jI 365 from rfl, jI_add, show ((365 : Int) + i) = ((365 + i : Nat) : Int) by omega]; exact dt_ix_n _ _ (by omega) (by omega)
    have y2 : dt_ix ((385 : Int32) + jI i) 1225 = some (385 + i) := by
      rw [show (385 : Int32) = jI 385 from rfl, jI_add, show ((385 : Int) + i) = ((385 + i : Nat) : Int) by omega]; exact dt_ix_n _ _ (by omega) (by omega)
    have hT1 : ∃ T1, T1 = dt_set (dt_set (dt_set T 0 (345 + i) (T 11 (3 * i))) 0 (365 + i) (T 11 (3 * i + 1))) 0 (385 + i) (T 11 (3 * i + 2)) := ⟨_, rfl⟩
    obtain ⟨T1, eT1⟩ := hT1
    have o1 : ∀ j, j ≠ 0 → T1 j = T j := fun j hj => by rw [eT1, dt_set_n _ _ _ _ _ hj, dt_set_n _ _ _ _ _ hj, dt_set_n _ _ _ _ _ hj]
    have o0 : T1 0 = upd (upd (upd (T 0) (345 + i) (T 11 (3 * i))) (365 + i) (T 11 (3 * i + 1))) (385 + i) (T 11 (3 * i + 2)) := by rw [eT1, dt_set_s, dt_set_s, dt_set_s]
    obtain ⟨T', a1, a2, a3, a4⟩ := ih f (i + 1) T1 (by omega) (by omega) (by rw [o1 16 (by omega)]; exact h16)
    refine ⟨T', ?_, fun j hj => by rw [a2 j hj, o1 j hj], fun x h1 h2 => ?_, fun q hq => ?_⟩
    · rw [fX10_text_112, h16, if_neg (by rw [jI_le _ _ (by omega) (by omega) (by omega) (by omega)]; omega), x0, dt_b1, y0, dt_b1, x1, dt_b1, y1, dt_b1, x2, dt_b1, y2, dt_b1, show (1 : Int32) = jI 1 from rfl, jI_add, ← eT1]
      exact a1
    · by_cases z : x = i
      · subst z
        rw [a4 (345 + x) (by omega), a4 (365 + x) (by omega), a4 (385 + x) (by omega), o0]
        refine ⟨?_, ?_, ?_⟩
        · rw [upd_n _ _ _ _ (by omega), upd_n _ _ _ _ (by omega), upd_s]
        · rw [upd_n _ _ _ _ (by omega), upd_s]
        · rw [upd_s]
      · have := a3 x (by omega) h2
        rw [o1 11 (by omega)] at this
        exact this
    · rw [a4 q (by omega), o0, upd_n _ _ _ _ (by omega), upd_n _ _ _ _ (by omega), upd_n _ _ _ _ (by omega)]
