/-! ===== a vow's lines: reference and class side by side ===== -/
section
variable {B : Nat → Int} {t : Nat} {c : Nat → Int} {st en : Nat → Nat} {size : Nat}
theorem MS_cg {T T' : dt_Ob} {p s : Nat} (h : MS B t c st en size T p s) (e13 : T' 13 = T 13) (e17 : T' 17 = T 17) (e18 : T' 18 = T 18) (e19 : T' 19 = T 19) (e20 : T' 20 = T 20) (e21 : T' 21 = T 21) (e22 : T' 22 = T 22) : MS B t c st en size T' p s := by
  obtain ⟨m1, m2, m3, m4, m5, m6, m7⟩ := h
  exact ⟨MB_congr m1 e18 e13, by rw [e20]; exact m2, by rw [e21]; exact m3, by rw [e19]; exact m4, fun q => by rw [e22]; exact m5 q, by rw [e17]; exact m6, m7⟩
/-- a fault of the reference -/
def BE (st : Nat → Nat) (size t : Nat) (T T' : dt_Ob) (k : Int) (q : Nat) : Prop := T' 23 0 = jI k ∧ T' 24 0 = jI (stx st size t q) ∧ (∀ j, j ≠ 11 → j ≠ 12 → j ≠ 17 → j ≠ 19 → j ≠ 20 → j ≠ 21 → j ≠ 22 → j ≠ 23 → j ≠ 24 → j ≠ 26 → T' j = T j) ∧ (1 ≤ k ∧ k ≤ 3) ∧ q ≤ size
theorem BE_of {T T1 T' : dt_Ob} {k : Int} {q : Nat} (h : BD st size t T1 T' k q) (e : ∀ j, j ≠ 11 → j ≠ 12 → j ≠ 17 → j ≠ 19 → j ≠ 20 → j ≠ 21 → j ≠ 22 → j ≠ 23 → j ≠ 24 → j ≠ 26 → T1 j = T j) : BE st size t T T' k q := ⟨h.1, h.2.1, fun j h11 h12 h17 h19 h20 h21 h22 h23 h24 h26 => by rw [h.2.2.1 j h12 h17 h19 h20 h21 h22 h23 h24 h26, e j h11 h12 h17 h19 h20 h21 h22 h23 h24 h26], h.2.2.2⟩
theorem m_line (P : PX B t c st en size) {T : dt_Ob} {p s L : Nat} (h : MS B t c st en size T p s) (hs : s ≤ p) (hL : T 16 0 = jI L) (hL16 : L ≤ 16) (hp : p < size) :
    (¬ (c p = 20000 ∨ c p = 20001) → ∃ T', fX10_aLine T = some (0, T') ∧ BE st size t T T' 1 p) ∧ ((c p = 20000 ∨ c p = 20001) → (L = 16 → ∃ T', fX10_aLine T = some (0, T') ∧ BE st size t T T' 3 p) ∧ (L < 16 →
    (∃ T' q' s', fX10_aLine T = some (1, T') ∧ MS B t c st en size T' q' s' ∧ p < q' ∧ s ≤ s' ∧ s' + p ≤ q' + s ∧ (∀ j, j ≠ 11 → j ≠ 12 → j ≠ 17 → j ≠ 19 → j ≠ 20 → j ≠ 21 → j ≠ 22 → j ≠ 26 → T' j = T j) ∧ (∀ i, i < 2 * s → T' 12 i = T 12 i) ∧ (∀ i, i < 3 * L → T' 11 i = T 11 i) ∧ T' 11 (3 * L) = jI (c p - 20000) ∧ T' 11 (3 * L + 1) = jI s ∧ T' 11 (3 * L + 2) = jI s' ∧ ∀ F, ∃ so, EX T' s s' F [] [bI so] ∧ rLine c F p = .inl (so, q')) ∨ (∃ T' k qf, fX10_aLine T = some (0, T') ∧ BE st size t T T' k qf ∧ ∀ F, rLine c F p = .inr (k, qf)))) := by
  have hz := P.2.2.2.1
  have r := PX_c P p
  have tc := tk_cases (c p) r.1 r.2
  have q1 : fX10_isIn (jI (tk (c p))) 20 21 = some (if 20 ≤ tk (c p) ∧ tk (c p) ≤ 21 then 1 else 0) := fX10_isIn_j _ 20 21 (by omega) (by omega) (by omega) (by omega) (by omega) (by omega)
  have e16 : (T 16 0 = (16 : Int32)) = ((L : Int) = 16) := by rw [hL, show (16 : Int32) = jI 16 from rfl]; exact jI_eq _ _ (by omega) (by omega) (by omega) (by omega)
  have kp := (by unfold fX10_aLine; rw [h.2.1, q1, dt_b1] : fX10_aLine T = (if (if 20 ≤ tk (c p) ∧ tk (c p) ≤ 21 then (1 : Int32) else 0) = 0 then _ else _))
  rw [kp]
  refine ⟨fun z => ?_, fun z => ⟨fun z16 => ?_, fun z16 => ?_⟩⟩
  · obtain ⟨T2, b1, b2⟩ := m_bad h 1 (by omega)
    have b1' : fX10_bad 1 T = some (0, T2) := b1
    rw [if_neg (show ¬ (20 ≤ tk (c p) ∧ tk (c p) ≤ 21) by omega), if_pos rfl, b1', dt_b1]
    exact ⟨T2, if_pos (Or.inl rfl), BE_of b2 (fun _ _ _ _ _ _ _ _ _ _ _ => rfl)⟩
  · obtain ⟨T2, b1, b2⟩ := m_bad h 3 (by omega)
    have b1' : fX10_bad 3 T = some (0, T2) := b1
    rw [if_pos (show 20 ≤ tk (c p) ∧ tk (c p) ≤ 21 by omega), if_neg n10, if_pos (show T 16 0 = (16 : Int32) by rw [e16]; omega), b1', dt_b1]
    exact ⟨T2, if_pos (Or.inl rfl), BE_of b2 (fun _ _ _ _ _ _ _ _ _ _ _ => rfl)⟩
  · have x0 : dt_ix ((3 : Int32) * jI L) 48 = some (3 * L) := by
      rw [show (3 : Int32) = jI 3 from rfl, jI_mul, show ((3 : Int) * L) = ((3 * L : Nat) : Int) by omega]; exact dt_ix_n _ _ (by omega) (by omega)
    have x1 : dt_ix ((3 : Int32) * jI L + (1 : Int32)) 48 = some (3 * L + 1) := by
      rw [show (3 : Int32) = jI 3 from rfl, show (1 : Int32) = jI 1 from rfl, jI_mul, jI_add, show ((3 : Int) * L + 1) = ((3 * L + 1 : Nat) : Int) by omega]; exact dt_ix_n _ _ (by omega) (by omega)
    have x2 : dt_ix ((3 : Int32) * jI L + (2 : Int32)) 48 = some (3 * L + 2) := by
      rw [show (3 : Int32) = jI 3 from rfl, show (2 : Int32) = jI 2 from rfl, jI_mul, jI_add, show ((3 : Int) * L + 2) = ((3 * L + 2 : Nat) : Int) by omega]; exact dt_ix_n _ _ (by omega) (by omega)
    rw [if_pos (show 20 ≤ tk (c p) ∧ tk (c p) ≤ 21 by omega), if_neg n10, if_neg (show ¬ T 16 0 = (16 : Int32) by rw [e16]; omega), hL, x0, dt_b1]
    have hT1 : ∃ T1, T1 = dt_set (dt_set T 11 (3 * L) (jI (tk (c p)) - (20 : Int32))) 26 0 (0 : Int32) := ⟨_, rfl⟩
    obtain ⟨T1, eT1⟩ := hT1
    have o1 : ∀ j, j ≠ 11 → j ≠ 26 → T1 j = T j := fun j h11 h26 => by rw [eT1, dt_set_n _ _ _ _ _ h26, dt_set_n _ _ _ _ _ h11]
    have o11 : T1 11 = upd (T 11) (3 * L) (jI (tk (c p)) - (20 : Int32)) := by rw [eT1, dt_set_n _ _ _ _ _ (by omega), dt_set_s]
    have o26 : T1 26 0 = 0 := by rw [eT1]; exact dt_set_at _ _ _ _
    rw [← eT1]
    have h1 : MS B t c st en size T1 p s := MS_cg h (o1 13 (by omega) (by omega)) (o1 17 (by omega) (by omega)) (o1 18 (by omega) (by omega)) (o1 19 (by omega) (by omega)) (o1 20 (by omega) (by omega)) (o1 21 (by omega) (by omega)) (o1 22 (by omega) (by omega))
    obtain ⟨T2, a1, a2, a3⟩ := m_next P h1 hp
    have a16 : T2 16 0 = jI L := by rw [a3 16 (by omega) (by omega) (by omega) (by omega), o1 16 (by omega) (by omega)]; exact hL
    rw [a1, dt_b1, a16, x1, dt_b1, a2.2.2.2.2.2.1]
    have hT3 : ∃ T3, T3 = dt_set T2 11 (3 * L + 1) (jI s) := ⟨_, rfl⟩
    obtain ⟨T3, eT3⟩ := hT3
    have p3 : ∀ j, j ≠ 11 → T3 j = T2 j := fun j h11 => by rw [eT3, dt_set_n _ _ _ _ _ h11]
    have p11 : T3 11 = upd (upd (T 11) (3 * L) (jI (tk (c p)) - (20 : Int32))) (3 * L + 1) (jI s) := by rw [eT3, dt_set_s, a3 11 (by omega) (by omega) (by omega) (by omega), o11]
    rw [← eT3]
    have h3 : MS B t c st en size T3 (p + 1) s := MS_cg a2 (p3 13 (by omega)) (p3 17 (by omega)) (p3 18 (by omega)) (p3 19 (by omega)) (p3 20 (by omega)) (p3 21 (by omega)) (p3 22 (by omega))
    have q26 : T3 26 0 = jI (8 - ((8 : Nat) : Int)) := by rw [p3 26 (by omega), a3 26 (by omega) (by omega) (by omega) (by omega), o26]; rfl
    have o3 : ∀ j, j ≠ 11 → j ≠ 12 → j ≠ 17 → j ≠ 19 → j ≠ 20 → j ≠ 21 → j ≠ 22 → j ≠ 23 → j ≠ 24 → j ≠ 26 → T3 j = T j := fun j h11 _ _ h19 h20 h21 h22 _ _ h26 => by rw [p3 j h11, a3 j h19 h20 h21 h22, o1 j h11 h26]
    have rl : ∀ F, rLine c F p = (match rEith c (rClaim c F 8) 500 (p + 1) false true with | .inl (so, q) => if c q = 10059 then .inl (so, q + 1) else .inr (1, q) | .inr e => .inr e) := fun F => rfl
    rcases m_any P (m_test P 8 24 (by omega) (by omega)) (fun F p v q => rClaim_lt 8 p v q) T3 (p + 1) s h3 (by omega) q26 with ⟨T4, q4, s4, b1, b2, b3, b4, b5, b6, b7⟩ | ⟨T4, k, qf, b1, b2, b3⟩
    · have q4s := b2.2.2.2.2.2.2
      rw [b1, dt_b1]
      dsimp only
      have b16 : T4 16 0 = jI L := by rw [b6.1 16 (by omega) (by omega) (by omega) (by omega) (by omega) (by omega) (by omega), p3 16 (by omega)]; exact a16
      rw [i10, b16, x2, dt_b1, b2.2.2.2.2.2.1]
      have hT5 : ∃ T5, T5 = dt_set T4 11 (3 * L + 2) (jI s4) := ⟨_, rfl⟩
      obtain ⟨T5, eT5⟩ := hT5
      have p5 : ∀ j, j ≠ 11 → T5 j = T4 j := fun j h11 => by rw [eT5, dt_set_n _ _ _ _ _ h11]
      have p511 : T5 11 = upd (T3 11) (3 * L + 2) (jI s4) := by rw [eT5, dt_set_s, b6.1 11 (by omega) (by omega) (by omega) (by omega) (by omega) (by omega) (by omega)]
      rw [← eT5]
      have h5 : MS B t c st en size T5 q4 s4 := MS_cg b2 (p5 13 (by omega)) (p5 17 (by omega)) (p5 18 (by omega)) (p5 19 (by omega)) (p5 20 (by omega)) (p5 21 (by omega)) (p5 22 (by omega))
      have o5 : ∀ j, j ≠ 11 → j ≠ 12 → j ≠ 17 → j ≠ 19 → j ≠ 20 → j ≠ 21 → j ≠ 22 → j ≠ 23 → j ≠ 24 → j ≠ 26 → T5 j = T j := fun j h11 h12 h17 h19 h20 h21 h22 h23 h24 h26 => by rw [p5 j h11, b6.1 j h12 h17 h19 h20 h21 h22 h26, o3 j h11 h12 h17 h19 h20 h21 h22 h23 h24 h26]
      rcases m_need P h5 159 (by omega) with ⟨T6, d1, d2, d3, d4⟩ | ⟨T6, d1, d2, d3⟩
      · left
        have d1' : fX10_need 159 T5 = some (1, T6) := d1
        rw [d1', dt_b1]
        have t11 : T6 11 = upd (upd (upd (T 11) (3 * L) (jI (tk (c p)) - (20 : Int32))) (3 * L + 1) (jI s)) (3 * L + 2) (jI s4) := by rw [d3 11 (by omega) (by omega) (by omega) (by omega), p511, p11]
        refine ⟨T6, q4 + 1, s4, if_pos (Or.inr rfl), d2, by omega, by omega, by omega, fun j h11 h12 h17 h19 h20 h21 h22 h26 => ?_, fun i hi => ?_, fun i hi => ?_, ?_, ?_, ?_, fun F => ?_⟩
        · rw [d3 j h19 h20 h21 h22, p5 j h11, b6.1 j h12 h17 h19 h20 h21 h22 h26, p3 j h11, a3 j h19 h20 h21 h22, o1 j h11 h26]
        · rw [d3 12 (by omega) (by omega) (by omega) (by omega), p5 12 (by omega), b6.2.1 i hi, p3 12 (by omega), a3 12 (by omega) (by omega) (by omega) (by omega), o1 12 (by omega) (by omega)]
        · rw [t11, upd_n _ _ _ _ (by omega), upd_n _ _ _ _ (by omega), upd_n _ _ _ _ (by omega)]
        · rw [t11, upd_n _ _ _ _ (by omega), upd_n _ _ _ _ (by omega), upd_s, show (20 : Int32) = jI 20 from rfl, jI_sub]
          congr 1
          omega
        · rw [t11, upd_n _ _ _ _ (by omega), upd_s]
        · rw [t11, upd_s]
        · obtain ⟨so, w1, w2⟩ := b7 F
          refine ⟨so, EX_mono w1 b4 (fun i hi => by rw [d3 12 (by omega) (by omega) (by omega) (by omega), p5 12 (by omega)]), ?_⟩
          dsimp only at w2
          rw [rl F, w2]
          dsimp only
          rw [if_pos (show c q4 = 10059 by omega)]
      · right
        have d1' : fX10_need 159 T5 = some (0, T6) := d1
        rw [d1', dt_b1]
        refine ⟨T6, 1, q4, if_pos (Or.inl rfl), BE_of d2 o5, fun F => ?_⟩
        obtain ⟨so, w1, w2⟩ := b7 F
        dsimp only at w2
        rw [rl F, w2]
        dsimp only
        rw [if_neg (show ¬ c q4 = 10059 by omega)]
    · right
      rw [b1, dt_b1]
      refine ⟨T4, k, qf, rfl, BE_of b2 o3, fun F => ?_⟩
      have w2 := b3 F
      dsimp only at w2
      rw [rl F, w2]
end
/-! the class -/
theorem cl_dead {T0 : dt_Ob} {c : Nat → Int} {size : Nat} {F : Nat → Int32} (h : VC T0 c size F) (f i : Nat) (hi : i ≤ 400) (x1 x2 w a : Int32) : fX7_read_24 (f + 1) x1 x2 (jI i) (tS T0 (jI size) w a) = some (x2, tS T0 (jI size) w a) := by
  rw [fX7_read_24, if_neg (by rw [show (400 : Int32) = jI 400 from rfl, jI_lt _ _ (by omega) (by omega) (by omega) (by omega)]; omega), peek_d h, dt_b1, if_pos (by rfl)]
theorem cl_line {T0 : dt_Ob} {c : Nat → Int} {size : Nat} {F : Nat → Int32} (h : VC T0 c size F) (f p L : Nat) (hp : p < size) (hL : L ≤ 16) (a : Int32) :
    (¬ (c p = 20000 ∨ c p = 20001) → ∃ v, fX7_read_24 (f + 2) (-1) (-1) (jI L) (tS (dt_set T0 5 0 (jI L)) (jI p) 0 a) = some (-1, tS (dt_set T0 5 0 v) (jI size) 1 (T0 1 p))) ∧ ((c p = 20000 ∨ c p = 20001) → (L = 16 → ∃ v, fX7_read_24 (f + 2) (-1) (-1) (jI L) (tS (dt_set T0 5 0 (jI L)) (jI p) 0 a) = some (-1, tS (dt_set T0 5 0 v) (jI size) 3 (T0 1 p))) ∧ (L < 16 → match rLine c F p with
    | .inl (so, q) => fX7_read_24 (f + 2) (-1) (-1) (jI L) (tS (dt_set T0 5 0 (jI L)) (jI p) 0 a) = fX7_read_24 (f + 1) (-1) (-1) (jI ((L + 1 : Nat) : Int)) (tS (dt_set T0 5 0 (jI ((L + 1 : Nat) : Int))) (jI q) 0 a)
    | .inr (k, q) => ∃ v, fX7_read_24 (f + 2) (-1) (-1) (jI L) (tS (dt_set T0 5 0 (jI L)) (jI p) 0 a) = some (-1, tS (dt_set T0 5 0 v) (jI size) (jI k) (T0 1 q)))) := by
  have hs := h.1.2.1
  have h5 := VC_5 h (jI L)
  have r := VC_rng h p
  have pk := fX7_peek_j h5 p (by omega) 0 a
  have es : (jI (c p) = (30000 : Int32)) = (c p = 30000) := jcne _ 30000 r (by omega)
  have e0 : (jI (c p) = (20000 : Int32)) = (c p = 20000) := jcne _ 20000 r (by omega)
  have e1 : (jI (c p) = (20001 : Int32)) = (c p = 20001) := jcne _ 20001 r (by omega)
  have et : (jI (c p) = (-1 : Int32)) = (c p = -1) := by rw [show (-1 : Int32) = jI (-1) from rfl]; exact jI_eq _ _ (by omega) (by omega) (by omega) (by omega)
  have nx : tS (dt_set T0 5 0 (jI L)) (jI p) 0 a 3 0 + (1 : Int32) = jI ((p + 1 : Nat) : Int) := by rw [tS_3, show (1 : Int32) = jI 1 from rfl, jI_add]; rfl
  have t5 : ∀ (p w a : Int32), tS (dt_set T0 5 0 (jI L)) p w a 5 0 = jI L := fun p w a => by rw [tS_o _ _ _ _ 5 (by omega) (by omega) (by omega)]; exact dt_set_at _ _ _ _
  have c1 : jI L + (1 : Int32) = jI ((L + 1 : Nat) : Int) := by rw [show (1 : Int32) = jI 1 from rfl, jI_add]; rfl
  have e16 : (jI L < (16 : Int32)) = ((L : Int) < 16) := by rw [show (16 : Int32) = jI 16 from rfl]; exact jI_lt _ _ (by omega) (by omega) (by omega) (by omega)
  have ne : c p ≠ 30000 := (h.1.2.2.1 p hp).2.2.2
  have o1 : ∀ q, (dt_set T0 5 0 (jI L)) 1 q = T0 1 q := fun q => by rw [dt_set_n _ _ _ _ _ (by omega)]
  have dead : ∀ (v w b : Int32), fX7_read_24 (f + 1) (-1) (-1) (jI ((L + 1 : Nat) : Int)) (tS (dt_set T0 5 0 v) (jI size) w b) = some (-1, tS (dt_set T0 5 0 v) (jI size) w b) := fun v w b => cl_dead (VC_5 h v) f (L + 1) (by omega) (-1) (-1) w b
  have top : fX7_read_24 (f + 2) (-1) (-1) (jI L) (tS (dt_set T0 5 0 (jI L)) (jI p) 0 a) = (if c p = 20000 ∨ c p = 20001 then (fX7_read_71 (fX7_read_24 (f + 1)) (-1) (-1) (jI L) (jI (c p)) (tS (dt_set T0 5 0 (jI L)) (jI p) 0 a)) else ((fX7_fail (1 : Int32) (tS (dt_set T0 5 0 (jI L)) (jI p) 0 a)).bind fun q3 => (fX7_read_143 (fX7_read_24 (f + 1)) (-1) (-1) (jI L) q3))) := by
    rw [show f + 2 = (f + 1) + 1 from rfl, fX7_read_24, if_neg (by rw [show (400 : Int32) = jI 400 from rfl, jI_lt _ _ (by omega) (by omega) (by omega) (by omega)]; omega), pk, dt_b1, if_neg (by rw [es]; exact ne), dt_b1]
    by_cases z0 : c p = 20000
    · rw [if_pos (by rw [e0]; exact z0), if_pos (Or.inl z0)]
    · rw [if_neg (by rw [e0]; exact z0)]
      by_cases z1 : c p = 20001
      · rw [if_pos (by rw [e1]; exact z1), if_pos (Or.inr z1)]
      · rw [if_neg (by rw [e1]; exact z1), if_neg (by omega)]
  rw [top]
  refine ⟨fun z => ?_, fun z => ⟨fun zL => ?_, fun zL => ?_⟩⟩
  · rw [if_neg z, fX7_fail_j h5 p (by omega), dt_b1]
    unfold fX7_read_143
    rw [c1, dead, o1]
    exact ⟨jI L, rfl⟩
  · rw [if_pos z]
    unfold fX7_read_71
    rw [t5, if_neg (by rw [e16]; omega), fX7_fail_j h5 p (by omega), dt_b1]
    unfold fX7_read_143
    rw [c1, dead, o1]
    exact ⟨jI L, rfl⟩
  · rw [if_pos z]
    have ln := fX7_line_j h5 p hp a
    have r71 : ∀ (v : Int32) (T1 T2 : dt_Ob), fX7_either (fX7_claim 24) 0 (tS (dt_set T0 5 0 (jI L)) (jI ((p + 1 : Nat) : Int)) 0 a) = some (v, T1) → fX7_expect 10059 T1 = some T2 → fX7_read_71 (fX7_read_24 (f + 1)) (-1) (-1) (jI L) (jI (c p)) (tS (dt_set T0 5 0 (jI L)) (jI p) 0 a) = fX7_read_24 (f + 1) (-1) (-1) (jI ((L + 1 : Nat) : Int)) (dt_set T2 5 0 (T2 5 0 + 1)) := by
      intro v T1 T2 l1 l2
      unfold fX7_read_71
      rw [t5, if_pos (by rw [e16]; omega), nx, tS_s3, l1, dt_b1]
      dsimp only
      rw [l2, dt_b1]
      unfold fX7_read_133 fX7_read_143
      rw [c1]
      simp only [if_neg (show ¬ jI (c p) = (-1 : Int32) by rw [et]; omega)]
      split <;> rfl
    cases hr : rLine c F p with
    | inl sq =>
      obtain ⟨so, q⟩ := sq
      rw [hr] at ln
      obtain ⟨T1, l1, l2, l3, l4⟩ := ln
      dsimp only
      rw [r71 _ T1 _ l1 l2, t5, c1, tS_s5, dt_set_set]
    | inr kq =>
      obtain ⟨k, q⟩ := kq
      rw [hr] at ln
      obtain ⟨k1, k2, v, T1, l1, l2⟩ := ln
      dsimp only
      rw [r71 _ T1 _ l1 l2, t5, c1, tS_s5, dt_set_set, dead, o1]
      exact ⟨_, rfl⟩
