/-! ===== the reference reads: tests ===== -/
theorem bI_and (a b : Bool) : bI a &&& bI b = bI (a && b) := by cases a <;> cases b <;> decide
theorem bI_or (a b : Bool) : bI a ||| bI b = bI (a || b) := by cases a <;> cases b <;> decide
theorem bI_not (a : Bool) : (1 : Int32) - bI a = bI (!a) := by cases a <;> decide
theorem BD_tr0 {st : Nat → Nat} {size t : Nat} {T T1 T2 : dt_Ob} {k : Int} {q : Nat} (h1 : ∀ j, j ≠ 12 → j ≠ 17 → j ≠ 19 → j ≠ 20 → j ≠ 21 → j ≠ 22 → j ≠ 26 → T1 j = T j) (h2 : BD st size t T1 T2 k q) : BD st size t T T2 k q := ⟨h2.1, h2.2.1, fun j a b c d e f g h i => by rw [h2.2.2.1 j a b c d e f g h i, h1 j a b c d e f i], h2.2.2.2⟩
section
variable {B : Nat → Int} {t : Nat} {c : Nat → Int} {st en : Nat → Nat} {size : Nat}
theorem MS_26 {T : dt_Ob} {p s : Nat} (h : MS B t c st en size T p s) (v : Int32) : MS B t c st en size (dt_set T 26 0 v) p s := by
  obtain ⟨m1, m2, m3, m4, m5, m6, m7⟩ := h
  refine ⟨MB_congr m1 (dt_set_n _ _ _ _ _ (by omega)) (dt_set_n _ _ _ _ _ (by omega)), ?_, ?_, ?_, fun q => ?_, ?_, m7⟩
  · rw [dt_set_n _ _ _ _ _ (by omega)]; exact m2
  · rw [dt_set_n _ _ _ _ _ (by omega)]; exact m3
  · rw [dt_set_n _ _ _ _ _ (by omega)]; exact m4
  · rw [dt_set_n _ _ _ _ _ (by omega)]; exact m5 q
  · rw [dt_set_n _ _ _ _ _ (by omega)]; exact m6
/-- what a reader of a test keeps -/
def TS (B : Nat → Int) (t : Nat) (c : Nat → Int) (st en : Nat → Nat) (size : Nat) (rc : dt_Ob → Option (Int32 × dt_Ob)) (cl : (Nat → Int32) → Nat → (Bool × Nat) ⊕ (Int × Nat)) (D : Int32) : Prop := ∀ (T : dt_Ob) (p s : Nat), MS B t c st en size T p s → s ≤ p → T 26 0 = D → (∃ T' q' s', rc T = some (1, T') ∧ MS B t c st en size T' q' s' ∧ p < q' ∧ s ≤ s' ∧ s' + p ≤ q' + s ∧ Fr s T T' ∧ ∀ F, ∃ so, EX T' s s' F [] [bI so] ∧ cl F p = .inl (so, q')) ∨ (∃ T' k qf, rc T = some (0, T') ∧ BD st size t T T' k qf ∧ ∀ F, cl F p = .inr (k, qf))
theorem rEith_irr (P : PX B t c st en size) (cl : Nat → (Bool × Nat) ⊕ (Int × Nat)) (hc : ∀ p v q, cl p = .inl (v, q) → p < q) : ∀ (d f f' p : Nat) (x y : Bool), p + d = size → d < f → d < f' → rEith c cl f p x y = rEith c cl f' p x y := by
  intro d
  induction d using Nat.strongRecOn with
  | _ d ih =>
    intro f f' p x y hd h1 h2
    obtain ⟨g, rfl⟩ : ∃ g, f = g + 1 := ⟨f - 1, by omega⟩
    obtain ⟨g', rfl⟩ : ∃ g, f' = g + 1 := ⟨f' - 1, by omega⟩
    unfold rEith
    cases hu : cl p with
    | inr e => rfl
    | inl vq =>
      obtain ⟨v, q⟩ := vq
      have pq := hc p v q hu
      dsimp only
      by_cases z3 : c q = 20003
      · rw [if_pos z3, if_pos z3]
        have a := PX_stop P q (by omega)
        exact ih (size - (q + 1)) (by omega) g g' (q + 1) _ _ (by omega) (by omega) (by omega)
      · rw [if_neg z3, if_neg z3]
        by_cases z2 : c q = 20002
        · rw [if_pos z2, if_pos z2]
          have a := PX_stop P q (by omega)
          exact ih (size - (q + 1)) (by omega) g g' (q + 1) _ _ (by omega) (by omega) (by omega)
        · rw [if_neg z2, if_neg z2]
def KE (c : Nat → Int) (cl : Nat → (Bool × Nat) ⊕ (Int × Nat)) (q : Nat) (any a : Bool) : (Bool × Nat) ⊕ (Int × Nat) := if c q = 20003 then rEith c cl 500 (q + 1) any a else if c q = 20002 then rEith c cl 500 (q + 1) (any || a) true else .inl (any || a, q)
theorem rEith_5 (P : PX B t c st en size) (cl : Nat → (Bool × Nat) ⊕ (Int × Nat)) (hc : ∀ p v q, cl p = .inl (v, q) → p < q) (p : Nat) (hp : p ≤ size) (x y : Bool) : rEith c cl 500 p x y = (match cl p with | .inr e => .inr e | .inl (so, q) => KE c cl q x (y && so)) := by
  have hz := P.2.2.2.1
  rw [rEith_irr P cl hc (size - p) 500 501 p x y (by omega) (by omega) (by omega)]
  rfl
theorem m_every9 (P : PX B t c st en size) {rc : dt_Ob → Option (Int32 × dt_Ob)} {cl : (Nat → Int32) → Nat → (Bool × Nat) ⊕ (Int × Nat)} {D : Int32} (hr : TS B t c st en size rc cl D) (hc : ∀ F p v q, cl F p = .inl (v, q) → p < q) : ∀ (d fuel q s : Nat) (T : dt_Ob), q + d = size → d < fuel → MS B t c st en size T q s → s ≤ q → T 26 0 = D → (∃ T' q' s', fX10_every_9 rc fuel T = some (1, T') ∧ MS B t c st en size T' q' s' ∧ q ≤ q' ∧ s ≤ s' ∧ s' + q ≤ q' + s ∧ Fr s T T' ∧ c q' ≠ 20003 ∧ ∀ F a, ∃ a', EX T' s s' F [bI a] [bI a'] ∧ ∀ any, KE c (cl F) q any a = KE c (cl F) q' any a') ∨ (∃ T' k qf, fX10_every_9 rc fuel T = some (0, T') ∧ BD st size t T T' k qf ∧ ∀ F a any, KE c (cl F) q any a = .inr (k, qf)) := by
  have hz := P.2.2.2.1
  intro d
  induction d using Nat.strongRecOn with
  | _ d ih =>
    intro fuel q s T hd hf h hs hD
    obtain ⟨f, rfl⟩ : ∃ f, fuel = f + 1 := ⟨fuel - 1, by omega⟩
    have hh := h
    obtain ⟨m1, m2, m3, m4, m5, m6, m7⟩ := h
    have r := PX_c P q
    have tc := tk_cases (c q) r.1 r.2
    have e5 : (jI (tk (c q)) = (5 : Int32)) = (tk (c q) = 5) := tkE P q 5 (by omega)
    rw [fX10_every_9, m2]
    by_cases z : c q = 20003
    · have qs := PX_stop P q (by omega)
      obtain ⟨T1, a1, a2, a3⟩ := m_next P hh qs
      rw [if_pos (show jI (tk (c q)) = (5 : Int32) by rw [e5]; omega), a1, dt_b1]
      rcases hr T1 (q + 1) s a2 (by omega) (by rw [a3 26 (by omega) (by omega) (by omega) (by omega)]; exact hD) with ⟨T2, q2, s2, b1, b2, b3, b4, b5, b6, b7⟩ | ⟨T2, k, qf, b1, b2, b3⟩
      · have q2s := b2.2.2.2.2.2.2
        rw [b1, dt_b1]
        dsimp only
        rw [i10]
        obtain ⟨T3, c1, c2, c3, c4⟩ := m_layp b2 (by omega) 21 0
        rw [c1, dt_b1]
        have fr3 : Fr s T T3 := Fr_tr (NF_Fr s a3) (Fr_tr b6 c3 (by omega)) (Nat.le_refl s)
        have key : ∀ F a, ∃ so, EX T3 s (s2 + 1) F [bI a] [bI (a && so)] ∧ ∀ any, KE c (cl F) q any a = KE c (cl F) q2 any (a && so) := by
          intro F a
          obtain ⟨so, w1, w2⟩ := b7 F
          refine ⟨so, ?_, fun any => ?_⟩
          · have s1 : EX T2 s s2 F [bI a] [bI so, bI a] := EX_more w1 [bI a]
            have s2' : EX T3 s2 (s2 + 1) F [bI so, bI a] [bI (a && so)] := c4 F [bI so, bI a] [bI (a && so)] (fun r => by rw [← bI_and]; unfold eStep; rfl)
            exact EX_seq s1 s2' (by omega) (by omega) (fun i hi => c3.2.1 i hi)
          · rw [show KE c (cl F) q any a = rEith c (cl F) 500 (q + 1) any a from if_pos z, rEith_5 P (cl F) (hc F) (q + 1) (by omega), w2]
        rcases ih (size - q2) (by omega) f q2 (s2 + 1) T3 (by omega) (by omega) c2 (by omega) (by rw [fr3.2.2]; exact hD) with ⟨T', q', s', d1, d2, d3, d4, d5, d6, d7, d9⟩ | ⟨T', k, qf, d1, d2, d3⟩
        · left
          refine ⟨T', q', s', d1, d2, by omega, by omega, by omega, Fr_tr fr3 d6 (by omega), d7, fun F a => ?_⟩
          obtain ⟨so, w1, w2⟩ := key F a
          obtain ⟨a', w3, w4⟩ := d9 F (a && so)
          exact ⟨a', EX_seq w1 w3 (by omega) d4 (fun i hi => d6.2.1 i hi), fun any => by rw [w2, w4]⟩
        · right
          refine ⟨T', k, qf, d1, BD_tr fr3 d2, fun F a any => ?_⟩
          obtain ⟨so, w1, w2⟩ := key F a
          rw [w2]
          exact d3 F _ _
      · right
        rw [b1, dt_b1]
        refine ⟨T2, k, qf, rfl, BD_tr (NF_Fr s a3) b2, fun F a any => ?_⟩
        rw [show KE c (cl F) q any a = rEith c (cl F) 500 (q + 1) any a from if_pos z, rEith_5 P (cl F) (hc F) (q + 1) (by omega), b3 F]
    · left
      rw [if_neg (show ¬ jI (tk (c q)) = (5 : Int32) by rw [e5]; omega)]
      exact ⟨T, q, s, rfl, hh, Nat.le_refl _, Nat.le_refl _, by omega, Fr_rf s T, z, fun F a => ⟨a, fun r => by rw [Nat.sub_self]; rfl, fun any => rfl⟩⟩
theorem m_every (P : PX B t c st en size) {rc : dt_Ob → Option (Int32 × dt_Ob)} {cl : (Nat → Int32) → Nat → (Bool × Nat) ⊕ (Int × Nat)} {D : Int32} (hr : TS B t c st en size rc cl D) (hc : ∀ F p v q, cl F p = .inl (v, q) → p < q) {T : dt_Ob} {p s : Nat} (h : MS B t c st en size T p s) (hs : s ≤ p) (hD : T 26 0 = D) : (∃ T' q' s', fX10_every rc T = some (1, T') ∧ MS B t c st en size T' q' s' ∧ p < q' ∧ s ≤ s' ∧ s' + p ≤ q' + s ∧ Fr s T T' ∧ c q' ≠ 20003 ∧ ∀ F, ∃ a', EX T' s s' F [] [bI a'] ∧ ∀ any, rEith c (cl F) 500 p any true = KE c (cl F) q' any a') ∨ (∃ T' k qf, fX10_every rc T = some (0, T') ∧ BD st size t T T' k qf ∧ ∀ F any, rEith c (cl F) 500 p any true = .inr (k, qf)) := by
  have hz := P.2.2.2.1
  have ps := h.2.2.2.2.2.2
  unfold fX10_every
  rcases hr T p s h hs hD with ⟨T2, q2, s2, b1, b2, b3, b4, b5, b6, b7⟩ | ⟨T2, k, qf, b1, b2, b3⟩
  · have q2s := b2.2.2.2.2.2.2
    rw [b1, dt_b1]
    dsimp only
    rw [i10]
    have key : ∀ F, ∃ so, EX T2 s s2 F [] [bI so] ∧ ∀ any, rEith c (cl F) 500 p any true = KE c (cl F) q2 any so := by
      intro F
      obtain ⟨so, w1, w2⟩ := b7 F
      exact ⟨so, w1, fun any => by rw [rEith_5 P (cl F) (hc F) p ps, w2]; rfl⟩
    rcases m_every9 P hr hc (size - q2) dt_F q2 s2 T2 (by omega) (by unfold dt_F; omega) b2 (by omega) (by rw [b6.2.2]; exact hD) with ⟨T', q', s', d1, d2, d3, d4, d5, d6, d7, d9⟩ | ⟨T', k, qf, d1, d2, d3⟩
    · left
      refine ⟨T', q', s', d1, d2, by omega, by omega, by omega, Fr_tr b6 d6 (by omega), d7, fun F => ?_⟩
      obtain ⟨so, w1, w2⟩ := key F
      obtain ⟨a', w3, w4⟩ := d9 F so
      exact ⟨a', EX_seq w1 w3 b4 d4 (fun i hi => d6.2.1 i hi), fun any => by rw [w2, w4]⟩
    · right
      refine ⟨T', k, qf, d1, BD_tr b6 d2, fun F any => ?_⟩
      obtain ⟨so, w1, w2⟩ := key F
      rw [w2]
      exact d3 F _ _
  · right
    rw [b1, dt_b1]
    refine ⟨T2, k, qf, rfl, b2, fun F any => ?_⟩
    rw [rEith_5 P (cl F) (hc F) p ps, b3 F]
theorem m_any9 (P : PX B t c st en size) {rc : dt_Ob → Option (Int32 × dt_Ob)} {cl : (Nat → Int32) → Nat → (Bool × Nat) ⊕ (Int × Nat)} {D : Int32} (hr : TS B t c st en size rc cl D) (hc : ∀ F p v q, cl F p = .inl (v, q) → p < q) : ∀ (d fuel q s : Nat) (T : dt_Ob), q + d = size → d < fuel → MS B t c st en size T q s → s ≤ q → T 26 0 = D → c q ≠ 20003 → (∃ T' q' s', fX10_any_9 rc fuel T = some (1, T') ∧ MS B t c st en size T' q' s' ∧ q ≤ q' ∧ s ≤ s' ∧ s' + q ≤ q' + s ∧ Fr s T T' ∧ ∀ F b, ∃ b', EX T' s s' F [bI b] [bI b'] ∧ ∀ any a, (any || a) = b → KE c (cl F) q any a = .inl (b', q')) ∨ (∃ T' k qf, fX10_any_9 rc fuel T = some (0, T') ∧ BD st size t T T' k qf ∧ ∀ F any a, KE c (cl F) q any a = .inr (k, qf)) := by
  have hz := P.2.2.2.1
  intro d
  induction d using Nat.strongRecOn with
  | _ d ih =>
    intro fuel q s T hd hf h hs hD n3
    obtain ⟨f, rfl⟩ : ∃ f, fuel = f + 1 := ⟨fuel - 1, by omega⟩
    have hh := h
    obtain ⟨m1, m2, m3, m4, m5, m6, m7⟩ := h
    have r := PX_c P q
    have tc := tk_cases (c q) r.1 r.2
    have e4 : (jI (tk (c q)) = (4 : Int32)) = (tk (c q) = 4) := tkE P q 4 (by omega)
    rw [fX10_any_9, m2]
    by_cases z : c q = 20002
    · have qs := PX_stop P q (by omega)
      obtain ⟨T1, a1, a2, a3⟩ := m_next P hh qs
      rw [if_pos (show jI (tk (c q)) = (4 : Int32) by rw [e4]; omega), a1, dt_b1]
      have ke : ∀ F any a, KE c (cl F) q any a = rEith c (cl F) 500 (q + 1) (any || a) true := fun F any a => by unfold KE; rw [if_neg n3, if_pos z]
      rcases m_every P hr hc a2 (by omega) (by rw [a3 26 (by omega) (by omega) (by omega) (by omega)]; exact hD) with ⟨T2, q2, s2, b1, b2, b3, b4, b5, b6, b7, b8⟩ | ⟨T2, k, qf, b1, b2, b3⟩
      · have q2s := b2.2.2.2.2.2.2
        rw [b1, dt_b1]
        dsimp only
        rw [i10]
        obtain ⟨T3, c1, c2, c3, c4⟩ := m_layp b2 (by omega) 22 0
        rw [c1, dt_b1]
        have fr3 : Fr s T T3 := Fr_tr (NF_Fr s a3) (Fr_tr b6 c3 (by omega)) (Nat.le_refl s)
        rcases ih (size - q2) (by omega) f q2 (s2 + 1) T3 (by omega) (by omega) c2 (by omega) (by rw [fr3.2.2]; exact hD) b7 with ⟨T', q', s', d1, d2, d3, d4, d5, d6, d9⟩ | ⟨T', k, qf, d1, d2, d3⟩
        · left
          refine ⟨T', q', s', d1, d2, by omega, by omega, by omega, Fr_tr fr3 d6 (by omega), fun F b => ?_⟩
          obtain ⟨a', w1, w2⟩ := b8 F
          obtain ⟨b', w3, w4⟩ := d9 F (b || a')
          refine ⟨b', ?_, fun any a hb => ?_⟩
          · have s1 : EX T2 s s2 F [bI b] [bI a', bI b] := EX_more w1 [bI b]
            have s2' : EX T3 s2 (s2 + 1) F [bI a', bI b] [bI (b || a')] := c4 F [bI a', bI b] [bI (b || a')] (fun r => by rw [← bI_or]; unfold eStep; rfl)
            exact EX_seq (EX_seq s1 s2' (by omega) (by omega) (fun i hi => c3.2.1 i hi)) w3 (by omega) d4 (fun i hi => d6.2.1 i hi)
          · rw [ke F any a, hb, w2]
            exact w4 b a' rfl
        · right
          refine ⟨T', k, qf, d1, BD_tr fr3 d2, fun F any a => ?_⟩
          obtain ⟨a', w1, w2⟩ := b8 F
          rw [ke F any a, w2]
          exact d3 F _ _
      · right
        rw [b1, dt_b1]
        refine ⟨T2, k, qf, rfl, BD_tr (NF_Fr s a3) b2, fun F any a => ?_⟩
        rw [ke F any a]
        exact b3 F _
    · left
      rw [if_neg (show ¬ jI (tk (c q)) = (4 : Int32) by rw [e4]; omega)]
      refine ⟨T, q, s, rfl, hh, Nat.le_refl _, Nat.le_refl _, by omega, Fr_rf s T, fun F b => ⟨b, fun r => by rw [Nat.sub_self]; rfl, fun any a hb => ?_⟩⟩
      unfold KE
      rw [if_neg n3, if_neg z, hb]
theorem m_any (P : PX B t c st en size) {rc : dt_Ob → Option (Int32 × dt_Ob)} {cl : (Nat → Int32) → Nat → (Bool × Nat) ⊕ (Int × Nat)} {D : Int32} (hr : TS B t c st en size rc cl D) (hc : ∀ F p v q, cl F p = .inl (v, q) → p < q) : TS B t c st en size (fX10_any rc) (fun F p => rEith c (cl F) 500 p false true) D := by
  have hz := P.2.2.2.1
  intro T p s h hs hD
  unfold fX10_any
  rcases m_every P hr hc h hs hD with ⟨T2, q2, s2, b1, b2, b3, b4, b5, b6, b7, b8⟩ | ⟨T2, k, qf, b1, b2, b3⟩
  · have q2s := b2.2.2.2.2.2.2
    rw [b1, dt_b1]
    dsimp only
    rw [i10]
    rcases m_any9 P hr hc (size - q2) dt_F q2 s2 T2 (by omega) (by unfold dt_F; omega) b2 (by omega) (by rw [b6.2.2]; exact hD) b7 with ⟨T', q', s', d1, d2, d3, d4, d5, d6, d9⟩ | ⟨T', k, qf, d1, d2, d3⟩
    · left
      refine ⟨T', q', s', d1, d2, by omega, by omega, by omega, Fr_tr b6 d6 (by omega), fun F => ?_⟩
      obtain ⟨a', w1, w2⟩ := b8 F
      obtain ⟨b', w3, w4⟩ := d9 F a'
      refine ⟨b', EX_seq w1 w3 b4 d4 (fun i hi => d6.2.1 i hi), ?_⟩
      rw [w2]
      exact w4 false a' (Bool.false_or a')
    · right
      refine ⟨T', k, qf, d1, BD_tr b6 d2, fun F => ?_⟩
      obtain ⟨a', w1, w2⟩ := b8 F
      rw [w2]
      exact d3 F _ _
  · right
    rw [b1, dt_b1]
    exact ⟨T2, k, qf, rfl, b2, fun F => b3 F false⟩
theorem m_need (P : PX B t c st en size) {T : dt_Ob} {p s : Nat} (h : MS B t c st en size T p s) (w : Int) (hw : 100 ≤ w ∧ w ≤ 1000) : (∃ T', fX10_need (jI w) T = some (1, T') ∧ MS B t c st en size T' (p + 1) s ∧ NF T T' ∧ c p = w + 9900) ∨ (∃ T', fX10_need (jI w) T = some (0, T') ∧ BD st size t T T' 1 p ∧ c p ≠ w + 9900) := by
  have hh := h
  obtain ⟨m1, m2, m3, m4, m5, m6, m7⟩ := h
  have r := PX_c P p
  have tc := tk_cases (c p) r.1 r.2
  have e := tkE P p w (by omega)
  unfold fX10_need
  rw [m2]
  by_cases z : c p = w + 9900
  · left
    have ps := PX_stop P p (by omega)
    obtain ⟨T1, a1, a2, a3⟩ := m_next P hh ps
    rw [if_pos (show jI (tk (c p)) = jI w by rw [e]; omega), a1, dt_b1]
    exact ⟨T1, rfl, a2, a3, z⟩
  · right
    obtain ⟨T2, b1, b2⟩ := m_bad hh 1 (by omega)
    have b1' : fX10_bad 1 T = some (0, T2) := b1
    rw [if_neg (show ¬ jI (tk (c p)) = jI w by rw [e]; omega), b1', dt_b1]
    exact ⟨T2, if_pos (Or.inl rfl), b2, z⟩
/-- a comparison -/
theorem m_ord (P : PX B t c st en size) (rc : dt_Ob → Option (Int32 × dt_Ob)) {T : dt_Ob} {p s : Nat} (h : MS B t c st en size T p s) (hs : s ≤ p) (z4 : c p ≠ 20004) (z0 : c p ≠ 10040) : (∃ T' q' s', fX10_oneTest_b rc T = some (1, T') ∧ MS B t c st en size T' q' s' ∧ p < q' ∧ s ≤ s' ∧ s' + p ≤ q' + s ∧ Fr s T T' ∧ ∀ F, ∃ so, EX T' s s' F [] [bI so] ∧ rOrd c F p = .inl (so, q')) ∨ (∃ T' k qf, fX10_oneTest_b rc T = some (0, T') ∧ BD st size t T T' k qf ∧ ∀ F, rOrd c F p = .inr (k, qf)) := by
  have hz := P.2.2.2.1
  have r := PX_c P p
  have tc := tk_cases (c p) r.1 r.2
  have e6 : (jI (tk (c p)) = (6 : Int32)) = (tk (c p) = 6) := tkE P p 6 (by omega)
  have e140 : (jI (tk (c p)) = (140 : Int32)) = (tk (c p) = 140) := tkE P p 140 (by omega)
  unfold fX10_oneTest_b
  rw [h.2.1, if_neg (show ¬ jI (tk (c p)) = (6 : Int32) by rw [e6]; omega), if_neg (show ¬ jI (tk (c p)) = (140 : Int32) by rw [e140]; omega)]
  rcases m_sum P h hs with ⟨T2, q2, s2, b1, b2, b3, b4, b5, b6, b7⟩ | ⟨T2, k, qf, b1, b2, b3⟩
  · have q2s := b2.2.2.2.2.2.2
    rw [b1, dt_b1]
    dsimp only
    rw [i10]
    have hb := b2
    obtain ⟨m1, m2, m3, m4, m5, m6, m7⟩ := b2
    have r2 := PX_c P q2
    have tc2 := tk_cases (c q2) r2.1 r2.2
    have e160 : (jI (tk (c q2)) = (160 : Int32)) = (tk (c q2) = 160) := tkE P q2 160 (by omega)
    have e161 : (jI (tk (c q2)) = (161 : Int32)) = (tk (c q2) = 161) := tkE P q2 161 (by omega)
    have e162 : (jI (tk (c q2)) = (162 : Int32)) = (tk (c q2) = 162) := tkE P q2 162 (by omega)
    by_cases zo : c q2 = 10060 ∨ c q2 = 10061 ∨ c q2 = 10062
    · have qs2 := PX_stop P q2 (by omega)
      obtain ⟨T3, a1, a2, a3⟩ := m_next P hb qs2
      have how : ∃ k : Int32, (∀ (F : Nat → Int32) (x y : Int32) (r : List Int32), eStep k 0 F ([y, x] ++ r) = some ([bI (rSo x (c q2) y)] ++ r)) ∧ (if T2 20 0 = (160 : Int32) then fX10_oneTest_147 rc (17 : Int32) T2 else (if T2 20 0 = (161 : Int32) then fX10_oneTest_147 rc (18 : Int32) T2 else (if T2 20 0 = (162 : Int32) then fX10_oneTest_147 rc (19 : Int32) T2 else fX10_oneTest_147 rc (-1 : Int32) T2))) = ((fX10_sumUp T3).bind fun q9 => (if q9.1 = 0 then (some ((0 : Int32), q9.2)) else ((fX10_lay k (0 : Int32) q9.2).bind fun q10 => (some ((1 : Int32), q10))))) := by
        rcases zo with z | z | z
        · refine ⟨17, fun F x y r => ?_, ?_⟩
          · have rs : rSo x (c q2) y = decide (x < y) := by unfold rSo; rw [z, if_neg (by omega), if_pos rfl]
            rw [rs]
            show some ((if x < y then (1 : Int32) else 0) :: r) = some (bI (decide (x < y)) :: r)
            by_cases l : x < y
            · rw [if_pos l, decide_eq_true l]; rfl
            · rw [if_neg l, decide_eq_false l]; rfl
          · rw [if_pos (show T2 20 0 = (160 : Int32) by rw [m2, e160]; omega)]
            unfold fX10_oneTest_147
            rw [if_neg (by decide), a1, dt_b1]
        · refine ⟨18, fun F x y r => ?_, ?_⟩
          · have rs : rSo x (c q2) y = decide (x = y) := by unfold rSo; rw [z, if_pos rfl]
            rw [rs]
            show some ((if x = y then (1 : Int32) else 0) :: r) = some (bI (decide (x = y)) :: r)
            by_cases l : x = y
            · rw [if_pos l, decide_eq_true l]; rfl
            · rw [if_neg l, decide_eq_false l]; rfl
          · rw [if_neg (show ¬ T2 20 0 = (160 : Int32) by rw [m2, e160]; omega), if_pos (show T2 20 0 = (161 : Int32) by rw [m2, e161]; omega)]
            unfold fX10_oneTest_147
            rw [if_neg (by decide), a1, dt_b1]
        · refine ⟨19, fun F x y r => ?_, ?_⟩
          · have rs : rSo x (c q2) y = decide (y < x) := by unfold rSo; rw [z, if_neg (by omega), if_neg (by omega)]
            rw [rs]
            show some ((if y < x then (1 : Int32) else 0) :: r) = some (bI (decide (y < x)) :: r)
            by_cases l : y < x
            · rw [if_pos l, decide_eq_true l]; rfl
            · rw [if_neg l, decide_eq_false l]; rfl
          · rw [if_neg (show ¬ T2 20 0 = (160 : Int32) by rw [m2, e160]; omega), if_neg (show ¬ T2 20 0 = (161 : Int32) by rw [m2, e161]; omega), if_pos (show T2 20 0 = (162 : Int32) by rw [m2, e162]; omega)]
            unfold fX10_oneTest_147
            rw [if_neg (by decide), a1, dt_b1]
      obtain ⟨k, hk, top⟩ := how
      rw [top]
      rcases m_sum P a2 (by omega) with ⟨T4, q4, s4, d1, d2, d3, d4, d5, d6, d7⟩ | ⟨T4, kk, qf, d1, d2, d3⟩
      · left
        have q4s := d2.2.2.2.2.2.2
        rw [d1, dt_b1]
        dsimp only
        rw [i10]
        obtain ⟨T5, c1, c2, c3, c4⟩ := m_layp d2 (by omega) k 0
        rw [c1, dt_b1]
        refine ⟨T5, q4, s4 + 1, rfl, c2, by omega, by omega, by omega, Fr_tr b6 (Fr_tr (NF_Fr s2 a3) (Fr_tr d6 c3 (by omega)) (Nat.le_refl _)) (by omega), fun F => ?_⟩
        obtain ⟨x, w1, w2⟩ := b7 F
        obtain ⟨y, w3, w4⟩ := d7 F
        refine ⟨rSo x (c q2) y, ?_, ?_⟩
        · have s1 : EX T3 s s2 F [] [x] := EX_mono w1 b4 (fun i hi => by rw [a3 12 (by omega) (by omega) (by omega) (by omega)])
          have s2' : EX T4 s2 s4 F [x] [y, x] := EX_more w3 [x]
          have s3 : EX T5 s4 (s4 + 1) F [y, x] [bI (rSo x (c q2) y)] := c4 F [y, x] [bI (rSo x (c q2) y)] (hk F x y)
          exact EX_seq (EX_seq s1 s2' b4 d4 (fun i hi => d6.2.1 i hi)) s3 (by omega) (by omega) (fun i hi => c3.2.1 i hi)
        · unfold rOrd
          rw [w2]
          dsimp only
          rw [if_pos zo, w4]
      · right
        rw [d1, dt_b1]
        refine ⟨T4, kk, qf, rfl, BD_tr b6 (BD_tr (NF_Fr s2 a3) d2), fun F => ?_⟩
        obtain ⟨x, w1, w2⟩ := b7 F
        unfold rOrd
        rw [w2]
        dsimp only
        rw [if_pos zo, d3 F]
    · right
      obtain ⟨T3, d1, d2⟩ := m_bad hb 1 (by omega)
      have d1' : fX10_bad 1 T2 = some (0, T3) := d1
      rw [if_neg (show ¬ T2 20 0 = (160 : Int32) by rw [m2, e160]; omega), if_neg (show ¬ T2 20 0 = (161 : Int32) by rw [m2, e161]; omega), if_neg (show ¬ T2 20 0 = (162 : Int32) by rw [m2, e162]; omega)]
      unfold fX10_oneTest_147
      rw [if_pos rfl, d1', dt_b1]
      refine ⟨T3, 1, q2, if_pos (Or.inl rfl), BD_tr b6 d2, fun F => ?_⟩
      obtain ⟨x, w1, w2⟩ := b7 F
      unfold rOrd
      rw [w2]
      dsimp only
      rw [if_neg zo]
  · right
    rw [b1, dt_b1]
    refine ⟨T2, k, qf, rfl, b2, fun F => ?_⟩
    unfold rOrd
    rw [b3 F]
/-- one deeper, or too deep -/
theorem m_opens (P : PX B t c st en size) {T : dt_Ob} {p s : Nat} (h : MS B t c st en size T p s) (hp : p < size) (d : Nat) (hd : d ≤ 8) (hD : T 26 0 = jI (8 - (d : Int))) : (d = 0 → ∃ T', fX10_opens T = some (0, T') ∧ BD st size t T T' 3 p) ∧ (∀ e, d = e + 1 → ∃ T', fX10_opens T = some (1, T') ∧ MS B t c st en size T' (p + 1) s ∧ T' 26 0 = jI (8 - (e : Int)) ∧ (∀ j, j ≠ 19 → j ≠ 20 → j ≠ 21 → j ≠ 22 → j ≠ 26 → T' j = T j)) := by
  unfold fX10_opens
  have e8 : (T 26 0 = (8 : Int32)) = ((8 - (d : Int)) = 8) := by rw [hD, show (8 : Int32) = jI 8 from rfl]; exact jI_eq _ _ (by omega) (by omega) (by omega) (by omega)
  refine ⟨fun z => ?_, fun e z => ?_⟩
  · obtain ⟨T2, b1, b2⟩ := m_bad h 3 (by omega)
    have b1' : fX10_bad 3 T = some (0, T2) := b1
    rw [if_pos (show T 26 0 = (8 : Int32) by rw [e8]; omega), b1', dt_b1]
    exact ⟨T2, if_pos (Or.inl rfl), b2⟩
  · rw [if_neg (show ¬ T 26 0 = (8 : Int32) by rw [e8]; omega)]
    obtain ⟨T1, a1, a2, a3⟩ := m_next P (MS_26 h (T 26 0 + 1)) hp
    rw [a1, dt_b1]
    refine ⟨T1, rfl, a2, ?_, fun j h19 h20 h21 h22 h26 => by rw [a3 j h19 h20 h21 h22, dt_set_n _ _ _ _ _ h26]⟩
    rw [a3 26 (by omega) (by omega) (by omega) (by omega), dt_set_at, hD, show (1 : Int32) = jI 1 from rfl, jI_add]
    congr 1
    omega
theorem m_test (P : PX B t c st en size) : ∀ (d fuel : Nat), d ≤ 8 → d < fuel → TS B t c st en size (fX10_oneTest fuel) (fun F p => rClaim c F d p) (jI (8 - (d : Int))) := by
  have hz := P.2.2.2.1
  intro d
  induction d with
  | zero =>
    intro fuel h8 hf T p s h hs hD
    obtain ⟨f, rfl⟩ : ∃ f, fuel = f + 1 := ⟨fuel - 1, by omega⟩
    rw [fX10_oneTest]
    by_cases z : c p = 20004 ∨ c p = 10040
    · right
      have ps := PX_stop P p (by omega)
      obtain ⟨T', a1, a2⟩ := (m_opens P h ps 0 (by omega) hD).1 rfl
      have r := PX_c P p
      have tc := tk_cases (c p) r.1 r.2
      have e6 : (jI (tk (c p)) = (6 : Int32)) = (tk (c p) = 6) := tkE P p 6 (by omega)
      have e140 : (jI (tk (c p)) = (140 : Int32)) = (tk (c p) = 140) := tkE P p 140 (by omega)
      refine ⟨T', 3, p, ?_, a2, fun F => by show rClaim c F 0 p = _; unfold rClaim; rw [if_pos z]⟩
      unfold fX10_oneTest_b
      rw [h.2.1, a1]
      by_cases z6 : c p = 20004
      · rw [if_pos (show jI (tk (c p)) = (6 : Int32) by rw [e6]; omega)]; rfl
      · rw [if_neg (show ¬ jI (tk (c p)) = (6 : Int32) by rw [e6]; omega), if_pos (show jI (tk (c p)) = (140 : Int32) by rw [e140]; omega)]; rfl
    · have rc0 : ∀ F, rClaim c F 0 p = rOrd c F p := fun F => by unfold rClaim; rw [if_neg z]
      have := m_ord P (fX10_oneTest f) h hs (by omega) (by omega)
      simpa only [rc0] using this
  | succ d ih =>
    intro fuel h8 hf T p s h hs hD
    obtain ⟨f, rfl⟩ : ∃ f, fuel = f + 1 := ⟨fuel - 1, by omega⟩
    rw [fX10_oneTest]
    have hr := ih f (by omega) (by omega)
    have r := PX_c P p
    have tc := tk_cases (c p) r.1 r.2
    have e6 : (jI (tk (c p)) = (6 : Int32)) = (tk (c p) = 6) := tkE P p 6 (by omega)
    have e140 : (jI (tk (c p)) = (140 : Int32)) = (tk (c p) = 140) := tkE P p 140 (by omega)
    have back : jI (8 - (d : Int)) - (1 : Int32) = jI (8 - ((d + 1 : Nat) : Int)) := by rw [show (1 : Int32) = jI 1 from rfl, jI_sub]; congr 1; omega
    by_cases z6 : c p = 20004
    · have ps := PX_stop P p (by omega)
      obtain ⟨T1, a1, a2, a3, a4⟩ := (m_opens P h ps (d + 1) h8 hD).2 d rfl
      have cl1 : ∀ F, rClaim c F (d + 1) p = (match rClaim c F d (p + 1) with | .inl (so, q) => .inl (!so, q) | .inr e => .inr e) := fun F => by rw [rClaim, if_pos z6]; rfl
      unfold fX10_oneTest_b
      rw [h.2.1, if_pos (show jI (tk (c p)) = (6 : Int32) by rw [e6]; omega), a1, dt_b1]
      dsimp only
      rw [i10]
      rcases hr T1 (p + 1) s a2 (by omega) a3 with ⟨T2, q2, s2, b1, b2, b3, b4, b5, b6, b7⟩ | ⟨T2, k, qf, b1, b2, b3⟩
      · left
        have q2s := b2.2.2.2.2.2.2
        rw [b1, dt_b1]
        dsimp only
        rw [i10]
        have b2' := MS_26 b2 (T2 26 0 - 1)
        obtain ⟨T3, c1, c2, c3, c4⟩ := m_layp b2' (by omega) 20 0
        rw [c1, dt_b1]
        have e12 : ∀ i, (dt_set T2 26 0 (T2 26 0 - 1)) 12 i = T2 12 i := fun i => by rw [dt_set_n _ _ _ _ _ (by omega)]
        refine ⟨T3, q2, s2 + 1, rfl, c2, by omega, by omega, by omega, ⟨fun j h12 h17 h19 h20 h21 h22 h26 => ?_, fun i hi => ?_, ?_⟩, fun F => ?_⟩
        · rw [c3.1 j h12 h17 h19 h20 h21 h22 h26, dt_set_n _ _ _ _ _ h26, b6.1 j h12 h17 h19 h20 h21 h22 h26, a4 j h19 h20 h21 h22 h26]
        · rw [c3.2.1 i (by omega), e12, b6.2.1 i hi, a4 12 (by omega) (by omega) (by omega) (by omega) (by omega)]
        · rw [c3.2.2, dt_set_at, b6.2.2, a3, hD, back]
        · obtain ⟨so, w1, w2⟩ := b7 F
          refine ⟨!so, ?_, ?_⟩
          · have s1 : EX T2 s s2 F [] [bI so] := w1
            have s2' : EX T3 s2 (s2 + 1) F [bI so] [bI (!so)] := c4 F [bI so] [bI (!so)] (fun r => by rw [← bI_not]; unfold eStep; rfl)
            exact EX_seq s1 s2' b4 (by omega) (fun i hi => by rw [c3.2.1 i hi, e12])
          · dsimp only at w2 ⊢
            rw [cl1 F, w2]
      · right
        rw [b1, dt_b1]
        refine ⟨T2, k, qf, rfl, BD_tr0 (fun j _ _ h19 h20 h21 h22 h26 => a4 j h19 h20 h21 h22 h26) b2, fun F => ?_⟩
        have w2 := b3 F
        dsimp only at w2 ⊢
        rw [cl1 F, w2]
    · by_cases z0 : c p = 10040
      · have ps := PX_stop P p (by omega)
        obtain ⟨T1, a1, a2, a3, a4⟩ := (m_opens P h ps (d + 1) h8 hD).2 d rfl
        have cl1 : ∀ F, rClaim c F (d + 1) p = (match rEith c (rClaim c F d) 500 (p + 1) false true with | .inl (so, q) => if c q = 10041 then .inl (so, q + 1) else .inr (1, q) | .inr e => .inr e) := fun F => by rw [rClaim, if_neg z6, if_pos z0]; rfl
        unfold fX10_oneTest_b
        rw [h.2.1, if_neg (show ¬ jI (tk (c p)) = (6 : Int32) by rw [e6]; omega), if_pos (show jI (tk (c p)) = (140 : Int32) by rw [e140]; omega), a1, dt_b1]
        dsimp only
        rw [i10]
        rcases m_any P hr (fun F p v q => rClaim_lt d p v q) T1 (p + 1) s a2 (by omega) a3 with ⟨T2, q2, s2, b1, b2, b3, b4, b5, b6, b7⟩ | ⟨T2, k, qf, b1, b2, b3⟩
        · have q2s := b2.2.2.2.2.2.2
          rw [b1, dt_b1]
          dsimp only
          rw [i10]
          rcases m_need P b2 141 (by omega) with ⟨T3, c1, c2, c3, c4⟩ | ⟨T3, c1, c2, c3⟩
          · left
            have c1' : fX10_need 141 T2 = some (1, T3) := c1
            rw [c1', dt_b1]
            dsimp only
            rw [i10]
            refine ⟨dt_set T3 26 0 (T3 26 0 - 1), q2 + 1, s2, rfl, MS_26 c2 _, by omega, by omega, by omega, ⟨fun j h12 h17 h19 h20 h21 h22 h26 => ?_, fun i hi => ?_, ?_⟩, fun F => ?_⟩
            · rw [dt_set_n _ _ _ _ _ h26, c3 j h19 h20 h21 h22, b6.1 j h12 h17 h19 h20 h21 h22 h26, a4 j h19 h20 h21 h22 h26]
            · rw [dt_set_n _ _ _ _ _ (by omega), c3 12 (by omega) (by omega) (by omega) (by omega), b6.2.1 i hi, a4 12 (by omega) (by omega) (by omega) (by omega) (by omega)]
            · rw [dt_set_at, c3 26 (by omega) (by omega) (by omega) (by omega), b6.2.2, a3, hD, back]
            · obtain ⟨so, w1, w2⟩ := b7 F
              refine ⟨so, EX_mono w1 b4 (fun i hi => by rw [dt_set_n _ _ _ _ _ (by omega), c3 12 (by omega) (by omega) (by omega) (by omega)]), ?_⟩
              dsimp only at w2 ⊢
              rw [cl1 F, w2]
              dsimp only
              rw [if_pos (show c q2 = 10041 by omega)]
          · right
            have c1' : fX10_need 141 T2 = some (0, T3) := c1
            rw [c1', dt_b1]
            refine ⟨T3, 1, q2, rfl, BD_tr0 (fun j _ _ h19 h20 h21 h22 h26 => a4 j h19 h20 h21 h22 h26) (BD_tr b6 c2), fun F => ?_⟩
            obtain ⟨so, w1, w2⟩ := b7 F
            dsimp only at w2 ⊢
            rw [cl1 F, w2]
            dsimp only
            rw [if_neg (show ¬ c q2 = 10041 by omega)]
        · right
          rw [b1, dt_b1]
          refine ⟨T2, k, qf, rfl, BD_tr0 (fun j _ _ h19 h20 h21 h22 h26 => a4 j h19 h20 h21 h22 h26) b2, fun F => ?_⟩
          have w2 := b3 F
          dsimp only at w2 ⊢
          rw [cl1 F, w2]
      · have rc0 : ∀ F, rClaim c F (d + 1) p = rOrd c F p := fun F => by rw [rClaim, if_neg z6, if_neg z0]
        have := m_ord P (fX10_oneTest f) h hs z6 z0
        simpa only [rc0] using this
end
