/-! ===== the reference reads: units, products, sums ===== -/
theorem tkw_hi (k : Nat) (h : 12 ≤ k) : tkw k = 1 := by
  unfold tkw
  rw [List.getD_eq_getElem?_getD, List.getElem?_eq_none (by simpa using h)]
  rfl
theorem tk_cases (c : Int) (h0 : 0 ≤ c) (h1 : c ≤ 30001) : (c < 10000 ∧ tk c = 2) ∨ (10000 ≤ c ∧ c < 20000 ∧ tk c = c - 9900) ∨ (c = 20000 ∧ tk c = 20) ∨ (c = 20001 ∧ tk c = 21) ∨ (c = 20002 ∧ tk c = 4) ∨ (c = 20003 ∧ tk c = 5) ∨ (c = 20004 ∧ tk c = 6) ∨ (20005 ≤ c ∧ c ≤ 20011 ∧ tk c = c - 19964) ∨ (20012 ≤ c ∧ c < 30000 ∧ tk c = 1) ∨ (c = 30000 ∧ tk c = 0) ∨ (c = 30001 ∧ tk c = 1) := by
  by_cases z0 : c < 10000
  · left; exact ⟨z0, by unfold tk; rw [if_pos z0]⟩
  · by_cases z1 : c < 20000
    · right; left
      refine ⟨by omega, z1, ?_⟩
      unfold tk
      rw [if_neg z0, if_neg (by omega), if_neg (by omega), if_neg (by omega)]
    · by_cases z2 : c = 30000
      · subst z2; simp [tk]
      · by_cases z3 : c = 30001
        · subst z3; simp [tk]
        · have e : tk c = tkw (c - 20000).toNat := by
            unfold tk
            rw [if_neg z0, if_neg z2, if_neg z3, if_pos (by omega)]
          by_cases z4 : c ≤ 20011
          · have hc : c = 20000 ∨ c = 20001 ∨ c = 20002 ∨ c = 20003 ∨ c = 20004 ∨ c = 20005 ∨ c = 20006 ∨ c = 20007 ∨ c = 20008 ∨ c = 20009 ∨ c = 20010 ∨ c = 20011 := by omega
            rw [e]
            rcases hc with q | q | q | q | q | q | q | q | q | q | q | q <;> subst q <;> simp [tkw]
          · rw [e, tkw_hi _ (by omega)]
            omega
/-- tape and tokens of one text -/
def PX (B : Nat → Int) (t : Nat) (c : Nat → Int) (st en : Nat → Nat) (size : Nat) : Prop := TK B t c st en size ∧ (size = 0 → SK B t 0 t) ∧ (0 < size → SK B t (en (size - 1)) t) ∧ size ≤ 400 ∧ (∀ p, p < size → 0 ≤ c p ∧ c p ≤ 30001 ∧ c p ≠ 30000) ∧ (∀ p, size ≤ p → c p = 30000)
def stx (st : Nat → Nat) (size t p : Nat) : Nat := if p < size then st p else t
/-- the reference at token p, s steps laid -/
def MS (B : Nat → Int) (t : Nat) (c : Nat → Int) (st en : Nat → Nat) (size : Nat) (T : dt_Ob) (p s : Nat) : Prop := MB T B t ∧ T 20 0 = jI (tk (c p)) ∧ T 21 0 = jI (stx st size t p) ∧ T 19 0 = jI (stx en size t p) ∧ (c p < 10000 → T 22 0 = jI (c p)) ∧ T 17 0 = jI s ∧ p ≤ size
/-- nothing but tokens, steps from s on -/
def Fr (s : Nat) (T T' : dt_Ob) : Prop := (∀ j, j ≠ 12 → j ≠ 17 → j ≠ 19 → j ≠ 20 → j ≠ 21 → j ≠ 22 → j ≠ 26 → T' j = T j) ∧ (∀ i, i < 2 * s → T' 12 i = T 12 i) ∧ T' 26 0 = T 26 0
def BD (st : Nat → Nat) (size t : Nat) (T T' : dt_Ob) (k : Int) (q : Nat) : Prop := T' 23 0 = jI k ∧ T' 24 0 = jI (stx st size t q) ∧ (∀ j, j ≠ 12 → j ≠ 17 → j ≠ 19 → j ≠ 20 → j ≠ 21 → j ≠ 22 → j ≠ 23 → j ≠ 24 → j ≠ 26 → T' j = T j) ∧ (1 ≤ k ∧ k ≤ 3) ∧ q ≤ size
/-- steps s .. s' turn what lies above into that -/
def EX (T : dt_Ob) (s s' : Nat) (F : Nat → Int32) (a b : List Int32) : Prop := ∀ r, eRun (T 12) F s (s' - s) (a ++ r) = some (b ++ r)
theorem Fr_rf (s : Nat) (T : dt_Ob) : Fr s T T := ⟨fun _ _ _ _ _ _ _ _ => rfl, fun _ _ => rfl, rfl⟩
theorem Fr_tr {s s1 : Nat} {T T1 T2 : dt_Ob} (h1 : Fr s T T1) (h2 : Fr s1 T1 T2) (hs : s ≤ s1) : Fr s T T2 := ⟨fun j a b c d e f g => by rw [h2.1 j a b c d e f g, h1.1 j a b c d e f g], fun i hi => by rw [h2.2.1 i (by omega), h1.2.1 i hi], by rw [h2.2.2, h1.2.2]⟩
theorem BD_tr {st : Nat → Nat} {size t s : Nat} {T T1 T2 : dt_Ob} {k : Int} {q : Nat} (h1 : Fr s T T1) (h2 : BD st size t T1 T2 k q) : BD st size t T T2 k q := ⟨h2.1, h2.2.1, fun j a b c d e f g h i => by rw [h2.2.2.1 j a b c d e f g h i, h1.1 j a b c d e f i], h2.2.2.2⟩
theorem eRun_app (S F : Nat → Int32) : ∀ (m i k : Nat) (x : List Int32), eRun S F i (m + k) x = (match eRun S F i m x with | some y => eRun S F (i + m) k y | none => none) := by
  intro m
  induction m with
  | zero => intro i k x; rw [Nat.zero_add]; rfl
  | succ m ih =>
    intro i k x
    rw [show m + 1 + k = (m + k) + 1 by omega]
    show (match eStep (S (2 * i)) (S (2 * i + 1)) F x with | some s' => eRun S F (i + 1) (m + k) s' | none => none) = (match (match eStep (S (2 * i)) (S (2 * i + 1)) F x with | some s' => eRun S F (i + 1) m s' | none => none) with | some y => eRun S F (i + (m + 1)) k y | none => none)
    cases eStep (S (2 * i)) (S (2 * i + 1)) F x with
    | none => rfl
    | some y =>
      dsimp only
      rw [ih (i + 1) k y, show i + (m + 1) = i + 1 + m by omega]
theorem eRun_cg {S S' F : Nat → Int32} : ∀ (m i : Nat) (x : List Int32), (∀ j, 2 * i ≤ j → j < 2 * (i + m) → S' j = S j) → eRun S' F i m x = eRun S F i m x := by
  intro m
  induction m with
  | zero => intro i x _; rfl
  | succ m ih =>
    intro i x h
    unfold eRun
    rw [h (2 * i) (by omega) (by omega), h (2 * i + 1) (by omega) (by omega)]
    cases eStep (S (2 * i)) (S (2 * i + 1)) F x with
    | none => rfl
    | some y => exact ih (i + 1) y (fun j h1 h2 => h j (by omega) (by omega))
theorem EX_mono {T T' : dt_Ob} {s s' : Nat} {F : Nat → Int32} {a b : List Int32} (h : EX T s s' F a b) (hs : s ≤ s') (e : ∀ i, i < 2 * s' → T' 12 i = T 12 i) : EX T' s s' F a b := by
  intro r
  rw [eRun_cg (S := T 12) (S' := T' 12) _ _ _ (fun j h1 h2 => e j (by omega))]
  exact h r
theorem EX_seq {T T2 : dt_Ob} {s s1 s2 : Nat} {F : Nat → Int32} {a b d : List Int32} (h1 : EX T s s1 F a b) (h2 : EX T2 s1 s2 F b d) (hs : s ≤ s1) (hs' : s1 ≤ s2) (e : ∀ i, i < 2 * s1 → T2 12 i = T 12 i) : EX T2 s s2 F a d := by
  intro r
  have g1 := EX_mono h1 hs e r
  rw [show s2 - s = (s1 - s) + (s2 - s1) by omega, eRun_app, g1]
  dsimp only
  rw [show s + (s1 - s) = s1 by omega]
  exact h2 r
theorem EX_more {T : dt_Ob} {s s' : Nat} {F : Nat → Int32} {a b : List Int32} (h : EX T s s' F a b) (x : List Int32) : EX T s s' F (a ++ x) (b ++ x) := by
  intro r
  rw [List.append_assoc, List.append_assoc]
  exact h (x ++ r)
section
variable {B : Nat → Int} {t : Nat} {c : Nat → Int} {st en : Nat → Nat} {size : Nat}
theorem PX_c (P : PX B t c st en size) (p : Nat) : 0 ≤ c p ∧ c p ≤ 30001 := by
  by_cases z : p < size
  · have := P.2.2.2.2.1 p z; omega
  · rw [P.2.2.2.2.2 p (by omega)]; omega
theorem PX_stop (P : PX B t c st en size) (p : Nat) (z : c p ≠ 30000) : p < size := by
  by_cases y : p < size
  · exact y
  · exact absurd (P.2.2.2.2.2 p (by omega)) z
theorem m_next (P : PX B t c st en size) {T : dt_Ob} {p s : Nat} (h : MS B t c st en size T p s) (hp : p < size) : ∃ T', fX10_next0 T = some T' ∧ MS B t c st en size T' (p + 1) s ∧ NF T T' := by
  obtain ⟨m1, m2, m3, m4, m5, m6, m7⟩ := h
  have e19 : T 19 0 = jI (en p) := by rw [m4]; unfold stx; rw [if_pos hp]
  have t1 := m1.1
  have n17 : ∀ T' : dt_Ob, NF T T' → T' 17 0 = jI s ∧ MB T' B t := fun T' q => ⟨by rw [q 17 (by omega) (by omega) (by omega) (by omega)]; exact m6, MB_congr m1 (q 18 (by omega) (by omega) (by omega) (by omega)) (q 13 (by omega) (by omega) (by omega) (by omega))⟩
  have tp := P.1 p hp
  by_cases z : p + 1 < size
  · have tq := P.1 (p + 1) z
    rw [if_neg (by omega), show p + 1 - 1 = p by omega] at tq
    obtain ⟨q1, q2, q3, q4⟩ := tq
    have cr := PX_c P (p + 1)
    obtain ⟨T', a1, a2, a3, a4, a5, a6⟩ := (fX10_next0_j (st (p + 1)) (st (p + 1) - en p) dt_F (en p) T m1 q1 (by have := q1.1; omega) (by unfold dt_F; omega) e19).2 (en (p + 1)) (c (p + 1)) q2 q3 q4 cr.1 cr.2
    refine ⟨T', a1, ⟨(n17 T' a6).2, a3, ?_, ?_, a5, (n17 T' a6).1, by omega⟩, a6⟩
    · rw [a4]; unfold stx; rw [if_pos z]
    · rw [a2]; unfold stx; rw [if_pos z]
  · have sk := P.2.2.1 (by omega)
    rw [show size - 1 = p by omega] at sk
    obtain ⟨T', a1, a2, a3, a4, a5⟩ := (fX10_next0_j t (t - en p) dt_F (en p) T m1 sk (by have := sk.1; omega) (by unfold dt_F; omega) e19).1 rfl
    have ce : c (p + 1) = 30000 := P.2.2.2.2.2 (p + 1) (by omega)
    refine ⟨T', a1, ⟨(n17 T' a5).2, ?_, ?_, ?_, fun q => by omega, (n17 T' a5).1, by omega⟩, a5⟩
    · rw [a3, ce]; rfl
    · rw [a4]; unfold stx; rw [if_neg (by omega)]
    · rw [a2]; unfold stx; rw [if_neg (by omega)]
theorem NF_Fr {T T' : dt_Ob} (s : Nat) (h : NF T T') : Fr s T T' := ⟨fun j _ _ h19 h20 h21 h22 _ => h j h19 h20 h21 h22, fun i _ => by rw [h 12 (by omega) (by omega) (by omega) (by omega)], by rw [h 26 (by omega) (by omega) (by omega) (by omega)]⟩
/-- a step laid -/
theorem m_lay {T : dt_Ob} {s : Nat} (e : T 17 0 = jI s) (hs : s < 410) (k v : Int32) : ∃ T', fX10_lay k v T = some T' ∧ T' 17 0 = jI ((s + 1 : Nat) : Int) ∧ (∀ j, j ≠ 12 → j ≠ 17 → T' j = T j) ∧ (∀ i, i < 2 * s → T' 12 i = T 12 i) ∧ (∀ (F : Nat → Int32) (a b : List Int32), (∀ r, eStep k v F (a ++ r) = some (b ++ r)) → EX T' s (s + 1) F a b) := by
  refine ⟨dt_set (dt_set (dt_set T 12 (2 * s) k) 12 (2 * s + 1) v) 17 0 (jI ((s + 1 : Nat) : Int)), ?_, dt_set_at _ _ _ _, fun j h1 h2 => ?_, fun i hi => ?_, fun F a b h r => ?_⟩
  · unfold fX10_lay
    have x1 : dt_ix ((2 : Int32) * jI s) 820 = some (2 * s) := by
      rw [show (2 : Int32) = jI 2 from rfl, jI_mul, show ((2 : Int) * s) = ((2 * s : Nat) : Int) by omega]; exact dt_ix_n _ _ (by omega) (by omega)
    have x2 : dt_ix (((2 : Int32) * jI s) + (1 : Int32)) 820 = some (2 * s + 1) := by
      rw [show (2 : Int32) = jI 2 from rfl, show (1 : Int32) = jI 1 from rfl, jI_mul, jI_add, show ((2 : Int) * s + 1) = ((2 * s + 1 : Nat) : Int) by omega]; exact dt_ix_n _ _ (by omega) (by omega)
    rw [e, x1, dt_b1, x2, dt_b1, show (1 : Int32) = jI 1 from rfl, jI_add]
    rfl
  · simp (disch := omega) only [dt_set_n]
  · simp (disch := omega) only [dt_set_n, dt_set_s, upd_n]
  · rw [show s + 1 - s = 1 by omega]
    unfold eRun
    have y0 : (dt_set (dt_set (dt_set T 12 (2 * s) k) 12 (2 * s + 1) v) 17 0 (jI ((s + 1 : Nat) : Int))) 12 (2 * s) = k := by simp (disch := omega) only [dt_set_n, dt_set_s, upd_n, upd_s]
    have y1 : (dt_set (dt_set (dt_set T 12 (2 * s) k) 12 (2 * s + 1) v) 17 0 (jI ((s + 1 : Nat) : Int))) 12 (2 * s + 1) = v := by simp (disch := omega) only [dt_set_n, dt_set_s, upd_n, upd_s]
    rw [y0, y1, h r]
    rfl
/-- a step laid at a token -/
theorem m_layp {T : dt_Ob} {p s : Nat} (h : MS B t c st en size T p s) (hs : s < 410) (k v : Int32) : ∃ T', fX10_lay k v T = some T' ∧ MS B t c st en size T' p (s + 1) ∧ Fr s T T' ∧ (∀ (F : Nat → Int32) (a b : List Int32), (∀ r, eStep k v F (a ++ r) = some (b ++ r)) → EX T' s (s + 1) F a b) := by
  obtain ⟨m1, m2, m3, m4, m5, m6, m7⟩ := h
  obtain ⟨T', a1, a2, a3, a4, a5⟩ := m_lay m6 hs k v
  refine ⟨T', a1, ⟨MB_congr m1 (a3 18 (by omega) (by omega)) (a3 13 (by omega) (by omega)), by rw [a3 20 (by omega) (by omega)]; exact m2, by rw [a3 21 (by omega) (by omega)]; exact m3, by rw [a3 19 (by omega) (by omega)]; exact m4, fun q => by rw [a3 22 (by omega) (by omega)]; exact m5 q, a2, m7⟩, ⟨fun j h1 h2 _ _ _ _ _ => a3 j h1 h2, a4, by rw [a3 26 (by omega) (by omega)]⟩, a5⟩
theorem m_bad {T : dt_Ob} {p s : Nat} (h : MS B t c st en size T p s) (k : Int) (hk : 1 ≤ k ∧ k ≤ 3) : ∃ T', fX10_bad (jI k) T = some (0, T') ∧ BD st size t T T' k p := by
  refine ⟨_, rfl, ?_, ?_, fun j _ _ _ _ _ _ h23 h24 _ => by rw [dt_set_n _ _ _ _ _ h24, dt_set_n _ _ _ _ _ h23], hk, h.2.2.2.2.2.2⟩
  · rw [dt_set_n _ _ _ _ _ (by omega)]; exact dt_set_at _ _ _ _
  · rw [dt_set_at]; exact h.2.2.1
theorem tkE (P : PX B t c st en size) (p : Nat) (w : Int) (hw : 0 ≤ w ∧ w ≤ 1000) : (jI (tk (c p)) = jI w) = (tk (c p) = w) := by
  have r := PX_c P p
  have tc := tk_cases (c p) r.1 r.2
  exact jI_eq _ _ (by omega) (by omega) (by omega) (by omega)
theorem m_unit (P : PX B t c st en size) {T : dt_Ob} {p s : Nat} (h : MS B t c st en size T p s) (hs : s ≤ p) : (∃ T', fX10_unit T = some (1, T') ∧ MS B t c st en size T' (p + 1) (s + 1) ∧ Fr s T T' ∧ p < size ∧ ∀ F, ∃ v, rUnit c F p = .inl (v, p + 1) ∧ EX T' s (s + 1) F [] [v]) ∨ (∃ T', fX10_unit T = some (0, T') ∧ BD st size t T T' 1 p ∧ ∀ F, rUnit c F p = .inr (1, p)) := by
  have hz := P.2.2.2.1
  have r := PX_c P p
  have tc := tk_cases (c p) r.1 r.2
  have hh := h
  obtain ⟨m1, m2, m3, m4, m5, m6, m7⟩ := h
  have q1 : fX10_isIn (jI (tk (c p))) 41 47 = some (if 41 ≤ tk (c p) ∧ tk (c p) ≤ 47 then 1 else 0) := fX10_isIn_j _ 41 47 (by omega) (by omega) (by omega) (by omega) (by omega) (by omega)
  have e2 : (jI (tk (c p)) = (2 : Int32)) = (tk (c p) = 2) := tkE P p 2 (by omega)
  -- laid, then the next token
  have go : ∀ (k v : Int32), p < size → ∃ T', ((fX10_lay k v T).bind fun q4 => ((fX10_next0 q4).bind fun q5 => (some ((1 : Int32), q5)))) = some (1, T') ∧ MS B t c st en size T' (p + 1) (s + 1) ∧ Fr s T T' ∧ (∀ (F : Nat → Int32) (a b : List Int32), (∀ r, eStep k v F (a ++ r) = some (b ++ r)) → EX T' s (s + 1) F a b) := by
    intro k v hp
    obtain ⟨T1, a1, a2, a3, a4⟩ := m_layp hh (by omega) k v
    obtain ⟨T2, b1, b2, b3⟩ := m_next P a2 hp
    refine ⟨T2, by rw [a1, dt_b1, b1, dt_b1], b2, Fr_tr a3 (NF_Fr (s + 1) b3) (by omega), fun F a b q => EX_mono (a4 F a b q) (by omega) (fun i _ => by rw [b3 12 (by omega) (by omega) (by omega) (by omega)])⟩
  unfold fX10_unit fX10_unit_30 fX10_unit_46
  rw [m2, q1, dt_b1]
  by_cases z : c p < 10000
  · left
    have t2 : tk (c p) = 2 := by omega
    have ps := PX_stop P p (by omega)
    obtain ⟨T', a1, a2, a3, a4⟩ := go 0 (T 22 0) ps
    refine ⟨T', ?_, a2, a3, ps, fun F => ⟨jI (c p), ?_, a4 F [] [jI (c p)] (fun r => ?_)⟩⟩
    · rw [if_neg (show ¬ (41 ≤ tk (c p) ∧ tk (c p) ≤ 47) by omega)]
      simp only [if_pos (show jI (tk (c p)) = (2 : Int32) by rw [e2]; exact t2)]
      exact a1
    · unfold rUnit; rw [if_pos z]
    · unfold eStep
      rw [if_pos (by decide), if_pos (by decide), if_pos rfl, m5 z]
      rfl
  · by_cases y : 20005 ≤ c p ∧ c p < 20012
    · left
      have t4 : tk (c p) = c p - 19964 := by omega
      have ps := PX_stop P p (by omega)
      obtain ⟨T', a1, a2, a3, a4⟩ := go (jI (tk (c p)) - (40 : Int32)) (T 22 0) ps
      refine ⟨T', ?_, a2, a3, ps, fun F => ⟨F (c p - 20005).toNat, ?_, a4 F [] [F (c p - 20005).toNat] (fun r => ?_)⟩⟩
      · rw [if_pos (show 41 ≤ tk (c p) ∧ tk (c p) ≤ 47 by omega)]
        simp only [if_neg (show ¬ jI (tk (c p)) = (2 : Int32) by rw [e2]; omega), if_neg n10]
        exact a1
      · unfold rUnit; rw [if_neg z, if_pos y]
      · have kk : jI (tk (c p)) - (40 : Int32) = jI (c p - 20004) := by rw [t4, show (40 : Int32) = jI 40 from rfl, jI_sub]; congr 1; omega
        have tn : (jI (c p - 20004)).toNatClampNeg - 1 = (c p - 20005).toNat := by
          unfold Int32.toNatClampNeg
          rw [jI_toInt _ (by omega) (by omega)]
          omega
        unfold eStep
        rw [kk, if_pos (by rw [show (13 : Int32) = jI 13 from rfl, jI_lt _ _ (by omega) (by omega) (by omega) (by omega)]; omega), if_pos ⟨by rw [show (0 : Int32) = jI 0 from rfl, jI_le _ _ (by omega) (by omega) (by omega) (by omega)]; omega, by rw [show (8 : Int32) = jI 8 from rfl, jI_lt _ _ (by omega) (by omega) (by omega) (by omega)]; omega⟩, if_neg (by rw [show (0 : Int32) = jI 0 from rfl, jI_eq _ _ (by omega) (by omega) (by omega) (by omega)]; omega), tn]
        rfl
    · right
      obtain ⟨T', b1, b2⟩ := m_bad hh 1 (by omega)
      have b1' : fX10_bad 1 T = some (0, T') := b1
      refine ⟨T', ?_, b2, fun F => by unfold rUnit; rw [if_neg z, if_neg y]⟩
      rw [if_neg (show ¬ (41 ≤ tk (c p) ∧ tk (c p) ≤ 47) by omega)]
      simp only [if_neg (show ¬ jI (tk (c p)) = (2 : Int32) by rw [e2]; omega)]
      rw [if_pos trivial, b1', dt_b1, if_pos (Or.inl rfl)]
/-- the row's reading needs no more than there is -/
theorem rUnit_eq {c : Nat → Int} {F : Nat → Int32} {p : Nat} {v : Int32} {q : Nat} (h : rUnit c F p = .inl (v, q)) : q = p + 1 ∧ c p ≠ 30000 := by
  unfold rUnit at h
  split at h
  · cases h; exact ⟨rfl, by omega⟩
  · split at h
    · cases h; exact ⟨rfl, by omega⟩
    · cases h
theorem rSumL_irr (P : PX B t c st en size) (F : Nat → Int32) : ∀ (d f f' p : Nat) (x : Int32) (l : Bool) (m : Int32), p + d = size → d < f → d < f' → rSumL c F f p x l m = rSumL c F f' p x l m := by
  intro d
  induction d using Nat.strongRecOn with
  | _ d ih =>
    intro f f' p x l m hd h1 h2
    obtain ⟨g, rfl⟩ : ∃ g, f = g + 1 := ⟨f - 1, by omega⟩
    obtain ⟨g', rfl⟩ : ∃ g, f' = g + 1 := ⟨f' - 1, by omega⟩
    have un : ∀ (x' : Int32) (l' : Bool) (h : Int32 → Int32), c p ≠ 30000 → (match rUnit c F (p + 1) with | .inl (v, q) => rSumL c F g q x' l' (h v) | .inr e => .inr e) = (match rUnit c F (p + 1) with | .inl (v, q) => rSumL c F g' q x' l' (h v) | .inr e => (.inr e : (Int32 × Nat) ⊕ (Int × Nat))) := by
      intro x' l' h hp
      cases hu : rUnit c F (p + 1) with
      | inr e => rfl
      | inl vq =>
        obtain ⟨v, q⟩ := vq
        obtain ⟨q1, q2⟩ := rUnit_eq hu
        have a := PX_stop P p hp
        have b := PX_stop P (p + 1) q2
        exact ih (size - q) (by omega) g g' q x' l' (h v) (by omega) (by omega) (by omega)
    unfold rSumL
    by_cases z42 : c p = 10042
    · rw [if_pos z42, if_pos z42]; exact un x l (fun v => m * v) (by omega)
    · rw [if_neg z42, if_neg z42]
      by_cases z47 : c p = 10047
      · rw [if_pos z47, if_pos z47]
        by_cases y0 : c (p + 1) = 0
        · rw [if_pos y0, if_pos y0]
        · rw [if_neg y0, if_neg y0]
          by_cases y1 : c (p + 1) < 10000
          · rw [if_pos y1, if_pos y1]
            have a := PX_stop P p (by omega)
            have b := PX_stop P (p + 1) (by omega)
            exact ih (size - (p + 2)) (by omega) g g' (p + 2) x l _ (by omega) (by omega) (by omega)
          · rw [if_neg y1, if_neg y1]
      · rw [if_neg z47, if_neg z47]
        by_cases zj : c p = 10043 ∨ c p = 10045
        · rw [if_pos zj, if_pos zj]; exact un _ _ (fun v => v) (by omega)
        · rw [if_neg zj, if_neg zj]
/-- a unit, then on -/
def R1 (c : Nat → Int) (F : Nat → Int32) (p : Nat) (x : Int32) (l : Bool) : (Int32 × Nat) ⊕ (Int × Nat) := match rUnit c F p with | .inl (v, q) => rSumL c F 500 q x l v | .inr e => .inr e
theorem rSumL_5 (P : PX B t c st en size) (F : Nat → Int32) (p : Nat) (hp : p ≤ size) (x : Int32) (l : Bool) (m : Int32) : rSumL c F 500 p x l m = (if c p = 10042 then (match rUnit c F (p + 1) with | .inl (v, q) => rSumL c F 500 q x l (m * v) | .inr e => .inr e)
    else if c p = 10047 then (if c (p + 1) = 0 then .inr (2, p + 1) else if c (p + 1) < 10000 then rSumL c F 500 (p + 2) x l (m / jI (c (p + 1))) else .inr (1, p + 1))
    else if c p = 10043 ∨ c p = 10045 then R1 c F (p + 1) (if l then x - m else x + m) (decide (c p = 10045))
    else .inl ((if l then x - m else x + m), p)) := by
  have hz := P.2.2.2.1
  rw [rSumL_irr P F (size - p) 500 501 p x l m (by omega) (by omega) (by omega)]
  rfl
theorem m_prod9 (P : PX B t c st en size) : ∀ (d fuel q s : Nat) (T : dt_Ob), q + d = size → d < fuel → MS B t c st en size T q s → s ≤ q → (∃ T' q' s', fX10_product_9 fuel T = some (1, T') ∧ MS B t c st en size T' q' s' ∧ q ≤ q' ∧ s ≤ s' ∧ s' + q ≤ q' + s ∧ Fr s T T' ∧ c q' ≠ 10042 ∧ c q' ≠ 10047 ∧ ∀ F m, ∃ m', EX T' s s' F [m] [m'] ∧ ∀ x l, rSumL c F 500 q x l m = rSumL c F 500 q' x l m') ∨ (∃ T' k qf, fX10_product_9 fuel T = some (0, T') ∧ BD st size t T T' k qf ∧ ∀ F m x l, rSumL c F 500 q x l m = .inr (k, qf)) := by
  have hz := P.2.2.2.1
  intro d
  induction d using Nat.strongRecOn with
  | _ d ih =>
    intro fuel q s T hd hf h hs
    obtain ⟨f, rfl⟩ : ∃ f, fuel = f + 1 := ⟨fuel - 1, by omega⟩
    have hh := h
    obtain ⟨m1, m2, m3, m4, m5, m6, m7⟩ := h
    have r := PX_c P q
    have tc := tk_cases (c q) r.1 r.2
    have e142 : (jI (tk (c q)) = (142 : Int32)) = (tk (c q) = 142) := tkE P q 142 (by omega)
    have e147 : (jI (tk (c q)) = (147 : Int32)) = (tk (c q) = 147) := tkE P q 147 (by omega)
    by_cases z42 : c q = 10042
    · have qs := PX_stop P q (by omega)
      obtain ⟨T1, a1, a2, a3⟩ := m_next P hh qs
      have top : fX10_product_9 (f + 1) T = ((fX10_unit T1).bind fun q3 => (if q3.1 = 0 then (some ((0 : Int32), q3.2)) else ((fX10_lay (15 : Int32) (0 : Int32) q3.2).bind fun q4 => (fX10_product_9 f q4)))) := by
        rw [fX10_product_9]
        unfold fX10_product_29 fX10_product_44
        simp only [m2, if_pos (show jI (tk (c q)) = (142 : Int32) by rw [e142]; omega), if_neg (show ¬ jI (tk (c q)) = (147 : Int32) by rw [e147]; omega), a1, dt_b1, i00]
        rw [if_pos trivial]
      rw [top]
      rcases m_unit P a2 (by omega) with ⟨T2, b1, b2, b3, b4, b5⟩ | ⟨T2, b1, b2, b3⟩
      · rw [b1, dt_b1]
        dsimp only
        rw [i10]
        obtain ⟨T3, c1, c2, c3, c4⟩ := m_layp b2 (by omega) 15 0
        rw [c1, dt_b1]
        have fr3 : Fr s T T3 := Fr_tr (NF_Fr s a3) (Fr_tr b3 c3 (by omega)) (Nat.le_refl s)
        rcases ih (size - (q + 2)) (by omega) f (q + 2) (s + 2) T3 (by omega) (by omega) c2 (by omega) with ⟨T', q', s', d1, d2, d3, d4, d5, d6, d7, d8, d9⟩ | ⟨T', k, qf, d1, d2, d3⟩
        · left
          refine ⟨T', q', s', d1, d2, by omega, by omega, by omega, Fr_tr fr3 d6 (by omega), d7, d8, fun F m => ?_⟩
          obtain ⟨v, w1, w2⟩ := b5 F
          obtain ⟨m', w3, w4⟩ := d9 F (m * v)
          refine ⟨m', ?_, fun x l => ?_⟩
          · have s1 : EX T2 s (s + 1) F [m] [v, m] := EX_more w2 [m]
            have s2 : EX T3 (s + 1) (s + 1 + 1) F [v, m] [m * v] := c4 F [v, m] [m * v] (fun r => by unfold eStep; rfl)
            have s3 := EX_seq s1 s2 (by omega) (by omega) (fun i hi => c3.2.1 i hi)
            exact EX_seq s3 w3 (by omega) d4 (fun i hi => d6.2.1 i hi)
          · rw [rSumL_5 P F q (by omega), if_pos z42, w1]
            exact w4 x l
        · right
          refine ⟨T', k, qf, d1, BD_tr fr3 d2, fun F m x l => ?_⟩
          obtain ⟨v, w1, w2⟩ := b5 F
          rw [rSumL_5 P F q (by omega), if_pos z42, w1]
          exact d3 F (m * v) x l
      · right
        rw [b1, dt_b1]
        refine ⟨T2, 1, q + 1, rfl, BD_tr (NF_Fr s a3) b2, fun F m x l => ?_⟩
        rw [rSumL_5 P F q (by omega), if_pos z42, b3 F]
    · by_cases z47 : c q = 10047
      · have qs := PX_stop P q (by omega)
        obtain ⟨T1, a1, a2, a3⟩ := m_next P hh qs
        have a2' := a2
        obtain ⟨n1, n2, n3, n4, n5, n6, n7⟩ := a2
        have r2 := PX_c P (q + 1)
        have tc2 := tk_cases (c (q + 1)) r2.1 r2.2
        have e2 : (jI (tk (c (q + 1))) = (2 : Int32)) = (tk (c (q + 1)) = 2) := tkE P (q + 1) 2 (by omega)
        have top : fX10_product_9 (f + 1) T = (if jI (tk (c (q + 1))) = (2 : Int32) then (if (T1 22 0) = 0 then ((fX10_bad (2 : Int32) T1).bind fun q7 => (if q7.1 = 0 ∨ q7.1 = 1 then (some (q7.1, q7.2)) else none)) else ((fX10_next0 T1).bind fun q5 => ((fX10_lay (16 : Int32) (T1 22 0) q5).bind fun q6 => (fX10_product_9 f q6)))) else ((fX10_bad (1 : Int32) T1).bind fun q9 => (if q9.1 = 0 ∨ q9.1 = 1 then (some (q9.1, q9.2)) else none))) := by
          rw [fX10_product_9]
          unfold fX10_product_29 fX10_product_44
          simp only [m2, if_neg (show ¬ jI (tk (c q)) = (142 : Int32) by rw [e142]; omega), if_pos (show jI (tk (c q)) = (147 : Int32) by rw [e147]; omega), a1, dt_b1, if_neg n10, n2]
        rw [top]
        by_cases y1 : c (q + 1) < 10000
        · have v22 := n5 y1
          have e0 : (jI (c (q + 1)) = (0 : Int32)) = (c (q + 1) = 0) := jI_eq _ 0 (by omega) (by omega) (by omega) (by omega)
          rw [if_pos (by rw [e2]; omega), v22]
          by_cases y0 : c (q + 1) = 0
          · right
            obtain ⟨T2, b1, b2⟩ := m_bad a2' 2 (by omega)
            have b1' : fX10_bad 2 T1 = some (0, T2) := b1
            rw [if_pos (by rw [e0]; exact y0), b1', dt_b1]
            refine ⟨T2, 2, q + 1, if_pos (Or.inl rfl), BD_tr (NF_Fr s a3) b2, fun F m x l => ?_⟩
            rw [rSumL_5 P F q (by omega), if_neg z42, if_pos z47, if_pos y0]
          · have qs2 := PX_stop P (q + 1) (by omega)
            obtain ⟨T2, b1, b2, b3⟩ := m_next P a2' qs2
            obtain ⟨T3, c1, c2, c3, c4⟩ := m_layp b2 (by omega) 16 (jI (c (q + 1)))
            rw [if_neg (by rw [e0]; exact y0), b1, dt_b1, c1, dt_b1]
            have fr3 : Fr s T T3 := Fr_tr (NF_Fr s a3) (Fr_tr (NF_Fr s b3) c3 (by omega)) (Nat.le_refl s)
            rcases ih (size - (q + 2)) (by omega) f (q + 2) (s + 1) T3 (by omega) (by omega) c2 (by omega) with ⟨T', q', s', d1, d2, d3, d4, d5, d6, d7, d8, d9⟩ | ⟨T', k, qf, d1, d2, d3⟩
            · left
              refine ⟨T', q', s', d1, d2, by omega, by omega, by omega, Fr_tr fr3 d6 (by omega), d7, d8, fun F m => ?_⟩
              obtain ⟨m', w3, w4⟩ := d9 F (m / jI (c (q + 1)))
              refine ⟨m', ?_, fun x l => ?_⟩
              · have s2 : EX T3 s (s + 1) F [m] [m / jI (c (q + 1))] := c4 F [m] _ (fun r => by
                  unfold eStep
                  rw [if_neg (by decide), if_pos rfl]
                  show (if jI (c (q + 1)) = 0 then none else _) = _
                  rw [if_neg (by rw [e0]; exact y0)]
                  rfl)
                exact EX_seq s2 w3 (by omega) d4 (fun i hi => d6.2.1 i hi)
              · rw [rSumL_5 P F q (by omega), if_neg z42, if_pos z47, if_neg y0, if_pos y1]
                exact w4 x l
            · right
              refine ⟨T', k, qf, d1, BD_tr fr3 d2, fun F m x l => ?_⟩
              rw [rSumL_5 P F q (by omega), if_neg z42, if_pos z47, if_neg y0, if_pos y1]
              exact d3 F _ x l
        · right
          obtain ⟨T2, b1, b2⟩ := m_bad a2' 1 (by omega)
          have b1' : fX10_bad 1 T1 = some (0, T2) := b1
          rw [if_neg (by rw [e2]; omega), b1', dt_b1]
          refine ⟨T2, 1, q + 1, if_pos (Or.inl rfl), BD_tr (NF_Fr s a3) b2, fun F m x l => ?_⟩
          rw [rSumL_5 P F q (by omega), if_neg z42, if_pos z47, if_neg (by omega), if_neg y1]
      · left
        refine ⟨T, q, s, ?_, hh, Nat.le_refl _, Nat.le_refl _, by omega, Fr_rf s T, z42, z47, fun F m => ⟨m, fun r => by rw [Nat.sub_self]; rfl, fun _ _ => rfl⟩⟩
        unfold fX10_product_9
        rw [m2, if_neg (by rw [e142]; omega), if_neg (by rw [e147]; omega)]
theorem m_prod (P : PX B t c st en size) {T : dt_Ob} {p s : Nat} (h : MS B t c st en size T p s) (hs : s ≤ p) : (∃ T' q' s', fX10_product T = some (1, T') ∧ MS B t c st en size T' q' s' ∧ p < q' ∧ s ≤ s' ∧ s' + p ≤ q' + s ∧ Fr s T T' ∧ c q' ≠ 10042 ∧ c q' ≠ 10047 ∧ ∀ F, ∃ m', EX T' s s' F [] [m'] ∧ ∀ x l, R1 c F p x l = rSumL c F 500 q' x l m') ∨ (∃ T' k qf, fX10_product T = some (0, T') ∧ BD st size t T T' k qf ∧ ∀ F x l, R1 c F p x l = .inr (k, qf)) := by
  have hz := P.2.2.2.1
  unfold fX10_product
  rcases m_unit P h hs with ⟨T2, b1, b2, b3, b4, b5⟩ | ⟨T2, b1, b2, b3⟩
  · rw [b1, dt_b1]
    dsimp only
    rw [i10]
    rcases m_prod9 P (size - (p + 1)) dt_F (p + 1) (s + 1) T2 (by omega) (by unfold dt_F; omega) b2 (by omega) with ⟨T', q', s', d1, d2, d3, d4, d5, d6, d7, d8, d9⟩ | ⟨T', k, qf, d1, d2, d3⟩
    · left
      refine ⟨T', q', s', d1, d2, by omega, by omega, by omega, Fr_tr b3 d6 (by omega), d7, d8, fun F => ?_⟩
      obtain ⟨v, w1, w2⟩ := b5 F
      obtain ⟨m', w3, w4⟩ := d9 F v
      refine ⟨m', EX_seq w2 w3 (by omega) d4 (fun i hi => d6.2.1 i hi), fun x l => ?_⟩
      unfold R1
      rw [w1]
      exact w4 x l
    · right
      refine ⟨T', k, qf, d1, BD_tr b3 d2, fun F x l => ?_⟩
      obtain ⟨v, w1, w2⟩ := b5 F
      unfold R1
      rw [w1]
      exact d3 F v x l
  · right
    rw [b1, dt_b1]
    refine ⟨T2, 1, p, rfl, b2, fun F x l => ?_⟩
    unfold R1
    rw [b3 F]
theorem m_sum9 (P : PX B t c st en size) : ∀ (d fuel q s : Nat) (T : dt_Ob), q + d = size → d < fuel → MS B t c st en size T q s → s ≤ q → c q ≠ 10042 → c q ≠ 10047 → (∃ T' q' s', fX10_sumUp_9 fuel T = some (1, T') ∧ MS B t c st en size T' q' s' ∧ q ≤ q' ∧ s ≤ s' ∧ s' + q ≤ q' + s ∧ Fr s T T' ∧ ∀ F v, ∃ v', EX T' s s' F [v] [v'] ∧ ∀ x (l : Bool) m, (if l then x - m else x + m) = v → rSumL c F 500 q x l m = .inl (v', q')) ∨ (∃ T' k qf, fX10_sumUp_9 fuel T = some (0, T') ∧ BD st size t T T' k qf ∧ ∀ F x l m, rSumL c F 500 q x l m = .inr (k, qf)) := by
  have hz := P.2.2.2.1
  intro d
  induction d using Nat.strongRecOn with
  | _ d ih =>
    intro fuel q s T hd hf h hs n42 n47
    obtain ⟨f, rfl⟩ : ∃ f, fuel = f + 1 := ⟨fuel - 1, by omega⟩
    have hh := h
    obtain ⟨m1, m2, m3, m4, m5, m6, m7⟩ := h
    have r := PX_c P q
    have tc := tk_cases (c q) r.1 r.2
    have e143 : (jI (tk (c q)) = (143 : Int32)) = (tk (c q) = 143) := tkE P q 143 (by omega)
    have e145 : (jI (tk (c q)) = (145 : Int32)) = (tk (c q) = 145) := tkE P q 145 (by omega)
    by_cases zj : c q = 10043 ∨ c q = 10045
    · have qs := PX_stop P q (by omega)
      obtain ⟨T1, a1, a2, a3⟩ := m_next P hh qs
      have how : ∃ k : Int32, (k = 13 ∧ c q = 10043 ∨ k = 14 ∧ c q = 10045) ∧ fX10_sumUp_9 (f + 1) T = ((fX10_product T1).bind fun q3 => (if q3.1 = 0 then (some ((0 : Int32), q3.2)) else ((fX10_lay k (0 : Int32) q3.2).bind fun q4 => (fX10_sumUp_9 f q4)))) := by
        rcases zj with z | z
        · refine ⟨13, Or.inl ⟨rfl, z⟩, ?_⟩
          rw [fX10_sumUp_9]
          unfold fX10_sumUp_29 fX10_sumUp_46
          rw [m2, if_pos (by rw [e143]; omega), a1, dt_b1]
          simp only [if_pos (show jI (tk (c q)) = (143 : Int32) by rw [e143]; omega)]
        · refine ⟨14, Or.inr ⟨rfl, z⟩, ?_⟩
          rw [fX10_sumUp_9]
          unfold fX10_sumUp_29 fX10_sumUp_46
          simp only [m2, if_neg (show ¬ jI (tk (c q)) = (143 : Int32) by rw [e143]; omega), if_pos (show jI (tk (c q)) = (145 : Int32) by rw [e145]; omega), a1, dt_b1]
      obtain ⟨k, hk, top⟩ := how
      rw [top]
      rcases m_prod P a2 (by omega) with ⟨T2, q2, s2, b1, b2, b3, b4, b5, b6, b7, b8, b9⟩ | ⟨T2, kk, qf, b1, b2, b3⟩
      · have q2s := b2.2.2.2.2.2.2
        rw [b1, dt_b1]
        dsimp only
        rw [i10]
        obtain ⟨T3, c1, c2, c3, c4⟩ := m_layp b2 (by omega) k 0
        rw [c1, dt_b1]
        have fr3 : Fr s T T3 := Fr_tr (NF_Fr s a3) (Fr_tr b6 c3 (by omega)) (Nat.le_refl s)
        rcases ih (size - q2) (by omega) f q2 (s2 + 1) T3 (by omega) (by omega) c2 (by omega) b7 b8 with ⟨T', q', s', d1, d2, d3, d4, d5, d6, d9⟩ | ⟨T', kk, qf, d1, d2, d3⟩
        · left
          refine ⟨T', q', s', d1, d2, by omega, by omega, by omega, Fr_tr fr3 d6 (by omega), fun F v => ?_⟩
          obtain ⟨m', w1, w2⟩ := b9 F
          obtain ⟨v', w3, w4⟩ := d9 F (if c q = 10045 then v - m' else v + m')
          refine ⟨v', ?_, fun x l m hv => ?_⟩
          · have s1 : EX T2 s s2 F [v] [m', v] := EX_more w1 [v]
            have sx : EX T3 s2 (s2 + 1) F [m', v] [if c q = 10045 then v - m' else v + m'] := c4 F [m', v] _ (fun r => by
              rcases hk with ⟨rfl, z⟩ | ⟨rfl, z⟩
              · rw [if_neg (by omega)]; unfold eStep; rfl
              · rw [if_pos z]; unfold eStep; rfl)
            have s3 := EX_seq s1 sx b4 (by omega) (fun i hi => c3.2.1 i hi)
            exact EX_seq s3 w3 (by omega) d4 (fun i hi => d6.2.1 i hi)
          · rw [rSumL_5 P F q (by omega), if_neg n42, if_neg n47, if_pos zj, hv, w2]
            apply w4
            by_cases z : c q = 10045
            · rw [decide_eq_true z, if_pos z]; rfl
            · rw [decide_eq_false z, if_neg z]; rfl
        · right
          refine ⟨T', kk, qf, d1, BD_tr fr3 d2, fun F x l m => ?_⟩
          obtain ⟨m', w1, w2⟩ := b9 F
          rw [rSumL_5 P F q (by omega), if_neg n42, if_neg n47, if_pos zj, w2]
          exact d3 F _ _ _
      · right
        rw [b1, dt_b1]
        refine ⟨T2, kk, qf, rfl, BD_tr (NF_Fr s a3) b2, fun F x l m => ?_⟩
        rw [rSumL_5 P F q (by omega), if_neg n42, if_neg n47, if_pos zj]
        exact b3 F _ _
    · left
      refine ⟨T, q, s, ?_, hh, Nat.le_refl _, Nat.le_refl _, by omega, Fr_rf s T, fun F v => ⟨v, fun r => by rw [Nat.sub_self]; rfl, fun x l m hv => ?_⟩⟩
      · unfold fX10_sumUp_9
        rw [m2, if_neg (by rw [e143]; omega), if_neg (by rw [e145]; omega)]
      · rw [rSumL_5 P F q (by omega), if_neg n42, if_neg n47, if_neg zj, hv]
theorem m_sum (P : PX B t c st en size) {T : dt_Ob} {p s : Nat} (h : MS B t c st en size T p s) (hs : s ≤ p) : (∃ T' q' s', fX10_sumUp T = some (1, T') ∧ MS B t c st en size T' q' s' ∧ p < q' ∧ s ≤ s' ∧ s' + p ≤ q' + s ∧ Fr s T T' ∧ ∀ F, ∃ v, EX T' s s' F [] [v] ∧ rSum c F p = .inl (v, q')) ∨ (∃ T' k qf, fX10_sumUp T = some (0, T') ∧ BD st size t T T' k qf ∧ ∀ F, rSum c F p = .inr (k, qf)) := by
  have hz := P.2.2.2.1
  have rs : ∀ F, rSum c F p = R1 c F p 0 false := fun F => rfl
  unfold fX10_sumUp
  rcases m_prod P h hs with ⟨T2, q2, s2, b1, b2, b3, b4, b5, b6, b7, b8, b9⟩ | ⟨T2, kk, qf, b1, b2, b3⟩
  · have q2s := b2.2.2.2.2.2.2
    rw [b1, dt_b1]
    dsimp only
    rw [i10]
    rcases m_sum9 P (size - q2) dt_F q2 s2 T2 (by omega) (by unfold dt_F; omega) b2 (by omega) b7 b8 with ⟨T', q', s', d1, d2, d3, d4, d5, d6, d9⟩ | ⟨T', kk, qf, d1, d2, d3⟩
    · left
      refine ⟨T', q', s', d1, d2, by omega, by omega, by omega, Fr_tr b6 d6 (by omega), fun F => ?_⟩
      obtain ⟨m', w1, w2⟩ := b9 F
      obtain ⟨v', w3, w4⟩ := d9 F m'
      refine ⟨v', EX_seq w1 w3 b4 d4 (fun i hi => d6.2.1 i hi), ?_⟩
      rw [rs F, w2]
      exact w4 0 false m' (Int32.zero_add m')
    · right
      refine ⟨T', kk, qf, d1, BD_tr b6 d2, fun F => ?_⟩
      obtain ⟨m', w1, w2⟩ := b9 F
      rw [rs F, w2]
      exact d3 F _ _ _
  · right
    rw [b1, dt_b1]
    refine ⟨T2, kk, qf, rfl, b2, fun F => ?_⟩
    rw [rs F]
    exact b3 F _ _
end
