/-! ===== a vow judged ===== -/
theorem dt_set_set (T : dt_Ob) (j i : Nat) (x y : Int32) : dt_set (dt_set T j i x) j i y = dt_set T j i y := by
  funext j' i'
  by_cases h : j' = j
  · subst h
    rw [dt_set_s, dt_set_s, dt_set_s]
    by_cases e : i' = i
    · rw [upd_e _ _ _ _ e, upd_e _ _ _ _ e]
    · rw [upd_n _ _ _ _ e, upd_n _ _ _ _ e, upd_n _ _ _ _ e]
  · rw [dt_set_n _ _ _ _ _ h, dt_set_n _ _ _ _ _ h, dt_set_n _ _ _ _ _ h]
theorem tS_s5 (T0 : dt_Ob) (p w a v : Int32) : dt_set (tS T0 p w a) 5 0 v = tS (dt_set T0 5 0 v) p w a := by
  funext j i
  by_cases h : j = 5
  · subst h
    rw [dt_set_s, tS_o _ _ _ _ 5 (by omega) (by omega) (by omega), tS_o _ _ _ _ 5 (by omega) (by omega) (by omega), dt_set_s]
  · rw [dt_set_n _ _ _ _ _ h]
    unfold tS
    rw [dt_set_n T0 5 0 3 v (by omega), dt_set_n T0 5 0 6 v (by omega), dt_set_n T0 5 0 7 v (by omega), dt_set_n T0 5 0 j v h]
theorem VC_5 {T0 : dt_Ob} {c : Nat → Int} {size : Nat} {F : Nat → Int32} (h : VC T0 c size F) (v : Int32) : VC (dt_set T0 5 0 v) c size F := by
  refine ⟨⟨?_, h.1.2.1, fun p hp => ?_, h.1.2.2.2⟩, fun j hj => ?_⟩
  · rw [dt_set_n _ _ _ _ _ (by omega)]; exact h.1.1
  · rw [dt_set_n _ _ _ _ _ (by omega)]; exact h.1.2.2.1 p hp
  · rw [dt_set_n _ _ _ _ _ (by omega)]; exact h.2 j hj
/-- the first line for this time that is not so -/
def fbr (wd : Nat → Nat) (so : Nat → Bool) (t : Nat) : Nat → Nat → Int → Int
  | _, 0, br => br
  | i, k + 1, br => fbr wd so t (i + 1) k (if so i = false ∧ wd i = t ∧ br = -1 then (i : Int) else br)
theorem fX7_read_j24 {T0 : dt_Ob} {c : Nat → Int} {size : Nat} {F : Nat → Int32} (h : VC T0 c size F) (lines : Nat) (hl : lines ≤ 16) (wd : Nat → Nat) (so : Nat → Bool) (pos : Nat → Nat) (hp0 : pos lines = size) (hp : ∀ i, i < lines → pos i < size ∧ wd i ≤ 1 ∧ c (pos i) = 20000 + wd i ∧ rLine c F (pos i) = .inl (so i, pos (i + 1))) (t : Nat) (ht : t ≤ 1) (a : Int32) : ∀ (d fuel i : Nat) (br : Int), i + d = lines → d < fuel → -1 ≤ br ∧ br < 16 → fX7_read_24 fuel (jI (20000 + (t : Int))) (jI br) (jI i) (tS (dt_set T0 5 0 (jI i)) (jI (pos i)) 0 a) = some (jI (fbr wd so t i d br), tS (dt_set T0 5 0 (jI lines)) (jI size) 0 a) := by
  have hs := h.1.2.1
  intro d
  induction d with
  | zero =>
    intro fuel i br hd hf hb
    obtain ⟨f, rfl⟩ : ∃ f, fuel = f + 1 := ⟨fuel - 1, by omega⟩
    have e : i = lines := by omega
    subst e
    unfold fX7_read_24
    rw [if_neg (by rw [show (400 : Int32) = jI 400 from rfl, jI_lt _ _ (by omega) (by omega) (by omega) (by omega)]; omega), hp0, peek_d (VC_5 h _), dt_b1, if_pos (by rfl)]
    rfl
  | succ d ih =>
    intro fuel i br hd hf hb
    obtain ⟨f, rfl⟩ : ∃ f, fuel = f + 1 := ⟨fuel - 1, by omega⟩
    obtain ⟨p1, p2, p3, p4⟩ := hp i (by omega)
    have h5 := VC_5 h (jI i)
    have ln := fX7_line_j h5 (pos i) p1 a
    rw [p4] at ln
    obtain ⟨T1, l1, l2, l3, l4⟩ := ln
    have pk := fX7_peek_j h5 (pos i) (by omega) 0 a
    have r := VC_rng h (pos i)
    have es : (jI (c (pos i)) = (30000 : Int32)) = (c (pos i) = 30000) := jcne _ 30000 r (by omega)
    have e0 : (jI (c (pos i)) = (20000 : Int32)) = (c (pos i) = 20000) := jcne _ 20000 r (by omega)
    have e1 : (jI (c (pos i)) = (20001 : Int32)) = (c (pos i) = 20001) := jcne _ 20001 r (by omega)
    have et : (jI (c (pos i)) = jI (20000 + (t : Int))) = (c (pos i) = 20000 + t) := jcne _ _ r (by omega)
    have eb : (jI br = (-1 : Int32)) = (br = -1) := by rw [show (-1 : Int32) = jI (-1) from rfl]; exact jI_eq _ _ (by omega) (by omega) (by omega) (by omega)
    have nx : tS (dt_set T0 5 0 (jI i)) (jI (pos i)) 0 a 3 0 + (1 : Int32) = jI ((pos i + 1 : Nat) : Int) := by rw [tS_3, show (1 : Int32) = jI 1 from rfl, jI_add]; rfl
    have t5 : ∀ (p w a : Int32), tS (dt_set T0 5 0 (jI i)) p w a 5 0 = jI i := fun p w a => by rw [tS_o _ _ _ _ 5 (by omega) (by omega) (by omega)]; exact dt_set_at _ _ _ _
    have c1 : jI i + (1 : Int32) = jI ((i + 1 : Nat) : Int) := by rw [show (1 : Int32) = jI 1 from rfl, jI_add]; rfl
    have r133 : ∀ b : Int, -1 ≤ b ∧ b < 16 → fX7_read_133 (fX7_read_24 f) (jI (20000 + (t : Int))) (jI b) (jI i) (tS (dt_set T0 5 0 (jI i)) (jI (pos (i + 1))) 0 a) = some (jI (fbr wd so t (i + 1) d b), tS (dt_set T0 5 0 (jI lines)) (jI size) 0 a) := by
      intro b hb'
      unfold fX7_read_133 fX7_read_143
      rw [t5, c1, tS_s5, dt_set_set]
      exact ih f (i + 1) b (by omega) (by omega) hb'
    have r71 : fX7_read_71 (fX7_read_24 f) (jI (20000 + (t : Int))) (jI br) (jI i) (jI (c (pos i))) (tS (dt_set T0 5 0 (jI i)) (jI (pos i)) 0 a) = some (jI (fbr wd so t i (d + 1) br), tS (dt_set T0 5 0 (jI lines)) (jI size) 0 a) := by
      unfold fX7_read_71
      rw [t5, if_pos (by rw [show (16 : Int32) = jI 16 from rfl, jI_lt _ _ (by omega) (by omega) (by omega) (by omega)]; omega), nx, tS_s3, l1, dt_b1]
      dsimp only
      rw [l2, dt_b1, t5, r133 br hb]
      have r133i := r133 i (by omega)
      rw [r133i]
      show _ = some (jI (fbr wd so t (i + 1) d (if so i = false ∧ wd i = t ∧ br = -1 then (i : Int) else br)), _)
      simp only [et, eb]
      cases hso : so i with
      | true =>
        rw [show bI true = 1 from rfl, if_neg n10, if_neg (by rintro ⟨q, _⟩; cases q)]
      | false =>
        rw [show bI false = 0 from rfl, if_pos rfl]
        by_cases z : c (pos i) = 20000 + t
        · rw [if_pos z]
          by_cases y : br = -1
          · rw [if_pos y, if_pos ⟨rfl, by omega, y⟩]
          · rw [if_neg y, if_neg (fun q => y q.2.2)]
        · rw [if_neg z, if_neg (fun q => z (by have := q.2.1; omega))]
    unfold fX7_read_24
    rw [if_neg (by rw [show (400 : Int32) = jI 400 from rfl, jI_lt _ _ (by omega) (by omega) (by omega) (by omega)]; omega), pk, dt_b1, if_neg (by rw [es]; omega), dt_b1, r71]
    simp only [e0, e1]
    by_cases z : c (pos i) = 20000
    · rw [if_pos z]
    · rw [if_neg z, if_pos (by omega)]
theorem tS_self (T0 : dt_Ob) (p w a : Int32) : dt_set (dt_set (dt_set (dt_set T0 3 0 p) 5 0 0) 6 0 w) 7 0 a = tS (dt_set T0 5 0 0) p w a := by
  funext j i
  unfold tS
  by_cases h7 : j = 7
  · subst h7
    rw [dt_set_s, if_neg (by omega), if_neg (by omega), if_pos rfl]
    simp (disch := omega) only [dt_set_n]
  · rw [dt_set_n _ _ _ _ _ h7]
    by_cases h6 : j = 6
    · subst h6
      rw [dt_set_s, if_neg (by omega), if_pos rfl]
      simp (disch := omega) only [dt_set_n]
    · rw [dt_set_n _ _ _ _ _ h6]
      by_cases h3 : j = 3
      · subst h3
        rw [if_pos rfl, dt_set_n _ _ _ _ _ (by omega), dt_set_s, dt_set_n _ _ _ _ _ (by omega)]
      · rw [if_neg h3, if_neg h6, if_neg h7]
        by_cases h5 : j = 5
        · subst h5
          rw [dt_set_s, dt_set_s, dt_set_n _ _ _ _ _ (by omega)]
        · rw [dt_set_n _ _ _ _ _ h5, dt_set_n _ _ _ _ _ h5, dt_set_n _ _ _ _ _ h3]
/-! the reference's pile -/
def PL (T : dt_Ob) (s : List Int32) : Prop := ∀ i x, s[i]? = some x → T 14 (s.length - 1 - i) = x
theorem PL_push {T : dt_Ob} {s : List Int32} (h : PL T s) (x : Int32) : PL (dt_set T 14 s.length x) (x :: s) := by
  intro i y hy
  cases i with
  | zero =>
    rw [List.length_cons, show s.length + 1 - 1 - 0 = s.length by omega, dt_set_at]
    exact Option.some.inj hy
  | succ i =>
    have hi' := (List.getElem?_eq_some_iff.mp hy).1
    rw [List.length_cons] at hi'
    rw [List.length_cons, dt_set_s, upd_n _ _ _ _ (by omega)]
    have := h i y hy
    rw [← this]
    congr 1
    omega
theorem PL_tail {T : dt_Ob} {s : List Int32} {x : Int32} (h : PL T (x :: s)) : PL T s := by
  intro i y hy
  have := h (i + 1) y hy
  rw [← this, List.length_cons]
  congr 1
  omega
theorem PL_top {T : dt_Ob} {s : List Int32} {x : Int32} (h : PL T (x :: s)) : T 14 s.length = x := by
  have := h 0 x rfl
  rw [List.length_cons, show s.length + 1 - 1 - 0 = s.length by omega] at this
  exact this
theorem fX10_comesTo_j5 (S F : Nat → Int32) (to : Nat) (hto : to ≤ 410) : ∀ (d fuel i : Nat) (s s' : List Int32) (T : dt_Ob), i + d = to → d < fuel → s.length ≤ i → (∀ j, j < 820 → T 0 (405 + j) = S j) → (∀ k, 1 ≤ k → k < 8 → T 15 k = F (k - 1)) → PL T s → eRun S F i d s = some s' → ∃ T', fX10_comesTo_5 fuel (jI to) (jI (s.length : Nat)) (jI i) T = some (T' 14 0, T') ∧ PL T' s' ∧ ∀ j, j ≠ 14 → T' j = T j := by
  intro d
  induction d with
  | zero =>
    intro fuel i s s' T hd hf hl hS hF hP he
    obtain ⟨f, rfl⟩ : ∃ f, fuel = f + 1 := ⟨fuel - 1, by omega⟩
    have e : s = s' := Option.some.inj he
    subst e
    refine ⟨T, ?_, hP, fun _ _ => rfl⟩
    unfold fX10_comesTo_5
    rw [if_pos (by rw [jI_le _ _ (by omega) (by omega) (by omega) (by omega)]; omega), show dt_ix (0 : Int32) 420 = some 0 from rfl, dt_b1]
  | succ d ih =>
    intro fuel i s s' T hd hf hl hS hF hP he
    obtain ⟨f, rfl⟩ : ∃ f, fuel = f + 1 := ⟨fuel - 1, by omega⟩
    have k0 : T 0 (405 + 2 * i) = S (2 * i) := hS (2 * i) (by omega)
    have k1 : T 0 (405 + 2 * i + 1) = S (2 * i + 1) := hS (2 * i + 1) (by omega)
    have x0 : dt_ix ((405 : Int32) + ((2 : Int32) * jI i)) 1225 = some (405 + 2 * i) := by
      rw [show (405 : Int32) = jI 405 from rfl, show (2 : Int32) = jI 2 from rfl, jI_mul, jI_add, dt_ix_j _ _ (by omega) (by omega) (by omega), show ((405 : Int) + 2 * i).toNat = 405 + 2 * i by omega]
    have x1 : dt_ix (((405 : Int32) + ((2 : Int32) * jI i)) + (1 : Int32)) 1225 = some (405 + 2 * i + 1) := by
      rw [show (405 : Int32) = jI 405 from rfl, show (2 : Int32) = jI 2 from rfl, show (1 : Int32) = jI 1 from rfl, jI_mul, jI_add, jI_add, dt_ix_j _ _ (by omega) (by omega) (by omega), show ((405 : Int) + 2 * i + 1).toNat = 405 + 2 * i + 1 by omega]
    have ci : jI i + (1 : Int32) = jI ((i + 1 : Nat) : Int) := by rw [show (1 : Int32) = jI 1 from rfl, jI_add]; rfl
    have go : ∀ (s2 : List Int32) (T2 : dt_Ob), s2.length ≤ i + 1 → (∀ j, j ≠ 14 → T2 j = T j) → PL T2 s2 → eRun S F (i + 1) d s2 = some s' → ∃ T', fX10_comesTo_5 f (jI to) (jI (s2.length : Nat)) (jI ((i + 1 : Nat) : Int)) T2 = some (T' 14 0, T') ∧ PL T' s' ∧ ∀ j, j ≠ 14 → T' j = T j := by
      intro s2 T2 h1 h2 h3 h4
      obtain ⟨T', a1, a2, a3⟩ := ih f (i + 1) s2 s' T2 (by omega) (by omega) h1 (fun j hj => by rw [h2 0 (by omega)]; exact hS j hj) (fun k hk hk' => by rw [h2 15 (by omega)]; exact hF k hk hk') h3 h4
      exact ⟨T', a1, a2, fun j hj => by rw [a3 j hj, h2 j hj]⟩
    unfold eRun at he
    unfold fX10_comesTo_5 fX10_comesTo_160
    rw [if_neg (by rw [jI_le _ _ (by omega) (by omega) (by omega) (by omega)]; omega), x0, dt_b1, x1, dt_b1, k0, k1, ci]
    generalize hk : S (2 * i) = k at *
    generalize hv : S (2 * i + 1) = v at *
    cases hes : eStep k v F s with
    | none => rw [hes] at he; cases he
    | some s2 =>
      rw [hes] at he
      dsimp only at he
      unfold eStep at hes
      by_cases z13 : k < 13
      · rw [if_pos z13] at hes
        have n13 : ¬ (13 : Int32) ≤ k := Int32.not_le.mpr z13
        rw [if_neg n13]
        have ps : ∀ x : Int32, s2 = x :: s → ∃ T', fX10_comesTo_72 (fX10_comesTo_5 f) (jI to) (jI (s.length : Nat)) (jI i) (jI (s.length : Nat)) x T = some (T' 14 0, T') ∧ PL T' s' ∧ ∀ j, j ≠ 14 → T' j = T j := by
          intro x hx
          unfold fX10_comesTo_72 fX10_comesTo_160
          rw [dt_ix_n s.length 420 (by omega) (by omega), dt_b1, ci, show (1 : Int32) = jI 1 from rfl, jI_add]
          subst hx
          have := go (x :: s) (dt_set T 14 s.length x) (by rw [List.length_cons]; omega) (fun j hj => dt_set_n _ _ _ _ _ hj) (PL_push hP x) he
          rw [List.length_cons] at this
          exact this
        by_cases z08 : 0 ≤ k ∧ k < 8
        · rw [if_pos z08] at hes
          by_cases y0 : k = 0
          · rw [if_pos y0]
            rw [if_pos y0] at hes
            exact ps v (Option.some.inj hes).symm
          · rw [if_neg y0]
            rw [if_neg y0] at hes
            obtain ⟨kk, rfl, q0, q1⟩ := jI_ex k
            have a0 : 0 ≤ kk := by
              have := z08.1
              rwa [show (0 : Int32) = jI 0 from rfl, jI_le _ _ (by omega) (by omega) (by omega) (by omega)] at this
            have a1 : kk < 8 := by
              have := z08.2
              rwa [show (8 : Int32) = jI 8 from rfl, jI_lt _ _ (by omega) (by omega) (by omega) (by omega)] at this
            have a2 : kk ≠ 0 := by intro e; subst e; exact y0 rfl
            have tn : (jI kk).toNatClampNeg = kk.toNat := by
              unfold Int32.toNatClampNeg
              rw [jI_toInt kk (by omega) (by omega)]
            rw [dt_ix_j kk 8 (by omega) (by omega) (by omega), dt_b1, hF kk.toNat (by omega) (by omega)]
            rw [tn] at hes
            exact ps _ (Option.some.inj hes).symm
        · rw [if_neg z08] at hes; cases hes
      · rw [if_neg z13] at hes
        have p13 : (13 : Int32) ≤ k := Int32.not_lt.mp z13
        rw [if_pos p13]
        by_cases z16 : k = 16
        · rw [if_pos z16] at hes ⊢
          cases s with
          | nil => cases hes
          | cons x r =>
            dsimp only at hes
            by_cases v0 : v = 0
            · rw [if_pos v0] at hes; cases hes
            · rw [if_neg v0] at hes
              have ix : dt_ix (jI ((x :: r).length : Nat) - (1 : Int32)) 420 = some r.length := by
                rw [List.length_cons, show (1 : Int32) = jI 1 from rfl, jI_sub, show (((r.length + 1 : Nat) : Int) - 1) = ((r.length : Nat) : Int) by omega]
                exact dt_ix_n _ _ (by rw [List.length_cons] at hl; omega) (by omega)
              rw [ix, dt_b1, if_neg v0, dt_b1, PL_top hP]
              have e := Option.some.inj hes
              subst e
              exact go ((x / v) :: r) (dt_set T 14 r.length (x / v)) (by rw [List.length_cons] at hl ⊢; omega) (fun j hj => dt_set_n _ _ _ _ _ hj) (PL_push (PL_tail hP) _) he
        · rw [if_neg z16] at hes ⊢
          by_cases z20 : k = 20
          · rw [if_pos z20] at hes ⊢
            cases s with
            | nil => cases hes
            | cons x r =>
              have ix : dt_ix (jI ((x :: r).length : Nat) - (1 : Int32)) 420 = some r.length := by
                rw [List.length_cons, show (1 : Int32) = jI 1 from rfl, jI_sub, show (((r.length + 1 : Nat) : Int) - 1) = ((r.length : Nat) : Int) by omega]
                exact dt_ix_n _ _ (by rw [List.length_cons] at hl; omega) (by omega)
              rw [ix, dt_b1, dt_b1, PL_top hP]
              have e := Option.some.inj hes
              subst e
              exact go ((1 - x) :: r) (dt_set T 14 r.length (1 - x)) (by rw [List.length_cons] at hl ⊢; omega) (fun j hj => dt_set_n _ _ _ _ _ hj) (PL_push (PL_tail hP) _) he
          · rw [if_neg z20] at hes ⊢
            match s, hes, hl, hP with
            | [], hes, _, _ => cases hes
            | [_], hes, _, _ => cases hes
            | y :: x :: r, hes, hl, hP =>
              dsimp only at hes
              have ln : (y :: x :: r).length = r.length + 2 := rfl
              rw [ln] at hl ⊢
              have m1 : jI ((r.length + 2 : Nat) : Int) + (-1 : Int32) = jI ((r.length + 1 : Nat) : Int) := by
                rw [show (-1 : Int32) = jI (-1) from rfl, jI_add, show (((r.length + 2 : Nat) : Int) + -1) = ((r.length + 1 : Nat) : Int) by omega]
              have m2 : jI ((r.length + 1 : Nat) : Int) - (1 : Int32) = jI (r.length : Nat) := by
                rw [show (1 : Int32) = jI 1 from rfl, jI_sub, show (((r.length + 1 : Nat) : Int) - 1) = ((r.length : Nat) : Int) by omega]
              have tp := PL_top hP
              have tq := PL_top (PL_tail hP)
              rw [List.length_cons] at tp
              have bo : fX10_both k x y = some (if k = 13 then x + y else if k = 14 then x - y else if k = 15 then x * y else if k = 17 then (if x < y then 1 else 0) else if k = 18 then (if x = y then 1 else 0) else if k = 19 then (if y < x then 1 else 0) else if k = 21 then x &&& y else x ||| y) := by
                unfold fX10_both fX10_both_101
                rw [if_neg z16, if_neg z20]
                have lt1 : (if y ≤ x then some (0 : Int32) else some 1) = some (if x < y then 1 else 0) := by
                  by_cases q : y ≤ x
                  · rw [if_pos q, if_neg (fun l => Int32.lt_irrefl (Int32.lt_of_lt_of_le l q))]
                  · rw [if_neg q, if_pos (Int32.not_le.mp q)]
                have lt2 : (if x ≤ y then some (0 : Int32) else some 1) = some (if y < x then 1 else 0) := by
                  by_cases q : x ≤ y
                  · rw [if_pos q, if_neg (fun l => Int32.lt_irrefl (Int32.lt_of_lt_of_le l q))]
                  · rw [if_neg q, if_pos (Int32.not_le.mp q)]
                rw [lt1, lt2]
                repeat' split
                all_goals rfl
              rw [m1, m2, dt_ix_n r.length 420 (by omega) (by omega), dt_b1, dt_ix_n (r.length + 1) 420 (by omega) (by omega), dt_b1, tp, tq, bo, dt_b1, dt_b1]
              have e := Option.some.inj hes
              subst e
              have := go _ (dt_set T 14 r.length (if k = 13 then x + y else if k = 14 then x - y else if k = 15 then x * y else if k = 17 then (if x < y then 1 else 0) else if k = 18 then (if x = y then 1 else 0) else if k = 19 then (if y < x then 1 else 0) else if k = 21 then x &&& y else x ||| y)) (by rw [List.length_cons]; omega) (fun j hj => dt_set_n _ _ _ _ _ hj) (PL_push (PL_tail (PL_tail hP)) _) he
              rw [List.length_cons] at this
              exact this
