/-! ===== which: the class's search ===== -/
section
variable {n : Nat} {W : Int} {g : Nat → Nat → Int} {k : Nat} {bs : Nat → Nat}
/-- i of the blocks put -/
def PR (n : Nat) (W : Int) (g : Nat → Nat → Int) (k : Nat) (bs : Nat → Nat) (col : Nat → Int) (i : Nat) : Prop := CO n W g col ∧ (∀ j, j < i → 0 ≤ col (bs j)) ∧ (∀ b, 0 ≤ col b → ∃ j, j < i ∧ bs j = b) ∧ ∀ b, 0 ≤ col b → lv g b (col b) < k
theorem PR_add (hY : YD n W g) (hB : BS n k bs) {col : Nat → Int} {i : Nat} (h : PR n W g k bs col i) (hi' : i < k) (c : Nat) (hc : (c : Int) ≤ W - g 0 (bs i)) (hr : 0 ≤ g 4 (bs i) - 10 - c) (hl : lv g (bs i) c < k) : PR n W g k bs (cu col (bs i) c) (i + 1) := by
  obtain ⟨h1, h2, h3, h4⟩ := h
  refine ⟨fun b => ?_, fun j hj => ?_, fun b hb => ?_, fun b hb => ?_⟩
  · by_cases z : b = bs i
    · subst z
      rw [cu_s]
      exact ⟨by omega, fun _ => ⟨hB.2.1 i hi', by omega, hr⟩⟩
    · rw [cu_n _ _ _ _ z]; exact h1 b
  · by_cases z : j = i
    · subst z; rw [cu_s]; omega
    · rw [cu_n _ _ _ _ (fun q => z (hB.2.2 j i (by omega) hi' q))]; exact h2 j (by omega)
  · by_cases z : b = bs i
    · exact ⟨i, by omega, z.symm⟩
    · rw [cu_n _ _ _ _ z] at hb
      obtain ⟨j, j1, j2⟩ := h3 b hb
      exact ⟨j, by omega, j2⟩
  · by_cases z : b = bs i
    · subst z; rw [cu_s]; exact hl
    · rw [cu_n _ _ _ _ z] at hb ⊢; exact h4 b hb
/-- too high: no leaf -/
theorem no_high (hY : YD n W g) (hB : BS n k bs) {col : Nat → Int} {i d : Nat} (h : PR n W g k bs col i) (hk : i + (d + 1) = k) (c : Nat) (hl : (k : Int) ≤ lv g (bs i) c) (a : Acc) : en n W g bs d (i + 1) (cu col (bs i) c) a = a := by
  refine en_none d (i + 1) _ a (fun col' hc hG => ?_)
  have e : col' (bs i) = c := by
    rw [hc (bs i) (fun j h1 h2 q => by have := hB.2.2 j i (by omega) (by omega) q; omega)]
    exact cu_s _ _ _
  have := leaf_lev hY hG.1 k bs (fun b hb => by
    by_cases z : ∃ j, j < k ∧ bs j = b
    · exact z
    · have e2 : col' b = col b := by
        rw [hc b (fun j h1 h2 q => z ⟨j, by omega, q⟩), cu_n _ _ _ _ (fun q => z ⟨i, by omega, q.symm⟩)]
      rw [e2] at hb
      obtain ⟨j, j1, j2⟩ := h.2.2.1 b hb
      exact ⟨j, by omega, j2⟩) (bs i) (hB.2.1 i (by omega)) (by rw [e]; omega)
  rw [e] at this
  omega
/-- taken: no leaf -/
theorem no_clash (hY : YD n W g) (hB : BS n k bs) {col : Nat → Int} {i d : Nat} (h : PR n W g k bs col i) (hk : i + (d + 1) = k) (c : Nat) (j : Nat) (hj : j < i) (hcl : clash g bs (cu col (bs i) c) i j) (a : Acc) : en n W g bs d (i + 1) (cu col (bs i) c) a = a := by
  refine en_none d (i + 1) _ a (fun col' hc hG => ?_)
  have ei : col' (bs i) = cu col (bs i) c (bs i) := hc (bs i) (fun x h1 h2 q => by have := hB.2.2 x i (by omega) (by omega) q; omega)
  have ej : col' (bs j) = cu col (bs i) c (bs j) := hc (bs j) (fun x h1 h2 q => by have := hB.2.2 x j (by omega) (by omega) q; omega)
  have ne : bs i ≠ bs j := fun q => by have := hB.2.2 i j (by omega) (by omega) q; omega
  have pi : 0 ≤ col' (bs i) := by rw [ei, cu_s]; omega
  have pj : 0 ≤ col' (bs j) := by rw [ej, cu_n _ _ _ _ (Ne.symm ne)]; exact h.2.1 j hj
  have q := hG.1.2.2.2.2.1 (bs i) (hB.2.1 i (by omega)) (bs j) (hB.2.1 j (by omega)) ne ((ovl_gL g col' hY.2 _ _).mpr ⟨pi, pj, by rw [ei, ej]; exact hcl.1, by rw [ei, ej]; exact hcl.2.1⟩)
  rw [gL_6 _ _ _ pi, gL_6 _ _ _ pj, ei, ej] at q
  exact q hcl.2.2
theorem FP_set {P : dt_Ob} {col : Nat → Int} {i : Nat} (hB : BS n k bs) (h : FP P k bs g col i) (hi' : i < k) (c : Nat) : FP (dt_set (dt_set P 1 i (jI c)) 2 i (jI (lv g (bs i) c))) k bs g (cu col (bs i) c) (i + 1) := by
  obtain ⟨h1, h2, h3⟩ := h
  refine ⟨?_, fun j hj => ?_, fun j hj => ?_⟩
  · rw [dt_set_n _ _ _ _ _ (by omega), dt_set_n _ _ _ _ _ (by omega)]; exact h1
  · rw [dt_set_n _ _ _ _ _ (show 0 ≠ 2 by omega), dt_set_n _ _ _ _ _ (show 0 ≠ 1 by omega), dt_set_n _ _ _ _ _ (show 3 ≠ 2 by omega), dt_set_n _ _ _ _ _ (show 3 ≠ 1 by omega)]; exact h2 j hj
  · rw [dt_set_n _ _ _ _ _ (show 1 ≠ 2 by omega), dt_set_s, dt_set_s, dt_set_n _ _ _ _ _ (show 2 ≠ 1 by omega)]
    by_cases z : j = i
    · subst z; rw [upd_s, upd_s, cu_s]; exact ⟨rfl, rfl⟩
    · rw [upd_n _ _ _ _ z, upd_n _ _ _ _ z, cu_n _ _ _ _ (fun q => z (hB.2.2 j i (by omega) hi' q))]
      exact h3 j (by omega)
theorem FP_back {P : dt_Ob} {col : Nat → Int} {i : Nat} (hB : BS n k bs) (hi' : i < k) (c : Int) (h : FP P k bs g (cu col (bs i) c) (i + 1)) : FP P k bs g col i := by
  obtain ⟨h1, h2, h3⟩ := h
  refine ⟨h1, h2, fun j hj => ?_⟩
  have := h3 j (by omega)
  rw [cu_n _ _ _ _ (fun q => by have := hB.2.2 j i (by omega) hi' q; omega)] at this
  exact this
theorem AC_cg {P P' : dt_Ob} {a : Acc} (h : AC P g k bs a) (e4 : P' 4 = P 4) (e5 : P' 5 = P 5) (e7 : P' 7 = P 7) : AC P' g k bs a := by
  unfold AC
  rw [e4, e5, e7]
  exact h
theorem cl_search (hY : YD n W g) (hB : BS n k bs) : ∀ (d fuel i : Nat) (P T : dt_Ob) (col : Nat → Int) (a : Acc), i + d = k → d < fuel → FP P k bs g col i → PR n W g k bs col i → TW T n W g → AC P g k bs a → a.1 + 8 ^ d ≤ 1000000 → ∃ P' T', fX2_search fuel (jI i) P T = some (P', T') ∧ TW T' n W g ∧ AC P' g k bs (en n W g bs d i col a) ∧ FP P' k bs g col i := by
  have k6 := hB.1
  have hW := hY.1.2.2.1
  have hn := hY.1.1
  have hg : ∀ b, 1 ≤ g 0 b ∨ n ≤ b := fun b => by
    by_cases z : b < n
    · have r := hY.1.2.2.2.1 b z
      unfold okB at r
      left; omega
    · right; omega
  intro d
  induction d with
  | zero =>
    intro fuel i P T col a hd hf hP hR hT hA hb
    obtain ⟨f, rfl⟩ : ∃ f, fuel = f + 1 := ⟨fuel - 1, by omega⟩
    have e : i = k := by omega
    subst e
    have top : fX2_search (f + 1) (jI i) P T = ((fX2_count P T).bind fun q8 => (some (q8.1, q8.2))) := by
      rw [fX2_search]
      unfold fX2_search_b
      rw [hP.1, if_pos (by rw [jI_le _ _ (by omega) (by omega) (by omega) (by omega)]; omega)]
      rfl
    obtain ⟨P', T', a1, a2, a3, a4⟩ := cl_leaf hY hB ⟨hR.1, hR.2.1, hR.2.2.1, hR.2.2.2⟩ hP hT
    rw [top, a1, dt_b1]
    refine ⟨P', T', rfl, a2, ?_, ?_⟩
    · unfold en lf
      by_cases z : Good n W g col
      · rw [if_pos z]
        obtain ⟨b1, b2, b3, b4⟩ := a4 z
        have e7 : P 7 0 + 1 = jI ((a.1 + 1 : Nat) : Int) := by rw [hA.1, show (1 : Int32) = jI 1 from rfl, jI_add]; rfl
        have p0 : 8 ^ 0 = 1 := rfl
        have e1 : (P 7 0 + 1 = 1) = (((a.1 + 1 : Nat) : Int) = 1) := by rw [e7, show (1 : Int32) = jI 1 from rfl]; exact jI_eq _ _ (by omega) (by omega) (by omega) (by omega)
        refine ⟨by rw [b1, e7], fun _ j hj => ?_⟩
        dsimp only
        by_cases y : a.1 = 0
        · rw [if_pos y]
          exact b4 (by rw [e1]; omega) j hj
        · rw [if_neg y, (b3 (by rw [ne_eq, e1]; omega)).1, (b3 (by rw [ne_eq, e1]; omega)).2]
          exact hA.2 (by omega) j hj
      · rw [if_neg z, a3 z]; exact hA
    · by_cases z : Good n W g col
      · obtain ⟨b1, b2, b3, b4⟩ := a4 z
        refine ⟨by rw [b2 6 (by omega) (by omega) (by omega)]; exact hP.1, fun j hj => ?_, fun j hj => ?_⟩
        · rw [b2 0 (by omega) (by omega) (by omega), b2 3 (by omega) (by omega) (by omega)]; exact hP.2.1 j hj
        · rw [b2 1 (by omega) (by omega) (by omega), b2 2 (by omega) (by omega) (by omega)]; exact hP.2.2 j hj
      · rw [a3 z]; exact hP
  | succ d ih =>
    intro fuel i P T col a hd hf hP hR hT hA hb
    obtain ⟨f, rfl⟩ : ∃ f, fuel = f + 1 := ⟨fuel - 1, by omega⟩
    have ik : i < k := by omega
    have hbn := hB.2.1 i ik
    have pl := yplace hY (bs i) hbn
    have rb := hY.1.2.2.2.1 (bs i) hbn
    unfold okB at rb
    have ixi : dt_ix (jI i) 6 = some i := dt_ix_n _ _ (by omega) (by omega)
    have bi : dt_ix (jI (bs i)) 20 = some (bs i) := dt_ix_n _ _ (by omega) (by omega)
    have top : fX2_search (f + 1) (jI i) P T = fX2_search_22 (fX2_search f) dt_F (jI i) (jI ((0 : Nat) : Int)) P T := by
      rw [fX2_search]
      unfold fX2_search_b
      rw [hP.1, if_neg (by rw [jI_le _ _ (by omega) (by omega) (by omega) (by omega)]; omega), if_pos (by rw [show (6 : Int32) = jI 6 from rfl, jI_lt _ _ (by omega) (by omega) (by omega) (by omega)]; omega)]
      rfl
    rw [top]
    -- the columns
    have loop : ∀ (m fuel c : Nat) (P T : dt_Ob) (a : Acc), (c : Int) + m = W - g 0 (bs i) + 1 → m < fuel → FP P k bs g col i → TW T n W g → AC P g k bs a → a.1 + m * 8 ^ d ≤ 1000000 → ∃ P' T', fX2_search_22 (fX2_search f) fuel (jI i) (jI c) P T = some (P', T') ∧ TW T' n W g ∧ AC P' g k bs (fl (fun a c => if okc g (bs i) c then en n W g bs d (i + 1) (cu col (bs i) c) a else a) m c a) ∧ FP P' k bs g col i := by
      intro m
      induction m with
      | zero =>
        intro fuel c P T a hm hf hP hT hA hb
        obtain ⟨f', rfl⟩ : ∃ f', fuel = f' + 1 := ⟨fuel - 1, by omega⟩
        have t2 : T 2 (bs i) = jI (g 0 (bs i)) := hT.2.2.1 0 (by omega) _ hbn
        refine ⟨P, T, ?_, hT, hA, hP⟩
        rw [fX2_search_22, ixi, dt_b1, (hP.2.1 i ik).1, bi, dt_b1, hT.1, t2, jI_sub, if_pos (by rw [jI_lt _ _ (by omega) (by omega) (by omega) (by omega)]; omega)]
      | succ m ihm =>
        intro fuel c P T a hm hf hP hT hA hb
        obtain ⟨f', rfl⟩ : ∃ f', fuel = f' + 1 := ⟨fuel - 1, by omega⟩
        have t2 : T 2 (bs i) = jI (g 0 (bs i)) := hT.2.2.1 0 (by omega) _ hbn
        have n1 : jI c + (1 : Int32) = jI ((c + 1 : Nat) : Int) := by rw [show (1 : Int32) = jI 1 from rfl, jI_add]; rfl
        have ri : (P 3 i - (10 : Int32)) - jI c = jI (g 4 (bs i) - 10 - c) := by rw [(hP.2.1 i ik).2, show (10 : Int32) = jI 10 from rfl, jI_sub, jI_sub]
        have sm : (m + 1) * 8 ^ d = m * 8 ^ d + 8 ^ d := Nat.succ_mul _ _
        have hm1 : a.1 + m * 8 ^ d ≤ 1000000 := Nat.le_trans (Nat.add_le_add_left (Nat.mul_le_mul_right _ (Nat.le_succ m)) _) hb
        have nx : ∀ (P1 T1 : dt_Ob) (a1 : Acc), fX2_search_112 (fX2_search f) (fX2_search_22 (fX2_search f) f') (jI i) (jI c) P1 T1 = fX2_search_22 (fX2_search f) f' (jI i) (jI ((c + 1 : Nat) : Int)) P1 T1 := fun P1 T1 a1 => by unfold fX2_search_112; rw [n1]
        have h22 : fX2_search_22 (fX2_search f) (f' + 1) (jI i) (jI c) P T = (if jI (g 4 (bs i) - 10 - c) < 0 then (fX2_search_112 (fX2_search f) (fX2_search_22 (fX2_search f) f') (jI i) (jI c) P T) else (if (jI (g 4 (bs i) - 10 - c) - jI (g 4 (bs i) - 10 - c) / (2 : Int32) * (2 : Int32)) = 0 then (if jI k ≤ (jI (g 4 (bs i) - 10 - c) / (2 : Int32)) then (fX2_search_112 (fX2_search f) (fX2_search_22 (fX2_search f) f') (jI i) (jI c) P T) else ((fX2_isTaken (jI i) (dt_set (dt_set P 1 i (jI c)) 2 i (jI (g 4 (bs i) - 10 - c) / (2 : Int32))) T).bind fun q6 => (if q6 = 0 then ((fX2_search f (jI i + (1 : Int32)) (dt_set (dt_set P 1 i (jI c)) 2 i (jI (g 4 (bs i) - 10 - c) / (2 : Int32))) T).bind fun q7 => (fX2_search_112 (fX2_search f) (fX2_search_22 (fX2_search f) f') (jI i) (jI c) q7.1 q7.2)) else (fX2_search_112 (fX2_search f) (fX2_search_22 (fX2_search f) f') (jI i) (jI c) (dt_set (dt_set P 1 i (jI c)) 2 i (jI (g 4 (bs i) - 10 - c) / (2 : Int32))) T)))) else (fX2_search_112 (fX2_search f) (fX2_search_22 (fX2_search f) f') (jI i) (jI c) P T))) := by
          rw [fX2_search_22, ixi, dt_b1, (hP.2.1 i ik).1, bi, dt_b1, hT.1, t2, jI_sub, if_neg (by rw [jI_lt _ _ (by omega) (by omega) (by omega) (by omega)]; omega), dt_b1, dt_b1, dt_b1, ri, hP.1]
        rw [h22]
        unfold fl
        -- nothing here
        have skip : ∀ a1 : Acc, a1 = a → ∃ P' T', fX2_search_112 (fX2_search f) (fX2_search_22 (fX2_search f) f') (jI i) (jI c) P T = some (P', T') ∧ TW T' n W g ∧ AC P' g k bs (fl (fun a c => if okc g (bs i) c then en n W g bs d (i + 1) (cu col (bs i) c) a else a) m (c + 1) a1) ∧ FP P' k bs g col i := by
          rintro a1 rfl
          rw [nx P T a1]
          exact ihm f' (c + 1) P T a1 (by omega) (by omega) hP hT hA hm1
        have en_b := en_le (W := W) (n := n) hW hg hB d (i + 1) (cu col (bs i) c) a (by omega)
        by_cases y0 : g 4 (bs i) - 10 - c < 0
        · rw [if_pos (show jI (g 4 (bs i) - 10 - c) < 0 by rw [show (0 : Int32) = jI 0 from rfl, jI_lt _ _ (by omega) (by omega) (by omega) (by omega)]; exact y0)]
          exact skip _ (if_neg (fun q => by have := q.1; omega))
        · rw [if_neg (show ¬ jI (g 4 (bs i) - 10 - c) < 0 by rw [show (0 : Int32) = jI 0 from rfl, jI_lt _ _ (by omega) (by omega) (by omega) (by omega)]; exact y0)]
          have dv : jI (g 4 (bs i) - 10 - c) / (2 : Int32) = jI (lv g (bs i) c) := jI_div _ 2 (by omega) (by omega) (by omega) (by omega)
          have l0 : 0 ≤ lv g (bs i) c ∧ lv g (bs i) c ≤ 30 := by unfold lv; omega
          rw [dv]
          have ev : (jI (g 4 (bs i) - 10 - c) - jI (lv g (bs i) c) * (2 : Int32) = 0) = ((g 4 (bs i) - 10 - c) % 2 = 0) := by
            rw [show (2 : Int32) = jI 2 from rfl, show (0 : Int32) = jI 0 from rfl, jI_mul, jI_sub, jI_eq _ _ (by unfold lv; omega) (by unfold lv; omega) (by omega) (by omega)]
            apply propext
            unfold lv
            omega
          by_cases y1 : (g 4 (bs i) - 10 - c) % 2 = 0
          · rw [if_pos (show jI (g 4 (bs i) - 10 - c) - jI (lv g (bs i) c) * (2 : Int32) = 0 by rw [ev]; exact y1)]
            have ek : (jI k ≤ jI (lv g (bs i) c)) = ((k : Int) ≤ lv g (bs i) c) := jI_le _ _ (by omega) (by omega) (by omega) (by omega)
            by_cases y2 : (k : Int) ≤ lv g (bs i) c
            · rw [if_pos (show jI k ≤ jI (lv g (bs i) c) by rw [ek]; exact y2)]
              refine skip _ ?_
              split
              · exact no_high hY hB hR (by omega) c y2 a
              · rfl
            · rw [if_neg (show ¬ jI k ≤ jI (lv g (bs i) c) by rw [ek]; exact y2)]
              have hok : okc g (bs i) c := ⟨by omega, y1, by omega⟩
              have hP1 := FP_set hB hP ik c
              have hR1 := PR_add hY hB hR ik c (by omega) (by omega) (by omega)
              have tk := cl_taken hY hB hR1.1 i ik hP1 hT (fun j hj => hR1.2.1 j (by omega)) (fun j hj => by have := hR1.2.2.2 (bs j) (hR1.2.1 j (by omega)); omega) i dt_F 0 (by omega) (by unfold dt_F; omega)
              have hA1 : AC (dt_set (dt_set P 1 i (jI c)) 2 i (jI (lv g (bs i) c))) g k bs a := AC_cg hA (by rw [dt_set_n _ _ _ _ _ (by omega), dt_set_n _ _ _ _ _ (by omega)]) (by rw [dt_set_n _ _ _ _ _ (by omega), dt_set_n _ _ _ _ _ (by omega)]) (by rw [dt_set_n _ _ _ _ _ (by omega), dt_set_n _ _ _ _ _ (by omega)])
              have it : fX2_isTaken (jI i) (dt_set (dt_set P 1 i (jI c)) 2 i (jI (lv g (bs i) c))) T = fX2_isTaken_2 dt_F (jI i) (jI ((0 : Nat) : Int)) (dt_set (dt_set P 1 i (jI c)) 2 i (jI (lv g (bs i) c))) T := rfl
              rw [if_pos hok, it]
              by_cases y3 : ∃ j, 0 ≤ j ∧ j < i ∧ clash g bs (cu col (bs i) c) i j
              · rw [tk.1 y3, dt_b1, if_neg n10, nx _ T a]
                obtain ⟨j, _, j1, j2⟩ := y3
                rw [no_clash hY hB hR (by omega) c j j1 j2 a]
                exact ihm f' (c + 1) _ T a (by omega) (by omega) (FP_back hB ik _ hP1) hT hA1 hm1
              · rw [tk.2 (fun j h1 h2 h3 => y3 ⟨j, h1, h2, h3⟩), dt_b1, if_pos rfl]
                have i1 : jI i + (1 : Int32) = jI ((i + 1 : Nat) : Int) := by rw [show (1 : Int32) = jI 1 from rfl, jI_add]; rfl
                rw [i1]
                obtain ⟨P2, T2, b1, b2, b3, b4⟩ := ih f (i + 1) _ T _ a (by omega) (by omega) hP1 hR1 hT hA1 (by omega)
                rw [b1, dt_b1, nx _ _ a]
                exact ihm f' (c + 1) P2 T2 _ (by omega) (by omega) (FP_back hB ik _ b4) b2 b3 (by omega)
          · rw [if_neg (show ¬ jI (g 4 (bs i) - 10 - c) - jI (lv g (bs i) c) * (2 : Int32) = 0 by rw [ev]; exact y1)]
            exact skip _ (if_neg (fun q => y1 q.2.1))
    have m8 : (W - g 0 (bs i) + 1).toNat ≤ 8 := by omega
    have mm : (W - g 0 (bs i) + 1).toNat * 8 ^ d ≤ 8 * 8 ^ d := Nat.mul_le_mul_right _ m8
    rw [Nat.pow_succ] at hb
    exact loop (W - g 0 (bs i) + 1).toNat dt_F 0 P T a (by omega) (by unfold dt_F; omega) hP hT hA (by omega)
end
