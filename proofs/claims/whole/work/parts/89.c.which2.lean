/-! ===== which: both searches begun; the answer ===== -/
theorem cl_seek {n : Nat} {W : Int} {g : Nat → Nat → Int} (hn : n ≤ 20) (X k : Nat) (bs : Nat → Nat) (hX : X < 2147483648) (hk : k = cnt X n) (k6 : k ≤ 6) (hbs : ∀ b, b < n → X.testBit b = true → bs (cnt X b) = b) {T : dt_Ob} (hT : TW T n W g) (col : Nat → Int) : ∀ (d fuel x : Nat) (P : dt_Ob), x + d = n → d < fuel → P 6 0 = jI (cnt X x : Nat) → P 7 0 = 0 → (∀ i, i < cnt X x → P 0 i = jI (bs i) ∧ P 3 i = jI (g 4 (bs i))) → ∃ P', fX2_seek_12 fuel (jI X) (jI x) P T = ((fX2_search 24 (0 : Int32) P' T).bind fun q1 => (some (q1.1, q1.2))) ∧ FP P' k bs g col 0 ∧ P' 7 0 = 0 := by
  intro d
  induction d with
  | zero =>
    intro fuel x P hd hf h6 h7 hi'
    obtain ⟨f, rfl⟩ : ∃ f, fuel = f + 1 := ⟨fuel - 1, by omega⟩
    have ex : x = n := by omega
    subst ex
    refine ⟨P, ?_, ⟨by rw [h6, hk], fun i q => hi' i (by omega), fun i q => by omega⟩, h7⟩
    rw [fX2_seek_12, hT.2.1, if_pos (by rw [jI_le _ _ (by omega) (by omega) (by omega) (by omega)]; omega)]
  | succ d ih =>
    intro fuel x P hd hf h6 h7 hi'
    obtain ⟨f, rfl⟩ : ∃ f, fuel = f + 1 := ⟨fuel - 1, by omega⟩
    have hx : x < n := by omega
    have n1 : jI x + (1 : Int32) = jI ((x + 1 : Nat) : Int) := by rw [show (1 : Int32) = jI 1 from rfl, jI_add]; rfl
    have ixx : dt_ix (jI x) 20 = some x := dt_ix_n _ _ (by omega) (by omega)
    have ct := cnt_tb X x
    have cu1 := cnt_up X (n - (x + 1)) (x + 1)
    rw [show x + 1 + (n - (x + 1)) = n by omega, ← hk] at cu1
    have nle : ¬ jI n ≤ jI x := by rw [jI_le _ _ (by omega) (by omega) (by omega) (by omega)]; omega
    by_cases z : X.testBit x = true
    · rw [z, show true.toNat = 1 from rfl] at ct
      have ix6 : dt_ix (jI (cnt X x : Nat)) 6 = some (cnt X x) := dt_ix_n _ _ (by omega) (by omega)
      have t6 : T 6 x = jI (g 4 x) := hT.2.2.1 4 (by omega) x hx
      have bx := hbs x hx z
      have nz : ¬ (jI X &&& ((1 : Int32) <<< (jI x &&& 31)) = 0) := fun q => by
        rw [jN_tb X x hX (by omega)] at q
        rw [q] at z; cases z
      have hP1 : ∃ P1, P1 = dt_set (dt_set (dt_set P 0 (cnt X x) (jI x)) 3 (cnt X x) (jI (g 4 x))) 6 0 (jI (cnt X x : Nat) + (1 : Int32)) := ⟨_, rfl⟩
      obtain ⟨P1, eP1⟩ := hP1
      obtain ⟨P', a1, a2, a3⟩ := ih f (x + 1) P1 (by omega) (by omega) (by
        rw [eP1, dt_set_at, ct, show (1 : Int32) = jI 1 from rfl, jI_add]; rfl) (by
        rw [eP1, dt_set_n _ _ _ _ _ (by omega), dt_set_n _ _ _ _ _ (by omega), dt_set_n _ _ _ _ _ (by omega)]; exact h7) (fun i q => by
        rw [eP1, dt_set_n _ _ _ _ _ (show 0 ≠ 6 by omega), dt_set_n _ _ _ _ _ (show 3 ≠ 6 by omega), dt_set_n _ _ _ _ _ (show 0 ≠ 3 by omega), dt_set_s, dt_set_s, dt_set_n _ _ _ _ _ (show 3 ≠ 0 by omega)]
        by_cases e : i = cnt X x
        · subst e; rw [upd_s, upd_s, bx]; exact ⟨rfl, rfl⟩
        · rw [upd_n _ _ _ _ e, upd_n _ _ _ _ e]; exact hi' i (by omega))
      refine ⟨P', ?_, a2, a3⟩
      rw [fX2_seek_12, hT.2.1, if_neg nle, if_neg nz, h6, if_neg (by rw [show (6 : Int32) = jI 6 from rfl, jI_le _ _ (by omega) (by omega) (by omega) (by omega)]; omega), ix6, dt_b1, ixx, dt_b1, dt_b1, t6, ← eP1]
      unfold fX2_seek_72
      rw [n1]
      exact a1
    · have z' : X.testBit x = false := by simpa using z
      rw [z', show false.toNat = 0 from rfl, Nat.add_zero] at ct
      have nz : jI X &&& ((1 : Int32) <<< (jI x &&& 31)) = 0 := (jN_tb X x hX (by omega)).mpr z'
      obtain ⟨P', a1, a2, a3⟩ := ih f (x + 1) P (by omega) (by omega) (by rw [ct]; exact h6) h7 (fun i q => hi' i (by omega))
      refine ⟨P', ?_, a2, a3⟩
      rw [fX2_seek_12, hT.2.1, if_neg nle, if_pos nz]
      unfold fX2_seek_72
      rw [n1]
      exact a1
/-- the reference's answer, once searched -/
def moA (x1 x2 : Int32) (T : dt_Ob) : Option (Int32 × dt_Ob) := (fX10_triesTowers 24 x1 (0 : Int32) (dt_set T 37 0 (0 : Int32))).bind fun q5 => (if x2 = 0 then (some ((q5 37 0), q5)) else ((fX10_isIn x2 (10 : Int32) (29 : Int32)).bind fun q6 => (if (q5 37 0) = 0 then (some ((-1 : Int32), q5)) else (if q6 = 0 then ((fX10_isIn x2 (30 : Int32) (49 : Int32)).bind fun q7 => (if q7 = 0 then (some ((-1 : Int32), q5)) else (fX10_which_128 x1 x2 q6 q5))) else (fX10_which_128 x1 x2 q6 q5)))))
theorem mo_31 {n : Nat} {g : Nat → Nat → Int} (hn : n ≤ 20) (X : Nat) (hX : X < 2147483648) (x2 : Int32) (hg : ∀ b, b < n → -1 ≤ g 5 b ∧ g 5 b ≤ 8) : ∀ (d fuel x : Nat) (T : dt_Ob), x + d = n → d < fuel → T 0 1 = jI n → (∀ b, b < n → T 0 (20 + 8 * b + 5) = jI (g 5 b)) → (∀ b, b < x → T 7 b = -1) → ((∀ b, x ≤ b → b < n → X.testBit b = true → g 5 b < 0) → ∃ T', fX10_which_31 fuel (jI X) x2 (jI x) T = moA (jI X) x2 T' ∧ (∀ j, j ≠ 7 → T' j = T j) ∧ ∀ b, b < n → T' 7 b = -1) ∧ ((∃ b, x ≤ b ∧ b < n ∧ X.testBit b = true ∧ 0 ≤ g 5 b) → ∃ T', fX10_which_31 fuel (jI X) x2 (jI x) T = some (-1, T') ∧ (∀ j, j ≠ 7 → T' j = T j)) := by
  have x1 : dt_ix (1 : Int32) 1225 = some 1 := rfl
  intro d
  induction d with
  | zero =>
    intro fuel x T hd hf e1 e5 e7
    obtain ⟨f, rfl⟩ : ∃ f, fuel = f + 1 := ⟨fuel - 1, by omega⟩
    have ex : x = n := by omega
    subst ex
    refine ⟨fun _ => ⟨T, ?_, fun _ _ => rfl, e7⟩, fun ⟨b, h1, h2, _⟩ => by omega⟩
    rw [fX10_which_31, x1, dt_b1, e1, if_pos (by rw [jI_le _ _ (by omega) (by omega) (by omega) (by omega)]; omega)]
    rfl
  | succ d ih =>
    intro fuel x T hd hf e1 e5 e7
    obtain ⟨f, rfl⟩ : ∃ f, fuel = f + 1 := ⟨fuel - 1, by omega⟩
    have hx : x < n := by omega
    have gx := hg x hx
    have n1 : jI x + (1 : Int32) = jI ((x + 1 : Nat) : Int) := by rw [show (1 : Int32) = jI 1 from rfl, jI_add]; rfl
    have ixx : dt_ix (jI x) 20 = some x := dt_ix_n _ _ (by omega) (by omega)
    have o5 : fX10_own (jI x) (5 : Int32) T = some (jI (g 5 x)) := by
      have q := fX10_own_j T x 5 (by omega) (by omega) (by omega)
      rw [show (5 : Int32) = jI 5 from rfl, q]
      exact congrArg some (e5 x hx)
    have em : (jI (g 5 x) = (-1 : Int32)) = (g 5 x = -1) := by rw [show (-1 : Int32) = jI (-1) from rfl]; exact jI_eq _ _ (by omega) (by omega) (by omega) (by omega)
    have o1 : ∀ j, j ≠ 7 → (dt_set T 7 x (-1 : Int32)) j = T j := fun j hj => dt_set_n _ _ _ _ _ hj
    have ih' := ih f (x + 1) (dt_set T 7 x (-1)) (by omega) (by omega) (by rw [o1 0 (by omega)]; exact e1) (fun b hb => by rw [o1 0 (by omega)]; exact e5 b hb) (fun b hb => by
      rw [dt_set_s]
      by_cases q : b = x
      · subst q; exact upd_s _ _ _
      · rw [upd_n _ _ _ _ q]; exact e7 b (by omega))
    have top : fX10_which_31 (f + 1) (jI X) x2 (jI x) T = (if ((jI X >>> (jI x &&& 31)) &&& (1 : Int32)) = (1 : Int32) then (if jI (g 5 x) = (-1 : Int32) then fX10_which_31 f (jI X) x2 (jI ((x + 1 : Nat) : Int)) (dt_set T 7 x (-1)) else some (-1, T)) else fX10_which_31 f (jI X) x2 (jI ((x + 1 : Nat) : Int)) (dt_set T 7 x (-1))) := by
      rw [fX10_which_31]
      unfold fX10_which_62
      rw [x1, dt_b1, e1, if_neg (by rw [jI_le _ _ (by omega) (by omega) (by omega) (by omega)]; omega), o5, dt_b1, ixx, dt_b1, n1]
    rw [top, jN_bit X x hX (by omega)]
    have go : (X.testBit x = true → g 5 x < 0) → (((∀ b, x ≤ b → b < n → X.testBit b = true → g 5 b < 0) → ∃ T', fX10_which_31 f (jI X) x2 (jI ((x + 1 : Nat) : Int)) (dt_set T 7 x (-1)) = moA (jI X) x2 T' ∧ (∀ j, j ≠ 7 → T' j = T j) ∧ ∀ b, b < n → T' 7 b = -1) ∧ ((∃ b, x ≤ b ∧ b < n ∧ X.testBit b = true ∧ 0 ≤ g 5 b) → ∃ T', fX10_which_31 f (jI X) x2 (jI ((x + 1 : Nat) : Int)) (dt_set T 7 x (-1)) = some (-1, T') ∧ (∀ j, j ≠ 7 → T' j = T j))) := by
      intro hz
      refine ⟨fun q => ?_, fun ⟨b, q1, q2, q3, q4⟩ => ?_⟩
      · obtain ⟨T', a1, a2, a3⟩ := ih'.1 (fun b w1 w2 w3 => q b (by omega) w2 w3)
        exact ⟨T', a1, fun j hj => by rw [a2 j hj, o1 j hj], a3⟩
      · have ne : b ≠ x := by intro e; subst e; have := hz q3; omega
        obtain ⟨T', a1, a2⟩ := ih'.2 ⟨b, by omega, q2, q3, q4⟩
        exact ⟨T', a1, fun j hj => by rw [a2 j hj, o1 j hj]⟩
    by_cases z : X.testBit x = true
    · rw [if_pos ((bit_01 X x).2.mpr z)]
      by_cases y : g 5 x = -1
      · rw [if_pos (by rw [em]; exact y)]
        exact go (fun _ => by omega)
      · rw [if_neg (by rw [em]; exact y)]
        exact ⟨fun q => by have := q x (by omega) hx z; omega, fun _ => ⟨T, rfl, fun _ _ => rfl⟩⟩
    · rw [if_neg (fun q => z ((bit_01 X x).2.mp q))]
      exact go (fun q => absurd q z)
theorem s_which : St_which dt_I := by
  intro M x1 x2 h
  have h' := h
  obtain ⟨n, W, g, ⟨hT, hok, hRT, hD, hV, hC, hS⟩, hU, hI, hP, hF, hR⟩ := h
  have same : dt_I (dt_put M 18 (M 18)) := by rw [dt_put_self]; exact h'
  have od := hok.D
  have hn := od.1
  have hW := od.2.2.1
  -- what lasts
  have keep : ∀ (M1 : dt_M) (T' : dt_Ob), (∀ j, j ≠ 13 → j ≠ 15 → M1 j = M j) → (∀ j, j < 38 → j ≠ 7 → j ≠ 8 → j ≠ 9 → j ≠ 35 → j ≠ 36 → j ≠ 37 → T' j = M 18 j) → dt_I (dt_put M1 18 T') := by
    intro M1 T' e1 eT
    have n18 : ∀ j, j ≠ 18 → j ≠ 13 → j ≠ 15 → (dt_put M1 18 T') j = M j := fun j a b c => by rw [dt_put_ne _ _ _ _ a, e1 j b c]
    refine ⟨n, W, g, ?_, ?_, ?_, ?_, ?_, ?_⟩
    · rw [n18 1 (by omega) (by omega) (by omega), n18 2 (by omega) (by omega) (by omega), n18 3 (by omega) (by omega) (by omega), n18 4 (by omega) (by omega) (by omega), n18 5 (by omega) (by omega) (by omega), dt_put_s, eT 0 (by omega) (by omega) (by omega) (by omega) (by omega) (by omega) (by omega)]
      exact ⟨hT, hok, hRT, hD, hV, hC, hS⟩
    · rw [n18 11 (by omega) (by omega) (by omega), dt_put_s, eT 0 (by omega) (by omega) (by omega) (by omega) (by omega) (by omega) (by omega), eT 2 (by omega) (by omega) (by omega) (by omega) (by omega) (by omega) (by omega), eT 3 (by omega) (by omega) (by omega) (by omega) (by omega) (by omega) (by omega)]
      exact hU
    · rw [n18 0 (by omega) (by omega) (by omega), n18 6 (by omega) (by omega) (by omega), n18 7 (by omega) (by omega) (by omega), n18 8 (by omega) (by omega) (by omega), n18 9 (by omega) (by omega) (by omega), n18 10 (by omega) (by omega) (by omega), dt_put_s, eT 6 (by omega) (by omega) (by omega) (by omega) (by omega) (by omega) (by omega), eT 1 (by omega) (by omega) (by omega) (by omega) (by omega) (by omega) (by omega)]
      exact hI
    · rw [n18 0 (by omega) (by omega) (by omega), dt_put_s, eT 13 (by omega) (by omega) (by omega) (by omega) (by omega) (by omega) (by omega), eT 18 (by omega) (by omega) (by omega) (by omega) (by omega) (by omega) (by omega)]
      exact hP
    · rw [n18 12 (by omega) (by omega) (by omega), dt_put_s, eT 25 (by omega) (by omega) (by omega) (by omega) (by omega) (by omega) (by omega), eT 27 (by omega) (by omega) (by omega) (by omega) (by omega) (by omega) (by omega)]
      exact hF
    · rw [n18 0 (by omega) (by omega) (by omega), dt_put_s, eT 4 (by omega) (by omega) (by omega) (by omega) (by omega) (by omega) (by omega), eT 5 (by omega) (by omega) (by omega) (by omega) (by omega) (by omega) (by omega)]
      exact hR
  -- the set as a number
  have hX : ∃ X : Nat, X < 4294967296 ∧ x1 = jI X := ⟨x1.toBitVec.toNat, x1.toBitVec.isLt, jN_ext x1 _ x1.toBitVec.isLt rfl⟩
  obtain ⟨X, hX32, eX⟩ := hX
  subst eX
  have hys := ys_20 g n hn
  have hysl := ys_lt g n
  have hp2 : 2 ^ n ≤ 2 ^ 20 := Nat.pow_le_pow_right (by omega) hn
  have x1c : dt_ix (1 : Int32) 1225 = some 1 := rfl
  have e01 := hRT.2.1
  have yset := fX5_yardSet_j hT od
  have sub := sub_set X (ys g n) hX32 (by omega)
  have bc : ∃ q, fJ6_bitCount_0f7a4 (jI X) = some q := ⟨_, rfl⟩
  obtain ⟨qc, hqc⟩ := bc
  -- the range of the set, in the reference
  have isr : X < 2147483648 → fX10_isIn (jI X) (1 : Int32) (((1 : Int32) <<< (jI n &&& 31)) - (1 : Int32)) = some (if 1 ≤ X ∧ X < 2 ^ n then 1 else 0) := by
    intro hX
    rw [sh_1 n (by omega), show (1 : Int32) = jI 1 from rfl, jI_sub, fX10_isIn_j _ _ _ (by omega) (by omega) (by omega) (by omega) (by omega) (by omega)]
    by_cases z : 1 ≤ X ∧ X < 2 ^ n
    · rw [if_pos z, if_pos (by omega)]; rfl
    · rw [if_neg z, if_neg (by omega)]
  have mtop : fX10_which (jI X) x2 (M 18) = ((fX10_isIn (jI X) (1 : Int32) (((1 : Int32) <<< (jI n &&& 31)) - (1 : Int32))).bind fun q2 => (if q2 = 0 then (some ((-1 : Int32), M 18)) else ((fX10_count (jI X)).bind fun q3 => (if q3 ≤ (6 : Int32) then (fX10_which_31 dt_F (jI X) x2 (0 : Int32) (M 18)) else (some ((-1 : Int32), M 18)))))) := by
    unfold fX10_which
    rw [x1c, dt_b1, e01]
  have grng : ∀ b, b < n → -1 ≤ g 5 b ∧ g 5 b ≤ 8 := fun b hb => by
    have r := (od.2.2.2.1 b hb).1
    unfold okB at r
    omega
  have e05 : ∀ b, b < n → M 18 0 (20 + 8 * b + 5) = jI (g 5 b) := fun b hb => hRT.2.2 5 (by omega) b hb
  have c20 : X < 2 ^ n → cnt X 20 = cnt X n := fun q => by
    have := cnt_hi X n q (20 - n)
    rw [show n + (20 - n) = 20 by omega] at this
    exact this
  by_cases zs : ∀ b, X.testBit b = true → (ys g n).testBit b = true
  · -- all of it lies in the yard
    have Xle := sub_le X (ys g n) zs
    have Xn : X < 2 ^ n := by omega
    have X31 : X < 2147483648 := by omega
    have X20 : X < 1048576 := by omega
    by_cases X0 : X = 0
    · subst X0
      refine ⟨-1, M, M 18, ?_, ?_, same⟩
      · unfold fX9_which
        rw [if_pos (show jI ((0 : Nat) : Int) = (0 : Int32) from rfl)]
      · rw [mtop, isr X31, if_neg (by omega), dt_b1, if_pos rfl]
    · have xne : ¬ (jI X = (0 : Int32)) := by rw [show (0 : Int32) = jI 0 from rfl, jI_eq _ _ (by omega) (by omega) (by omega) (by omega)]; omega
      have bcj := bitCount_j X X20
      rw [c20 Xn] at bcj
      have mcj := fX10_count_j X X31
      rw [c20 Xn] at mcj
      have cle : cnt X n ≤ 20 := by
        have : ∀ m, cnt X m ≤ m := by
          intro m
          induction m with
          | zero => exact Nat.le_refl _
          | succ m ih => rw [cnt_tb]; have : (X.testBit m).toNat ≤ 1 := by cases X.testBit m <;> decide
                         omega
        have := this n
        omega
      have c6 : ((6 : Int32) < jI (cnt X n : Nat)) = (6 < (cnt X n : Int)) := by rw [show (6 : Int32) = jI 6 from rfl]; exact jI_lt _ _ (by omega) (by omega) (by omega) (by omega)
      have c6' : (jI (cnt X n : Nat) ≤ (6 : Int32)) = ((cnt X n : Int) ≤ 6) := by rw [show (6 : Int32) = jI 6 from rfl]; exact jI_le _ _ (by omega) (by omega) (by omega) (by omega)
      by_cases k6 : cnt X n ≤ 6
      · -- few enough
        have hb1 := (bsf_ok X n).1
        have hb2 := (bsf_ok X n).2
        have hBS : BS n (cnt X n) (bsf X n) := ⟨k6, fun i q => (hb2 i q).1, fun i j q1 q2 q3 => by rw [← (hb2 i q1).2.2, ← (hb2 j q2).2.2, q3]⟩
        have hYD := YD_Y od
        have inY : ∀ b, b < n → X.testBit b = true → g 5 b < 0 := fun b hb tb => by
          have := zs b tb
          rw [ys_tb] at this
          exact (of_decide_eq_true this).2
        -- the reference searches
        obtain ⟨T1, t1, t2, t3⟩ := (mo_31 hn X X31 x2 grng n dt_F 0 (M 18) (by omega) (by unfold dt_F; omega) e01 e05 (fun b q => by omega)).1 (fun b _ q2 q3 => inY b q2 q3)
        have t1' : fX10_which_31 dt_F (jI X) x2 (0 : Int32) (M 18) = moA (jI X) x2 T1 := t1
        have g0 : gL (gY n g) (fun _ => -1) = gY n g := gL_none _ _ (fun b => by omega)
        have hMT : MT (dt_set T1 37 0 (0 : Int32)) n W (gL (gY n g) (fun _ => -1)) := by
          rw [g0]
          refine ⟨?_, ?_, fun f hf b hb => ?_, fun b hb => ?_, fun b hb q => ?_⟩
          · rw [dt_set_n _ _ _ _ _ (by omega), t2 0 (by omega)]; exact hRT.1
          · rw [dt_set_n _ _ _ _ _ (by omega), t2 0 (by omega)]; exact hRT.2.1
          · rw [dt_set_n _ _ _ _ _ (by omega), t2 0 (by omega), gY_f _ _ _ _ hf]; exact hRT.2.2 f (by omega) b hb
          · rw [dt_set_n _ _ _ _ _ (by omega), t3 b hb, (gY_56 od b).1]; rfl
          · rw [(gY_56 od b).1] at q; omega
        have p6 : 8 ^ (cnt X n) ≤ 8 ^ 6 := Nat.pow_le_pow_right (by omega) k6
        have p6' : 8 ^ 6 = 262144 := by decide
        have c0 : cnt X 0 = 0 := rfl
        have hCO : CO n W (gY n g) (fun _ => -1) := fun b => ⟨Int.le_refl _, fun q => absurd (show (0 : Int) ≤ -1 from q) (by omega)⟩
        obtain ⟨T2, u1, u2, u3, u4⟩ := mo_tries hYD X (cnt X n) (bsf X n) X31 hBS rfl hb1 (M 18 0) (fun b hb tb => by
          rw [gY_y _ _ _ _ hb (inY b hb tb)]; exact hRT.2.2 4 (by omega) b hb) n 24 0 (dt_set T1 37 0 (0 : Int32)) (fun _ => -1) (0, fun _ => 0) (by omega) (by omega) hMT (by rw [dt_set_n _ _ _ _ _ (by omega), t2 0 (by omega)]) hCO (fun b _ => rfl) (fun b q => by omega) ⟨by rw [dt_set_at]; rfl, fun q => by simp at q⟩ (by rw [c0, Nat.sub_zero]; show 0 + 8 ^ (cnt X n) ≤ 1000000; omega)
        rw [c0, Nat.sub_zero] at u4
        have u1' : fX10_triesTowers 24 (jI X) (0 : Int32) (dt_set T1 37 0 (0 : Int32)) = some T2 := u1
        have mt2 : fX10_which (jI X) x2 (M 18) = (if x2 = 0 then (some ((T2 37 0), T2)) else ((fX10_isIn x2 (10 : Int32) (29 : Int32)).bind fun q6 => (if (T2 37 0) = 0 then (some ((-1 : Int32), T2)) else (if q6 = 0 then ((fX10_isIn x2 (30 : Int32) (49 : Int32)).bind fun q7 => (if q7 = 0 then (some ((-1 : Int32), T2)) else (fX10_which_128 (jI X) x2 q6 T2))) else (fX10_which_128 (jI X) x2 q6 T2))))) := by
          rw [mtop, isr X31, if_pos ⟨by omega, Xn⟩, dt_b1, if_neg n10, mcj, dt_b1, if_pos (by rw [c6']; omega), t1']
          unfold moA
          rw [u1', dt_b1]
        have kT2 : ∀ j, j < 38 → j ≠ 7 → j ≠ 8 → j ≠ 9 → j ≠ 35 → j ≠ 36 → j ≠ 37 → T2 j = M 18 j := fun j a b c d e f g => by rw [u2 j a b c d e f g, dt_set_n _ _ _ _ _ g, t2 j b]
        -- the class searches
        obtain ⟨Q1, r1, r2⟩ := TW_become hT hn (M 13)
        obtain ⟨Q2, r3, r4⟩ := cl_clear od n dt_F 0 Q1 (by omega) (by unfold dt_F; omega) r2.1 r2.2.1 (fun f hf b hb => by rw [if_neg (by omega)]; exact r2.2.2.1 f hf b hb)
        have r3' : fX5_clear Q1 = some Q2 := r3
        obtain ⟨P1, v1, v2, v3⟩ := cl_seek hn X (cnt X n) (bsf X n) X31 rfl k6 hb1 r4 (fun _ => -1) n dt_F 0 (dt_set (dt_set (M 15) 6 0 (0 : Int32)) 7 0 (0 : Int32)) (by omega) (by unfold dt_F; omega) (by rw [dt_set_n _ _ _ _ _ (by omega), dt_set_at]; rfl) (dt_set_at _ _ _ _) (fun i q => by rw [c0] at q; omega)
        obtain ⟨P2, Q3, w1, w2, w3, w4⟩ := cl_search hYD hBS (cnt X n) 24 0 P1 Q2 (fun _ => -1) (0, fun _ => 0) (by omega) (by omega) v2 ⟨hCO, fun j q => by omega, fun b q => absurd (show (0 : Int) ≤ -1 from q) (by omega), fun b q => absurd (show (0 : Int) ≤ -1 from q) (by omega)⟩ r4 ⟨v3, fun q => by simp at q⟩ (by show 0 + 8 ^ (cnt X n) ≤ 1000000; omega)
        have seek : fX2_seek (jI X) (M 15) Q2 = some (P2, Q3) := by
          unfold fX2_seek
          have v1' : fX2_seek_12 dt_F (jI X) (0 : Int32) (dt_set (dt_set (M 15) 6 0 (0 : Int32)) 7 0 (0 : Int32)) Q2 = ((fX2_search 24 (0 : Int32) P1 Q2).bind fun q1 => (some (q1.1, q1.2))) := v1
          have w1' : fX2_search 24 (0 : Int32) P1 Q2 = some (P2, Q3) := w1
          rw [v1', w1', dt_b1]
        -- the same count, the same first
        have hA : ∃ A : Acc, A = en n W (gY n g) (bsf X n) (cnt X n) 0 (fun _ => -1) (0, fun _ => 0) := ⟨_, rfl⟩
        obtain ⟨A, eA⟩ := hA
        rw [← eA] at w3 u4
        have ctop : fX9_which (jI X) x2 M = ((fX2_isAsked (jI X) x2).bind fun q3 => (if q3 = 0 then (some ((-1 : Int32), M)) else ((fX2_answer x2 P2 Q3).bind fun q7 => (some (q7, (dt_put (dt_put (dt_put (dt_put M 13 Q1) 13 Q2) 15 P2) 13 Q3)))))) := by
          unfold fX9_which
          rw [if_neg xne, bcj, dt_b1, if_neg (by rw [c6]; omega), yset, dt_b1, if_pos (sub.mpr zs), r1, dt_b1, r3', dt_b1, seek, dt_b1]
        have km : ∀ j, j ≠ 13 → j ≠ 15 → (dt_put (dt_put (dt_put (dt_put M 13 Q1) 13 Q2) 15 P2) 13 Q3) j = M j := fun j a b => by rw [dt_put_ne _ _ _ _ a, dt_put_ne _ _ _ _ b, dt_put_ne _ _ _ _ a, dt_put_ne _ _ _ _ a]
        have e18 : (dt_put (dt_put (dt_put (dt_put M 13 Q1) 13 Q2) 15 P2) 13 Q3) 18 = M 18 := km 18 (by omega) (by omega)
        -- what is asked
        have hv : ∃ v : Int, -2147483648 ≤ v ∧ v < 2147483648 ∧ x2 = jI v := ⟨x2.toInt, Int32.le_toInt x2, Int32.toInt_lt x2, (Int32.ofInt_toInt x2).symm⟩
        obtain ⟨v, hv0, hv1, ev⟩ := hv
        subst ev
        have ez : (jI v = (0 : Int32)) = (v = 0) := by rw [show (0 : Int32) = jI 0 from rfl]; exact jI_eq _ _ hv0 hv1 (by omega) (by omega)
        have sameN : P2 7 0 = T2 37 0 := by rw [w3.1, u4.1]
        by_cases z0 : v = 0
        · -- how many
          refine ⟨T2 37 0, _, T2, ?_, ?_, keep _ T2 km kT2⟩
          · rw [ctop]
            unfold fX2_isAsked fX2_isAsked_22 fX2_answer fX2_blockOf
            rw [z0]
            rw [show jI 0 = (0 : Int32) from rfl, if_pos (show (0 : Int32) < 10 by decide), dt_b1, if_pos rfl, dt_b1, if_neg n10, if_pos rfl, dt_b1, sameN]
          · rw [e18, mt2, if_pos (by rw [ez]; exact z0)]
        · have i1 : fX10_isIn (jI v) (10 : Int32) (29 : Int32) = some (if 10 ≤ v ∧ v ≤ 29 then 1 else 0) := fX10_isIn_j v 10 29 hv0 hv1 (by omega) (by omega) (by omega) (by omega)
          have i2 : fX10_isIn (jI v) (30 : Int32) (49 : Int32) = some (if 30 ≤ v ∧ v ≤ 49 then 1 else 0) := fX10_isIn_j v 30 49 hv0 hv1 (by omega) (by omega) (by omega) (by omega)
          have l10 : (jI v < (10 : Int32)) = (v < 10) := jI_lt v 10 hv0 hv1 (by omega) (by omega)
          have l50 : (jI v < (50 : Int32)) = (v < 50) := jI_lt v 50 hv0 hv1 (by omega) (by omega)
          have l30 : ((30 : Int32) ≤ jI v) = (30 ≤ v) := jI_le 30 v (by omega) (by omega) hv0 hv1
          have mt3 : fX10_which (jI X) (jI v) (M 18) = (if (T2 37 0) = 0 then (some ((-1 : Int32), T2)) else (if 10 ≤ v ∧ v ≤ 29 then fX10_which_128 (jI X) (jI v) 1 T2 else if 30 ≤ v ∧ v ≤ 49 then fX10_which_128 (jI X) (jI v) 0 T2 else some ((-1 : Int32), T2))) := by
            rw [mt2, if_neg (by rw [ez]; exact z0), i1, dt_b1, i2]
            by_cases y1 : 10 ≤ v ∧ v ≤ 29
            · rw [if_pos y1, if_neg n10, if_pos y1]
            · rw [if_neg y1, if_pos rfl, if_neg y1, dt_b1]
              by_cases y2 : 30 ≤ v ∧ v ≤ 49
              · rw [if_pos y2, if_neg n10, if_pos y2]
              · rw [if_neg y2, if_pos rfl, if_neg y2]
          by_cases y : 10 ≤ v ∧ v ≤ 49
          · -- a block's
            have hs : ∃ s : Nat, s < 20 ∧ fX2_blockOf (jI v) = some (jI s) ∧ (if 10 ≤ v ∧ v ≤ 29 then fX10_which_128 (jI X) (jI v) 1 T2 else if 30 ≤ v ∧ v ≤ 49 then fX10_which_128 (jI X) (jI v) 0 T2 else some ((-1 : Int32), T2)) = (if X.testBit s = true then (some ((if 30 ≤ v then T2 36 s else T2 35 s), T2)) else some (-1, T2)) := by
              have w143 : ∀ (s : Nat) (q : Int32), s < 20 → fX10_which_143 (jI X) q (jI s) T2 = (if X.testBit s = true then (if q = 0 then some (T2 36 s, T2) else some (T2 35 s, T2)) else some (-1, T2)) := by
                intro s q hs
                unfold fX10_which_143
                rw [jN_bit X s X31 (by omega), dt_ix_n s 20 hs (by omega)]
                by_cases tb : X.testBit s = true
                · rw [if_neg (by rw [(bit_01 X s).1, tb]; simp), if_pos tb]
                  rfl
                · rw [if_pos (by rw [(bit_01 X s).1]; simpa using tb), if_neg tb]
              by_cases y3 : v ≤ 29
              · refine ⟨(v - 10).toNat, by omega, ?_, ?_⟩
                · unfold fX2_blockOf
                  rw [if_neg (by rw [l10]; omega), if_pos (by rw [l50]; omega), if_neg (by rw [l30]; omega), show (10 : Int32) = jI 10 from rfl, jI_sub]
                  congr 2
                  omega
                · rw [if_pos ⟨by omega, y3⟩]
                  unfold fX10_which_128
                  rw [if_neg n10, show (10 : Int32) = jI 10 from rfl, jI_sub, show v - 10 = (((v - 10).toNat : Nat) : Int) by omega, w143 _ 1 (by omega), if_neg n10, Int.toNat_natCast, if_neg (show ¬ 30 ≤ v by omega)]
              · refine ⟨(v - 30).toNat, by omega, ?_, ?_⟩
                · unfold fX2_blockOf
                  rw [if_neg (by rw [l10]; omega), if_pos (by rw [l50]; omega), if_pos (by rw [l30]; omega), show (30 : Int32) = jI 30 from rfl, jI_sub]
                  congr 2
                  omega
                · rw [if_neg (by omega), if_pos ⟨by omega, by omega⟩]
                  unfold fX10_which_128
                  rw [if_pos rfl, show (30 : Int32) = jI 30 from rfl, jI_sub, show v - 30 = (((v - 30).toNat : Nat) : Int) by omega, w143 _ 0 (by omega), if_pos rfl, Int.toNat_natCast, if_pos (show 30 ≤ v by omega)]
            obtain ⟨s, s20, sb, sm⟩ := hs
            have sne : ¬ (jI s = (-1 : Int32)) := by rw [show (-1 : Int32) = jI (-1) from rfl, jI_eq _ _ (by omega) (by omega) (by omega) (by omega)]; omega
            have asked : fX2_isAsked (jI X) (jI v) = some (if X.testBit s = true then 1 else 0) := by
              unfold fX2_isAsked fX2_isAsked_22
              rw [sb, dt_b1, if_neg (by rw [ez]; exact z0), if_neg sne]
              by_cases tb : X.testBit s = true
              · rw [if_neg (fun q => by rw [jN_tb X s X31 (by omega), tb] at q; cases q), if_pos tb]
              · rw [if_pos ((jN_tb X s X31 (by omega)).mpr (by simpa using tb)), if_neg tb]
            by_cases tb : X.testBit s = true
            · have sn : s < n := by
                have := zs s tb
                rw [ys_tb] at this
                exact (of_decide_eq_true this).1
              have si := hb1 s sn tb
              have sk : cnt X s < cnt X n := by
                have a := cnt_up X (n - (s + 1)) (s + 1)
                rw [show s + 1 + (n - (s + 1)) = n by omega, cnt_tb, tb] at a
                have : true.toNat = 1 := rfl
                omega
              have ixs : dt_ix (jI s) 20 = some s := dt_ix_n _ _ s20 (by omega)
              by_cases zc : T2 37 0 = 0
              · refine ⟨-1, _, T2, ?_, ?_, keep _ T2 km kT2⟩
                · rw [ctop, asked, if_pos tb, dt_b1, if_neg n10]
                  unfold fX2_answer
                  rw [if_neg (by rw [ez]; exact z0), sb, dt_b1, if_pos (by rw [sameN]; exact zc), dt_b1]
                · rw [e18, mt3, if_pos zc]
              · have A0 : 0 < A.1 := by
                  by_cases q : A.1 = 0
                  · exact absurd (by rw [u4.1, q]; rfl) zc
                  · omega
                obtain ⟨d1, d2⟩ := u4.2 A0
                obtain ⟨f1, f2⟩ := w3.2 A0 (cnt X s) sk
                rw [si] at f1 f2
                have d3 := (d1 s sn).1
                have d4 := (d1 s sn).2 (d2 s sn tb)
                refine ⟨(if 30 ≤ v then T2 36 s else T2 35 s), _, T2, ?_, ?_, keep _ T2 km kT2⟩
                · rw [ctop, asked, if_pos tb, dt_b1, if_neg n10]
                  unfold fX2_answer
                  rw [if_neg (by rw [ez]; exact z0), sb, dt_b1, if_neg (by rw [sameN]; exact zc), if_neg sne, ixs]
                  by_cases y3 : 30 ≤ v
                  · rw [if_pos (by rw [l30]; exact y3), dt_b1, dt_b1, if_pos y3, f2, d4]
                  · rw [if_neg (by rw [l30]; exact y3), dt_b1, dt_b1, if_neg y3, f1, d3]
                · rw [e18, mt3, if_neg zc, sm, if_pos tb]
            · refine ⟨-1, M, T2, ?_, ?_, keep M T2 (fun _ _ _ => rfl) kT2⟩
              · rw [ctop, asked, if_neg tb, dt_b1, if_pos rfl]
              · rw [mt3, sm, if_neg tb]
                split <;> rfl
          · -- nothing
            have sb : fX2_blockOf (jI v) = some (-1) := by
              unfold fX2_blockOf
              by_cases q : v < 10
              · rw [if_pos (by rw [l10]; exact q)]
              · rw [if_neg (by rw [l10]; exact q), if_neg (by rw [l50]; omega)]
            refine ⟨-1, M, T2, ?_, ?_, keep M T2 (fun _ _ _ => rfl) kT2⟩
            · rw [ctop]
              unfold fX2_isAsked
              rw [sb, dt_b1, if_neg (by rw [ez]; exact z0), if_pos rfl, dt_b1, if_pos rfl]
            · rw [mt3, if_neg (show ¬ (10 ≤ v ∧ v ≤ 29) by omega), if_neg (show ¬ (30 ≤ v ∧ v ≤ 49) by omega)]
              split <;> rfl
      · -- too many
        refine ⟨-1, M, M 18, ?_, ?_, same⟩
        · unfold fX9_which
          rw [if_neg xne, bcj, dt_b1, if_pos (by rw [c6]; omega)]
        · rw [mtop, isr X31, if_pos ⟨by omega, Xn⟩, dt_b1, if_neg n10, mcj, dt_b1, if_neg (by rw [c6']; omega)]
  · -- not all of it lies in the yard
    have cans : fX9_which (jI X) x2 M = some (-1, M) := by
      unfold fX9_which
      rw [hqc, dt_b1, yset, dt_b1, if_neg (fun q => zs (sub.mp q))]
      split
      · rfl
      · split <;> rfl
    have man : ∃ T', fX10_which (jI X) x2 (M 18) = some (-1, T') ∧ ∀ j, j ≠ 7 → T' j = M 18 j := by
      by_cases X31 : X < 2147483648
      · by_cases Xn : 1 ≤ X ∧ X < 2 ^ n
        · rw [mtop, isr X31, if_pos Xn, dt_b1, if_neg n10, fX10_count_j X X31, dt_b1]
          split
          · have ex : ∃ b, 0 ≤ b ∧ b < n ∧ X.testBit b = true ∧ 0 ≤ g 5 b := by
              apply Classical.byContradiction
              intro w
              refine zs (fun b tb => ?_)
              have bn : b < n := by
                by_cases z : b < n
                · exact z
                · have := Nat.testBit_lt_two_pow (x := X) (i := b) (Nat.lt_of_lt_of_le Xn.2 (Nat.pow_le_pow_right (by omega) (by omega)))
                  rw [this] at tb
                  cases tb
              rw [ys_tb]
              refine decide_eq_true ⟨bn, ?_⟩
              by_cases z : g 5 b < 0
              · exact z
              · exact absurd ⟨b, by omega, bn, tb, by omega⟩ w
            exact (mo_31 hn X X31 x2 grng n dt_F 0 (M 18) (by omega) (by unfold dt_F; omega) e01 e05 (fun b q => by omega)).2 ex
          · exact ⟨M 18, rfl, fun _ _ => rfl⟩
        · rw [mtop, isr X31, if_neg Xn, dt_b1, if_pos rfl]
          exact ⟨M 18, rfl, fun _ _ => rfl⟩
      · -- negative
        have eneg : jI X = jI ((X : Int) - 4294967296) := by
          apply Int32.toInt_inj.mp
          rw [jI_toInt ((X : Int) - 4294967296) (by omega) (by omega)]
          show (Int32.ofInt (X : Int)).toInt = _
          rw [Int32.toInt_ofInt]
          unfold Int.bmod
          show (if (X : Int) % 4294967296 < (4294967296 + 1) / 2 then (X : Int) % 4294967296 else (X : Int) % 4294967296 - 4294967296) = _
          rw [if_neg (by omega)]
          omega
        have isn : fX10_isIn (jI X) (1 : Int32) (((1 : Int32) <<< (jI n &&& 31)) - (1 : Int32)) = some 0 := by
          rw [sh_1 n (by omega), show (1 : Int32) = jI 1 from rfl, jI_sub, eneg, fX10_isIn_j _ _ _ (by omega) (by omega) (by omega) (by omega) (by omega) (by omega), if_neg (by omega)]
        rw [mtop, isn, dt_b1, if_pos rfl]
        exact ⟨M 18, rfl, fun _ _ => rfl⟩
    obtain ⟨T', m1, m2⟩ := man
    exact ⟨-1, M, T', cans, m1, keep M T' (fun _ _ _ => rfl) (fun j _ h7 _ _ _ _ _ => m2 j h7)⟩
