/-! ===== which: the reference's search ===== -/
theorem cnt_tb (X i : Nat) : cnt X (i + 1) = cnt X i + (X.testBit i).toNat := by
  show cnt X i + X / 2 ^ i % 2 = _
  rw [Nat.testBit_eq_decide_div_mod_eq]
  by_cases z : X / 2 ^ i % 2 = 1
  · rw [decide_eq_true z, z]; rfl
  · rw [decide_eq_false z, show X / 2 ^ i % 2 = 0 by omega]; rfl
theorem cnt_up (X : Nat) : ∀ (d i : Nat), cnt X i ≤ cnt X (i + d) := by
  intro d
  induction d with
  | zero => intro i; exact Nat.le_refl _
  | succ d ih =>
    intro i
    have := ih i
    rw [← Nat.add_assoc, cnt_tb]
    omega
/-- the blocks of a set, in order -/
def bsf (X : Nat) : Nat → Nat → Nat
  | 0 => fun _ => 0
  | m + 1 => if X.testBit m then (fun i => if i = cnt X m then m else bsf X m i) else bsf X m
theorem bsf_ok (X : Nat) : ∀ m, (∀ b, b < m → X.testBit b = true → bsf X m (cnt X b) = b) ∧ (∀ i, i < cnt X m → bsf X m i < m ∧ X.testBit (bsf X m i) = true ∧ cnt X (bsf X m i) = i) := by
  intro m
  induction m with
  | zero => exact ⟨fun b hb => by omega, fun i hi' => by unfold cnt at hi'; omega⟩
  | succ m ih =>
    obtain ⟨h1, h2⟩ := ih
    by_cases z : X.testBit m = true
    · have e : bsf X (m + 1) = fun i => if i = cnt X m then m else bsf X m i := by
        show (if X.testBit m then (fun i => if i = cnt X m then m else bsf X m i) else bsf X m) = _
        rw [if_pos z]
      have c : cnt X (m + 1) = cnt X m + 1 := by rw [cnt_tb, z]; rfl
      rw [e, c]
      refine ⟨fun b hb tb => ?_, fun i hi' => ?_⟩
      · dsimp only
        by_cases y : b = m
        · subst y; rw [if_pos rfl]
        · have q := h2 (cnt X b)
          have lt : cnt X b < cnt X m := by
            have a := cnt_up X (m - (b + 1)) (b + 1)
            rw [show b + 1 + (m - (b + 1)) = m by omega, cnt_tb, tb] at a
            have : true.toNat = 1 := rfl
            omega
          rw [if_neg (by omega)]
          exact h1 b (by omega) tb
      · dsimp only
        by_cases y : i = cnt X m
        · rw [if_pos y]; exact ⟨by omega, z, y.symm⟩
        · rw [if_neg y]
          obtain ⟨q1, q2, q3⟩ := h2 i (by omega)
          exact ⟨by omega, q2, q3⟩
    · have e : bsf X (m + 1) = bsf X m := by
        show (if X.testBit m then (fun i => if i = cnt X m then m else bsf X m i) else bsf X m) = _
        rw [if_neg z]
      have c : cnt X (m + 1) = cnt X m := by
        rw [cnt_tb, show X.testBit m = false by simpa using z]; rfl
      rw [e, c]
      refine ⟨fun b hb tb => ?_, fun i hi' => ?_⟩
      · by_cases y : b = m
        · subst y; exact absurd tb z
        · exact h1 b (by omega) tb
      · obtain ⟨q1, q2, q3⟩ := h2 i hi'
        exact ⟨by omega, q2, q3⟩
theorem gL_cu (g : Nat → Nat → Int) (col : Nat → Int) (b : Nat) (c : Int) (hb : col b < 0) (hc : 0 ≤ c) : gP (gL g col) b (-1) c (lv g b c) = gL g (cu col b c) := by
  funext f x
  by_cases z : x = b
  · subst z
    have e := cu_s col x c
    unfold gP
    rw [if_pos rfl]
    by_cases f4 : f = 4
    · subst f4; rw [if_pos rfl, gL_4 _ _ _ (by rw [e]; exact hc)]
    · rw [if_neg f4]
      by_cases f5 : f = 5
      · subst f5; rw [if_pos rfl, gL_5 _ _ _ (by rw [e]; exact hc), e]
      · rw [if_neg f5]
        by_cases f6 : f = 6
        · subst f6; rw [if_pos rfl, gL_6 _ _ _ (by rw [e]; exact hc), e]
        · rw [if_neg f6, gL_y _ _ _ _ hb]
          unfold gL
          rw [if_neg f4, if_neg f5, if_neg f6]
          split <;> rfl
  · rw [gP_n _ _ _ _ _ _ _ z]
    unfold gL
    rw [cu_n _ _ _ _ z]
section
variable {n : Nat} {W : Int} {g : Nat → Nat → Int}
theorem MT_un {T : dt_Ob} {col : Nat → Int} (hY : YD n W g) {b : Nat} {c : Int} (hb : col b < 0) (h : MT T n W (gL g (cu col b c))) : MT (dt_set T 7 b (-1)) n W (gL g col) := by
  obtain ⟨h1, h2, h3, h4, h5⟩ := h
  refine ⟨?_, ?_, fun f hf x hx => ?_, fun x hx => ?_, fun x hx q => ?_⟩
  · rw [dt_set_n _ _ _ _ _ (by omega)]; exact h1
  · rw [dt_set_n _ _ _ _ _ (by omega)]; exact h2
  · rw [dt_set_n _ _ _ _ _ (by omega), h3 f hf x hx, gL_f _ _ _ _ hf, gL_f _ _ _ _ hf]
  · rw [dt_set_s]
    by_cases z : x = b
    · subst z; rw [upd_s, gL_y _ _ _ _ hb, (hY.2 x).1]; rfl
    · rw [upd_n _ _ _ _ z, h4 x hx]
      congr 1
      unfold gL
      rw [cu_n _ _ _ _ z]
  · have z : x ≠ b := by
      intro e
      subst e
      rw [gL_y _ _ _ _ hb, (hY.2 x).1] at q
      omega
    have e : ∀ f, gL g (cu col b c) f x = gL g col f x := fun f => by unfold gL; rw [cu_n _ _ _ _ z]
    rw [dt_set_n _ _ _ _ _ (by omega), h5 x hx (by rw [e]; exact q), e]
def AM (T : dt_Ob) (n : Nat) (g : Nat → Nat → Int) (X : Nat) (a : Acc) : Prop := T 37 0 = jI a.1 ∧ (0 < a.1 → (∀ b, b < n → T 35 b = jI (a.2 b) ∧ (0 ≤ a.2 b → T 36 b = jI (lv g b (a.2 b)))) ∧ ∀ b, b < n → X.testBit b = true → 0 ≤ a.2 b)
theorem AM_cg {T T' : dt_Ob} {X : Nat} {a : Acc} (h : AM T n g X a) (e35 : T' 35 = T 35) (e36 : T' 36 = T 36) (e37 : T' 37 = T 37) : AM T' n g X a := by
  unfold AM
  rw [e35, e36, e37]
  exact h
theorem mo_20 (rc : Int32 → Int32 → dt_Ob → Option dt_Ob) (hn : n ≤ 20) : ∀ (d fuel y : Nat) (T : dt_Ob), y + d = n → d < fuel → ∃ T', fX10_triesTowers_20 rc fuel (jI n) (jI y) T = some T' ∧ (∀ j, j ≠ 35 → j ≠ 36 → j ≠ 37 → T' j = T j) ∧ T' 37 0 = T 37 0 + 1 ∧ (T 37 0 ≠ 0 → T' 35 = T 35 ∧ T' 36 = T 36) ∧ (T 37 0 = 0 → (∀ b, y ≤ b → b < n → T' 35 b = T 7 b ∧ T' 36 b = T 8 b) ∧ (∀ b, b < y → T' 35 b = T 35 b ∧ T' 36 b = T 36 b)) := by
  intro d
  induction d with
  | zero =>
    intro fuel y T hd hf
    obtain ⟨f, rfl⟩ : ∃ f, fuel = f + 1 := ⟨fuel - 1, by omega⟩
    refine ⟨dt_set T 37 0 (T 37 0 + 1), ?_, fun j _ _ h37 => dt_set_n _ _ _ _ _ h37, dt_set_at _ _ _ _, fun _ => ⟨dt_set_n _ _ _ _ _ (by omega), dt_set_n _ _ _ _ _ (by omega)⟩, fun _ => ⟨fun b h1 h2 => by omega, fun b _ => ⟨by rw [dt_set_n _ _ _ _ _ (by omega)], by rw [dt_set_n _ _ _ _ _ (by omega)]⟩⟩⟩
    rw [fX10_triesTowers_20, if_pos (by rw [jI_le _ _ (by omega) (by omega) (by omega) (by omega)]; omega)]
    rfl
  | succ d ih =>
    intro fuel y T hd hf
    obtain ⟨f, rfl⟩ : ∃ f, fuel = f + 1 := ⟨fuel - 1, by omega⟩
    have n1 : jI y + (1 : Int32) = jI ((y + 1 : Nat) : Int) := by rw [show (1 : Int32) = jI 1 from rfl, jI_add]; rfl
    have ixy : dt_ix (jI y) 20 = some y := dt_ix_n _ _ (by omega) (by omega)
    by_cases z : T 37 0 = 0
    · have hT1 : ∃ T1, T1 = dt_set (dt_set T 35 y (T 7 y)) 36 y (T 8 y) := ⟨_, rfl⟩
      obtain ⟨T1, eT1⟩ := hT1
      have o1 : ∀ j, j ≠ 35 → j ≠ 36 → T1 j = T j := fun j h5 h6 => by rw [eT1, dt_set_n _ _ _ _ _ h6, dt_set_n _ _ _ _ _ h5]
      have o35 : T1 35 = upd (T 35) y (T 7 y) := by rw [eT1, dt_set_n _ _ _ _ _ (by omega), dt_set_s]
      have o36 : T1 36 = upd (T 36) y (T 8 y) := by rw [eT1, dt_set_s, dt_set_n _ _ _ _ _ (by omega)]
      obtain ⟨T', a1, a2, a3, a4, a5⟩ := ih f (y + 1) T1 (by omega) (by omega)
      obtain ⟨b1, b2⟩ := a5 (by rw [o1 37 (by omega) (by omega)]; exact z)
      refine ⟨T', ?_, fun j h5 h6 h7 => by rw [a2 j h5 h6 h7, o1 j h5 h6], by rw [a3, o1 37 (by omega) (by omega)], fun q => absurd z q, fun _ => ⟨fun b h1 h2 => ?_, fun b hb => ?_⟩⟩
      · rw [fX10_triesTowers_20, if_neg (by rw [jI_le _ _ (by omega) (by omega) (by omega) (by omega)]; omega), if_pos z, ixy, dt_b1, dt_b1, dt_b1, dt_b1, n1, ← eT1]
        exact a1
      · by_cases e : b = y
        · subst e
          rw [(b2 b (by omega)).1, (b2 b (by omega)).2, o35, o36, upd_s, upd_s]
          exact ⟨rfl, rfl⟩
        · have q := b1 b (by omega) h2
          rw [o1 7 (by omega) (by omega), o1 8 (by omega) (by omega)] at q
          exact q
      · rw [(b2 b (by omega)).1, (b2 b (by omega)).2, o35, o36, upd_n _ _ _ _ (by omega), upd_n _ _ _ _ (by omega)]
        exact ⟨rfl, rfl⟩
    · refine ⟨dt_set T 37 0 (T 37 0 + 1), ?_, fun j _ _ h37 => dt_set_n _ _ _ _ _ h37, dt_set_at _ _ _ _, fun _ => ⟨dt_set_n _ _ _ _ _ (by omega), dt_set_n _ _ _ _ _ (by omega)⟩, fun q => absurd q z⟩
      rw [fX10_triesTowers_20, if_neg (by rw [jI_le _ _ (by omega) (by omega) (by omega) (by omega)]; omega), if_neg z]
      rfl
/-- fields that the search leaves alone -/
def SQ (T T' : dt_Ob) : Prop := ∀ j, j < 38 → j ≠ 7 → j ≠ 8 → j ≠ 9 → j ≠ 35 → j ≠ 36 → j ≠ 37 → T' j = T j
theorem mo_tries (hY : YD n W g) (X k : Nat) (bs : Nat → Nat) (hX : X < 2147483648) (hB : BS n k bs) (hk : k = cnt X n) (hbs : ∀ b, b < n → X.testBit b = true → bs (cnt X b) = b) (w : Nat → Int32) (hw : ∀ b, b < n → X.testBit b = true → w (20 + 8 * b + 4) = jI (g 4 b)) : ∀ (e fuel x : Nat) (T : dt_Ob) (col : Nat → Int) (a : Acc), x + e = n → e < fuel → MT T n W (gL g col) → T 0 = w → CO n W g col → (∀ b, x ≤ b → col b = -1) → (∀ b, b < x → X.testBit b = true → 0 ≤ col b) → AM T n g X a → a.1 + 8 ^ (k - cnt X x) ≤ 1000000 → ∃ T', fX10_triesTowers fuel (jI X) (jI x) T = some T' ∧ SQ T T' ∧ MT T' n W (gL g col) ∧ AM T' n g X (en n W g bs (k - cnt X x) (cnt X x) col a) := by
  have hW := hY.1.2.2.1
  have hn := hY.1.1
  have k6 := hB.1
  have x1 : dt_ix (1 : Int32) 1225 = some 1 := rfl
  have x0 : dt_ix (0 : Int32) 1225 = some 0 := rfl
  have hg : ∀ b, 1 ≤ g 0 b ∨ n ≤ b := fun b => by
    by_cases z : b < n
    · have r := hY.1.2.2.2.1 b z
      unfold okB at r
      left; omega
    · right; omega
  intro e
  induction e with
  | zero =>
    intro fuel x T col a he hf hM h0 hC hhi hlo hA hb
    obtain ⟨f, rfl⟩ : ∃ f, fuel = f + 1 := ⟨fuel - 1, by omega⟩
    have ex : x = n := by omega
    subst ex
    obtain ⟨T1, a1, a2, a3⟩ := mo_leaf hY hC hM
    have top : fX10_triesTowers (f + 1) (jI X) (jI x) T = ((fX10_isTower T).bind fun q3 => (if q3.1 = 0 then (some q3.2) else (fX10_triesTowers_20 (fX10_triesTowers f) dt_F (jI x) (0 : Int32) q3.2))) := by
      rw [fX10_triesTowers]
      unfold fX10_triesTowers_b
      rw [x1, dt_b1, hM.2.1, if_pos rfl]
    rw [top, show k - cnt X x = 0 by omega]
    unfold en lf
    have c7 := a1 7 (by omega) (by omega)
    have c8 := a1 8 (by omega) (by omega)
    have c35 := a1 35 (by omega) (by omega)
    have c36 := a1 36 (by omega) (by omega)
    have c37 := a1 37 (by omega) (by omega)
    by_cases z : Good x W g col
    · rw [a2 z, dt_b1, if_neg n10, if_pos z]
      obtain ⟨T2, b1, b2, b3, b4, b5⟩ := mo_20 (fX10_triesTowers f) hn x dt_F 0 T1 (by omega) (by unfold dt_F; omega)
      have b1' : fX10_triesTowers_20 (fX10_triesTowers f) dt_F (jI x) (0 : Int32) T1 = some T2 := b1
      have ha : a.1 ≤ 1000000 := Nat.le_trans (Nat.le_add_right _ _) hb
      have e0 : (T1 37 0 = 0) = ((a.1 : Int) = 0) := by rw [c37, hA.1, show (0 : Int32) = jI 0 from rfl]; exact jI_eq _ _ (by omega) (by omega) (by omega) (by omega)
      refine ⟨T2, b1', fun j h38 h7 h8 h9 h35 h36 h37 => by rw [b2 j h35 h36 h37, a1 j h38 h9], MT_congr hM (by rw [b2 0 (by omega) (by omega) (by omega), a1 0 (by omega) (by omega)]) (by rw [b2 7 (by omega) (by omega) (by omega), c7]) (by rw [b2 8 (by omega) (by omega) (by omega), c8]), ?_, fun _ => ?_⟩
      · rw [b3, c37, hA.1, show (1 : Int32) = jI 1 from rfl, jI_add]; rfl
      · dsimp only
        by_cases y : a.1 = 0
        · rw [if_pos y]
          obtain ⟨d1, d2⟩ := b5 (by rw [e0]; omega)
          refine ⟨fun b hbb => ?_, fun b hbb tb => hlo b hbb tb⟩
          obtain ⟨q1, q2⟩ := d1 b (by omega) hbb
          rw [q1, q2, c7, c8, hM.2.2.2.1 b hbb]
          by_cases y2 : 0 ≤ col b
          · rw [gL_5 _ _ _ y2]
            refine ⟨rfl, fun _ => ?_⟩
            rw [hM.2.2.2.2 b hbb (by rw [gL_5 _ _ _ y2]; exact y2), gL_6 _ _ _ y2]
          · rw [gL_y _ _ _ _ (by omega), (hY.2 b).1]
            have := (hC b).1
            exact ⟨by rw [show col b = -1 by omega], fun q => absurd q y2⟩
        · rw [if_neg y]
          obtain ⟨d1, d2⟩ := b4 (by rw [ne_eq, e0]; omega)
          rw [d1, d2, c35, c36]
          exact hA.2 (by omega)
    · rw [a3 z, dt_b1, if_pos rfl, if_neg z]
      exact ⟨T1, rfl, fun j h38 _ _ h9 _ _ _ => a1 j h38 h9, MT_congr hM (a1 0 (by omega) (by omega)) c7 c8, AM_cg hA c35 c36 c37⟩
  | succ e ih =>
    intro fuel x T col a he hf hM h0 hC hhi hlo hA hb
    obtain ⟨f, rfl⟩ : ∃ f, fuel = f + 1 := ⟨fuel - 1, by omega⟩
    have hx : x < n := by omega
    have ixx : dt_ix (jI x) 20 = some x := dt_ix_n _ _ (by omega) (by omega)
    have nx : jI x + (1 : Int32) = jI ((x + 1 : Nat) : Int) := by rw [show (1 : Int32) = jI 1 from rfl, jI_add]; rfl
    have top : fX10_triesTowers (f + 1) (jI X) (jI x) T = (if ((jI X >>> (jI x &&& 31)) &&& (1 : Int32)) = 0 then ((fX10_triesTowers f (jI X) (jI ((x + 1 : Nat) : Int)) T).bind fun q2 => (some q2)) else (fX10_triesTowers_92 (fX10_triesTowers f) dt_F (jI X) (jI x) (jI ((0 : Nat) : Int)) T)) := by
      rw [fX10_triesTowers]
      unfold fX10_triesTowers_b
      rw [x1, dt_b1, hM.2.1, if_neg (by rw [jI_eq _ _ (by omega) (by omega) (by omega) (by omega)]; omega), nx]
      rfl
    rw [top, jN_bit X x hX (by omega)]
    have ct := cnt_tb X x
    have cu1 := cnt_up X (n - (x + 1)) (x + 1)
    rw [show x + 1 + (n - (x + 1)) = n by omega, ← hk] at cu1
    by_cases z : X.testBit x = true
    · rw [if_neg (by rw [(bit_01 X x).1, z]; simp)]
      rw [z, show true.toNat = 1 from rfl] at ct
      have bx := hbs x hx z
      have dk : k - cnt X x = (k - cnt X (x + 1)) + 1 := by omega
      rw [dk] at hb ⊢
      have ci : cnt X (x + 1) = cnt X x + 1 := ct
      have rb := hY.1.2.2.2.1 x hx
      have pl := yplace hY x hx
      unfold okB at rb
      show ∃ T', _ ∧ _ ∧ _ ∧ AM T' n g X (fl (fun a c => if okc g (bs (cnt X x)) c then en n W g bs (k - cnt X (x + 1)) (cnt X x + 1) (cu col (bs (cnt X x)) c) a else a) (W - g 0 (bs (cnt X x)) + 1).toNat 0 a)
      rw [bx, ← ci]
      have loop : ∀ (m fuel c : Nat) (T : dt_Ob) (a : Acc), (c : Int) + m = W - g 0 x + 1 → m < fuel → MT T n W (gL g col) → T 0 = w → AM T n g X a → a.1 + m * 8 ^ (k - cnt X (x + 1)) ≤ 1000000 → ∃ T', fX10_triesTowers_92 (fX10_triesTowers f) fuel (jI X) (jI x) (jI c) T = some T' ∧ SQ T T' ∧ MT T' n W (gL g col) ∧ AM T' n g X (fl (fun a c => if okc g x c then en n W g bs (k - cnt X (x + 1)) (cnt X (x + 1)) (cu col x c) a else a) m c a) := by
        intro m
        induction m with
        | zero =>
          intro fuel c T a hm hf hM h0 hA hb
          obtain ⟨f', rfl⟩ : ∃ f', fuel = f' + 1 := ⟨fuel - 1, by omega⟩
          have o0 : fX10_own (jI x) (0 : Int32) T = some (jI (gL g col 0 x)) := own_0 hM hn x hx
          refine ⟨T, ?_, fun _ _ _ _ _ _ _ _ => rfl, hM, hA⟩
          rw [fX10_triesTowers_92, x0, dt_b1, o0, dt_b1, hM.1, gL_0, jI_sub, if_pos (by rw [jI_lt _ _ (by omega) (by omega) (by omega) (by omega)]; omega)]
        | succ m ihm =>
          intro fuel c T a hm hf hM h0 hA hb
          obtain ⟨f', rfl⟩ : ∃ f', fuel = f' + 1 := ⟨fuel - 1, by omega⟩
          have o0 : fX10_own (jI x) (0 : Int32) T = some (jI (gL g col 0 x)) := own_0 hM hn x hx
          have o4 : fX10_own (jI x) (4 : Int32) T = some (jI (g 4 x)) := by
            have q := fX10_own_j T x 4 (by omega) (by omega) (by omega)
            rw [h0] at q
            rw [show (4 : Int32) = jI 4 from rfl, q]
            exact congrArg some (hw x hx z)
          have n1 : jI c + (1 : Int32) = jI ((c + 1 : Nat) : Int) := by rw [show (1 : Int32) = jI 1 from rfl, jI_add]; rfl
          have sm : (m + 1) * 8 ^ (k - cnt X (x + 1)) = m * 8 ^ (k - cnt X (x + 1)) + 8 ^ (k - cnt X (x + 1)) := Nat.succ_mul _ _
          have hm1 : a.1 + m * 8 ^ (k - cnt X (x + 1)) ≤ 1000000 := Nat.le_trans (Nat.add_le_add_left (Nat.mul_le_mul_right _ (Nat.le_succ m)) _) hb
          have ri : (jI (g 4 x) - (10 : Int32)) - jI c = jI (g 4 x - 10 - c) := by rw [show (10 : Int32) = jI 10 from rfl, jI_sub, jI_sub]
          have h92 : fX10_triesTowers_92 (fX10_triesTowers f) (f' + 1) (jI X) (jI x) (jI c) T = (if jI (g 4 x - 10 - c) < 0 then (fX10_triesTowers_92 (fX10_triesTowers f) f' (jI X) (jI x) (jI ((c + 1 : Nat) : Int)) T) else (if (jI (g 4 x - 10 - c) - jI (g 4 x - 10 - c) / (2 : Int32) * (2 : Int32)) = 0 then (if jI (g 4 x - 10 - c) / (2 : Int32) < (6 : Int32) then ((fX10_triesTowers f (jI X) (jI ((x + 1 : Nat) : Int)) (dt_set (dt_set T 7 x (jI c)) 8 x (jI (g 4 x - 10 - c) / (2 : Int32)))).bind fun q13 => (fX10_triesTowers_92 (fX10_triesTowers f) f' (jI X) (jI x) (jI ((c + 1 : Nat) : Int)) (dt_set q13 7 x (-1 : Int32)))) else (fX10_triesTowers_92 (fX10_triesTowers f) f' (jI X) (jI x) (jI ((c + 1 : Nat) : Int)) T)) else (fX10_triesTowers_92 (fX10_triesTowers f) f' (jI X) (jI x) (jI ((c + 1 : Nat) : Int)) T))) := by
            rw [fX10_triesTowers_92]
            unfold fX10_triesTowers_178
            rw [x0, dt_b1, o0, dt_b1, hM.1, gL_0, jI_sub, if_neg (by rw [jI_lt _ _ (by omega) (by omega) (by omega) (by omega)]; omega), o4, dt_b1, ri, n1, ixx, nx]
            rfl
          rw [h92]
          unfold fl
          have skip : ∀ a1 : Acc, a1 = a → ∃ T', fX10_triesTowers_92 (fX10_triesTowers f) f' (jI X) (jI x) (jI ((c + 1 : Nat) : Int)) T = some T' ∧ SQ T T' ∧ MT T' n W (gL g col) ∧ AM T' n g X (fl (fun a c => if okc g x c then en n W g bs (k - cnt X (x + 1)) (cnt X (x + 1)) (cu col x c) a else a) m (c + 1) a1) := by
            rintro a1 rfl
            exact ihm f' (c + 1) T a1 (by omega) (by omega) hM h0 hA hm1
          have en_b := en_le (W := W) (n := n) hW hg hB (k - cnt X (x + 1)) (cnt X (x + 1)) (cu col x c) a (by omega)
          by_cases y0 : g 4 x - 10 - c < 0
          · rw [if_pos (show jI (g 4 x - 10 - c) < 0 by rw [show (0 : Int32) = jI 0 from rfl, jI_lt _ _ (by omega) (by omega) (by omega) (by omega)]; exact y0)]
            exact skip _ (if_neg (fun q => by have := q.1; omega))
          · rw [if_neg (show ¬ jI (g 4 x - 10 - c) < 0 by rw [show (0 : Int32) = jI 0 from rfl, jI_lt _ _ (by omega) (by omega) (by omega) (by omega)]; exact y0)]
            have dv : jI (g 4 x - 10 - c) / (2 : Int32) = jI (lv g x c) := jI_div _ 2 (by omega) (by omega) (by omega) (by omega)
            have l0 : 0 ≤ lv g x c ∧ lv g x c ≤ 30 := by unfold lv; omega
            rw [dv]
            have ev : (jI (g 4 x - 10 - c) - jI (lv g x c) * (2 : Int32) = 0) = ((g 4 x - 10 - c) % 2 = 0) := by
              rw [show (2 : Int32) = jI 2 from rfl, show (0 : Int32) = jI 0 from rfl, jI_mul, jI_sub, jI_eq _ _ (by unfold lv; omega) (by unfold lv; omega) (by omega) (by omega)]
              apply propext
              unfold lv
              omega
            by_cases y1 : (g 4 x - 10 - c) % 2 = 0
            · rw [if_pos (show jI (g 4 x - 10 - c) - jI (lv g x c) * (2 : Int32) = 0 by rw [ev]; exact y1)]
              have e6 : (jI (lv g x c) < (6 : Int32)) = (lv g x c < 6) := by rw [show (6 : Int32) = jI 6 from rfl]; exact jI_lt _ _ (by omega) (by omega) (by omega) (by omega)
              by_cases y2 : lv g x c < 6
              · rw [if_pos (show jI (lv g x c) < (6 : Int32) by rw [e6]; exact y2), if_pos (show okc g x c from ⟨by omega, y1, y2⟩)]
                have cx := hhi x (Nat.le_refl x)
                have hM1 := MT_put hM x hx (-1) (c : Int) (lv g x c)
                rw [gL_cu g col x c (by omega) (by omega)] at hM1
                have hA1 : AM (dt_set (dt_set T 7 x (jI c)) 8 x (jI (lv g x c))) n g X a := AM_cg hA (by rw [dt_set_n _ _ _ _ _ (by omega), dt_set_n _ _ _ _ _ (by omega)]) (by rw [dt_set_n _ _ _ _ _ (by omega), dt_set_n _ _ _ _ _ (by omega)]) (by rw [dt_set_n _ _ _ _ _ (by omega), dt_set_n _ _ _ _ _ (by omega)])
                have hC1 : CO n W g (cu col x c) := fun b => by
                  by_cases q : b = x
                  · subst q; rw [cu_s]; exact ⟨by omega, fun _ => ⟨hx, by omega, by omega⟩⟩
                  · rw [cu_n _ _ _ _ q]; exact hC b
                obtain ⟨T2, b1, b2, b3, b4⟩ := ih f (x + 1) _ (cu col x c) a (by omega) (by omega) hM1 (by rw [dt_set_n _ _ _ _ _ (by omega), dt_set_n _ _ _ _ _ (by omega)]; exact h0) hC1 (fun b q => by rw [cu_n _ _ _ _ (by omega)]; exact hhi b (by omega)) (fun b q tb => by
                  by_cases q2 : b = x
                  · subst q2; rw [cu_s]; omega
                  · rw [cu_n _ _ _ _ q2]; exact hlo b (by omega) tb) hA1 (by omega)
                rw [b1, dt_b1]
                obtain ⟨T3, c1, c2, c3, c4⟩ := ihm f' (c + 1) (dt_set T2 7 x (-1)) _ (by omega) (by omega) (MT_un hY (by omega) b3) (by rw [dt_set_n _ _ _ _ _ (by omega), b2 0 (by omega) (by omega) (by omega) (by omega) (by omega) (by omega) (by omega), dt_set_n _ _ _ _ _ (by omega), dt_set_n _ _ _ _ _ (by omega)]; exact h0) (AM_cg b4 (dt_set_n _ _ _ _ _ (by omega)) (dt_set_n _ _ _ _ _ (by omega)) (dt_set_n _ _ _ _ _ (by omega))) (by omega)
                refine ⟨T3, c1, fun j h38 h7 h8 h9 h35 h36 h37 => ?_, c3, c4⟩
                rw [c2 j h38 h7 h8 h9 h35 h36 h37, dt_set_n _ _ _ _ _ h7, b2 j h38 h7 h8 h9 h35 h36 h37, dt_set_n _ _ _ _ _ h8, dt_set_n _ _ _ _ _ h7]
              · rw [if_neg (show ¬ jI (lv g x c) < (6 : Int32) by rw [e6]; exact y2)]
                exact skip _ (if_neg (fun q => y2 q.2.2))
            · rw [if_neg (show ¬ jI (g 4 x - 10 - c) - jI (lv g x c) * (2 : Int32) = 0 by rw [ev]; exact y1)]
              exact skip _ (if_neg (fun q => y1 q.2.1))
      have m8 : (W - g 0 x + 1).toNat ≤ 8 := by omega
      have mm : (W - g 0 x + 1).toNat * 8 ^ (k - cnt X (x + 1)) ≤ 8 * 8 ^ (k - cnt X (x + 1)) := Nat.mul_le_mul_right _ m8
      rw [Nat.pow_succ] at hb
      exact loop (W - g 0 x + 1).toNat dt_F 0 T a (by omega) (by unfold dt_F; omega) hM h0 hA (by omega)
    · have z' : X.testBit x = false := by simpa using z
      rw [if_pos (by rw [(bit_01 X x).1]; exact z')]
      rw [z', show false.toNat = 0 from rfl] at ct
      have ci : cnt X (x + 1) = cnt X x := ct
      obtain ⟨T1, b1, b2, b3, b4⟩ := ih f (x + 1) T col a (by omega) (by omega) hM h0 hC (fun b q => hhi b (by omega)) (fun b q tb => by
        by_cases q2 : b = x
        · subst q2; exact absurd tb z
        · exact hlo b (by omega) tb) hA (by rw [ci]; exact hb)
      rw [b1, dt_b1]
      rw [ci] at b4
      exact ⟨T1, rfl, b2, b3, b4⟩
end
