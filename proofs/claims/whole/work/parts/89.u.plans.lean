/-! ===== plan: what is found; the class's seek; the reference's plans ===== -/
/-- the fewest carries, and the best plan with so many -/
def Fnd (n : Nat) (W : Int) (g : Nat → Nat → Int) (goal : Int) (N : Nat) (q : List Cry) : Prop := N ≤ 5 ∧ (∀ N', N' < N → ∀ p, ¬ IsPlan n W g goal N' p) ∧ Opt n W g goal N q
def NFnd (n : Nat) (W : Int) (g : Nat → Nat → Int) (goal : Int) : Prop := ∀ N', N' ≤ 5 → ∀ p, ¬ IsPlan n W g goal N' p
theorem Fnd_N {n : Nat} {W : Int} {g : Nat → Nat → Int} {goal : Int} {N N' : Nat} {q q' : List Cry} (h : Fnd n W g goal N q) (h' : Fnd n W g goal N' q') : N = N' := by
  rcases Nat.lt_trichotomy N N' with z | z | z
  · exact absurd h.2.2.1 (h'.2.1 N z q)
  · exact z
  · exact absurd h'.2.2.1 (h.2.1 N' z q')
theorem Fnd_not {n : Nat} {W : Int} {g : Nat → Nat → Int} {goal : Int} {N : Nat} {q : List Cry} (h : Fnd n W g goal N q) (h' : NFnd n W g goal) : False := h' N h.1 q h.2.2.1
theorem cl_seekp {n : Nat} {W : Int} {g : Nat → Nat → Int} (ho : okT n W g) {goal : Int} (hgo : 1 ≤ goal ∧ goal ≤ 20) (P T : dt_Ob) (hT : TW T n W g) : ∃ P' T', fX3_seek (jI goal) P T = some (P', T') ∧ ((∃ N q, Fnd n W g goal N q ∧ P' 5 0 = jI (N : Nat) ∧ P' 6 0 = jI (csP n g q) ∧ ∀ i s, q[i]? = some s → P' 2 i = jI s.1 ∧ P' 3 i = jI s.2) ∨ (P' 5 0 = -1 ∧ NFnd n W g goal)) := by
  have tr := okD_tp ho.D
  have t0 := tp_nn g n
  have lt : (0 < jI (goal - tp g n)) = (0 < goal - tp g n) := by rw [show (0 : Int32) = jI 0 from rfl]; exact jI_lt _ _ (by omega) (by omega) (by omega) (by omega)
  unfold fX3_seek
  rw [fX5_tallest_j hT ho.D, dt_b1, jI_sub]
  by_cases z : 0 < goal - tp g n
  · rw [if_pos (by rw [lt]; exact z)]
    obtain ⟨P1, eP1⟩ : ∃ P1, P1 = dt_set (dt_set (dt_set (dt_set P 4 0 (jI goal)) 5 0 (0 : Int32)) 6 0 (0 : Int32)) 6 0 (1000000 : Int32) := ⟨_, rfl⟩
    have p4 : P1 4 0 = jI goal := by
      rw [eP1, dt_set_n _ _ _ _ _ (by omega), dt_set_n _ _ _ _ _ (by omega), dt_set_n _ _ _ _ _ (by omega), dt_set_at]
    have p6 : P1 6 0 = 1000000 := by rw [eP1, dt_set_at]
    rw [← eP1]
    by_cases y : goal - tp g n ≤ 5
    · obtain ⟨M, hM⟩ : ∃ M : Nat, (M : Int) + 1 = goal - tp g n := ⟨(goal - tp g n - 1).toNat, by omega⟩
      have eM : jI (goal - tp g n) = jI ((M + 1 : Nat) : Int) := by rw [← hM]; rfl
      obtain ⟨P', T', a1, a2⟩ := cl_seek39 ho hgo (5 - M) dt_F M P1 T (by omega) (by unfold dt_F; omega) hT p4 p6 (no_short ho (by omega))
      rw [eM]
      refine ⟨P', T', a1, ?_⟩
      rcases a2 with ⟨N, q, b1, b2, b3, b4, b5, b6, b7⟩ | ⟨b1, b2⟩
      · refine Or.inl ⟨N, q, ⟨b2, fun N' h1 => ?_, b4⟩, b5, b6, b7⟩
        by_cases w : M < N'
        · exact b3 N' w h1
        · exact no_short ho (by omega)
      · refine Or.inr ⟨b1, fun N' h1 => ?_⟩
        by_cases w : M < N'
        · exact b2 N' w h1
        · exact no_short ho (by omega)
    · refine ⟨dt_set P1 5 0 (-1), T, ?_, Or.inr ⟨dt_set_at _ _ _ _, fun N' h1 => no_short ho (by omega)⟩⟩
      rw [show dt_F = 1999 + 1 from rfl, fX3_seek_39, if_pos (by rw [show (5 : Int32) = jI 5 from rfl, jI_lt _ _ (by omega) (by omega) (by omega) (by omega)]; omega)]
  · rw [if_neg (by rw [lt]; exact z)]
    refine ⟨_, T, rfl, Or.inl ⟨0, [], ⟨by omega, fun N' h => by omega, ⟨trivial, rfl, by show goal ≤ tp g n; omega⟩, fun q hq => Or.inr ?_⟩, ?_, ?_, fun i s hs => by cases hs⟩⟩
    · have e : q = [] := List.eq_nil_of_length_eq_zero hq.2.1
      rw [e]; exact ⟨rfl, Nat.le_refl _⟩
    · rw [dt_set_n _ _ _ _ _ (by omega), dt_set_at]; rfl
    · rw [dt_set_at]; rfl
theorem mo_122 (x2 x3 : Int32) (T : dt_Ob) : fX10_plans_122 x2 x3 T = some ((if T 34 0 = -1 then -1 else x3), dt_set T 5 0 x2) := by
  unfold fX10_plans_122
  split <;> rfl
theorem mo_95 {n : Nat} {W : Int} {g : Nat → Nat → Int} (ho : okT n W g) {goal : Int} (hgo : 1 ≤ goal ∧ goal ≤ 20) {k : Nat} {yb : Nat → Nat} (hY : YL n g k yb) (w : Nat → Int32) (hw : ∀ b, b < n → g 5 b < 0 → w (20 + 8 * b + 4) = jI (g 4 b)) (x2 : Int32) : ∀ (d fuel N : Nat) (T : dt_Ob), N + d = 6 → d + 1 < fuel → (∀ N', N' < N → ∀ p, ¬ IsPlan n W g goal N' p) → GS n W g goal N k yb w [] T none → ∃ r T', fX10_plans_95 fuel (jI goal) x2 (jI ((N : Int) - 1)) T = some (r, T') ∧ SG5 T T' ∧ T' 5 0 = x2 ∧ ((∃ N q, Fnd n W g goal N q ∧ (∀ p, Opt n W g goal N p → p = q) ∧ r = jI (N : Nat) ∧ T' 34 0 = jI (csP n g q) ∧ ∀ i s, q[i]? = some s → T' 31 i = jI s.1 ∧ T' 32 i = jI s.2) ∨ (r = -1 ∧ NFnd n W g goal)) := by
  intro d
  induction d with
  | zero =>
    intro fuel N T hd hf hno hS
    obtain ⟨f, rfl⟩ : ∃ f, fuel = f + 1 := ⟨fuel - 1, by omega⟩
    have e34 := hS.2.2.2.2.1.1 rfl
    refine ⟨-1, dt_set T 5 0 x2, ?_, fun j _ h5 _ _ _ _ _ _ _ _ => dt_set_n _ _ _ _ _ h5, dt_set_at _ _ _ _, Or.inr ⟨rfl, fun N' h1 => hno N' (by omega)⟩⟩
    rw [fX10_plans_95, if_pos (by rw [show (5 : Int32) = jI 5 from rfl, jI_le _ _ (by omega) (by omega) (by omega) (by omega)]; omega), mo_122, if_pos e34]
  | succ d ih =>
    intro fuel N T hd hf hno hS
    obtain ⟨f, rfl⟩ : ∃ f, fuel = f + 1 := ⟨fuel - 1, by omega⟩
    have e34 := hS.2.2.2.2.1.1 rfl
    have n1 : jI ((N : Int) - 1) + (1 : Int32) = jI (N : Int) := by rw [show (1 : Int32) = jI 1 from rfl, jI_add, show (N : Int) - 1 + 1 = N by omega]
    obtain ⟨T1, B1, a1, a2, a3, a4⟩ := mo_goes ho hgo (N := N) (by omega) hY w hw N 24 [] T none (by show 0 + N = N; omega) (by omega) trivial hS
    have a1' : fX10_goesOn 24 (0 : Int32) (jI (N : Int)) (jI goal) (0 : Int32) T = some T1 := a1
    obtain ⟨r1, r2, r3⟩ := RES_root a4
    rw [fX10_plans_95, if_neg (by rw [show (5 : Int32) = jI 5 from rfl, jI_le _ _ (by omega) (by omega) (by omega) (by omega)]; omega), if_pos e34, n1, a1', dt_b1]
    cases hB : B1 with
    | none =>
      have no1 := r1 hB
      have hS1 : GS n W g goal (N + 1) k yb w [] T1 none := by
        rw [hB] at a3
        exact ⟨a3.1, a3.2.1, a3.2.2.1, a3.2.2.2.1, a3.2.2.2.2.1, fun q hq => by cases hq⟩
      have nxt := ih f (N + 1) T1 (by omega) (by omega) (fun N' h1 => by
        by_cases e : N' = N
        · rw [e]; exact no1
        · exact hno N' (by omega)) hS1
      rw [show ((N + 1 : Nat) : Int) - 1 = (N : Int) by omega] at nxt
      obtain ⟨r, T', b1, b2, b3, b4⟩ := nxt
      exact ⟨r, T', b1, SG5_tr a2 b2, b3, b4⟩
    | some q =>
      have oq := r2 q hB
      obtain ⟨c34, c31⟩ := a3.2.2.2.2.1.2 q hB
      have c0 := csP_nn n q g
      have c1 := csP_le q g ho oq.1.1
      have l := oq.1.2.1
      have nm : ¬ T1 34 0 = (-1 : Int32) := by
        rw [c34, show (-1 : Int32) = jI (-1) from rfl, jI_eq _ _ (by omega) (by omega) (by omega) (by omega)]; omega
      obtain ⟨f1, rfl⟩ : ∃ f1, f = f1 + 1 := ⟨f - 1, by omega⟩
      refine ⟨jI (N : Int), dt_set T1 5 0 x2, ?_, SG5_tr a2 (fun j _ h5 _ _ _ _ _ _ _ _ => dt_set_n _ _ _ _ _ h5), dt_set_at _ _ _ _, Or.inl ⟨N, q, ⟨by omega, hno, oq⟩, fun p hp => ?_, rfl, ?_, fun i s hs => ?_⟩⟩
      · rw [fX10_plans_95, mo_122, if_neg nm, if_neg nm]
        split <;> rfl
      · have := r3 p hp
        rw [hB] at this
        exact (Option.some.inj this).symm
      · rw [dt_set_n _ _ _ _ _ (by omega)]; exact c34
      · rw [dt_set_n _ _ _ _ _ (by omega), dt_set_n _ _ _ _ _ (by omega)]; exact c31 i s hs
/-- the reference, once the yard is listed -/
def moP (x1 : Int32) (T : dt_Ob) : Option (Int32 × dt_Ob) := (dt_ix (0 : Int32) 1225).bind fun a2 => (if ((T 0) a2) ≤ (5 : Int32) then ((fX10_laysTower T).bind fun q3 => (fX10_plans_95 dt_F x1 (T 5 0) (-1 : Int32) (dt_set q3 34 0 (-1 : Int32)))) else (some ((-1 : Int32), T)))
theorem yc_mono (g : Nat → Nat → Int) : ∀ d x, yc g x ≤ yc g (x + d) := by
  intro d
  induction d with
  | zero => intro x; exact Nat.le_refl _
  | succ d ih => intro x; have a := ih x; show yc g x ≤ yc g (x + d) + _; omega
theorem mo_7 {n : Nat} {W : Int} {g : Nat → Nat → Int} (hn : n ≤ 20) (hg : ∀ b, b < n → -1 ≤ g 5 b ∧ g 5 b ≤ 8) (x1 : Int32) : ∀ (d fuel x : Nat) (T : dt_Ob) (k : Nat) (yb : Nat → Nat), x + d = n → d < fuel → RT (T 0) n W g → YL x g k yb → k = yc g x → MYd T k yb → (yc g n ≤ 6 → ∃ T' k yb, fX10_plans_7 fuel x1 (jI x) T = moP x1 T' ∧ (∀ j, j ≠ 28 → j ≠ 33 → T' j = T j) ∧ YL n g k yb ∧ MYd T' k yb) ∧ (6 < yc g n → ∃ T', fX10_plans_7 fuel x1 (jI x) T = some (-1, T') ∧ ∀ j, j ≠ 28 → j ≠ 33 → T' j = T j) := by
  have i1 : dt_ix (1 : Int32) 1225 = some 1 := rfl
  intro d
  induction d with
  | zero =>
    intro fuel x T k yb hd hf hRT hY hk hM
    obtain ⟨f, rfl⟩ : ∃ f, fuel = f + 1 := ⟨fuel - 1, by omega⟩
    have ex : x = n := by omega
    subst ex
    refine ⟨fun _ => ⟨T, k, yb, ?_, fun _ _ _ => rfl, hY, hM⟩, fun h => ?_⟩
    · rw [fX10_plans_7, i1, dt_b1, hRT.2.1, if_pos (by rw [jI_le _ _ (by omega) (by omega) (by omega) (by omega)]; omega)]
      rfl
    · have := hY.1
      omega
  | succ d ih =>
    intro fuel x T k yb hd hf hRT hY hk hM
    obtain ⟨f, rfl⟩ : ∃ f, fuel = f + 1 := ⟨fuel - 1, by omega⟩
    have hx : x < n := by omega
    have gx := hg x hx
    have n1 : jI x + (1 : Int32) = jI ((x + 1 : Nat) : Int) := by rw [show (1 : Int32) = jI 1 from rfl, jI_add]; rfl
    have k6 := hY.1
    have o5 : fX10_own (jI x) (5 : Int32) T = some (jI (g 5 x)) := by
      have q := fX10_own_j T x 5 (by omega) (by omega) (by omega)
      rw [show (5 : Int32) = jI 5 from rfl, q]
      exact congrArg some (hRT.2.2 5 (by omega) x hx)
    have em : (jI (g 5 x) = (-1 : Int32)) = (g 5 x = -1) := by rw [show (-1 : Int32) = jI (-1) from rfl]; exact jI_eq _ _ (by omega) (by omega) (by omega) (by omega)
    have nle : ¬ jI n ≤ jI x := by rw [jI_le _ _ (by omega) (by omega) (by omega) (by omega)]; omega
    have ys1 : yc g (x + 1) = yc g x + (if 0 ≤ g 5 x then 0 else 1) := rfl
    have mono := yc_mono g (n - (x + 1)) (x + 1)
    rw [show x + 1 + (n - (x + 1)) = n by omega] at mono
    rw [fX10_plans_7, i1, dt_b1, hRT.2.1, if_neg nle, o5, dt_b1]
    unfold fX10_plans_61
    rw [n1]
    by_cases z : g 5 x = -1
    · rw [if_neg (by omega)] at ys1
      have e6 : (T 33 0 = (6 : Int32)) = ((k : Int) = 6) := by rw [hM.1, show (6 : Int32) = jI 6 from rfl]; exact jI_eq _ _ (by omega) (by omega) (by omega) (by omega)
      rw [if_pos (by rw [em]; exact z)]
      by_cases y : k = 6
      · rw [if_pos (by rw [e6]; omega)]
        exact ⟨fun q => by omega, fun _ => ⟨T, rfl, fun _ _ _ => rfl⟩⟩
      · rw [if_neg (by rw [e6]; omega)]
        have ixk : dt_ix (T 33 0) 6 = some k := by rw [hM.1]; exact dt_ix_n _ _ (by omega) (by omega)
        rw [ixk, dt_b1]
        obtain ⟨T1, eT1⟩ : ∃ T1, T1 = dt_set (dt_set T 28 k (jI x)) 33 0 (T 33 0 + (1 : Int32)) := ⟨_, rfl⟩
        rw [← eT1]
        have o1 : ∀ j, j ≠ 28 → j ≠ 33 → T1 j = T j := fun j h1 h2 => by rw [eT1, dt_set_n _ _ _ _ _ h2, dt_set_n _ _ _ _ _ h1]
        have o28 : T1 28 = upd (T 28) k (jI x) := by rw [eT1, dt_set_n _ _ _ _ _ (by omega), dt_set_s]
        have o33 : T1 33 0 = jI ((k + 1 : Nat) : Int) := by rw [eT1, dt_set_at, hM.1, show (1 : Int32) = jI 1 from rfl, jI_add]; rfl
        obtain ⟨yb1, eyb⟩ : ∃ yb1 : Nat → Nat, yb1 = fun i => if i = k then x else yb i := ⟨_, rfl⟩
        have yk : yb1 k = x := by rw [eyb]; exact if_pos rfl
        have yn : ∀ i, i ≠ k → yb1 i = yb i := fun i h => by rw [eyb]; exact if_neg h
        obtain ⟨_, y1, y2, y3⟩ := hY
        have hY1 : YL (x + 1) g (k + 1) yb1 := by
          refine ⟨by omega, fun i hi' => ?_, fun i j h1 h2 => ?_, fun b hb h0 => ?_⟩
          · by_cases e : i = k
            · rw [e, yk]; exact ⟨by omega, by omega⟩
            · rw [yn i e]; have := y1 i (by omega); exact ⟨by omega, this.2⟩
          · rw [yn i (by omega)]
            by_cases e : j = k
            · rw [e, yk]; exact (y1 i (by omega)).1
            · rw [yn j e]; exact y2 i j h1 (by omega)
          · by_cases e : b = x
            · exact ⟨k, by omega, by rw [yk, e]⟩
            · obtain ⟨i, h1, h2⟩ := y3 b (by omega) h0
              exact ⟨i, by omega, by rw [yn i (by omega)]; exact h2⟩
        have nx := ih f (x + 1) T1 (k + 1) yb1 (by omega) (by omega) (by rw [o1 0 (by omega) (by omega)]; exact hRT) hY1 (by omega) ⟨o33, fun i hi' => by
          rw [o28]
          by_cases e : i = k
          · rw [e, upd_s, yk]
          · rw [upd_n _ _ _ _ e, yn i e]; exact hM.2 i (by omega)⟩
        refine ⟨fun q => ?_, fun q => ?_⟩
        · obtain ⟨T', k', yb', a1, a2, a3, a4⟩ := nx.1 q
          exact ⟨T', k', yb', a1, fun j h1 h2 => by rw [a2 j h1 h2, o1 j h1 h2], a3, a4⟩
        · obtain ⟨T', a1, a2⟩ := nx.2 q
          exact ⟨T', a1, fun j h1 h2 => by rw [a2 j h1 h2, o1 j h1 h2]⟩
    · rw [if_pos (by omega)] at ys1
      rw [if_neg (by rw [em]; exact z)]
      obtain ⟨_, y1, y2, y3⟩ := hY
      exact ih f (x + 1) T k yb (by omega) (by omega) hRT ⟨k6, fun i hi' => by have := y1 i hi'; exact ⟨by omega, this.2⟩, y2, fun b hb h0 => y3 b (by
        by_cases e : b = x
        · rw [e] at h0; omega
        · omega) h0⟩ (by omega) hM
/-- all of the reference's plans -/
theorem mo_plans {n : Nat} {W : Int} {g : Nat → Nat → Int} (ho : okT n W g) {goal : Int} (hgo : 1 ≤ goal ∧ goal ≤ 20) (T : dt_Ob) (hRT : RT (T 0) n W g) : ∃ r T', fX10_plans (jI goal) T = some (r, T') ∧ (∀ j, j < 38 → j ≠ 5 → j ≠ 7 → j ≠ 8 → j ≠ 9 → j ≠ 28 → j ≠ 29 → j ≠ 30 → j ≠ 31 → j ≠ 32 → j ≠ 33 → j ≠ 34 → T' j = T j) ∧ T' 5 0 = T 5 0 ∧ (¬ (W ≤ 5 ∧ yc g n ≤ 6) → r = -1) ∧ (W ≤ 5 ∧ yc g n ≤ 6 → ((∃ N q, Fnd n W g goal N q ∧ (∀ p, Opt n W g goal N p → p = q) ∧ r = jI (N : Nat) ∧ T' 34 0 = jI (csP n g q) ∧ ∀ i s, q[i]? = some s → T' 31 i = jI s.1 ∧ T' 32 i = jI s.2) ∨ (r = -1 ∧ NFnd n W g goal))) := by
  have hn := ho.1
  have hW := ho.2.2.1
  have hW2 := ho.2.1
  have grng : ∀ b, b < n → -1 ≤ g 5 b ∧ g 5 b ≤ 8 := fun b hb => by
    have r := ho.2.2.2.1 b hb
    unfold okB at r
    omega
  have o0 : ∀ j, j ≠ 33 → (dt_set T 33 0 (0 : Int32)) j = T j := fun j h => dt_set_n _ _ _ _ _ h
  have m7 := mo_7 (W := W) hn grng (jI goal) n dt_F 0 (dt_set T 33 0 (0 : Int32)) 0 (fun _ => 0) (by omega) (by unfold dt_F; omega) (by rw [o0 0 (by omega)]; exact hRT) ⟨by omega, fun i h => by omega, fun i j h1 h2 => by omega, fun b h => by omega⟩ rfl ⟨dt_set_at _ _ _ _, fun i h => by omega⟩
  unfold fX10_plans
  by_cases z : yc g n ≤ 6
  · obtain ⟨T1, k, yb, a1, a2, a3, a4⟩ := m7.1 z
    have a1' : fX10_plans_7 dt_F (jI goal) (0 : Int32) (dt_set T 33 0 (0 : Int32)) = moP (jI goal) T1 := a1
    have t0 : T1 0 = T 0 := by rw [a2 0 (by omega) (by omega), o0 0 (by omega)]
    have l5 : (jI W ≤ (5 : Int32)) = (W ≤ 5) := by rw [show (5 : Int32) = jI 5 from rfl]; exact jI_le _ _ (by omega) (by omega) (by omega) (by omega)
    rw [a1']
    unfold moP
    rw [show dt_ix (0 : Int32) 1225 = some 0 from rfl, dt_b1, t0, hRT.1]
    by_cases y : W ≤ 5
    · rw [if_pos (by rw [l5]; exact y)]
      obtain ⟨T2, b1, b2, b3⟩ := fX10_laysTower_j (T := T1) (W := W) (g := g) (by rw [t0]; exact hRT) hn
      have t5 : T1 5 0 = T 5 0 := by rw [a2 5 (by omega) (by omega), o0 5 (by omega)]
      rw [b1, dt_b1, t5]
      obtain ⟨T3, eT3⟩ : ∃ T3, T3 = dt_set T2 34 0 (-1 : Int32) := ⟨_, rfl⟩
      rw [← eT3]
      have o3 : ∀ j, j ≠ 34 → T3 j = T2 j := fun j h => by rw [eT3, dt_set_n _ _ _ _ _ h]
      have hS : GS n W g goal 0 k yb (T 0) [] T3 none := by
        refine ⟨MT_congr b3 (o3 0 (by omega)) (o3 7 (by omega)) (o3 8 (by omega)), by rw [o3 0 (by omega), b2 0 (by omega) (by omega), t0], ⟨?_, fun i h => ?_⟩, fun i s hs => (by cases hs), ⟨fun _ => by rw [eT3, dt_set_at], fun q hq => (by cases hq)⟩, fun q hq => (by cases hq)⟩
        · rw [o3 33 (by omega), b2 33 (by omega) (by omega)]; exact a4.1
        · rw [o3 28 (by omega), b2 28 (by omega) (by omega)]; exact a4.2 i h
      obtain ⟨r, T', c1, c2, c3, c4⟩ := mo_95 ho hgo a3 (T 0) (fun b hb _ => hRT.2.2 4 (by omega) b hb) (T 5 0) 6 dt_F 0 T3 (by omega) (by unfold dt_F; omega) (fun N' h => by omega) hS
      have c1' : fX10_plans_95 dt_F (jI goal) (T 5 0) (-1 : Int32) T3 = some (r, T') := c1
      refine ⟨r, T', c1', fun j h38 h5 h7 h8 h9 h28 h29 h30 h31 h32 h33 h34 => ?_, c3, fun q => absurd ⟨y, z⟩ q, fun _ => c4⟩
      rw [c2 j h38 h5 h7 h8 h9 h29 h30 h31 h32 h34, o3 j h34, b2 j h7 h8, a2 j h28 h33, o0 j h33]
    · rw [if_neg (by rw [l5]; exact y)]
      exact ⟨-1, T1, rfl, fun j _ _ _ _ _ h28 _ _ _ _ h33 _ => by rw [a2 j h28 h33, o0 j h33], by rw [a2 5 (by omega) (by omega), o0 5 (by omega)], fun _ => rfl, fun q => absurd q.1 y⟩
  · obtain ⟨T1, a1, a2⟩ := m7.2 (by omega)
    have a1' : fX10_plans_7 dt_F (jI goal) (0 : Int32) (dt_set T 33 0 (0 : Int32)) = some (-1, T1) := a1
    exact ⟨-1, T1, a1', fun j _ _ _ _ _ h28 _ _ _ _ h33 _ => by rw [a2 j h28 h33, o0 j h33], by rw [a2 5 (by omega) (by omega), o0 5 (by omega)], fun _ => rfl, fun q => absurd q.2 z⟩
