/-! ===== operation: worth ===== -/
theorem dt_lg_at (T : dt_Ob) (i : Nat) (v : Int64) : dt_lg ((dt_setL T 2 i v) 2) i = v := by
  unfold dt_setL
  rw [dt_setA_s, dt_lg_set, pk_uLs]
theorem dt_lg_ne (T : dt_Ob) (i q : Nat) (v : Int64) (h : q ≠ i) : dt_lg ((dt_setL T 2 i v) 2) q = dt_lg (T 2) q := by
  unfold dt_setL
  rw [dt_setA_s, dt_lg_set, pk_uLn h]
theorem dt_setL_ne (T : dt_Ob) (i j : Nat) (v : Int64) (h : j ≠ 2) : (dt_setL T 2 i v) j = T j := by
  unfold dt_setL
  exact dt_setA_ne _ _ _ _ h
/-- whether to go on is worth more -/
def swB (S : dt_Ob) (n k i : Nat) : Int32 := if i < 8 ∧ Int32.toInt64 (S 1 i) * t10 k * 10 < swG S n k i (sw S n k (i + 1)) then 1 else 0
theorem fX4_best_j51 {S : dt_Ob} {w : Nat → Int32} (hS : RS S w) (r42 : Int32 → Int32 → Int32 → Int64 → Int32 → Int32 → dt_Ob → Option (Int64 × dt_Ob)) (x2 x4 : Int32) (n k ht : Nat) (hn : n ≤ 8) (hk : k < n) (hht : ht ≤ 8) : ∀ (d fuel i : Nat) (x7 : Int32) (T : dt_Ob), T 0 = S 0 → T 1 = S 1 → (∀ q, q < i → q ≤ 8 → dt_lg (T 2) q = sw S n (k + 1) q) → (∀ q, i ≤ q → q ≤ 8 → dt_lg (T 2) q = sw S n k q) → (ht < i → x7 = swB S n k ht) → i + d = 9 → d < fuel → ∃ T', fX4_best_51 r42 fuel x2 (jI ht) x4 (t10 k) x7 (jI ((n - 1 - k : Nat) : Int)) (jI i) T = r42 x2 (jI ht) x4 (t10 (k + 1)) (swB S n k ht) (jI (((n - 1 - k : Nat) : Int) - 1)) T' ∧ T' 0 = S 0 ∧ T' 1 = S 1 ∧ ∀ q, q ≤ 8 → dt_lg (T' 2) q = sw S n (k + 1) q := by
  intro d
  induction d with
  | zero =>
    intro fuel i x7 T e0 e1 hl hh hx hd hf
    obtain ⟨f, rfl⟩ : ∃ f, fuel = f + 1 := ⟨fuel - 1, by omega⟩
    refine ⟨T, ?_, e0, e1, fun q hq => hl q (by omega) hq⟩
    unfold fX4_best_51
    rw [if_pos (by rw [show (8 : Int32) = jI 8 from rfl, jI_lt _ _ (by omega) (by omega) (by omega) (by omega)]; omega), hx (by omega), show (-1 : Int32) = jI (-1) from rfl, jI_add]
    rfl
  | succ d ih =>
    intro fuel i x7 T e0 e1 hl hh hx hd hf
    obtain ⟨f, rfl⟩ : ∃ f, fuel = f + 1 := ⟨fuel - 1, by omega⟩
    have hi8 : i ≤ 8 := by omega
    -- behind the choice
    have tail : ∀ (go : Int64), (if go < Int32.toInt64 (S 1 i) * t10 k * 10 then Int32.toInt64 (S 1 i) * t10 k * 10 else go) = sw S n (k + 1) i → ((lg_cmp go (Int32.toInt64 (S 1 i) * t10 k * 10) ≤ 0) ↔ swB S n k i = 0) → ∃ T', fX4_best_99 r42 (fX4_best_51 r42 f) x2 (jI ht) x4 (t10 k) x7 (jI ((n - 1 - k : Nat) : Int)) (jI i) (Int32.toInt64 (S 1 i) * t10 k * 10) go T = r42 x2 (jI ht) x4 (t10 (k + 1)) (swB S n k ht) (jI (((n - 1 - k : Nat) : Int) - 1)) T' ∧ T' 0 = S 0 ∧ T' 1 = S 1 ∧ ∀ q, q ≤ 8 → dt_lg (T' 2) q = sw S n (k + 1) q := by
      intro go hgo hcmp
      have st : ∀ x7' : Int32, (ht < i + 1 → x7' = swB S n k ht) → ∃ T', fX4_best_51 r42 f x2 (jI ht) x4 (t10 k) x7' (jI ((n - 1 - k : Nat) : Int)) (jI ((i + 1 : Nat) : Int)) (dt_setL T 2 i (sw S n (k + 1) i)) = r42 x2 (jI ht) x4 (t10 (k + 1)) (swB S n k ht) (jI (((n - 1 - k : Nat) : Int) - 1)) T' ∧ T' 0 = S 0 ∧ T' 1 = S 1 ∧ ∀ q, q ≤ 8 → dt_lg (T' 2) q = sw S n (k + 1) q := by
        intro x7' hx'
        refine ih f (i + 1) x7' (dt_setL T 2 i (sw S n (k + 1) i)) (by rw [dt_setL_ne _ _ _ _ (by omega)]; exact e0) (by rw [dt_setL_ne _ _ _ _ (by omega)]; exact e1) (fun q h1 h2 => ?_) (fun q h1 h2 => ?_) hx' (by omega) (by omega)
        · by_cases z : q = i
          · subst z; exact dt_lg_at _ _ _
          · rw [dt_lg_ne _ _ _ _ z]; exact hl q (by omega) h2
        · rw [dt_lg_ne _ _ _ _ (by omega)]; exact hh q (by omega) h2
      have cst : jI i + (1 : Int32) = jI ((i + 1 : Nat) : Int) := by rw [show (1 : Int32) = jI 1 from rfl, jI_add]; rfl
      unfold fX4_best_99 fX4_best_134 fX4_best_136
      rw [dt_ix_n i 9 (by omega) (by omega), dt_b1, hgo, cst]
      by_cases z : i = ht
      · subst z
        rw [if_pos rfl]
        have b01 : swB S n k i = 0 ∨ swB S n k i = 1 := by unfold swB; split <;> simp
        by_cases c : lg_cmp go (Int32.toInt64 (S 1 i) * t10 k * 10) ≤ 0
        · rw [if_pos c]
          exact st 0 (fun _ => (hcmp.mp c).symm)
        · rw [if_neg c]
          refine st 1 (fun _ => ?_)
          rcases b01 with q | q
          · exact absurd (hcmp.mpr q) c
          · exact q.symm
      · rw [if_neg (by rw [jI_eq _ _ (by omega) (by omega) (by omega) (by omega)]; omega)]
        exact st x7 (fun q => hx (by omega))
    have cmp : ∀ a b : Int64, (lg_cmp a b ≤ 0) ↔ ¬ b < a := by
      intro a b
      unfold lg_cmp
      by_cases c : b < a
      · rw [if_pos c]
        exact ⟨fun q => absurd q (by decide), fun q => absurd c q⟩
      · rw [if_neg c]
        refine ⟨fun _ => c, fun _ => ?_⟩
        split <;> decide
    unfold fX4_best_51
    rw [if_neg (by rw [show (8 : Int32) = jI 8 from rfl, jI_lt _ _ (by omega) (by omega) (by omega) (by omega)]; omega), dt_ix_n i 9 (by omega) (by omega), dt_b1, e1]
    by_cases z : i = 8
    · rw [if_pos (by rw [show (8 : Int32) = jI 8 from rfl, jI_le _ _ (by omega) (by omega) (by omega) (by omega)]; omega)]
      apply tail
      · rw [if_neg (fun q => Int64.lt_irrefl q)]
        unfold sw
        rw [if_neg (by omega)]
      · rw [cmp]
        unfold swB
        rw [if_neg (by omega)]
        exact ⟨fun _ => rfl, fun _ q => Int64.lt_irrefl q⟩
    · rw [if_neg (by rw [show (8 : Int32) = jI 8 from rfl, jI_le _ _ (by omega) (by omega) (by omega) (by omega)]; omega)]
      have gon : fX4_goingOn (jI ((n - 1 - k : Nat) : Int)) (jI i + 1) (t10 k) T = some (swG S n k i (sw S n k (i + 1))) := by
        have hT : RS T w := ⟨fun a b c d e => by rw [e0]; exact hS.1 a b c d e, fun t ht => by rw [e1]; exact hS.2 t ht⟩
        unfold fX4_goingOn
        rw [show (1 : Int32) = jI 1 from rfl, jI_add, show ((i : Int) + 1) = ((i + 1 : Nat) : Int) by omega, fX4_chanceAt_j hT _ _ (by omega) (by omega) (by omega), dt_b1, show dt_ix (0 : Int32) 9 = some 0 from rfl, dt_b1, dt_ix_n (i + 1) 9 (by omega) (by omega), dt_b1, hh (i + 1) (by omega) (by omega), e0, e1]
        rfl
      rw [gon, dt_b1]
      apply tail
      · rw [show sw S n (k + 1) i = (if i < 8 then (if swG S n k i (sw S n k (i + 1)) < Int32.toInt64 (S 1 i) * t10 k * 10 then Int32.toInt64 (S 1 i) * t10 k * 10 else swG S n k i (sw S n k (i + 1))) else Int32.toInt64 (S 1 i) * t10 k * 10) from rfl, if_pos (show i < 8 by omega)]
      · rw [cmp]
        unfold swB
        by_cases c : Int32.toInt64 (S 1 i) * t10 k * 10 < swG S n k i (sw S n k (i + 1))
        · rw [if_pos ⟨by omega, c⟩]
          exact ⟨fun q => absurd c q, fun q => absurd q (by decide)⟩
        · rw [if_neg (fun q => c q.2)]
          exact ⟨fun _ => rfl, fun _ => c⟩
theorem fX4_best_j42 {S : dt_Ob} {w : Nat → Int32} (hS : RS S w) (x4 : Int32) (n h ht : Nat) (hn : n ≤ 8) (hh : h ≤ n) (hht : ht ≤ 8) : ∀ (d fuel k : Nat) (x7 : Int32) (T : dt_Ob), T 0 = S 0 → T 1 = S 1 → (∀ q, q ≤ 8 → dt_lg (T 2) q = sw S n k q) → ((k = 0 ∧ x7 = 0) ∨ (1 ≤ k ∧ x7 = swB S n (k - 1) ht)) → k + d = n - h → d < fuel → ∃ T', fX4_best_42 fuel (jI h) (jI ht) x4 (t10 k) x7 (jI ((n : Int) - 1 - k)) T = some ((if x4 = 0 then sw S n (n - h) ht else if (if n - h = 0 then 0 else swB S n (n - h - 1) ht) = 0 then 0 else 1), T') ∧ T' 0 = S 0 ∧ T' 1 = S 1 := by
  intro d
  induction d with
  | zero =>
    intro fuel k x7 T e0 e1 hv hx hd hf
    obtain ⟨f, rfl⟩ : ∃ f, fuel = f + 1 := ⟨fuel - 1, by omega⟩
    refine ⟨T, ?_, e0, e1⟩
    unfold fX4_best_42
    have hk : k = n - h := by omega
    rw [if_pos (by rw [jI_lt _ _ (by omega) (by omega) (by omega) (by omega)]; omega)]
    by_cases z : x4 = 0
    · rw [if_pos z, if_pos z, dt_ix_n ht 9 (by omega) (by omega), dt_b1, hv ht hht, hk]
    · rw [if_neg z, if_neg z, ← hk]
      rcases hx with ⟨q1, q2⟩ | ⟨q1, q2⟩
      · rw [q2, if_pos rfl, if_pos q1, if_pos rfl]
      · rw [if_neg (show ¬ k = 0 by omega), q2]
        by_cases y : swB S n (k - 1) ht = 0
        · rw [if_pos y, if_pos y]
        · rw [if_neg y, if_neg y]
  | succ d ih =>
    intro fuel k x7 T e0 e1 hv hx hd hf
    obtain ⟨f, rfl⟩ : ∃ f, fuel = f + 1 := ⟨fuel - 1, by omega⟩
    obtain ⟨T1, a1, a2, a3, a4⟩ := fX4_best_j51 hS (fX4_best_42 f) (jI h) x4 n k ht hn (by omega) hht 9 dt_F 0 x7 T e0 e1 (fun q hq => by omega) (fun q _ hq => hv q hq) (fun q => by omega) (by omega) (by unfold dt_F; omega)
    obtain ⟨T', b1, b2, b3⟩ := ih f (k + 1) (swB S n k ht) T1 a2 a3 a4 (Or.inr ⟨by omega, rfl⟩) (by omega) (by omega)
    refine ⟨T', ?_, b2, b3⟩
    unfold fX4_best_42
    rw [if_neg (by rw [jI_lt _ _ (by omega) (by omega) (by omega) (by omega)]; omega), ← b1, show ((n : Int) - 1 - ((k + 1 : Nat) : Int)) = ((n - 1 - k : Nat) : Int) - 1 by omega, show ((n : Int) - 1 - k) = ((n - 1 - k : Nat) : Int) by omega]
    exact a1
theorem fX4_best_j {S : dt_Ob} {w : Nat → Int32} (hS : RS S w) (x4 : Int32) (n h ht : Nat) (hn : n ≤ 8) (hh : h ≤ n) (hht : ht ≤ 8) : ∃ T', fX4_best (jI n) (jI h) (jI ht) x4 S = some ((if x4 = 0 then sw S n (n - h) ht else if (if n - h = 0 then 0 else swB S n (n - h - 1) ht) = 0 then 0 else 1), T') ∧ T' 0 = S 0 ∧ T' 1 = S 1 := by
  have key : ∀ (d fuel i : Nat) (T : dt_Ob), T 0 = S 0 → T 1 = S 1 → (∀ q, q < i → q ≤ 8 → dt_lg (T 2) q = sw S n 0 q) → i + d = 9 → d < fuel → ∃ T', fX4_best_3 fuel (jI n) (jI h) (jI ht) x4 (jI i) T = some ((if x4 = 0 then sw S n (n - h) ht else if (if n - h = 0 then 0 else swB S n (n - h - 1) ht) = 0 then 0 else 1), T') ∧ T' 0 = S 0 ∧ T' 1 = S 1 := by
    intro d
    induction d with
    | zero =>
      intro fuel i T e0 e1 hv hd hf
      obtain ⟨f, rfl⟩ : ∃ f, fuel = f + 1 := ⟨fuel - 1, by omega⟩
      obtain ⟨T', b1, b2, b3⟩ := fX4_best_j42 hS x4 n h ht hn hh hht (n - h) dt_F 0 0 T e0 e1 (fun q hq => hv q (by omega) hq) (Or.inl ⟨rfl, rfl⟩) (by omega) (by unfold dt_F; omega)
      refine ⟨T', ?_, b2, b3⟩
      unfold fX4_best_3
      rw [if_pos (by rw [show (8 : Int32) = jI 8 from rfl, jI_lt _ _ (by omega) (by omega) (by omega) (by omega)]; omega), show (1 : Int32) = jI 1 from rfl, jI_sub]
      rw [show ((n : Int) - 1 - ((0 : Nat) : Int)) = (n : Int) - 1 by omega] at b1
      exact b1
    | succ d ih =>
      intro fuel i T e0 e1 hv hd hf
      obtain ⟨f, rfl⟩ : ∃ f, fuel = f + 1 := ⟨fuel - 1, by omega⟩
      obtain ⟨T', b1, b2, b3⟩ := ih f (i + 1) (dt_setL T 2 i (Int32.toInt64 (S 1 i))) (by rw [dt_setL_ne _ _ _ _ (by omega)]; exact e0) (by rw [dt_setL_ne _ _ _ _ (by omega)]; exact e1) (fun q h1 h2 => by
        by_cases z : q = i
        · subst z; rw [dt_lg_at]; rfl
        · rw [dt_lg_ne _ _ _ _ z]; exact hv q (by omega) h2) (by omega) (by omega)
      refine ⟨T', ?_, b2, b3⟩
      unfold fX4_best_3
      rw [if_neg (by rw [show (8 : Int32) = jI 8 from rfl, jI_lt _ _ (by omega) (by omega) (by omega) (by omega)]; omega), dt_ix_n i 9 (by omega) (by omega), dt_b1, dt_b1, e1, show (1 : Int32) = jI 1 from rfl, jI_add]
      exact b1
  exact key 9 dt_F 0 S rfl rfl (fun q hq => by omega) (by omega) (by unfold dt_F; omega)
theorem s_worth : St_worth dt_I := by
  intro M a1 a2 a3 a4 h
  have h' := h
  obtain ⟨n, W, g, ⟨hT, hok, hRT, hD, hV, hC, hS⟩, hU, hI, hP, hF, hR⟩ := h
  obtain ⟨a, rfl, a0, a1⟩ := jI_ex a1
  obtain ⟨b, rfl, b0, b1⟩ := jI_ex a2
  obtain ⟨c, rfl, c0, c1⟩ := jI_ex a3
  obtain ⟨e, rfl, e0, e1⟩ := jI_ex a4
  have q1 : fX10_isIn (jI a) 1 8 = some (if 1 ≤ a ∧ a ≤ 8 then 1 else 0) := fX10_isIn_j a 1 8 (by omega) (by omega) (by omega) (by omega) (by omega) (by omega)
  have q2 : fX10_isIn (jI b) 0 (jI a) = some (if 0 ≤ b ∧ b ≤ a then 1 else 0) := fX10_isIn_j b 0 a (by omega) (by omega) (by omega) (by omega) (by omega) (by omega)
  have q3 : fX10_isIn (jI c) 0 8 = some (if 0 ≤ c ∧ c ≤ 8 then 1 else 0) := fX10_isIn_j c 0 8 (by omega) (by omega) (by omega) (by omega) (by omega) (by omega)
  have q4 : fX10_isIn (jI e) 0 1 = some (if 0 ≤ e ∧ e ≤ 1 then 1 else 0) := fX10_isIn_j e 0 1 (by omega) (by omega) (by omega) (by omega) (by omega) (by omega)
  have k1 : (jI a < (1 : Int32)) = (a < 1) := jI_lt a 1 (by omega) (by omega) (by omega) (by omega)
  have k2 : ((8 : Int32) < jI a) = (8 < a) := jI_lt 8 a (by omega) (by omega) (by omega) (by omega)
  have k3 : (jI b < (0 : Int32)) = (b < 0) := jI_lt b 0 (by omega) (by omega) (by omega) (by omega)
  have k4 : (jI a < jI b) = (a < b) := jI_lt a b (by omega) (by omega) (by omega) (by omega)
  have k5 : (jI c < (0 : Int32)) = (c < 0) := jI_lt c 0 (by omega) (by omega) (by omega) (by omega)
  have k6 : ((8 : Int32) < jI c) = (8 < c) := jI_lt 8 c (by omega) (by omega) (by omega) (by omega)
  have k7 : (jI e < (0 : Int32)) = (e < 0) := jI_lt e 0 (by omega) (by omega) (by omega) (by omega)
  have k8 : (jI e ≤ (1 : Int32)) = (e ≤ 1) := jI_le e 1 (by omega) (by omega) (by omega) (by omega)
  have k9 : (jI e = (1 : Int32)) = (e = 1) := jI_eq e 1 (by omega) (by omega) (by omega) (by omega)
  have k10 : (jI e = (0 : Int32)) = (e = 0) := jI_eq e 0 (by omega) (by omega) (by omega) (by omega)
  have k11 : (jI a ≤ jI b) = (a ≤ b) := jI_le a b (by omega) (by omega) (by omega) (by omega)
  have k12 : ((8 : Int32) ≤ jI c) = (8 ≤ c) := jI_le 8 c (by omega) (by omega) (by omega) (by omega)
  by_cases z : (1 ≤ a ∧ a ≤ 8) ∧ (0 ≤ b ∧ b ≤ a) ∧ (0 ≤ c ∧ c ≤ 8) ∧ (0 ≤ e ∧ e ≤ 1)
  · obtain ⟨za, zb, zc, ze⟩ := z
    obtain ⟨n', rfl⟩ : ∃ q : Nat, a = q := ⟨a.toNat, by omega⟩
    obtain ⟨hr, rfl⟩ : ∃ q : Nat, b = q := ⟨b.toNat, by omega⟩
    obtain ⟨ht, rfl⟩ : ∃ q : Nat, c = q := ⟨c.toNat, by omega⟩
    obtain ⟨T', b1, b2, b3⟩ := fX4_best_j hS (jI e) n' hr ht (by omega) (by omega) (by omega)
    have cls : fX9_worth (jI n') (jI hr) (jI ht) (jI e) M = some ((if jI e = 0 then sw (M 5) n' (n' - hr) ht else if (if n' - hr = 0 then 0 else swB (M 5) n' (n' - hr - 1) ht) = 0 then 0 else 1), dt_put M 5 T') := by
      unfold fX9_worth fX9_worth_25 fX9_worth_78
      rw [if_neg (by rw [k1]; omega), if_neg (by rw [k2]; omega), if_neg (by rw [k3]; omega), if_neg (by rw [k4]; omega), i10, if_neg (by rw [k5]; omega), if_neg (by rw [k6]; omega), if_neg (by rw [k7]; omega), if_pos (by rw [k8]; omega)]
      have ee : e = 0 ∨ e = 1 := by omega
      rcases ee with y | y
      · subst y
        have b1' : fX4_best (jI n') (jI hr) (jI ht) 0 (M 5) = _ := b1
        rw [if_neg (by rw [k9]; omega), b1', dt_b1]
      · subst y
        have b1' : fX4_best (jI n') (jI hr) (jI ht) 1 (M 5) = _ := b1
        rw [if_pos (by rw [k9]), b1', dt_b1]
    have inv : dt_I (dt_put M 5 T') := by
      refine dt_I_of (n := n) (W := W) (g := g) ?_ ?_ h' ?_ ?_
      · show RW (M 1) (M 2) (M 3) (M 4) T' (M 18 0) n W g
        exact ⟨hT, hok, hRT, hD, hV, hC, ⟨fun a b c d e => by rw [b2]; exact hS.1 a b c d e, fun t ht => by rw [b3]; exact hS.2 t ht⟩⟩
      · exact hU
      · intro k hk
        exact dt_put_ne _ _ _ _ (by omega)
      · intro j hj
        rfl
    have mw := fX10_worthFrom_j (T := M 18) hS n' (by omega) (n' - hr) 24 ht (by omega) (by omega) (by omega)
    rw [show n' - (n' - hr) = hr by omega] at mw
    refine ⟨_, _, cls, ?_, inv⟩
    show fX10_worth (jI n') (jI hr) (jI ht) (jI e) (M 18) = _
    unfold fX10_worth
    rw [q1, dt_b1, if_pos za, i10, q2, dt_b1, if_pos zb, i10, q3, dt_b1, if_pos zc, i10, q4, dt_b1, if_pos ze, i10]
    by_cases y : e = 0
    · have y0 : jI e = 0 := by rw [k10]; exact y
      simp only [if_pos y0]
      rw [mw]
      rfl
    · have y0 : ¬ jI e = 0 := by rw [k10]; exact y
      simp only [if_neg y0]
      by_cases x : (n' : Int) ≤ hr
      · have x0 : jI n' ≤ jI hr := by rw [k11]; exact x
        rw [if_pos x0, if_pos (show n' - hr = 0 by omega), if_pos rfl]
      · have x0 : ¬ jI n' ≤ jI hr := by rw [k11]; exact x
        rw [if_neg x0, if_neg (show ¬ n' - hr = 0 by omega)]
        by_cases v : (8 : Int) ≤ ht
        · have v0 : (8 : Int32) ≤ jI ht := by rw [k12]; exact v
          rw [if_pos v0]
          unfold swB
          rw [if_neg (show ¬ (ht < 8 ∧ _) by omega), if_pos rfl]
        · have v0 : ¬ (8 : Int32) ≤ jI ht := by rw [k12]; exact v
          rw [if_neg v0]
          have mg := fX10_goesOnFrom_j (T := M 18) hS (fX10_worthFrom 24) n' (n' - hr - 1) ht (by omega) (by omega) (by omega) _ (fX10_worthFrom_j (T := M 18) hS n' (by omega) (n' - hr - 1) 24 (ht + 1) (by omega) (by omega) (by omega))
          rw [show n' - 1 - (n' - hr - 1) = hr by omega] at mg
          have ix : dt_ix ((330 : Int32) + jI ht) 1225 = some (330 + ht) := by
            rw [show (330 : Int32) = jI 330 from rfl, jI_add, dt_ix_j _ _ (by omega) (by omega) (by omega), show ((330 : Int) + ht).toNat = 330 + ht by omega]
          obtain ⟨r, r0, r1, r2, r3⟩ := hS.2 ht (by omega)
          rw [mg, dt_b1, ix, dt_b1, jI_sub, show ((n' : Int) - hr) = ((n' - hr : Nat) : Int) by omega, fX10_tens_j _ (by omega), dt_b1, r3, ← r2]
          have st : Int32.toInt64 (M 5 1 ht) * t10 (n' - hr) = Int32.toInt64 (M 5 1 ht) * t10 (n' - hr - 1) * 10 := by
            rw [Int64.mul_assoc]
            rw [show n' - hr = (n' - hr - 1) + 1 by omega]
            rfl
          rw [st]
          unfold swB
          by_cases lt : Int32.toInt64 (M 5 1 ht) * t10 (n' - hr - 1) * 10 < swG (M 5) n' (n' - hr - 1) ht (sw (M 5) n' (n' - hr - 1) (ht + 1))
          · rw [if_pos (show ht < 8 ∧ _ from ⟨by omega, lt⟩), if_neg n10, if_neg]
            unfold lg_cmp
            rw [if_pos lt]
            decide
          · rw [if_neg (show ¬ (ht < 8 ∧ _) from fun q => lt q.2), if_pos rfl, if_pos]
            unfold lg_cmp
            rw [if_neg lt]
            split <;> decide
  · refine ⟨-1, M, ?_, ?_, h'⟩
    · have w0 : ∀ x1 x2 x3 x4 : Int32, fX9_worth_24 x1 x2 x3 x4 M = some (-1, M) := by
        intro x1 x2 x3 x4
        unfold fX9_worth_24 fX9_worth_25
        rw [i00]
        rfl
      unfold fX9_worth
      rw [w0]
      unfold fX9_worth_25 fX9_worth_53
      rw [i10]
      simp only [k1, k2, k3, k4, k5, k6, k7, k8]
      repeat' split
      all_goals first
        | rfl
        | (exfalso; omega)
    · unfold fX10_worth fX10_worth_39
      rw [q1, dt_b1]
      by_cases za : 1 ≤ a ∧ a ≤ 8
      · rw [if_pos za, i10, q2, dt_b1]
        by_cases zb : 0 ≤ b ∧ b ≤ a
        · rw [if_pos zb, i10, q3, dt_b1]
          by_cases zc : 0 ≤ c ∧ c ≤ 8
          · rw [if_pos zc, i10, q4, dt_b1, if_neg (show ¬ (0 ≤ e ∧ e ≤ 1) by omega), i00]
          · rw [if_neg zc, i00]
        · rw [if_neg zb, i00]
      · rw [if_neg za, i00]
