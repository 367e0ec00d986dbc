/-! ===== the class reads a vow: claims within claims, lines ===== -/
theorem rUnit_lt {c : Nat → Int} {F : Nat → Int32} {p : Nat} {v : Int32} {q : Nat} (h : rUnit c F p = .inl (v, q)) : p < q := by
  unfold rUnit at h
  split at h
  · cases h; omega
  · split at h
    · cases h; omega
    · cases h
theorem rSumL_le {c : Nat → Int} {F : Nat → Int32} : ∀ (f p : Nat) (t : Int32) (l : Bool) (m : Int32) (v : Int32) (q : Nat), rSumL c F f p t l m = .inl (v, q) → p ≤ q := by
  intro f
  induction f with
  | zero => intro p t l m v q h; cases h
  | succ f ih =>
    intro p t l m v q h
    unfold rSumL at h
    split at h
    · cases hu : rUnit c F (p + 1) with
      | inl vq =>
        rw [hu] at h
        have a := rUnit_lt hu
        have b := ih _ _ _ _ _ _ h
        omega
      | inr e => rw [hu] at h; cases h
    · split at h
      · split at h
        · cases h
        · split at h
          · have b := ih _ _ _ _ _ _ h
            omega
          · cases h
      · split at h
        · cases hu : rUnit c F (p + 1) with
          | inl vq =>
            rw [hu] at h
            have a := rUnit_lt hu
            have b := ih _ _ _ _ _ _ h
            omega
          | inr e => rw [hu] at h; cases h
        · cases h; omega
theorem rSum_lt {c : Nat → Int} {F : Nat → Int32} {p : Nat} {v : Int32} {q : Nat} (h : rSum c F p = .inl (v, q)) : p < q := by
  unfold rSum at h
  cases hu : rUnit c F p with
  | inl vq =>
    rw [hu] at h
    have a := rUnit_lt hu
    have b := rSumL_le _ _ _ _ _ _ _ h
    omega
  | inr e => rw [hu] at h; cases h
theorem rOrd_lt {c : Nat → Int} {F : Nat → Int32} {p : Nat} {v : Bool} {q : Nat} (h : rOrd c F p = .inl (v, q)) : p < q := by
  unfold rOrd at h
  cases hu : rSum c F p with
  | inl vq =>
    rw [hu] at h
    have a := rSum_lt hu
    dsimp only at h
    split at h
    · cases hv : rSum c F (vq.2 + 1) with
      | inl wq =>
        rw [hv] at h
        have b := rSum_lt hv
        cases h
        omega
      | inr e => rw [hv] at h; cases h
    · cases h
  | inr e => rw [hu] at h; cases h
theorem rEith_lt {c : Nat → Int} {cl : Nat → (Bool × Nat) ⊕ (Int × Nat)} (hc : ∀ p v q, cl p = .inl (v, q) → p < q) : ∀ (f p : Nat) (x y : Bool) (v : Bool) (q : Nat), rEith c cl f p x y = .inl (v, q) → p < q := by
  intro f
  induction f with
  | zero => intro p x y v q h; cases h
  | succ f ih =>
    intro p x y v q h
    unfold rEith at h
    cases hu : cl p with
    | inl vq =>
      rw [hu] at h
      have a := hc p vq.1 vq.2 hu
      dsimp only at h
      split at h
      · have b := ih _ _ _ _ _ h; omega
      · split at h
        · have b := ih _ _ _ _ _ h; omega
        · cases h; exact a
    | inr e => rw [hu] at h; cases h
theorem rClaim_lt {c : Nat → Int} {F : Nat → Int32} : ∀ (d p : Nat) (v : Bool) (q : Nat), rClaim c F d p = .inl (v, q) → p < q := by
  intro d
  induction d with
  | zero =>
    intro p v q h
    unfold rClaim at h
    split at h
    · cases h
    · exact rOrd_lt h
  | succ d ih =>
    intro p v q h
    unfold rClaim at h
    split at h
    · cases hu : rClaim c F d (p + 1) with
      | inl vq => rw [hu] at h; have a := ih _ _ _ hu; cases h; omega
      | inr e => rw [hu] at h; cases h
    · split at h
      · cases hu : rEith c (rClaim c F d) 500 (p + 1) false true with
        | inl vq =>
          rw [hu] at h
          have a := rEith_lt ih _ _ _ _ _ _ hu
          dsimp only at h
          split at h
          · cases h; omega
          · cases h
        | inr e => rw [hu] at h; cases h
      · exact rOrd_lt h
theorem ord_dead {T0 : dt_Ob} {c : Nat → Int} {size : Nat} {F : Nat → Int32} (h : VC T0 c size F) (rc : Int32 → dt_Ob → Option (Int32 × dt_Ob)) (x1 w a : Int32) (hw : w ≠ 0) : ∃ v, b01 v ∧ fX7_claim_b rc x1 (tS T0 (jI size) w a) = some (v, tS T0 (jI size) w a) := by
  unfold fX7_claim_b
  obtain ⟨v1, h1⟩ := fX7_sum_d h w a hw
  rw [peek_d h, dt_b1, if_neg (show ¬ jI 30000 = (20004 : Int32) by decide +kernel), if_neg (show ¬ jI 30000 = (10040 : Int32) by decide +kernel), h1, dt_b1]
  dsimp only
  rw [peek_d h, dt_b1, fX7_order_d h _ _ hw, dt_b1, h1, dt_b1, fX7_isSo_j _ _ _ (by omega), dt_b1, if_pos (bI_01 _)]
  exact ⟨_, bI_01 _, rfl⟩
theorem fX7_claim_j {T0 : dt_Ob} {c : Nat → Int} {size : Nat} {F : Nat → Int32} (h : VC T0 c size F) : ∀ (d fuel : Nat), d ≤ 8 → d < fuel → CL T0 size (fX7_claim fuel (jI (8 - (d : Int)))) (rClaim c F d) := by
  intro d
  induction d with
  | zero =>
    intro fuel hd hf
    obtain ⟨f, rfl⟩ : ∃ f, fuel = f + 1 := ⟨fuel - 1, by omega⟩
    refine ⟨fun p a hp => ?_, fun w a hw => ord_dead h (fX7_claim f) _ w a hw, rClaim_lt 0⟩
    have r := VC_rng h p
    have e4 : (jI (c p) = (20004 : Int32)) = (c p = 20004) := jcne _ 20004 r (by omega)
    have e40 : (jI (c p) = (10040 : Int32)) = (c p = 10040) := jcne _ 10040 r (by omega)
    show OC T0 size a b01 bI (rClaim c F 0 p) (fX7_claim_b (fX7_claim f) (jI (8 - ((0 : Nat) : Int))) (tS T0 (jI p) 0 a))
    unfold fX7_claim_b rClaim
    have o := fX7_ord_j h p hp a
    have c45 : ∀ x2 : Int32, fX7_claim_45 (fX7_claim f) (jI (8 - ((0 : Nat) : Int))) x2 (tS T0 (jI p) 0 a) = some (0, tS T0 (jI size) 3 (T0 1 p)) := by
      intro x2
      unfold fX7_claim_45
      rw [if_neg (by decide +kernel), fX7_fail_j h p hp, dt_b1]
    rw [fX7_peek_j h p hp, dt_b1, c45]
    simp only [e4, e40]
    by_cases z4 : c p = 20004
    · rw [if_pos z4, if_pos (Or.inl z4)]
      exact ⟨by omega, hp, 0, Or.inl rfl, rfl⟩
    · rw [if_neg z4]
      by_cases z40 : c p = 10040
      · rw [if_pos z40, if_pos (Or.inr z40)]
        exact ⟨by omega, hp, 0, Or.inl rfl, rfl⟩
      · rw [if_neg z40, if_neg (by omega)]
        exact o
  | succ d ih =>
    intro fuel hd hf
    obtain ⟨f, rfl⟩ : ∃ f, fuel = f + 1 := ⟨fuel - 1, by omega⟩
    have kc := ih f (by omega) (by omega)
    have opn : jI (8 - ((d + 1 : Nat) : Int)) + (1 : Int32) = jI (8 - (d : Int)) := by
      rw [show (1 : Int32) = jI 1 from rfl, jI_add, show (8 - ((d + 1 : Nat) : Int) + 1) = 8 - (d : Int) by omega]
    refine ⟨fun p a hp => ?_, fun w a hw => ord_dead h (fX7_claim f) _ w a hw, rClaim_lt (d + 1)⟩
    have r := VC_rng h p
    have e4 : (jI (c p) = (20004 : Int32)) = (c p = 20004) := jcne _ 20004 r (by omega)
    have e40 : (jI (c p) = (10040 : Int32)) = (c p = 10040) := jcne _ 10040 r (by omega)
    have nx : tS T0 (jI p) 0 a 3 0 + (1 : Int32) = jI ((p + 1 : Nat) : Int) := by rw [tS_3, show (1 : Int32) = jI 1 from rfl, jI_add]; rfl
    have lt8 : jI (8 - ((d + 1 : Nat) : Int)) < (8 : Int32) := by rw [show (8 : Int32) = jI 8 from rfl, jI_lt _ _ (by omega) (by omega) (by omega) (by omega)]; omega
    show OC T0 size a b01 bI (rClaim c F (d + 1) p) (fX7_claim_b (fX7_claim f) (jI (8 - ((d + 1 : Nat) : Int))) (tS T0 (jI p) 0 a))
    unfold fX7_claim_b rClaim
    have o := fX7_ord_j h p hp a
    rw [fX7_peek_j h p hp, dt_b1]
    unfold fX7_claim_45
    rw [if_pos lt8, nx, tS_s3, opn]
    simp only [e4, e40]
    by_cases z4 : c p = 20004
    · have ps := VC_stop h p (by omega)
      have k := kc.1 (p + 1) a (by omega)
      simp only [if_pos z4]
      cases hcl : rClaim c F d (p + 1) with
      | inr kq =>
        obtain ⟨kk, q⟩ := kq
        rw [hcl] at k
        obtain ⟨u1, u2, v, u3, u4⟩ := k
        rw [u4, dt_b1]
        dsimp only
        by_cases y : v = 0
        · rw [if_pos y]; exact ⟨u1, u2, 1, Or.inr rfl, rfl⟩
        · rw [if_neg y]; exact ⟨u1, u2, 0, Or.inl rfl, rfl⟩
      | inl sq =>
        obtain ⟨so, q⟩ := sq
        rw [hcl] at k
        obtain ⟨u1, u2⟩ := k
        rw [u1, dt_b1]
        dsimp only
        cases so
        · rw [show bI false = 0 from rfl, if_pos rfl]; exact ⟨rfl, u2⟩
        · rw [show bI true = 1 from rfl, if_neg n10]; exact ⟨rfl, u2⟩
    · simp only [if_neg z4]
      by_cases z40 : c p = 10040
      · have ps := VC_stop h p (by omega)
        have k := fX7_either_j h (fX7_claim f) (jI (8 - (d : Int))) (rClaim c F d) kc a (p + 1) (by omega)
        simp only [if_pos z40]
        cases hcl : rEith c (rClaim c F d) 500 (p + 1) false true with
        | inr kq =>
          obtain ⟨kk, q⟩ := kq
          rw [hcl] at k
          obtain ⟨u1, u2, v, u3, u4⟩ := k
          rw [u4, dt_b1]
          dsimp only
          have ex : fX7_expect (10041 : Int32) (tS T0 (jI size) (jI kk) (T0 1 q)) = _ := fX7_expect_d h (jI kk) (T0 1 q) (kne u1) 10041 (by omega)
          rw [ex, dt_b1, if_pos u3]
          exact ⟨u1, u2, v, u3, rfl⟩
        | inl sq =>
          obtain ⟨so, q⟩ := sq
          rw [hcl] at k
          obtain ⟨u1, u2⟩ := k
          rw [u1, dt_b1]
          dsimp only
          have ex : fX7_expect (10041 : Int32) (tS T0 (jI q) 0 a) = _ := fX7_expect_j h q u2 a 10041 (by omega)
          rw [ex, dt_b1, if_pos (bI_01 so)]
          by_cases y : c q = 10041
          · have qs := VC_stop h q (by omega)
            rw [if_pos y, if_pos y]
            exact ⟨rfl, by omega⟩
          · rw [if_neg y, if_neg y]
            exact ⟨by omega, u2, _, bI_01 so, rfl⟩
      · simp only [if_neg z40]
        exact o
/-- a line: behind its word -/
theorem fX7_line_j {T0 : dt_Ob} {c : Nat → Int} {size : Nat} {F : Nat → Int32} (h : VC T0 c size F) (p : Nat) (hp : p < size) (a : Int32) : match rLine c F p with
    | .inl (so, q) => ∃ T1, fX7_either (fX7_claim 24) 0 (tS T0 (jI ((p + 1 : Nat) : Int)) 0 a) = some (bI so, T1) ∧ fX7_expect 10059 T1 = some (tS T0 (jI q) 0 a) ∧ p < q ∧ q ≤ size
    | .inr (k, q) => (1 ≤ k ∧ k ≤ 3) ∧ q ≤ size ∧ ∃ v T1, fX7_either (fX7_claim 24) 0 (tS T0 (jI ((p + 1 : Nat) : Int)) 0 a) = some (v, T1) ∧ fX7_expect 10059 T1 = some (tS T0 (jI size) (jI k) (T0 1 q)) := by
  have kc := fX7_claim_j h 8 24 (by omega) (by omega)
  have k := fX7_either_j h (fX7_claim 24) 0 (rClaim c F 8) kc a (p + 1) (by omega)
  unfold rLine
  cases hcl : rEith c (rClaim c F 8) 500 (p + 1) false true with
  | inr kq =>
    obtain ⟨kk, q⟩ := kq
    rw [hcl] at k
    obtain ⟨u1, u2, v, u3, u4⟩ := k
    exact ⟨u1, u2, v, _, u4, fX7_expect_d h (jI kk) (T0 1 q) (kne u1) 10059 (by omega)⟩
  | inl sq =>
    obtain ⟨so, q⟩ := sq
    rw [hcl] at k
    obtain ⟨u1, u2⟩ := k
    have lt := rEith_lt (rClaim_lt 8) _ _ _ _ _ _ hcl
    have ex : fX7_expect (10059 : Int32) (tS T0 (jI q) 0 a) = _ := fX7_expect_j h q u2 a 10059 (by omega)
    dsimp only
    by_cases y : c q = 10059
    · have qs := VC_stop h q (by omega)
      rw [if_pos y] at ex ⊢
      exact ⟨_, u1, ex, by omega, by omega⟩
    · rw [if_neg y] at ex ⊢
      exact ⟨by omega, u2, _, _, u1, ex⟩
