/-! ===== the class reads a vow: claims, lines ===== -/
abbrev b01 (v : Int32) : Prop := v = 0 ∨ v = 1
theorem bI_01 (b : Bool) : b01 (bI b) := by cases b <;> simp [b01, bI]
theorem kne {k : Int} (h : 1 ≤ k ∧ k ≤ 3) : jI k ≠ 0 := by
  rw [show (0 : Int32) = jI 0 from rfl, Ne, jI_eq _ _ (by omega) (by omega) (by omega) (by omega)]; omega
theorem fX7_expect_j {T0 : dt_Ob} {c : Nat → Int} {size : Nat} {F : Nat → Int32} (h : VC T0 c size F) (p : Nat) (hp : p ≤ size) (a : Int32) (x : Int) (hx : 0 ≤ x ∧ x ≤ 20000) : fX7_expect (jI x) (tS T0 (jI p) 0 a) = some (if c p = x then tS T0 (jI ((p + 1 : Nat) : Int)) 0 a else tS T0 (jI size) 1 (T0 1 p)) := by
  have r := VC_rng h p
  have e : (jI (c p) = jI x) = (c p = x) := jcne _ _ r (by omega)
  have nx : tS T0 (jI p) 0 a 3 0 + (1 : Int32) = jI ((p + 1 : Nat) : Int) := by rw [tS_3, show (1 : Int32) = jI 1 from rfl, jI_add]; rfl
  unfold fX7_expect
  rw [fX7_peek_j h p hp, dt_b1, fX7_fail_j h p hp, dt_b1, nx, tS_s3]
  by_cases z : c p = x
  · rw [if_pos z, if_pos (show jI (c p) = jI x by rw [e]; exact z)]
  · rw [if_neg z, if_neg (show ¬ jI (c p) = jI x by rw [e]; exact z)]
theorem fX7_expect_d {T0 : dt_Ob} {c : Nat → Int} {size : Nat} {F : Nat → Int32} (h : VC T0 c size F) (w a : Int32) (hw : w ≠ 0) (x : Int) (hx : 0 ≤ x ∧ x ≤ 20000) : fX7_expect (jI x) (tS T0 (jI size) w a) = some (tS T0 (jI size) w a) := by
  unfold fX7_expect
  rw [peek_d h, dt_b1, if_neg (by rw [jI_eq _ _ (by omega) (by omega) (by omega) (by omega)]; omega), fX7_fail_d h _ _ _ hw, dt_b1]
theorem fX7_order_j {T0 : dt_Ob} {c : Nat → Int} {size : Nat} {F : Nat → Int32} (h : VC T0 c size F) (p : Nat) (hp : p ≤ size) (a : Int32) : fX7_expectOrder (tS T0 (jI p) 0 a) = some (if c p = 10060 ∨ c p = 10061 ∨ c p = 10062 then tS T0 (jI ((p + 1 : Nat) : Int)) 0 a else tS T0 (jI size) 1 (T0 1 p)) := by
  have r := VC_rng h p
  have e0 : (jI (c p) = (10060 : Int32)) = (c p = 10060) := jcne _ 10060 r (by omega)
  have e1 : (jI (c p) = (10061 : Int32)) = (c p = 10061) := jcne _ 10061 r (by omega)
  have e2 : (jI (c p) = (10062 : Int32)) = (c p = 10062) := jcne _ 10062 r (by omega)
  have nx : tS T0 (jI p) 0 a 3 0 + (1 : Int32) = jI ((p + 1 : Nat) : Int) := by rw [tS_3, show (1 : Int32) = jI 1 from rfl, jI_add]; rfl
  unfold fX7_expectOrder fX7_expectOrder_26
  rw [fX7_peek_j h p hp, dt_b1, fX7_fail_j h p hp, dt_b1, nx, tS_s3]
  simp only [e0, e1, e2]
  by_cases z0 : c p = 10060
  · rw [if_pos z0, if_pos (Or.inl z0)]
  · rw [if_neg z0]
    by_cases z1 : c p = 10061
    · rw [if_pos z1, if_pos (Or.inr (Or.inl z1))]
    · rw [if_neg z1]
      by_cases z2 : c p = 10062
      · rw [if_pos z2, if_pos (Or.inr (Or.inr z2))]
      · rw [if_neg z2, if_neg (by omega)]
theorem fX7_order_d {T0 : dt_Ob} {c : Nat → Int} {size : Nat} {F : Nat → Int32} (h : VC T0 c size F) (w a : Int32) (hw : w ≠ 0) : fX7_expectOrder (tS T0 (jI size) w a) = some (tS T0 (jI size) w a) := by
  unfold fX7_expectOrder
  rw [peek_d h, dt_b1, if_neg (by decide +kernel), if_neg (by decide +kernel), if_neg (by decide +kernel), fX7_fail_d h _ _ _ hw, dt_b1]
theorem fX7_isSo_j (x : Int32) (s : Int) (y : Int32) (hs : 0 ≤ s ∧ s ≤ 30001) : fX7_isSo x (jI s) y = some (bI (rSo x s y)) := by
  have e1 : (jI s = (10061 : Int32)) = (s = 10061) := jcne _ 10061 hs (by omega)
  have e0 : (jI s = (10060 : Int32)) = (s = 10060) := jcne _ 10060 hs (by omega)
  unfold fX7_isSo rSo
  simp only [e0, e1]
  by_cases z1 : s = 10061
  · rw [if_pos z1, if_pos z1]
    by_cases q : x = y
    · rw [if_pos q, decide_eq_true q]; rfl
    · rw [if_neg q, decide_eq_false q]; rfl
  · rw [if_neg z1, if_neg z1]
    by_cases z0 : s = 10060
    · rw [if_pos z0, if_pos z0]
      by_cases q : y ≤ x
      · rw [if_pos q, decide_eq_false (fun l => Int32.lt_irrefl (Int32.lt_of_lt_of_le l q))]; rfl
      · rw [if_neg q, decide_eq_true (Int32.not_le.mp q)]; rfl
    · rw [if_neg z0, if_neg z0]
      by_cases q : x ≤ y
      · rw [if_pos q, decide_eq_false (fun l => Int32.lt_irrefl (Int32.lt_of_lt_of_le l q))]; rfl
      · rw [if_neg q, decide_eq_true (Int32.not_le.mp q)]; rfl
/-- a comparison -/
theorem fX7_ord_j {T0 : dt_Ob} {c : Nat → Int} {size : Nat} {F : Nat → Int32} (h : VC T0 c size F) (p : Nat) (hp : p ≤ size) (a : Int32) : OC T0 size a b01 bI (rOrd c F p) ((fX7_sum (tS T0 (jI p) 0 a)).bind fun q2 => ((fX7_peek q2.2).bind fun q3 => ((fX7_expectOrder q2.2).bind fun q4 => ((fX7_sum q4).bind fun q5 => ((fX7_isSo q2.1 q3 q5.1).bind fun q6 => (if q6 = 0 ∨ q6 = 1 then (some (q6, q5.2)) else none)))))) := by
  have s1 := fX7_sum_j h p hp a
  -- a fault ahead: all the rest lets it be
  have dead : ∀ (k : Int) (q : Nat) (v x3 : Int32), (1 ≤ k ∧ k ≤ 3) → q ≤ size → (0 ≤ (30000 : Int)) → ∃ v', b01 v' ∧ ((fX7_sum (tS T0 (jI size) (jI k) (T0 1 q))).bind fun q5 => ((fX7_isSo v x3 q5.1).bind fun q6 => (if q6 = 0 ∨ q6 = 1 then (some (q6, q5.2)) else none))) = some (v', tS T0 (jI size) (jI k) (T0 1 q)) := by
    intro k q v x3 hk hq _
    obtain ⟨v2, hv2⟩ := fX7_sum_d h (jI k) (T0 1 q) (kne hk)
    have so : ∃ v', b01 v' ∧ fX7_isSo v x3 v2 = some v' := by
      unfold fX7_isSo
      repeat' split
      all_goals first
        | exact ⟨0, Or.inl rfl, rfl⟩
        | exact ⟨1, Or.inr rfl, rfl⟩
    obtain ⟨v', h1, h2⟩ := so
    refine ⟨v', h1, ?_⟩
    rw [hv2, dt_b1, h2, dt_b1, if_pos h1]
  unfold rOrd
  cases hs1 : rSum c F p with
  | inr kq =>
    obtain ⟨k, q⟩ := kq
    rw [hs1] at s1
    obtain ⟨u1, u2, v, -, u3⟩ := s1
    rw [u3, dt_b1]
    dsimp only
    rw [peek_d h, dt_b1, fX7_order_d h _ _ (kne u1), dt_b1]
    obtain ⟨v', w1, w2⟩ := dead k q v (jI 30000) u1 u2 (by omega)
    exact ⟨u1, u2, v', w1, w2⟩
  | inl xq =>
    obtain ⟨x, q⟩ := xq
    rw [hs1] at s1
    obtain ⟨u1, u2⟩ := s1
    rw [u1, dt_b1]
    dsimp only
    rw [fX7_peek_j h q u2, dt_b1, fX7_order_j h q u2, dt_b1]
    by_cases z : c q = 10060 ∨ c q = 10061 ∨ c q = 10062
    · rw [if_pos z, if_pos z]
      have qs : q < size := VC_stop h q (by omega)
      have s2 := fX7_sum_j h (q + 1) (by omega) a
      cases hs2 : rSum c F (q + 1) with
      | inr kq =>
        obtain ⟨k, q'⟩ := kq
        rw [hs2] at s2
        obtain ⟨w1, w2, v, -, w3⟩ := s2
        rw [w3, dt_b1]
        dsimp only
        have r := VC_rng h q
        rw [fX7_isSo_j x (c q) v r, dt_b1, if_pos (bI_01 _)]
        exact ⟨w1, w2, _, bI_01 _, rfl⟩
      | inl yq =>
        obtain ⟨y, q'⟩ := yq
        rw [hs2] at s2
        obtain ⟨w1, w2⟩ := s2
        have r := VC_rng h q
        rw [w1, dt_b1]
        dsimp only
        rw [fX7_isSo_j x (c q) y r, dt_b1, if_pos (bI_01 _)]
        exact ⟨rfl, w2⟩
    · rw [if_neg z, if_neg z]
      obtain ⟨v', w1, w2⟩ := dead 1 q x (jI (c q)) (by omega) u2 (by omega)
      exact ⟨by omega, u2, v', w1, w2⟩
/-- a claim's contract -/
def CL (T0 : dt_Ob) (size : Nat) (rc : dt_Ob → Option (Int32 × dt_Ob)) (cl : Nat → (Bool × Nat) ⊕ (Int × Nat)) : Prop := (∀ (p : Nat) (a : Int32), p ≤ size → OC T0 size a b01 bI (cl p) (rc (tS T0 (jI p) 0 a))) ∧ (∀ w a : Int32, w ≠ 0 → ∃ v, b01 v ∧ rc (tS T0 (jI size) w a) = some (v, tS T0 (jI size) w a)) ∧ ∀ p v q, cl p = .inl (v, q) → p < q
theorem fX7_either_d7 {T0 : dt_Ob} {c : Nat → Int} {size : Nat} {F : Nat → Int32} (h : VC T0 c size F) (rc : Int32 → dt_Ob → Option (Int32 × dt_Ob)) (x1 : Int32) (w a : Int32) (hw : w ≠ 0) (hr : ∃ v, b01 v ∧ rc x1 (tS T0 (jI size) w a) = some (v, tS T0 (jI size) w a)) (f : Nat) (x2 x3 x4 : Int32) (h2 : b01 x2) : ∃ v, b01 v ∧ fX7_either_7 rc (f + 1) x1 x2 x3 x4 (tS T0 (jI size) w a) = some (v, tS T0 (jI size) w a) := by
  obtain ⟨v, hv, hr⟩ := hr
  have e36 : ∀ s0 : Int32, ∃ v, b01 v ∧ fX7_either_36 rc (fX7_either_7 rc f) x1 x2 x4 s0 (tS T0 (jI size) w a) = some (v, tS T0 (jI size) w a) := by
    intro s0
    unfold fX7_either_36 fX7_either_59 fX7_either_64 fX7_either_67
    rw [peek_d h, dt_b1, if_neg (show ¬ jI 30000 = 20003 by decide +kernel), if_neg (show ¬ jI 30000 = 20002 by decide +kernel), if_pos (show (0 : Int32) = 0 ∨ (0 : Int32) = 1 from Or.inl rfl), if_pos (show (1 : Int32) = 0 ∨ (1 : Int32) = 1 from Or.inr rfl)]
    simp only [if_neg (show ¬ jI 30000 = (20003 : Int32) by decide +kernel), if_neg (show ¬ jI 30000 = (20002 : Int32) by decide +kernel)]
    repeat' split
    all_goals first
      | exact ⟨0, Or.inl rfl, rfl⟩
      | exact ⟨1, Or.inr rfl, rfl⟩
  unfold fX7_either_7 fX7_either_35
  by_cases z : (400 : Int32) < x4
  · rw [if_pos z, if_pos h2]; exact ⟨x2, h2, rfl⟩
  · rw [if_neg z, hr, dt_b1]
    by_cases y : x3 = 0
    · rw [if_pos y]; exact e36 0
    · rw [if_neg y]
      by_cases x : v = 0
      · rw [if_pos x]; exact e36 0
      · rw [if_neg x]; exact e36 1
theorem fX7_either_j7 {T0 : dt_Ob} {c : Nat → Int} {size : Nat} {F : Nat → Int32} (h : VC T0 c size F) (rc : Int32 → dt_Ob → Option (Int32 × dt_Ob)) (x1 : Int32) (cl : Nat → (Bool × Nat) ⊕ (Int × Nat)) (hc : CL T0 size (rc x1) cl) (a : Int32) : ∀ (d fuel rf i p : Nat) (any all : Bool), p + d = size → d + 1 < fuel → d < rf → i ≤ p → OC T0 size a b01 bI (rEith c cl rf p any all) (fX7_either_7 rc fuel x1 (bI any) (bI all) (jI i) (tS T0 (jI p) 0 a)) := by
  have hs := h.1.2.1
  intro d
  induction d using Nat.strongRecOn with
  | _ d ih =>
    intro fuel rf i p any all hd hf hr hi'
    obtain ⟨f, rfl⟩ : ∃ f, fuel = f + 1 := ⟨fuel - 1, by omega⟩
    obtain ⟨rg, rfl⟩ : ∃ f, rf = f + 1 := ⟨rf - 1, by omega⟩
    have n400 : ¬ (400 : Int32) < jI i := by rw [show (400 : Int32) = jI 400 from rfl, jI_lt _ _ (by omega) (by omega) (by omega) (by omega)]; omega
    have ci : jI i + (1 : Int32) = jI ((i + 1 : Nat) : Int) := by rw [show (1 : Int32) = jI 1 from rfl, jI_add]; rfl
    have k := hc.1 p a (by omega)
    unfold fX7_either_7
    rw [if_neg n400]
    rw [show rEith c cl (rg + 1) p any all = (match cl p with | .inr e => .inr e | .inl (so, q) => if c q = 20003 then rEith c cl rg (q + 1) any (all && so) else if c q = 20002 then rEith c cl rg (q + 1) (any || (all && so)) true else .inl (any || (all && so), q)) from rfl]
    -- behind a claim: any, and what all was with it
    have sel : ∀ (v : Int32) (T : dt_Ob), b01 v → (if bI all = 0 then (fX7_either_35 rc (fX7_either_7 rc f) x1 (bI any) (jI i) T) else (if v = 0 then (fX7_either_35 rc (fX7_either_7 rc f) x1 (bI any) (jI i) T) else (fX7_either_36 rc (fX7_either_7 rc f) x1 (bI any) (jI i) (1 : Int32) T))) = fX7_either_36 rc (fX7_either_7 rc f) x1 (bI any) (jI i) (if bI all = 0 then 0 else v) T := by
      intro v T hv
      unfold fX7_either_35
      cases all
      · rfl
      · rw [show bI true = 1 from rfl, if_neg n10, if_neg n10]
        rcases hv with e | e
        · rw [e, if_pos rfl]
        · rw [e, if_neg n10]
    cases hcl : cl p with
    | inr kq =>
      obtain ⟨kk, q⟩ := kq
      rw [hcl] at k
      obtain ⟨u1, u2, v, u3, u4⟩ := k
      rw [u4, dt_b1]
      dsimp only
      rw [sel v _ u3]
      have hd2 := hc.2.1 (jI kk) (T0 1 q) (kne u1)
      have e36 : ∀ s0 : Int32, ∃ v, b01 v ∧ fX7_either_36 rc (fX7_either_7 rc f) x1 (bI any) (jI i) s0 (tS T0 (jI size) (jI kk) (T0 1 q)) = some (v, tS T0 (jI size) (jI kk) (T0 1 q)) := by
        intro s0
        unfold fX7_either_36 fX7_either_59 fX7_either_64 fX7_either_67
        rw [peek_d h, dt_b1]
        simp only [if_neg (show ¬ jI 30000 = (20003 : Int32) by decide +kernel), if_neg (show ¬ jI 30000 = (20002 : Int32) by decide +kernel)]
        cases any
        · repeat' split
          all_goals first
            | exact ⟨0, Or.inl rfl, rfl⟩
            | exact ⟨1, Or.inr rfl, rfl⟩
            | (rename_i q; exact absurd (Or.inl rfl) q)
            | (rename_i q; exact absurd (Or.inr rfl) q)
            | (rename_i q; exact absurd (Or.inl trivial) q)
            | (rename_i q; exact absurd (Or.inr trivial) q)
        · repeat' split
          all_goals first
            | exact ⟨0, Or.inl rfl, rfl⟩
            | exact ⟨1, Or.inr rfl, rfl⟩
            | (rename_i q; exact absurd (Or.inl rfl) q)
            | (rename_i q; exact absurd (Or.inr rfl) q)
            | (rename_i q; exact absurd (Or.inl trivial) q)
            | (rename_i q; exact absurd (Or.inr trivial) q)
      obtain ⟨v', w1, w2⟩ := e36 (if bI all = 0 then 0 else v)
      exact ⟨u1, u2, v', w1, w2⟩
    | inl sq =>
      obtain ⟨so, q⟩ := sq
      rw [hcl] at k
      obtain ⟨u1, u2⟩ := k
      have pq := hc.2.2 p so q hcl
      have r := VC_rng h q
      have e3 : (jI (c q) = (20003 : Int32)) = (c q = 20003) := jcne _ 20003 r (by omega)
      have e2 : (jI (c q) = (20002 : Int32)) = (c q = 20002) := jcne _ 20002 r (by omega)
      have nx : tS T0 (jI q) 0 a 3 0 + (1 : Int32) = jI ((q + 1 : Nat) : Int) := by rw [tS_3, show (1 : Int32) = jI 1 from rfl, jI_add]; rfl
      have al : (if bI all = 0 then (0 : Int32) else bI so) = bI (all && so) := by cases all <;> cases so <;> rfl
      rw [u1, dt_b1]
      dsimp only
      rw [sel _ _ (bI_01 so), al]
      unfold fX7_either_36 fX7_either_59 fX7_either_64 fX7_either_67 fX7_either_85
      rw [fX7_peek_j h q u2, dt_b1, nx, tS_s3, ci]
      simp only [e3, e2]
      by_cases z3 : c q = 20003
      · have qs := VC_stop h q (by omega)
        simp only [if_pos z3]
        exact ih (size - (q + 1)) (by omega) f rg (i + 1) (q + 1) any (all && so) (by omega) (by omega) (by omega) (by omega)
      · simp only [if_neg z3]
        by_cases z2 : c q = 20002
        · have qs := VC_stop h q (by omega)
          simp only [if_pos z2]
          have g := ih (size - (q + 1)) (by omega) f rg (i + 1) (q + 1) (any || (all && so)) true (by omega) (by omega) (by omega) (by omega)
          revert g
          generalize (all && so) = x
          intro g
          cases any <;> cases x <;> exact g
        · simp only [if_neg z2]
          refine ⟨?_, u2⟩
          cases any <;> cases (all && so) <;> first | rfl | simp [bI]
theorem fX7_either_j {T0 : dt_Ob} {c : Nat → Int} {size : Nat} {F : Nat → Int32} (h : VC T0 c size F) (rc : Int32 → dt_Ob → Option (Int32 × dt_Ob)) (x1 : Int32) (cl : Nat → (Bool × Nat) ⊕ (Int × Nat)) (hc : CL T0 size (rc x1) cl) (a : Int32) (p : Nat) (hp : p ≤ size) : OC T0 size a b01 bI (rEith c cl 500 p false true) (fX7_either rc x1 (tS T0 (jI p) 0 a)) := by
  have hs := h.1.2.1
  exact fX7_either_j7 h rc x1 cl hc a (size - p) dt_F 500 0 p false true (by omega) (by unfold dt_F; omega) (by omega) (by omega)
