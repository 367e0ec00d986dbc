/-! ===== the class reads a vow ===== -/
/-- where it is, its fault, the fault's place -/
def tS (T0 : dt_Ob) (p w a : Int32) : dt_Ob := fun j => if j = 3 then upd (T0 3) 0 p else if j = 6 then upd (T0 6) 0 w else if j = 7 then upd (T0 7) 0 a else T0 j
theorem tS_o (T0 : dt_Ob) (p w a : Int32) (j : Nat) (h3 : j ≠ 3) (h6 : j ≠ 6) (h7 : j ≠ 7) : tS T0 p w a j = T0 j := by unfold tS; rw [if_neg h3, if_neg h6, if_neg h7]
theorem tS_3 (T0 : dt_Ob) (p w a : Int32) : tS T0 p w a 3 0 = p := rfl
theorem tS_6 (T0 : dt_Ob) (p w a : Int32) : tS T0 p w a 6 0 = w := rfl
theorem tS_7 (T0 : dt_Ob) (p w a : Int32) : tS T0 p w a 7 0 = a := rfl
theorem tS_s3 (T0 : dt_Ob) (p w a v : Int32) : dt_set (tS T0 p w a) 3 0 v = tS T0 v w a := by
  funext j i
  by_cases h : j = 3
  · subst h
    rw [dt_set_s]
    show upd (upd (T0 3) 0 p) 0 v i = upd (T0 3) 0 v i
    by_cases e : i = 0
    · rw [upd_e _ _ _ _ e, upd_e _ _ _ _ e]
    · rw [upd_n _ _ _ _ e, upd_n _ _ _ _ e, upd_n _ _ _ _ e]
  · rw [dt_set_n _ _ _ _ _ h]
    unfold tS
    rw [if_neg h, if_neg h]
theorem tS_s6 (T0 : dt_Ob) (p w a v : Int32) : dt_set (tS T0 p w a) 6 0 v = tS T0 p v a := by
  funext j i
  by_cases h : j = 6
  · subst h
    rw [dt_set_s]
    show upd (upd (T0 6) 0 w) 0 v i = upd (T0 6) 0 v i
    by_cases e : i = 0
    · rw [upd_e _ _ _ _ e, upd_e _ _ _ _ e]
    · rw [upd_n _ _ _ _ e, upd_n _ _ _ _ e, upd_n _ _ _ _ e]
  · rw [dt_set_n _ _ _ _ _ h]
    unfold tS
    rw [if_neg h, if_neg h]
theorem tS_s7 (T0 : dt_Ob) (p w a v : Int32) : dt_set (tS T0 p w a) 7 0 v = tS T0 p w v := by
  funext j i
  by_cases h : j = 7
  · subst h
    rw [dt_set_s]
    show upd (upd (T0 7) 0 a) 0 v i = upd (T0 7) 0 v i
    by_cases e : i = 0
    · rw [upd_e _ _ _ _ e, upd_e _ _ _ _ e]
    · rw [upd_n _ _ _ _ e, upd_n _ _ _ _ e, upd_n _ _ _ _ e]
  · rw [dt_set_n _ _ _ _ _ h]
    unfold tS
    rw [if_neg h, if_neg h]
def VC (T0 : dt_Ob) (c : Nat → Int) (size : Nat) (F : Nat → Int32) : Prop := VS T0 c size ∧ ∀ j, j < 7 → T0 4 j = F j
theorem VC_rng {T0 : dt_Ob} {c : Nat → Int} {size : Nat} {F : Nat → Int32} (h : VC T0 c size F) (p : Nat) : 0 ≤ c p ∧ c p ≤ 30001 := by
  by_cases z : p < size
  · have := h.1.2.2.1 p z; omega
  · rw [h.1.2.2.2 p (by omega)]; omega
theorem VC_stop {T0 : dt_Ob} {c : Nat → Int} {size : Nat} {F : Nat → Int32} (h : VC T0 c size F) (p : Nat) (z : c p ≠ 30000) : p < size := by
  by_cases y : p < size
  · exact y
  · exact absurd (h.1.2.2.2 p (by omega)) z
theorem fX7_peek_j {T0 : dt_Ob} {c : Nat → Int} {size : Nat} {F : Nat → Int32} (h : VC T0 c size F) (p : Nat) (hp : p ≤ size) (w a : Int32) : fX7_peek (tS T0 (jI p) w a) = some (jI (c p)) := by
  have hs := h.1.2.1
  unfold fX7_peek fX7_peek_30
  rw [tS_3, tS_o T0 _ _ _ 2 (by omega) (by omega) (by omega), tS_o T0 _ _ _ 0 (by omega) (by omega) (by omega), h.1.1, if_neg (by rw [show (0 : Int32) = jI 0 from rfl, jI_lt _ _ (by omega) (by omega) (by omega) (by omega)]; omega)]
  by_cases z : p < size
  · rw [if_neg (by rw [jI_le _ _ (by omega) (by omega) (by omega) (by omega)]; omega), dt_ix_n p 401 (by omega) (by omega), dt_b1, (h.1.2.2.1 p z).1]
  · rw [if_pos (by rw [jI_le _ _ (by omega) (by omega) (by omega) (by omega)]; omega), h.1.2.2.2 p (by omega)]
    rfl
theorem fX7_fail_j {T0 : dt_Ob} {c : Nat → Int} {size : Nat} {F : Nat → Int32} (h : VC T0 c size F) (p : Nat) (hp : p ≤ size) (k a : Int32) : fX7_fail k (tS T0 (jI p) 0 a) = some (tS T0 (jI size) k (T0 1 p)) := by
  have hs := h.1.2.1
  unfold fX7_fail fX7_fail_44 fX7_fail_47
  rw [tS_6, if_pos rfl, tS_3, tS_o T0 _ _ _ 2 (by omega) (by omega) (by omega), h.1.1, if_neg (by rw [show (0 : Int32) = jI 0 from rfl, jI_lt _ _ (by omega) (by omega) (by omega) (by omega)]; omega), if_neg (by rw [jI_lt _ _ (by omega) (by omega) (by omega) (by omega)]; omega), dt_ix_n p 401 (by omega) (by omega), dt_b1, tS_s6, tS_o T0 _ _ _ 1 (by omega) (by omega) (by omega), tS_s7, tS_o T0 _ _ _ 2 (by omega) (by omega) (by omega), h.1.1, tS_s3]
theorem fX7_fail_d {T0 : dt_Ob} {c : Nat → Int} {size : Nat} {F : Nat → Int32} (h : VC T0 c size F) (k w a : Int32) (hw : w ≠ 0) : fX7_fail k (tS T0 (jI size) w a) = some (tS T0 (jI size) w a) := by
  unfold fX7_fail fX7_fail_47
  rw [tS_6, if_neg hw, tS_o T0 _ _ _ 2 (by omega) (by omega) (by omega), h.1.1, tS_s3]
theorem peek_d {T0 : dt_Ob} {c : Nat → Int} {size : Nat} {F : Nat → Int32} (h : VC T0 c size F) (w a : Int32) : fX7_peek (tS T0 (jI size) w a) = some (jI 30000) := by
  rw [fX7_peek_j h size (Nat.le_refl _), h.1.2.2.2 size (Nat.le_refl _)]
/-- what a piece of the reading comes to -/
def OC {α : Type} (T0 : dt_Ob) (size : Nat) (a : Int32) (P : Int32 → Prop) (enc : α → Int32) (r : (α × Nat) ⊕ (Int × Nat)) (out : Option (Int32 × dt_Ob)) : Prop := match r with
  | .inl (v, q) => out = some (enc v, tS T0 (jI q) 0 a) ∧ q ≤ size
  | .inr (k, q) => (1 ≤ k ∧ k ≤ 3) ∧ q ≤ size ∧ ∃ v, P v ∧ out = some (v, tS T0 (jI size) (jI k) (T0 1 q))
theorem jcne (x y : Int) (hx : 0 ≤ x ∧ x ≤ 30001) (hy : 0 ≤ y ∧ y ≤ 100000) : (jI x = jI y) = (x = y) := jI_eq x y (by omega) (by omega) (by omega) (by omega)
theorem fX7_unit_j {T0 : dt_Ob} {c : Nat → Int} {size : Nat} {F : Nat → Int32} (h : VC T0 c size F) (p : Nat) (hp : p ≤ size) (a : Int32) : OC T0 size a (fun _ => True) (fun x => x) (rUnit c F p) (fX7_unit (tS T0 (jI p) 0 a)) := by
  have r := VC_rng h p
  have hs := h.1.2.1
  have l1 : ((10000 : Int32) ≤ jI (c p)) = (10000 ≤ c p) := jI_le 10000 _ (by omega) (by omega) (by omega) (by omega)
  have l2 : (jI (c p) - (20005 : Int32) < 0) = (c p - 20005 < 0) := by rw [show (20005 : Int32) = jI 20005 from rfl, jI_sub]; exact jI_lt _ 0 (by omega) (by omega) (by omega) (by omega)
  have l3 : (jI (c p) - (20005 : Int32) < (7 : Int32)) = (c p - 20005 < 7) := by rw [show (20005 : Int32) = jI 20005 from rfl, jI_sub]; exact jI_lt _ 7 (by omega) (by omega) (by omega) (by omega)
  have nx : tS T0 (jI p) 0 a 3 0 + (1 : Int32) = jI ((p + 1 : Nat) : Int) := by rw [tS_3, show (1 : Int32) = jI 1 from rfl, jI_add]; rfl
  unfold fX7_unit fX7_unit_40 rUnit
  rw [fX7_peek_j h p hp, dt_b1, nx, tS_s3, fX7_fail_j h p hp, dt_b1]
  simp only [l1, l2, l3]
  by_cases z : c p < 10000
  · rw [if_pos z, if_neg (show ¬ 10000 ≤ c p by omega)]
    exact ⟨rfl, by have := VC_stop h p (by omega); omega⟩
  · rw [if_neg z, if_pos (show 10000 ≤ c p by omega)]
    by_cases y : 20005 ≤ c p ∧ c p < 20012
    · have ix : dt_ix (jI (c p) - (20005 : Int32)) 7 = some (c p - 20005).toNat := by
        rw [show (20005 : Int32) = jI 20005 from rfl, jI_sub, dt_ix_j _ _ (by omega) (by omega) (by omega)]
      rw [if_pos y, if_neg (show ¬ c p - 20005 < 0 by omega), if_pos (show c p - 20005 < 7 by omega), ix, dt_b1, tS_o T0 _ _ _ 4 (by omega) (by omega) (by omega), h.2 _ (by omega)]
      exact ⟨rfl, by have := VC_stop h p (by omega); omega⟩
    · rw [if_neg y]
      have e : OC T0 size a (fun _ => True) (fun x => x) (.inr (1, p)) (some ((0 : Int32), tS T0 (jI size) 1 (T0 1 p))) := ⟨by omega, hp, 0, trivial, rfl⟩
      by_cases x : c p - 20005 < 0
      · rw [if_pos x]; exact e
      · rw [if_neg x, if_neg (show ¬ c p - 20005 < 7 by omega)]; exact e
theorem fX7_unit_d {T0 : dt_Ob} {c : Nat → Int} {size : Nat} {F : Nat → Int32} (h : VC T0 c size F) (w a : Int32) (hw : w ≠ 0) : fX7_unit (tS T0 (jI size) w a) = some (0, tS T0 (jI size) w a) := by
  unfold fX7_unit fX7_unit_40
  rw [peek_d h, dt_b1, if_pos (by decide +kernel), if_neg (by decide +kernel), if_neg (by decide +kernel), fX7_fail_d h _ _ _ hw, dt_b1]
theorem fX7_sum_d12 {T0 : dt_Ob} {c : Nat → Int} {size : Nat} {F : Nat → Int32} (h : VC T0 c size F) (w a : Int32) (hw : w ≠ 0) (fuel : Nat) (x1 x2 x3 x4 : Int32) : ∃ v, fX7_sum_12 (fuel + 1) x1 x2 x3 x4 (tS T0 (jI size) w a) = some (v, tS T0 (jI size) w a) := by
  unfold fX7_sum_12
  by_cases z : (400 : Int32) < x4
  · rw [if_pos z]; exact ⟨_, rfl⟩
  · rw [if_neg z, peek_d h, dt_b1, if_neg (by decide +kernel), if_neg (by decide +kernel)]
    unfold fX7_sum_47 fX7_sum_117
    rw [if_neg (by decide +kernel), if_neg (by decide +kernel), if_pos rfl, if_pos rfl]
    by_cases y : x2 = 0
    · rw [if_pos y]; exact ⟨_, rfl⟩
    · rw [if_neg y]; exact ⟨_, rfl⟩
theorem fX7_sum_d {T0 : dt_Ob} {c : Nat → Int} {size : Nat} {F : Nat → Int32} (h : VC T0 c size F) (w a : Int32) (hw : w ≠ 0) : ∃ v, fX7_sum (tS T0 (jI size) w a) = some (v, tS T0 (jI size) w a) := by
  unfold fX7_sum
  rw [fX7_unit_d h w a hw, dt_b1]
  exact fX7_sum_d12 h w a hw 1999 _ _ _ _
theorem fX7_sum_j12 {T0 : dt_Ob} {c : Nat → Int} {size : Nat} {F : Nat → Int32} (h : VC T0 c size F) (a : Int32) : ∀ (d fuel rf i p : Nat) (total : Int32) (less : Bool) (term : Int32), p + d = size → d + 1 < fuel → d < rf → i < p → OC T0 size a (fun _ => True) (fun x => x) (rSumL c F rf p total less term) (fX7_sum_12 fuel total (bI less) term (jI i) (tS T0 (jI p) 0 a)) := by
  have hs := h.1.2.1
  intro d
  induction d using Nat.strongRecOn with
  | _ d ih =>
    intro fuel rf i p total less term hd hf hr hi'
    obtain ⟨f, rfl⟩ : ∃ f, fuel = f + 1 := ⟨fuel - 1, by omega⟩
    obtain ⟨rg, rfl⟩ : ∃ f, rf = f + 1 := ⟨rf - 1, by omega⟩
    have r := VC_rng h p
    have nx : tS T0 (jI p) 0 a 3 0 + (1 : Int32) = jI ((p + 1 : Nat) : Int) := by rw [tS_3, show (1 : Int32) = jI 1 from rfl, jI_add]; rfl
    have ci : jI i + (1 : Int32) = jI ((i + 1 : Nat) : Int) := by rw [show (1 : Int32) = jI 1 from rfl, jI_add]; rfl
    have e43 : (jI (c p) = (10043 : Int32)) = (c p = 10043) := jcne (c p) 10043 r (by omega)
    have e45 : (jI (c p) = (10045 : Int32)) = (c p = 10045) := jcne (c p) 10045 r (by omega)
    have e42 : (jI (c p) = (10042 : Int32)) = (c p = 10042) := jcne (c p) 10042 r (by omega)
    have e47 : (jI (c p) = (10047 : Int32)) = (c p = 10047) := jcne (c p) 10047 r (by omega)
    have n400 : ¬ (400 : Int32) < jI i := by rw [show (400 : Int32) = jI 400 from rfl, jI_lt _ _ (by omega) (by omega) (by omega) (by omega)]; omega
    have hbl : (bI less = 0) = (less = false) := by cases less <;> simp [bI]
    have tot : (if bI less = 0 then total + term else total - term) = (if less then total - term else total + term) := by cases less <;> rfl
    -- a unit next, then on
    have un : ∀ (g1 : Int32 → Int32) (g2 : Int32 → Int32) (t1 : Int32) (l1 : Bool), p < size → OC T0 size a (fun _ => True) (fun x => x) (match rUnit c F (p + 1) with | .inl (v, q) => rSumL c F rg q t1 l1 (g1 v) | .inr e => .inr e) ((fX7_unit (tS T0 (jI ((p + 1 : Nat) : Int)) 0 a)).bind fun q4 => fX7_sum_12 f t1 (bI l1) (g1 q4.1) (jI ((i + 1 : Nat) : Int)) q4.2) := by
      intro g1 g2 t1 l1 hps
      have u := fX7_unit_j h (p + 1) (by omega) a
      cases hu : rUnit c F (p + 1) with
      | inl vq =>
        obtain ⟨v, q⟩ := vq
        rw [hu] at u
        obtain ⟨u1, u2⟩ := u
        have qp : q = p + 2 := by
          unfold rUnit at hu
          split at hu
          · cases hu; rfl
          · split at hu
            · cases hu; rfl
            · cases hu
        rw [u1, dt_b1]
        exact ih (size - q) (by omega) f rg (i + 1) q t1 l1 (g1 v) (by omega) (by omega) (by omega) (by omega)
      | inr kq =>
        obtain ⟨k, q⟩ := kq
        rw [hu] at u
        obtain ⟨u1, u2, v, -, u3⟩ := u
        rw [u3, dt_b1]
        obtain ⟨f2, rfl⟩ : ∃ f2, f = f2 + 1 := ⟨f - 1, by omega⟩
        obtain ⟨v2, hv2⟩ := fX7_sum_d12 h (jI k) (T0 1 q) (by rw [show (0 : Int32) = jI 0 from rfl, Ne, jI_eq _ _ (by omega) (by omega) (by omega) (by omega)]; omega) f2 t1 (bI l1) (g1 v) (jI ((i + 1 : Nat) : Int))
        exact ⟨u1, u2, v2, trivial, hv2⟩
    unfold fX7_sum_12
    rw [if_neg n400, fX7_peek_j h p (by omega), dt_b1]
    rw [show rSumL c F (rg + 1) p total less term = (if c p = 10042 then (match rUnit c F (p + 1) with | .inl (v, q) => rSumL c F rg q total less (term * v) | .inr e => .inr e)
      else if c p = 10047 then (if c (p + 1) = 0 then .inr (2, p + 1) else if c (p + 1) < 10000 then rSumL c F rg (p + 2) total less (term / jI (c (p + 1))) else .inr (1, p + 1))
      else if c p = 10043 ∨ c p = 10045 then (match rUnit c F (p + 1) with | .inl (v, q) => rSumL c F rg q (if less then total - term else total + term) (decide (c p = 10045)) v | .inr e => .inr e)
      else .inl ((if less then total - term else total + term), p)) from rfl]
    have m43 : c p ≠ 10043 → ¬ jI (c p) = (10043 : Int32) := fun z => by rw [e43]; exact z
    have m45 : c p ≠ 10045 → ¬ jI (c p) = (10045 : Int32) := fun z => by rw [e45]; exact z
    have m42 : c p ≠ 10042 → ¬ jI (c p) = (10042 : Int32) := fun z => by rw [e42]; exact z
    have m47 : c p ≠ 10047 → ¬ jI (c p) = (10047 : Int32) := fun z => by rw [e47]; exact z
    have p43 : c p = 10043 → jI (c p) = (10043 : Int32) := fun z => by rw [e43]; exact z
    have p45 : c p = 10045 → jI (c p) = (10045 : Int32) := fun z => by rw [e45]; exact z
    have p42 : c p = 10042 → jI (c p) = (10042 : Int32) := fun z => by rw [e42]; exact z
    have p47 : c p = 10047 → jI (c p) = (10047 : Int32) := fun z => by rw [e47]; exact z
    by_cases z42 : c p = 10042
    · rw [if_neg (m43 (by omega)), if_neg (m45 (by omega)), if_pos z42]
      unfold fX7_sum_47 fX7_sum_154
      rw [if_pos (p42 z42), nx, tS_s3, ci]
      exact un (fun v => term * v) (fun v => v) total less (VC_stop h p (by omega))
    · rw [if_neg z42]
      by_cases z47 : c p = 10047
      · have ps := VC_stop h p (by omega)
        have r2 := VC_rng h (p + 1)
        have d0 : (jI (c (p + 1)) = (0 : Int32)) = (c (p + 1) = 0) := jcne _ 0 r2 (by omega)
        have d1 : (jI (c (p + 1)) < (10000 : Int32)) = (c (p + 1) < 10000) := jI_lt _ 10000 (by omega) (by omega) (by omega) (by omega)
        have nx2 : tS T0 (jI ((p + 1 : Nat) : Int)) 0 a 3 0 + (1 : Int32) = jI ((p + 2 : Nat) : Int) := by rw [tS_3, show (1 : Int32) = jI 1 from rfl, jI_add]; rfl
        rw [if_neg (m43 (by omega)), if_neg (m45 (by omega)), if_pos z47]
        unfold fX7_sum_47 fX7_sum_154
        rw [if_neg (m42 z42), if_pos (p47 z47), nx, tS_s3, ci]
        unfold fX7_partOf
        rw [fX7_peek_j h (p + 1) (by omega), dt_b1, fX7_fail_j h (p + 1) (by omega), fX7_fail_j h (p + 1) (by omega), dt_b1, dt_b1, nx2, tS_s3]
        have dead : ∀ k : Int, (1 ≤ k ∧ k ≤ 3) → OC T0 size a (fun _ => True) (fun x => x) (.inr (k, p + 1) : (Int32 × Nat) ⊕ (Int × Nat)) ((some ((0 : Int32), tS T0 (jI size) (jI k) (T0 1 (p + 1)))).bind fun q3 => fX7_sum_12 f total (bI less) q3.1 (jI ((i + 1 : Nat) : Int)) q3.2) := by
          intro k hk
          obtain ⟨f2, rfl⟩ : ∃ f2, f = f2 + 1 := ⟨f - 1, by omega⟩
          obtain ⟨v2, hv2⟩ := fX7_sum_d12 h (jI k) (T0 1 (p + 1)) (by rw [show (0 : Int32) = jI 0 from rfl, Ne, jI_eq _ _ (by omega) (by omega) (by omega) (by omega)]; omega) f2 total (bI less) 0 (jI ((i + 1 : Nat) : Int))
          exact ⟨hk, by omega, v2, trivial, hv2⟩
        by_cases y0 : c (p + 1) = 0
        · rw [if_pos y0, if_pos (show jI (c (p + 1)) = 0 by rw [d0]; exact y0)]
          exact dead 2 (by omega)
        · have y0' : ¬ jI (c (p + 1)) = 0 := by rw [d0]; exact y0
          simp only [if_neg y0, if_neg y0']
          by_cases y1 : c (p + 1) < 10000
          · rw [if_pos y1, if_pos (show jI (c (p + 1)) < 10000 by rw [d1]; exact y1), dt_b1]
            have ps2 := VC_stop h (p + 1) (by omega)
            exact ih (size - (p + 2)) (by omega) f rg (i + 1) (p + 2) total less (term / jI (c (p + 1))) (by omega) (by omega) (by omega) (by omega)
          · rw [if_neg y1, if_neg (show ¬ jI (c (p + 1)) < 10000 by rw [d1]; exact y1)]
            exact dead 1 (by omega)
      · rw [if_neg z47]
        by_cases zj : c p = 10043 ∨ c p = 10045
        · have ps := VC_stop h p (by omega)
          have q : fX7_sum_42 (fX7_sum_12 f) total (bI less) term (jI i) (jI (c p)) (tS T0 (jI p) 0 a) = ((fX7_unit (tS T0 (jI ((p + 1 : Nat) : Int)) 0 a)).bind fun q4 => fX7_sum_12 f (if less then total - term else total + term) (bI (decide (c p = 10045))) q4.1 (jI ((i + 1 : Nat) : Int)) q4.2) := by
            unfold fX7_sum_42 fX7_sum_47 fX7_sum_117 fX7_sum_148 fX7_sum_154
            rw [if_neg (m42 z42), if_neg (m47 z47), i10, i10, nx, tS_s3, ci]
            have lb : ∀ X Y : Int32 → Option (Int32 × dt_Ob), (if bI less = 0 then X (total + term) else X (total - term)) = X (if less then total - term else total + term) := by
              intro X _
              cases less <;> rfl
            by_cases w45 : c p = 10045
            · simp only [if_pos (p45 w45)]
              rw [decide_eq_true w45]
              cases less <;> rfl
            · simp only [if_neg (m45 w45)]
              rw [decide_eq_false w45]
              cases less <;> rfl
          rw [if_pos zj, q]
          have g := un (fun v => v) (fun v => v) (if less then total - term else total + term) (decide (c p = 10045)) ps
          by_cases w43 : c p = 10043
          · rw [if_pos (p43 w43)]
            exact g
          · rw [if_neg (m43 w43), if_pos (p45 (by omega))]
            exact g
        · rw [if_neg zj, if_neg (m43 (by omega)), if_neg (m45 (by omega))]
          unfold fX7_sum_47 fX7_sum_117
          rw [if_neg (m42 z42), if_neg (m47 z47), i00, i00]
          refine ⟨?_, by omega⟩
          cases less <;> rfl
theorem fX7_sum_j {T0 : dt_Ob} {c : Nat → Int} {size : Nat} {F : Nat → Int32} (h : VC T0 c size F) (p : Nat) (hp : p ≤ size) (a : Int32) : OC T0 size a (fun _ => True) (fun x => x) (rSum c F p) (fX7_sum (tS T0 (jI p) 0 a)) := by
  have hs := h.1.2.1
  have u := fX7_unit_j h p hp a
  unfold fX7_sum rSum
  cases hu : rUnit c F p with
  | inl vq =>
    obtain ⟨v, q⟩ := vq
    rw [hu] at u
    obtain ⟨u1, u2⟩ := u
    have qp : q = p + 1 := by
      unfold rUnit at hu
      split at hu
      · cases hu; rfl
      · split at hu
        · cases hu; rfl
        · cases hu
    rw [u1, dt_b1]
    exact fX7_sum_j12 h a (size - q) dt_F 500 0 q 0 false v (by omega) (by unfold dt_F; omega) (by omega) (by omega)
  | inr kq =>
    obtain ⟨k, q⟩ := kq
    rw [hu] at u
    obtain ⟨u1, u2, v, -, u3⟩ := u
    rw [u3, dt_b1]
    obtain ⟨v2, hv2⟩ := fX7_sum_d12 h (jI k) (T0 1 q) (by rw [show (0 : Int32) = jI 0 from rfl, Ne, jI_eq _ _ (by omega) (by omega) (by omega) (by omega)]; omega) 1999 0 0 v 0
    exact ⟨u1, u2, v2, trivial, hv2⟩
