/-! ===== plan: a step of the class's search ===== -/
def CBt (P : dt_Ob) (n : Nat) (g : Nat → Nat → Int) (B : Bst) : Prop := (B = none → P 6 0 = 1000000) ∧ ∀ q, B = some q → P 6 0 = jI (csP n g q) ∧ ∀ i s, q[i]? = some s → P 2 i = jI s.1 ∧ P 3 i = jI s.2
def CSt (n : Nat) (W : Int) (g : Nat → Nat → Int) (goal : Int) (N : Nat) (pre : List Cry) (P T : dt_Ob) (B : Bst) : Prop := TW T n W (runP n g pre) ∧ P 4 0 = jI goal ∧ P 5 0 = jI N ∧ CPr P pre ∧ CBt P n g B ∧ ∀ q, B = some q → IsPlan n W g goal N q
theorem CPr_add {P : dt_Ob} {pre : List Cry} (h : CPr P pre) (s : Cry) : CPr (dt_set (dt_set P 0 pre.length (jI s.1)) 1 pre.length (jI s.2)) (pre ++ [s]) := by
  intro i t ht
  rw [dt_set_n _ _ _ _ _ (show 0 ≠ 1 by omega), dt_set_s, dt_set_s, dt_set_n _ _ _ _ _ (show 1 ≠ 0 by omega)]
  have l := get_lt ht
  rw [List.length_append] at l
  have l1 : [s].length = 1 := rfl
  by_cases z : i = pre.length
  · subst z
    rw [List.getElem?_append_right (Nat.le_refl _), Nat.sub_self] at ht
    have e : s = t := Option.some.inj ht
    rw [upd_s, upd_s, e]; exact ⟨rfl, rfl⟩
  · rw [upd_n _ _ _ _ z, upd_n _ _ _ _ z]
    rw [List.getElem?_append_left (by omega)] at ht
    exact h i t ht
theorem CPr_sub {P : dt_Ob} {pre : List Cry} {s : Cry} (h : CPr P (pre ++ [s])) : CPr P pre := by
  intro i t ht
  have l := get_lt ht
  exact h i t (by rw [List.getElem?_append_left l]; exact ht)
/-- a best plan's next carry: none of the class's cuts meets it -/
theorem cut_late {n : Nat} {W : Int} {g : Nat → Nat → Int} (ho : okT n W g) {goal : Int} {N : Nat} (pre : List Cry) (s : Cry) (q1 q2 : List Cry) (t : Cry) (e : pre = q1 ++ t :: q2) (ha : ∀ u, u ∈ t :: q2 → apart g u s) (hlt : s.1 < t.1) (p r : List Cry) (hp : Opt n W g goal N p) (ep : p = (pre ++ [s]) ++ r) : False := by
  have ep' : p = q1 ++ ((t :: q2) ++ s :: r) := by
    rw [ep, e]; simp
  rw [ep'] at hp
  exact no_late ho q1 q2 r t s hp ha hlt
theorem cut_hope {n : Nat} {W : Int} {g : Nat → Nat → Int} (ho : okT n W g) {goal : Int} {N : Nat} (hno : ∀ p, ¬ IsPlan n W g goal N p) (pre : List Cry) (hv : VdP n W g pre) (h : ((N + 1 : Nat) : Int) - pre.length < goal - tp (runP n g pre) n ∨ ∃ L : Nat, 1 ≤ L ∧ (∀ b, b < n → runP n g pre 5 b < 0 → runP n g pre 0 b ≤ L) ∧ (N + 1 - pre.length) * (L - 1) + 1 < cp (fun s => bare n (runP n g pre) s.1) pre) (p r : List Cry) (hp : Opt n W g goal (N + 1) p) (ep : p = pre ++ r) : False := by
  have hq := hp.1
  rw [ep] at hq
  obtain ⟨v1, v2⟩ := (VdP_app n W pre r g).mp hq.1
  have okp := VdP_T pre g ho v1
  have l := hq.2.1
  rw [List.length_append] at l
  rcases h with z | ⟨L, l1, l2, l3⟩
  · have t := run_tp r _ okp v2
    have h3 := hq.2.2
    rw [runP_app] at h3
    omega
  · have hh := hope ho hno pre r hq
    have ll := lens_le (n := n) (W := W) (g := g) L l1 r (fun s hs => by
      have y := VdP_yard r _ v2 s hs
      have b : s.1 < n := (VdP_in r _ v2 s hs).1
      have := l2 s.1 b y
      rw [run_0 s.1 pre g 0 (by omega)] at this
      exact this)
    have e : N + 1 - pre.length = r.length := by omega
    rw [e] at l3
    omega
theorem cut_last {n : Nat} {W : Int} {g : Nat → Nat → Int} (ho : okT n W g) {goal : Int} {N : Nat} (hno : ∀ p, ¬ IsPlan n W g goal N p) (pre : List Cry) (s : Cry) (hl : pre.length = N) (h : la n (runP n g pre) s.2 (g 0 s.1).toNat + 1 < goal) (p r : List Cry) (hp : Opt n W g goal (N + 1) p) (ep : p = (pre ++ [s]) ++ r) : False := by
  have hq := hp.1
  have l := hq.2.1
  rw [ep, List.length_append, List.length_append] at l
  have l1 : [s].length = 1 := rfl
  have r0 : r = [] := List.eq_nil_of_length_eq_zero (by omega)
  rw [ep, r0, List.append_nil] at hq
  have := last_reach ho hno pre s hq
  omega
theorem cut_dear {n : Nat} {W : Int} {g : Nat → Nat → Int} {goal : Int} {N : Nat} (pre : List Cry) (s : Cry) (B : Bst) (q0 : List Cry) (hB : B = some q0) (h : csP n g q0 ≤ csP n g (pre ++ [s])) : RES n W g goal N (pre ++ [s]) B B := by
  refine ⟨Or.inl rfl, fun p r hp e hb => ?_⟩
  have a := hb q0 hB
  rw [e, csP_app] at a
  have c := csP_nn n r (runP n g (pre ++ [s]))
  omega
