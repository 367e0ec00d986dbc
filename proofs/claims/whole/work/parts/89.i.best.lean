/-! ===== plan: what a search over a piece keeps ===== -/
abbrev Bst : Type := Option (List Cry)
def bet (n : Nat) (g : Nat → Nat → Int) (q : List Cry) (B : Bst) : Prop := ∀ q', B = some q' → csP n g q < csP n g q'
section
variable {n : Nat} {W : Int} {g : Nat → Nat → Int} {goal : Int} {N : Nat}
/-- over all plans that begin so -/
def RES (n : Nat) (W : Int) (g : Nat → Nat → Int) (goal : Int) (N : Nat) (pre : List Cry) (B B' : Bst) : Prop := (B' = B ∨ ∃ q r, q = pre ++ r ∧ IsPlan n W g goal N q ∧ B' = some q ∧ bet n g q B) ∧ ∀ p r, Opt n W g goal N p → p = pre ++ r → bet n g p B → B' = some p
/-- over all plans that begin so and go on with a carry from lo on -/
def REL (n : Nat) (W : Int) (g : Nat → Nat → Int) (goal : Int) (N : Nat) (pre : List Cry) (lo : Nat) (B B' : Bst) : Prop := (B' = B ∨ ∃ q s r, q = pre ++ s :: r ∧ lo ≤ dig s ∧ IsPlan n W g goal N q ∧ B' = some q ∧ bet n g q B) ∧ ∀ p s r, Opt n W g goal N p → p = pre ++ s :: r → lo ≤ dig s → bet n g p B → B' = some p
theorem RES_cut (pre : List Cry) (B : Bst) (h : ∀ p r, Opt n W g goal N p → p = pre ++ r → False) : RES n W g goal N pre B B := ⟨Or.inl rfl, fun p r hp e _ => (h p r hp e).elim⟩
theorem REL_end (pre : List Cry) (lo : Nat) (B : Bst) (h : ∀ q s r, IsPlan n W g goal N q → q = pre ++ s :: r → dig s < lo) : REL n W g goal N pre lo B B := ⟨Or.inl rfl, fun p s r hp e hl _ => by have := h p s r hp.1 e; omega⟩
theorem REL_gap (pre : List Cry) (lo lo' : Nat) (B B' : Bst) (hlo : lo ≤ lo') (hg : ∀ q s r, IsPlan n W g goal N q → q = pre ++ s :: r → lo ≤ dig s → lo' ≤ dig s) (h : REL n W g goal N pre lo' B B') : REL n W g goal N pre lo B B' := by
  refine ⟨?_, fun p s r hp e hl hb => h.2 p s r hp e (hg p s r hp.1 e hl) hb⟩
  rcases h.1 with z | ⟨q, s, r, e, hl, hq, hB, hb⟩
  · exact Or.inl z
  · exact Or.inr ⟨q, s, r, e, by omega, hq, hB, hb⟩
/-- in plans, carries with one digit are one -/
theorem dig_inj (ho : okT n W g) (pre : List Cry) (s s' : Cry) (r : List Cry) (q : List Cry) (hq : IsPlan n W g goal N q) (e : q = pre ++ s' :: r) (h0 : 0 ≤ s.2) (h8 : s.2 < 8) (hd : dig s' = dig s) : s' = s := by
  rw [e] at hq
  obtain ⟨v1, v2⟩ := (VdP_app n W pre (s' :: r) g).mp hq.1
  have okp := VdP_T pre g ho v1
  obtain ⟨a1, a2, a3, a4, _⟩ := v2.1
  have rb := okp.2.2.2.1 s'.1 a1
  unfold okB at rb
  have := okp.2.2.1
  unfold dig at hd
  obtain ⟨b, c⟩ := s
  obtain ⟨b', c'⟩ := s'
  dsimp only at *
  have e1 : b' = b := by omega
  have e2 : c' = c := by omega
  rw [e1, e2]
theorem REL_step (ho : okT n W g) (pre : List Cry) (s : Cry) (h0 : 0 ≤ s.2) (h8 : s.2 < 8) (B B1 B2 : Bst) (h1 : RES n W g goal N (pre ++ [s]) B B1) (h2 : REL n W g goal N pre (dig s + 1) B1 B2) : REL n W g goal N pre (dig s) B B2 := by
  have bet1 : ∀ q, bet n g q B1 → bet n g q B := by
    intro q hb
    rcases h1.1 with z | ⟨q1, r1, e1, hq1, hB1, hb1⟩
    · rw [← z]; exact hb
    · intro q' hq'
      have a := hb q1 hB1
      have c := hb1 q' hq'
      omega
  refine ⟨?_, fun p s' r hp e hl hb => ?_⟩
  · rcases h2.1 with z | ⟨q, s', r, e, hl, hq, hB, hb⟩
    · rw [z]
      rcases h1.1 with y | ⟨q1, r1, e1, hq1, hB1, hb1⟩
      · exact Or.inl y
      · exact Or.inr ⟨q1, s, r1, by rw [e1, List.append_assoc]; rfl, Nat.le_refl _, hq1, hB1, hb1⟩
    · exact Or.inr ⟨q, s', r, e, by omega, hq, hB, bet1 q hb⟩
  · by_cases z : dig s' = dig s
    · have es := dig_inj ho pre s s' r p hp.1 e h0 h8 z
      subst es
      have b1 : B1 = some p := h1.2 p r hp (by rw [e, List.append_assoc]; rfl) hb
      rcases h2.1 with y | ⟨q, s2, r2, e2, hl2, hq2, hB2, hb2⟩
      · rw [y]; exact b1
      · have a := hb2 p b1
        rcases hp.2 q hq2 with c | ⟨c, _⟩ <;> omega
    · refine h2.2 p s' r hp e (by omega) ?_
      rcases h1.1 with y | ⟨q1, r1, e1, hq1, hB1, hb1⟩
      · rw [y]; exact hb
      · intro q' hq'
        rw [hB1] at hq'
        have eq : q1 = q' := Option.some.inj hq'
        subst eq
        have e1' : q1 = pre ++ s :: r1 := by rw [e1, List.append_assoc]; rfl
        have dd := VdP_d q1 g ho hq1.1
        have ll : r1.length = r.length := by
          have a := hq1.2.1
          have b := hp.1.2.1
          rw [e1', List.length_append, List.length_cons] at a
          rw [e, List.length_append, List.length_cons] at b
          omega
        have cl : pcd q1 < pcd p := by
          rw [e1', e]
          refine pcd_pre pre _ _ (by rw [List.length_cons, List.length_cons, ll]) (pcd_first s s' r1 r ll (fun x hx => dd x ?_) (by omega))
          rw [e1']
          exact List.mem_append_right pre (List.mem_cons_of_mem s hx)
        rcases hp.2 q1 hq1 with c | ⟨_, c⟩
        · exact c
        · omega
theorem RES_of (pre : List Cry) (hl : pre.length < N) (B B' : Bst) (h : REL n W g goal N pre 0 B B') : RES n W g goal N pre B B' := by
  refine ⟨?_, fun p r hp e hb => ?_⟩
  · rcases h.1 with z | ⟨q, s, r, e, _, hq, hB, hb⟩
    · exact Or.inl z
    · exact Or.inr ⟨q, s :: r, e, hq, hB, hb⟩
  · cases r with
    | nil =>
      have := hp.1.2.1
      rw [e, List.append_nil] at this
      omega
    | cons s r => exact h.2 p s r hp e (Nat.zero_le _) hb
/-- a whole plan -/
theorem RES_leaf (pre : List Cry) (hl : pre.length = N) (hv : VdP n W g pre) (B B' : Bst) (hy : goal ≤ tp (runP n g pre) n → bet n g pre B → B' = some pre) (hn : ¬ (goal ≤ tp (runP n g pre) n ∧ bet n g pre B) → B' = B) : RES n W g goal N pre B B' := by
  have one : ∀ p r, IsPlan n W g goal N p → p = pre ++ r → p = pre := by
    intro p r hp e
    cases r with
    | nil => rw [e, List.append_nil]
    | cons s r =>
      have := hp.2.1
      rw [e, List.length_append, List.length_cons] at this
      omega
  refine ⟨?_, fun p r hp e hb => ?_⟩
  · by_cases z : goal ≤ tp (runP n g pre) n ∧ bet n g pre B
    · exact Or.inr ⟨pre, [], by rw [List.append_nil], ⟨hv, hl, z.1⟩, hy z.1 z.2, z.2⟩
    · exact Or.inl (hn z)
  · have e1 := one p r hp.1 e
    rw [e1] at hp hb ⊢
    exact hy hp.1.2.2 hb
end
