/-! ===== operation: of; the fewest hands ===== -/
theorem fX10_count_j (X : Nat) (hX : X < 2147483648) : fX10_count (jI X) = some (jI (cnt X 20 : Nat)) := by
  have key : ∀ (d fuel i : Nat), i + d = 20 → d < fuel → fX10_count_4 fuel (jI X) (jI (cnt X i : Nat)) (jI i) = some (jI (cnt X 20 : Nat)) := by
    intro d
    induction d with
    | zero =>
      intro fuel i hd hf
      obtain ⟨f, rfl⟩ : ∃ f, fuel = f + 1 := ⟨fuel - 1, by omega⟩
      unfold fX10_count_4
      rw [if_pos (by rw [show (20 : Int32) = jI 20 from rfl, jI_le _ _ (by omega) (by omega) (by omega) (by omega)]; omega), show i = 20 by omega]
    | succ d ih =>
      intro fuel i hd hf
      obtain ⟨f, rfl⟩ : ∃ f, fuel = f + 1 := ⟨fuel - 1, by omega⟩
      unfold fX10_count_4
      rw [if_neg (by rw [show (20 : Int32) = jI 20 from rfl, jI_le _ _ (by omega) (by omega) (by omega) (by omega)]; omega), jN_bit X i hX (by omega), show (1 : Int32) = jI 1 from rfl, jI_add, jI_add]
      have := ih f (i + 1) (by omega) (by omega)
      have e : cnt X (i + 1) = cnt X i + (X.testBit i).toNat := by
        show cnt X i + X / 2 ^ i % 2 = _
        rw [Nat.testBit_eq_decide_div_mod_eq]
        by_cases z : X / 2 ^ i % 2 = 1
        · rw [decide_eq_true z, z]; rfl
        · rw [decide_eq_false z, show X / 2 ^ i % 2 = 0 by omega]; rfl
      rw [e] at this
      exact this
  exact key 20 dt_F 0 (by omega) (by unfold dt_F; omega)
/-- arms of the first i hands of a set -/
def sar (A : Nat → Int) (X : Nat) : Nat → Int
  | 0 => 0
  | i + 1 => sar A X i + (if X.testBit i = true then A i else 0)
theorem sar_rng (A : Nat → Int) (X k : Nat) (hA : ∀ i, i < k → 1 ≤ A i ∧ A i ≤ 99) : ∀ i, i ≤ k → 0 ≤ sar A X i ∧ sar A X i ≤ 99 * i := by
  intro i
  induction i with
  | zero => intro _; unfold sar; omega
  | succ i ih =>
    intro hi'
    have a := ih (by omega)
    have b := hA i (by omega)
    unfold sar
    split <;> omega
/-- no two of them quarrel -/
def okQ (q : Nat → Nat → Bool) (X k : Nat) : Prop := ∀ a, a < k → ∀ b, b < k → X.testBit a = true → X.testBit b = true → q a b = false
theorem fX0_strengthOf_j {C : dt_Ob} (k : Nat) (hk : k ≤ 8) (A : Nat → Int) (q : Nat → Nat → Bool) (X : Nat) (hX : X < 2 ^ k) (e0 : C 0 0 = jI k) (hA : ∀ i, i < k → C 1 i = jI (A i)) (hF : ∀ a, a < 8 → ∀ b, (C 2 a).toBitVec.getLsbD b = (decide (b < 8) && q a b)) : ∀ (d fuel i : Nat), i + d = k → d < fuel → (okQ q X k → fX0_strengthOf_4 fuel (jI X) (jI (sar A X i)) (jI i) C = some (jI (sar A X k))) ∧ ((∃ a, i ≤ a ∧ a < k ∧ X.testBit a = true ∧ ∃ b, b < k ∧ X.testBit b = true ∧ q a b = true) → fX0_strengthOf_4 fuel (jI X) (jI (sar A X i)) (jI i) C = some 0) := by
  have p8 : 2 ^ k ≤ 2 ^ 8 := Nat.pow_le_pow_right (by omega) hk
  have lt8 : ∀ b, X.testBit b = true → b < k := by
    intro b hb
    refine Classical.byContradiction fun z => ?_
    rw [Nat.testBit_lt_two_pow (Nat.lt_of_lt_of_le hX (Nat.pow_le_pow_right (n := 2) (i := k) (j := b) (by omega) (by omega)))] at hb
    cases hb
  have fz : ∀ a, a < 8 → ((C 2 a &&& jI X = 0) ↔ ∀ b, b < k → X.testBit b = true → q a b = false) := by
    intro a ha
    rw [foes_0 _ X (by omega)]
    constructor
    · intro h b hb hx
      have := h b hx
      rw [hF a ha b, decide_eq_true (show b < 8 by omega), Bool.true_and] at this
      exact this
    · intro h b hx
      have hb := lt8 b hx
      rw [hF a ha b, h b hb hx, Bool.and_false]
  intro d
  induction d with
  | zero =>
    intro fuel i hd hf
    obtain ⟨f, rfl⟩ : ∃ f, fuel = f + 1 := ⟨fuel - 1, by omega⟩
    refine ⟨fun _ => ?_, fun ⟨a, z1, z2, _⟩ => by omega⟩
    unfold fX0_strengthOf_4
    rw [e0, if_pos (by rw [jI_le _ _ (by omega) (by omega) (by omega) (by omega)]; omega), show i = k by omega]
  | succ d ih =>
    intro fuel i hd hf
    obtain ⟨f, rfl⟩ : ∃ f, fuel = f + 1 := ⟨fuel - 1, by omega⟩
    have ihh := ih f (i + 1) (by omega) (by omega)
    have cst : jI i + (1 : Int32) = jI ((i + 1 : Nat) : Int) := by rw [show (1 : Int32) = jI 1 from rfl, jI_add]; rfl
    have tb := jN_tb X i (by omega) (by omega)
    have u : sar A X (i + 1) = sar A X i + (if X.testBit i = true then A i else 0) := rfl
    have ii : dt_ix (jI i) 8 = some i := dt_ix_n i 8 (by omega) (by omega)
    rw [show fX0_strengthOf_4 (f + 1) (jI X) (jI (sar A X i)) (jI i) C = (if (C 0 0) ≤ (jI i) then (some (jI (sar A X i))) else (if ((jI X) &&& ((1 : Int32) <<< ((jI i) &&& 31))) = 0 then (fX0_strengthOf_42 (fX0_strengthOf_4 f) (jI X) (jI (sar A X i)) (jI i) C) else ((dt_ix (jI i) 8).bind fun a1 => (if (((C 2) a1) &&& (jI X)) = 0 then ((dt_ix (jI i) 8).bind fun a2 => (fX0_strengthOf_42 (fX0_strengthOf_4 f) (jI X) ((jI (sar A X i)) + ((C 1) a2)) (jI i) C)) else (some (0 : Int32)))))) from rfl]
    unfold fX0_strengthOf_42
    rw [e0, if_neg (by rw [jI_le _ _ (by omega) (by omega) (by omega) (by omega)]; omega), ii, cst]
    simp only [dt_b1]
    rw [hA i (by omega)]
    cases hb : X.testBit i with
    | false =>
      rw [if_pos (tb.mpr hb)]
      rw [u, hb, if_neg (by decide), Int.add_zero] at ihh
      refine ⟨ihh.1, fun ⟨a, z1, z2, z3, z4⟩ => ihh.2 ⟨a, ?_, z2, z3, z4⟩⟩
      by_cases e : a = i
      · subst e; rw [hb] at z3; cases z3
      · omega
    | true =>
      rw [if_neg (by rw [tb, hb]; decide)]
      rw [u, hb, if_pos rfl] at ihh
      by_cases z : C 2 i &&& jI X = 0
      · rw [if_pos z, jI_add]
        refine ⟨ihh.1, fun ⟨a, z1, z2, z3, b, z4, z5, z6⟩ => ihh.2 ⟨a, ?_, z2, z3, b, z4, z5, z6⟩⟩
        by_cases e : a = i
        · subst e
          have := (fz a (by omega)).mp z b z4 z5
          rw [this] at z6; cases z6
        · omega
      · rw [if_neg z]
        refine ⟨fun ok => ?_, fun _ => rfl⟩
        exact absurd ((fz i (by omega)).mpr (fun b hb' hx => ok i (by omega) b hb' hb hx)) z
theorem fX10_canCarry_j46 {T : dt_Ob} (k : Nat) (hk : k ≤ 8) (q : Nat → Nat → Bool) (X : Nat) (hX : X < 2 ^ k) (hw : ∀ a b, a < 8 → b < 8 → T 0 (190 + 8 * a + b) = bI (q a b)) (r5 : Int32 → Int32 → Int32 → Int32 → dt_Ob → Option Int32) (x2 x3 : Int32) (a : Nat) (ha : a < k) : ∀ (d fuel i : Nat), i + d = a → d < fuel → ((∀ b, i ≤ b → b < a → X.testBit b = true → q a b = false) → fX10_canCarry_46 r5 fuel (jI X) x2 x3 (jI a) (jI i) T = r5 (jI X) x2 x3 (jI ((a + 1 : Nat) : Int)) T) ∧ ((∃ b, i ≤ b ∧ b < a ∧ X.testBit b = true ∧ q a b = true) → fX10_canCarry_46 r5 fuel (jI X) x2 x3 (jI a) (jI i) T = some 0) := by
  have p8 : 2 ^ k ≤ 2 ^ 8 := Nat.pow_le_pow_right (by omega) hk
  intro d
  induction d with
  | zero =>
    intro fuel i hd hf
    obtain ⟨f, rfl⟩ : ∃ f, fuel = f + 1 := ⟨fuel - 1, by omega⟩
    refine ⟨fun _ => ?_, fun ⟨b, z1, z2, _⟩ => by omega⟩
    unfold fX10_canCarry_46 fX10_canCarry_92
    rw [if_pos (by rw [jI_le _ _ (by omega) (by omega) (by omega) (by omega)]; omega), show (1 : Int32) = jI 1 from rfl, jI_add]
    rfl
  | succ d ih =>
    intro fuel i hd hf
    obtain ⟨f, rfl⟩ : ∃ f, fuel = f + 1 := ⟨fuel - 1, by omega⟩
    have ihh := ih f (i + 1) (by omega) (by omega)
    have cst : jI i + (1 : Int32) = jI ((i + 1 : Nat) : Int) := by rw [show (1 : Int32) = jI 1 from rfl, jI_add]; rfl
    have ixy : dt_ix (((190 : Int32) + ((8 : Int32) * jI a)) + jI i) 1225 = some (190 + 8 * a + i) := by
      rw [show (190 : Int32) = jI 190 from rfl, show (8 : Int32) = jI 8 from rfl, jI_mul, jI_add, jI_add, dt_ix_j _ _ (by omega) (by omega) (by omega), show ((190 : Int) + 8 * a + i).toNat = 190 + 8 * a + i by omega]
    have tb := (bit_01 X i).2
    rw [show fX10_canCarry_46 r5 (f + 1) (jI X) x2 x3 (jI a) (jI i) T = (if (jI a) ≤ (jI i) then (fX10_canCarry_92 r5 (jI X) x2 x3 (jI a) T) else (if (((jI X) >>> ((jI i) &&& 31)) &&& (1 : Int32)) = (1 : Int32) then ((dt_ix (((190 : Int32) + ((8 : Int32) * (jI a))) + (jI i)) 1225).bind fun a3 => (if ((T 0) a3) = (1 : Int32) then (some (0 : Int32)) else (fX10_canCarry_86 r5 (fX10_canCarry_46 r5 f) (jI X) x2 x3 (jI a) (jI i) T))) else (fX10_canCarry_86 r5 (fX10_canCarry_46 r5 f) (jI X) x2 x3 (jI a) (jI i) T))) from rfl]
    unfold fX10_canCarry_86
    rw [if_neg (by rw [jI_le _ _ (by omega) (by omega) (by omega) (by omega)]; omega), jN_bit X i (by omega) (by omega), ixy, dt_b1, cst, hw a i (by omega) (by omega)]
    cases hb : X.testBit i with
    | false =>
      rw [hb] at tb
      rw [if_neg (fun e => by have := tb.mp e; cases this)]
      refine ⟨fun z => ihh.1 (fun b h1 h2 h3 => z b (by omega) h2 h3), fun ⟨b, z1, z2, z3, z4⟩ => ihh.2 ⟨b, ?_, z2, z3, z4⟩⟩
      by_cases e : b = i
      · subst e; rw [hb] at z3; cases z3
      · omega
    | true =>
      rw [hb] at tb
      rw [if_pos (tb.mpr rfl)]
      cases hq : q a i with
      | true =>
        rw [show bI true = 1 from rfl, if_pos rfl]
        refine ⟨fun z => ?_, fun _ => rfl⟩
        have := z i (by omega) (by omega) hb
        rw [hq] at this; cases this
      | false =>
        rw [show bI false = 0 from rfl, if_neg (by decide)]
        refine ⟨fun z => ihh.1 (fun b h1 h2 h3 => z b (by omega) h2 h3), fun ⟨b, z1, z2, z3, z4⟩ => ihh.2 ⟨b, ?_, z2, z3, z4⟩⟩
        by_cases e : b = i
        · subst e; rw [hq] at z4; cases z4
        · omega
theorem fX10_canCarry_j5 {T : dt_Ob} (k : Nat) (hk : k ≤ 8) (A : Nat → Int) (q : Nat → Nat → Bool) (X : Nat) (hX : X < 2 ^ k) (e8 : T 0 8 = jI k) (hA : ∀ i, i < k → T 0 (180 + i) = jI (A i)) (hw : ∀ a b, a < 8 → b < 8 → T 0 (190 + 8 * a + b) = bI (q a b)) (x2 : Int32) : ∀ (d fuel i : Nat), i + d = k → d < fuel → ((∀ a, i ≤ a → a < k → X.testBit a = true → ∀ b, b < a → X.testBit b = true → q a b = false) → fX10_canCarry_5 fuel (jI X) x2 (jI (sar A X i)) (jI i) T = (if jI (sar A X k) < x2 then some 0 else some 1)) ∧ ((∃ a, i ≤ a ∧ a < k ∧ X.testBit a = true ∧ ∃ b, b < a ∧ X.testBit b = true ∧ q a b = true) → fX10_canCarry_5 fuel (jI X) x2 (jI (sar A X i)) (jI i) T = some 0) := by
  have p8 : 2 ^ k ≤ 2 ^ 8 := Nat.pow_le_pow_right (by omega) hk
  have x8 : dt_ix (8 : Int32) 1225 = some 8 := rfl
  intro d
  induction d with
  | zero =>
    intro fuel i hd hf
    obtain ⟨f, rfl⟩ : ∃ f, fuel = f + 1 := ⟨fuel - 1, by omega⟩
    refine ⟨fun _ => ?_, fun ⟨a, z1, z2, _⟩ => by omega⟩
    unfold fX10_canCarry_5
    rw [x8, dt_b1, e8, if_pos (by rw [jI_le _ _ (by omega) (by omega) (by omega) (by omega)]; omega), show i = k by omega]
  | succ d ih =>
    intro fuel i hd hf
    obtain ⟨f, rfl⟩ : ∃ f, fuel = f + 1 := ⟨fuel - 1, by omega⟩
    have ihh := ih f (i + 1) (by omega) (by omega)
    have cst : jI i + (1 : Int32) = jI ((i + 1 : Nat) : Int) := by rw [show (1 : Int32) = jI 1 from rfl, jI_add]; rfl
    have u : sar A X (i + 1) = sar A X i + (if X.testBit i = true then A i else 0) := rfl
    have tb := (bit_01 X i).1
    have i180 : dt_ix ((180 : Int32) + jI i) 1225 = some (180 + i) := by
      rw [show (180 : Int32) = jI 180 from rfl, jI_add, dt_ix_j _ _ (by omega) (by omega) (by omega), show ((180 : Int) + i).toNat = 180 + i by omega]
    rw [show fX10_canCarry_5 (f + 1) (jI X) x2 (jI (sar A X i)) (jI i) T = ((dt_ix (8 : Int32) 1225).bind fun a1 => (if ((T 0) a1) ≤ (jI i) then (if (jI (sar A X i)) < x2 then (some (0 : Int32)) else (some (1 : Int32))) else (if (((jI X) >>> ((jI i) &&& 31)) &&& (1 : Int32)) = 0 then (fX10_canCarry_92 (fX10_canCarry_5 f) (jI X) x2 (jI (sar A X i)) (jI i) T) else ((dt_ix ((180 : Int32) + (jI i)) 1225).bind fun a2 => (fX10_canCarry_46 (fX10_canCarry_5 f) dt_F (jI X) x2 ((jI (sar A X i)) + ((T 0) a2)) (jI i) (0 : Int32) T))))) from rfl]
    unfold fX10_canCarry_92
    rw [x8, dt_b1, e8, if_neg (by rw [jI_le _ _ (by omega) (by omega) (by omega) (by omega)]; omega), jN_bit X i (by omega) (by omega), i180, dt_b1, cst, hA i (by omega), jI_add]
    cases hb : X.testBit i with
    | false =>
      rw [hb] at tb
      rw [if_pos (tb.mpr rfl)]
      rw [u, hb, if_neg (by decide), Int.add_zero] at ihh
      refine ⟨fun z => ihh.1 (fun a h1 h2 h3 => z a (by omega) h2 h3), fun ⟨a, z1, z2, z3, z4⟩ => ihh.2 ⟨a, ?_, z2, z3, z4⟩⟩
      by_cases e : a = i
      · subst e; rw [hb] at z3; cases z3
      · omega
    | true =>
      rw [hb] at tb
      rw [if_neg (fun e => by have := tb.mp e; cases this)]
      rw [u, hb, if_pos rfl] at ihh
      have inn := fX10_canCarry_j46 k hk q X hX hw (fX10_canCarry_5 f) x2 (jI (sar A X i + A i)) i (by omega) i dt_F 0 (by omega) (by unfold dt_F; omega)
      refine ⟨fun z => ?_, fun ⟨a, z1, z2, z3, b, z4, z5, z6⟩ => ?_⟩
      · rw [← ihh.1 (fun a h1 h2 h3 => z a (by omega) h2 h3)]
        exact inn.1 (fun b _ hb' hx => z i (by omega) (by omega) hb b hb' hx)
      · by_cases c : ∃ b, b < i ∧ X.testBit b = true ∧ q i b = true
        · obtain ⟨b', c1, c2, c3⟩ := c
          exact inn.2 ⟨b', by omega, c1, c2, c3⟩
        · have i1 := inn.1 (fun b' _ hb' hx => by
            cases hq : q i b' with
            | false => rfl
            | true => exact absurd ⟨b', hb', hx, hq⟩ c)
          have : a ≠ i := by intro e; subst e; exact c ⟨b, z4, z5, z6⟩
          rw [← ihh.2 ⟨a, by omega, z2, z3, b, z4, z5, z6⟩]
          exact i1
/-- who can carry it: both say the same -/
theorem hands_same {C T : dt_Ob} (k : Nat) (hk : k ≤ 8) (e0 : C 0 0 = jI k) (e8 : T 0 8 = jI k) (A : Nat → Int) (hA : ∀ i, i < k → 1 ≤ A i ∧ A i ≤ 99) (hA1 : ∀ i, i < k → C 1 i = jI (A i)) (hA2 : ∀ i, i < k → T 0 (180 + i) = jI (A i)) (q : Nat → Nat → Bool) (qs : ∀ a b, a < 8 → b < 8 → q a b = q b a) (qn : ∀ a, a < 8 → q a a = false) (hw : ∀ a b, a < 8 → b < 8 → T 0 (190 + 8 * a + b) = bI (q a b)) (hF : ∀ a, a < 8 → ∀ b, (C 2 a).toBitVec.getLsbD b = (decide (b < 8) && q a b)) (wt : Int) (w1 : 1 ≤ wt) (w2 : wt ≤ 99) (X : Nat) (hX : X < 2 ^ k) : ∃ v : Int, 0 ≤ v ∧ v ≤ 1000 ∧ fX0_strengthOf (jI X) C = some (jI v) ∧ fX10_canCarry (jI X) (jI wt) T = some (if v < wt then 0 else 1) := by
  have a1 := fX0_strengthOf_j k hk A q X hX e0 hA1 hF k dt_F 0 (by omega) (by unfold dt_F; omega)
  have a2 := fX10_canCarry_j5 k hk A q X hX e8 hA2 hw (jI wt) k dt_F 0 (by omega) (by unfold dt_F; omega)
  have sr := sar_rng A X k hA k (Nat.le_refl k)
  unfold fX0_strengthOf fX10_canCarry
  rcases Classical.em (okQ q X k) with ok | no
  · refine ⟨sar A X k, sr.1, by omega, a1.1 ok, ?_⟩
    have b := a2.1 (fun a _ h2 h3 b h4 h5 => ok a h2 b (by omega) h3 h5)
    rw [show fX10_canCarry_5 dt_F (jI X) (jI wt) 0 0 T = _ from b]
    by_cases z : sar A X k < wt
    · rw [if_pos z, if_pos (by rw [jI_lt _ _ (by omega) (by omega) (by omega) (by omega)]; exact z)]
    · rw [if_neg z, if_neg (by rw [jI_lt _ _ (by omega) (by omega) (by omega) (by omega)]; exact z)]
  · have ex : ∃ a b, a < k ∧ b < k ∧ X.testBit a = true ∧ X.testBit b = true ∧ q a b = true := by
      refine Classical.byContradiction fun z => no (fun a ha b hb h1 h2 => ?_)
      cases hq : q a b with
      | false => rfl
      | true => exact absurd ⟨a, b, ha, hb, h1, h2, hq⟩ z
    obtain ⟨a, b, ha, hb, h1, h2, h3⟩ := ex
    refine ⟨0, by omega, by omega, a1.2 ⟨a, by omega, ha, h1, b, hb, h2, h3⟩, ?_⟩
    rw [if_pos (by omega)]
    have ne : a ≠ b := by intro e; subst e; rw [qn a (by omega)] at h3; cases h3
    by_cases lt : b < a
    · exact a2.2 ⟨a, by omega, ha, h1, b, lt, h2, h3⟩
    · exact a2.2 ⟨b, by omega, hb, h2, a, by omega, h1, by rw [qs b a (by omega) (by omega)]; exact h3⟩
theorem hands_loop {C T : dt_Ob} (k : Nat) (hk : k ≤ 8) (e0 : C 0 0 = jI k) (e8 : T 0 8 = jI k) (wt : Int) (w1 : 1 ≤ wt) (w2 : wt ≤ 99) (hs : ∀ X : Nat, X < 2 ^ k → ∃ v : Int, 0 ≤ v ∧ v ≤ 1000 ∧ fX0_strengthOf (jI X) C = some (jI v) ∧ fX10_canCarry (jI X) (jI wt) T = some (if v < wt then 0 else 1)) : ∀ (d fuel fuel' X : Nat) (best : Int), X + d = 2 ^ k → d < fuel → d < fuel' → (best = -1 ∨ (0 ≤ best ∧ best < X)) → ∃ r, fX0_fewest_4 fuel (jI wt) (jI best) (jI X) C = some r ∧ fX10_hands_4 fuel' (jI wt) (jI best) (jI X) T = some r := by
  have p8 : 2 ^ k ≤ 2 ^ 8 := Nat.pow_le_pow_right (by omega) hk
  have x8 : dt_ix (8 : Int32) 1225 = some 8 := rfl
  have sh := sh_1 k (by omega)
  intro d
  induction d with
  | zero =>
    intro fuel fuel' X best hd hf hf' hb
    obtain ⟨f, rfl⟩ : ∃ f, fuel = f + 1 := ⟨fuel - 1, by omega⟩
    obtain ⟨f', rfl⟩ : ∃ f, fuel' = f + 1 := ⟨fuel' - 1, by omega⟩
    have le : jI ((2 ^ k : Nat) : Int) ≤ jI X := by rw [jI_le _ _ (by omega) (by omega) (by omega) (by omega)]; omega
    refine ⟨jI best, ?_, ?_⟩
    · unfold fX0_fewest_4
      rw [e0, sh, if_pos le]
    · unfold fX10_hands_4
      rw [x8, dt_b1, e8, sh, if_pos le]
  | succ d ih =>
    intro fuel fuel' X best hd hf hf' hb
    obtain ⟨f, rfl⟩ : ∃ f, fuel = f + 1 := ⟨fuel - 1, by omega⟩
    obtain ⟨f', rfl⟩ : ∃ f, fuel' = f + 1 := ⟨fuel' - 1, by omega⟩
    have nle : ¬ jI ((2 ^ k : Nat) : Int) ≤ jI X := by rw [jI_le _ _ (by omega) (by omega) (by omega) (by omega)]; omega
    have cst : jI X + (1 : Int32) = jI ((X + 1 : Nat) : Int) := by rw [show (1 : Int32) = jI 1 from rfl, jI_add]; rfl
    obtain ⟨v, v0, v1, v2, v3⟩ := hs X (by omega)
    have keep := ih f f' (X + 1) best (by omega) (by omega) (by omega) (by omega)
    have new := ih f f' (X + 1) X (by omega) (by omega) (by omega) (by omega)
    -- tried
    have tr : ∃ r, fX0_fewest_30 (fX0_fewest_4 f) (jI wt) (jI best) (jI X) C = some r ∧ fX10_hands_33 (fX10_hands_4 f') (jI wt) (jI best) (jI X) T = some r := by
      unfold fX0_fewest_30 fX0_fewest_35 fX0_fewest_53 fX10_hands_33 fX10_hands_44
      rw [i10, v2, dt_b1, v3, dt_b1, cst]
      by_cases z : v < wt
      · rw [if_pos (by rw [jI_lt _ _ (by omega) (by omega) (by omega) (by omega)]; exact z), if_pos z, i00]
        exact keep
      · rw [if_neg (by rw [jI_lt _ _ (by omega) (by omega) (by omega) (by omega)]; exact z), if_neg z, i10]
        exact new
    unfold fX0_fewest_4 fX10_hands_4
    rw [e0, sh, if_neg nle, x8, dt_b1, e8, sh, if_neg nle]
    rcases hb with z | z
    · have zz : jI best = -1 := by rw [z]; rfl
      rw [if_pos zz, if_pos zz]
      exact tr
    · have zz : ¬ jI best = -1 := by
        rw [show (-1 : Int32) = jI (-1) from rfl, jI_eq _ _ (by omega) (by omega) (by omega) (by omega)]; omega
      obtain ⟨Y, rfl⟩ : ∃ Y : Nat, best = Y := ⟨best.toNat, by omega⟩
      rw [if_neg zz, if_neg zz, bitCount_j X (by omega), bitCount_j Y (by omega), fX10_count_j X (by omega), fX10_count_j Y (by omega)]
      simp only [dt_b1]
      by_cases c : jI (cnt Y 20 : Nat) ≤ jI (cnt X 20 : Nat)
      · rw [if_pos c, if_pos c]
        unfold fX0_fewest_35 fX0_fewest_53 fX10_hands_44
        rw [i00, cst]
        exact keep
      · rw [if_neg c, if_neg c]
        exact tr
theorem hands_j {C T : dt_Ob} (hC : RC C (T 0)) (wt : Int) (w1 : 1 ≤ wt) (w2 : wt ≤ 99) : ∃ r, fX0_fewest (jI wt) C = some r ∧ fX10_hands (jI wt) T = some r := by
  obtain ⟨k, k1, k2, k3, k4, q, k5, k6, k7, k8⟩ := hC
  have A0 : ∃ A : Nat → Int, ∀ i, i < k → (1 ≤ A i ∧ A i ≤ 99) ∧ C 1 i = jI (A i) ∧ T 0 (180 + i) = jI (A i) := by
    refine ⟨fun i => if h : i < k then (k4 i h).choose else 0, fun i hi => ?_⟩
    have := (k4 i hi).choose_spec
    show (1 ≤ (if h : i < k then (k4 i h).choose else 0) ∧ (if h : i < k then (k4 i h).choose else 0) ≤ 99) ∧ C 1 i = jI (if h : i < k then (k4 i h).choose else 0) ∧ T 0 (180 + i) = jI (if h : i < k then (k4 i h).choose else 0)
    rw [dif_pos hi]
    exact ⟨⟨this.1, this.2.1⟩, this.2.2.1, this.2.2.2⟩
  obtain ⟨A, hA⟩ := A0
  have hs := hands_same (T := T) k k1 k2 k3 A (fun i hi => (hA i hi).1) (fun i hi => (hA i hi).2.1) (fun i hi => (hA i hi).2.2) q k5 k6 k7 k8 wt w1 w2
  have p8 : 2 ^ k ≤ 2 ^ 8 := Nat.pow_le_pow_right (by omega) k1
  have pp := Nat.two_pow_pos k
  obtain ⟨r, r1, r2⟩ := hands_loop k k1 k2 k3 wt w1 w2 hs (2 ^ k - 1) dt_F 1999 1 (-1) (by omega) (by unfold dt_F; omega) (by omega) (Or.inl rfl)
  refine ⟨r, r1, ?_⟩
  -- the reference begins with nobody
  obtain ⟨v, v0, v1, v2, v3⟩ := hs 0 pp
  have z0 : fX0_strengthOf (jI (0 : Nat)) C = some (jI 0) := by
    have a1 := fX0_strengthOf_j k k1 A q 0 pp k2 (fun i hi => (hA i hi).2.1) k8 k dt_F 0 (by omega) (by unfold dt_F; omega)
    have o : okQ q 0 k := fun a _ b _ h1 _ => by rw [Nat.zero_testBit] at h1; cases h1
    have s0 : ∀ i, sar A 0 i = 0 := by
      intro i
      induction i with
      | zero => rfl
      | succ i ih => unfold sar; rw [ih, Nat.zero_testBit]; rfl
    have := a1.1 o
    rw [s0 k] at this
    exact this
  rw [z0] at v2
  have ev : v = 0 := by
    have := Option.some.inj v2
    rw [jI_eq _ _ (by omega) (by omega) (by omega) (by omega)] at this
    omega
  have nle : ¬ jI ((2 ^ k : Nat) : Int) ≤ jI (0 : Nat) := by rw [jI_le _ _ (by omega) (by omega) (by omega) (by omega)]; omega
  show fX10_hands_4 dt_F (jI wt) (-1) (jI (0 : Nat)) T = some r
  rw [show dt_F = 1999 + 1 from rfl]
  unfold fX10_hands_4 fX10_hands_33 fX10_hands_44
  rw [show dt_ix (8 : Int32) 1225 = some 8 from rfl, dt_b1, k3, sh_1 k (by omega), if_neg nle, if_pos rfl, v3, dt_b1, ev, if_pos (show (0 : Int) < wt by omega), i00]
  exact r2
theorem s_of : St_of dt_I := by
  intro M a1 a2 h
  have h' := h
  obtain ⟨n, W, g, ⟨hT, hok, hRT, hD, hV, hC, hS⟩, hU, hI, hP, hF, hR⟩ := h
  obtain ⟨b, rfl, b0, b1⟩ := jI_ex a1
  obtain ⟨c, rfl, c0, c1⟩ := jI_ex a2
  have od := hok.D
  have hn := od.1
  have same : dt_I (dt_put M 18 (M 18)) := by rw [dt_put_self]; exact h'
  have ib := fX10_isBlock_j (T := M 18) hRT.2.1 hn b b0 b1
  have ik := fX5_isKnown_j hT.2.1 hn b b0 b1
  by_cases zb : 0 ≤ b ∧ b < n
  · obtain ⟨q, rfl⟩ : ∃ q : Nat, b = q := ⟨b.toNat, by omega⟩
    have hq : q < n := by omega
    have rb := hok.2.2.2.1 q hq
    unfold okB at rb
    have ix : dt_ix (jI q) 20 = some q := dt_ix_n q 20 (by omega) (by omega)
    have q9 : fX10_isIn (jI c) 0 9 = some (if 0 ≤ c ∧ c ≤ 9 then 1 else 0) := fX10_isIn_j c 0 9 (by omega) (by omega) (by omega) (by omega) (by omega) (by omega)
    have ce_ : ∀ m : Int, -2147483648 ≤ m → m < 2147483648 → (jI c = jI m) = (c = m) := fun m m0 m1 => jI_eq c m (by omega) (by omega) m0 m1
    have k0 : (jI c = (0 : Int32)) = (c = 0) := ce_ 0 (by omega) (by omega)
    have k1 : (jI c = (1 : Int32)) = (c = 1) := ce_ 1 (by omega) (by omega)
    have k2 : (jI c = (2 : Int32)) = (c = 2) := ce_ 2 (by omega) (by omega)
    have k3 : (jI c = (3 : Int32)) = (c = 3) := ce_ 3 (by omega) (by omega)
    have k4 : (jI c = (4 : Int32)) = (c = 4) := ce_ 4 (by omega) (by omega)
    have k5 : (jI c = (5 : Int32)) = (c = 5) := ce_ 5 (by omega) (by omega)
    have k6 : (jI c = (6 : Int32)) = (c = 6) := ce_ 6 (by omega) (by omega)
    have k7 : (jI c = (7 : Int32)) = (c = 7) := ce_ 7 (by omega) (by omega)
    have k8 : (jI c = (8 : Int32)) = (c = 8) := ce_ 8 (by omega) (by omega)
    have k9 : (jI c = (9 : Int32)) = (c = 9) := ce_ 9 (by omega) (by omega)
    have l7 : ((7 : Int32) ≤ jI c) = (7 ≤ c) := jI_le 7 c (by omega) (by omega) (by omega) (by omega)
    have mdl : fX10_of (jI q) (jI c) (M 18) = (if 0 ≤ c ∧ c ≤ 9 then (if 7 ≤ c then (if c = 8 then ((fX10_bears (jI q) (M 18)).bind fun q8 => (some (q8, M 18))) else (if c = 9 then ((fX10_own (jI q) (1 : Int32) (M 18)).bind fun q6 => ((fX10_hands q6 (M 18)).bind fun q7 => (some (q7, M 18)))) else ((fX10_laysTower (M 18)).bind fun q3 => ((fX10_laysLoads q3).bind fun q4 => (some (((q4 9) q), q4)))))) else ((fX10_own (jI q) (jI c) (M 18)).bind fun q9 => (some (q9, M 18)))) else some (-2, M 18)) := by
      unfold fX10_of
      rw [ib, if_pos zb, dt_b1, i10, q9, dt_b1, ix]
      simp only [dt_b1, k8, k9, l7]
      by_cases z : 0 ≤ c ∧ c ≤ 9
      · rw [if_pos z, if_pos z, i10]
      · rw [if_neg z, if_neg z, i00]
    unfold fX9_of
    rw [ik, if_pos zb, dt_b1, i10, ix]
    simp only [dt_b1, k0, k1, k2, k3, k4, k5, k6, k7, k8, k9]
    -- one of the seven that it has
    have own : ∀ f : Nat, f < 7 → c = f → ∃ (r : Int32) (M1 : dt_M) (T : dt_Ob), some (M 1 (2 + f) q, M) = some (r, M1) ∧ fX10_of (jI q) (jI c) (M1 18) = some (r, T) ∧ dt_I (dt_put M1 18 T) := by
      intro f hf hc
      refine ⟨_, M, M 18, rfl, ?_, same⟩
      rw [mdl, if_pos (by omega), if_neg (by omega), hc, fX10_own_j (M 18) q f (by omega) (by omega) (by omega), dt_b1, Int.toNat_natCast, hRT.2.2 f hf q hq, hT.2.2.1 f hf q hq]
    by_cases z0 : c = 0
    · rw [if_pos z0]; exact own 0 (by omega) z0
    · rw [if_neg z0]
      by_cases z1 : c = 1
      · rw [if_pos z1]; exact own 1 (by omega) z1
      · rw [if_neg z1]
        by_cases z2 : c = 2
        · rw [if_pos z2]; exact own 2 (by omega) z2
        · rw [if_neg z2]
          by_cases z3 : c = 3
          · rw [if_pos z3]; exact own 3 (by omega) z3
          · rw [if_neg z3]
            by_cases z4 : c = 4
            · rw [if_pos z4]; exact own 4 (by omega) z4
            · rw [if_neg z4]
              by_cases z5 : c = 5
              · rw [if_pos z5]; exact own 5 (by omega) z5
              · rw [if_neg z5]
                by_cases z6 : c = 6
                · rw [if_pos z6]; exact own 6 (by omega) z6
                · rw [if_neg z6]
                  by_cases z7 : c = 7
                  · rw [if_pos z7]
                    obtain ⟨T', t1, t2⟩ := fX5_loadOf_j hT od q hq
                    obtain ⟨X1, x1, x2, x3⟩ := fX10_laysTower_j hRT hn
                    obtain ⟨X2, y1, y2, y3, y4⟩ := fX10_laysLoads_j x3 od
                    rw [t1, dt_b1]
                    refine ⟨_, _, X2, rfl, ?_, ?_⟩
                    · show fX10_of (jI q) (jI c) (M 18) = _
                      rw [mdl, if_pos (show 0 ≤ c ∧ c ≤ 9 by omega), if_pos (show 7 ≤ c by omega), if_neg (show ¬ c = 8 by omega), if_neg (show ¬ c = 9 by omega), x1, dt_b1, y1, dt_b1, y4 q hq]
                    · have sc : dt_I (dt_put M 18 X2) := dt_I_scr h' X2 (fun j hj => by rw [y2 j (by omega) (by omega), x2 j (by omega) (by omega)])
                      refine dt_I_of (M := dt_put M 18 X2) (n := n) (W := W) (g := g) ?_ ?_ sc ?_ ?_
                      · show RW T' (M 2) (M 3) (M 4) (M 5) (X2 0) n W g
                        rw [y2 0 (by omega) (by omega), x2 0 (by omega) (by omega)]
                        exact ⟨t2, hok, hRT, hD, hV, hC, hS⟩
                      · show RU (M 11) (X2 2) (X2 3 0) n W g (X2 0 4)
                        rw [y2 0 (by omega) (by omega), x2 0 (by omega) (by omega), y2 2 (by omega) (by omega), x2 2 (by omega) (by omega), y2 3 (by omega) (by omega), x2 3 (by omega) (by omega)]
                        exact hU
                      · intro k hk
                        have nk : ∀ (A : dt_M) (q : Nat) (B : dt_Ob), q ≠ k → dt_put A q B k = A k := fun A q B hq => dt_put_ne A q k B (Ne.symm hq)
                        rw [nk _ _ _ (by omega), nk _ _ _ (by omega), nk _ _ _ (by omega)]
                      · intro j hj
                        rfl
                  · rw [if_neg z7]
                    by_cases z8 : c = 8
                    · rw [if_pos z8, fX5_bears_j q (by omega) (hT.2.2.1 2 (by omega) q hq) (hT.2.2.1 3 (by omega) q hq) (by omega) (by omega) (by omega) (by omega), dt_b1]
                      refine ⟨_, M, M 18, rfl, ?_, same⟩
                      have br' : fX10_bears (jI q) (M 18) = some (jI (br g q)) := by
                        unfold fX10_bears fX10_bears_32
                        have o2 : fX10_own (jI q) 2 (M 18) = some (jI (g 2 q)) := by rw [show (2 : Int32) = jI 2 from rfl, fX10_own_j _ q 2 (by omega) (by omega) (by omega)]; exact congrArg some (hRT.2.2 2 (by omega) q hq)
                        have o3 : fX10_own (jI q) 3 (M 18) = some (jI (g 3 q)) := by rw [show (3 : Int32) = jI 3 from rfl, fX10_own_j _ q 3 (by omega) (by omega) (by omega)]; exact congrArg some (hRT.2.2 3 (by omega) q hq)
                        rw [o2, dt_b1, o3, dt_b1]
                        simp (disch := omega) only [jI_lit, jI_add, jI_sub, jI_mul, jI_neg, jI_lt, jI_le, jI_eq, jI_div, dt_ix_j, dt_b1, Int.toNat_natCast, jI_and4, jI_and2, jI_and1]
                        unfold br
                        by_cases c4 : g 3 q < 4 <;> by_cases c2 : g 3 q / 2 % 2 = 0 <;> by_cases c1 : g 3 q % 2 = 0 <;> simp only [c4, c2, c1, if_true, if_false, ↓reduceIte]
                      rw [mdl, if_pos (show 0 ≤ c ∧ c ≤ 9 by omega), if_pos (show 7 ≤ c by omega), if_pos z8, br', dt_b1]
                    · rw [if_neg z8]
                      by_cases z9 : c = 9
                      · obtain ⟨r, r1, r2⟩ := hands_j (T := M 18) hC (g 1 q) (by omega) (by omega)
                        have o1 : fX10_own (jI q) 1 (M 18) = some (jI (g 1 q)) := by rw [show (1 : Int32) = jI 1 from rfl, fX10_own_j _ q 1 (by omega) (by omega) (by omega)]; exact congrArg some (hRT.2.2 1 (by omega) q hq)
                        rw [if_pos z9, show M 1 3 q = jI (g 1 q) from hT.2.2.1 1 (by omega) q hq, r1, dt_b1]
                        refine ⟨_, M, M 18, rfl, ?_, same⟩
                        rw [mdl, if_pos (show 0 ≤ c ∧ c ≤ 9 by omega), if_pos (show 7 ≤ c by omega), if_neg z8, if_pos z9, o1, dt_b1, r2, dt_b1]
                      · rw [if_neg z9]
                        refine ⟨_, M, M 18, rfl, ?_, same⟩
                        rw [mdl, if_neg (show ¬ (0 ≤ c ∧ c ≤ 9) by omega)]
  · refine ⟨-2, M, M 18, ?_, ?_, same⟩
    · unfold fX9_of
      rw [ik, if_neg zb, dt_b1, i00]
    · unfold fX10_of
      rw [ib, if_neg zb, dt_b1, i00]
