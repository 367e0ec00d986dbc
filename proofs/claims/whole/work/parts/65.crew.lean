/-! ===== sets of hands; quarrel ===== -/
theorem sm_k : ∀ k, k < 31 → ((jI (k : Nat) &&& (31 : Int32)).toBitVec.smod 32#32).toNat = k := by decide +kernel
theorem jN_sr (X k : Nat) (hX : X < 2147483648) (hk : k < 31) : jI X >>> (jI k &&& 31) = jI ((X >>> k : Nat) : Int) := by
  have l := Nat.shiftRight_le X k
  have hm : (jI X).toBitVec.msb = false := by
    rw [BitVec.msb_eq_false_iff_two_mul_lt, jN_nat X (by omega)]
    omega
  refine jN_ext _ _ (by omega) ?_
  show ((jI X).toBitVec.sshiftRight' ((jI k &&& (31 : Int32)).toBitVec.smod 32#32)).toNat = _
  rw [BitVec.toNat_sshiftRight'_of_msb_false hm, sm_k k hk, jN_nat X (by omega)]
theorem jN_bit (X k : Nat) (hX : X < 2147483648) (hk : k < 31) : ((jI X >>> (jI k &&& 31)) &&& (1 : Int32)) = jI ((X.testBit k).toNat : Nat) := by
  have l := Nat.shiftRight_le X k
  rw [jN_sr X k hX hk, show (1 : Int32) = jI ((1 : Nat) : Int) from rfl, jN_and _ _ (by omega) (by omega), Nat.and_one_is_mod, Nat.shiftRight_eq_div_pow, Nat.testBit_eq_decide_div_mod_eq]
  congr 2
  by_cases z : X / 2 ^ k % 2 = 1
  · rw [z]; rfl
  · have : X / 2 ^ k % 2 = 0 := by omega
    rw [this]; rfl
theorem bit_01 (X k : Nat) : ((jI ((X.testBit k).toNat : Nat) = (0 : Int32)) ↔ X.testBit k = false) ∧ ((jI ((X.testBit k).toNat : Nat) = (1 : Int32)) ↔ X.testBit k = true) := by
  cases X.testBit k
  · exact ⟨⟨fun _ => rfl, fun _ => rfl⟩, ⟨fun h => absurd h (by decide +kernel), fun h => by cases h⟩⟩
  · exact ⟨⟨fun h => absurd h (by decide +kernel), fun h => by cases h⟩, ⟨fun _ => rfl, fun _ => rfl⟩⟩
theorem jN_tb (X k : Nat) (hX : X < 2147483648) (hk : k < 31) : (jI X &&& ((1 : Int32) <<< (jI k &&& 31)) = 0) ↔ X.testBit k = false := by
  have l : 2 ^ k ≤ 2 ^ 30 := Nat.pow_le_pow_right (by omega) (by omega)
  rw [sh_1 k hk, jN_and _ _ (by omega) (by omega)]
  have p := Nat.two_pow_pos k
  have le : X &&& 2 ^ k ≤ X := Nat.and_le_left
  have e : (jI ((X &&& 2 ^ k : Nat) : Int) = 0) = (((X &&& 2 ^ k : Nat) : Int) = 0) := jI_eq _ 0 (by omega) (by omega) (by omega) (by omega)
  rw [e]
  have tb : ∀ i, (X &&& 2 ^ k).testBit i = (X.testBit i && decide (k = i)) := fun i => by rw [Nat.testBit_and, Nat.testBit_two_pow]
  constructor
  · intro z
    have z' : X &&& 2 ^ k = 0 := by omega
    have := tb k
    rw [z', Nat.zero_testBit, decide_eq_true rfl, Bool.and_true] at this
    exact this.symm
  · intro z
    have z' : X &&& 2 ^ k = 0 := by
      apply Nat.eq_of_testBit_eq
      intro i
      rw [tb i, Nat.zero_testBit]
      by_cases t : k = i
      · rw [← t, z, Bool.false_and]
      · rw [decide_eq_false t, Bool.and_false]
    omega
theorem jN_lsb (X b : Nat) (hX : X < 4294967296) : (jI X).toBitVec.getLsbD b = X.testBit b := by
  rw [jN_bv, BitVec.getLsbD_ofNat]
  by_cases z : b < 32
  · rw [decide_eq_true z, Bool.true_and]
  · rw [decide_eq_false z, Bool.false_and]
    symm
    exact Nat.testBit_lt_two_pow (Nat.lt_of_lt_of_le (show X < 2 ^ 32 from hX) (Nat.pow_le_pow_right (n := 2) (i := 32) (j := b) (by omega) (by omega)))
/-- nobody of a set among the foes of one -/
theorem foes_0 (y : Int32) (X : Nat) (hX : X < 4294967296) : (y &&& jI X = 0) ↔ ∀ b, X.testBit b = true → y.toBitVec.getLsbD b = false := by
  constructor
  · intro h b hb
    have := congrArg (fun z : Int32 => z.toBitVec.getLsbD b) h
    have e : (y &&& jI X).toBitVec.getLsbD b = false := this.trans BitVec.getLsbD_zero
    rw [Int32.toBitVec_and, BitVec.getLsbD_and, jN_lsb X b hX, hb, Bool.and_true] at e
    exact e
  · intro h
    apply Int32.toBitVec_inj.mp
    apply BitVec.eq_of_getLsbD_eq
    intro b _
    rw [Int32.toBitVec_and, BitVec.getLsbD_and, jN_lsb X b hX]
    have z : (0 : Int32).toBitVec.getLsbD b = false := BitVec.getLsbD_zero
    rw [z]
    cases hb : X.testBit b with
    | false => rw [Bool.and_false]
    | true => rw [h b hb, Bool.false_and]
theorem two_lsb (k b : Nat) (hk : k < 31) : ((1 : Int32) <<< (jI k &&& 31)).toBitVec.getLsbD b = decide (k = b) := by
  have l : 2 ^ k ≤ 2 ^ 30 := Nat.pow_le_pow_right (by omega) (by omega)
  rw [sh_1 k hk, jN_lsb _ _ (by omega), Nat.testBit_two_pow]
theorem neg_lsb (y : Int32) (b : Nat) : (y ^^^ (-1 : Int32)).toBitVec.getLsbD b = (decide (b < 32) && !(y.toBitVec.getLsbD b)) := by
  rw [Int32.toBitVec_xor, BitVec.getLsbD_xor]
  have e : (-1 : Int32).toBitVec = BitVec.allOnes 32 := by decide +kernel
  rw [e, BitVec.getLsbD_allOnes]
  by_cases z : b < 32
  · rw [decide_eq_true z, Bool.true_and, Bool.xor_true]
  · rw [decide_eq_false z, Bool.false_and, BitVec.getLsbD_of_ge _ _ (by omega)]
    rfl
/-- foes told anew -/
def q2 (q : Nat → Nat → Bool) (a b : Nat) (v : Bool) : Nat → Nat → Bool := fun x y => if (x = a ∧ y = b) ∨ (x = b ∧ y = a) then v else q x y
theorem s_quarrel : St_quarrel dt_I := by
  intro M a1 a2 a3 h ha3
  have h' := h
  obtain ⟨n, W, g, ⟨hT, hok, hRT, hD, hV, hC, hS⟩, hU, hI, hP, hF, hR⟩ := h
  obtain ⟨a, rfl, a0, a1⟩ := jI_ex a1
  obtain ⟨b, rfl, b0, b1⟩ := jI_ex a2
  have same : dt_I (dt_put M 18 (M 18)) := by rw [dt_put_self]; exact h'
  obtain ⟨k, k1, k2, k3, k4, q, k5, k6, k7, k8⟩ := hC
  have x8 : dt_ix (8 : Int32) 1225 = some 8 := rfl
  have ih : ∀ c : Int, -2147483648 ≤ c → c < 2147483648 → fX10_isHand (jI c) (M 18) = some (if 0 ≤ c ∧ c < k then 1 else 0) := by
    intro c c0 c1
    unfold fX10_isHand
    rw [x8, dt_b1, k3, show (1 : Int32) = jI 1 from rfl, jI_sub]
    have t : fX10_isIn (jI c) 0 (jI ((k : Int) - 1)) = some (if 0 ≤ c ∧ c ≤ (k : Int) - 1 then 1 else 0) := fX10_isIn_j c 0 _ (by omega) (by omega) (by omega) (by omega) (by omega) (by omega)
    rw [t, dt_b1]
    by_cases z : 0 ≤ c ∧ c < k
    · rw [if_pos z, if_pos (show 0 ≤ c ∧ c ≤ (k : Int) - 1 by omega)]; rfl
    · rw [if_neg z, if_neg (show ¬ (0 ≤ c ∧ c ≤ (k : Int) - 1) by omega)]; rfl
  have ia := ih a a0 a1
  have ib := ih b b0 b1
  have c1 : (jI a < (0 : Int32)) = (a < 0) := jI_lt a 0 (by omega) (by omega) (by omega) (by omega)
  have c2 : (jI k ≤ jI a) = ((k : Int) ≤ a) := jI_le k a (by omega) (by omega) (by omega) (by omega)
  have c3 : (jI b < (0 : Int32)) = (b < 0) := jI_lt b 0 (by omega) (by omega) (by omega) (by omega)
  have c4 : (jI k ≤ jI b) = ((k : Int) ≤ b) := jI_le k b (by omega) (by omega) (by omega) (by omega)
  have c5 : (jI a = jI b) = (a = b) := jI_eq a b (by omega) (by omega) (by omega) (by omega)
  by_cases z : (0 ≤ a ∧ a < k) ∧ (0 ≤ b ∧ b < k) ∧ a ≠ b
  · obtain ⟨za, zb, zn⟩ := z
    obtain ⟨x, rfl⟩ : ∃ q : Nat, a = q := ⟨a.toNat, by omega⟩
    obtain ⟨y, rfl⟩ : ∃ q : Nat, b = q := ⟨b.toNat, by omega⟩
    have xa : dt_ix (jI x) 8 = some x := dt_ix_n x 8 (by omega) (by omega)
    have ya : dt_ix (jI y) 8 = some y := dt_ix_n y 8 (by omega) (by omega)
    have ixy : ∀ c d : Nat, c < 8 → d < 8 → dt_ix (((190 : Int32) + ((8 : Int32) * jI c)) + jI d) 1225 = some (190 + 8 * c + d) := by
      intro c d hc hd
      rw [show (190 : Int32) = jI 190 from rfl, show (8 : Int32) = jI 8 from rfl, jI_mul, jI_add, jI_add, dt_ix_j _ _ (by omega) (by omega) (by omega), show ((190 : Int) + 8 * c + d).toNat = 190 + 8 * c + d by omega]
    have mdl : ∀ v : Bool, a3 = bI v → fX10_quarrel (jI x) (jI y) a3 (M 18) = some (1, dt_set (dt_set (M 18) 0 (190 + 8 * x + y) (bI v)) 0 (190 + 8 * y + x) (bI v)) := by
      intro v hv
      unfold fX10_quarrel fX10_quarrel_46 fX10_quarrel_70
      rw [ia, dt_b1, if_pos za, i10, ib, dt_b1, if_pos zb, i10, if_neg (by rw [c5]; exact zn), ixy x y (by omega) (by omega), ixy y x (by omega) (by omega), hv]
      cases v
      · rfl
      · rfl
    -- the crew's row
    have key : ∀ (v : Bool) (f1 f2 : Int32), (∀ i, f1.toBitVec.getLsbD i = if i = y then v else (M 4 2 x).toBitVec.getLsbD i) → (∀ i, f2.toBitVec.getLsbD i = if i = x then v else (M 4 2 y).toBitVec.getLsbD i) → dt_I (dt_put (dt_put M 4 (dt_set (dt_set (M 4) 2 x f1) 2 y f2)) 18 (dt_set (dt_set (M 18) 0 (190 + 8 * x + y) (bI v)) 0 (190 + 8 * y + x) (bI v))) := by
      intro v f1 f2 h1 h2
      refine dt_I_crew h' _ _ (fun t h1 h2 => ?_) (fun j hj => ?_) ⟨k, k1, k2, ?_, fun i hi => ?_, q2 q x y v, fun c d hc hd => ?_, fun c hc => ?_, fun c d hc hd => ?_, fun c hc d => ?_⟩
      · rw [dt_set_s, upd_n _ _ _ _ (by omega), dt_set_s, upd_n _ _ _ _ (by omega)]
      · rw [dt_set_n _ _ _ _ _ hj, dt_set_n _ _ _ _ _ hj]
      · rw [dt_set_s, upd_n _ _ _ _ (by omega), dt_set_s, upd_n _ _ _ _ (by omega)]; exact k3
      · rw [dt_set_n _ _ _ _ _ (by omega), dt_set_n _ _ _ _ _ (by omega), dt_set_s, upd_n _ _ _ _ (by omega), dt_set_s, upd_n _ _ _ _ (by omega)]
        exact k4 i hi
      · unfold q2
        by_cases t : (c = x ∧ d = y) ∨ (c = y ∧ d = x)
        · rw [if_pos t, if_pos (by omega)]
        · rw [if_neg t, if_neg (by omega)]; exact k5 c d hc hd
      · unfold q2
        rw [if_neg (by omega)]; exact k6 c hc
      · unfold q2
        rw [dt_set_s]
        by_cases t : c = y ∧ d = x
        · rw [upd_e _ _ _ _ (by omega), if_pos (Or.inr t)]
        · rw [upd_n _ _ _ _ (by omega), dt_set_s]
          by_cases t' : c = x ∧ d = y
          · rw [upd_e _ _ _ _ (by omega), if_pos (Or.inl t')]
          · rw [upd_n _ _ _ _ (by omega), if_neg (by omega)]; exact k7 c d hc hd
      · unfold q2
        rw [dt_set_s]
        by_cases t : c = y
        · subst t
          rw [upd_s, h2 d]
          by_cases t' : d = x
          · rw [if_pos t', if_pos (by omega), decide_eq_true (show d < 8 by omega), Bool.true_and]
          · rw [if_neg t', if_neg (by omega)]; exact k8 c hc d
        · rw [upd_n _ _ _ _ t, dt_set_s]
          by_cases t' : c = x
          · subst t'
            rw [upd_s, h1 d]
            by_cases t'' : d = y
            · rw [if_pos t'', if_pos (by omega), decide_eq_true (show d < 8 by omega), Bool.true_and]
            · rw [if_neg t'', if_neg (by omega)]; exact k8 c hc d
          · rw [upd_n _ _ _ _ t', if_neg (by omega)]; exact k8 c hc d
    have nxy : y ≠ x := by omega
    rcases ha3 with rfl | rfl
    · refine ⟨1, dt_put M 4 (dt_set (dt_set (M 4) 2 x ((M 4 2 x) &&& (((1 : Int32) <<< (jI y &&& 31)) ^^^ (-1 : Int32)))) 2 y ((M 4 2 y) &&& (((1 : Int32) <<< (jI x &&& 31)) ^^^ (-1 : Int32)))), _, ?_, mdl false rfl, key false ((M 4 2 x) &&& (((1 : Int32) <<< (jI y &&& 31)) ^^^ (-1 : Int32))) ((M 4 2 y) &&& (((1 : Int32) <<< (jI x &&& 31)) ^^^ (-1 : Int32))) (fun i => ?_) (fun i => ?_)⟩
      · unfold fX9_quarrel fX0_setFoes
        rw [k2, if_neg (by rw [c1]; omega), if_neg (by rw [c2]; omega), if_neg (by rw [c3]; omega), if_neg (by rw [c4]; omega), if_neg (by rw [c5]; exact zn), if_pos rfl, xa, ya]
        simp only [dt_b1]
        rw [if_pos (Or.inr trivial), dt_set_s, upd_n _ _ _ _ nxy]
      · rw [Int32.toBitVec_and, BitVec.getLsbD_and, neg_lsb, two_lsb _ _ (by omega)]
        by_cases t : i = y
        · rw [if_pos t, decide_eq_true t.symm, Bool.not_true, Bool.and_false, Bool.and_false]
        · rw [if_neg t, decide_eq_false (show ¬ y = i from fun e => t e.symm), Bool.not_false, Bool.and_true]
          by_cases u : i < 32
          · rw [decide_eq_true u, Bool.and_true]
          · rw [BitVec.getLsbD_of_ge _ _ (by omega), Bool.false_and]
      · rw [Int32.toBitVec_and, BitVec.getLsbD_and, neg_lsb, two_lsb _ _ (by omega)]
        by_cases t : i = x
        · rw [if_pos t, decide_eq_true t.symm, Bool.not_true, Bool.and_false, Bool.and_false]
        · rw [if_neg t, decide_eq_false (show ¬ x = i from fun e => t e.symm), Bool.not_false, Bool.and_true]
          by_cases u : i < 32
          · rw [decide_eq_true u, Bool.and_true]
          · rw [BitVec.getLsbD_of_ge _ _ (by omega), Bool.false_and]
    · refine ⟨1, dt_put M 4 (dt_set (dt_set (M 4) 2 x ((M 4 2 x) ||| ((1 : Int32) <<< (jI y &&& 31)))) 2 y ((M 4 2 y) ||| ((1 : Int32) <<< (jI x &&& 31)))), _, ?_, mdl true rfl, key true ((M 4 2 x) ||| ((1 : Int32) <<< (jI y &&& 31))) ((M 4 2 y) ||| ((1 : Int32) <<< (jI x &&& 31))) (fun i => ?_) (fun i => ?_)⟩
      · unfold fX9_quarrel fX0_setFoes
        rw [k2, if_neg (by rw [c1]; omega), if_neg (by rw [c2]; omega), if_neg (by rw [c3]; omega), if_neg (by rw [c4]; omega), if_neg (by rw [c5]; exact zn), if_neg n10, xa, ya]
        simp only [dt_b1]
        rw [if_pos (Or.inr trivial), dt_set_s, upd_n _ _ _ _ nxy]
      · rw [Int32.toBitVec_or, BitVec.getLsbD_or, two_lsb _ _ (by omega)]
        by_cases t : i = y
        · rw [if_pos t, decide_eq_true t.symm, Bool.or_true]
        · rw [if_neg t, decide_eq_false (fun e => t e.symm), Bool.or_false]
      · rw [Int32.toBitVec_or, BitVec.getLsbD_or, two_lsb _ _ (by omega)]
        by_cases t : i = x
        · rw [if_pos t, decide_eq_true t.symm, Bool.or_true]
        · rw [if_neg t, decide_eq_false (fun e => t e.symm), Bool.or_false]
  · refine ⟨0, M, M 18, ?_, ?_, same⟩
    · have qq : fX0_setFoes (jI a) (jI b) a3 (M 4) = some (0, M 4) := by
        unfold fX0_setFoes
        rw [k2]
        by_cases t1 : a < 0
        · rw [if_pos (by rw [c1]; exact t1)]
        · rw [if_neg (by rw [c1]; exact t1)]
          by_cases t2 : (k : Int) ≤ a
          · rw [if_pos (by rw [c2]; exact t2)]
          · rw [if_neg (by rw [c2]; exact t2)]
            by_cases t3 : b < 0
            · rw [if_pos (by rw [c3]; exact t3)]
            · rw [if_neg (by rw [c3]; exact t3)]
              by_cases t4 : (k : Int) ≤ b
              · rw [if_pos (by rw [c4]; exact t4)]
              · rw [if_neg (by rw [c4]; exact t4), if_pos (by rw [c5]; omega)]
      unfold fX9_quarrel
      rw [qq, dt_b1, if_pos (Or.inl rfl), dt_put_self]
    · unfold fX10_quarrel
      rw [ia, dt_b1]
      by_cases za : 0 ≤ a ∧ a < k
      · rw [if_pos za, i10, ib, dt_b1]
        by_cases zb : 0 ≤ b ∧ b < k
        · rw [if_pos zb, i10, if_pos (by rw [c5]; omega)]
        · rw [if_neg zb, i00]
      · rw [if_neg za, i00]
