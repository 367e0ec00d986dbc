/-! ===== the pure part: numbers ===== -/
def jI (a : Int) : Int32 := Int32.ofInt a
theorem jI_lit (n : Nat) : (OfNat.ofNat n : Int32) = jI (OfNat.ofNat n) := rfl
theorem jI_add (a b : Int) : jI a + jI b = jI (a + b) := (Int32.ofInt_add a b).symm
theorem jI_sub (a b : Int) : jI a - jI b = jI (a - b) := (Int32.ofInt_sub a b).symm
theorem jI_mul (a b : Int) : jI a * jI b = jI (a * b) := (Int32.ofInt_mul a b).symm
theorem jI_neg (a : Int) : -jI a = jI (-a) := (Int32.ofInt_neg a).symm
theorem jI_toInt (a : Int) (h0 : -2147483648 ≤ a) (h1 : a < 2147483648) : (jI a).toInt = a := Int32.toInt_ofInt_of_le h0 h1
theorem jI_self (x : Int32) : jI x.toInt = x := Int32.ofInt_toInt x
theorem jI_lt (a b : Int) (h0 : -2147483648 ≤ a) (h1 : a < 2147483648) (h2 : -2147483648 ≤ b) (h3 : b < 2147483648) : (jI a < jI b) = (a < b) := by
  rw [Int32.lt_iff_toInt_lt, jI_toInt a h0 h1, jI_toInt b h2 h3]
theorem jI_le (a b : Int) (h0 : -2147483648 ≤ a) (h1 : a < 2147483648) (h2 : -2147483648 ≤ b) (h3 : b < 2147483648) : (jI a ≤ jI b) = (a ≤ b) := by
  rw [Int32.le_iff_toInt_le, jI_toInt a h0 h1, jI_toInt b h2 h3]
theorem jI_eq (a b : Int) (h0 : -2147483648 ≤ a) (h1 : a < 2147483648) (h2 : -2147483648 ≤ b) (h3 : b < 2147483648) : (jI a = jI b) = (a = b) := by
  apply propext
  constructor
  · intro h
    have := congrArg Int32.toInt h
    rwa [jI_toInt a h0 h1, jI_toInt b h2 h3] at this
  · intro h; rw [h]
/-- any int is the image of one in range -/
theorem jI_ex (x : Int32) : ∃ a : Int, x = jI a ∧ -2147483648 ≤ a ∧ a < 2147483648 := ⟨x.toInt, (jI_self x).symm, Int32.le_toInt x, Int32.toInt_lt x⟩
theorem dt_ix_j (a : Int) (n : Nat) (h0 : 0 ≤ a) (h1 : a < n) (h2 : n < 2147483648) : dt_ix (jI a) n = some a.toNat := by
  unfold dt_ix
  have e : (jI a).toNatClampNeg = a.toNat := by
    unfold Int32.toNatClampNeg
    rw [jI_toInt a (by omega) (by omega)]
  have l : ¬ (jI a < 0) := by
    rw [jI_lit, jI_lt _ _ (by omega) (by omega) (by omega) (by omega)]; omega
  rw [e, if_neg]
  intro h
  rcases h with h | h
  · exact l h
  · omega
theorem dt_ix_n (b : Nat) (n : Nat) (h1 : b < n) (h2 : n < 2147483648) : dt_ix (jI b) n = some b := by
  rw [dt_ix_j _ _ (by omega) (by omega) h2]; rfl
theorem nI_j (n : Nat) : nI n = jI n := rfl
theorem dt_b1 {α β : Type} (x : α) (f : α → Option β) : (some x).bind f = f x := rfl
theorem dt_set_at (T : dt_Ob) (j i : Nat) (v : Int32) : dt_set T j i v j i = v := by unfold dt_set; rw [dt_setA_s]; exact if_pos rfl
theorem dt_set_s (T : dt_Ob) (j i : Nat) (v : Int32) : dt_set T j i v j = upd (T j) i v := by unfold dt_set; rw [dt_setA_s]
theorem dt_set_n (T : dt_Ob) (j i j' : Nat) (v : Int32) (h : j' ≠ j) : dt_set T j i v j' = T j' := by unfold dt_set; rw [dt_setA_n _ _ h]
theorem dt_setA_ne (T : dt_Ob) (j j' : Nat) (f : Nat → Int32) (h : j' ≠ j) : dt_setA T j f j' = T j' := dt_setA_n T f h
theorem upd_s (f : Nat → Int32) (i : Nat) (v : Int32) : upd f i v i = v := if_pos rfl
theorem upd_e (f : Nat → Int32) (i j : Nat) (v : Int32) (h : j = i) : upd f i v j = v := if_pos h
theorem upd_n (f : Nat → Int32) (i j : Nat) (v : Int32) (h : j ≠ i) : upd f i v j = f j := if_neg h
theorem dt_put_ne (M : dt_M) (k k' : Nat) (T : dt_Ob) (h : k' ≠ k) : dt_put M k T k' = M k' := dt_put_n M T h
theorem dt_fill_i (f : Nat → Int32) (n i : Nat) (v : Int32) (h : i < n) : dt_fill f n v i = v := if_pos h
theorem va_cpy_i (f g : Nat → Int32) (n k : Nat) (h : k < n) : va_cpy f g 0 0 n k = f k := by
  unfold va_cpy
  rw [if_pos (by omega)]
  congr 1
  omega
theorem jI_bool (p : Prop) [Decidable p] (x y : Int32) : (if p then some x else some y) = some (if p then x else y) := by split <;> rfl
theorem jI_div (a b : Int) (h0 : 0 ≤ a) (h1 : a < 2147483648) (h2 : 0 < b) (h3 : b < 2147483648) : jI a / jI b = jI (a / b) := by
  have e := @Int32.ofInt_tdiv a b (by show (-2147483648 : Int) ≤ a; omega) (by show a ≤ (2147483647 : Int); omega) (by show (-2147483648 : Int) ≤ b; omega) (by show b ≤ (2147483647 : Int); omega)
  rw [Int.tdiv_eq_ediv_of_nonneg h0] at e
  exact e.symm
