/-! ===== a vow's text as a row of codes, read: what it comes to and where, or the fault and where ===== -/
def rUnit (c : Nat → Int) (F : Nat → Int32) (p : Nat) : (Int32 × Nat) ⊕ (Int × Nat) := if c p < 10000 then .inl (jI (c p), p + 1) else if 20005 ≤ c p ∧ c p < 20012 then .inl (F (c p - 20005).toNat, p + 1) else .inr (1, p)
def rSumL (c : Nat → Int) (F : Nat → Int32) : Nat → Nat → Int32 → Bool → Int32 → (Int32 × Nat) ⊕ (Int × Nat)
  | 0, p, _, _, _ => .inr (0, p)
  | f + 1, p, total, less, term =>
    if c p = 10042 then (match rUnit c F (p + 1) with | .inl (v, q) => rSumL c F f q total less (term * v) | .inr e => .inr e)
    else if c p = 10047 then (if c (p + 1) = 0 then .inr (2, p + 1) else if c (p + 1) < 10000 then rSumL c F f (p + 2) total less (term / jI (c (p + 1))) else .inr (1, p + 1))
    else if c p = 10043 ∨ c p = 10045 then (match rUnit c F (p + 1) with | .inl (v, q) => rSumL c F f q (if less then total - term else total + term) (decide (c p = 10045)) v | .inr e => .inr e)
    else .inl ((if less then total - term else total + term), p)
def rSum (c : Nat → Int) (F : Nat → Int32) (p : Nat) : (Int32 × Nat) ⊕ (Int × Nat) := match rUnit c F p with | .inl (v, q) => rSumL c F 500 q 0 false v | .inr e => .inr e
def rSo (x : Int32) (s : Int) (y : Int32) : Bool := if s = 10061 then decide (x = y) else if s = 10060 then decide (x < y) else decide (y < x)
def rOrd (c : Nat → Int) (F : Nat → Int32) (p : Nat) : (Bool × Nat) ⊕ (Int × Nat) := match rSum c F p with
  | .inl (x, q) => if c q = 10060 ∨ c q = 10061 ∨ c q = 10062 then (match rSum c F (q + 1) with | .inl (y, q') => .inl (rSo x (c q) y, q') | .inr e => .inr e) else .inr (1, q)
  | .inr e => .inr e
def rEith (c : Nat → Int) (cl : Nat → (Bool × Nat) ⊕ (Int × Nat)) : Nat → Nat → Bool → Bool → (Bool × Nat) ⊕ (Int × Nat)
  | 0, p, _, _ => .inr (0, p)
  | f + 1, p, any, all => match cl p with
    | .inr e => .inr e
    | .inl (so, q) => if c q = 20003 then rEith c cl f (q + 1) any (all && so) else if c q = 20002 then rEith c cl f (q + 1) (any || (all && so)) true else .inl (any || (all && so), q)
def rClaim (c : Nat → Int) (F : Nat → Int32) : Nat → Nat → (Bool × Nat) ⊕ (Int × Nat)
  | 0, p => if c p = 20004 ∨ c p = 10040 then .inr (3, p) else rOrd c F p
  | d + 1, p => if c p = 20004 then (match rClaim c F d (p + 1) with | .inl (so, q) => .inl (!so, q) | .inr e => .inr e)
    else if c p = 10040 then (match rEith c (rClaim c F d) 500 (p + 1) false true with | .inl (so, q) => if c q = 10041 then .inl (so, q + 1) else .inr (1, q) | .inr e => .inr e)
    else rOrd c F p
def rLine (c : Nat → Int) (F : Nat → Int32) (p : Nat) : (Bool × Nat) ⊕ (Int × Nat) := match rEith c (rClaim c F 8) 500 (p + 1) false true with | .inl (so, q) => if c q = 10059 then .inl (so, q + 1) else .inr (1, q) | .inr e => .inr e
/-! a step of what the reference makes of it, over a pile -/
def eStep (k v : Int32) (F : Nat → Int32) (s : List Int32) : Option (List Int32) :=
  if k < 13 then (if 0 ≤ k ∧ k < 8 then some ((if k = 0 then v else F (k.toNatClampNeg - 1)) :: s) else none)
  else if k = 16 then (match s with | x :: r => if v = 0 then none else some ((x / v) :: r) | [] => none)
  else if k = 20 then (match s with | x :: r => some ((1 - x) :: r) | [] => none)
  else match s with
    | y :: x :: r => some ((if k = 13 then x + y else if k = 14 then x - y else if k = 15 then x * y else if k = 17 then (if x < y then 1 else 0) else if k = 18 then (if x = y then 1 else 0) else if k = 19 then (if y < x then 1 else 0) else if k = 21 then x &&& y else x ||| y) :: r)
    | _ => none
def eRun (S : Nat → Int32) (F : Nat → Int32) : Nat → Nat → List Int32 → Option (List Int32)
  | _, 0, s => some s
  | i, n + 1, s => match eStep (S (2 * i)) (S (2 * i + 1)) F s with | some s' => eRun S F (i + 1) n s' | none => none
def bI (b : Bool) : Int32 := if b then 1 else 0
/-- the row of codes of a vow -/
def VS (V : dt_Ob) (c : Nat → Int) (size : Nat) : Prop := V 2 0 = jI size ∧ size ≤ 400 ∧ (∀ p, p < size → V 0 p = jI (c p) ∧ 0 ≤ c p ∧ c p ≤ 30001 ∧ c p ≠ 30000) ∧ (∀ p, size ≤ p → c p = 30000)
/-- lines of the class's vow, and what the reference keeps of them: words, from, to, steps -/
def RLn (c : Nat → Int) (size lines : Nat) (wd fr to : Nat → Nat) (S : Nat → Int32) : Prop := ∃ pos : Nat → Nat, pos 0 = 0 ∧ pos lines = size ∧ ∀ i, i < lines → pos i < size ∧ wd i ≤ 1 ∧ c (pos i) = 20000 + wd i ∧ fr i ≤ to i ∧ to i ≤ 410 ∧ ∀ F : Nat → Int32, ∃ so : Bool, rLine c F (pos i) = .inl (so, pos (i + 1)) ∧ eRun S F (fr i) (to i - fr i) [] = some [bI so]
def RV (V : dt_Ob) (w : Nat → Int32) : Prop := ∃ (c : Nat → Int) (size lines : Nat) (wd fr to : Nat → Nat), VS V c size ∧ lines ≤ 16 ∧ V 5 0 = jI lines ∧ w 340 = jI lines ∧ (∀ i, i < lines → w (345 + i) = jI (wd i) ∧ w (365 + i) = jI (fr i) ∧ w (385 + i) = jI (to i)) ∧ RLn c size lines wd fr to (fun j => w (405 + j))
theorem RLn_congr {c : Nat → Int} {size lines : Nat} {wd fr to : Nat → Nat} {S S' : Nat → Int32} (h : RLn c size lines wd fr to S) (e : ∀ j, j < 820 → S' j = S j) : RLn c size lines wd fr to S' := by
  obtain ⟨pos, h1, h2, h3⟩ := h
  refine ⟨pos, h1, h2, fun i hi => ?_⟩
  obtain ⟨a1, a2, a3, a4, a5, a6⟩ := h3 i hi
  refine ⟨a1, a2, a3, a4, a5, fun F => ?_⟩
  obtain ⟨so, b1, b2⟩ := a6 F
  refine ⟨so, b1, ?_⟩
  rw [← b2]
  have key : ∀ (n i : Nat) (s : List Int32), i + n ≤ 410 → eRun S' F i n s = eRun S F i n s := by
    intro n
    induction n with
    | zero => intro i s _; rfl
    | succ n ih =>
      intro i s hi
      unfold eRun
      rw [e (2 * i) (by omega), e (2 * i + 1) (by omega)]
      cases eStep (S (2 * i)) (S (2 * i + 1)) F s with
      | none => rfl
      | some s' => exact ih (i + 1) s' (by omega)
  exact key _ _ _ (by omega)
theorem RV_congr {V V' : dt_Ob} {w w' : Nat → Int32} (h : RV V w) (e2 : V' 2 0 = V 2 0) (e5 : V' 5 0 = V 5 0) (e0 : ∀ p, p < 400 → V' 0 p = V 0 p) (ew : ∀ j, 340 ≤ j → j < 1225 → w' j = w j) : RV V' w' := by
  obtain ⟨c, size, lines, wd, fr, to, h1, h2, h3, h4, h5, h6⟩ := h
  refine ⟨c, size, lines, wd, fr, to, ⟨by rw [e2]; exact h1.1, h1.2.1, fun p hp => ?_, h1.2.2.2⟩, h2, by rw [e5]; exact h3, by rw [ew 340 (by omega) (by omega)]; exact h4, fun i hi => ?_, RLn_congr h6 (fun j hj => ew (405 + j) (by omega) (by omega))⟩
  · have := h1.2.1
    rw [e0 p (by omega)]; exact h1.2.2.1 p hp
  · rw [ew (345 + i) (by omega) (by omega), ew (365 + i) (by omega) (by omega), ew (385 + i) (by omega) (by omega)]
    exact h5 i hi
/-- the empty vow -/
theorem RV_empty {V : dt_Ob} {w : Nat → Int32} (e2 : V 2 0 = 0) (e5 : V 5 0 = 0) (ew : w 340 = 0) : RV V w := by
  refine ⟨fun _ => 30000, 0, 0, fun _ => 0, fun _ => 0, fun _ => 0, ⟨e2, by omega, fun p hp => by omega, fun _ _ => rfl⟩, by omega, e5, ew, fun i hi => by omega, fun _ => 0, rfl, rfl, fun i hi => by omega⟩
