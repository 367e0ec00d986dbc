/-! ===== plan: the best plan ===== -/
theorem tp_drop {n : Nat} {W : Int} {g : Nat → Nat → Int} (ho : okT n W g) {s : Cry} (h : okS n W g s) : tp (gD n g s.1 s.2) n = max (tp g n) (la n g s.2 (g 0 s.1).toNat + 1) := by
  have l0 := la_nn n g s.2 (g 0 s.1).toNat
  have t0 := tp_nn g n
  refine tp_uniq _ _ _ (by omega) (fun b hb h0 => ?_) ?_
  · by_cases z : b = s.1
    · subst z; rw [gD_6]; omega
    · rw [gD_n _ _ _ _ _ _ z] at h0 ⊢
      have := tp_ge g n b hb h0
      omega
  · right
    by_cases z : tp g n ≤ la n g s.2 (g 0 s.1).toNat + 1
    · exact ⟨s.1, h.1, by rw [gD_5]; exact h.2.2.1, by rw [gD_6]; omega⟩
    · rcases tp_att g n with q | ⟨b, hb, h0, q⟩
      · omega
      · have ne : b ≠ s.1 := fun e => by rw [e] at h0; have := h.2.1; omega
        exact ⟨b, hb, by rw [gD_n _ _ _ _ _ _ ne]; exact h0, by rw [gD_n _ _ _ _ _ _ ne]; omega⟩
theorem la_tp {n : Nat} {g : Nat → Nat → Int} (c : Int) (k : Nat) : la n g c k ≤ tp g n := by
  rcases la_att n g c k with z | ⟨i, _, z⟩
  · rw [z]; exact tp_nn g n
  · rw [z]
    refine hi_le _ _ _ _ (tp_nn g n) (fun b hb cv => tp_ge g n b hb cv.1)
theorem run_tp {n : Nat} {W : Int} : ∀ (l : List Cry) (g : Nat → Nat → Int), okT n W g → VdP n W g l → tp g n ≤ tp (runP n g l) n ∧ tp (runP n g l) n ≤ tp g n + l.length := by
  intro l
  induction l with
  | nil => intro g _ _; exact ⟨Int.le_refl _, by show tp g n ≤ tp g n + ((0 : Nat) : Int); omega⟩
  | cons s r ih =>
    intro g ho hv
    have i := ih _ (okS_T ho hv.1) hv.2
    have t := tp_drop ho hv.1
    have l := la_tp (n := n) (g := g) s.2 (g 0 s.1).toNat
    have e : ((s :: r).length : Int) = r.length + 1 := by rw [List.length_cons]; omega
    show tp g n ≤ tp (runP n (gD n g s.1 s.2) r) n ∧ tp (runP n (gD n g s.1 s.2) r) n ≤ _
    rw [e]
    omega
def IsPlan (n : Nat) (W : Int) (g : Nat → Nat → Int) (goal : Int) (N : Nat) (p : List Cry) : Prop := VdP n W g p ∧ p.length = N ∧ goal ≤ tp (runP n g p) n
/-- the last carry is what reaches the goal -/
theorem last_reach {n : Nat} {W : Int} {g : Nat → Nat → Int} (ho : okT n W g) {goal : Int} {N : Nat} (hN : ∀ p, ¬ IsPlan n W g goal N p) (pre : List Cry) (t : Cry) (hp : IsPlan n W g goal (N + 1) (pre ++ [t])) : goal ≤ la n (runP n g pre) t.2 (g 0 t.1).toNat + 1 := by
  obtain ⟨h1, h2, h3⟩ := hp
  obtain ⟨v1, v2⟩ := (VdP_app n W pre [t] g).mp h1
  have hl : pre.length = N := by rw [List.length_append] at h2; have : [t].length = 1 := rfl; omega
  have no : ¬ goal ≤ tp (runP n g pre) n := fun q => hN pre ⟨v1, hl, q⟩
  have okp := VdP_T pre g ho v1
  rw [runP_app] at h3
  have t1 := tp_drop okp v2.1
  have e0 : runP n g pre 0 t.1 = g 0 t.1 := by
    have : ∀ (l : List Cry) (g : Nat → Nat → Int), runP n g l 0 t.1 = g 0 t.1 := by
      intro l
      induction l with
      | nil => intro g; rfl
      | cons s r ih => intro g; show runP n (gD n g s.1 s.2) r 0 t.1 = _; rw [ih, gD_0]
    exact this pre g
  have h3' : goal ≤ tp (gD n (runP n g pre) t.1 t.2) n := h3
  rw [t1, e0] at h3'
  omega
theorem run_0 {n : Nat} (b : Nat) : ∀ (l : List Cry) (g : Nat → Nat → Int) (f : Nat), f < 4 → runP n g l f b = g f b := by
  intro l
  induction l with
  | nil => intro g f _; rfl
  | cons s r ih => intro g f hf; show runP n (gD n g s.1 s.2) r f b = _; rw [ih _ f hf]; exact gP_f _ _ _ _ _ _ _ hf
/-- in the end something rests on each but the last -/
theorem not_bare {n : Nat} {W : Int} {g : Nat → Nat → Int} (ho : okT n W g) {goal : Int} {N : Nat} (hN : ∀ p, ¬ IsPlan n W g goal N p) (pre post : List Cry) (x t : Cry) (hp : IsPlan n W g goal (N + 1) (pre ++ x :: (post ++ [t]))) : ¬ bare n (runP n g (pre ++ x :: (post ++ [t]))) x.1 := by
  intro hb
  have lr := last_reach ho hN (pre ++ x :: post) t (by
    rw [List.append_assoc]; exact hp)
  obtain ⟨h1, h2, h3⟩ := hp
  obtain ⟨v1, v2⟩ := (VdP_app n W pre (x :: (post ++ [t])) g).mp h1
  obtain ⟨v3, v4⟩ := v2
  have okp := VdP_T pre g ho v1
  have okx := okS_T okp v3
  rw [runP_app] at hb
  have hR : RMV (gD n (runP n g pre) x.1 x.2) (runP n g pre) x.1 := ⟨fun f b hbx => (gD_n _ _ _ _ _ _ hbx).symm, fun f hf => (gP_f _ _ _ _ _ _ _ hf).symm, v3.2.1, by rw [gD_5]; exact v3.2.2.1⟩
  obtain ⟨w1, w2⟩ := leave_out x.1 v3.1 (post ++ [t]) _ _ okx okp hR v4 hb
  refine hN (pre ++ (post ++ [t])) ⟨(VdP_app n W pre (post ++ [t]) g).mpr ⟨v1, w1⟩, ?_, ?_⟩
  · simp only [List.length_append, List.length_cons] at h2 ⊢; omega
  · rw [runP_app]
    -- the last block is there
    obtain ⟨p1, p2⟩ := (VdP_app n W post [t] _).mp v4
    obtain ⟨p3, p4⟩ := (VdP_app n W post [t] _).mp w1
    have k : ∀ f, runP n (gD n (runP n g pre) x.1 x.2) (post ++ [t]) f t.1 = gD n (runP n (gD n (runP n g pre) x.1 x.2) post) t.1 t.2 f t.1 := fun f => by rw [runP_app]; rfl
    have ne : t.1 ≠ x.1 := by
      intro q
      have a := p2.1.2.1
      have b := run_keep post _ p1 x.1 (by rw [gD_5]; exact v3.2.2.1) 5
      rw [q, b, gD_5] at a
      have := v3.2.2.1
      omega
    have e5 : runP n (runP n g pre) (post ++ [t]) 5 t.1 = t.2 := by rw [w2.1 5 t.1 ne, k, gD_5]
    have e6 : runP n (runP n g pre) (post ++ [t]) 6 t.1 = la n (runP n (gD n (runP n g pre) x.1 x.2) post) t.2 (g 0 t.1).toNat := by
      rw [w2.1 6 t.1 ne, k, gD_6, run_0 t.1 post _ 0 (by omega), gD_0, run_0 t.1 pre _ 0 (by omega)]
    have lr' : goal ≤ la n (runP n (gD n (runP n g pre) x.1 x.2) post) t.2 (g 0 t.1).toNat + 1 := by
      rw [runP_app] at lr; exact lr
    have := tp_ge (runP n (runP n g pre) (post ++ [t])) n t.1 p2.1.1 (by rw [e5]; exact p2.1.2.2.1)
    omega
theorem ex_min {α : Type} (P : α → Prop) (f : α → Nat) (h : ∃ a, P a) : ∃ a, P a ∧ ∀ b, P b → f a ≤ f b := by
  obtain ⟨a, ha⟩ := h
  have key : ∀ m a, f a ≤ m → P a → ∃ a, P a ∧ ∀ b, P b → f a ≤ f b := by
    intro m
    induction m with
    | zero => intro a hm ha; exact ⟨a, ha, fun b _ => by omega⟩
    | succ m ih =>
      intro a hm ha
      by_cases z : ∃ b, P b ∧ f b < f a
      · obtain ⟨b, b1, b2⟩ := z
        exact ih b (by omega) b1
      · refine ⟨a, ha, fun b hb => ?_⟩
        by_cases y : f a ≤ f b
        · exact y
        · exact absurd ⟨b, hb, by omega⟩ z
  exact key (f a) a (Nat.le_refl _) ha
/-- a carry as a digit, a plan as a number -/
def dig (s : Cry) : Nat := 8 * s.1 + s.2.toNat
def pcd : List Cry → Nat
  | [] => 0
  | s :: r => dig s * 160 ^ r.length + pcd r
def dOK (l : List Cry) : Prop := ∀ s, s ∈ l → dig s < 160
theorem pcd_lt : ∀ l, dOK l → pcd l < 160 ^ l.length := by
  intro l
  induction l with
  | nil => intro _; show 0 < 1; omega
  | cons s r ih =>
    intro h
    have a := ih (fun x hx => h x (List.mem_cons_of_mem s hx))
    have b := h s (List.mem_cons_self ..)
    show dig s * 160 ^ r.length + pcd r < 160 ^ (r.length + 1)
    rw [Nat.pow_succ]
    have : (dig s + 1) * 160 ^ r.length ≤ 160 * 160 ^ r.length := Nat.mul_le_mul_right _ b
    rw [Nat.succ_mul] at this
    omega
theorem pcd_first (s t : Cry) (r r' : List Cry) (hl : r.length = r'.length) (hr : dOK r) (h : dig s < dig t) : pcd (s :: r) < pcd (t :: r') := by
  show dig s * 160 ^ r.length + pcd r < dig t * 160 ^ r'.length + pcd r'
  have a := pcd_lt r hr
  have : (dig s + 1) * 160 ^ r.length ≤ dig t * 160 ^ r.length := Nat.mul_le_mul_right _ h
  rw [Nat.succ_mul] at this
  rw [← hl]
  omega
theorem pcd_pre (pre : List Cry) (a b : List Cry) (hl : a.length = b.length) (h : pcd a < pcd b) : pcd (pre ++ a) < pcd (pre ++ b) := by
  induction pre with
  | nil => exact h
  | cons s r ih =>
    show dig s * 160 ^ (r ++ a).length + pcd (r ++ a) < dig s * 160 ^ (r ++ b).length + pcd (r ++ b)
    have : (r ++ a).length = (r ++ b).length := by rw [List.length_append, List.length_append, hl]
    rw [this]
    omega
theorem VdP_d {n : Nat} {W : Int} : ∀ (l : List Cry) (g : Nat → Nat → Int), okT n W g → VdP n W g l → dOK l := by
  intro l
  induction l with
  | nil => intro g _ _ s hs; cases hs
  | cons x r ih =>
    intro g ho hv s hs
    rcases List.mem_cons.mp hs with e | e
    · subst e
      obtain ⟨h1, h2, h3, h4, _⟩ := hv.1
      have r := ho.2.2.2.1 s.1 h1
      unfold okB at r
      have := ho.1
      have := ho.2.2.1
      unfold dig
      omega
    · exact ih _ (okS_T ho hv.1) hv.2 s e
/-- the best: cheapest, and the first of these -/
def Opt (n : Nat) (W : Int) (g : Nat → Nat → Int) (goal : Int) (N : Nat) (p : List Cry) : Prop := IsPlan n W g goal N p ∧ ∀ q, IsPlan n W g goal N q → csP n g p < csP n g q ∨ (csP n g p = csP n g q ∧ pcd p ≤ pcd q)
theorem cs_nn (n : Nat) (g : Nat → Nat → Int) (s : Cry) : 0 ≤ cs n g s := by
  unfold cs
  have := la_nn n g s.2 (g 0 s.1).toNat
  split <;> omega
theorem csP_nn (n : Nat) : ∀ (l : List Cry) (g : Nat → Nat → Int), 0 ≤ csP n g l := by
  intro l
  induction l with
  | nil => intro g; exact Int.le_refl _
  | cons s r ih => intro g; have := ih (gD n g s.1 s.2); have := cs_nn n g s; show 0 ≤ cs n g s + _; omega
theorem Opt_ex {n : Nat} {W : Int} {g : Nat → Nat → Int} {goal : Int} {N : Nat} (h : ∃ p, IsPlan n W g goal N p) : ∃ p, Opt n W g goal N p := by
  obtain ⟨a, a1, a2⟩ := ex_min (IsPlan n W g goal N) (fun p => (csP n g p).toNat) h
  obtain ⟨b, b1, b2⟩ := ex_min (fun p => IsPlan n W g goal N p ∧ csP n g p = csP n g a) pcd ⟨a, a1, rfl⟩
  refine ⟨b, b1.1, fun q hq => ?_⟩
  have c := a2 q hq
  have p1 := csP_nn n q g
  have p2 := csP_nn n a g
  have c' : csP n g a ≤ csP n g q := by
    have c2 : (csP n g a).toNat ≤ (csP n g q).toNat := c
    omega
  rw [b1.2]
  by_cases z : csP n g q = csP n g a
  · exact Or.inr ⟨z.symm, b2 q ⟨hq, z⟩⟩
  · exact Or.inl (by omega)
/-- in the best plan no carry comes late -/
theorem no_late {n : Nat} {W : Int} {g : Nat → Nat → Int} (ho : okT n W g) {goal : Int} {N : Nat} (p1 p2 post : List Cry) (s t : Cry) (hp : Opt n W g goal N (p1 ++ ((s :: p2) ++ t :: post))) (ha : ∀ u, u ∈ s :: p2 → apart g u t) : ¬ t.1 < s.1 := by
  intro hlt
  obtain ⟨⟨h1, h2, h3⟩, hmin⟩ := hp
  obtain ⟨v1, v2⟩ := (VdP_app n W p1 _ g).mp h1
  have ok1 := VdP_T p1 g ho v1
  have split1 : (s :: p2) ++ t :: post = ((s :: p2) ++ [t]) ++ post := by rw [List.append_assoc]; rfl
  rw [split1] at v2
  obtain ⟨v3, v4⟩ := (VdP_app n W ((s :: p2) ++ [t]) post _).mp v2
  obtain ⟨m1, m2, m3⟩ := move_up t (s :: p2) (runP n g p1) ok1 v3 (fun u hu => by
    have := ha u hu
    unfold apart at this ⊢
    rw [run_0 t.1 p1 g 0 (by omega), run_0 u.1 p1 g 0 (by omega)]
    exact this)
  have vq : VdP n W (runP n g p1) ((t :: s :: p2) ++ post) := (VdP_app n W (t :: s :: p2) post _).mpr ⟨m1, by rw [m2]; exact v4⟩
  have q : IsPlan n W g goal N (p1 ++ ((t :: s :: p2) ++ post)) := by
    refine ⟨(VdP_app n W p1 _ g).mpr ⟨v1, vq⟩, ?_, ?_⟩
    · simp only [List.length_append, List.length_cons, List.cons_append] at h2 ⊢; omega
    · rw [runP_app, runP_app, m2, ← runP_app, ← split1, ← runP_app]; exact h3
  have cq : csP n g (p1 ++ ((t :: s :: p2) ++ post)) = csP n g (p1 ++ ((s :: p2) ++ t :: post)) := by
    rw [csP_app, csP_app n p1, csP_app n (t :: s :: p2), split1, csP_app n ((s :: p2) ++ [t]), m2, m3]
  have dd := VdP_d _ _ ok1 vq
  have cl : pcd (p1 ++ ((t :: s :: p2) ++ post)) < pcd (p1 ++ ((s :: p2) ++ t :: post)) := by
    refine pcd_pre p1 _ _ ?_ ?_
    · simp only [List.length_append, List.length_cons, List.cons_append]; omega
    · show pcd (t :: (s :: p2 ++ post)) < pcd (s :: (p2 ++ t :: post))
      refine pcd_first t s _ _ ?_ (fun x hx => dd x (List.mem_cons_of_mem t hx)) ?_
      · simp only [List.length_append, List.length_cons, List.cons_append]; omega
      · have o := m1.1
        have r := ok1.2.2.2.1 t.1 o.1
        unfold okB at r
        have hW := ok1.2.2.1
        have := o.2.2.1
        have := o.2.2.2.1
        unfold dig
        omega
  rcases hmin _ q with z | ⟨_, z⟩
  · omega
  · omega
