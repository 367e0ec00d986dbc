/-! ===== plan: carries one after another ===== -/
abbrev Cry : Type := Nat × Int
def okS (n : Nat) (W : Int) (g : Nat → Nat → Int) (s : Cry) : Prop := s.1 < n ∧ g 5 s.1 < 0 ∧ 0 ≤ s.2 ∧ s.2 + g 0 s.1 ≤ W ∧ rsn n g s.1 s.2 = 0
def runP (n : Nat) : (Nat → Nat → Int) → List Cry → (Nat → Nat → Int)
  | g, [] => g
  | g, s :: r => runP n (gD n g s.1 s.2) r
def VdP (n : Nat) (W : Int) : (Nat → Nat → Int) → List Cry → Prop
  | _, [] => True
  | g, s :: r => okS n W g s ∧ VdP n W (gD n g s.1 s.2) r
def cs (n : Nat) (g : Nat → Nat → Int) (s : Cry) : Int := (if 0 ≤ g 4 s.1 - 10 - s.2 then g 4 s.1 - 10 - s.2 else -(g 4 s.1 - 10 - s.2)) + la n g s.2 (g 0 s.1).toNat
def csP (n : Nat) : (Nat → Nat → Int) → List Cry → Int
  | _, [] => 0
  | g, s :: r => cs n g s + csP n (gD n g s.1 s.2) r
theorem runP_app (n : Nat) : ∀ (a b : List Cry) (g : Nat → Nat → Int), runP n g (a ++ b) = runP n (runP n g a) b := by
  intro a
  induction a with
  | nil => intro b g; rfl
  | cons s r ih => intro b g; exact ih b _
theorem VdP_app (n : Nat) (W : Int) : ∀ (a b : List Cry) (g : Nat → Nat → Int), VdP n W g (a ++ b) ↔ VdP n W g a ∧ VdP n W (runP n g a) b := by
  intro a
  induction a with
  | nil => intro b g; exact ⟨fun h => ⟨trivial, h⟩, fun h => h.2⟩
  | cons s r ih =>
    intro b g
    constructor
    · rintro ⟨h1, h2⟩
      obtain ⟨h3, h4⟩ := (ih b _).mp h2
      exact ⟨⟨h1, h3⟩, h4⟩
    · rintro ⟨⟨h1, h3⟩, h4⟩
      exact ⟨h1, (ih b _).mpr ⟨h3, h4⟩⟩
theorem csP_app (n : Nat) : ∀ (a b : List Cry) (g : Nat → Nat → Int), csP n g (a ++ b) = csP n g a + csP n (runP n g a) b := by
  intro a
  induction a with
  | nil => intro b g; show csP n g b = 0 + csP n g b; omega
  | cons s r ih =>
    intro b g
    show cs n g s + csP n (gD n g s.1 s.2) (r ++ b) = cs n g s + csP n (gD n g s.1 s.2) r + csP n (runP n (gD n g s.1 s.2) r) b
    rw [ih b]; omega
theorem rsn_0 (n : Nat) (g : Nat → Nat → Int) (b : Nat) (c : Int) : rsn n g b c = 0 ↔ stn n g b c ∧ ovl_ n (gD n g b c) = -1 := by
  unfold rsn
  by_cases z : stn n g b c
  · rw [if_pos z]
    by_cases y : ovl_ n (gD n g b c) = -1
    · rw [if_pos y]; exact ⟨fun _ => ⟨z, y⟩, fun _ => rfl⟩
    · rw [if_neg y]; exact ⟨fun q => by omega, fun q => absurd q.2 y⟩
  · rw [if_neg z]; exact ⟨fun q => by omega, fun q => absurd q.1 z⟩
theorem okS_T {n : Nat} {W : Int} {g : Nat → Nat → Int} (ho : okT n W g) {s : Cry} (h : okS n W g s) : okT n W (gD n g s.1 s.2) := okT_drop ho h.1 s.2 h.2.1 h.2.2.1 h.2.2.2.1
theorem VdP_T {n : Nat} {W : Int} : ∀ (l : List Cry) (g : Nat → Nat → Int), okT n W g → VdP n W g l → okT n W (runP n g l) := by
  intro l
  induction l with
  | nil => intro g h _; exact h
  | cons s r ih => intro g h hv; exact ih _ (okS_T h hv.1) hv.2
/-- what is in the tower stays where it is -/
theorem run_keep {n : Nat} {W : Int} : ∀ (l : List Cry) (g : Nat → Nat → Int), VdP n W g l → ∀ b, 0 ≤ g 5 b → ∀ f, runP n g l f b = g f b := by
  intro l
  induction l with
  | nil => intro g _ b _ f; rfl
  | cons s r ih =>
    intro g hv b h0 f
    have ne : b ≠ s.1 := fun q => by have := hv.1.2.1; rw [q] at h0; omega
    have e : ∀ f, gD n g s.1 s.2 f b = g f b := fun f => gD_n n g s.1 s.2 f b ne
    show runP n (gD n g s.1 s.2) r f b = g f b
    rw [ih _ hv.2 b (by rw [e]; exact h0) f, e]
/-- columns apart -/
abbrev apart (g : Nat → Nat → Int) (s t : Cry) : Prop := t.2 + g 0 t.1 ≤ s.2 ∨ s.2 + g 0 s.1 ≤ t.2
theorem hi_off {n : Nat} {W : Int} {g : Nat → Nat → Int} (ho : okT n W g) {s : Cry} (h : okS n W g s) (q : Int) (hq : q < s.2 ∨ s.2 + g 0 s.1 ≤ q) : hi (gD n g s.1 s.2) q n = hi g q n := by
  have k := hi_drop h.1 (-1) s.2 (la n g s.2 (g 0 s.1).toNat) h.2.1 h.2.2.1 (fun i hi' => la_ge n g s.2 (g 0 s.1).toNat i (by omega)) (la_nn _ _ _ _) q
  rw [if_neg (by omega)] at k
  exact k
theorem la_cg {n : Nat} {g g' : Nat → Nat → Int} (c : Int) : ∀ k : Nat, (∀ i : Nat, i < k → hi g' (c + i) n = hi g (c + i) n) → la n g' c k = la n g c k := by
  intro k
  induction k with
  | zero => intro _; rfl
  | succ k ih =>
    intro h
    show max (la n g' c k) (hi g' (c + k) n) = max (la n g c k) (hi g (c + k) n)
    rw [ih (fun i hi' => h i (by omega)), h k (by omega)]
theorem la_off {n : Nat} {W : Int} {g : Nat → Nat → Int} (ho : okT n W g) {s t : Cry} (h : okS n W g s) (ht : 0 ≤ g 0 t.1) (ha : apart g s t) : la n (gD n g s.1 s.2) t.2 (g 0 t.1).toNat = la n g t.2 (g 0 t.1).toNat := by
  refine la_cg t.2 _ (fun i hi' => hi_off ho h _ ?_)
  rcases ha with q | q
  · left; omega
  · right; omega
theorem stn_off {n : Nat} {W : Int} {g : Nat → Nat → Int} (ho : okT n W g) {s t : Cry} (h : okS n W g s) (htn : t.1 < n) (ha : apart g s t) : stn n (gD n g s.1 s.2) t.1 t.2 ↔ stn n g t.1 t.2 := by
  have r := ho.2.2.2.1 t.1 htn
  unfold okB at r
  have e0 : gD n g s.1 s.2 0 t.1 = g 0 t.1 := gD_0 _ _ _ _ _
  have el := la_off ho h (by omega) ha
  have eh : ∀ i : Nat, (i : Int) < g 0 t.1 → hi (gD n g s.1 s.2) (t.2 + i) n = hi g (t.2 + i) n := fun i hi' => hi_off ho h _ (by
    rcases ha with q | q
    · left; omega
    · right; omega)
  unfold stn
  rw [e0, el]
  have l : g 0 t.1 = 1 ∨ g 0 t.1 = 2 ∨ g 0 t.1 = 3 := by omega
  have h0 := eh 0 (by omega)
  rw [show t.2 + ((0 : Nat) : Int) = t.2 by omega] at h0
  rcases l with e | e | e
  · rw [h0]
    constructor
    · rintro (q | q | q)
      · exact Or.inl q
      · omega
      · omega
    · rintro (q | q | q)
      · exact Or.inl q
      · omega
      · omega
  · have h1 := eh 1 (by omega)
    rw [show t.2 + ((1 : Nat) : Int) = t.2 + 1 by omega] at h1
    rw [h0, h1]
    constructor
    · rintro (q | q | q)
      · omega
      · exact Or.inr (Or.inl q)
      · omega
    · rintro (q | q | q)
      · omega
      · exact Or.inr (Or.inl q)
      · omega
  · have h1 := eh 1 (by omega)
    have h2 := eh 2 (by omega)
    rw [show t.2 + ((1 : Nat) : Int) = t.2 + 1 by omega] at h1
    rw [show t.2 + ((2 : Nat) : Int) = t.2 + 2 by omega] at h2
    rw [h0, h1, h2]
/-- two carries apart: either way round -/
theorem swap2 {n : Nat} {W : Int} {g : Nat → Nat → Int} (ho : okT n W g) (s t : Cry) (hv : VdP n W g [s, t]) (ha : apart g s t) : VdP n W g [t, s] ∧ runP n g [t, s] = runP n g [s, t] ∧ csP n g [t, s] = csP n g [s, t] := by
  obtain ⟨hs, ht, _⟩ := hv
  have ne : t.1 ≠ s.1 := fun q => by
    have := ht.2.1
    rw [q, gD_5] at this
    have := hs.2.2.1
    omega
  have r := ho.2.2.2.1 t.1 ht.1
  have rs := ho.2.2.2.1 s.1 hs.1
  unfold okB at r rs
  have ha' : apart g t s := by rcases ha with q | q; exact Or.inr q; exact Or.inl q
  have ty : g 5 t.1 < 0 := by have := ht.2.1; rw [gD_n _ _ _ _ _ _ ne] at this; exact this
  have tW : t.2 + g 0 t.1 ≤ W := by have := ht.2.2.2.1; rw [gD_0] at this; exact this
  have el := la_off ho hs (by omega) ha
  have okt : okT n W (gD n g t.1 t.2) := okT_drop ho ht.1 t.2 ty ht.2.2.1 tW
  obtain ⟨st1, ov1⟩ := (rsn_0 _ _ _ _).mp ht.2.2.2.2
  obtain ⟨ss1, os1⟩ := (rsn_0 _ _ _ _).mp hs.2.2.2.2
  have st0 := (stn_off ho hs ht.1 ha).mp st1
  -- the tower of both
  have e2 : gD n (gD n g s.1 s.2) t.1 t.2 = gP (gP g s.1 (-1) s.2 (la n g s.2 (g 0 s.1).toNat)) t.1 (-1) t.2 (la n g t.2 (g 0 t.1).toNat) := by
    show gP (gD n g s.1 s.2) t.1 (-1) t.2 (la n (gD n g s.1 s.2) t.2 (gD n g s.1 s.2 0 t.1).toNat) = _
    rw [gD_0, el]
  have sb : SB n (gD n (gD n g s.1 s.2) t.1 t.2) (gD n g t.1 t.2) := by
    rw [e2]
    refine ⟨fun f b hf => by rw [gP_f _ _ _ _ _ _ _ hf, gP_f _ _ _ _ _ _ _ hf]; exact gP_f _ _ _ _ _ _ _ hf, fun b hb h0 => ?_, fun o b hon hb h0 ov l => ?_⟩
    · by_cases z : b = t.1
      · subst z
        rw [gD_5, gD_6, gP_5, gP_6]; exact ⟨rfl, rfl⟩
      · rw [gD_n _ _ _ _ _ _ z] at h0
        have z2 : b ≠ s.1 := fun q => by rw [q] at h0; have := hs.2.1; omega
        rw [gD_n _ _ _ _ _ _ z, gD_n _ _ _ _ _ _ z, gP_n _ _ _ _ _ _ _ z, gP_n _ _ _ _ _ _ _ z, gP_n _ _ _ _ _ _ _ z2, gP_n _ _ _ _ _ _ _ z2]
        exact ⟨rfl, rfl⟩
    · by_cases zb : b = t.1
      · subst zb; rw [gD_5]; exact ht.2.2.1
      · rw [gD_n _ _ _ _ _ _ zb]
        by_cases zs : b = s.1
        · -- nothing rests on s
          exfalso
          subst zs
          by_cases zo : o = t.1
          · subst zo
            have o1 := ov.2.2.1
            have o2 := ov.2.2.2
            rw [gP_5, gP_n _ _ _ _ _ 5 _ zb, gP_5, gP_0, gP_0] at o1
            rw [gP_5, gP_n _ _ _ _ _ 5 _ zb, gP_5, gP_0, gP_0] at o2
            rcases ha with q | q <;> omega
          · rw [gD_n _ _ _ _ _ _ zo] at h0
            have zo2 : o ≠ s.1 := fun q => by rw [q] at h0; have := hs.2.1; omega
            rw [gP_n _ _ _ _ _ 6 _ zb, gP_6, gP_n _ _ _ _ _ 6 _ zo, gP_n _ _ _ _ _ 6 _ zo2] at l
            have o1 := ov.2.2.1
            have o2 := ov.2.2.2
            rw [gP_n _ _ _ _ _ 5 _ zo, gP_n _ _ _ _ _ 5 _ zo2, gP_n _ _ _ _ _ 5 _ zb, gP_5, gP_0, gP_0] at o1
            rw [gP_n _ _ _ _ _ 5 _ zo, gP_n _ _ _ _ _ 5 _ zo2, gP_n _ _ _ _ _ 5 _ zb, gP_5, gP_0, gP_0] at o2
            have ro := ho.2.2.2.1 o hon
            unfold okB at ro
            have q : ∃ q : Int, g 5 o ≤ q ∧ q < g 5 o + g 0 o ∧ s.2 ≤ q ∧ q < s.2 + g 0 s.1 := by
              by_cases y : g 5 o ≤ s.2
              · exact ⟨s.2, by omega, by omega, by omega, by omega⟩
              · exact ⟨g 5 o, by omega, by omega, by omega, by omega⟩
            obtain ⟨q, q1, q2, q3, q4⟩ := q
            have a1 := hi_ge g q n o hon ⟨h0, q1, q2⟩
            have a2 := la_ge n g s.2 (g 0 s.1).toNat (q - s.2).toNat (by omega)
            rw [show s.2 + (((q - s.2).toNat : Nat) : Int) = q by omega] at a2
            omega
        · have := ov.2.1
          rw [gP_n _ _ _ _ _ _ _ zb, gP_n _ _ _ _ _ _ _ zs] at this
          exact this
  have os2 := okS_T ho hs
  have okb : okT n W (gD n (gD n g s.1 s.2) t.1 t.2) := okS_T os2 ht
  have ovt := SB_ovn sb okb.D okt.D ov1
  have ot : okS n W g t := ⟨ht.1, ty, ht.2.2.1, tW, (rsn_0 _ _ _ _).mpr ⟨st0, ovt⟩⟩
  have el' := la_off ho ot (by omega) ha'
  have e2' : gD n (gD n g t.1 t.2) s.1 s.2 = gD n (gD n g s.1 s.2) t.1 t.2 := by
    rw [e2]
    show gP (gD n g t.1 t.2) s.1 (-1) s.2 (la n (gD n g t.1 t.2) s.2 (gD n g t.1 t.2 0 s.1).toNat) = _
    rw [gD_0, el']
    funext f b
    by_cases z : b = s.1
    · subst z
      rw [gP_n (gP g s.1 _ _ _) t.1 _ _ _ _ _ (Ne.symm ne)]
      unfold gP gD
      rw [if_pos rfl, if_pos rfl]
      rw [gP_n _ _ _ _ _ _ _ (Ne.symm ne)]
    · rw [gP_n _ s.1 _ _ _ _ _ z]
      by_cases y : b = t.1
      · subst y
        unfold gD
        unfold gP
        rw [if_pos rfl, if_pos rfl, if_neg ne]
      · unfold gD
        rw [gP_n _ t.1 _ _ _ _ _ y, gP_n _ t.1 _ _ _ _ _ y, gP_n _ s.1 _ _ _ _ _ z]
  have sy : gD n g t.1 t.2 5 s.1 < 0 := by rw [gD_n _ _ _ _ _ _ (Ne.symm ne)]; exact hs.2.1
  have ss : okS n W (gD n g t.1 t.2) s := ⟨hs.1, sy, hs.2.2.1, by rw [gD_0]; exact hs.2.2.2.1, (rsn_0 _ _ _ _).mpr ⟨(stn_off ho ot hs.1 ha').mpr ss1, by rw [e2']; exact ov1⟩⟩
  refine ⟨⟨ot, ss, trivial⟩, e2', ?_⟩
  show cs n g t + (cs n (gD n g t.1 t.2) s + 0) = cs n g s + (cs n (gD n g s.1 s.2) t + 0)
  have c1 : cs n (gD n g t.1 t.2) s = cs n g s := by
    unfold cs
    rw [gD_0, el', gD_n _ _ _ _ _ _ (Ne.symm ne)]
  have c2 : cs n (gD n g s.1 s.2) t = cs n g t := by
    unfold cs
    rw [gD_0, el, gD_n _ _ _ _ _ _ ne]
  rw [c1, c2]
  omega
