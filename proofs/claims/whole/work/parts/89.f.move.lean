/-! ===== plan: a carry moved ahead; a carry left out ===== -/
theorem move_up {n : Nat} {W : Int} (t : Cry) : ∀ (mid : List Cry) (g : Nat → Nat → Int), okT n W g → VdP n W g (mid ++ [t]) → (∀ s, s ∈ mid → apart g s t) → VdP n W g (t :: mid) ∧ runP n g (t :: mid) = runP n g (mid ++ [t]) ∧ csP n g (t :: mid) = csP n g (mid ++ [t]) := by
  intro mid
  induction mid with
  | nil => intro g _ hv _; exact ⟨hv, rfl, rfl⟩
  | cons s r ih =>
    intro g ho hv ha
    obtain ⟨hs, hr⟩ := hv
    have ho1 := okS_T ho hs
    obtain ⟨i1, i2, i3⟩ := ih (gD n g s.1 s.2) ho1 hr (fun x hx => by
      have := ha x (List.mem_cons_of_mem s hx)
      unfold apart at this ⊢
      rw [gD_0, gD_0]
      exact this)
    obtain ⟨w1, w2, w3⟩ := swap2 ho s t ⟨hs, i1.1, trivial⟩ (ha s (List.mem_cons_self ..))
    have r2 : runP n g [t, s] = gD n (gD n g t.1 t.2) s.1 s.2 := rfl
    have r3 : runP n g [s, t] = gD n (gD n g s.1 s.2) t.1 t.2 := rfl
    rw [r2, r3] at w2
    refine ⟨⟨w1.1, w1.2.1, ?_⟩, ?_, ?_⟩
    · rw [w2]; exact i1.2
    · show runP n (gD n (gD n g t.1 t.2) s.1 s.2) r = runP n (gD n g s.1 s.2) (r ++ [t])
      rw [w2, ← i2]; rfl
    · show cs n g t + (cs n (gD n g t.1 t.2) s + csP n (gD n (gD n g t.1 t.2) s.1 s.2) r) = cs n g s + csP n (gD n g s.1 s.2) (r ++ [t])
      rw [← i3, w2]
      have c3 : cs n g t + (cs n (gD n g t.1 t.2) s + 0) = cs n g s + (cs n (gD n g s.1 s.2) t + 0) := w3
      show _ = cs n g s + (cs n (gD n g s.1 s.2) t + csP n (gD n (gD n g s.1 s.2) t.1 t.2) r)
      omega
/-- nothing rests on it -/
def bare (n : Nat) (g : Nat → Nat → Int) (b : Nat) : Prop := ∀ o, o < n → ¬ (ovl g o b ∧ g 6 b + 1 = g 6 o)
/-- H is G without x -/
def RMV (G H : Nat → Nat → Int) (x : Nat) : Prop := (∀ f b, b ≠ x → H f b = G f b) ∧ (∀ f, f < 4 → H f x = G f x) ∧ H 5 x < 0 ∧ 0 ≤ G 5 x
theorem leave_out {n : Nat} {W : Int} (x : Nat) (hx : x < n) : ∀ (post : List Cry) (G H : Nat → Nat → Int), okT n W G → okT n W H → RMV G H x → VdP n W G post → bare n (runP n G post) x → VdP n W H post ∧ RMV (runP n G post) (runP n H post) x := by
  intro post
  induction post with
  | nil => intro G H _ _ hR _ _; exact ⟨trivial, hR⟩
  | cons y r ih =>
    intro G H hG hH hR hv hb
    obtain ⟨hy, hr⟩ := hv
    obtain ⟨R1, R2, R3, R4⟩ := hR
    have ne : y.1 ≠ x := fun q => by have := hy.2.1; rw [q] at this; omega
    have f4 : ∀ f b, f < 4 → H f b = G f b := fun f b hf => by
      by_cases z : b = x
      · rw [z]; exact R2 f hf
      · exact R1 f b z
    have ry := hG.2.2.2.1 y.1 hy.1
    unfold okB at ry
    have lam := hy.2.2.2.2
    -- y doesn't rest on x
    have nr : ¬ (ovl (gD n G y.1 y.2) y.1 x ∧ gD n G y.1 y.2 6 x + 1 = gD n G y.1 y.2 6 y.1) := by
      intro q
      have k1 := run_keep r (gD n G y.1 y.2) hr y.1 (by rw [gD_5]; exact hy.2.2.1)
      have k2 := run_keep r (gD n G y.1 y.2) hr x (by rw [gD_n _ _ _ _ _ _ (Ne.symm ne)]; exact R4)
      refine hb y.1 hy.1 ?_
      show ovl (runP n (gD n G y.1 y.2) r) y.1 x ∧ runP n (gD n G y.1 y.2) r 6 x + 1 = runP n (gD n G y.1 y.2) r 6 y.1
      unfold ovl at q ⊢
      rw [k1, k1, k1, k2, k2, k2]
      exact q
    have nr' : ∀ q : Int, y.2 ≤ q → q < y.2 + G 0 y.1 → G 5 x ≤ q → q < G 5 x + G 0 x → G 6 x + 1 ≠ la n G y.2 (G 0 y.1).toNat := by
      intro q q1 q2 q3 q4 e
      refine nr ⟨?_, by rw [gD_6, gD_n _ _ _ _ _ _ (Ne.symm ne)]; exact e⟩
      unfold ovl
      rw [gD_5, gD_n _ _ _ _ 5 _ (Ne.symm ne), gD_0, gD_0]
      have := hy.2.2.1
      omega
    -- heights
    have hle : ∀ q, hi H q n ≤ hi G q n := fun q => hi_le _ _ _ _ (hi_nn _ _ _) (fun b hbn cv => by
      have zb : b ≠ x := fun e => by rw [e] at cv; have := cv.1; omega
      have cv' : cov G b q := by unfold cov at cv ⊢; rw [R1 5 b zb, R1 0 b zb] at cv; exact cv
      rw [R1 6 b zb]
      exact hi_ge G q n b hbn cv')
    have hge : ∀ q, y.2 ≤ q → q < y.2 + G 0 y.1 → hi G q n = la n G y.2 (G 0 y.1).toNat → hi H q n = la n G y.2 (G 0 y.1).toNat := by
      intro q q1 q2 e
      have h1 := hle q
      have h2 := hi_nn H q n
      rcases hi_att G q n with z | ⟨b, hbn, cv, z⟩
      · omega
      · have zb : b ≠ x := by
          intro eb
          subst eb
          exact nr' q q1 q2 cv.2.1 cv.2.2 (by omega)
        have cv' : cov H b q := by unfold cov at cv ⊢; rw [R1 5 b zb, R1 0 b zb]; exact cv
        have := hi_ge H q n b hbn cv'
        rw [R1 6 b zb] at this
        omega
    have laH : la n H y.2 (G 0 y.1).toNat = la n G y.2 (G 0 y.1).toNat := by
      have h1 : la n H y.2 (G 0 y.1).toNat ≤ la n G y.2 (G 0 y.1).toNat := by
        rcases la_att n H y.2 (G 0 y.1).toNat with z | ⟨i, hi', z⟩
        · rw [z]; exact la_nn _ _ _ _
        · rw [z]
          have := la_ge n G y.2 (G 0 y.1).toNat i hi'
          have := hle (y.2 + i)
          omega
      have h2 : la n G y.2 (G 0 y.1).toNat ≤ la n H y.2 (G 0 y.1).toNat := by
        rcases la_att n G y.2 (G 0 y.1).toNat with z | ⟨i, hi', z⟩
        · rw [z]; exact la_nn _ _ _ _
        · have a := hge (y.2 + i) (by omega) (by omega) z.symm
          have := la_ge n H y.2 (G 0 y.1).toNat i hi'
          omega
      omega
    have eq : ∀ q, y.2 ≤ q → q < y.2 + G 0 y.1 → (hi H q n = la n G y.2 (G 0 y.1).toNat ↔ hi G q n = la n G y.2 (G 0 y.1).toNat) := by
      intro q q1 q2
      refine ⟨fun e => ?_, hge q q1 q2⟩
      have h1 := hle q
      have h2 := la_ge n G y.2 (G 0 y.1).toNat (q - y.2).toNat (by omega)
      rw [show y.2 + (((q - y.2).toNat : Nat) : Int) = q by omega] at h2
      omega
    obtain ⟨s1, o1⟩ := (rsn_0 _ _ _ _).mp lam
    have e0 : H 0 y.1 = G 0 y.1 := f4 0 y.1 (by omega)
    have sH : stn n H y.1 y.2 := by
      unfold stn at s1 ⊢
      rw [e0, laH]
      rcases s1 with ⟨a, b⟩ | ⟨a, b, c⟩ | ⟨a, b⟩
      · exact Or.inl ⟨a, (eq _ (by omega) (by omega)).mpr b⟩
      · exact Or.inr (Or.inl ⟨a, (eq _ (by omega) (by omega)).mpr b, (eq _ (by omega) (by omega)).mpr c⟩)
      · refine Or.inr (Or.inr ⟨a, ?_⟩)
        rcases b with b | ⟨b, c⟩
        · exact Or.inl ((eq _ (by omega) (by omega)).mpr b)
        · exact Or.inr ⟨(eq _ (by omega) (by omega)).mpr b, (eq _ (by omega) (by omega)).mpr c⟩
    have yH : H 5 y.1 < 0 := by rw [R1 5 y.1 ne]; exact hy.2.1
    have oG := okS_T hG hy
    have oH : okT n W (gD n H y.1 y.2) := okT_drop hH hy.1 y.2 yH hy.2.2.1 (by rw [e0]; exact hy.2.2.2.1)
    -- the next two
    have RN : RMV (gD n G y.1 y.2) (gD n H y.1 y.2) x := by
      refine ⟨fun f b hbx => ?_, fun f hf => ?_, ?_, ?_⟩
      · by_cases z : b = y.1
        · subst z
          unfold gD gP
          rw [if_pos rfl, if_pos rfl, e0, laH, R1 f y.1 ne]
        · rw [gD_n _ _ _ _ _ _ z, gD_n _ _ _ _ _ _ z]; exact R1 f b hbx
      · rw [gD_n _ _ _ _ _ _ (Ne.symm ne), gD_n _ _ _ _ _ _ (Ne.symm ne)]; exact R2 f hf
      · rw [gD_n _ _ _ _ _ _ (Ne.symm ne)]; exact R3
      · rw [gD_n _ _ _ _ _ _ (Ne.symm ne)]; exact R4
    have sb : SB n (gD n G y.1 y.2) (gD n H y.1 y.2) := by
      obtain ⟨N1, N2, N3, N4⟩ := RN
      refine ⟨fun f b hf => ?_, fun b hbn h0 => ?_, fun o b hon hbn h0 ov l => ?_⟩
      · by_cases z : b = x
        · rw [z]; exact N2 f hf
        · exact N1 f b z
      · have z : b ≠ x := fun e => by rw [e] at h0; omega
        exact ⟨N1 5 b z, N1 6 b z⟩
      · by_cases z : b = x
        · exfalso
          subst z
          have zo : o ≠ b := fun e => by rw [e] at h0; omega
          have k1 := run_keep r (gD n G y.1 y.2) hr o ov.1
          have k2 := run_keep r (gD n G y.1 y.2) hr b ov.2.1
          refine hb o hon ?_
          show ovl (runP n (gD n G y.1 y.2) r) o b ∧ runP n (gD n G y.1 y.2) r 6 b + 1 = runP n (gD n G y.1 y.2) r 6 o
          unfold ovl at ov ⊢
          rw [k1, k1, k1, k2, k2, k2]
          exact ⟨ov, l⟩
        · rw [N1 5 b z]; exact ov.2.1
    have ovH := SB_ovn sb oG.D oH.D o1
    have okH : okS n W H y := ⟨hy.1, yH, hy.2.2.1, by rw [e0]; exact hy.2.2.2.1, (rsn_0 _ _ _ _).mpr ⟨sH, ovH⟩⟩
    obtain ⟨a1, a2⟩ := ih (gD n G y.1 y.2) (gD n H y.1 y.2) oG oH RN hr hb
    exact ⟨⟨okH, a1⟩, a2⟩
