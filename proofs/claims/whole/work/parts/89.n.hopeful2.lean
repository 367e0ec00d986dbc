/-! ===== plan: is there hope ===== -/
theorem cp_len (P : Cry → Prop) : ∀ l, cp P l ≤ l.length := by
  intro l
  induction l with
  | nil => exact Nat.le_refl _
  | cons s r ih =>
    show (@ite _ (P s) (Classical.propDecidable _) 1 0) + cp P r ≤ r.length + 1
    split <;> omega
theorem cl_hopeful {T P : dt_Ob} {n : Nat} {W : Int} {G : Nat → Nat → Int} (h : TW T n W G) (ho : okD n W G) (pre : List Cry) (N : Nat) (hl : pre.length ≤ N) (hN : N ≤ 5) (goal : Int) (hgo : 1 ≤ goal ∧ goal ≤ 20) (e4 : P 4 0 = jI goal) (e5 : P 5 0 = jI N) (hP : CPr P pre) (hin : ∀ s, s ∈ pre → s.1 < n ∧ 0 ≤ G 5 s.1) : ∃ v, fX3_isHopeful (jI pre.length) P T = some v ∧ (v = 0 → (N : Int) - pre.length < goal - tp G n ∨ ∃ L : Nat, 1 ≤ L ∧ (∀ b, b < n → G 5 b < 0 → G 0 b ≤ L) ∧ (N - pre.length) * (L - 1) + 1 < cp (fun s => bare n G s.1) pre) := by
  have tr := okD_tp ho
  have hn := ho.1
  have cl := cp_len (fun s => bare n G s.1) pre
  obtain ⟨L, a1, a2, a3, a4⟩ := cl_longest h ho P n dt_F 0 1 (by omega) (by unfold dt_F; omega) (by omega) (by omega)
  have a1' : fX3_longestInYard P T = some (jI L) := a1
  have cc := cl_count h ho pre (by omega) hP hin (jI ((N : Int) - pre.length)) pre [] dt_F rfl (by unfold dt_F; omega)
  have cc' : fX3_isHopeful_28 dt_F (jI pre.length) (jI ((N : Int) - pre.length)) (0 : Int32) (0 : Int32) P T = fX3_isHopeful_63 (jI ((N : Int) - pre.length)) (jI (cp (fun s => bare n G s.1) pre : Nat)) P T := cc
  have le : (jI (goal - tp G n) ≤ jI ((N : Int) - pre.length)) = (goal - tp G n ≤ (N : Int) - pre.length) := jI_le _ _ (by omega) (by omega) (by omega) (by omega)
  unfold fX3_isHopeful
  rw [fX5_tallest_j h ho, dt_b1, e4, e5, jI_sub, jI_sub]
  by_cases z : goal - tp G n ≤ (N : Int) - pre.length
  · rw [if_pos (show jI (goal - tp G n) ≤ jI ((N : Int) - pre.length) by rw [le]; exact z), cc']
    unfold fX3_isHopeful_63
    rw [a1', dt_b1, show (1 : Int32) = jI 1 from rfl, jI_sub, jI_sub, jI_mul]
    have pr : ∃ R : Nat, ((N : Int) - pre.length) * (L - 1) = (R : Int) ∧ R ≤ 10 ∧ R = (N - pre.length) * (L.toNat - 1) := by
      have l3 : L = 1 ∨ L = 2 ∨ L = 3 := by omega
      rcases l3 with q | q | q <;> subst q
      · exact ⟨0, by omega, by omega, by simp⟩
      · exact ⟨N - pre.length, by omega, by omega, by show _ = (N - pre.length) * 1; omega⟩
      · exact ⟨(N - pre.length) * 2, by omega, by omega, rfl⟩
    obtain ⟨R, r1, r2, r3⟩ := pr
    rw [r1]
    have lt : (jI (R : Nat) < jI ((cp (fun s => bare n G s.1) pre : Nat) - 1)) = ((R : Int) < (cp (fun s => bare n G s.1) pre : Nat) - 1) := jI_lt _ _ (by omega) (by omega) (by omega) (by omega)
    by_cases y : (R : Int) < (cp (fun s => bare n G s.1) pre : Nat) - 1
    · rw [if_pos (show jI (R : Nat) < jI ((cp (fun s => bare n G s.1) pre : Nat) - 1) by rw [lt]; exact y)]
      refine ⟨0, rfl, fun _ => Or.inr ⟨L.toNat, by omega, fun b hb h5 => ?_, by rw [← r3]; omega⟩⟩
      have := a4 b (by omega) hb h5
      omega
    · rw [if_neg (show ¬ jI (R : Nat) < jI ((cp (fun s => bare n G s.1) pre : Nat) - 1) by rw [lt]; exact y)]
      exact ⟨1, rfl, fun q => absurd q (by decide)⟩
  · rw [if_neg (show ¬ jI (goal - tp G n) ≤ jI ((N : Int) - pre.length) by rw [le]; exact z)]
    exact ⟨0, rfl, fun _ => Or.inl (by omega)⟩
