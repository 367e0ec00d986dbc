/-! ===== plan: the class's cuts ===== -/
/-- the planner's carries so far -/
def CPr (P : dt_Ob) (pre : List Cry) : Prop := ∀ i s, pre[i]? = some s → P 0 i = jI s.1 ∧ P 1 i = jI s.2
theorem cl_late {n : Nat} {W : Int} {g : Nat → Nat → Int} (ho : okT n W g) (pre : List Cry) (hv : VdP n W g pre) (hl : pre.length ≤ 5) {P T : dt_Ob} (hP : CPr P pre) (hT : ∀ x, x < n → T 2 x = jI (g 0 x)) (b : Nat) (hb : b < n) (c : Int) (h0 : 0 ≤ c) (h1 : c + g 0 b ≤ W) : ∀ (fuel i : Nat) (p1 p2 : List Cry), pre = p1 ++ p2 → p1.length = i → i < fuel → (∀ u, u ∈ p2 → apart g u (b, c)) → ∃ v, fX3_cameLate_5 fuel (jI b) (jI c) (jI ((i : Int) - 1)) P T = some v ∧ (v ≠ 0 → ∃ q1 s q2, pre = q1 ++ s :: q2 ∧ (∀ u, u ∈ s :: q2 → apart g u (b, c)) ∧ b < s.1) := by
  have hn := ho.1
  have hW := ho.2.2.1
  have rb := ho.2.2.2.1 b hb
  unfold okB at rb
  have hd : ∀ s, s ∈ pre → s.1 < n ∧ 0 ≤ s.2 ∧ s.2 ≤ 8 ∧ 1 ≤ g 0 s.1 ∧ g 0 s.1 ≤ 3 := by
    have key : ∀ (l : List Cry) (G : Nat → Nat → Int), (∀ x, G 0 x = g 0 x) → VdP n W G l → ∀ s, s ∈ l → s.1 < n ∧ 0 ≤ s.2 ∧ s.2 ≤ 8 ∧ 1 ≤ g 0 s.1 ∧ g 0 s.1 ≤ 3 := by
      intro l
      induction l with
      | nil => intro G _ _ s hs; cases hs
      | cons t r ih =>
        intro G eG hv s hs
        rcases List.mem_cons.mp hs with e | e
        · rw [e]
          have r := ho.2.2.2.1 t.1 hv.1.1
          unfold okB at r
          have a := hv.1.2.2.1
          have b := hv.1.2.2.2.1
          rw [eG] at b
          have := hv.1.1
          omega
        · exact ih _ (fun x => by rw [gD_0]; exact eG x) hv.2 s e
    exact key pre g (fun _ => rfl) hv
  intro fuel
  induction fuel with
  | zero => intro i p1 p2 _ _ hf; omega
  | succ fuel ih =>
    intro i p1 p2 ep el hf ha
    by_cases z : i = 0
    · subst z
      refine ⟨0, ?_, fun q => absurd rfl q⟩
      rw [fX3_cameLate_5, if_pos (show jI (((0 : Nat) : Int) - 1) < 0 by decide)]
    · have ne : p1 ≠ [] := fun q => by rw [q] at el; exact z el.symm
      obtain ⟨q1, s, e1⟩ : ∃ q1 s, p1 = q1 ++ [s] := ⟨p1.dropLast, p1.getLast ne, (List.dropLast_concat_getLast ne).symm⟩
      have lq : q1.length = i - 1 := by rw [e1, List.length_append] at el; have : [s].length = 1 := rfl; omega
      have lp : p1.length ≤ pre.length := by rw [ep, List.length_append]; omega
      have sm : s ∈ pre := by rw [ep, e1]; simp
      obtain ⟨r1, r2, r3, r4, r5⟩ := hd s sm
      have gs : pre[i - 1]? = some s := by
        rw [ep, e1, List.append_assoc, List.getElem?_append_right (by omega), lq, Nat.sub_self]; rfl
      obtain ⟨pa, pb⟩ := hP (i - 1) s gs
      have ix : dt_ix (jI ((i : Int) - 1)) 5 = some (i - 1) := by
        rw [show (i : Int) - 1 = ((i - 1 : Nat) : Int) by omega]; exact dt_ix_n _ _ (by omega) (by omega)
      have ib : dt_ix (jI b) 20 = some b := dt_ix_n _ _ (by omega) (by omega)
      have is : dt_ix (jI s.1) 20 = some s.1 := dt_ix_n _ _ (by omega) (by omega)
      have m1 : jI ((i : Int) - 1) + (-1 : Int32) = jI (((i - 1 : Nat) : Int) - 1) := by
        rw [show (-1 : Int32) = jI (-1) from rfl, jI_add]; congr 1; omega
      have top : fX3_cameLate_5 (fuel + 1) (jI b) (jI c) (jI ((i : Int) - 1)) P T = (if apart g s (b, c) then (if s.1 ≤ b then fX3_cameLate_5 fuel (jI b) (jI c) (jI (((i - 1 : Nat) : Int) - 1)) P T else some 1) else some 0) := by
        rw [fX3_cameLate_5]
        unfold fX3_cameLate_58 fX3_cameLate_63
        simp only [ix, ib, dt_b1, pa, pb, is, hT b hb, hT s.1 r1, m1, jI_add]
        rw [if_neg (show ¬ jI ((i : Int) - 1) < 0 by rw [show (0 : Int32) = jI 0 from rfl, jI_lt _ _ (by omega) (by omega) (by omega) (by omega)]; omega)]
        have c1 : (jI (c + g 0 b) ≤ jI s.2) = (c + g 0 b ≤ s.2) := jI_le _ _ (by omega) (by omega) (by omega) (by omega)
        have c2 : (jI c < jI (s.2 + g 0 s.1)) = (c < s.2 + g 0 s.1) := jI_lt _ _ (by omega) (by omega) (by omega) (by omega)
        have c3 : (jI (s.1 : Nat) ≤ jI b) = ((s.1 : Int) ≤ b) := jI_le _ _ (by omega) (by omega) (by omega) (by omega)
        have fin : (if (1 : Int32) = 0 then some (0 : Int32) else (if jI (s.1 : Nat) ≤ jI b then fX3_cameLate_5 fuel (jI b) (jI c) (jI (((i - 1 : Nat) : Int) - 1)) P T else some 1)) = (if s.1 ≤ b then fX3_cameLate_5 fuel (jI b) (jI c) (jI (((i - 1 : Nat) : Int) - 1)) P T else some 1) := by
          rw [if_neg n10]
          by_cases y : s.1 ≤ b
          · rw [if_pos y, if_pos (show jI (s.1 : Nat) ≤ jI b by rw [c3]; omega)]
          · rw [if_neg y, if_neg (show ¬ jI (s.1 : Nat) ≤ jI b by rw [c3]; omega)]
        by_cases y1 : c + g 0 b ≤ s.2
        · rw [if_pos (show jI (c + g 0 b) ≤ jI s.2 by rw [c1]; exact y1), if_pos (show apart g s (b, c) from Or.inl y1)]
          exact fin
        · rw [if_neg (show ¬ jI (c + g 0 b) ≤ jI s.2 by rw [c1]; exact y1)]
          by_cases y2 : c < s.2 + g 0 s.1
          · rw [if_pos (show jI c < jI (s.2 + g 0 s.1) by rw [c2]; exact y2), if_neg (show ¬ apart g s (b, c) from fun q => by rcases q with q | q; exact y1 q; have q' : s.2 + g 0 s.1 ≤ c := q; omega)]
            rfl
          · rw [if_neg (show ¬ jI c < jI (s.2 + g 0 s.1) by rw [c2]; exact y2), if_pos (show apart g s (b, c) from Or.inr (show s.2 + g 0 s.1 ≤ c by omega))]
            exact fin
      rw [top]
      by_cases y : apart g s (b, c)
      · rw [if_pos y]
        have ha' : ∀ u, u ∈ s :: p2 → apart g u (b, c) := fun u hu => by
          rcases List.mem_cons.mp hu with e | e
          · rw [e]; exact y
          · exact ha u e
        have ep' : pre = q1 ++ s :: p2 := by rw [ep, e1, List.append_assoc]; rfl
        by_cases y2 : s.1 ≤ b
        · rw [if_pos y2]
          exact ih (i - 1) q1 (s :: p2) ep' lq (by omega) ha'
        · rw [if_neg y2]
          exact ⟨1, rfl, fun _ => ⟨q1, s, p2, ep', ha', by omega⟩⟩
      · rw [if_neg y]
        exact ⟨0, rfl, fun q => absurd rfl q⟩
