/-! ===== plan: the answers; both alike ===== -/
def pAsk (v : Int) : Prop := v = 0 ∨ v = 1 ∨ (10 ≤ v ∧ v ≤ 14) ∨ (20 ≤ v ∧ v ≤ 24)
/-- what is answered of a plan -/
def pAns (v : Int) (N : Nat) (a : Int32) (b c : Nat → Int32) : Int32 := if v = 0 then jI (N : Nat) else if v = 1 then a else if 10 ≤ v ∧ v ≤ 9 + (N : Int) then b (v - 10).toNat else if 20 ≤ v ∧ v ≤ 19 + (N : Int) then c (v - 20).toNat else -1
theorem cl_asked (v : Int) (h0 : -2147483648 ≤ v) (h1 : v < 2147483648) : (pAsk v → fX3_isAsked (jI v) = some 1) ∧ (¬ pAsk v → fX3_isAsked (jI v) = some 0) := by
  have e0 : (jI v = (0 : Int32)) = (v = 0) := jI_eq v 0 h0 h1 (by omega) (by omega)
  have e1 : (jI v = (1 : Int32)) = (v = 1) := jI_eq v 1 h0 h1 (by omega) (by omega)
  have l10 : (jI v < (10 : Int32)) = (v < 10) := jI_lt v 10 h0 h1 (by omega) (by omega)
  have l15 : (jI v < (15 : Int32)) = (v < 15) := jI_lt v 15 h0 h1 (by omega) (by omega)
  have l20 : (jI v < (20 : Int32)) = (v < 20) := jI_lt v 20 h0 h1 (by omega) (by omega)
  have l25 : ((25 : Int32) ≤ jI v) = (25 ≤ v) := jI_le 25 v (by omega) (by omega) h0 h1
  have all : fX3_isAsked (jI v) = (if v = 0 then some 1 else if v = 1 then some 1 else if v < 10 then (if v < 20 then some 0 else if 25 ≤ v then some 0 else some 1) else if v < 15 then some 1 else (if v < 20 then some 0 else if 25 ≤ v then some 0 else some 1)) := by
    unfold fX3_isAsked fX3_isAsked_21 fX3_isAsked_33
    simp only [e0, e1, l10, l15, l20, l25]
  unfold pAsk
  rw [all]
  refine ⟨fun h => ?_, fun h => ?_⟩
  · repeat' split
    all_goals first | rfl | (exfalso; omega)
  · repeat' split
    all_goals first | rfl | (exfalso; omega)
theorem cl_answer (v : Int) (h : pAsk v) (N : Nat) (hN : N ≤ 5) (P T : dt_Ob) (h5 : P 5 0 = jI (N : Nat)) : fX3_answer (jI v) P T = some (pAns v N (P 6 0) (P 2) (P 3)) := by
  have v0 : 0 ≤ v := by unfold pAsk at h; omega
  have v1 : v ≤ 24 := by unfold pAsk at h; omega
  have e0 : (jI v = (0 : Int32)) = (v = 0) := jI_eq v 0 (by omega) (by omega) (by omega) (by omega)
  have e1 : (jI v = (1 : Int32)) = (v = 1) := jI_eq v 1 (by omega) (by omega) (by omega) (by omega)
  have l20 : ((20 : Int32) ≤ jI v) = (20 ≤ v) := jI_le 20 v (by omega) (by omega) (by omega) (by omega)
  have nm : ¬ (jI (N : Int) = (-1 : Int32)) := by rw [show (-1 : Int32) = jI (-1) from rfl, jI_eq _ _ (by omega) (by omega) (by omega) (by omega)]; omega
  have sub20 : jI v - (20 : Int32) = jI (v - 20) := jI_sub v 20
  have sub10 : jI v - (10 : Int32) = jI (v - 10) := jI_sub v 10
  unfold fX3_answer fX3_answer_12 pAns
  by_cases z0 : v = 0
  · rw [if_pos (by rw [e0]; exact z0), if_pos z0, h5]
  · rw [if_neg (by rw [e0]; exact z0), if_neg z0, h5, if_neg nm]
    by_cases z1 : v = 1
    · rw [if_pos (by rw [e1]; exact z1), if_pos z1]
    · rw [if_neg (by rw [e1]; exact z1), if_neg z1]
      have go : ∀ s : Nat, s < 5 → fX3_answer_44 (jI v) (jI (s : Int)) P T = some (if (s : Int) < N then (if 20 ≤ v then P 3 s else P 2 s) else -1) := by
        intro s hs
        have a1 : ¬ (jI (s : Int) < (0 : Int32)) := by rw [show (0 : Int32) = jI 0 from rfl, jI_lt _ _ (by omega) (by omega) (by omega) (by omega)]; omega
        have a2 : (jI (N : Int) ≤ jI (s : Int)) = ((N : Int) ≤ s) := jI_le _ _ (by omega) (by omega) (by omega) (by omega)
        have a3 : jI (s : Int) < (5 : Int32) := by rw [show (5 : Int32) = jI 5 from rfl, jI_lt _ _ (by omega) (by omega) (by omega) (by omega)]; omega
        have ix : dt_ix (jI (s : Int)) 5 = some s := dt_ix_n _ _ (by omega) (by omega)
        unfold fX3_answer_44
        rw [if_neg a1, h5]
        by_cases q : (s : Int) < N
        · rw [if_neg (by rw [a2]; omega), if_pos a3, if_pos q, ix, dt_b1, dt_b1]
          by_cases y : 20 ≤ v
          · rw [if_pos (by rw [l20]; exact y), if_pos y]
          · rw [if_neg (by rw [l20]; exact y), if_neg y]
        · rw [if_pos (by rw [a2]; omega), if_neg q]
      unfold pAsk at h
      by_cases y : 20 ≤ v
      · obtain ⟨s, hs⟩ : ∃ s : Nat, (s : Int) = v - 20 := ⟨(v - 20).toNat, by omega⟩
        rw [if_pos (by rw [l20]; exact y), sub20, ← hs, go s (by omega), if_neg (show ¬ (10 ≤ v ∧ v ≤ 9 + (N : Int)) by omega)]
        by_cases q : (s : Int) < N
        · rw [if_pos q, if_pos y, if_pos (show 20 ≤ v ∧ v ≤ 19 + (N : Int) by omega), Int.toNat_natCast]
        · rw [if_neg q, if_neg (show ¬ (20 ≤ v ∧ v ≤ 19 + (N : Int)) by omega)]
      · obtain ⟨s, hs⟩ : ∃ s : Nat, (s : Int) = v - 10 := ⟨(v - 10).toNat, by omega⟩
        rw [if_neg (by rw [l20]; exact y), sub10, ← hs, go s (by omega), if_neg (show ¬ (20 ≤ v ∧ v ≤ 19 + (N : Int)) by omega)]
        by_cases q : (s : Int) < N
        · rw [if_pos q, if_neg y, if_pos (show 10 ≤ v ∧ v ≤ 9 + (N : Int) by omega), Int.toNat_natCast]
        · rw [if_neg q, if_neg (show ¬ (10 ≤ v ∧ v ≤ 9 + (N : Int)) by omega)]
/-- the reference's answer, once planned -/
def moQ (x2 : Int32) (q2 : Int32 × dt_Ob) : Option (Int32 × dt_Ob) := (if q2.1 = (-1 : Int32) then (some ((-1 : Int32), q2.2)) else (if x2 = 0 then (some (q2.1, q2.2)) else (if x2 = (1 : Int32) then (some ((q2.2 34 0), q2.2)) else ((fX10_isIn x2 (10 : Int32) ((9 : Int32) + q2.1)).bind fun q3 => (if q3 = 0 then ((fX10_isIn x2 (20 : Int32) ((19 : Int32) + q2.1)).bind fun q4 => (if q4 = 0 then (some ((-1 : Int32), q2.2)) else ((dt_ix (x2 - (20 : Int32)) 5).bind fun a5 => (some (((q2.2 32) a5), q2.2))))) else ((dt_ix (x2 - (10 : Int32)) 5).bind fun a6 => (some (((q2.2 31) a6), q2.2))))))))
theorem mo_answer (v : Int) (h0 : -2147483648 ≤ v) (h1 : v < 2147483648) (N : Nat) (hN : N ≤ 5) (T : dt_Ob) : moQ (jI v) (jI (N : Nat), T) = some (pAns v N (T 34 0) (T 31) (T 32), T) := by
  have e0 : (jI v = (0 : Int32)) = (v = 0) := jI_eq v 0 h0 h1 (by omega) (by omega)
  have e1 : (jI v = (1 : Int32)) = (v = 1) := jI_eq v 1 h0 h1 (by omega) (by omega)
  have nm : ¬ (jI (N : Int) = (-1 : Int32)) := by rw [show (-1 : Int32) = jI (-1) from rfl, jI_eq _ _ (by omega) (by omega) (by omega) (by omega)]; omega
  have sub20 : jI v - (20 : Int32) = jI (v - 20) := jI_sub v 20
  have sub10 : jI v - (10 : Int32) = jI (v - 10) := jI_sub v 10
  have a9 : (9 : Int32) + jI (N : Int) = jI (9 + (N : Int)) := jI_add 9 N
  have a19 : (19 : Int32) + jI (N : Int) = jI (19 + (N : Int)) := jI_add 19 N
  have i1 : fX10_isIn (jI v) (10 : Int32) (jI (9 + (N : Int))) = some (if 10 ≤ v ∧ v ≤ 9 + (N : Int) then 1 else 0) := fX10_isIn_j v 10 _ h0 h1 (by omega) (by omega) (by omega) (by omega)
  have i2 : fX10_isIn (jI v) (20 : Int32) (jI (19 + (N : Int))) = some (if 20 ≤ v ∧ v ≤ 19 + (N : Int) then 1 else 0) := fX10_isIn_j v 20 _ h0 h1 (by omega) (by omega) (by omega) (by omega)
  unfold moQ pAns
  dsimp only
  rw [if_neg nm]
  by_cases z0 : v = 0
  · rw [if_pos (by rw [e0]; exact z0), if_pos z0]
  · rw [if_neg (by rw [e0]; exact z0), if_neg z0]
    by_cases z1 : v = 1
    · rw [if_pos (by rw [e1]; exact z1), if_pos z1]
    · rw [if_neg (by rw [e1]; exact z1), if_neg z1, a9, a19, i1, dt_b1, i2, dt_b1, sub10, sub20]
      by_cases y : 10 ≤ v ∧ v ≤ 9 + (N : Int)
      · obtain ⟨s, hs⟩ : ∃ s : Nat, (s : Int) = v - 10 := ⟨(v - 10).toNat, by omega⟩
        rw [if_pos y, if_neg n10, if_pos y, ← hs, dt_ix_n _ _ (by omega) (by omega), dt_b1, Int.toNat_natCast]
      · rw [if_neg y, if_pos rfl, if_neg y]
        by_cases w : 20 ≤ v ∧ v ≤ 19 + (N : Int)
        · obtain ⟨s, hs⟩ : ∃ s : Nat, (s : Int) = v - 20 := ⟨(v - 20).toNat, by omega⟩
          rw [if_pos w, if_neg n10, if_pos w, ← hs, dt_ix_n _ _ (by omega) (by omega), dt_b1, Int.toNat_natCast]
        · rw [if_neg w, if_pos rfl, if_neg w]
theorem pAns_no (v : Int) (h : ¬ pAsk v) (N : Nat) (hN : N ≤ 5) (a : Int32) (b c : Nat → Int32) : pAns v N a b c = -1 := by
  unfold pAsk at h
  unfold pAns
  rw [if_neg (by omega), if_neg (by omega), if_neg (by omega), if_neg (by omega)]
theorem pAns_eq (v : Int) (N : Nat) (a : Int32) (b c b' c' : Nat → Int32) (h : ∀ i, i < N → b i = b' i ∧ c i = c' i) : pAns v N a b c = pAns v N a b' c' := by
  unfold pAns
  by_cases y : 10 ≤ v ∧ v ≤ 9 + (N : Int)
  · rw [if_pos y, if_pos y, (h (v - 10).toNat (by omega)).1]
  · rw [if_neg y, if_neg y]
    by_cases w : 20 ≤ v ∧ v ≤ 19 + (N : Int)
    · rw [if_pos w, if_pos w, (h (v - 20).toNat (by omega)).2]
    · rw [if_neg w, if_neg w]
theorem s_plan : St_plan dt_I := by
  intro M x1 x2 h
  have h' := h
  obtain ⟨n, W, g, ⟨hT, hok, hRT, hD, hV, hC, hS⟩, hU, hI, hP, hF, hR⟩ := h
  have same : dt_I (dt_put M 18 (M 18)) := by rw [dt_put_self]; exact h'
  have od := hok.D
  have hn := od.1
  have hW := od.2.2.1
  have hW2 := od.2.1
  -- what lasts
  have keep : ∀ (M1 : dt_M) (T' : dt_Ob), (∀ j, j ≠ 13 → j ≠ 14 → M1 j = M j) → (∀ j, j < 38 → j ≠ 5 → j ≠ 7 → j ≠ 8 → j ≠ 9 → j ≠ 28 → j ≠ 29 → j ≠ 30 → j ≠ 31 → j ≠ 32 → j ≠ 33 → j ≠ 34 → T' j = M 18 j) → T' 5 0 = M 18 5 0 → dt_I (dt_put M1 18 T') := by
    intro M1 T' e1 eT e50
    have n18 : ∀ j, j ≠ 18 → j ≠ 13 → j ≠ 14 → (dt_put M1 18 T') j = M j := fun j a b c => by rw [dt_put_ne _ _ _ _ a, e1 j b c]
    have eT' : ∀ j, j < 28 → j ≠ 5 → j ≠ 7 → j ≠ 8 → j ≠ 9 → T' j = M 18 j := fun j a b c d e => eT j (by omega) b c d e (by omega) (by omega) (by omega) (by omega) (by omega) (by omega) (by omega)
    refine ⟨n, W, g, ?_, ?_, ?_, ?_, ?_, ?_⟩
    · rw [n18 1 (by omega) (by omega) (by omega), n18 2 (by omega) (by omega) (by omega), n18 3 (by omega) (by omega) (by omega), n18 4 (by omega) (by omega) (by omega), n18 5 (by omega) (by omega) (by omega), dt_put_s, eT' 0 (by omega) (by omega) (by omega) (by omega) (by omega)]
      exact ⟨hT, hok, hRT, hD, hV, hC, hS⟩
    · rw [n18 11 (by omega) (by omega) (by omega), dt_put_s, eT' 0 (by omega) (by omega) (by omega) (by omega) (by omega), eT' 2 (by omega) (by omega) (by omega) (by omega) (by omega), eT' 3 (by omega) (by omega) (by omega) (by omega) (by omega)]
      exact hU
    · rw [n18 0 (by omega) (by omega) (by omega), n18 6 (by omega) (by omega) (by omega), n18 7 (by omega) (by omega) (by omega), n18 8 (by omega) (by omega) (by omega), n18 9 (by omega) (by omega) (by omega), n18 10 (by omega) (by omega) (by omega), dt_put_s, eT' 6 (by omega) (by omega) (by omega) (by omega) (by omega), eT' 1 (by omega) (by omega) (by omega) (by omega) (by omega)]
      exact hI
    · rw [n18 0 (by omega) (by omega) (by omega), dt_put_s, eT' 13 (by omega) (by omega) (by omega) (by omega) (by omega), eT' 18 (by omega) (by omega) (by omega) (by omega) (by omega)]
      exact hP
    · rw [n18 12 (by omega) (by omega) (by omega), dt_put_s, eT' 25 (by omega) (by omega) (by omega) (by omega) (by omega), eT' 27 (by omega) (by omega) (by omega) (by omega) (by omega)]
      exact hF
    · rw [n18 0 (by omega) (by omega) (by omega), dt_put_s, eT' 4 (by omega) (by omega) (by omega) (by omega) (by omega), e50]
      exact hR
  obtain ⟨goal, eg, g0, g1⟩ := jI_ex x1
  obtain ⟨v, ev, v0, v1⟩ := jI_ex x2
  subst eg
  subst ev
  have l1 : (jI goal < (1 : Int32)) = (goal < 1) := jI_lt goal 1 g0 g1 (by omega) (by omega)
  have l20 : ((20 : Int32) < jI goal) = (20 < goal) := jI_lt 20 goal (by omega) (by omega) g0 g1
  have isg : fX10_isIn (jI goal) (1 : Int32) (20 : Int32) = some (if 1 ≤ goal ∧ goal ≤ 20 then 1 else 0) := fX10_isIn_j goal 1 20 g0 g1 (by omega) (by omega) (by omega) (by omega)
  have mtop : fX10_plan (jI goal) (jI v) (M 18) = (if 1 ≤ goal ∧ goal ≤ 20 then (fX10_plans (jI goal) (M 18)).bind fun q2 => moQ (jI v) q2 else some (-1, M 18)) := by
    unfold fX10_plan
    rw [isg, dt_b1]
    by_cases z : 1 ≤ goal ∧ goal ≤ 20
    · rw [if_pos z, if_neg n10, if_pos z]
      rfl
    · rw [if_neg z, if_pos rfl, if_neg z]
  by_cases hgo : 1 ≤ goal ∧ goal ≤ 20
  · obtain ⟨r, T', m1, m2, m3, m4, m5⟩ := mo_plans hok hgo (M 18) hRT
    have mt : fX10_plan (jI goal) (jI v) (M 18) = moQ (jI v) (r, T') := by rw [mtop, if_pos hgo, m1, dt_b1]
    have no : r = -1 → fX10_plan (jI goal) (jI v) (M 18) = some (-1, T') := fun q => by
      rw [mt]
      unfold moQ
      rw [if_pos (show (r, T').1 = (-1 : Int32) from q)]
    have lW : ((5 : Int32) < M 1 0 0) = (5 < W) := by
      rw [hT.1, show (5 : Int32) = jI 5 from rfl]; exact jI_lt _ _ (by omega) (by omega) (by omega) (by omega)
    have ycl := yc_le g n
    have ly : (jI (yc g n : Nat) ≤ (6 : Int32)) = ((yc g n : Int) ≤ 6) := by rw [show (6 : Int32) = jI 6 from rfl]; exact jI_le _ _ (by omega) (by omega) (by omega) (by omega)
    have iy := fX5_inYard_j hT od
    have ctop : fX9_plan (jI goal) (jI v) M = (if W ≤ 5 ∧ yc g n ≤ 6 then ((fX3_isAsked (jI v)).bind fun q2 => (if q2 = 0 then (some ((-1 : Int32), M)) else ((fX5_become (M 1) (M 13)).bind fun q3 => ((fX3_seek (jI goal) (M 14) q3).bind fun q4 => ((fX3_answer (jI v) q4.1 q4.2).bind fun q5 => (some (q5, (dt_put (dt_put (dt_put M 13 q3) 14 q4.1) 13 q4.2)))))))) else some (-1, M)) := by
      unfold fX9_plan
      rw [if_neg (by rw [l1]; omega), if_neg (by rw [l20]; omega), iy, dt_b1]
      by_cases z : 5 < W
      · rw [if_pos (by rw [lW]; exact z), if_neg (by omega)]
      · rw [if_neg (by rw [lW]; exact z)]
        by_cases y : yc g n ≤ 6
        · rw [if_pos (by rw [ly]; omega), if_pos ⟨by omega, y⟩]
        · rw [if_neg (by rw [ly]; omega), if_neg (fun q => y q.2)]
    by_cases hs : W ≤ 5 ∧ yc g n ≤ 6
    · have ct := ctop
      rw [if_pos hs] at ct
      by_cases ask : pAsk v
      · obtain ⟨Q, q1, q2⟩ := TW_become hT hn (M 13)
        obtain ⟨P', Q', s1', s2'⟩ := cl_seekp hok hgo (M 14) Q q2
        rw [(cl_asked v v0 v1).1 ask, dt_b1, if_neg n10, q1, dt_b1, s1', dt_b1] at ct
        dsimp only at ct
        have km : ∀ j, j ≠ 13 → j ≠ 14 → (dt_put (dt_put (dt_put M 13 Q) 14 P') 13 Q') j = M j := fun j a b => by rw [dt_put_ne _ _ _ _ a, dt_put_ne _ _ _ _ b, dt_put_ne _ _ _ _ a]
        have e18 : (dt_put (dt_put (dt_put M 13 Q) 14 P') 13 Q') 18 = M 18 := km 18 (by omega) (by omega)
        rcases s2' with ⟨N, q, c1, c2, c3, c4⟩ | ⟨c1, c2⟩
        · -- there is a plan
          rcases m5 hs with ⟨N', q', d1, d2, d3, d4, d5⟩ | ⟨_, d2⟩
          · have eN := Fnd_N c1 d1
            subst eN
            have eq := d2 q c1.2.2
            subst eq
            have N5 := c1.1
            have lq := c1.2.2.1.2.1
            refine ⟨pAns v N (T' 34 0) (T' 31) (T' 32), _, T', ?_, ?_, keep _ T' km m2 m3⟩
            · rw [ct, cl_answer v ask N N5 P' Q' c2, dt_b1, c3, d4]
              rw [pAns_eq v N _ (P' 2) (P' 3) (T' 31) (T' 32) (fun i hi' => ?_)]
              obtain ⟨s, hs'⟩ : ∃ s, q[i]? = some s := ⟨q[i]'(by omega), List.getElem?_eq_getElem (by omega)⟩
              have a := c4 i s hs'
              have b := d5 i s hs'
              exact ⟨by rw [a.1, b.1], by rw [a.2, b.2]⟩
            · rw [e18, mt, d3, mo_answer v v0 v1 N N5]
          · exact (Fnd_not c1 d2).elim
        · -- there is none
          rcases m5 hs with ⟨N', q', d1, _⟩ | ⟨d1, _⟩
          · exact (Fnd_not d1 c2).elim
          · refine ⟨-1, _, T', ?_, ?_, keep _ T' km m2 m3⟩
            · rw [ct]
              unfold fX3_answer fX3_answer_12
              rw [c1, if_pos (show (-1 : Int32) = (-1 : Int32) from rfl)]
              split <;> rfl
            · rw [e18]; exact no d1
      · rw [(cl_asked v v0 v1).2 ask, dt_b1, if_pos rfl] at ct
        refine ⟨-1, M, T', ct, ?_, keep M T' (fun _ _ _ => rfl) m2 m3⟩
        rcases m5 hs with ⟨N, q, d1, _, d3, _⟩ | ⟨d1, _⟩
        · rw [mt, d3, mo_answer v v0 v1 N d1.1, pAns_no v ask N d1.1]
        · exact no d1
    · refine ⟨-1, M, T', ?_, no (m4 hs), keep M T' (fun _ _ _ => rfl) m2 m3⟩
      rw [ctop, if_neg hs]
  · refine ⟨-1, M, M 18, ?_, ?_, same⟩
    · unfold fX9_plan
      by_cases z : goal < 1
      · rw [if_pos (by rw [l1]; exact z)]
      · rw [if_neg (by rw [l1]; exact z), if_pos (by rw [l20]; omega)]
    · rw [mtop, if_neg hgo]
