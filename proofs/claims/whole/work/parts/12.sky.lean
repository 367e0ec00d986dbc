/-! ===== lifted: 12.sky ===== -/
def fX4_begin  (T : dt_Ob) : Option (dt_Ob) := (some (dt_setA (dt_setA T 0 (dt_fill (T 0) 72 (0 : Int32))) 1 (dt_fill (T 1) 9 (0 : Int32))))
set_option maxRecDepth 10000 in
set_option maxHeartbeats 4000000 in
theorem m_X4_begin {nb : Nat} (l : Launch) {k : Nat} (hk : k < 18 + nb ∧ dt_c k = 4)  (M : dt_M) (T : dt_Ob)   {res : dt_Ob} (h : fX4_begin T = some res) : dt_Met nb l yX4_begin cX4_begin 1 none 2 (fun G => [.ref (G.1 k 0)]) (dt_put M k T) none (dt_put M k res) := by
  refine dz_enter (lv := fun G => [(0, .ref (G.1 k 0))]) (by decide) (fun _ => rfl) (fun _ => Nat.le_of_ble_eq_true rfl) (fun G A p e s m args below meth c C hr => ?_)
  unfold fX4_begin at h
  refine dz_aload_n (pc := 0) C dX4_begin_0 rfl 0 rfl ?_
  refine dz_getR (pc := 1) (k := k) (j := 0) C Fc_X4 hk (by decide) (by decide) rfl fl_X4_9 dX4_begin_1 ?_
  refine dz_iconst (pc := 4) (v := (0 : Int32)) C dX4_begin_4 (by decide) ?_
  refine dz_callSv (pc := 5) (st := []) (As := [.ref (G.1 k (0 + 1)), .int (0 : Int32)]) (M' := (dt_put M k (dt_setA T 0 (dt_fill (T 0) 72 (0 : Int32))))) C ms_J7_fill_53178 ml_X4_22 (by have z := m_fill l (k := k) (j := 0) (n := 72) hk (by decide) rfl (by decide) (dt_put M k T) (0 : Int32); rw [dt_rAf, dt_put_s, dt_put_put] at z; exact z) rfl rfl (by omega) (by decide) (Nat.le_of_ble_eq_true rfl) dX4_begin_5 ?_
  refine dz_aload_n (pc := 8) C dX4_begin_8 rfl 0 rfl ?_
  refine dz_getR (pc := 9) (k := k) (j := 1) C Fc_X4 hk (by decide) (by decide) rfl fl_X4_15 dX4_begin_9 ?_
  refine dz_iconst (pc := 12) (v := (0 : Int32)) C dX4_begin_12 (by decide) ?_
  refine dz_callSv (pc := 13) (st := []) (As := [.ref (G.1 k (1 + 1)), .int (0 : Int32)]) (M' := (dt_put M k (dt_setA (dt_setA T 0 (dt_fill (T 0) 72 (0 : Int32))) 1 (dt_fill (T 1) 9 (0 : Int32))))) C ms_J7_fill_53178 ml_X4_22 (by have z := m_fill l (k := k) (j := 1) (n := 9) hk (by decide) rfl (by decide) (dt_put M k (dt_setA T 0 (dt_fill (T 0) 72 (0 : Int32)))) (0 : Int32); rw [dt_rAf, dt_put_s, dt_put_put] at z; exact z) rfl rfl (by omega) (by decide) (Nat.le_of_ble_eq_true rfl) dX4_begin_13 ?_
  cases dt_some h
  exact dz_vret (pc := 16) C hr dX4_begin_16

def fX4_become (O : dt_Ob) (T : dt_Ob) : Option (dt_Ob) := (some (dt_setA (dt_setA T 0 (va_cpy (O 0) (T 0) (Int32.toNatClampNeg (0 : Int32)) (Int32.toNatClampNeg (0 : Int32)) (Int32.toNatClampNeg (72 : Int32)))) 1 (va_cpy (O 1) (T 1) (Int32.toNatClampNeg (0 : Int32)) (Int32.toNatClampNeg (0 : Int32)) (Int32.toNatClampNeg (9 : Int32)))))
set_option maxRecDepth 10000 in
set_option maxHeartbeats 4000000 in
theorem m_X4_become {nb : Nat} (l : Launch) {k : Nat} (hk : k < 18 + nb ∧ dt_c k = 4) {o : Nat} (ho : o < 18 + nb ∧ dt_c o = 4) (hne : o ≠ k)  (M : dt_M) (T : dt_Ob) (O : dt_Ob) (hO : M o = O)  {res : dt_Ob} (h : fX4_become O T = some res) : dt_Met nb l yX4_become cX4_become 2 none 2 (fun G => [.ref (G.1 k 0), .ref (G.1 o 0)]) (dt_put M k T) none (dt_put M k res) := by
  refine dz_enter (lv := fun G => [(0, .ref (G.1 k 0)), (1, .ref (G.1 o 0))]) (by decide) (fun _ => rfl) (fun _ => Nat.le_of_ble_eq_true rfl) (fun G A p e s m args below meth c C hr => ?_)
  unfold fX4_become at h
  refine dz_aload_n (pc := 0) C dX4_become_0 rfl 1 rfl ?_
  refine dz_getR (pc := 1) (k := o) (j := 0) C Fc_X4 ho (by decide) (by decide) rfl fl_X4_9 dX4_become_1 ?_
  refine dz_iconst (pc := 4) (v := (0 : Int32)) C dX4_become_4 (by decide) ?_
  refine dz_aload_n (pc := 5) C dX4_become_5 rfl 0 rfl ?_
  refine dz_getR (pc := 6) (k := k) (j := 0) C Fc_X4 hk (by decide) (by decide) rfl fl_X4_9 dX4_become_6 ?_
  refine dz_iconst (pc := 9) (v := (0 : Int32)) C dX4_become_9 (by decide) ?_
  refine dz_aload_n (pc := 10) C dX4_become_10 rfl 0 rfl ?_
  refine dz_getR (pc := 11) (k := k) (j := 0) C Fc_X4 hk (by decide) (by decide) rfl fl_X4_9 dX4_become_11 ?_
  refine dz_alen (pc := 14) (k := k) (j := 0) (n := 72) (v := (72 : Int32)) C hk (by decide) rfl rfl (by decide) dX4_become_14 ?_
  refine dz_copy (pc := 15) (k0 := o) (j0 := 0) (n0 := 72) (k1 := k) (j1 := 0) (n1 := 72) (f := (O 0)) (g := (T 0)) (M' := (dt_put M k (dt_setA T 0 (va_cpy (O 0) (T 0) (Int32.toNatClampNeg (0 : Int32)) (Int32.toNatClampNeg (0 : Int32)) (Int32.toNatClampNeg (72 : Int32)))))) C ml_X4_28 ho (by decide) rfl (dt_rOf _ hne hO _) hk (by decide) rfl (dt_rAf _ _ _ _) (by decide) (by omega) (Nat.le_of_ble_eq_true rfl) (dt_wAA _ _ _ _ _) dX4_become_15 ?_
  refine dz_aload_n (pc := 18) C dX4_become_18 rfl 1 rfl ?_
  refine dz_getR (pc := 19) (k := o) (j := 1) C Fc_X4 ho (by decide) (by decide) rfl fl_X4_15 dX4_become_19 ?_
  refine dz_iconst (pc := 22) (v := (0 : Int32)) C dX4_become_22 (by decide) ?_
  refine dz_aload_n (pc := 23) C dX4_become_23 rfl 0 rfl ?_
  refine dz_getR (pc := 24) (k := k) (j := 1) C Fc_X4 hk (by decide) (by decide) rfl fl_X4_15 dX4_become_24 ?_
  refine dz_iconst (pc := 27) (v := (0 : Int32)) C dX4_become_27 (by decide) ?_
  refine dz_aload_n (pc := 28) C dX4_become_28 rfl 0 rfl ?_
  refine dz_getR (pc := 29) (k := k) (j := 1) C Fc_X4 hk (by decide) (by decide) rfl fl_X4_15 dX4_become_29 ?_
  refine dz_alen (pc := 32) (k := k) (j := 1) (n := 9) (v := (9 : Int32)) C hk (by decide) rfl rfl (by decide) dX4_become_32 ?_
  refine dz_copy (pc := 33) (k0 := o) (j0 := 1) (n0 := 9) (k1 := k) (j1 := 1) (n1 := 9) (f := (O 1)) (g := (T 1)) (M' := (dt_put M k (dt_setA (dt_setA T 0 (va_cpy (O 0) (T 0) (Int32.toNatClampNeg (0 : Int32)) (Int32.toNatClampNeg (0 : Int32)) (Int32.toNatClampNeg (72 : Int32)))) 1 (va_cpy (O 1) (T 1) (Int32.toNatClampNeg (0 : Int32)) (Int32.toNatClampNeg (0 : Int32)) (Int32.toNatClampNeg (9 : Int32)))))) C ml_X4_28 ho (by decide) rfl (dt_rOf _ hne hO _) hk (by decide) rfl (dt_rAf _ _ _ _) (by decide) (by omega) (Nat.le_of_ble_eq_true rfl) (dt_wAA _ _ _ _ _) dX4_become_33 ?_
  cases dt_some h
  exact dz_vret (pc := 36) C hr dX4_become_36

def fX4_setChance_15  (x1 : Int32) (x2 : Int32) (x3 : Int32) (s0 : Int32) (T : dt_Ob) : Option (Int32 × dt_Ob) := (if s0 = 0 then (some ((0 : Int32), T)) else (if x2 < (1 : Int32) then (some ((0 : Int32), T)) else (if (8 : Int32) < x2 then (some ((0 : Int32), T)) else (if x3 < 0 then (some ((0 : Int32), T)) else (if x3 ≤ (10 : Int32) then ((dt_ix ((x1 * (9 : Int32)) + x2) 72).bind fun a1 => (some ((1 : Int32), (dt_set T 0 a1 x3)))) else (some ((0 : Int32), T)))))))
set_option maxRecDepth 10000 in
set_option maxHeartbeats 4000000 in
theorem tX4_setChance_15 {nb : Nat} {G : dt_G} {A : Nat → Prop} {p : Program} {l : Launch} {e : Env} {s : State} {m : MethodId} {args : Array Value} {below : List Frame} {meth : Method} {c : Code} (C : dt_Cx nb G A p s m args meth c cX4_setChance 5 RX4) (hr : meth.sig.returnType = (some .boolean)) {k : Nat} (hk : k < 18 + nb ∧ dt_c k = 4) {M : dt_M} {res : Int32 × dt_Ob}  : ∀ (x1 : Int32) (x2 : Int32) (x3 : Int32) (s0 : Int32) (T : dt_Ob), fX4_setChance_15 x1 x2 x3 s0 T = some res → dt_At G A p l e (dt_rm 1) s m args below meth c 5 (MQ below (dt_Post G A (some (.int res.1)) (dt_put M k res.2)) args s 0 0 A) 15 [(0, .ref (G.1 k 0)), (1, .int x1), (2, .int x2), (3, .int x3)] [.int s0] (dt_put M k T) := by
  intro x1 x2 x3 s0 T h
  unfold fX4_setChance_15 at h
  refine dz_istore (pc := 15) C dX4_setChance_15 (by decide) rfl ?_
  refine dz_iload (pc := 17) C dX4_setChance_17 0 rfl ?_
  refine dz_if_eq (pc := 19) (t := 43) C dX4_setChance_19 (by decide) h (fun h => ?_) (fun h => ?_)
  · refine dz_iconst (pc := 43) (v := (0 : Int32)) C dX4_setChance_43 (by decide) ?_
    cases dt_some h
    exact dz_zret (pc := 44) C hr (Or.inl rfl) dX4_setChance_44
  · refine dz_iload_n (pc := 22) C dX4_setChance_22 rfl 3 rfl ?_
    refine dz_iconst (pc := 23) (v := (1 : Int32)) C dX4_setChance_23 (by decide) ?_
    refine dz_icmp_lt (pc := 24) (t := 43) C dX4_setChance_24 (by decide) h (fun h => ?_) (fun h => ?_)
    · refine dz_iconst (pc := 43) (v := (0 : Int32)) C dX4_setChance_43 (by decide) ?_
      cases dt_some h
      exact dz_zret (pc := 44) C hr (Or.inl rfl) dX4_setChance_44
    · refine dz_iload_n (pc := 27) C dX4_setChance_27 rfl 3 rfl ?_
      refine dz_bipush (pc := 28) (v := (8 : Int32)) C dX4_setChance_28 (by decide) ?_
      refine dz_icmp_gt (pc := 30) (t := 43) C dX4_setChance_30 (by decide) h (fun h => ?_) (fun h => ?_)
      · refine dz_iconst (pc := 43) (v := (0 : Int32)) C dX4_setChance_43 (by decide) ?_
        cases dt_some h
        exact dz_zret (pc := 44) C hr (Or.inl rfl) dX4_setChance_44
      · refine dz_iload_n (pc := 33) C dX4_setChance_33 rfl 4 rfl ?_
        refine dz_if_lt (pc := 34) (t := 43) C dX4_setChance_34 (by decide) h (fun h => ?_) (fun h => ?_)
        · refine dz_iconst (pc := 43) (v := (0 : Int32)) C dX4_setChance_43 (by decide) ?_
          cases dt_some h
          exact dz_zret (pc := 44) C hr (Or.inl rfl) dX4_setChance_44
        · refine dz_iload_n (pc := 37) C dX4_setChance_37 rfl 4 rfl ?_
          refine dz_bipush (pc := 38) (v := (10 : Int32)) C dX4_setChance_38 (by decide) ?_
          refine dz_icmp_le (pc := 40) (t := 45) C dX4_setChance_40 (by decide) h (fun h => ?_) (fun h => ?_)
          · refine dz_aload_n (pc := 45) C dX4_setChance_45 rfl 1 rfl ?_
            refine dz_getR (pc := 46) (k := k) (j := 0) C Fc_X4 hk (by decide) (by decide) rfl fl_X4_9 dX4_setChance_46 ?_
            refine dz_iload_n (pc := 49) C dX4_setChance_49 rfl 2 rfl ?_
            refine dz_bipush (pc := 50) (v := (9 : Int32)) C dX4_setChance_50 (by decide) ?_
            refine dz_imul (pc := 52) C dX4_setChance_52 ?_
            refine dz_iload_n (pc := 53) C dX4_setChance_53 rfl 3 rfl ?_
            refine dz_iadd (pc := 54) C dX4_setChance_54 ?_
            refine dz_iload_n (pc := 55) C dX4_setChance_55 rfl 4 rfl ?_
            refine dz_iast (pc := 56) (k := k) (j := 0) (n := 72) (M' := fun a1 => (dt_put M k (dt_set T 0 a1 x3))) C hk (by decide) rfl (fun a1 => (dt_wA _ _ _ _ _ _)) dX4_setChance_56 h (fun a1 h => ?_)
            refine dz_iconst (pc := 57) (v := (1 : Int32)) C dX4_setChance_57 (by decide) ?_
            cases dt_some h
            exact dz_zret (pc := 58) C hr (Or.inr rfl) dX4_setChance_58
          · refine dz_iconst (pc := 43) (v := (0 : Int32)) C dX4_setChance_43 (by decide) ?_
            cases dt_some h
            exact dz_zret (pc := 44) C hr (Or.inl rfl) dX4_setChance_44
def fX4_setChance_14  (x1 : Int32) (x2 : Int32) (x3 : Int32) (T : dt_Ob) : Option (Int32 × dt_Ob) := (fX4_setChance_15 x1 x2 x3 (0 : Int32) T)
set_option maxRecDepth 10000 in
set_option maxHeartbeats 4000000 in
theorem tX4_setChance_14 {nb : Nat} {G : dt_G} {A : Nat → Prop} {p : Program} {l : Launch} {e : Env} {s : State} {m : MethodId} {args : Array Value} {below : List Frame} {meth : Method} {c : Code} (C : dt_Cx nb G A p s m args meth c cX4_setChance 5 RX4) (hr : meth.sig.returnType = (some .boolean)) {k : Nat} (hk : k < 18 + nb ∧ dt_c k = 4) {M : dt_M} {res : Int32 × dt_Ob}  : ∀ (x1 : Int32) (x2 : Int32) (x3 : Int32) (T : dt_Ob), fX4_setChance_14 x1 x2 x3 T = some res → dt_At G A p l e (dt_rm 1) s m args below meth c 5 (MQ below (dt_Post G A (some (.int res.1)) (dt_put M k res.2)) args s 0 0 A) 14 [(0, .ref (G.1 k 0)), (1, .int x1), (2, .int x2), (3, .int x3)] [] (dt_put M k T) := by
  intro x1 x2 x3 T h
  unfold fX4_setChance_14 at h
  refine dz_iconst (pc := 14) (v := (0 : Int32)) C dX4_setChance_14 (by decide) ?_
  exact tX4_setChance_15 C hr hk  x1 x2 x3 (0 : Int32) T h
def fX4_setChance  (x1 : Int32) (x2 : Int32) (x3 : Int32) (T : dt_Ob) : Option (Int32 × dt_Ob) := (if x1 < 0 then (fX4_setChance_14 x1 x2 x3 T) else (if (8 : Int32) ≤ x1 then (fX4_setChance_14 x1 x2 x3 T) else (fX4_setChance_15 x1 x2 x3 (1 : Int32) T)))
set_option maxRecDepth 10000 in
set_option maxHeartbeats 4000000 in
theorem m_X4_setChance {nb : Nat} (l : Launch) {k : Nat} (hk : k < 18 + nb ∧ dt_c k = 4)  (M : dt_M) (T : dt_Ob)  (x1 : Int32) (x2 : Int32) (x3 : Int32) {res : Int32 × dt_Ob} (h : fX4_setChance x1 x2 x3 T = some res) : dt_Met nb l yX4_setChance cX4_setChance 5 (some .boolean) 1 (fun G => [.ref (G.1 k 0), .int x1, .int x2, .int x3]) (dt_put M k T) (some (.int res.1)) (dt_put M k res.2) := by
  refine dz_enter (lv := fun G => [(0, .ref (G.1 k 0)), (1, .int x1), (2, .int x2), (3, .int x3)]) (by decide) (fun _ => rfl) (fun _ => Nat.le_of_ble_eq_true rfl) (fun G A p e s m args below meth c C hr => ?_)
  unfold fX4_setChance at h
  refine dz_iload_n (pc := 0) C dX4_setChance_0 rfl 1 rfl ?_
  refine dz_if_lt (pc := 1) (t := 14) C dX4_setChance_1 (by decide) h (fun h => ?_) (fun h => ?_)
  · exact tX4_setChance_14 C hr hk  x1 x2 x3 T h
  · refine dz_iload_n (pc := 4) C dX4_setChance_4 rfl 1 rfl ?_
    refine dz_bipush (pc := 5) (v := (8 : Int32)) C dX4_setChance_5 (by decide) ?_
    refine dz_icmp_ge (pc := 7) (t := 14) C dX4_setChance_7 (by decide) h (fun h => ?_) (fun h => ?_)
    · exact tX4_setChance_14 C hr hk  x1 x2 x3 T h
    · refine dz_iconst (pc := 10) (v := (1 : Int32)) C dX4_setChance_10 (by decide) ?_
      refine dz_goto (pc := 11) (t := 15) C dX4_setChance_11 (by decide) ?_
      exact tX4_setChance_15 C hr hk  x1 x2 x3 (1 : Int32) T h

def fX4_setReward  (x1 : Int32) (x2 : Int32) (T : dt_Ob) : Option (Int32 × dt_Ob) := (if x1 < 0 then (some ((0 : Int32), T)) else (if (8 : Int32) < x1 then (some ((0 : Int32), T)) else (if x2 < 0 then (some ((0 : Int32), T)) else (if x2 ≤ (999 : Int32) then ((dt_ix x1 9).bind fun a1 => (some ((1 : Int32), (dt_set T 1 a1 x2)))) else (some ((0 : Int32), T))))))
set_option maxRecDepth 10000 in
set_option maxHeartbeats 4000000 in
theorem m_X4_setReward {nb : Nat} (l : Launch) {k : Nat} (hk : k < 18 + nb ∧ dt_c k = 4)  (M : dt_M) (T : dt_Ob)  (x1 : Int32) (x2 : Int32) {res : Int32 × dt_Ob} (h : fX4_setReward x1 x2 T = some res) : dt_Met nb l yX4_setReward cX4_setReward 3 (some .boolean) 1 (fun G => [.ref (G.1 k 0), .int x1, .int x2]) (dt_put M k T) (some (.int res.1)) (dt_put M k res.2) := by
  refine dz_enter (lv := fun G => [(0, .ref (G.1 k 0)), (1, .int x1), (2, .int x2)]) (by decide) (fun _ => rfl) (fun _ => Nat.le_of_ble_eq_true rfl) (fun G A p e s m args below meth c C hr => ?_)
  unfold fX4_setReward at h
  refine dz_iload_n (pc := 0) C dX4_setReward_0 rfl 1 rfl ?_
  refine dz_if_lt (pc := 1) (t := 21) C dX4_setReward_1 (by decide) h (fun h => ?_) (fun h => ?_)
  · refine dz_iconst (pc := 21) (v := (0 : Int32)) C dX4_setReward_21 (by decide) ?_
    cases dt_some h
    exact dz_zret (pc := 22) C hr (Or.inl rfl) dX4_setReward_22
  · refine dz_iload_n (pc := 4) C dX4_setReward_4 rfl 1 rfl ?_
    refine dz_bipush (pc := 5) (v := (8 : Int32)) C dX4_setReward_5 (by decide) ?_
    refine dz_icmp_gt (pc := 7) (t := 21) C dX4_setReward_7 (by decide) h (fun h => ?_) (fun h => ?_)
    · refine dz_iconst (pc := 21) (v := (0 : Int32)) C dX4_setReward_21 (by decide) ?_
      cases dt_some h
      exact dz_zret (pc := 22) C hr (Or.inl rfl) dX4_setReward_22
    · refine dz_iload_n (pc := 10) C dX4_setReward_10 rfl 2 rfl ?_
      refine dz_if_lt (pc := 11) (t := 21) C dX4_setReward_11 (by decide) h (fun h => ?_) (fun h => ?_)
      · refine dz_iconst (pc := 21) (v := (0 : Int32)) C dX4_setReward_21 (by decide) ?_
        cases dt_some h
        exact dz_zret (pc := 22) C hr (Or.inl rfl) dX4_setReward_22
      · refine dz_iload_n (pc := 14) C dX4_setReward_14 rfl 2 rfl ?_
        refine dz_sipush (pc := 15) (v := (999 : Int32)) C dX4_setReward_15 (by decide) ?_
        refine dz_icmp_le (pc := 18) (t := 23) C dX4_setReward_18 (by decide) h (fun h => ?_) (fun h => ?_)
        · refine dz_aload_n (pc := 23) C dX4_setReward_23 rfl 0 rfl ?_
          refine dz_getR (pc := 24) (k := k) (j := 1) C Fc_X4 hk (by decide) (by decide) rfl fl_X4_15 dX4_setReward_24 ?_
          refine dz_iload_n (pc := 27) C dX4_setReward_27 rfl 1 rfl ?_
          refine dz_iload_n (pc := 28) C dX4_setReward_28 rfl 2 rfl ?_
          refine dz_iast (pc := 29) (k := k) (j := 1) (n := 9) (M' := fun a1 => (dt_put M k (dt_set T 1 a1 x2))) C hk (by decide) rfl (fun a1 => (dt_wA _ _ _ _ _ _)) dX4_setReward_29 h (fun a1 h => ?_)
          refine dz_iconst (pc := 30) (v := (1 : Int32)) C dX4_setReward_30 (by decide) ?_
          cases dt_some h
          exact dz_zret (pc := 31) C hr (Or.inr rfl) dX4_setReward_31
        · refine dz_iconst (pc := 21) (v := (0 : Int32)) C dX4_setReward_21 (by decide) ?_
          cases dt_some h
          exact dz_zret (pc := 22) C hr (Or.inl rfl) dX4_setReward_22

def fX4_chanceAt  (x1 : Int32) (x2 : Int32) (T : dt_Ob) : Option (Int32) := (if ((x1 * (9 : Int32)) + x2) < 0 then (some (0 : Int32)) else (if (72 : Int32) ≤ ((x1 * (9 : Int32)) + x2) then (some (0 : Int32)) else ((dt_ix ((x1 * (9 : Int32)) + x2) 72).bind fun a1 => (some ((T 0) a1)))))
set_option maxRecDepth 10000 in
set_option maxHeartbeats 4000000 in
theorem m_X4_chanceAt {nb : Nat} (l : Launch) {k : Nat} (hk : k < 18 + nb ∧ dt_c k = 4)  (M : dt_M) (T : dt_Ob)  (x1 : Int32) (x2 : Int32) {res : Int32} (h : fX4_chanceAt x1 x2 T = some res) : dt_Met nb l yX4_chanceAt cX4_chanceAt 4 (some .int) 1 (fun G => [.ref (G.1 k 0), .int x1, .int x2]) (dt_put M k T) (some (.int res)) (dt_put M k T) := by
  refine dz_enter (lv := fun G => [(0, .ref (G.1 k 0)), (1, .int x1), (2, .int x2)]) (by decide) (fun _ => rfl) (fun _ => Nat.le_of_ble_eq_true rfl) (fun G A p e s m args below meth c C hr => ?_)
  unfold fX4_chanceAt at h
  refine dz_iload_n (pc := 0) C dX4_chanceAt_0 rfl 1 rfl ?_
  refine dz_bipush (pc := 1) (v := (9 : Int32)) C dX4_chanceAt_1 (by decide) ?_
  refine dz_imul (pc := 3) C dX4_chanceAt_3 ?_
  refine dz_iload_n (pc := 4) C dX4_chanceAt_4 rfl 2 rfl ?_
  refine dz_iadd (pc := 5) C dX4_chanceAt_5 ?_
  refine dz_istore_n (pc := 6) C dX4_chanceAt_6 rfl (by decide) rfl ?_
  refine dz_iload_n (pc := 7) C dX4_chanceAt_7 rfl 0 rfl ?_
  refine dz_if_lt (pc := 8) (t := 29) C dX4_chanceAt_8 (by decide) h (fun h => ?_) (fun h => ?_)
  · refine dz_iconst (pc := 29) (v := (0 : Int32)) C dX4_chanceAt_29 (by decide) ?_
    cases dt_some h
    exact dz_iret (pc := 30) C hr dX4_chanceAt_30
  · refine dz_iload_n (pc := 11) C dX4_chanceAt_11 rfl 0 rfl ?_
    refine dz_aload_n (pc := 12) C dX4_chanceAt_12 rfl 1 rfl ?_
    refine dz_getR (pc := 13) (k := k) (j := 0) C Fc_X4 hk (by decide) (by decide) rfl fl_X4_9 dX4_chanceAt_13 ?_
    refine dz_alen (pc := 16) (k := k) (j := 0) (n := 72) (v := (72 : Int32)) C hk (by decide) rfl rfl (by decide) dX4_chanceAt_16 ?_
    refine dz_icmp_ge (pc := 17) (t := 29) C dX4_chanceAt_17 (by decide) h (fun h => ?_) (fun h => ?_)
    · refine dz_iconst (pc := 29) (v := (0 : Int32)) C dX4_chanceAt_29 (by decide) ?_
      cases dt_some h
      exact dz_iret (pc := 30) C hr dX4_chanceAt_30
    · refine dz_aload_n (pc := 20) C dX4_chanceAt_20 rfl 1 rfl ?_
      refine dz_getR (pc := 21) (k := k) (j := 0) C Fc_X4 hk (by decide) (by decide) rfl fl_X4_9 dX4_chanceAt_21 ?_
      refine dz_iload_n (pc := 24) C dX4_chanceAt_24 rfl 0 rfl ?_
      refine dz_iald (pc := 25) (k := k) (j := 0) (n := 72) (f := (T 0)) C hk (by decide) rfl (dt_rAf _ _ _ _) dX4_chanceAt_25 h (fun a1 h => ?_)
      refine dz_goto (pc := 26) (t := 30) C dX4_chanceAt_26 (by decide) ?_
      cases dt_some h
      exact dz_iret (pc := 30) C hr dX4_chanceAt_30

def fX4_goingOn  (x1 : Int32) (x2 : Int32) (x3 : Int64) (T : dt_Ob) : Option (Int64) := ((fX4_chanceAt x1 x2 T).bind fun q1 => ((dt_ix (0 : Int32) 9).bind fun a2 => ((dt_ix x2 9).bind fun a3 => (some ((((Int32.toInt64 q1) * (Int32.toInt64 ((T 1) a2))) * x3) + (((10 : Int64) - (Int32.toInt64 q1)) * (dt_lg (T 2) a3)))))))
set_option maxRecDepth 10000 in
set_option maxHeartbeats 4000000 in
theorem m_X4_goingOn {nb : Nat} (l : Launch) {k : Nat} (hk : k < 18 + nb ∧ dt_c k = 4)  (M : dt_M) (T : dt_Ob)  (x1 : Int32) (x2 : Int32) (x3 : Int64) {res : Int64} (h : fX4_goingOn x1 x2 x3 T = some res) : dt_Met nb l yX4_goingOn cX4_goingOn 7 (some .long) 2 (fun G => [.ref (G.1 k 0), .int x1, .int x2, .long x3]) (dt_put M k T) (some (.long res)) (dt_put M k T) := by
  refine dz_enter (lv := fun G => [(0, .ref (G.1 k 0)), (1, .int x1), (2, .int x2), (3, .long x3)]) (by decide) (fun _ => rfl) (fun _ => Nat.le_of_ble_eq_true rfl) (fun G A p e s m args below meth c C hr => ?_)
  unfold fX4_goingOn at h
  refine dz_aload_n (pc := 0) C dX4_goingOn_0 rfl 0 rfl ?_
  refine dz_iload_n (pc := 1) C dX4_goingOn_1 rfl 1 rfl ?_
  refine dz_iload_n (pc := 2) C dX4_goingOn_2 rfl 2 rfl ?_
  obtain ⟨q1, eq1, h⟩ := dt_bind h
  refine dz_callVi (pc := 3) (st := []) (k := k) (As := [.int x1, .int x2]) (M' := (dt_put M k T)) C Fc_X4 hk mf_X4_chanceAt rfl ml_X4_46 (m_X4_chanceAt l hk _ _ _ _ eq1) rfl rfl (by omega) (by decide) (Nat.le_of_ble_eq_true rfl) dX4_goingOn_3 ?_
  refine dz_i2l (pc := 6) C dX4_goingOn_6 ?_
  refine dz_lstore (pc := 7) C dX4_goingOn_7 (by decide) rfl ?_
  refine dz_lload (pc := 9) C dX4_goingOn_9 0 rfl ?_
  refine dz_aload_n (pc := 11) C dX4_goingOn_11 rfl 1 rfl ?_
  refine dz_getR (pc := 12) (k := k) (j := 1) C Fc_X4 hk (by decide) (by decide) rfl fl_X4_15 dX4_goingOn_12 ?_
  refine dz_iconst (pc := 15) (v := (0 : Int32)) C dX4_goingOn_15 (by decide) ?_
  refine dz_iald (pc := 16) (k := k) (j := 1) (n := 9) (f := (T 1)) C hk (by decide) rfl (dt_rAf _ _ _ _) dX4_goingOn_16 h (fun a2 h => ?_)
  refine dz_i2l (pc := 17) C dX4_goingOn_17 ?_
  refine dz_lmul (pc := 18) C dX4_goingOn_18 ?_
  refine dz_lload_n (pc := 19) C dX4_goingOn_19 rfl 4 rfl ?_
  refine dz_lmul (pc := 20) C dX4_goingOn_20 ?_
  refine dz_ldc2 (pc := 21) C cl_X4_34 dX4_goingOn_21 ?_
  refine dz_lload (pc := 24) C dX4_goingOn_24 0 rfl ?_
  refine dz_lsub (pc := 26) C dX4_goingOn_26 ?_
  refine dz_aload_n (pc := 27) C dX4_goingOn_27 rfl 1 rfl ?_
  refine dz_getR (pc := 28) (k := k) (j := 2) C Fc_X4 hk (by decide) (by decide) rfl fl_X4_18 dX4_goingOn_28 ?_
  refine dz_iload_n (pc := 31) C dX4_goingOn_31 rfl 3 rfl ?_
  refine dz_lald (pc := 32) (k := k) (j := 2) (n := 9) (f := (T 2)) C hk (by decide) rfl (dt_rAf _ _ _ _) dX4_goingOn_32 h (fun a3 h => ?_)
  refine dz_lmul (pc := 33) C dX4_goingOn_33 ?_
  refine dz_ladd (pc := 34) C dX4_goingOn_34 ?_
  cases dt_some h
  exact dz_lret (pc := 35) C hr dX4_goingOn_35

def fX4_best_136 (r42 : Int32 → Int32 → Int32 → Int64 → Int32 → Int32 → dt_Ob → Option (Int64 × dt_Ob)) (r51 : Int32 → Int32 → Int32 → Int64 → Int32 → Int32 → Int32 → dt_Ob → Option (Int64 × dt_Ob)) (x2 : Int32) (x3 : Int32) (x4 : Int32) (x5 : Int64) (x7 : Int32) (x8 : Int32) (x9 : Int32) (T : dt_Ob) : Option (Int64 × dt_Ob) := (r51 x2 x3 x4 x5 x7 x8 (x9 + (1 : Int32)) T)
set_option maxRecDepth 10000 in
set_option maxHeartbeats 4000000 in
theorem tX4_best_136 {nb : Nat} {G : dt_G} {A : Nat → Prop} {p : Program} {l : Launch} {e : Env} {s : State} {m : MethodId} {args : Array Value} {below : List Frame} {meth : Method} {c : Code} (C : dt_Cx nb G A p s m args meth c cX4_best 14 RX4) (hr : meth.sig.returnType = (some .long)) {k : Nat} (hk : k < 18 + nb ∧ dt_c k = 4) {M : dt_M} {res : Int64 × dt_Ob} {r42 : Int32 → Int32 → Int32 → Int64 → Int32 → Int32 → dt_Ob → Option (Int64 × dt_Ob)} (hr42 : ∀ (x2 : Int32) (x3 : Int32) (x4 : Int32) (x5 : Int64) (x7 : Int32) (x8 : Int32) (T : dt_Ob), r42 x2 x3 x4 x5 x7 x8 T = some res → dt_At G A p l e (dt_rm 3) s m args below meth c 14 (MQ below (dt_Post G A (some (.long res.1)) (dt_put M k res.2)) args s 0 0 A) 42 [(0, .ref (G.1 k 0)), (2, .int x2), (3, .int x3), (4, .int x4), (5, .long x5), (7, .int x7), (8, .int x8)] [] (dt_put M k T)) {r51 : Int32 → Int32 → Int32 → Int64 → Int32 → Int32 → Int32 → dt_Ob → Option (Int64 × dt_Ob)} (hr51 : ∀ (x2 : Int32) (x3 : Int32) (x4 : Int32) (x5 : Int64) (x7 : Int32) (x8 : Int32) (x9 : Int32) (T : dt_Ob), r51 x2 x3 x4 x5 x7 x8 x9 T = some res → dt_At G A p l e (dt_rm 3) s m args below meth c 14 (MQ below (dt_Post G A (some (.long res.1)) (dt_put M k res.2)) args s 0 0 A) 51 [(0, .ref (G.1 k 0)), (2, .int x2), (3, .int x3), (4, .int x4), (5, .long x5), (7, .int x7), (8, .int x8), (9, .int x9)] [] (dt_put M k T)) : ∀ (x2 : Int32) (x3 : Int32) (x4 : Int32) (x5 : Int64) (x7 : Int32) (x8 : Int32) (x9 : Int32) (T : dt_Ob), fX4_best_136 r42 r51 x2 x3 x4 x5 x7 x8 x9 T = some res → dt_At G A p l e (dt_rm 3) s m args below meth c 14 (MQ below (dt_Post G A (some (.long res.1)) (dt_put M k res.2)) args s 0 0 A) 136 [(0, .ref (G.1 k 0)), (2, .int x2), (3, .int x3), (4, .int x4), (5, .long x5), (7, .int x7), (8, .int x8), (9, .int x9)] [] (dt_put M k T) := by
  intro x2 x3 x4 x5 x7 x8 x9 T h
  unfold fX4_best_136 at h
  refine dz_iinc (pc := 136) (v := (x9 + (1 : Int32))) C dX4_best_136 7 rfl rfl (by decide) rfl ?_
  refine dz_goto (pc := 139) (t := 51) C dX4_best_139 (by decide) ?_
  refine dz_sub [1, 2, 3, 4, 5, 6, 7, 0] rfl ?_
  exact hr51 x2 x3 x4 x5 x7 x8 (x9 + (1 : Int32)) T h
def fX4_best_134 (r42 : Int32 → Int32 → Int32 → Int64 → Int32 → Int32 → dt_Ob → Option (Int64 × dt_Ob)) (r51 : Int32 → Int32 → Int32 → Int64 → Int32 → Int32 → Int32 → dt_Ob → Option (Int64 × dt_Ob)) (x2 : Int32) (x3 : Int32) (x4 : Int32) (x5 : Int64) (x8 : Int32) (x9 : Int32) (s0 : Int32) (T : dt_Ob) : Option (Int64 × dt_Ob) := (fX4_best_136 r42 r51 x2 x3 x4 x5 s0 x8 x9 T)
set_option maxRecDepth 10000 in
set_option maxHeartbeats 4000000 in
theorem tX4_best_134 {nb : Nat} {G : dt_G} {A : Nat → Prop} {p : Program} {l : Launch} {e : Env} {s : State} {m : MethodId} {args : Array Value} {below : List Frame} {meth : Method} {c : Code} (C : dt_Cx nb G A p s m args meth c cX4_best 14 RX4) (hr : meth.sig.returnType = (some .long)) {k : Nat} (hk : k < 18 + nb ∧ dt_c k = 4) {M : dt_M} {res : Int64 × dt_Ob} {r42 : Int32 → Int32 → Int32 → Int64 → Int32 → Int32 → dt_Ob → Option (Int64 × dt_Ob)} (hr42 : ∀ (x2 : Int32) (x3 : Int32) (x4 : Int32) (x5 : Int64) (x7 : Int32) (x8 : Int32) (T : dt_Ob), r42 x2 x3 x4 x5 x7 x8 T = some res → dt_At G A p l e (dt_rm 3) s m args below meth c 14 (MQ below (dt_Post G A (some (.long res.1)) (dt_put M k res.2)) args s 0 0 A) 42 [(0, .ref (G.1 k 0)), (2, .int x2), (3, .int x3), (4, .int x4), (5, .long x5), (7, .int x7), (8, .int x8)] [] (dt_put M k T)) {r51 : Int32 → Int32 → Int32 → Int64 → Int32 → Int32 → Int32 → dt_Ob → Option (Int64 × dt_Ob)} (hr51 : ∀ (x2 : Int32) (x3 : Int32) (x4 : Int32) (x5 : Int64) (x7 : Int32) (x8 : Int32) (x9 : Int32) (T : dt_Ob), r51 x2 x3 x4 x5 x7 x8 x9 T = some res → dt_At G A p l e (dt_rm 3) s m args below meth c 14 (MQ below (dt_Post G A (some (.long res.1)) (dt_put M k res.2)) args s 0 0 A) 51 [(0, .ref (G.1 k 0)), (2, .int x2), (3, .int x3), (4, .int x4), (5, .long x5), (7, .int x7), (8, .int x8), (9, .int x9)] [] (dt_put M k T)) : ∀ (x2 : Int32) (x3 : Int32) (x4 : Int32) (x5 : Int64) (x8 : Int32) (x9 : Int32) (s0 : Int32) (T : dt_Ob), fX4_best_134 r42 r51 x2 x3 x4 x5 x8 x9 s0 T = some res → dt_At G A p l e (dt_rm 3) s m args below meth c 14 (MQ below (dt_Post G A (some (.long res.1)) (dt_put M k res.2)) args s 0 0 A) 134 [(0, .ref (G.1 k 0)), (2, .int x2), (3, .int x3), (4, .int x4), (5, .long x5), (8, .int x8), (9, .int x9)] [.int s0] (dt_put M k T) := by
  intro x2 x3 x4 x5 x8 x9 s0 T h
  unfold fX4_best_134 at h
  refine dz_istore (pc := 134) C dX4_best_134 (by decide) rfl ?_
  refine dz_sub [1, 2, 3, 4, 5, 0, 6, 7] rfl ?_
  exact tX4_best_136 C hr hk hr42 hr51 x2 x3 x4 x5 s0 x8 x9 T h
def fX4_best_99 (r42 : Int32 → Int32 → Int32 → Int64 → Int32 → Int32 → dt_Ob → Option (Int64 × dt_Ob)) (r51 : Int32 → Int32 → Int32 → Int64 → Int32 → Int32 → Int32 → dt_Ob → Option (Int64 × dt_Ob)) (x2 : Int32) (x3 : Int32) (x4 : Int32) (x5 : Int64) (x7 : Int32) (x8 : Int32) (x9 : Int32) (x10 : Int64) (s0 : Int64) (T : dt_Ob) : Option (Int64 × dt_Ob) := ((dt_ix x9 9).bind fun a6 => (if x9 = x3 then (if (lg_cmp s0 x10) ≤ 0 then (fX4_best_134 r42 r51 x2 x3 x4 x5 x8 x9 (0 : Int32) (dt_setL T 2 a6 (if s0 < x10 then x10 else s0))) else (fX4_best_134 r42 r51 x2 x3 x4 x5 x8 x9 (1 : Int32) (dt_setL T 2 a6 (if s0 < x10 then x10 else s0)))) else (fX4_best_136 r42 r51 x2 x3 x4 x5 x7 x8 x9 (dt_setL T 2 a6 (if s0 < x10 then x10 else s0)))))
set_option maxRecDepth 10000 in
set_option maxHeartbeats 4000000 in
theorem tX4_best_99 {nb : Nat} {G : dt_G} {A : Nat → Prop} {p : Program} {l : Launch} {e : Env} {s : State} {m : MethodId} {args : Array Value} {below : List Frame} {meth : Method} {c : Code} (C : dt_Cx nb G A p s m args meth c cX4_best 14 RX4) (hr : meth.sig.returnType = (some .long)) {k : Nat} (hk : k < 18 + nb ∧ dt_c k = 4) {M : dt_M} {res : Int64 × dt_Ob} {r42 : Int32 → Int32 → Int32 → Int64 → Int32 → Int32 → dt_Ob → Option (Int64 × dt_Ob)} (hr42 : ∀ (x2 : Int32) (x3 : Int32) (x4 : Int32) (x5 : Int64) (x7 : Int32) (x8 : Int32) (T : dt_Ob), r42 x2 x3 x4 x5 x7 x8 T = some res → dt_At G A p l e (dt_rm 3) s m args below meth c 14 (MQ below (dt_Post G A (some (.long res.1)) (dt_put M k res.2)) args s 0 0 A) 42 [(0, .ref (G.1 k 0)), (2, .int x2), (3, .int x3), (4, .int x4), (5, .long x5), (7, .int x7), (8, .int x8)] [] (dt_put M k T)) {r51 : Int32 → Int32 → Int32 → Int64 → Int32 → Int32 → Int32 → dt_Ob → Option (Int64 × dt_Ob)} (hr51 : ∀ (x2 : Int32) (x3 : Int32) (x4 : Int32) (x5 : Int64) (x7 : Int32) (x8 : Int32) (x9 : Int32) (T : dt_Ob), r51 x2 x3 x4 x5 x7 x8 x9 T = some res → dt_At G A p l e (dt_rm 3) s m args below meth c 14 (MQ below (dt_Post G A (some (.long res.1)) (dt_put M k res.2)) args s 0 0 A) 51 [(0, .ref (G.1 k 0)), (2, .int x2), (3, .int x3), (4, .int x4), (5, .long x5), (7, .int x7), (8, .int x8), (9, .int x9)] [] (dt_put M k T)) : ∀ (x2 : Int32) (x3 : Int32) (x4 : Int32) (x5 : Int64) (x7 : Int32) (x8 : Int32) (x9 : Int32) (x10 : Int64) (s0 : Int64) (T : dt_Ob), fX4_best_99 r42 r51 x2 x3 x4 x5 x7 x8 x9 x10 s0 T = some res → dt_At G A p l e (dt_rm 3) s m args below meth c 14 (MQ below (dt_Post G A (some (.long res.1)) (dt_put M k res.2)) args s 0 0 A) 99 [(0, .ref (G.1 k 0)), (2, .int x2), (3, .int x3), (4, .int x4), (5, .long x5), (7, .int x7), (8, .int x8), (9, .int x9), (10, .long x10)] [.long s0] (dt_put M k T) := by
  intro x2 x3 x4 x5 x7 x8 x9 x10 s0 T h
  unfold fX4_best_99 at h
  refine dz_lstore (pc := 99) C dX4_best_99 (by decide) rfl ?_
  refine dz_aload_n (pc := 101) C dX4_best_101 rfl 1 rfl ?_
  refine dz_getR (pc := 102) (k := k) (j := 2) C Fc_X4 hk (by decide) (by decide) rfl fl_X4_18 dX4_best_102 ?_
  refine dz_iload (pc := 105) C dX4_best_105 8 rfl ?_
  refine dz_lload (pc := 107) C dX4_best_107 9 rfl ?_
  refine dz_lload (pc := 109) C dX4_best_109 0 rfl ?_
  refine dz_maxL (pc := 111) C ml_X4_40 (by omega) (Nat.le_of_ble_eq_true rfl) dX4_best_111 ?_
  refine dz_last (pc := 114) (k := k) (j := 2) (n := 9) (M' := fun a6 => (dt_put M k (dt_setL T 2 a6 (if s0 < x10 then x10 else s0)))) C hk (by decide) rfl (fun a6 => (dt_wAL _ _ _ _ _ _)) dX4_best_114 h (fun a6 h => ?_)
  refine dz_iload (pc := 115) C dX4_best_115 8 rfl ?_
  refine dz_iload_n (pc := 117) C dX4_best_117 rfl 3 rfl ?_
  refine dz_icmp_ne (pc := 118) (t := 136) C dX4_best_118 (by decide) h (fun h => ?_) (fun h => ?_)
  · refine dz_sub [1, 2, 3, 4, 5, 6, 7, 8] rfl ?_
    exact tX4_best_136 C hr hk hr42 hr51 x2 x3 x4 x5 x7 x8 x9 (dt_setL T 2 a6 (if s0 < x10 then x10 else s0)) h
  · refine dz_lload (pc := 121) C dX4_best_121 0 rfl ?_
    refine dz_lload (pc := 123) C dX4_best_123 9 rfl ?_
    refine dz_lcmp (pc := 125) C dX4_best_125 ?_
    refine dz_if_le (pc := 126) (t := 133) C dX4_best_126 (by decide) h (fun h => ?_) (fun h => ?_)
    · refine dz_iconst (pc := 133) (v := (0 : Int32)) C dX4_best_133 (by decide) ?_
      refine dz_sub [1, 2, 3, 4, 5, 7, 8] rfl ?_
      exact tX4_best_134 C hr hk hr42 hr51 x2 x3 x4 x5 x8 x9 (0 : Int32) (dt_setL T 2 a6 (if s0 < x10 then x10 else s0)) h
    · refine dz_iconst (pc := 129) (v := (1 : Int32)) C dX4_best_129 (by decide) ?_
      refine dz_goto (pc := 130) (t := 134) C dX4_best_130 (by decide) ?_
      refine dz_sub [1, 2, 3, 4, 5, 7, 8] rfl ?_
      exact tX4_best_134 C hr hk hr42 hr51 x2 x3 x4 x5 x8 x9 (1 : Int32) (dt_setL T 2 a6 (if s0 < x10 then x10 else s0)) h
def fX4_best_51 (r42 : Int32 → Int32 → Int32 → Int64 → Int32 → Int32 → dt_Ob → Option (Int64 × dt_Ob)) : Nat → Int32 → Int32 → Int32 → Int64 → Int32 → Int32 → Int32 → dt_Ob → Option (Int64 × dt_Ob)
  | 0, _, _, _, _, _, _, _, _ => none
  | n + 1, x2, x3, x4, x5, x7, x8, x9, T => (if (8 : Int32) < x9 then (r42 x2 x3 x4 (x5 * (10 : Int64)) x7 (x8 + (-1 : Int32)) T) else ((dt_ix x9 9).bind fun a4 => (if (8 : Int32) ≤ x9 then (fX4_best_99 r42 (fX4_best_51 r42 n) x2 x3 x4 x5 x7 x8 x9 (((Int32.toInt64 ((T 1) a4)) * x5) * (10 : Int64)) (((Int32.toInt64 ((T 1) a4)) * x5) * (10 : Int64)) T) else ((fX4_goingOn x8 (x9 + (1 : Int32)) x5 T).bind fun q5 => (fX4_best_99 r42 (fX4_best_51 r42 n) x2 x3 x4 x5 x7 x8 x9 (((Int32.toInt64 ((T 1) a4)) * x5) * (10 : Int64)) q5 T)))))
set_option maxRecDepth 10000 in
set_option maxHeartbeats 4000000 in
theorem tX4_best_51 {nb : Nat} {G : dt_G} {A : Nat → Prop} {p : Program} {l : Launch} {e : Env} {s : State} {m : MethodId} {args : Array Value} {below : List Frame} {meth : Method} {c : Code} (C : dt_Cx nb G A p s m args meth c cX4_best 14 RX4) (hr : meth.sig.returnType = (some .long)) {k : Nat} (hk : k < 18 + nb ∧ dt_c k = 4) {M : dt_M} {res : Int64 × dt_Ob} {r42 : Int32 → Int32 → Int32 → Int64 → Int32 → Int32 → dt_Ob → Option (Int64 × dt_Ob)} (hr42 : ∀ (x2 : Int32) (x3 : Int32) (x4 : Int32) (x5 : Int64) (x7 : Int32) (x8 : Int32) (T : dt_Ob), r42 x2 x3 x4 x5 x7 x8 T = some res → dt_At G A p l e (dt_rm 3) s m args below meth c 14 (MQ below (dt_Post G A (some (.long res.1)) (dt_put M k res.2)) args s 0 0 A) 42 [(0, .ref (G.1 k 0)), (2, .int x2), (3, .int x3), (4, .int x4), (5, .long x5), (7, .int x7), (8, .int x8)] [] (dt_put M k T)) : ∀ (n : Nat) (x2 : Int32) (x3 : Int32) (x4 : Int32) (x5 : Int64) (x7 : Int32) (x8 : Int32) (x9 : Int32) (T : dt_Ob), fX4_best_51 r42 n x2 x3 x4 x5 x7 x8 x9 T = some res → dt_At G A p l e (dt_rm 3) s m args below meth c 14 (MQ below (dt_Post G A (some (.long res.1)) (dt_put M k res.2)) args s 0 0 A) 51 [(0, .ref (G.1 k 0)), (2, .int x2), (3, .int x3), (4, .int x4), (5, .long x5), (7, .int x7), (8, .int x8), (9, .int x9)] [] (dt_put M k T) := by
  intro n
  induction n with
  | zero =>
    intro x2 x3 x4 x5 x7 x8 x9 T h
    unfold fX4_best_51 at h
    cases h
  | succ n ih =>
    intro x2 x3 x4 x5 x7 x8 x9 T h
    unfold fX4_best_51 at h
    refine dz_iload (pc := 51) C dX4_best_51 7 rfl ?_
    refine dz_bipush (pc := 53) (v := (8 : Int32)) C dX4_best_53 (by decide) ?_
    refine dz_icmp_gt (pc := 55) (t := 142) C dX4_best_55 (by decide) h (fun h => ?_) (fun h => ?_)
    · refine dz_lload (pc := 142) C dX4_best_142 4 rfl ?_
      refine dz_ldc2 (pc := 144) C cl_X4_34 dX4_best_144 ?_
      refine dz_lmul (pc := 147) C dX4_best_147 ?_
      refine dz_lstore (pc := 148) C dX4_best_148 (by decide) rfl ?_
      refine dz_iinc (pc := 150) (v := (x8 + (-1 : Int32))) C dX4_best_150 6 rfl rfl (by decide) rfl ?_
      refine dz_goto (pc := 153) (t := 42) C dX4_best_153 (by decide) ?_
      refine dz_sub [2, 3, 4, 5, 1, 6, 0] rfl ?_
      exact hr42 x2 x3 x4 (x5 * (10 : Int64)) x7 (x8 + (-1 : Int32)) T h
    · refine dz_aload_n (pc := 58) C dX4_best_58 rfl 0 rfl ?_
      refine dz_getR (pc := 59) (k := k) (j := 1) C Fc_X4 hk (by decide) (by decide) rfl fl_X4_15 dX4_best_59 ?_
      refine dz_iload (pc := 62) C dX4_best_62 7 rfl ?_
      refine dz_iald (pc := 64) (k := k) (j := 1) (n := 9) (f := (T 1)) C hk (by decide) rfl (dt_rAf _ _ _ _) dX4_best_64 h (fun a4 h => ?_)
      refine dz_i2l (pc := 65) C dX4_best_65 ?_
      refine dz_lload (pc := 66) C dX4_best_66 4 rfl ?_
      refine dz_lmul (pc := 68) C dX4_best_68 ?_
      refine dz_ldc2 (pc := 69) C cl_X4_34 dX4_best_69 ?_
      refine dz_lmul (pc := 72) C dX4_best_72 ?_
      refine dz_lstore (pc := 73) C dX4_best_73 (by decide) rfl ?_
      refine dz_iload (pc := 75) C dX4_best_75 8 rfl ?_
      refine dz_bipush (pc := 77) (v := (8 : Int32)) C dX4_best_77 (by decide) ?_
      refine dz_icmp_ge (pc := 79) (t := 97) C dX4_best_79 (by decide) h (fun h => ?_) (fun h => ?_)
      · refine dz_lload (pc := 97) C dX4_best_97 0 rfl ?_
        refine dz_sub [1, 2, 3, 4, 5, 6, 7, 8, 0] rfl ?_
        exact tX4_best_99 C hr hk hr42 ih x2 x3 x4 x5 x7 x8 x9 (((Int32.toInt64 ((T 1) a4)) * x5) * (10 : Int64)) (((Int32.toInt64 ((T 1) a4)) * x5) * (10 : Int64)) T h
      · refine dz_aload_n (pc := 82) C dX4_best_82 rfl 1 rfl ?_
        refine dz_iload (pc := 83) C dX4_best_83 7 rfl ?_
        refine dz_iload (pc := 85) C dX4_best_85 8 rfl ?_
        refine dz_iconst (pc := 87) (v := (1 : Int32)) C dX4_best_87 (by decide) ?_
        refine dz_iadd (pc := 88) C dX4_best_88 ?_
        refine dz_lload (pc := 89) C dX4_best_89 5 rfl ?_
        obtain ⟨q5, eq5, h⟩ := dt_bind h
        refine dz_callVl (pc := 91) (st := []) (k := k) (As := [.int x8, .int (x9 + (1 : Int32)), .long x5]) (M' := (dt_put M k T)) C Fc_X4 hk mf_X4_goingOn rfl ml_X4_36 (m_X4_goingOn l hk _ _ _ _ _ eq5) rfl rfl (by omega) (by decide) (Nat.le_of_ble_eq_true rfl) dX4_best_91 ?_
        refine dz_goto (pc := 94) (t := 99) C dX4_best_94 (by decide) ?_
        refine dz_sub [1, 2, 3, 4, 5, 6, 7, 8, 0] rfl ?_
        exact tX4_best_99 C hr hk hr42 ih x2 x3 x4 x5 x7 x8 x9 (((Int32.toInt64 ((T 1) a4)) * x5) * (10 : Int64)) q5 T h
def fX4_best_42  : Nat → Int32 → Int32 → Int32 → Int64 → Int32 → Int32 → dt_Ob → Option (Int64 × dt_Ob)
  | 0, _, _, _, _, _, _, _ => none
  | n + 1, x2, x3, x4, x5, x7, x8, T => (if x8 < x2 then (if x4 = 0 then ((dt_ix x3 9).bind fun a3 => (some ((dt_lg (T 2) a3), T))) else (if x7 = 0 then (some ((0 : Int64), T)) else (some ((1 : Int64), T)))) else (fX4_best_51 (fX4_best_42 n) dt_F x2 x3 x4 x5 x7 x8 (0 : Int32) T))
set_option maxRecDepth 10000 in
set_option maxHeartbeats 4000000 in
theorem tX4_best_42 {nb : Nat} {G : dt_G} {A : Nat → Prop} {p : Program} {l : Launch} {e : Env} {s : State} {m : MethodId} {args : Array Value} {below : List Frame} {meth : Method} {c : Code} (C : dt_Cx nb G A p s m args meth c cX4_best 14 RX4) (hr : meth.sig.returnType = (some .long)) {k : Nat} (hk : k < 18 + nb ∧ dt_c k = 4) {M : dt_M} {res : Int64 × dt_Ob}  : ∀ (n : Nat) (x2 : Int32) (x3 : Int32) (x4 : Int32) (x5 : Int64) (x7 : Int32) (x8 : Int32) (T : dt_Ob), fX4_best_42 n x2 x3 x4 x5 x7 x8 T = some res → dt_At G A p l e (dt_rm 3) s m args below meth c 14 (MQ below (dt_Post G A (some (.long res.1)) (dt_put M k res.2)) args s 0 0 A) 42 [(0, .ref (G.1 k 0)), (2, .int x2), (3, .int x3), (4, .int x4), (5, .long x5), (7, .int x7), (8, .int x8)] [] (dt_put M k T) := by
  intro n
  induction n with
  | zero =>
    intro x2 x3 x4 x5 x7 x8 T h
    unfold fX4_best_42 at h
    cases h
  | succ n ih =>
    intro x2 x3 x4 x5 x7 x8 T h
    unfold fX4_best_42 at h
    refine dz_iload (pc := 42) C dX4_best_42 6 rfl ?_
    refine dz_iload_n (pc := 44) C dX4_best_44 rfl 1 rfl ?_
    refine dz_icmp_lt (pc := 45) (t := 156) C dX4_best_45 (by decide) h (fun h => ?_) (fun h => ?_)
    · refine dz_iload (pc := 156) C dX4_best_156 3 rfl ?_
      refine dz_if_eq (pc := 158) (t := 172) C dX4_best_158 (by decide) h (fun h => ?_) (fun h => ?_)
      · refine dz_aload_n (pc := 172) C dX4_best_172 rfl 0 rfl ?_
        refine dz_getR (pc := 173) (k := k) (j := 2) C Fc_X4 hk (by decide) (by decide) rfl fl_X4_18 dX4_best_173 ?_
        refine dz_iload_n (pc := 176) C dX4_best_176 rfl 2 rfl ?_
        refine dz_lald (pc := 177) (k := k) (j := 2) (n := 9) (f := (T 2)) C hk (by decide) rfl (dt_rAf _ _ _ _) dX4_best_177 h (fun a3 h => ?_)
        cases dt_some h
        exact dz_lret (pc := 178) C hr dX4_best_178
      · refine dz_iload (pc := 161) C dX4_best_161 5 rfl ?_
        refine dz_if_eq (pc := 163) (t := 170) C dX4_best_163 (by decide) h (fun h => ?_) (fun h => ?_)
        · refine dz_lconst (pc := 170) (v := (0 : Int64)) C dX4_best_170 (by decide) ?_
          cases dt_some h
          exact dz_lret (pc := 171) C hr dX4_best_171
        · refine dz_lconst (pc := 166) (v := (1 : Int64)) C dX4_best_166 (by decide) ?_
          refine dz_goto (pc := 167) (t := 171) C dX4_best_167 (by decide) ?_
          cases dt_some h
          exact dz_lret (pc := 171) C hr dX4_best_171
    · refine dz_iconst (pc := 48) (v := (0 : Int32)) C dX4_best_48 (by decide) ?_
      refine dz_istore (pc := 49) C dX4_best_49 (by decide) rfl ?_
      refine dz_sub [1, 2, 3, 4, 5, 6, 7, 0] rfl ?_
      exact tX4_best_51 C hr hk ih dt_F x2 x3 x4 x5 x7 x8 (0 : Int32) T h
def fX4_best_3  : Nat → Int32 → Int32 → Int32 → Int32 → Int32 → dt_Ob → Option (Int64 × dt_Ob)
  | 0, _, _, _, _, _, _ => none
  | n + 1, x1, x2, x3, x4, x5, T => (if (8 : Int32) < x5 then (fX4_best_42 dt_F x2 x3 x4 (1 : Int64) (0 : Int32) (x1 - (1 : Int32)) T) else ((dt_ix x5 9).bind fun a1 => ((dt_ix x5 9).bind fun a2 => ((fX4_best_3 n) x1 x2 x3 x4 (x5 + (1 : Int32)) (dt_setL T 2 a2 (Int32.toInt64 ((T 1) a1)))))))
set_option maxRecDepth 10000 in
set_option maxHeartbeats 4000000 in
theorem tX4_best_3 {nb : Nat} {G : dt_G} {A : Nat → Prop} {p : Program} {l : Launch} {e : Env} {s : State} {m : MethodId} {args : Array Value} {below : List Frame} {meth : Method} {c : Code} (C : dt_Cx nb G A p s m args meth c cX4_best 14 RX4) (hr : meth.sig.returnType = (some .long)) {k : Nat} (hk : k < 18 + nb ∧ dt_c k = 4) {M : dt_M} {res : Int64 × dt_Ob}  : ∀ (n : Nat) (x1 : Int32) (x2 : Int32) (x3 : Int32) (x4 : Int32) (x5 : Int32) (T : dt_Ob), fX4_best_3 n x1 x2 x3 x4 x5 T = some res → dt_At G A p l e (dt_rm 3) s m args below meth c 14 (MQ below (dt_Post G A (some (.long res.1)) (dt_put M k res.2)) args s 0 0 A) 3 [(0, .ref (G.1 k 0)), (1, .int x1), (2, .int x2), (3, .int x3), (4, .int x4), (5, .int x5)] [] (dt_put M k T) := by
  intro n
  induction n with
  | zero =>
    intro x1 x2 x3 x4 x5 T h
    unfold fX4_best_3 at h
    cases h
  | succ n ih =>
    intro x1 x2 x3 x4 x5 T h
    unfold fX4_best_3 at h
    refine dz_iload (pc := 3) C dX4_best_3 5 rfl ?_
    refine dz_bipush (pc := 5) (v := (8 : Int32)) C dX4_best_5 (by decide) ?_
    refine dz_icmp_gt (pc := 7) (t := 31) C dX4_best_7 (by decide) h (fun h => ?_) (fun h => ?_)
    · refine dz_lconst (pc := 31) (v := (1 : Int64)) C dX4_best_31 (by decide) ?_
      refine dz_lstore (pc := 32) C dX4_best_32 (by decide) rfl ?_
      refine dz_iconst (pc := 34) (v := (0 : Int32)) C dX4_best_34 (by decide) ?_
      refine dz_istore (pc := 35) C dX4_best_35 (by decide) rfl ?_
      refine dz_iload_n (pc := 37) C dX4_best_37 rfl 3 rfl ?_
      refine dz_iconst (pc := 38) (v := (1 : Int32)) C dX4_best_38 (by decide) ?_
      refine dz_isub (pc := 39) C dX4_best_39 ?_
      refine dz_istore (pc := 40) C dX4_best_40 (by decide) rfl ?_
      refine dz_sub [3, 5, 6, 7, 2, 1, 0] rfl ?_
      exact tX4_best_42 C hr hk dt_F x2 x3 x4 (1 : Int64) (0 : Int32) (x1 - (1 : Int32)) T h
    · refine dz_aload_n (pc := 10) C dX4_best_10 rfl 0 rfl ?_
      refine dz_getR (pc := 11) (k := k) (j := 2) C Fc_X4 hk (by decide) (by decide) rfl fl_X4_18 dX4_best_11 ?_
      refine dz_iload (pc := 14) C dX4_best_14 5 rfl ?_
      refine dz_aload_n (pc := 16) C dX4_best_16 rfl 0 rfl ?_
      refine dz_getR (pc := 17) (k := k) (j := 1) C Fc_X4 hk (by decide) (by decide) rfl fl_X4_15 dX4_best_17 ?_
      refine dz_iload (pc := 20) C dX4_best_20 5 rfl ?_
      refine dz_iald (pc := 22) (k := k) (j := 1) (n := 9) (f := (T 1)) C hk (by decide) rfl (dt_rAf _ _ _ _) dX4_best_22 h (fun a1 h => ?_)
      refine dz_i2l (pc := 23) C dX4_best_23 ?_
      refine dz_last (pc := 24) (k := k) (j := 2) (n := 9) (M' := fun a2 => (dt_put M k (dt_setL T 2 a2 (Int32.toInt64 ((T 1) a1))))) C hk (by decide) rfl (fun a2 => (dt_wAL _ _ _ _ _ _)) dX4_best_24 h (fun a2 h => ?_)
      refine dz_iinc (pc := 25) (v := (x5 + (1 : Int32))) C dX4_best_25 5 rfl rfl (by decide) rfl ?_
      refine dz_goto (pc := 28) (t := 3) C dX4_best_28 (by decide) ?_
      refine dz_sub [1, 2, 3, 4, 5, 0] rfl ?_
      exact ih x1 x2 x3 x4 (x5 + (1 : Int32)) (dt_setL T 2 a2 (Int32.toInt64 ((T 1) a1))) h
def fX4_best  (x1 : Int32) (x2 : Int32) (x3 : Int32) (x4 : Int32) (T : dt_Ob) : Option (Int64 × dt_Ob) := (fX4_best_3 dt_F x1 x2 x3 x4 (0 : Int32) T)
set_option maxRecDepth 10000 in
set_option maxHeartbeats 4000000 in
theorem m_X4_best {nb : Nat} (l : Launch) {k : Nat} (hk : k < 18 + nb ∧ dt_c k = 4)  (M : dt_M) (T : dt_Ob)  (x1 : Int32) (x2 : Int32) (x3 : Int32) (x4 : Int32) {res : Int64 × dt_Ob} (h : fX4_best x1 x2 x3 x4 T = some res) : dt_Met nb l yX4_best cX4_best 14 (some .long) 3 (fun G => [.ref (G.1 k 0), .int x1, .int x2, .int x3, .int x4]) (dt_put M k T) (some (.long res.1)) (dt_put M k res.2) := by
  refine dz_enter (lv := fun G => [(0, .ref (G.1 k 0)), (1, .int x1), (2, .int x2), (3, .int x3), (4, .int x4)]) (by decide) (fun _ => rfl) (fun _ => Nat.le_of_ble_eq_true rfl) (fun G A p e s m args below meth c C hr => ?_)
  unfold fX4_best at h
  refine dz_iconst (pc := 0) (v := (0 : Int32)) C dX4_best_0 (by decide) ?_
  refine dz_istore (pc := 1) C dX4_best_1 (by decide) rfl ?_
  refine dz_sub [1, 2, 3, 4, 5, 0] rfl ?_
  exact tX4_best_3 C hr hk dt_F x1 x2 x3 x4 (0 : Int32) T h

def fX4_odds_8  : Nat → Int32 → Int32 → Int64 → Int64 → Int32 → dt_Ob → Option (Int64)
  | 0, _, _, _, _, _, _ => none
  | n + 1, x1, x2, x3, x5, x7, T => (if x1 ≤ x7 then (if x2 = 0 then (some x5) else (if x1 < x2 then (some (0 : Int64)) else (some x3))) else ((fX4_chanceAt x7 (x7 + (1 : Int32)) T).bind fun q1 => ((fX4_odds_8 n) x1 x2 (x3 * (Int32.toInt64 ((10 : Int32) - q1))) (x5 * (10 : Int64)) (x7 + (1 : Int32)) T)))
set_option maxRecDepth 10000 in
set_option maxHeartbeats 4000000 in
theorem tX4_odds_8 {nb : Nat} {G : dt_G} {A : Nat → Prop} {p : Program} {l : Launch} {e : Env} {s : State} {m : MethodId} {args : Array Value} {below : List Frame} {meth : Method} {c : Code} (C : dt_Cx nb G A p s m args meth c cX4_odds 8 RX4) (hr : meth.sig.returnType = (some .long)) {k : Nat} (hk : k < 18 + nb ∧ dt_c k = 4) {M : dt_M} {res : Int64}  : ∀ (n : Nat) (x1 : Int32) (x2 : Int32) (x3 : Int64) (x5 : Int64) (x7 : Int32) (T : dt_Ob), fX4_odds_8 n x1 x2 x3 x5 x7 T = some res → dt_At G A p l e (dt_rm 2) s m args below meth c 8 (MQ below (dt_Post G A (some (.long res)) (dt_put M k T)) args s 0 0 A) 8 [(0, .ref (G.1 k 0)), (1, .int x1), (2, .int x2), (3, .long x3), (5, .long x5), (7, .int x7)] [] (dt_put M k T) := by
  intro n
  induction n with
  | zero =>
    intro x1 x2 x3 x5 x7 T h
    unfold fX4_odds_8 at h
    cases h
  | succ n ih =>
    intro x1 x2 x3 x5 x7 T h
    unfold fX4_odds_8 at h
    refine dz_iload (pc := 8) C dX4_odds_8 5 rfl ?_
    refine dz_iload_n (pc := 10) C dX4_odds_10 rfl 1 rfl ?_
    refine dz_icmp_ge (pc := 11) (t := 45) C dX4_odds_11 (by decide) h (fun h => ?_) (fun h => ?_)
    · refine dz_iload_n (pc := 45) C dX4_odds_45 rfl 2 rfl ?_
      refine dz_if_ne (pc := 46) (t := 52) C dX4_odds_46 (by decide) h (fun h => ?_) (fun h => ?_)
      · refine dz_iload_n (pc := 52) C dX4_odds_52 rfl 2 rfl ?_
        refine dz_iload_n (pc := 53) C dX4_odds_53 rfl 1 rfl ?_
        refine dz_icmp_gt (pc := 54) (t := 61) C dX4_odds_54 (by decide) h (fun h => ?_) (fun h => ?_)
        · refine dz_lconst (pc := 61) (v := (0 : Int64)) C dX4_odds_61 (by decide) ?_
          cases dt_some h
          exact dz_lret (pc := 62) C hr dX4_odds_62
        · refine dz_lload_n (pc := 57) C dX4_odds_57 rfl 3 rfl ?_
          refine dz_goto (pc := 58) (t := 62) C dX4_odds_58 (by decide) ?_
          cases dt_some h
          exact dz_lret (pc := 62) C hr dX4_odds_62
      · refine dz_lload (pc := 49) C dX4_odds_49 4 rfl ?_
        cases dt_some h
        exact dz_lret (pc := 51) C hr dX4_odds_51
    · refine dz_lload_n (pc := 14) C dX4_odds_14 rfl 3 rfl ?_
      refine dz_bipush (pc := 15) (v := (10 : Int32)) C dX4_odds_15 (by decide) ?_
      refine dz_aload_n (pc := 17) C dX4_odds_17 rfl 0 rfl ?_
      refine dz_iload (pc := 18) C dX4_odds_18 5 rfl ?_
      refine dz_iload (pc := 20) C dX4_odds_20 5 rfl ?_
      refine dz_iconst (pc := 22) (v := (1 : Int32)) C dX4_odds_22 (by decide) ?_
      refine dz_iadd (pc := 23) C dX4_odds_23 ?_
      obtain ⟨q1, eq1, h⟩ := dt_bind h
      refine dz_callVi (pc := 24) (st := [.int (10 : Int32), .long x3]) (k := k) (As := [.int x7, .int (x7 + (1 : Int32))]) (M' := (dt_put M k T)) C Fc_X4 hk mf_X4_chanceAt rfl ml_X4_46 (m_X4_chanceAt l hk _ _ _ _ eq1) rfl rfl (by omega) (by decide) (Nat.le_of_ble_eq_true rfl) dX4_odds_24 ?_
      refine dz_isub (pc := 27) C dX4_odds_27 ?_
      refine dz_i2l (pc := 28) C dX4_odds_28 ?_
      refine dz_lmul (pc := 29) C dX4_odds_29 ?_
      refine dz_lstore_n (pc := 30) C dX4_odds_30 rfl (by decide) rfl ?_
      refine dz_lload (pc := 31) C dX4_odds_31 4 rfl ?_
      refine dz_ldc2 (pc := 33) C cl_X4_34 dX4_odds_33 ?_
      refine dz_lmul (pc := 36) C dX4_odds_36 ?_
      refine dz_lstore (pc := 37) C dX4_odds_37 (by decide) rfl ?_
      refine dz_iinc (pc := 39) (v := (x7 + (1 : Int32))) C dX4_odds_39 5 rfl rfl (by decide) rfl ?_
      refine dz_goto (pc := 42) (t := 8) C dX4_odds_42 (by decide) ?_
      refine dz_sub [3, 4, 5, 2, 1, 0] rfl ?_
      exact ih x1 x2 (x3 * (Int32.toInt64 ((10 : Int32) - q1))) (x5 * (10 : Int64)) (x7 + (1 : Int32)) T h
def fX4_odds  (x1 : Int32) (x2 : Int32) (T : dt_Ob) : Option (Int64) := (fX4_odds_8 dt_F x1 x2 (1 : Int64) (1 : Int64) (0 : Int32) T)
set_option maxRecDepth 10000 in
set_option maxHeartbeats 4000000 in
theorem m_X4_odds {nb : Nat} (l : Launch) {k : Nat} (hk : k < 18 + nb ∧ dt_c k = 4)  (M : dt_M) (T : dt_Ob)  (x1 : Int32) (x2 : Int32) {res : Int64} (h : fX4_odds x1 x2 T = some res) : dt_Met nb l yX4_odds cX4_odds 8 (some .long) 2 (fun G => [.ref (G.1 k 0), .int x1, .int x2]) (dt_put M k T) (some (.long res)) (dt_put M k T) := by
  refine dz_enter (lv := fun G => [(0, .ref (G.1 k 0)), (1, .int x1), (2, .int x2)]) (by decide) (fun _ => rfl) (fun _ => Nat.le_of_ble_eq_true rfl) (fun G A p e s m args below meth c C hr => ?_)
  unfold fX4_odds at h
  refine dz_lconst (pc := 0) (v := (1 : Int64)) C dX4_odds_0 (by decide) ?_
  refine dz_lstore_n (pc := 1) C dX4_odds_1 rfl (by decide) rfl ?_
  refine dz_lconst (pc := 2) (v := (1 : Int64)) C dX4_odds_2 (by decide) ?_
  refine dz_lstore (pc := 3) C dX4_odds_3 (by decide) rfl ?_
  refine dz_iconst (pc := 5) (v := (0 : Int32)) C dX4_odds_5 (by decide) ?_
  refine dz_istore (pc := 6) C dX4_odds_6 (by decide) rfl ?_
  refine dz_sub [3, 4, 5, 2, 1, 0] rfl ?_
  exact tX4_odds_8 C hr hk dt_F x1 x2 (1 : Int64) (1 : Int64) (0 : Int32) T h
