/-! ===== lifted: 11.day ===== -/
def fX1_dawn  (T : dt_Ob) : Option (dt_Ob) := (some (dt_set (dt_set (dt_set (dt_set T 1 0 (0 : Int32)) 2 0 (0 : Int32)) 3 0 (0 : Int32)) 4 0 (0 : Int32)))
set_option maxRecDepth 10000 in
set_option maxHeartbeats 4000000 in
theorem m_X1_dawn {nb : Nat} (l : Launch) {k : Nat} (hk : k < 18 + nb ∧ dt_c k = 1)  (M : dt_M) (T : dt_Ob)   {res : dt_Ob} (h : fX1_dawn T = some res) : dt_Met nb l yX1_dawn cX1_dawn 1 none 1 (fun G => [.ref (G.1 k 0)]) (dt_put M k T) none (dt_put M k res) := by
  refine dz_enter (lv := fun G => [(0, .ref (G.1 k 0))]) (by decide) (fun _ => rfl) (fun _ => Nat.le_of_ble_eq_true rfl) (fun G A p e s m args below meth c C hr => ?_)
  unfold fX1_dawn at h
  refine dz_aload_n (pc := 0) C dX1_dawn_0 rfl 0 rfl ?_
  refine dz_iconst (pc := 1) (v := (0 : Int32)) C dX1_dawn_1 (by decide) ?_
  refine dz_putI (pc := 2) (k := k) (j := 1) (M' := (dt_put M k (dt_set T 1 0 (0 : Int32)))) C Fc_X1 hk (by decide) rfl rfl rfl rfl fl_X1_13 (dt_wA _ _ _ _ _ _) dX1_dawn_2 ?_
  refine dz_aload_n (pc := 5) C dX1_dawn_5 rfl 0 rfl ?_
  refine dz_iconst (pc := 6) (v := (0 : Int32)) C dX1_dawn_6 (by decide) ?_
  refine dz_putI (pc := 7) (k := k) (j := 2) (M' := (dt_put M k (dt_set (dt_set T 1 0 (0 : Int32)) 2 0 (0 : Int32)))) C Fc_X1 hk (by decide) rfl rfl rfl rfl fl_X1_16 (dt_wA _ _ _ _ _ _) dX1_dawn_7 ?_
  refine dz_aload_n (pc := 10) C dX1_dawn_10 rfl 0 rfl ?_
  refine dz_iconst (pc := 11) (v := (0 : Int32)) C dX1_dawn_11 (by decide) ?_
  refine dz_putI (pc := 12) (k := k) (j := 3) (M' := (dt_put M k (dt_set (dt_set (dt_set T 1 0 (0 : Int32)) 2 0 (0 : Int32)) 3 0 (0 : Int32)))) C Fc_X1 hk (by decide) rfl rfl rfl rfl fl_X1_19 (dt_wA _ _ _ _ _ _) dX1_dawn_12 ?_
  refine dz_aload_n (pc := 15) C dX1_dawn_15 rfl 0 rfl ?_
  refine dz_iconst (pc := 16) (v := (0 : Int32)) C dX1_dawn_16 (by decide) ?_
  refine dz_putZ (pc := 17) (k := k) (j := 4) (M' := (dt_put M k (dt_set (dt_set (dt_set (dt_set T 1 0 (0 : Int32)) 2 0 (0 : Int32)) 3 0 (0 : Int32)) 4 0 (0 : Int32)))) C Fc_X1 hk (by decide) rfl rfl (by decide) rfl rfl fl_X1_22 (dt_wA _ _ _ _ _ _) dX1_dawn_17 ?_
  cases dt_some h
  exact dz_vret (pc := 20) C hr dX1_dawn_20

def fX1_begin  (T : dt_Ob) : Option (dt_Ob) := ((fX1_dawn (dt_set (dt_set T 0 0 (0 : Int32)) 5 0 (0 : Int32))).bind fun q1 => (some q1))
set_option maxRecDepth 10000 in
set_option maxHeartbeats 4000000 in
theorem m_X1_begin {nb : Nat} (l : Launch) {k : Nat} (hk : k < 18 + nb ∧ dt_c k = 1)  (M : dt_M) (T : dt_Ob)   {res : dt_Ob} (h : fX1_begin T = some res) : dt_Met nb l yX1_begin cX1_begin 1 none 2 (fun G => [.ref (G.1 k 0)]) (dt_put M k T) none (dt_put M k res) := by
  refine dz_enter (lv := fun G => [(0, .ref (G.1 k 0))]) (by decide) (fun _ => rfl) (fun _ => Nat.le_of_ble_eq_true rfl) (fun G A p e s m args below meth c C hr => ?_)
  unfold fX1_begin at h
  refine dz_aload_n (pc := 0) C dX1_begin_0 rfl 0 rfl ?_
  refine dz_iconst (pc := 1) (v := (0 : Int32)) C dX1_begin_1 (by decide) ?_
  refine dz_putI (pc := 2) (k := k) (j := 0) (M' := (dt_put M k (dt_set T 0 0 (0 : Int32)))) C Fc_X1 hk (by decide) rfl rfl rfl rfl fl_X1_7 (dt_wA _ _ _ _ _ _) dX1_begin_2 ?_
  refine dz_aload_n (pc := 5) C dX1_begin_5 rfl 0 rfl ?_
  refine dz_iconst (pc := 6) (v := (0 : Int32)) C dX1_begin_6 (by decide) ?_
  refine dz_putI (pc := 7) (k := k) (j := 5) (M' := (dt_put M k (dt_set (dt_set T 0 0 (0 : Int32)) 5 0 (0 : Int32)))) C Fc_X1 hk (by decide) rfl rfl rfl rfl fl_X1_26 (dt_wA _ _ _ _ _ _) dX1_begin_7 ?_
  refine dz_aload_n (pc := 10) C dX1_begin_10 rfl 0 rfl ?_
  obtain ⟨q1, eq1, h⟩ := dt_bind h
  refine dz_callVv (pc := 11) (st := []) (k := k) (As := []) (M' := (dt_put M k q1)) C Fc_X1 hk mf_X1_dawn rfl ml_X1_29 (m_X1_dawn l hk _ _ eq1) rfl rfl (by omega) (by decide) (Nat.le_of_ble_eq_true rfl) dX1_begin_11 ?_
  cases dt_some h
  exact dz_vret (pc := 14) C hr dX1_begin_14

def fX1_become (O : dt_Ob) (T : dt_Ob) : Option (dt_Ob) := (if (O 4 0) = 0 ∨ (O 4 0) = 1 then (some (dt_set (dt_set (dt_set (dt_set (dt_set (dt_set T 0 0 (O 0 0)) 1 0 (O 1 0)) 2 0 (O 2 0)) 3 0 (O 3 0)) 4 0 (O 4 0)) 5 0 (O 5 0))) else none)
set_option maxRecDepth 10000 in
set_option maxHeartbeats 4000000 in
theorem m_X1_become {nb : Nat} (l : Launch) {k : Nat} (hk : k < 18 + nb ∧ dt_c k = 1) {o : Nat} (ho : o < 18 + nb ∧ dt_c o = 1) (hne : o ≠ k)  (M : dt_M) (T : dt_Ob) (O : dt_Ob) (hO : M o = O)  {res : dt_Ob} (h : fX1_become O T = some res) : dt_Met nb l yX1_become cX1_become 2 none 1 (fun G => [.ref (G.1 k 0), .ref (G.1 o 0)]) (dt_put M k T) none (dt_put M k res) := by
  refine dz_enter (lv := fun G => [(0, .ref (G.1 k 0)), (1, .ref (G.1 o 0))]) (by decide) (fun _ => rfl) (fun _ => Nat.le_of_ble_eq_true rfl) (fun G A p e s m args below meth c C hr => ?_)
  unfold fX1_become at h
  refine dz_aload_n (pc := 0) C dX1_become_0 rfl 0 rfl ?_
  refine dz_aload_n (pc := 1) C dX1_become_1 rfl 1 rfl ?_
  refine dz_getI (pc := 2) (k := o) (j := 0) (v := (O 0 0)) C Fc_X1 ho (by decide) rfl rfl fl_X1_7 (dt_rO _ hne hO _ _) dX1_become_2 ?_
  refine dz_putI (pc := 5) (k := k) (j := 0) (M' := (dt_put M k (dt_set T 0 0 (O 0 0)))) C Fc_X1 hk (by decide) rfl rfl rfl rfl fl_X1_7 (dt_wA _ _ _ _ _ _) dX1_become_5 ?_
  refine dz_aload_n (pc := 8) C dX1_become_8 rfl 0 rfl ?_
  refine dz_aload_n (pc := 9) C dX1_become_9 rfl 1 rfl ?_
  refine dz_getI (pc := 10) (k := o) (j := 1) (v := (O 1 0)) C Fc_X1 ho (by decide) rfl rfl fl_X1_13 (dt_rO _ hne hO _ _) dX1_become_10 ?_
  refine dz_putI (pc := 13) (k := k) (j := 1) (M' := (dt_put M k (dt_set (dt_set T 0 0 (O 0 0)) 1 0 (O 1 0)))) C Fc_X1 hk (by decide) rfl rfl rfl rfl fl_X1_13 (dt_wA _ _ _ _ _ _) dX1_become_13 ?_
  refine dz_aload_n (pc := 16) C dX1_become_16 rfl 0 rfl ?_
  refine dz_aload_n (pc := 17) C dX1_become_17 rfl 1 rfl ?_
  refine dz_getI (pc := 18) (k := o) (j := 2) (v := (O 2 0)) C Fc_X1 ho (by decide) rfl rfl fl_X1_16 (dt_rO _ hne hO _ _) dX1_become_18 ?_
  refine dz_putI (pc := 21) (k := k) (j := 2) (M' := (dt_put M k (dt_set (dt_set (dt_set T 0 0 (O 0 0)) 1 0 (O 1 0)) 2 0 (O 2 0)))) C Fc_X1 hk (by decide) rfl rfl rfl rfl fl_X1_16 (dt_wA _ _ _ _ _ _) dX1_become_21 ?_
  refine dz_aload_n (pc := 24) C dX1_become_24 rfl 0 rfl ?_
  refine dz_aload_n (pc := 25) C dX1_become_25 rfl 1 rfl ?_
  refine dz_getI (pc := 26) (k := o) (j := 3) (v := (O 3 0)) C Fc_X1 ho (by decide) rfl rfl fl_X1_19 (dt_rO _ hne hO _ _) dX1_become_26 ?_
  refine dz_putI (pc := 29) (k := k) (j := 3) (M' := (dt_put M k (dt_set (dt_set (dt_set (dt_set T 0 0 (O 0 0)) 1 0 (O 1 0)) 2 0 (O 2 0)) 3 0 (O 3 0)))) C Fc_X1 hk (by decide) rfl rfl rfl rfl fl_X1_19 (dt_wA _ _ _ _ _ _) dX1_become_29 ?_
  refine dz_aload_n (pc := 32) C dX1_become_32 rfl 0 rfl ?_
  refine dz_aload_n (pc := 33) C dX1_become_33 rfl 1 rfl ?_
  refine dz_getI (pc := 34) (k := o) (j := 4) (v := (O 4 0)) C Fc_X1 ho (by decide) rfl rfl fl_X1_22 (dt_rO _ hne hO _ _) dX1_become_34 ?_
  obtain ⟨hz1, h⟩ := dt_ifn h
  refine dz_putZ (pc := 37) (k := k) (j := 4) (M' := (dt_put M k (dt_set (dt_set (dt_set (dt_set (dt_set T 0 0 (O 0 0)) 1 0 (O 1 0)) 2 0 (O 2 0)) 3 0 (O 3 0)) 4 0 (O 4 0)))) C Fc_X1 hk (by decide) rfl rfl hz1 rfl rfl fl_X1_22 (dt_wA _ _ _ _ _ _) dX1_become_37 ?_
  refine dz_aload_n (pc := 40) C dX1_become_40 rfl 0 rfl ?_
  refine dz_aload_n (pc := 41) C dX1_become_41 rfl 1 rfl ?_
  refine dz_getI (pc := 42) (k := o) (j := 5) (v := (O 5 0)) C Fc_X1 ho (by decide) rfl rfl fl_X1_26 (dt_rO _ hne hO _ _) dX1_become_42 ?_
  refine dz_putI (pc := 45) (k := k) (j := 5) (M' := (dt_put M k (dt_set (dt_set (dt_set (dt_set (dt_set (dt_set T 0 0 (O 0 0)) 1 0 (O 1 0)) 2 0 (O 2 0)) 3 0 (O 3 0)) 4 0 (O 4 0)) 5 0 (O 5 0)))) C Fc_X1 hk (by decide) rfl rfl rfl rfl fl_X1_26 (dt_wA _ _ _ _ _ _) dX1_become_45 ?_
  cases dt_some h
  exact dz_vret (pc := 48) C hr dX1_become_48

def fX1_carry  (x1 : Int32) (T : dt_Ob) : Option (dt_Ob) := (some (dt_set (dt_set T 1 0 ((T 1 0) + (1 : Int32))) 2 0 ((T 2 0) + x1)))
set_option maxRecDepth 10000 in
set_option maxHeartbeats 4000000 in
theorem m_X1_carry {nb : Nat} (l : Launch) {k : Nat} (hk : k < 18 + nb ∧ dt_c k = 1)  (M : dt_M) (T : dt_Ob)  (x1 : Int32) {res : dt_Ob} (h : fX1_carry x1 T = some res) : dt_Met nb l yX1_carry cX1_carry 2 none 1 (fun G => [.ref (G.1 k 0), .int x1]) (dt_put M k T) none (dt_put M k res) := by
  refine dz_enter (lv := fun G => [(0, .ref (G.1 k 0)), (1, .int x1)]) (by decide) (fun _ => rfl) (fun _ => Nat.le_of_ble_eq_true rfl) (fun G A p e s m args below meth c C hr => ?_)
  unfold fX1_carry at h
  refine dz_aload_n (pc := 0) C dX1_carry_0 rfl 0 rfl ?_
  refine dz_dup (pc := 1) C dX1_carry_1 rfl ?_
  refine dz_getI (pc := 2) (k := k) (j := 1) (v := (T 1 0)) C Fc_X1 hk (by decide) rfl rfl fl_X1_13 (dt_rA _ _ _ _ _) dX1_carry_2 ?_
  refine dz_iconst (pc := 5) (v := (1 : Int32)) C dX1_carry_5 (by decide) ?_
  refine dz_iadd (pc := 6) C dX1_carry_6 ?_
  refine dz_putI (pc := 7) (k := k) (j := 1) (M' := (dt_put M k (dt_set T 1 0 ((T 1 0) + (1 : Int32))))) C Fc_X1 hk (by decide) rfl rfl rfl rfl fl_X1_13 (dt_wA _ _ _ _ _ _) dX1_carry_7 ?_
  refine dz_aload_n (pc := 10) C dX1_carry_10 rfl 0 rfl ?_
  refine dz_dup (pc := 11) C dX1_carry_11 rfl ?_
  refine dz_getI (pc := 12) (k := k) (j := 2) (v := (T 2 0)) C Fc_X1 hk (by decide) rfl rfl fl_X1_16 (dt_rA _ _ _ _ _) dX1_carry_12 ?_
  refine dz_iload_n (pc := 15) C dX1_carry_15 rfl 1 rfl ?_
  refine dz_iadd (pc := 16) C dX1_carry_16 ?_
  refine dz_putI (pc := 17) (k := k) (j := 2) (M' := (dt_put M k (dt_set (dt_set T 1 0 ((T 1 0) + (1 : Int32))) 2 0 ((T 2 0) + x1)))) C Fc_X1 hk (by decide) rfl rfl rfl rfl fl_X1_16 (dt_wA _ _ _ _ _ _) dX1_carry_17 ?_
  cases dt_some h
  exact dz_vret (pc := 20) C hr dX1_carry_20

def fX1_uncarry  (x1 : Int32) (T : dt_Ob) : Option (dt_Ob) := (some (dt_set (dt_set T 1 0 ((T 1 0) - (1 : Int32))) 2 0 ((T 2 0) - x1)))
set_option maxRecDepth 10000 in
set_option maxHeartbeats 4000000 in
theorem m_X1_uncarry {nb : Nat} (l : Launch) {k : Nat} (hk : k < 18 + nb ∧ dt_c k = 1)  (M : dt_M) (T : dt_Ob)  (x1 : Int32) {res : dt_Ob} (h : fX1_uncarry x1 T = some res) : dt_Met nb l yX1_uncarry cX1_uncarry 2 none 1 (fun G => [.ref (G.1 k 0), .int x1]) (dt_put M k T) none (dt_put M k res) := by
  refine dz_enter (lv := fun G => [(0, .ref (G.1 k 0)), (1, .int x1)]) (by decide) (fun _ => rfl) (fun _ => Nat.le_of_ble_eq_true rfl) (fun G A p e s m args below meth c C hr => ?_)
  unfold fX1_uncarry at h
  refine dz_aload_n (pc := 0) C dX1_uncarry_0 rfl 0 rfl ?_
  refine dz_dup (pc := 1) C dX1_uncarry_1 rfl ?_
  refine dz_getI (pc := 2) (k := k) (j := 1) (v := (T 1 0)) C Fc_X1 hk (by decide) rfl rfl fl_X1_13 (dt_rA _ _ _ _ _) dX1_uncarry_2 ?_
  refine dz_iconst (pc := 5) (v := (1 : Int32)) C dX1_uncarry_5 (by decide) ?_
  refine dz_isub (pc := 6) C dX1_uncarry_6 ?_
  refine dz_putI (pc := 7) (k := k) (j := 1) (M' := (dt_put M k (dt_set T 1 0 ((T 1 0) - (1 : Int32))))) C Fc_X1 hk (by decide) rfl rfl rfl rfl fl_X1_13 (dt_wA _ _ _ _ _ _) dX1_uncarry_7 ?_
  refine dz_aload_n (pc := 10) C dX1_uncarry_10 rfl 0 rfl ?_
  refine dz_dup (pc := 11) C dX1_uncarry_11 rfl ?_
  refine dz_getI (pc := 12) (k := k) (j := 2) (v := (T 2 0)) C Fc_X1 hk (by decide) rfl rfl fl_X1_16 (dt_rA _ _ _ _ _) dX1_uncarry_12 ?_
  refine dz_iload_n (pc := 15) C dX1_uncarry_15 rfl 1 rfl ?_
  refine dz_isub (pc := 16) C dX1_uncarry_16 ?_
  refine dz_putI (pc := 17) (k := k) (j := 2) (M' := (dt_put M k (dt_set (dt_set T 1 0 ((T 1 0) - (1 : Int32))) 2 0 ((T 2 0) - x1)))) C Fc_X1 hk (by decide) rfl rfl rfl rfl fl_X1_16 (dt_wA _ _ _ _ _ _) dX1_uncarry_17 ?_
  cases dt_some h
  exact dz_vret (pc := 20) C hr dX1_uncarry_20

def fX1_pass  (T : dt_Ob) : Option (dt_Ob) := ((fX1_dawn (dt_set T 0 0 ((T 0 0) + (1 : Int32)))).bind fun q1 => (some q1))
set_option maxRecDepth 10000 in
set_option maxHeartbeats 4000000 in
theorem m_X1_pass {nb : Nat} (l : Launch) {k : Nat} (hk : k < 18 + nb ∧ dt_c k = 1)  (M : dt_M) (T : dt_Ob)   {res : dt_Ob} (h : fX1_pass T = some res) : dt_Met nb l yX1_pass cX1_pass 1 none 2 (fun G => [.ref (G.1 k 0)]) (dt_put M k T) none (dt_put M k res) := by
  refine dz_enter (lv := fun G => [(0, .ref (G.1 k 0))]) (by decide) (fun _ => rfl) (fun _ => Nat.le_of_ble_eq_true rfl) (fun G A p e s m args below meth c C hr => ?_)
  unfold fX1_pass at h
  refine dz_aload_n (pc := 0) C dX1_pass_0 rfl 0 rfl ?_
  refine dz_dup (pc := 1) C dX1_pass_1 rfl ?_
  refine dz_getI (pc := 2) (k := k) (j := 0) (v := (T 0 0)) C Fc_X1 hk (by decide) rfl rfl fl_X1_7 (dt_rA _ _ _ _ _) dX1_pass_2 ?_
  refine dz_iconst (pc := 5) (v := (1 : Int32)) C dX1_pass_5 (by decide) ?_
  refine dz_iadd (pc := 6) C dX1_pass_6 ?_
  refine dz_putI (pc := 7) (k := k) (j := 0) (M' := (dt_put M k (dt_set T 0 0 ((T 0 0) + (1 : Int32))))) C Fc_X1 hk (by decide) rfl rfl rfl rfl fl_X1_7 (dt_wA _ _ _ _ _ _) dX1_pass_7 ?_
  refine dz_aload_n (pc := 10) C dX1_pass_10 rfl 0 rfl ?_
  obtain ⟨q1, eq1, h⟩ := dt_bind h
  refine dz_callVv (pc := 11) (st := []) (k := k) (As := []) (M' := (dt_put M k q1)) C Fc_X1 hk mf_X1_dawn rfl ml_X1_29 (m_X1_dawn l hk _ _ eq1) rfl rfl (by omega) (by decide) (Nat.le_of_ble_eq_true rfl) dX1_pass_11 ?_
  cases dt_some h
  exact dz_vret (pc := 14) C hr dX1_pass_14
