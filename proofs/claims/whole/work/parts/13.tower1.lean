/-! ===== lifted: 13.tower1 ===== -/
def fX5_clearCells  (T : dt_Ob) : Option (dt_Ob) := (some (dt_setA (dt_setA T 10 (dt_fill (T 10) 160 (-1 : Int32))) 9 (dt_fill (T 9) 8 (0 : Int32))))
set_option maxRecDepth 10000 in
set_option maxHeartbeats 4000000 in
theorem m_X5_clearCells {nb : Nat} (l : Launch) {k : Nat} (hk : k < 18 + nb ∧ dt_c k = 5)  (M : dt_M) (T : dt_Ob)   {res : dt_Ob} (h : fX5_clearCells T = some res) : dt_Met nb l yX5_clearCells cX5_clearCells 1 none 2 (fun G => [.ref (G.1 k 0)]) (dt_put M k T) none (dt_put M k res) := by
  refine dz_enter (lv := fun G => [(0, .ref (G.1 k 0))]) (by decide) (fun _ => rfl) (fun _ => Nat.le_of_ble_eq_true rfl) (fun G A p e s m args below meth c C hr => ?_)
  unfold fX5_clearCells at h
  refine dz_aload_n (pc := 0) C dX5_clearCells_0 rfl 0 rfl ?_
  refine dz_getR (pc := 1) (k := k) (j := 10) C Fc_X5 hk (by decide) (by decide) rfl fl_X5_43 dX5_clearCells_1 ?_
  refine dz_iconst (pc := 4) (v := (-1 : Int32)) C dX5_clearCells_4 (by decide) ?_
  refine dz_callSv (pc := 5) (st := []) (As := [.ref (G.1 k (10 + 1)), .int (-1 : Int32)]) (M' := (dt_put M k (dt_setA T 10 (dt_fill (T 10) 160 (-1 : Int32))))) C ms_J7_fill_53178 ml_X5_133 (by have z := m_fill l (k := k) (j := 10) (n := 160) hk (by decide) rfl (by decide) (dt_put M k T) (-1 : Int32); rw [dt_rAf, dt_put_s, dt_put_put] at z; exact z) rfl rfl (by omega) (by decide) (Nat.le_of_ble_eq_true rfl) dX5_clearCells_5 ?_
  refine dz_aload_n (pc := 8) C dX5_clearCells_8 rfl 0 rfl ?_
  refine dz_getR (pc := 9) (k := k) (j := 9) C Fc_X5 hk (by decide) (by decide) rfl fl_X5_40 dX5_clearCells_9 ?_
  refine dz_iconst (pc := 12) (v := (0 : Int32)) C dX5_clearCells_12 (by decide) ?_
  refine dz_callSv (pc := 13) (st := []) (As := [.ref (G.1 k (9 + 1)), .int (0 : Int32)]) (M' := (dt_put M k (dt_setA (dt_setA T 10 (dt_fill (T 10) 160 (-1 : Int32))) 9 (dt_fill (T 9) 8 (0 : Int32))))) C ms_J7_fill_53178 ml_X5_133 (by have z := m_fill l (k := k) (j := 9) (n := 8) hk (by decide) rfl (by decide) (dt_put M k (dt_setA T 10 (dt_fill (T 10) 160 (-1 : Int32)))) (0 : Int32); rw [dt_rAf, dt_put_s, dt_put_put] at z; exact z) rfl rfl (by omega) (by decide) (Nat.le_of_ble_eq_true rfl) dX5_clearCells_13 ?_
  cases dt_some h
  exact dz_vret (pc := 16) C hr dX5_clearCells_16

def fX5_begin  (x1 : Int32) (T : dt_Ob) : Option (dt_Ob) := ((fX5_clearCells (dt_set (dt_set T 0 0 x1) 1 0 (0 : Int32))).bind fun q1 => (some q1))
set_option maxRecDepth 10000 in
set_option maxHeartbeats 4000000 in
theorem m_X5_begin {nb : Nat} (l : Launch) {k : Nat} (hk : k < 18 + nb ∧ dt_c k = 5)  (M : dt_M) (T : dt_Ob)  (x1 : Int32) {res : dt_Ob} (h : fX5_begin x1 T = some res) : dt_Met nb l yX5_begin cX5_begin 2 none 3 (fun G => [.ref (G.1 k 0), .int x1]) (dt_put M k T) none (dt_put M k res) := by
  refine dz_enter (lv := fun G => [(0, .ref (G.1 k 0)), (1, .int x1)]) (by decide) (fun _ => rfl) (fun _ => Nat.le_of_ble_eq_true rfl) (fun G A p e s m args below meth c C hr => ?_)
  unfold fX5_begin at h
  refine dz_aload_n (pc := 0) C dX5_begin_0 rfl 0 rfl ?_
  refine dz_iload_n (pc := 1) C dX5_begin_1 rfl 1 rfl ?_
  refine dz_putI (pc := 2) (k := k) (j := 0) (M' := (dt_put M k (dt_set T 0 0 x1))) C Fc_X5 hk (by decide) rfl rfl rfl rfl fl_X5_9 (dt_wA _ _ _ _ _ _) dX5_begin_2 ?_
  refine dz_aload_n (pc := 5) C dX5_begin_5 rfl 0 rfl ?_
  refine dz_iconst (pc := 6) (v := (0 : Int32)) C dX5_begin_6 (by decide) ?_
  refine dz_putI (pc := 7) (k := k) (j := 1) (M' := (dt_put M k (dt_set (dt_set T 0 0 x1) 1 0 (0 : Int32)))) C Fc_X5 hk (by decide) rfl rfl rfl rfl fl_X5_15 (dt_wA _ _ _ _ _ _) dX5_begin_7 ?_
  refine dz_aload_n (pc := 10) C dX5_begin_10 rfl 0 rfl ?_
  obtain ⟨q1, eq1, h⟩ := dt_bind h
  refine dz_callVv (pc := 11) (st := []) (k := k) (As := []) (M' := (dt_put M k q1)) C Fc_X5 hk mf_X5_clearCells rfl ml_X5_52 (m_X5_clearCells l hk _ _ eq1) rfl rfl (by omega) (by decide) (Nat.le_of_ble_eq_true rfl) dX5_begin_11 ?_
  cases dt_some h
  exact dz_vret (pc := 14) C hr dX5_begin_14

def fX5_become (O : dt_Ob) (T : dt_Ob) : Option (dt_Ob) := (some (dt_setA (dt_setA (dt_setA (dt_setA (dt_setA (dt_setA (dt_setA (dt_setA (dt_setA (dt_set (dt_set T 0 0 (O 0 0)) 1 0 (O 1 0)) 2 (va_cpy (O 2) (T 2) (Int32.toNatClampNeg (0 : Int32)) (Int32.toNatClampNeg (0 : Int32)) (Int32.toNatClampNeg (20 : Int32)))) 3 (va_cpy (O 3) (T 3) (Int32.toNatClampNeg (0 : Int32)) (Int32.toNatClampNeg (0 : Int32)) (Int32.toNatClampNeg (20 : Int32)))) 4 (va_cpy (O 4) (T 4) (Int32.toNatClampNeg (0 : Int32)) (Int32.toNatClampNeg (0 : Int32)) (Int32.toNatClampNeg (20 : Int32)))) 5 (va_cpy (O 5) (T 5) (Int32.toNatClampNeg (0 : Int32)) (Int32.toNatClampNeg (0 : Int32)) (Int32.toNatClampNeg (20 : Int32)))) 6 (va_cpy (O 6) (T 6) (Int32.toNatClampNeg (0 : Int32)) (Int32.toNatClampNeg (0 : Int32)) (Int32.toNatClampNeg (20 : Int32)))) 7 (va_cpy (O 7) (T 7) (Int32.toNatClampNeg (0 : Int32)) (Int32.toNatClampNeg (0 : Int32)) (Int32.toNatClampNeg (20 : Int32)))) 8 (va_cpy (O 8) (T 8) (Int32.toNatClampNeg (0 : Int32)) (Int32.toNatClampNeg (0 : Int32)) (Int32.toNatClampNeg (20 : Int32)))) 9 (va_cpy (O 9) (T 9) (Int32.toNatClampNeg (0 : Int32)) (Int32.toNatClampNeg (0 : Int32)) (Int32.toNatClampNeg (8 : Int32)))) 10 (va_cpy (O 10) (T 10) (Int32.toNatClampNeg (0 : Int32)) (Int32.toNatClampNeg (0 : Int32)) (Int32.toNatClampNeg (160 : Int32)))))
set_option maxRecDepth 10000 in
set_option maxHeartbeats 4000000 in
theorem m_X5_become {nb : Nat} (l : Launch) {k : Nat} (hk : k < 18 + nb ∧ dt_c k = 5) {o : Nat} (ho : o < 18 + nb ∧ dt_c o = 5) (hne : o ≠ k)  (M : dt_M) (T : dt_Ob) (O : dt_Ob) (hO : M o = O)  {res : dt_Ob} (h : fX5_become O T = some res) : dt_Met nb l yX5_become cX5_become 2 none 2 (fun G => [.ref (G.1 k 0), .ref (G.1 o 0)]) (dt_put M k T) none (dt_put M k res) := by
  refine dz_enter (lv := fun G => [(0, .ref (G.1 k 0)), (1, .ref (G.1 o 0))]) (by decide) (fun _ => rfl) (fun _ => Nat.le_of_ble_eq_true rfl) (fun G A p e s m args below meth c C hr => ?_)
  unfold fX5_become at h
  refine dz_aload_n (pc := 0) C dX5_become_0 rfl 0 rfl ?_
  refine dz_aload_n (pc := 1) C dX5_become_1 rfl 1 rfl ?_
  refine dz_getI (pc := 2) (k := o) (j := 0) (v := (O 0 0)) C Fc_X5 ho (by decide) rfl rfl fl_X5_9 (dt_rO _ hne hO _ _) dX5_become_2 ?_
  refine dz_putI (pc := 5) (k := k) (j := 0) (M' := (dt_put M k (dt_set T 0 0 (O 0 0)))) C Fc_X5 hk (by decide) rfl rfl rfl rfl fl_X5_9 (dt_wA _ _ _ _ _ _) dX5_become_5 ?_
  refine dz_aload_n (pc := 8) C dX5_become_8 rfl 0 rfl ?_
  refine dz_aload_n (pc := 9) C dX5_become_9 rfl 1 rfl ?_
  refine dz_getI (pc := 10) (k := o) (j := 1) (v := (O 1 0)) C Fc_X5 ho (by decide) rfl rfl fl_X5_15 (dt_rO _ hne hO _ _) dX5_become_10 ?_
  refine dz_putI (pc := 13) (k := k) (j := 1) (M' := (dt_put M k (dt_set (dt_set T 0 0 (O 0 0)) 1 0 (O 1 0)))) C Fc_X5 hk (by decide) rfl rfl rfl rfl fl_X5_15 (dt_wA _ _ _ _ _ _) dX5_become_13 ?_
  refine dz_aload_n (pc := 16) C dX5_become_16 rfl 1 rfl ?_
  refine dz_getR (pc := 17) (k := o) (j := 2) C Fc_X5 ho (by decide) (by decide) rfl fl_X5_18 dX5_become_17 ?_
  refine dz_iconst (pc := 20) (v := (0 : Int32)) C dX5_become_20 (by decide) ?_
  refine dz_aload_n (pc := 21) C dX5_become_21 rfl 0 rfl ?_
  refine dz_getR (pc := 22) (k := k) (j := 2) C Fc_X5 hk (by decide) (by decide) rfl fl_X5_18 dX5_become_22 ?_
  refine dz_iconst (pc := 25) (v := (0 : Int32)) C dX5_become_25 (by decide) ?_
  refine dz_bipush (pc := 26) (v := (20 : Int32)) C dX5_become_26 (by decide) ?_
  refine dz_copy (pc := 28) (k0 := o) (j0 := 2) (n0 := 20) (k1 := k) (j1 := 2) (n1 := 20) (f := (O 2)) (g := (T 2)) (M' := (dt_put M k (dt_setA (dt_set (dt_set T 0 0 (O 0 0)) 1 0 (O 1 0)) 2 (va_cpy (O 2) (T 2) (Int32.toNatClampNeg (0 : Int32)) (Int32.toNatClampNeg (0 : Int32)) (Int32.toNatClampNeg (20 : Int32)))))) C ml_X5_55 ho (by decide) rfl (dt_rOf _ hne hO _) hk (by decide) rfl (dt_rAf _ _ _ _) (by decide) (by omega) (Nat.le_of_ble_eq_true rfl) (dt_wAA _ _ _ _ _) dX5_become_28 ?_
  refine dz_aload_n (pc := 31) C dX5_become_31 rfl 1 rfl ?_
  refine dz_getR (pc := 32) (k := o) (j := 3) C Fc_X5 ho (by decide) (by decide) rfl fl_X5_22 dX5_become_32 ?_
  refine dz_iconst (pc := 35) (v := (0 : Int32)) C dX5_become_35 (by decide) ?_
  refine dz_aload_n (pc := 36) C dX5_become_36 rfl 0 rfl ?_
  refine dz_getR (pc := 37) (k := k) (j := 3) C Fc_X5 hk (by decide) (by decide) rfl fl_X5_22 dX5_become_37 ?_
  refine dz_iconst (pc := 40) (v := (0 : Int32)) C dX5_become_40 (by decide) ?_
  refine dz_bipush (pc := 41) (v := (20 : Int32)) C dX5_become_41 (by decide) ?_
  refine dz_copy (pc := 43) (k0 := o) (j0 := 3) (n0 := 20) (k1 := k) (j1 := 3) (n1 := 20) (f := (O 3)) (g := (T 3)) (M' := (dt_put M k (dt_setA (dt_setA (dt_set (dt_set T 0 0 (O 0 0)) 1 0 (O 1 0)) 2 (va_cpy (O 2) (T 2) (Int32.toNatClampNeg (0 : Int32)) (Int32.toNatClampNeg (0 : Int32)) (Int32.toNatClampNeg (20 : Int32)))) 3 (va_cpy (O 3) (T 3) (Int32.toNatClampNeg (0 : Int32)) (Int32.toNatClampNeg (0 : Int32)) (Int32.toNatClampNeg (20 : Int32)))))) C ml_X5_55 ho (by decide) rfl (dt_rOf _ hne hO _) hk (by decide) rfl (dt_rAf _ _ _ _) (by decide) (by omega) (Nat.le_of_ble_eq_true rfl) (dt_wAA _ _ _ _ _) dX5_become_43 ?_
  refine dz_aload_n (pc := 46) C dX5_become_46 rfl 1 rfl ?_
  refine dz_getR (pc := 47) (k := o) (j := 4) C Fc_X5 ho (by decide) (by decide) rfl fl_X5_25 dX5_become_47 ?_
  refine dz_iconst (pc := 50) (v := (0 : Int32)) C dX5_become_50 (by decide) ?_
  refine dz_aload_n (pc := 51) C dX5_become_51 rfl 0 rfl ?_
  refine dz_getR (pc := 52) (k := k) (j := 4) C Fc_X5 hk (by decide) (by decide) rfl fl_X5_25 dX5_become_52 ?_
  refine dz_iconst (pc := 55) (v := (0 : Int32)) C dX5_become_55 (by decide) ?_
  refine dz_bipush (pc := 56) (v := (20 : Int32)) C dX5_become_56 (by decide) ?_
  refine dz_copy (pc := 58) (k0 := o) (j0 := 4) (n0 := 20) (k1 := k) (j1 := 4) (n1 := 20) (f := (O 4)) (g := (T 4)) (M' := (dt_put M k (dt_setA (dt_setA (dt_setA (dt_set (dt_set T 0 0 (O 0 0)) 1 0 (O 1 0)) 2 (va_cpy (O 2) (T 2) (Int32.toNatClampNeg (0 : Int32)) (Int32.toNatClampNeg (0 : Int32)) (Int32.toNatClampNeg (20 : Int32)))) 3 (va_cpy (O 3) (T 3) (Int32.toNatClampNeg (0 : Int32)) (Int32.toNatClampNeg (0 : Int32)) (Int32.toNatClampNeg (20 : Int32)))) 4 (va_cpy (O 4) (T 4) (Int32.toNatClampNeg (0 : Int32)) (Int32.toNatClampNeg (0 : Int32)) (Int32.toNatClampNeg (20 : Int32)))))) C ml_X5_55 ho (by decide) rfl (dt_rOf _ hne hO _) hk (by decide) rfl (dt_rAf _ _ _ _) (by decide) (by omega) (Nat.le_of_ble_eq_true rfl) (dt_wAA _ _ _ _ _) dX5_become_58 ?_
  refine dz_aload_n (pc := 61) C dX5_become_61 rfl 1 rfl ?_
  refine dz_getR (pc := 62) (k := o) (j := 5) C Fc_X5 ho (by decide) (by decide) rfl fl_X5_28 dX5_become_62 ?_
  refine dz_iconst (pc := 65) (v := (0 : Int32)) C dX5_become_65 (by decide) ?_
  refine dz_aload_n (pc := 66) C dX5_become_66 rfl 0 rfl ?_
  refine dz_getR (pc := 67) (k := k) (j := 5) C Fc_X5 hk (by decide) (by decide) rfl fl_X5_28 dX5_become_67 ?_
  refine dz_iconst (pc := 70) (v := (0 : Int32)) C dX5_become_70 (by decide) ?_
  refine dz_bipush (pc := 71) (v := (20 : Int32)) C dX5_become_71 (by decide) ?_
  refine dz_copy (pc := 73) (k0 := o) (j0 := 5) (n0 := 20) (k1 := k) (j1 := 5) (n1 := 20) (f := (O 5)) (g := (T 5)) (M' := (dt_put M k (dt_setA (dt_setA (dt_setA (dt_setA (dt_set (dt_set T 0 0 (O 0 0)) 1 0 (O 1 0)) 2 (va_cpy (O 2) (T 2) (Int32.toNatClampNeg (0 : Int32)) (Int32.toNatClampNeg (0 : Int32)) (Int32.toNatClampNeg (20 : Int32)))) 3 (va_cpy (O 3) (T 3) (Int32.toNatClampNeg (0 : Int32)) (Int32.toNatClampNeg (0 : Int32)) (Int32.toNatClampNeg (20 : Int32)))) 4 (va_cpy (O 4) (T 4) (Int32.toNatClampNeg (0 : Int32)) (Int32.toNatClampNeg (0 : Int32)) (Int32.toNatClampNeg (20 : Int32)))) 5 (va_cpy (O 5) (T 5) (Int32.toNatClampNeg (0 : Int32)) (Int32.toNatClampNeg (0 : Int32)) (Int32.toNatClampNeg (20 : Int32)))))) C ml_X5_55 ho (by decide) rfl (dt_rOf _ hne hO _) hk (by decide) rfl (dt_rAf _ _ _ _) (by decide) (by omega) (Nat.le_of_ble_eq_true rfl) (dt_wAA _ _ _ _ _) dX5_become_73 ?_
  refine dz_aload_n (pc := 76) C dX5_become_76 rfl 1 rfl ?_
  refine dz_getR (pc := 77) (k := o) (j := 6) C Fc_X5 ho (by decide) (by decide) rfl fl_X5_31 dX5_become_77 ?_
  refine dz_iconst (pc := 80) (v := (0 : Int32)) C dX5_become_80 (by decide) ?_
  refine dz_aload_n (pc := 81) C dX5_become_81 rfl 0 rfl ?_
  refine dz_getR (pc := 82) (k := k) (j := 6) C Fc_X5 hk (by decide) (by decide) rfl fl_X5_31 dX5_become_82 ?_
  refine dz_iconst (pc := 85) (v := (0 : Int32)) C dX5_become_85 (by decide) ?_
  refine dz_bipush (pc := 86) (v := (20 : Int32)) C dX5_become_86 (by decide) ?_
  refine dz_copy (pc := 88) (k0 := o) (j0 := 6) (n0 := 20) (k1 := k) (j1 := 6) (n1 := 20) (f := (O 6)) (g := (T 6)) (M' := (dt_put M k (dt_setA (dt_setA (dt_setA (dt_setA (dt_setA (dt_set (dt_set T 0 0 (O 0 0)) 1 0 (O 1 0)) 2 (va_cpy (O 2) (T 2) (Int32.toNatClampNeg (0 : Int32)) (Int32.toNatClampNeg (0 : Int32)) (Int32.toNatClampNeg (20 : Int32)))) 3 (va_cpy (O 3) (T 3) (Int32.toNatClampNeg (0 : Int32)) (Int32.toNatClampNeg (0 : Int32)) (Int32.toNatClampNeg (20 : Int32)))) 4 (va_cpy (O 4) (T 4) (Int32.toNatClampNeg (0 : Int32)) (Int32.toNatClampNeg (0 : Int32)) (Int32.toNatClampNeg (20 : Int32)))) 5 (va_cpy (O 5) (T 5) (Int32.toNatClampNeg (0 : Int32)) (Int32.toNatClampNeg (0 : Int32)) (Int32.toNatClampNeg (20 : Int32)))) 6 (va_cpy (O 6) (T 6) (Int32.toNatClampNeg (0 : Int32)) (Int32.toNatClampNeg (0 : Int32)) (Int32.toNatClampNeg (20 : Int32)))))) C ml_X5_55 ho (by decide) rfl (dt_rOf _ hne hO _) hk (by decide) rfl (dt_rAf _ _ _ _) (by decide) (by omega) (Nat.le_of_ble_eq_true rfl) (dt_wAA _ _ _ _ _) dX5_become_88 ?_
  refine dz_aload_n (pc := 91) C dX5_become_91 rfl 1 rfl ?_
  refine dz_getR (pc := 92) (k := o) (j := 7) C Fc_X5 ho (by decide) (by decide) rfl fl_X5_34 dX5_become_92 ?_
  refine dz_iconst (pc := 95) (v := (0 : Int32)) C dX5_become_95 (by decide) ?_
  refine dz_aload_n (pc := 96) C dX5_become_96 rfl 0 rfl ?_
  refine dz_getR (pc := 97) (k := k) (j := 7) C Fc_X5 hk (by decide) (by decide) rfl fl_X5_34 dX5_become_97 ?_
  refine dz_iconst (pc := 100) (v := (0 : Int32)) C dX5_become_100 (by decide) ?_
  refine dz_bipush (pc := 101) (v := (20 : Int32)) C dX5_become_101 (by decide) ?_
  refine dz_copy (pc := 103) (k0 := o) (j0 := 7) (n0 := 20) (k1 := k) (j1 := 7) (n1 := 20) (f := (O 7)) (g := (T 7)) (M' := (dt_put M k (dt_setA (dt_setA (dt_setA (dt_setA (dt_setA (dt_setA (dt_set (dt_set T 0 0 (O 0 0)) 1 0 (O 1 0)) 2 (va_cpy (O 2) (T 2) (Int32.toNatClampNeg (0 : Int32)) (Int32.toNatClampNeg (0 : Int32)) (Int32.toNatClampNeg (20 : Int32)))) 3 (va_cpy (O 3) (T 3) (Int32.toNatClampNeg (0 : Int32)) (Int32.toNatClampNeg (0 : Int32)) (Int32.toNatClampNeg (20 : Int32)))) 4 (va_cpy (O 4) (T 4) (Int32.toNatClampNeg (0 : Int32)) (Int32.toNatClampNeg (0 : Int32)) (Int32.toNatClampNeg (20 : Int32)))) 5 (va_cpy (O 5) (T 5) (Int32.toNatClampNeg (0 : Int32)) (Int32.toNatClampNeg (0 : Int32)) (Int32.toNatClampNeg (20 : Int32)))) 6 (va_cpy (O 6) (T 6) (Int32.toNatClampNeg (0 : Int32)) (Int32.toNatClampNeg (0 : Int32)) (Int32.toNatClampNeg (20 : Int32)))) 7 (va_cpy (O 7) (T 7) (Int32.toNatClampNeg (0 : Int32)) (Int32.toNatClampNeg (0 : Int32)) (Int32.toNatClampNeg (20 : Int32)))))) C ml_X5_55 ho (by decide) rfl (dt_rOf _ hne hO _) hk (by decide) rfl (dt_rAf _ _ _ _) (by decide) (by omega) (Nat.le_of_ble_eq_true rfl) (dt_wAA _ _ _ _ _) dX5_become_103 ?_
  refine dz_aload_n (pc := 106) C dX5_become_106 rfl 1 rfl ?_
  refine dz_getR (pc := 107) (k := o) (j := 8) C Fc_X5 ho (by decide) (by decide) rfl fl_X5_37 dX5_become_107 ?_
  refine dz_iconst (pc := 110) (v := (0 : Int32)) C dX5_become_110 (by decide) ?_
  refine dz_aload_n (pc := 111) C dX5_become_111 rfl 0 rfl ?_
  refine dz_getR (pc := 112) (k := k) (j := 8) C Fc_X5 hk (by decide) (by decide) rfl fl_X5_37 dX5_become_112 ?_
  refine dz_iconst (pc := 115) (v := (0 : Int32)) C dX5_become_115 (by decide) ?_
  refine dz_bipush (pc := 116) (v := (20 : Int32)) C dX5_become_116 (by decide) ?_
  refine dz_copy (pc := 118) (k0 := o) (j0 := 8) (n0 := 20) (k1 := k) (j1 := 8) (n1 := 20) (f := (O 8)) (g := (T 8)) (M' := (dt_put M k (dt_setA (dt_setA (dt_setA (dt_setA (dt_setA (dt_setA (dt_setA (dt_set (dt_set T 0 0 (O 0 0)) 1 0 (O 1 0)) 2 (va_cpy (O 2) (T 2) (Int32.toNatClampNeg (0 : Int32)) (Int32.toNatClampNeg (0 : Int32)) (Int32.toNatClampNeg (20 : Int32)))) 3 (va_cpy (O 3) (T 3) (Int32.toNatClampNeg (0 : Int32)) (Int32.toNatClampNeg (0 : Int32)) (Int32.toNatClampNeg (20 : Int32)))) 4 (va_cpy (O 4) (T 4) (Int32.toNatClampNeg (0 : Int32)) (Int32.toNatClampNeg (0 : Int32)) (Int32.toNatClampNeg (20 : Int32)))) 5 (va_cpy (O 5) (T 5) (Int32.toNatClampNeg (0 : Int32)) (Int32.toNatClampNeg (0 : Int32)) (Int32.toNatClampNeg (20 : Int32)))) 6 (va_cpy (O 6) (T 6) (Int32.toNatClampNeg (0 : Int32)) (Int32.toNatClampNeg (0 : Int32)) (Int32.toNatClampNeg (20 : Int32)))) 7 (va_cpy (O 7) (T 7) (Int32.toNatClampNeg (0 : Int32)) (Int32.toNatClampNeg (0 : Int32)) (Int32.toNatClampNeg (20 : Int32)))) 8 (va_cpy (O 8) (T 8) (Int32.toNatClampNeg (0 : Int32)) (Int32.toNatClampNeg (0 : Int32)) (Int32.toNatClampNeg (20 : Int32)))))) C ml_X5_55 ho (by decide) rfl (dt_rOf _ hne hO _) hk (by decide) rfl (dt_rAf _ _ _ _) (by decide) (by omega) (Nat.le_of_ble_eq_true rfl) (dt_wAA _ _ _ _ _) dX5_become_118 ?_
  refine dz_aload_n (pc := 121) C dX5_become_121 rfl 1 rfl ?_
  refine dz_getR (pc := 122) (k := o) (j := 9) C Fc_X5 ho (by decide) (by decide) rfl fl_X5_40 dX5_become_122 ?_
  refine dz_iconst (pc := 125) (v := (0 : Int32)) C dX5_become_125 (by decide) ?_
  refine dz_aload_n (pc := 126) C dX5_become_126 rfl 0 rfl ?_
  refine dz_getR (pc := 127) (k := k) (j := 9) C Fc_X5 hk (by decide) (by decide) rfl fl_X5_40 dX5_become_127 ?_
  refine dz_iconst (pc := 130) (v := (0 : Int32)) C dX5_become_130 (by decide) ?_
  refine dz_bipush (pc := 131) (v := (8 : Int32)) C dX5_become_131 (by decide) ?_
  refine dz_copy (pc := 133) (k0 := o) (j0 := 9) (n0 := 8) (k1 := k) (j1 := 9) (n1 := 8) (f := (O 9)) (g := (T 9)) (M' := (dt_put M k (dt_setA (dt_setA (dt_setA (dt_setA (dt_setA (dt_setA (dt_setA (dt_setA (dt_set (dt_set T 0 0 (O 0 0)) 1 0 (O 1 0)) 2 (va_cpy (O 2) (T 2) (Int32.toNatClampNeg (0 : Int32)) (Int32.toNatClampNeg (0 : Int32)) (Int32.toNatClampNeg (20 : Int32)))) 3 (va_cpy (O 3) (T 3) (Int32.toNatClampNeg (0 : Int32)) (Int32.toNatClampNeg (0 : Int32)) (Int32.toNatClampNeg (20 : Int32)))) 4 (va_cpy (O 4) (T 4) (Int32.toNatClampNeg (0 : Int32)) (Int32.toNatClampNeg (0 : Int32)) (Int32.toNatClampNeg (20 : Int32)))) 5 (va_cpy (O 5) (T 5) (Int32.toNatClampNeg (0 : Int32)) (Int32.toNatClampNeg (0 : Int32)) (Int32.toNatClampNeg (20 : Int32)))) 6 (va_cpy (O 6) (T 6) (Int32.toNatClampNeg (0 : Int32)) (Int32.toNatClampNeg (0 : Int32)) (Int32.toNatClampNeg (20 : Int32)))) 7 (va_cpy (O 7) (T 7) (Int32.toNatClampNeg (0 : Int32)) (Int32.toNatClampNeg (0 : Int32)) (Int32.toNatClampNeg (20 : Int32)))) 8 (va_cpy (O 8) (T 8) (Int32.toNatClampNeg (0 : Int32)) (Int32.toNatClampNeg (0 : Int32)) (Int32.toNatClampNeg (20 : Int32)))) 9 (va_cpy (O 9) (T 9) (Int32.toNatClampNeg (0 : Int32)) (Int32.toNatClampNeg (0 : Int32)) (Int32.toNatClampNeg (8 : Int32)))))) C ml_X5_55 ho (by decide) rfl (dt_rOf _ hne hO _) hk (by decide) rfl (dt_rAf _ _ _ _) (by decide) (by omega) (Nat.le_of_ble_eq_true rfl) (dt_wAA _ _ _ _ _) dX5_become_133 ?_
  refine dz_aload_n (pc := 136) C dX5_become_136 rfl 1 rfl ?_
  refine dz_getR (pc := 137) (k := o) (j := 10) C Fc_X5 ho (by decide) (by decide) rfl fl_X5_43 dX5_become_137 ?_
  refine dz_iconst (pc := 140) (v := (0 : Int32)) C dX5_become_140 (by decide) ?_
  refine dz_aload_n (pc := 141) C dX5_become_141 rfl 0 rfl ?_
  refine dz_getR (pc := 142) (k := k) (j := 10) C Fc_X5 hk (by decide) (by decide) rfl fl_X5_43 dX5_become_142 ?_
  refine dz_iconst (pc := 145) (v := (0 : Int32)) C dX5_become_145 (by decide) ?_
  refine dz_aload_n (pc := 146) C dX5_become_146 rfl 0 rfl ?_
  refine dz_getR (pc := 147) (k := k) (j := 10) C Fc_X5 hk (by decide) (by decide) rfl fl_X5_43 dX5_become_147 ?_
  refine dz_alen (pc := 150) (k := k) (j := 10) (n := 160) (v := (160 : Int32)) C hk (by decide) rfl rfl (by decide) dX5_become_150 ?_
  refine dz_copy (pc := 151) (k0 := o) (j0 := 10) (n0 := 160) (k1 := k) (j1 := 10) (n1 := 160) (f := (O 10)) (g := (T 10)) (M' := (dt_put M k (dt_setA (dt_setA (dt_setA (dt_setA (dt_setA (dt_setA (dt_setA (dt_setA (dt_setA (dt_set (dt_set T 0 0 (O 0 0)) 1 0 (O 1 0)) 2 (va_cpy (O 2) (T 2) (Int32.toNatClampNeg (0 : Int32)) (Int32.toNatClampNeg (0 : Int32)) (Int32.toNatClampNeg (20 : Int32)))) 3 (va_cpy (O 3) (T 3) (Int32.toNatClampNeg (0 : Int32)) (Int32.toNatClampNeg (0 : Int32)) (Int32.toNatClampNeg (20 : Int32)))) 4 (va_cpy (O 4) (T 4) (Int32.toNatClampNeg (0 : Int32)) (Int32.toNatClampNeg (0 : Int32)) (Int32.toNatClampNeg (20 : Int32)))) 5 (va_cpy (O 5) (T 5) (Int32.toNatClampNeg (0 : Int32)) (Int32.toNatClampNeg (0 : Int32)) (Int32.toNatClampNeg (20 : Int32)))) 6 (va_cpy (O 6) (T 6) (Int32.toNatClampNeg (0 : Int32)) (Int32.toNatClampNeg (0 : Int32)) (Int32.toNatClampNeg (20 : Int32)))) 7 (va_cpy (O 7) (T 7) (Int32.toNatClampNeg (0 : Int32)) (Int32.toNatClampNeg (0 : Int32)) (Int32.toNatClampNeg (20 : Int32)))) 8 (va_cpy (O 8) (T 8) (Int32.toNatClampNeg (0 : Int32)) (Int32.toNatClampNeg (0 : Int32)) (Int32.toNatClampNeg (20 : Int32)))) 9 (va_cpy (O 9) (T 9) (Int32.toNatClampNeg (0 : Int32)) (Int32.toNatClampNeg (0 : Int32)) (Int32.toNatClampNeg (8 : Int32)))) 10 (va_cpy (O 10) (T 10) (Int32.toNatClampNeg (0 : Int32)) (Int32.toNatClampNeg (0 : Int32)) (Int32.toNatClampNeg (160 : Int32)))))) C ml_X5_55 ho (by decide) rfl (dt_rOf _ hne hO _) hk (by decide) rfl (dt_rAf _ _ _ _) (by decide) (by omega) (Nat.le_of_ble_eq_true rfl) (dt_wAA _ _ _ _ _) dX5_become_151 ?_
  cases dt_some h
  exact dz_vret (pc := 154) C hr dX5_become_154

def fX5_add  (x1 : Int32) (x2 : Int32) (x3 : Int32) (x4 : Int32) (x5 : Int32) (T : dt_Ob) : Option (Int32 × dt_Ob) := (if (T 1 0) < (20 : Int32) then ((dt_ix (T 1 0) 20).bind fun a1 => ((dt_ix (T 1 0) 20).bind fun a2 => ((dt_ix (T 1 0) 20).bind fun a3 => ((dt_ix (T 1 0) 20).bind fun a4 => ((dt_ix (T 1 0) 20).bind fun a5 => ((dt_ix (T 1 0) 20).bind fun a6 => ((dt_ix (T 1 0) 20).bind fun a7 => (some ((((T 1 0) + (1 : Int32)) - (1 : Int32)), (dt_set (dt_set (dt_set (dt_set (dt_set (dt_set (dt_set (dt_set T 2 a1 x1) 3 a2 x2) 4 a3 x3) 5 a4 x4) 6 a5 x5) 7 a6 (-1 : Int32)) 8 a7 (-1 : Int32)) 1 0 ((T 1 0) + (1 : Int32)))))))))))) else (some ((-1 : Int32), T)))
set_option maxRecDepth 10000 in
set_option maxHeartbeats 4000000 in
theorem m_X5_add {nb : Nat} (l : Launch) {k : Nat} (hk : k < 18 + nb ∧ dt_c k = 5)  (M : dt_M) (T : dt_Ob)  (x1 : Int32) (x2 : Int32) (x3 : Int32) (x4 : Int32) (x5 : Int32) {res : Int32 × dt_Ob} (h : fX5_add x1 x2 x3 x4 x5 T = some res) : dt_Met nb l yX5_add cX5_add 6 (some .int) 1 (fun G => [.ref (G.1 k 0), .int x1, .int x2, .int x3, .int x4, .int x5]) (dt_put M k T) (some (.int res.1)) (dt_put M k res.2) := by
  refine dz_enter (lv := fun G => [(0, .ref (G.1 k 0)), (1, .int x1), (2, .int x2), (3, .int x3), (4, .int x4), (5, .int x5)]) (by decide) (fun _ => rfl) (fun _ => Nat.le_of_ble_eq_true rfl) (fun G A p e s m args below meth c C hr => ?_)
  unfold fX5_add at h
  refine dz_aload_n (pc := 0) C dX5_add_0 rfl 0 rfl ?_
  refine dz_getI (pc := 1) (k := k) (j := 1) (v := (T 1 0)) C Fc_X5 hk (by decide) rfl rfl fl_X5_15 (dt_rA _ _ _ _ _) dX5_add_1 ?_
  refine dz_bipush (pc := 4) (v := (20 : Int32)) C dX5_add_4 (by decide) ?_
  refine dz_icmp_lt (pc := 6) (t := 11) C dX5_add_6 (by decide) h (fun h => ?_) (fun h => ?_)
  · refine dz_aload_n (pc := 11) C dX5_add_11 rfl 0 rfl ?_
    refine dz_getR (pc := 12) (k := k) (j := 2) C Fc_X5 hk (by decide) (by decide) rfl fl_X5_18 dX5_add_12 ?_
    refine dz_aload_n (pc := 15) C dX5_add_15 rfl 0 rfl ?_
    refine dz_getI (pc := 16) (k := k) (j := 1) (v := (T 1 0)) C Fc_X5 hk (by decide) rfl rfl fl_X5_15 (dt_rA _ _ _ _ _) dX5_add_16 ?_
    refine dz_iload_n (pc := 19) C dX5_add_19 rfl 1 rfl ?_
    refine dz_iast (pc := 20) (k := k) (j := 2) (n := 20) (M' := fun a1 => (dt_put M k (dt_set T 2 a1 x1))) C hk (by decide) rfl (fun a1 => (dt_wA _ _ _ _ _ _)) dX5_add_20 h (fun a1 h => ?_)
    refine dz_aload_n (pc := 21) C dX5_add_21 rfl 0 rfl ?_
    refine dz_getR (pc := 22) (k := k) (j := 3) C Fc_X5 hk (by decide) (by decide) rfl fl_X5_22 dX5_add_22 ?_
    refine dz_aload_n (pc := 25) C dX5_add_25 rfl 0 rfl ?_
    refine dz_getI (pc := 26) (k := k) (j := 1) (v := (T 1 0)) C Fc_X5 hk (by decide) rfl rfl fl_X5_15 (dt_rA _ _ _ _ _) dX5_add_26 ?_
    refine dz_iload_n (pc := 29) C dX5_add_29 rfl 2 rfl ?_
    refine dz_iast (pc := 30) (k := k) (j := 3) (n := 20) (M' := fun a2 => (dt_put M k (dt_set (dt_set T 2 a1 x1) 3 a2 x2))) C hk (by decide) rfl (fun a2 => (dt_wA _ _ _ _ _ _)) dX5_add_30 h (fun a2 h => ?_)
    refine dz_aload_n (pc := 31) C dX5_add_31 rfl 0 rfl ?_
    refine dz_getR (pc := 32) (k := k) (j := 4) C Fc_X5 hk (by decide) (by decide) rfl fl_X5_25 dX5_add_32 ?_
    refine dz_aload_n (pc := 35) C dX5_add_35 rfl 0 rfl ?_
    refine dz_getI (pc := 36) (k := k) (j := 1) (v := (T 1 0)) C Fc_X5 hk (by decide) rfl rfl fl_X5_15 (dt_rA _ _ _ _ _) dX5_add_36 ?_
    refine dz_iload_n (pc := 39) C dX5_add_39 rfl 3 rfl ?_
    refine dz_iast (pc := 40) (k := k) (j := 4) (n := 20) (M' := fun a3 => (dt_put M k (dt_set (dt_set (dt_set T 2 a1 x1) 3 a2 x2) 4 a3 x3))) C hk (by decide) rfl (fun a3 => (dt_wA _ _ _ _ _ _)) dX5_add_40 h (fun a3 h => ?_)
    refine dz_aload_n (pc := 41) C dX5_add_41 rfl 0 rfl ?_
    refine dz_getR (pc := 42) (k := k) (j := 5) C Fc_X5 hk (by decide) (by decide) rfl fl_X5_28 dX5_add_42 ?_
    refine dz_aload_n (pc := 45) C dX5_add_45 rfl 0 rfl ?_
    refine dz_getI (pc := 46) (k := k) (j := 1) (v := (T 1 0)) C Fc_X5 hk (by decide) rfl rfl fl_X5_15 (dt_rA _ _ _ _ _) dX5_add_46 ?_
    refine dz_iload (pc := 49) C dX5_add_49 4 rfl ?_
    refine dz_iast (pc := 51) (k := k) (j := 5) (n := 20) (M' := fun a4 => (dt_put M k (dt_set (dt_set (dt_set (dt_set T 2 a1 x1) 3 a2 x2) 4 a3 x3) 5 a4 x4))) C hk (by decide) rfl (fun a4 => (dt_wA _ _ _ _ _ _)) dX5_add_51 h (fun a4 h => ?_)
    refine dz_aload_n (pc := 52) C dX5_add_52 rfl 0 rfl ?_
    refine dz_getR (pc := 53) (k := k) (j := 6) C Fc_X5 hk (by decide) (by decide) rfl fl_X5_31 dX5_add_53 ?_
    refine dz_aload_n (pc := 56) C dX5_add_56 rfl 0 rfl ?_
    refine dz_getI (pc := 57) (k := k) (j := 1) (v := (T 1 0)) C Fc_X5 hk (by decide) rfl rfl fl_X5_15 (dt_rA _ _ _ _ _) dX5_add_57 ?_
    refine dz_iload (pc := 60) C dX5_add_60 5 rfl ?_
    refine dz_iast (pc := 62) (k := k) (j := 6) (n := 20) (M' := fun a5 => (dt_put M k (dt_set (dt_set (dt_set (dt_set (dt_set T 2 a1 x1) 3 a2 x2) 4 a3 x3) 5 a4 x4) 6 a5 x5))) C hk (by decide) rfl (fun a5 => (dt_wA _ _ _ _ _ _)) dX5_add_62 h (fun a5 h => ?_)
    refine dz_aload_n (pc := 63) C dX5_add_63 rfl 0 rfl ?_
    refine dz_getR (pc := 64) (k := k) (j := 7) C Fc_X5 hk (by decide) (by decide) rfl fl_X5_34 dX5_add_64 ?_
    refine dz_aload_n (pc := 67) C dX5_add_67 rfl 0 rfl ?_
    refine dz_getI (pc := 68) (k := k) (j := 1) (v := (T 1 0)) C Fc_X5 hk (by decide) rfl rfl fl_X5_15 (dt_rA _ _ _ _ _) dX5_add_68 ?_
    refine dz_iconst (pc := 71) (v := (-1 : Int32)) C dX5_add_71 (by decide) ?_
    refine dz_iast (pc := 72) (k := k) (j := 7) (n := 20) (M' := fun a6 => (dt_put M k (dt_set (dt_set (dt_set (dt_set (dt_set (dt_set T 2 a1 x1) 3 a2 x2) 4 a3 x3) 5 a4 x4) 6 a5 x5) 7 a6 (-1 : Int32)))) C hk (by decide) rfl (fun a6 => (dt_wA _ _ _ _ _ _)) dX5_add_72 h (fun a6 h => ?_)
    refine dz_aload_n (pc := 73) C dX5_add_73 rfl 0 rfl ?_
    refine dz_getR (pc := 74) (k := k) (j := 8) C Fc_X5 hk (by decide) (by decide) rfl fl_X5_37 dX5_add_74 ?_
    refine dz_aload_n (pc := 77) C dX5_add_77 rfl 0 rfl ?_
    refine dz_getI (pc := 78) (k := k) (j := 1) (v := (T 1 0)) C Fc_X5 hk (by decide) rfl rfl fl_X5_15 (dt_rA _ _ _ _ _) dX5_add_78 ?_
    refine dz_iconst (pc := 81) (v := (-1 : Int32)) C dX5_add_81 (by decide) ?_
    refine dz_iast (pc := 82) (k := k) (j := 8) (n := 20) (M' := fun a7 => (dt_put M k (dt_set (dt_set (dt_set (dt_set (dt_set (dt_set (dt_set T 2 a1 x1) 3 a2 x2) 4 a3 x3) 5 a4 x4) 6 a5 x5) 7 a6 (-1 : Int32)) 8 a7 (-1 : Int32)))) C hk (by decide) rfl (fun a7 => (dt_wA _ _ _ _ _ _)) dX5_add_82 h (fun a7 h => ?_)
    refine dz_aload_n (pc := 83) C dX5_add_83 rfl 0 rfl ?_
    refine dz_dup (pc := 84) C dX5_add_84 rfl ?_
    refine dz_getI (pc := 85) (k := k) (j := 1) (v := (T 1 0)) C Fc_X5 hk (by decide) rfl rfl fl_X5_15 (dt_rA _ _ _ _ _) dX5_add_85 ?_
    refine dz_iconst (pc := 88) (v := (1 : Int32)) C dX5_add_88 (by decide) ?_
    refine dz_iadd (pc := 89) C dX5_add_89 ?_
    refine dz_putI (pc := 90) (k := k) (j := 1) (M' := (dt_put M k (dt_set (dt_set (dt_set (dt_set (dt_set (dt_set (dt_set (dt_set T 2 a1 x1) 3 a2 x2) 4 a3 x3) 5 a4 x4) 6 a5 x5) 7 a6 (-1 : Int32)) 8 a7 (-1 : Int32)) 1 0 ((T 1 0) + (1 : Int32))))) C Fc_X5 hk (by decide) rfl rfl rfl rfl fl_X5_15 (dt_wA _ _ _ _ _ _) dX5_add_90 ?_
    refine dz_aload_n (pc := 93) C dX5_add_93 rfl 0 rfl ?_
    refine dz_getI (pc := 94) (k := k) (j := 1) (v := ((T 1 0) + (1 : Int32))) C Fc_X5 hk (by decide) rfl rfl fl_X5_15 (dt_rA _ _ _ _ _) dX5_add_94 ?_
    refine dz_iconst (pc := 97) (v := (1 : Int32)) C dX5_add_97 (by decide) ?_
    refine dz_isub (pc := 98) C dX5_add_98 ?_
    cases dt_some h
    exact dz_iret (pc := 99) C hr dX5_add_99
  · refine dz_iconst (pc := 9) (v := (-1 : Int32)) C dX5_add_9 (by decide) ?_
    cases dt_some h
    exact dz_iret (pc := 10) C hr dX5_add_10

def fX5_isKnown  (x1 : Int32) (T : dt_Ob) : Option (Int32) := (if x1 < 0 then (some (0 : Int32)) else (if (T 1 0) ≤ x1 then (some (0 : Int32)) else (some (1 : Int32))))
set_option maxRecDepth 10000 in
set_option maxHeartbeats 4000000 in
theorem m_X5_isKnown {nb : Nat} (l : Launch) {k : Nat} (hk : k < 18 + nb ∧ dt_c k = 5)  (M : dt_M) (T : dt_Ob)  (x1 : Int32) {res : Int32} (h : fX5_isKnown x1 T = some res) : dt_Met nb l yX5_isKnown cX5_isKnown 2 (some .boolean) 1 (fun G => [.ref (G.1 k 0), .int x1]) (dt_put M k T) (some (.int res)) (dt_put M k T) := by
  refine dz_enter (lv := fun G => [(0, .ref (G.1 k 0)), (1, .int x1)]) (by decide) (fun _ => rfl) (fun _ => Nat.le_of_ble_eq_true rfl) (fun G A p e s m args below meth c C hr => ?_)
  unfold fX5_isKnown at h
  refine dz_iload_n (pc := 0) C dX5_isKnown_0 rfl 1 rfl ?_
  refine dz_if_lt (pc := 1) (t := 16) C dX5_isKnown_1 (by decide) h (fun h => ?_) (fun h => ?_)
  · refine dz_iconst (pc := 16) (v := (0 : Int32)) C dX5_isKnown_16 (by decide) ?_
    cases dt_some h
    exact dz_zret (pc := 17) C hr (Or.inl rfl) dX5_isKnown_17
  · refine dz_iload_n (pc := 4) C dX5_isKnown_4 rfl 1 rfl ?_
    refine dz_aload_n (pc := 5) C dX5_isKnown_5 rfl 0 rfl ?_
    refine dz_getI (pc := 6) (k := k) (j := 1) (v := (T 1 0)) C Fc_X5 hk (by decide) rfl rfl fl_X5_15 (dt_rA _ _ _ _ _) dX5_isKnown_6 ?_
    refine dz_icmp_ge (pc := 9) (t := 16) C dX5_isKnown_9 (by decide) h (fun h => ?_) (fun h => ?_)
    · refine dz_iconst (pc := 16) (v := (0 : Int32)) C dX5_isKnown_16 (by decide) ?_
      cases dt_some h
      exact dz_zret (pc := 17) C hr (Or.inl rfl) dX5_isKnown_17
    · refine dz_iconst (pc := 12) (v := (1 : Int32)) C dX5_isKnown_12 (by decide) ?_
      refine dz_goto (pc := 13) (t := 17) C dX5_isKnown_13 (by decide) ?_
      cases dt_some h
      exact dz_zret (pc := 17) C hr (Or.inr rfl) dX5_isKnown_17

def fX5_isInYard  (x1 : Int32) (T : dt_Ob) : Option (Int32) := ((fX5_isKnown x1 T).bind fun q1 => (if q1 = 0 then (some (0 : Int32)) else ((dt_ix x1 20).bind fun a2 => (if ((T 6) a2) = (-1 : Int32) then (some (0 : Int32)) else (some (1 : Int32))))))
set_option maxRecDepth 10000 in
set_option maxHeartbeats 4000000 in
theorem m_X5_isInYard {nb : Nat} (l : Launch) {k : Nat} (hk : k < 18 + nb ∧ dt_c k = 5)  (M : dt_M) (T : dt_Ob)  (x1 : Int32) {res : Int32} (h : fX5_isInYard x1 T = some res) : dt_Met nb l yX5_isInYard cX5_isInYard 2 (some .boolean) 2 (fun G => [.ref (G.1 k 0), .int x1]) (dt_put M k T) (some (.int res)) (dt_put M k T) := by
  refine dz_enter (lv := fun G => [(0, .ref (G.1 k 0)), (1, .int x1)]) (by decide) (fun _ => rfl) (fun _ => Nat.le_of_ble_eq_true rfl) (fun G A p e s m args below meth c C hr => ?_)
  unfold fX5_isInYard at h
  refine dz_aload_n (pc := 0) C dX5_isInYard_0 rfl 0 rfl ?_
  refine dz_iload_n (pc := 1) C dX5_isInYard_1 rfl 1 rfl ?_
  obtain ⟨q1, eq1, h⟩ := dt_bind h
  refine dz_callVi (pc := 2) (st := []) (k := k) (As := [.int x1]) (M' := (dt_put M k T)) C Fc_X5 hk mf_X5_isKnown rfl ml_X5_61 (m_X5_isKnown l hk _ _ _ eq1) rfl rfl (by omega) (by decide) (Nat.le_of_ble_eq_true rfl) dX5_isInYard_2 ?_
  refine dz_if_eq (pc := 5) (t := 22) C dX5_isInYard_5 (by decide) h (fun h => ?_) (fun h => ?_)
  · refine dz_iconst (pc := 22) (v := (0 : Int32)) C dX5_isInYard_22 (by decide) ?_
    cases dt_some h
    exact dz_zret (pc := 23) C hr (Or.inl rfl) dX5_isInYard_23
  · refine dz_aload_n (pc := 8) C dX5_isInYard_8 rfl 0 rfl ?_
    refine dz_getR (pc := 9) (k := k) (j := 6) C Fc_X5 hk (by decide) (by decide) rfl fl_X5_31 dX5_isInYard_9 ?_
    refine dz_iload_n (pc := 12) C dX5_isInYard_12 rfl 1 rfl ?_
    refine dz_iald (pc := 13) (k := k) (j := 6) (n := 20) (f := (T 6)) C hk (by decide) rfl (dt_rAf _ _ _ _) dX5_isInYard_13 h (fun a2 h => ?_)
    refine dz_iconst (pc := 14) (v := (-1 : Int32)) C dX5_isInYard_14 (by decide) ?_
    refine dz_icmp_eq (pc := 15) (t := 22) C dX5_isInYard_15 (by decide) h (fun h => ?_) (fun h => ?_)
    · refine dz_iconst (pc := 22) (v := (0 : Int32)) C dX5_isInYard_22 (by decide) ?_
      cases dt_some h
      exact dz_zret (pc := 23) C hr (Or.inl rfl) dX5_isInYard_23
    · refine dz_iconst (pc := 18) (v := (1 : Int32)) C dX5_isInYard_18 (by decide) ?_
      refine dz_goto (pc := 19) (t := 23) C dX5_isInYard_19 (by decide) ?_
      cases dt_some h
      exact dz_zret (pc := 23) C hr (Or.inr rfl) dX5_isInYard_23

def fX5_isInTower  (x1 : Int32) (T : dt_Ob) : Option (Int32) := ((fX5_isKnown x1 T).bind fun q1 => (if q1 = 0 then (some (0 : Int32)) else ((dt_ix x1 20).bind fun a2 => (if ((T 6) a2) = (-1 : Int32) then (some (1 : Int32)) else (some (0 : Int32))))))
set_option maxRecDepth 10000 in
set_option maxHeartbeats 4000000 in
theorem m_X5_isInTower {nb : Nat} (l : Launch) {k : Nat} (hk : k < 18 + nb ∧ dt_c k = 5)  (M : dt_M) (T : dt_Ob)  (x1 : Int32) {res : Int32} (h : fX5_isInTower x1 T = some res) : dt_Met nb l yX5_isInTower cX5_isInTower 2 (some .boolean) 2 (fun G => [.ref (G.1 k 0), .int x1]) (dt_put M k T) (some (.int res)) (dt_put M k T) := by
  refine dz_enter (lv := fun G => [(0, .ref (G.1 k 0)), (1, .int x1)]) (by decide) (fun _ => rfl) (fun _ => Nat.le_of_ble_eq_true rfl) (fun G A p e s m args below meth c C hr => ?_)
  unfold fX5_isInTower at h
  refine dz_aload_n (pc := 0) C dX5_isInTower_0 rfl 0 rfl ?_
  refine dz_iload_n (pc := 1) C dX5_isInTower_1 rfl 1 rfl ?_
  obtain ⟨q1, eq1, h⟩ := dt_bind h
  refine dz_callVi (pc := 2) (st := []) (k := k) (As := [.int x1]) (M' := (dt_put M k T)) C Fc_X5 hk mf_X5_isKnown rfl ml_X5_61 (m_X5_isKnown l hk _ _ _ eq1) rfl rfl (by omega) (by decide) (Nat.le_of_ble_eq_true rfl) dX5_isInTower_2 ?_
  refine dz_if_eq (pc := 5) (t := 22) C dX5_isInTower_5 (by decide) h (fun h => ?_) (fun h => ?_)
  · refine dz_iconst (pc := 22) (v := (0 : Int32)) C dX5_isInTower_22 (by decide) ?_
    cases dt_some h
    exact dz_zret (pc := 23) C hr (Or.inl rfl) dX5_isInTower_23
  · refine dz_aload_n (pc := 8) C dX5_isInTower_8 rfl 0 rfl ?_
    refine dz_getR (pc := 9) (k := k) (j := 6) C Fc_X5 hk (by decide) (by decide) rfl fl_X5_31 dX5_isInTower_9 ?_
    refine dz_iload_n (pc := 12) C dX5_isInTower_12 rfl 1 rfl ?_
    refine dz_iald (pc := 13) (k := k) (j := 6) (n := 20) (f := (T 6)) C hk (by decide) rfl (dt_rAf _ _ _ _) dX5_isInTower_13 h (fun a2 h => ?_)
    refine dz_iconst (pc := 14) (v := (-1 : Int32)) C dX5_isInTower_14 (by decide) ?_
    refine dz_icmp_ne (pc := 15) (t := 22) C dX5_isInTower_15 (by decide) h (fun h => ?_) (fun h => ?_)
    · refine dz_iconst (pc := 22) (v := (0 : Int32)) C dX5_isInTower_22 (by decide) ?_
      cases dt_some h
      exact dz_zret (pc := 23) C hr (Or.inl rfl) dX5_isInTower_23
    · refine dz_iconst (pc := 18) (v := (1 : Int32)) C dX5_isInTower_18 (by decide) ?_
      refine dz_goto (pc := 19) (t := 23) C dX5_isInTower_19 (by decide) ?_
      cases dt_some h
      exact dz_zret (pc := 23) C hr (Or.inr rfl) dX5_isInTower_23

def fX5_fits  (x1 : Int32) (x2 : Int32) (T : dt_Ob) : Option (Int32) := ((fX5_isKnown x1 T).bind fun q1 => (if q1 = 0 then (some (0 : Int32)) else (if x2 < 0 then (some (0 : Int32)) else ((dt_ix x1 20).bind fun a2 => (if ((T 0 0) - ((T 2) a2)) < x2 then (some (0 : Int32)) else (some (1 : Int32)))))))
set_option maxRecDepth 10000 in
set_option maxHeartbeats 4000000 in
theorem m_X5_fits {nb : Nat} (l : Launch) {k : Nat} (hk : k < 18 + nb ∧ dt_c k = 5)  (M : dt_M) (T : dt_Ob)  (x1 : Int32) (x2 : Int32) {res : Int32} (h : fX5_fits x1 x2 T = some res) : dt_Met nb l yX5_fits cX5_fits 3 (some .boolean) 2 (fun G => [.ref (G.1 k 0), .int x1, .int x2]) (dt_put M k T) (some (.int res)) (dt_put M k T) := by
  refine dz_enter (lv := fun G => [(0, .ref (G.1 k 0)), (1, .int x1), (2, .int x2)]) (by decide) (fun _ => rfl) (fun _ => Nat.le_of_ble_eq_true rfl) (fun G A p e s m args below meth c C hr => ?_)
  unfold fX5_fits at h
  refine dz_aload_n (pc := 0) C dX5_fits_0 rfl 0 rfl ?_
  refine dz_iload_n (pc := 1) C dX5_fits_1 rfl 1 rfl ?_
  obtain ⟨q1, eq1, h⟩ := dt_bind h
  refine dz_callVi (pc := 2) (st := []) (k := k) (As := [.int x1]) (M' := (dt_put M k T)) C Fc_X5 hk mf_X5_isKnown rfl ml_X5_61 (m_X5_isKnown l hk _ _ _ eq1) rfl rfl (by omega) (by decide) (Nat.le_of_ble_eq_true rfl) dX5_fits_2 ?_
  refine dz_if_eq (pc := 5) (t := 31) C dX5_fits_5 (by decide) h (fun h => ?_) (fun h => ?_)
  · refine dz_iconst (pc := 31) (v := (0 : Int32)) C dX5_fits_31 (by decide) ?_
    cases dt_some h
    exact dz_zret (pc := 32) C hr (Or.inl rfl) dX5_fits_32
  · refine dz_iload_n (pc := 8) C dX5_fits_8 rfl 2 rfl ?_
    refine dz_if_lt (pc := 9) (t := 31) C dX5_fits_9 (by decide) h (fun h => ?_) (fun h => ?_)
    · refine dz_iconst (pc := 31) (v := (0 : Int32)) C dX5_fits_31 (by decide) ?_
      cases dt_some h
      exact dz_zret (pc := 32) C hr (Or.inl rfl) dX5_fits_32
    · refine dz_iload_n (pc := 12) C dX5_fits_12 rfl 2 rfl ?_
      refine dz_aload_n (pc := 13) C dX5_fits_13 rfl 0 rfl ?_
      refine dz_getI (pc := 14) (k := k) (j := 0) (v := (T 0 0)) C Fc_X5 hk (by decide) rfl rfl fl_X5_9 (dt_rA _ _ _ _ _) dX5_fits_14 ?_
      refine dz_aload_n (pc := 17) C dX5_fits_17 rfl 0 rfl ?_
      refine dz_getR (pc := 18) (k := k) (j := 2) C Fc_X5 hk (by decide) (by decide) rfl fl_X5_18 dX5_fits_18 ?_
      refine dz_iload_n (pc := 21) C dX5_fits_21 rfl 1 rfl ?_
      refine dz_iald (pc := 22) (k := k) (j := 2) (n := 20) (f := (T 2)) C hk (by decide) rfl (dt_rAf _ _ _ _) dX5_fits_22 h (fun a2 h => ?_)
      refine dz_isub (pc := 23) C dX5_fits_23 ?_
      refine dz_icmp_gt (pc := 24) (t := 31) C dX5_fits_24 (by decide) h (fun h => ?_) (fun h => ?_)
      · refine dz_iconst (pc := 31) (v := (0 : Int32)) C dX5_fits_31 (by decide) ?_
        cases dt_some h
        exact dz_zret (pc := 32) C hr (Or.inl rfl) dX5_fits_32
      · refine dz_iconst (pc := 27) (v := (1 : Int32)) C dX5_fits_27 (by decide) ?_
        refine dz_goto (pc := 28) (t := 32) C dX5_fits_28 (by decide) ?_
        cases dt_some h
        exact dz_zret (pc := 32) C hr (Or.inr rfl) dX5_fits_32

def fX5_yardSet_28 (r4 : Int32 → Int32 → dt_Ob → Option (Int32)) (x1 : Int32) (x2 : Int32) (T : dt_Ob) : Option (Int32) := (r4 x1 (x2 + (1 : Int32)) T)
set_option maxRecDepth 10000 in
set_option maxHeartbeats 4000000 in
theorem tX5_yardSet_28 {nb : Nat} {G : dt_G} {A : Nat → Prop} {p : Program} {l : Launch} {e : Env} {s : State} {m : MethodId} {args : Array Value} {below : List Frame} {meth : Method} {c : Code} (C : dt_Cx nb G A p s m args meth c cX5_yardSet 3 RX5) (hr : meth.sig.returnType = (some .int)) {k : Nat} (hk : k < 18 + nb ∧ dt_c k = 5) {M : dt_M} {res : Int32} {r4 : Int32 → Int32 → dt_Ob → Option (Int32)} (hr4 : ∀ (x1 : Int32) (x2 : Int32) (T : dt_Ob), r4 x1 x2 T = some res → dt_At G A p l e (dt_rm 1) s m args below meth c 3 (MQ below (dt_Post G A (some (.int res)) (dt_put M k T)) args s 0 0 A) 4 [(0, .ref (G.1 k 0)), (1, .int x1), (2, .int x2)] [] (dt_put M k T)) : ∀ (x1 : Int32) (x2 : Int32) (T : dt_Ob), fX5_yardSet_28 r4 x1 x2 T = some res → dt_At G A p l e (dt_rm 1) s m args below meth c 3 (MQ below (dt_Post G A (some (.int res)) (dt_put M k T)) args s 0 0 A) 28 [(0, .ref (G.1 k 0)), (1, .int x1), (2, .int x2)] [] (dt_put M k T) := by
  intro x1 x2 T h
  unfold fX5_yardSet_28 at h
  refine dz_iinc (pc := 28) (v := (x2 + (1 : Int32))) C dX5_yardSet_28 2 rfl rfl (by decide) rfl ?_
  refine dz_goto (pc := 31) (t := 4) C dX5_yardSet_31 (by decide) ?_
  refine dz_sub [1, 2, 0] rfl ?_
  exact hr4 x1 (x2 + (1 : Int32)) T h
def fX5_yardSet_4  : Nat → Int32 → Int32 → dt_Ob → Option (Int32)
  | 0, _, _, _ => none
  | n + 1, x1, x2, T => (if (T 1 0) ≤ x2 then (some x1) else ((dt_ix x2 20).bind fun a1 => (if ((T 6) a1) = (-1 : Int32) then (fX5_yardSet_28 (fX5_yardSet_4 n) x1 x2 T) else (fX5_yardSet_28 (fX5_yardSet_4 n) (x1 ||| ((1 : Int32) <<< (x2 &&& 31))) x2 T))))
set_option maxRecDepth 10000 in
set_option maxHeartbeats 4000000 in
theorem tX5_yardSet_4 {nb : Nat} {G : dt_G} {A : Nat → Prop} {p : Program} {l : Launch} {e : Env} {s : State} {m : MethodId} {args : Array Value} {below : List Frame} {meth : Method} {c : Code} (C : dt_Cx nb G A p s m args meth c cX5_yardSet 3 RX5) (hr : meth.sig.returnType = (some .int)) {k : Nat} (hk : k < 18 + nb ∧ dt_c k = 5) {M : dt_M} {res : Int32}  : ∀ (n : Nat) (x1 : Int32) (x2 : Int32) (T : dt_Ob), fX5_yardSet_4 n x1 x2 T = some res → dt_At G A p l e (dt_rm 1) s m args below meth c 3 (MQ below (dt_Post G A (some (.int res)) (dt_put M k T)) args s 0 0 A) 4 [(0, .ref (G.1 k 0)), (1, .int x1), (2, .int x2)] [] (dt_put M k T) := by
  intro n
  induction n with
  | zero =>
    intro x1 x2 T h
    unfold fX5_yardSet_4 at h
    cases h
  | succ n ih =>
    intro x1 x2 T h
    unfold fX5_yardSet_4 at h
    refine dz_iload_n (pc := 4) C dX5_yardSet_4 rfl 2 rfl ?_
    refine dz_aload_n (pc := 5) C dX5_yardSet_5 rfl 0 rfl ?_
    refine dz_getI (pc := 6) (k := k) (j := 1) (v := (T 1 0)) C Fc_X5 hk (by decide) rfl rfl fl_X5_15 (dt_rA _ _ _ _ _) dX5_yardSet_6 ?_
    refine dz_icmp_ge (pc := 9) (t := 34) C dX5_yardSet_9 (by decide) h (fun h => ?_) (fun h => ?_)
    · refine dz_iload_n (pc := 34) C dX5_yardSet_34 rfl 1 rfl ?_
      cases dt_some h
      exact dz_iret (pc := 35) C hr dX5_yardSet_35
    · refine dz_aload_n (pc := 12) C dX5_yardSet_12 rfl 0 rfl ?_
      refine dz_getR (pc := 13) (k := k) (j := 6) C Fc_X5 hk (by decide) (by decide) rfl fl_X5_31 dX5_yardSet_13 ?_
      refine dz_iload_n (pc := 16) C dX5_yardSet_16 rfl 2 rfl ?_
      refine dz_iald (pc := 17) (k := k) (j := 6) (n := 20) (f := (T 6)) C hk (by decide) rfl (dt_rAf _ _ _ _) dX5_yardSet_17 h (fun a1 h => ?_)
      refine dz_iconst (pc := 18) (v := (-1 : Int32)) C dX5_yardSet_18 (by decide) ?_
      refine dz_icmp_eq (pc := 19) (t := 28) C dX5_yardSet_19 (by decide) h (fun h => ?_) (fun h => ?_)
      · exact tX5_yardSet_28 C hr hk ih x1 x2 T h
      · refine dz_iload_n (pc := 22) C dX5_yardSet_22 rfl 1 rfl ?_
        refine dz_iconst (pc := 23) (v := (1 : Int32)) C dX5_yardSet_23 (by decide) ?_
        refine dz_iload_n (pc := 24) C dX5_yardSet_24 rfl 2 rfl ?_
        refine dz_ishl (pc := 25) C dX5_yardSet_25 ?_
        refine dz_ior (pc := 26) C dX5_yardSet_26 ?_
        refine dz_istore_n (pc := 27) C dX5_yardSet_27 rfl (by decide) rfl ?_
        refine dz_sub [1, 0, 2] rfl ?_
        exact tX5_yardSet_28 C hr hk ih (x1 ||| ((1 : Int32) <<< (x2 &&& 31))) x2 T h
def fX5_yardSet  (T : dt_Ob) : Option (Int32) := (fX5_yardSet_4 dt_F (0 : Int32) (0 : Int32) T)
set_option maxRecDepth 10000 in
set_option maxHeartbeats 4000000 in
theorem m_X5_yardSet {nb : Nat} (l : Launch) {k : Nat} (hk : k < 18 + nb ∧ dt_c k = 5)  (M : dt_M) (T : dt_Ob)   {res : Int32} (h : fX5_yardSet T = some res) : dt_Met nb l yX5_yardSet cX5_yardSet 3 (some .int) 1 (fun G => [.ref (G.1 k 0)]) (dt_put M k T) (some (.int res)) (dt_put M k T) := by
  refine dz_enter (lv := fun G => [(0, .ref (G.1 k 0))]) (by decide) (fun _ => rfl) (fun _ => Nat.le_of_ble_eq_true rfl) (fun G A p e s m args below meth c C hr => ?_)
  unfold fX5_yardSet at h
  refine dz_iconst (pc := 0) (v := (0 : Int32)) C dX5_yardSet_0 (by decide) ?_
  refine dz_istore_n (pc := 1) C dX5_yardSet_1 rfl (by decide) rfl ?_
  refine dz_iconst (pc := 2) (v := (0 : Int32)) C dX5_yardSet_2 (by decide) ?_
  refine dz_istore_n (pc := 3) C dX5_yardSet_3 rfl (by decide) rfl ?_
  refine dz_sub [2, 1, 0] rfl ?_
  exact tX5_yardSet_4 C hr hk dt_F (0 : Int32) (0 : Int32) T h

def fX5_inYard  (T : dt_Ob) : Option (Int32) := ((fX5_yardSet T).bind fun q1 => ((fJ6_bitCount_0f7a4 q1).bind fun q2 => (some q2)))
set_option maxRecDepth 10000 in
set_option maxHeartbeats 4000000 in
theorem m_X5_inYard {nb : Nat} (l : Launch) {k : Nat} (hk : k < 18 + nb ∧ dt_c k = 5)  (M : dt_M) (T : dt_Ob)   {res : Int32} (h : fX5_inYard T = some res) : dt_Met nb l yX5_inYard cX5_inYard 1 (some .int) 2 (fun G => [.ref (G.1 k 0)]) (dt_put M k T) (some (.int res)) (dt_put M k T) := by
  refine dz_enter (lv := fun G => [(0, .ref (G.1 k 0))]) (by decide) (fun _ => rfl) (fun _ => Nat.le_of_ble_eq_true rfl) (fun G A p e s m args below meth c C hr => ?_)
  unfold fX5_inYard at h
  refine dz_aload_n (pc := 0) C dX5_inYard_0 rfl 0 rfl ?_
  obtain ⟨q1, eq1, h⟩ := dt_bind h
  refine dz_callVi (pc := 1) (st := []) (k := k) (As := []) (M' := (dt_put M k T)) C Fc_X5 hk mf_X5_yardSet rfl ml_X5_65 (m_X5_yardSet l hk _ _ eq1) rfl rfl (by omega) (by decide) (Nat.le_of_ble_eq_true rfl) dX5_inYard_1 ?_
  obtain ⟨q2, eq2, h⟩ := dt_bind h
  refine dz_callSi (pc := 4) (st := []) (As := [.int q1]) (M' := (dt_put M k T)) C ms_J6_bitCount_0f7a4 ml_X5_69 (m_J6_bitCount_0f7a4 l _ _ eq2) rfl rfl (by omega) (by decide) (Nat.le_of_ble_eq_true rfl) dX5_inYard_4 ?_
  cases dt_some h
  exact dz_iret (pc := 7) C hr dX5_inYard_7

def fX5_tallest_4  : Nat → Int32 → Int32 → dt_Ob → Option (Int32)
  | 0, _, _, _ => none
  | n + 1, x1, x2, T => (if (T 0 0) ≤ x2 then (some x1) else ((dt_ix x2 8).bind fun a1 => ((fX5_tallest_4 n) (if x1 < ((T 9) a1) then ((T 9) a1) else x1) (x2 + (1 : Int32)) T)))
set_option maxRecDepth 10000 in
set_option maxHeartbeats 4000000 in
theorem tX5_tallest_4 {nb : Nat} {G : dt_G} {A : Nat → Prop} {p : Program} {l : Launch} {e : Env} {s : State} {m : MethodId} {args : Array Value} {below : List Frame} {meth : Method} {c : Code} (C : dt_Cx nb G A p s m args meth c cX5_tallest 3 RX5) (hr : meth.sig.returnType = (some .int)) {k : Nat} (hk : k < 18 + nb ∧ dt_c k = 5) {M : dt_M} {res : Int32}  : ∀ (n : Nat) (x1 : Int32) (x2 : Int32) (T : dt_Ob), fX5_tallest_4 n x1 x2 T = some res → dt_At G A p l e (dt_rm 1) s m args below meth c 3 (MQ below (dt_Post G A (some (.int res)) (dt_put M k T)) args s 0 0 A) 4 [(0, .ref (G.1 k 0)), (1, .int x1), (2, .int x2)] [] (dt_put M k T) := by
  intro n
  induction n with
  | zero =>
    intro x1 x2 T h
    unfold fX5_tallest_4 at h
    cases h
  | succ n ih =>
    intro x1 x2 T h
    unfold fX5_tallest_4 at h
    refine dz_iload_n (pc := 4) C dX5_tallest_4 rfl 2 rfl ?_
    refine dz_aload_n (pc := 5) C dX5_tallest_5 rfl 0 rfl ?_
    refine dz_getI (pc := 6) (k := k) (j := 0) (v := (T 0 0)) C Fc_X5 hk (by decide) rfl rfl fl_X5_9 (dt_rA _ _ _ _ _) dX5_tallest_6 ?_
    refine dz_icmp_ge (pc := 9) (t := 29) C dX5_tallest_9 (by decide) h (fun h => ?_) (fun h => ?_)
    · refine dz_iload_n (pc := 29) C dX5_tallest_29 rfl 1 rfl ?_
      cases dt_some h
      exact dz_iret (pc := 30) C hr dX5_tallest_30
    · refine dz_iload_n (pc := 12) C dX5_tallest_12 rfl 1 rfl ?_
      refine dz_aload_n (pc := 13) C dX5_tallest_13 rfl 0 rfl ?_
      refine dz_getR (pc := 14) (k := k) (j := 9) C Fc_X5 hk (by decide) (by decide) rfl fl_X5_40 dX5_tallest_14 ?_
      refine dz_iload_n (pc := 17) C dX5_tallest_17 rfl 2 rfl ?_
      refine dz_iald (pc := 18) (k := k) (j := 9) (n := 8) (f := (T 9)) C hk (by decide) rfl (dt_rAf _ _ _ _) dX5_tallest_18 h (fun a1 h => ?_)
      refine dz_max (pc := 19) C ml_X5_75 (by omega) (Nat.le_of_ble_eq_true rfl) dX5_tallest_19 ?_
      refine dz_istore_n (pc := 22) C dX5_tallest_22 rfl (by decide) rfl ?_
      refine dz_iinc (pc := 23) (v := (x2 + (1 : Int32))) C dX5_tallest_23 2 rfl rfl (by decide) rfl ?_
      refine dz_goto (pc := 26) (t := 4) C dX5_tallest_26 (by decide) ?_
      refine dz_sub [2, 1, 0] rfl ?_
      exact ih (if x1 < ((T 9) a1) then ((T 9) a1) else x1) (x2 + (1 : Int32)) T h
def fX5_tallest  (T : dt_Ob) : Option (Int32) := (fX5_tallest_4 dt_F (0 : Int32) (0 : Int32) T)
set_option maxRecDepth 10000 in
set_option maxHeartbeats 4000000 in
theorem m_X5_tallest {nb : Nat} (l : Launch) {k : Nat} (hk : k < 18 + nb ∧ dt_c k = 5)  (M : dt_M) (T : dt_Ob)   {res : Int32} (h : fX5_tallest T = some res) : dt_Met nb l yX5_tallest cX5_tallest 3 (some .int) 1 (fun G => [.ref (G.1 k 0)]) (dt_put M k T) (some (.int res)) (dt_put M k T) := by
  refine dz_enter (lv := fun G => [(0, .ref (G.1 k 0))]) (by decide) (fun _ => rfl) (fun _ => Nat.le_of_ble_eq_true rfl) (fun G A p e s m args below meth c C hr => ?_)
  unfold fX5_tallest at h
  refine dz_iconst (pc := 0) (v := (0 : Int32)) C dX5_tallest_0 (by decide) ?_
  refine dz_istore_n (pc := 1) C dX5_tallest_1 rfl (by decide) rfl ?_
  refine dz_iconst (pc := 2) (v := (0 : Int32)) C dX5_tallest_2 (by decide) ?_
  refine dz_istore_n (pc := 3) C dX5_tallest_3 rfl (by decide) rfl ?_
  refine dz_sub [2, 1, 0] rfl ?_
  exact tX5_tallest_4 C hr hk dt_F (0 : Int32) (0 : Int32) T h

def fX5_bears_32  (x2 : Int32) (x3 : Int32) (T : dt_Ob) : Option (Int32) := (if (x2 &&& (2 : Int32)) = 0 then (some x3) else (some (x3 / (3 : Int32))))
set_option maxRecDepth 10000 in
set_option maxHeartbeats 4000000 in
theorem tX5_bears_32 {nb : Nat} {G : dt_G} {A : Nat → Prop} {p : Program} {l : Launch} {e : Env} {s : State} {m : MethodId} {args : Array Value} {below : List Frame} {meth : Method} {c : Code} (C : dt_Cx nb G A p s m args meth c cX5_bears 4 RX5) (hr : meth.sig.returnType = (some .int)) {k : Nat} (hk : k < 18 + nb ∧ dt_c k = 5) {M : dt_M} {res : Int32}  : ∀ (x2 : Int32) (x3 : Int32) (T : dt_Ob), fX5_bears_32 x2 x3 T = some res → dt_At G A p l e (dt_rm 1) s m args below meth c 4 (MQ below (dt_Post G A (some (.int res)) (dt_put M k T)) args s 0 0 A) 32 [(2, .int x2), (3, .int x3)] [] (dt_put M k T) := by
  intro x2 x3 T h
  unfold fX5_bears_32 at h
  refine dz_iload_n (pc := 32) C dX5_bears_32 rfl 0 rfl ?_
  refine dz_iconst (pc := 33) (v := (2 : Int32)) C dX5_bears_33 (by decide) ?_
  refine dz_iand (pc := 34) C dX5_bears_34 ?_
  refine dz_if_eq (pc := 35) (t := 44) C dX5_bears_35 (by decide) h (fun h => ?_) (fun h => ?_)
  · refine dz_iload_n (pc := 44) C dX5_bears_44 rfl 1 rfl ?_
    cases dt_some h
    exact dz_iret (pc := 45) C hr dX5_bears_45
  · refine dz_iload_n (pc := 38) C dX5_bears_38 rfl 1 rfl ?_
    refine dz_iconst (pc := 39) (v := (3 : Int32)) C dX5_bears_39 (by decide) ?_
    refine dz_idivc (pc := 40) C dX5_bears_40 (by decide) ?_
    refine dz_goto (pc := 41) (t := 45) C dX5_bears_41 (by decide) ?_
    cases dt_some h
    exact dz_iret (pc := 45) C hr dX5_bears_45
def fX5_bears  (x1 : Int32) (T : dt_Ob) : Option (Int32) := ((dt_ix x1 20).bind fun a1 => (if (((T 5) a1) &&& (4 : Int32)) = 0 then ((dt_ix x1 20).bind fun a2 => (if (((T 5) a1) &&& (1 : Int32)) = 0 then (fX5_bears_32 ((T 5) a1) ((T 4) a2) T) else (fX5_bears_32 ((T 5) a1) (((T 4) a2) / (2 : Int32)) T))) else (some (0 : Int32))))
set_option maxRecDepth 10000 in
set_option maxHeartbeats 4000000 in
theorem m_X5_bears {nb : Nat} (l : Launch) {k : Nat} (hk : k < 18 + nb ∧ dt_c k = 5)  (M : dt_M) (T : dt_Ob)  (x1 : Int32) {res : Int32} (h : fX5_bears x1 T = some res) : dt_Met nb l yX5_bears cX5_bears 4 (some .int) 1 (fun G => [.ref (G.1 k 0), .int x1]) (dt_put M k T) (some (.int res)) (dt_put M k T) := by
  refine dz_enter (lv := fun G => [(0, .ref (G.1 k 0)), (1, .int x1)]) (by decide) (fun _ => rfl) (fun _ => Nat.le_of_ble_eq_true rfl) (fun G A p e s m args below meth c C hr => ?_)
  unfold fX5_bears at h
  refine dz_aload_n (pc := 0) C dX5_bears_0 rfl 0 rfl ?_
  refine dz_getR (pc := 1) (k := k) (j := 5) C Fc_X5 hk (by decide) (by decide) rfl fl_X5_28 dX5_bears_1 ?_
  refine dz_iload_n (pc := 4) C dX5_bears_4 rfl 1 rfl ?_
  refine dz_iald (pc := 5) (k := k) (j := 5) (n := 20) (f := (T 5)) C hk (by decide) rfl (dt_rAf _ _ _ _) dX5_bears_5 h (fun a1 h => ?_)
  refine dz_istore_n (pc := 6) C dX5_bears_6 rfl (by decide) rfl ?_
  refine dz_iload_n (pc := 7) C dX5_bears_7 rfl 0 rfl ?_
  refine dz_iconst (pc := 8) (v := (4 : Int32)) C dX5_bears_8 (by decide) ?_
  refine dz_iand (pc := 9) C dX5_bears_9 ?_
  refine dz_if_eq (pc := 10) (t := 15) C dX5_bears_10 (by decide) h (fun h => ?_) (fun h => ?_)
  · refine dz_aload_n (pc := 15) C dX5_bears_15 rfl 1 rfl ?_
    refine dz_getR (pc := 16) (k := k) (j := 4) C Fc_X5 hk (by decide) (by decide) rfl fl_X5_25 dX5_bears_16 ?_
    refine dz_iload_n (pc := 19) C dX5_bears_19 rfl 2 rfl ?_
    refine dz_iald (pc := 20) (k := k) (j := 4) (n := 20) (f := (T 4)) C hk (by decide) rfl (dt_rAf _ _ _ _) dX5_bears_20 h (fun a2 h => ?_)
    refine dz_istore_n (pc := 21) C dX5_bears_21 rfl (by decide) rfl ?_
    refine dz_iload_n (pc := 22) C dX5_bears_22 rfl 1 rfl ?_
    refine dz_iconst (pc := 23) (v := (1 : Int32)) C dX5_bears_23 (by decide) ?_
    refine dz_iand (pc := 24) C dX5_bears_24 ?_
    refine dz_if_eq (pc := 25) (t := 32) C dX5_bears_25 (by decide) h (fun h => ?_) (fun h => ?_)
    · refine dz_sub [1, 0] rfl ?_
      exact tX5_bears_32 C hr hk  ((T 5) a1) ((T 4) a2) T h
    · refine dz_iload_n (pc := 28) C dX5_bears_28 rfl 0 rfl ?_
      refine dz_iconst (pc := 29) (v := (2 : Int32)) C dX5_bears_29 (by decide) ?_
      refine dz_idivc (pc := 30) C dX5_bears_30 (by decide) ?_
      refine dz_istore_n (pc := 31) C dX5_bears_31 rfl (by decide) rfl ?_
      refine dz_sub [1, 0] rfl ?_
      exact tX5_bears_32 C hr hk  ((T 5) a1) (((T 4) a2) / (2 : Int32)) T h
  · refine dz_iconst (pc := 13) (v := (0 : Int32)) C dX5_bears_13 (by decide) ?_
    cases dt_some h
    exact dz_iret (pc := 14) C hr dX5_bears_14

def fX5_heightAt  (x1 : Int32) (T : dt_Ob) : Option (Int32) := (if x1 < 0 then (some (0 : Int32)) else (if (8 : Int32) ≤ x1 then (some (0 : Int32)) else ((dt_ix x1 8).bind fun a1 => (some ((T 9) a1)))))
set_option maxRecDepth 10000 in
set_option maxHeartbeats 4000000 in
theorem m_X5_heightAt {nb : Nat} (l : Launch) {k : Nat} (hk : k < 18 + nb ∧ dt_c k = 5)  (M : dt_M) (T : dt_Ob)  (x1 : Int32) {res : Int32} (h : fX5_heightAt x1 T = some res) : dt_Met nb l yX5_heightAt cX5_heightAt 2 (some .int) 1 (fun G => [.ref (G.1 k 0), .int x1]) (dt_put M k T) (some (.int res)) (dt_put M k T) := by
  refine dz_enter (lv := fun G => [(0, .ref (G.1 k 0)), (1, .int x1)]) (by decide) (fun _ => rfl) (fun _ => Nat.le_of_ble_eq_true rfl) (fun G A p e s m args below meth c C hr => ?_)
  unfold fX5_heightAt at h
  refine dz_iload_n (pc := 0) C dX5_heightAt_0 rfl 1 rfl ?_
  refine dz_if_lt (pc := 1) (t := 19) C dX5_heightAt_1 (by decide) h (fun h => ?_) (fun h => ?_)
  · refine dz_iconst (pc := 19) (v := (0 : Int32)) C dX5_heightAt_19 (by decide) ?_
    cases dt_some h
    exact dz_iret (pc := 20) C hr dX5_heightAt_20
  · refine dz_iload_n (pc := 4) C dX5_heightAt_4 rfl 1 rfl ?_
    refine dz_bipush (pc := 5) (v := (8 : Int32)) C dX5_heightAt_5 (by decide) ?_
    refine dz_icmp_ge (pc := 7) (t := 19) C dX5_heightAt_7 (by decide) h (fun h => ?_) (fun h => ?_)
    · refine dz_iconst (pc := 19) (v := (0 : Int32)) C dX5_heightAt_19 (by decide) ?_
      cases dt_some h
      exact dz_iret (pc := 20) C hr dX5_heightAt_20
    · refine dz_aload_n (pc := 10) C dX5_heightAt_10 rfl 0 rfl ?_
      refine dz_getR (pc := 11) (k := k) (j := 9) C Fc_X5 hk (by decide) (by decide) rfl fl_X5_40 dX5_heightAt_11 ?_
      refine dz_iload_n (pc := 14) C dX5_heightAt_14 rfl 1 rfl ?_
      refine dz_iald (pc := 15) (k := k) (j := 9) (n := 8) (f := (T 9)) C hk (by decide) rfl (dt_rAf _ _ _ _) dX5_heightAt_15 h (fun a1 h => ?_)
      refine dz_goto (pc := 16) (t := 20) C dX5_heightAt_16 (by decide) ?_
      cases dt_some h
      exact dz_iret (pc := 20) C hr dX5_heightAt_20

def fX5_cellAt_25  (x1 : Int32) (x2 : Int32) (s0 : Int32) (T : dt_Ob) : Option (Int32) := (if s0 = 0 then (some (-1 : Int32)) else ((dt_ix ((x1 * (20 : Int32)) + x2) 160).bind fun a1 => (some ((T 10) a1))))
set_option maxRecDepth 10000 in
set_option maxHeartbeats 4000000 in
theorem tX5_cellAt_25 {nb : Nat} {G : dt_G} {A : Nat → Prop} {p : Program} {l : Launch} {e : Env} {s : State} {m : MethodId} {args : Array Value} {below : List Frame} {meth : Method} {c : Code} (C : dt_Cx nb G A p s m args meth c cX5_cellAt 4 RX5) (hr : meth.sig.returnType = (some .int)) {k : Nat} (hk : k < 18 + nb ∧ dt_c k = 5) {M : dt_M} {res : Int32}  : ∀ (x1 : Int32) (x2 : Int32) (s0 : Int32) (T : dt_Ob), fX5_cellAt_25 x1 x2 s0 T = some res → dt_At G A p l e (dt_rm 1) s m args below meth c 4 (MQ below (dt_Post G A (some (.int res)) (dt_put M k T)) args s 0 0 A) 25 [(0, .ref (G.1 k 0)), (1, .int x1), (2, .int x2)] [.int s0] (dt_put M k T) := by
  intro x1 x2 s0 T h
  unfold fX5_cellAt_25 at h
  refine dz_istore_n (pc := 25) C dX5_cellAt_25 rfl (by decide) rfl ?_
  refine dz_iload_n (pc := 26) C dX5_cellAt_26 rfl 0 rfl ?_
  refine dz_if_eq (pc := 27) (t := 44) C dX5_cellAt_27 (by decide) h (fun h => ?_) (fun h => ?_)
  · refine dz_iconst (pc := 44) (v := (-1 : Int32)) C dX5_cellAt_44 (by decide) ?_
    cases dt_some h
    exact dz_iret (pc := 45) C hr dX5_cellAt_45
  · refine dz_aload_n (pc := 30) C dX5_cellAt_30 rfl 1 rfl ?_
    refine dz_getR (pc := 31) (k := k) (j := 10) C Fc_X5 hk (by decide) (by decide) rfl fl_X5_43 dX5_cellAt_31 ?_
    refine dz_iload_n (pc := 34) C dX5_cellAt_34 rfl 2 rfl ?_
    refine dz_bipush (pc := 35) (v := (20 : Int32)) C dX5_cellAt_35 (by decide) ?_
    refine dz_imul (pc := 37) C dX5_cellAt_37 ?_
    refine dz_iload_n (pc := 38) C dX5_cellAt_38 rfl 3 rfl ?_
    refine dz_iadd (pc := 39) C dX5_cellAt_39 ?_
    refine dz_iald (pc := 40) (k := k) (j := 10) (n := 160) (f := (T 10)) C hk (by decide) rfl (dt_rAf _ _ _ _) dX5_cellAt_40 h (fun a1 h => ?_)
    refine dz_goto (pc := 41) (t := 45) C dX5_cellAt_41 (by decide) ?_
    cases dt_some h
    exact dz_iret (pc := 45) C hr dX5_cellAt_45
def fX5_cellAt_24  (x1 : Int32) (x2 : Int32) (T : dt_Ob) : Option (Int32) := (fX5_cellAt_25 x1 x2 (0 : Int32) T)
set_option maxRecDepth 10000 in
set_option maxHeartbeats 4000000 in
theorem tX5_cellAt_24 {nb : Nat} {G : dt_G} {A : Nat → Prop} {p : Program} {l : Launch} {e : Env} {s : State} {m : MethodId} {args : Array Value} {below : List Frame} {meth : Method} {c : Code} (C : dt_Cx nb G A p s m args meth c cX5_cellAt 4 RX5) (hr : meth.sig.returnType = (some .int)) {k : Nat} (hk : k < 18 + nb ∧ dt_c k = 5) {M : dt_M} {res : Int32}  : ∀ (x1 : Int32) (x2 : Int32) (T : dt_Ob), fX5_cellAt_24 x1 x2 T = some res → dt_At G A p l e (dt_rm 1) s m args below meth c 4 (MQ below (dt_Post G A (some (.int res)) (dt_put M k T)) args s 0 0 A) 24 [(0, .ref (G.1 k 0)), (1, .int x1), (2, .int x2)] [] (dt_put M k T) := by
  intro x1 x2 T h
  unfold fX5_cellAt_24 at h
  refine dz_iconst (pc := 24) (v := (0 : Int32)) C dX5_cellAt_24 (by decide) ?_
  exact tX5_cellAt_25 C hr hk  x1 x2 (0 : Int32) T h
def fX5_cellAt  (x1 : Int32) (x2 : Int32) (T : dt_Ob) : Option (Int32) := (if x1 < 0 then (fX5_cellAt_24 x1 x2 T) else (if (8 : Int32) ≤ x1 then (fX5_cellAt_24 x1 x2 T) else (if x2 < 0 then (fX5_cellAt_24 x1 x2 T) else (if (20 : Int32) ≤ x2 then (fX5_cellAt_24 x1 x2 T) else (fX5_cellAt_25 x1 x2 (1 : Int32) T)))))
set_option maxRecDepth 10000 in
set_option maxHeartbeats 4000000 in
theorem m_X5_cellAt {nb : Nat} (l : Launch) {k : Nat} (hk : k < 18 + nb ∧ dt_c k = 5)  (M : dt_M) (T : dt_Ob)  (x1 : Int32) (x2 : Int32) {res : Int32} (h : fX5_cellAt x1 x2 T = some res) : dt_Met nb l yX5_cellAt cX5_cellAt 4 (some .int) 1 (fun G => [.ref (G.1 k 0), .int x1, .int x2]) (dt_put M k T) (some (.int res)) (dt_put M k T) := by
  refine dz_enter (lv := fun G => [(0, .ref (G.1 k 0)), (1, .int x1), (2, .int x2)]) (by decide) (fun _ => rfl) (fun _ => Nat.le_of_ble_eq_true rfl) (fun G A p e s m args below meth c C hr => ?_)
  unfold fX5_cellAt at h
  refine dz_iload_n (pc := 0) C dX5_cellAt_0 rfl 1 rfl ?_
  refine dz_if_lt (pc := 1) (t := 24) C dX5_cellAt_1 (by decide) h (fun h => ?_) (fun h => ?_)
  · exact tX5_cellAt_24 C hr hk  x1 x2 T h
  · refine dz_iload_n (pc := 4) C dX5_cellAt_4 rfl 1 rfl ?_
    refine dz_bipush (pc := 5) (v := (8 : Int32)) C dX5_cellAt_5 (by decide) ?_
    refine dz_icmp_ge (pc := 7) (t := 24) C dX5_cellAt_7 (by decide) h (fun h => ?_) (fun h => ?_)
    · exact tX5_cellAt_24 C hr hk  x1 x2 T h
    · refine dz_iload_n (pc := 10) C dX5_cellAt_10 rfl 2 rfl ?_
      refine dz_if_lt (pc := 11) (t := 24) C dX5_cellAt_11 (by decide) h (fun h => ?_) (fun h => ?_)
      · exact tX5_cellAt_24 C hr hk  x1 x2 T h
      · refine dz_iload_n (pc := 14) C dX5_cellAt_14 rfl 2 rfl ?_
        refine dz_bipush (pc := 15) (v := (20 : Int32)) C dX5_cellAt_15 (by decide) ?_
        refine dz_icmp_ge (pc := 17) (t := 24) C dX5_cellAt_17 (by decide) h (fun h => ?_) (fun h => ?_)
        · exact tX5_cellAt_24 C hr hk  x1 x2 T h
        · refine dz_iconst (pc := 20) (v := (1 : Int32)) C dX5_cellAt_20 (by decide) ?_
          refine dz_goto (pc := 21) (t := 25) C dX5_cellAt_21 (by decide) ?_
          exact tX5_cellAt_25 C hr hk  x1 x2 (1 : Int32) T h

def fX5_mark  (x1 : Int32) (x2 : Int32) (x3 : Int32) (T : dt_Ob) : Option (dt_Ob) := (if x1 < 0 then (some T) else (if (8 : Int32) ≤ x1 then (some T) else (if x2 < 0 then (some T) else (if (20 : Int32) ≤ x2 then (some T) else ((dt_ix ((x1 * (20 : Int32)) + x2) 160).bind fun a1 => (some (dt_set T 10 a1 x3)))))))
set_option maxRecDepth 10000 in
set_option maxHeartbeats 4000000 in
theorem m_X5_mark {nb : Nat} (l : Launch) {k : Nat} (hk : k < 18 + nb ∧ dt_c k = 5)  (M : dt_M) (T : dt_Ob)  (x1 : Int32) (x2 : Int32) (x3 : Int32) {res : dt_Ob} (h : fX5_mark x1 x2 x3 T = some res) : dt_Met nb l yX5_mark cX5_mark 4 none 1 (fun G => [.ref (G.1 k 0), .int x1, .int x2, .int x3]) (dt_put M k T) none (dt_put M k res) := by
  refine dz_enter (lv := fun G => [(0, .ref (G.1 k 0)), (1, .int x1), (2, .int x2), (3, .int x3)]) (by decide) (fun _ => rfl) (fun _ => Nat.le_of_ble_eq_true rfl) (fun G A p e s m args below meth c C hr => ?_)
  unfold fX5_mark at h
  refine dz_iload_n (pc := 0) C dX5_mark_0 rfl 1 rfl ?_
  refine dz_if_lt (pc := 1) (t := 32) C dX5_mark_1 (by decide) h (fun h => ?_) (fun h => ?_)
  · cases dt_some h
    exact dz_vret (pc := 32) C hr dX5_mark_32
  · refine dz_iload_n (pc := 4) C dX5_mark_4 rfl 1 rfl ?_
    refine dz_bipush (pc := 5) (v := (8 : Int32)) C dX5_mark_5 (by decide) ?_
    refine dz_icmp_ge (pc := 7) (t := 32) C dX5_mark_7 (by decide) h (fun h => ?_) (fun h => ?_)
    · cases dt_some h
      exact dz_vret (pc := 32) C hr dX5_mark_32
    · refine dz_iload_n (pc := 10) C dX5_mark_10 rfl 2 rfl ?_
      refine dz_if_lt (pc := 11) (t := 32) C dX5_mark_11 (by decide) h (fun h => ?_) (fun h => ?_)
      · cases dt_some h
        exact dz_vret (pc := 32) C hr dX5_mark_32
      · refine dz_iload_n (pc := 14) C dX5_mark_14 rfl 2 rfl ?_
        refine dz_bipush (pc := 15) (v := (20 : Int32)) C dX5_mark_15 (by decide) ?_
        refine dz_icmp_ge (pc := 17) (t := 32) C dX5_mark_17 (by decide) h (fun h => ?_) (fun h => ?_)
        · cases dt_some h
          exact dz_vret (pc := 32) C hr dX5_mark_32
        · refine dz_aload_n (pc := 20) C dX5_mark_20 rfl 0 rfl ?_
          refine dz_getR (pc := 21) (k := k) (j := 10) C Fc_X5 hk (by decide) (by decide) rfl fl_X5_43 dX5_mark_21 ?_
          refine dz_iload_n (pc := 24) C dX5_mark_24 rfl 1 rfl ?_
          refine dz_bipush (pc := 25) (v := (20 : Int32)) C dX5_mark_25 (by decide) ?_
          refine dz_imul (pc := 27) C dX5_mark_27 ?_
          refine dz_iload_n (pc := 28) C dX5_mark_28 rfl 2 rfl ?_
          refine dz_iadd (pc := 29) C dX5_mark_29 ?_
          refine dz_iload_n (pc := 30) C dX5_mark_30 rfl 3 rfl ?_
          refine dz_iast (pc := 31) (k := k) (j := 10) (n := 160) (M' := fun a1 => (dt_put M k (dt_set T 10 a1 x3))) C hk (by decide) rfl (fun a1 => (dt_wA _ _ _ _ _ _)) dX5_mark_31 h (fun a1 h => ?_)
          cases dt_some h
          exact dz_vret (pc := 32) C hr dX5_mark_32

def fX5_settle_38  (x1 : Int32) (x2 : Int32) (T : dt_Ob) : Option (dt_Ob) := (if x1 < 0 then (some T) else (if (8 : Int32) ≤ x1 then (some T) else ((dt_ix x1 8).bind fun a3 => (some (dt_set T 9 a3 x2)))))
set_option maxRecDepth 10000 in
set_option maxHeartbeats 4000000 in
theorem tX5_settle_38 {nb : Nat} {G : dt_G} {A : Nat → Prop} {p : Program} {l : Launch} {e : Env} {s : State} {m : MethodId} {args : Array Value} {below : List Frame} {meth : Method} {c : Code} (C : dt_Cx nb G A p s m args meth c cX5_settle 4 RX5) (hr : meth.sig.returnType = none) {k : Nat} (hk : k < 18 + nb ∧ dt_c k = 5) {M : dt_M} {res : dt_Ob}  : ∀ (x1 : Int32) (x2 : Int32) (T : dt_Ob), fX5_settle_38 x1 x2 T = some res → dt_At G A p l e (dt_rm 2) s m args below meth c 4 (MQ below (dt_Post G A none (dt_put M k res)) args s 0 0 A) 38 [(0, .ref (G.1 k 0)), (1, .int x1), (2, .int x2)] [] (dt_put M k T) := by
  intro x1 x2 T h
  unfold fX5_settle_38 at h
  refine dz_iload_n (pc := 38) C dX5_settle_38 rfl 1 rfl ?_
  refine dz_if_lt (pc := 39) (t := 55) C dX5_settle_39 (by decide) h (fun h => ?_) (fun h => ?_)
  · cases dt_some h
    exact dz_vret (pc := 55) C hr dX5_settle_55
  · refine dz_iload_n (pc := 42) C dX5_settle_42 rfl 1 rfl ?_
    refine dz_bipush (pc := 43) (v := (8 : Int32)) C dX5_settle_43 (by decide) ?_
    refine dz_icmp_ge (pc := 45) (t := 55) C dX5_settle_45 (by decide) h (fun h => ?_) (fun h => ?_)
    · cases dt_some h
      exact dz_vret (pc := 55) C hr dX5_settle_55
    · refine dz_aload_n (pc := 48) C dX5_settle_48 rfl 0 rfl ?_
      refine dz_getR (pc := 49) (k := k) (j := 9) C Fc_X5 hk (by decide) (by decide) rfl fl_X5_40 dX5_settle_49 ?_
      refine dz_iload_n (pc := 52) C dX5_settle_52 rfl 1 rfl ?_
      refine dz_iload_n (pc := 53) C dX5_settle_53 rfl 2 rfl ?_
      refine dz_iast (pc := 54) (k := k) (j := 9) (n := 8) (M' := fun a3 => (dt_put M k (dt_set T 9 a3 x2))) C hk (by decide) rfl (fun a3 => (dt_wA _ _ _ _ _ _)) dX5_settle_54 h (fun a3 h => ?_)
      cases dt_some h
      exact dz_vret (pc := 55) C hr dX5_settle_55
def fX5_settle_32 (r10 : Int32 → Int32 → Int32 → dt_Ob → Option (dt_Ob)) (x1 : Int32) (x2 : Int32) (x3 : Int32) (T : dt_Ob) : Option (dt_Ob) := (r10 x1 x2 (x3 + (-1 : Int32)) T)
set_option maxRecDepth 10000 in
set_option maxHeartbeats 4000000 in
theorem tX5_settle_32 {nb : Nat} {G : dt_G} {A : Nat → Prop} {p : Program} {l : Launch} {e : Env} {s : State} {m : MethodId} {args : Array Value} {below : List Frame} {meth : Method} {c : Code} (C : dt_Cx nb G A p s m args meth c cX5_settle 4 RX5) (hr : meth.sig.returnType = none) {k : Nat} (hk : k < 18 + nb ∧ dt_c k = 5) {M : dt_M} {res : dt_Ob} {r10 : Int32 → Int32 → Int32 → dt_Ob → Option (dt_Ob)} (hr10 : ∀ (x1 : Int32) (x2 : Int32) (x3 : Int32) (T : dt_Ob), r10 x1 x2 x3 T = some res → dt_At G A p l e (dt_rm 2) s m args below meth c 4 (MQ below (dt_Post G A none (dt_put M k res)) args s 0 0 A) 10 [(0, .ref (G.1 k 0)), (1, .int x1), (2, .int x2), (3, .int x3)] [] (dt_put M k T)) : ∀ (x1 : Int32) (x2 : Int32) (x3 : Int32) (T : dt_Ob), fX5_settle_32 r10 x1 x2 x3 T = some res → dt_At G A p l e (dt_rm 2) s m args below meth c 4 (MQ below (dt_Post G A none (dt_put M k res)) args s 0 0 A) 32 [(0, .ref (G.1 k 0)), (1, .int x1), (2, .int x2), (3, .int x3)] [] (dt_put M k T) := by
  intro x1 x2 x3 T h
  unfold fX5_settle_32 at h
  refine dz_iinc (pc := 32) (v := (x3 + (-1 : Int32))) C dX5_settle_32 3 rfl rfl (by decide) rfl ?_
  refine dz_goto (pc := 35) (t := 10) C dX5_settle_35 (by decide) ?_
  refine dz_sub [1, 2, 3, 0] rfl ?_
  exact hr10 x1 x2 (x3 + (-1 : Int32)) T h
def fX5_settle_10  : Nat → Int32 → Int32 → Int32 → dt_Ob → Option (dt_Ob)
  | 0, _, _, _, _ => none
  | n + 1, x1, x2, x3, T => (if x3 < 0 then (fX5_settle_38 x1 x2 T) else (if x2 = 0 then ((fX5_cellAt x1 x3 T).bind fun q2 => (if q2 = (-1 : Int32) then (fX5_settle_32 (fX5_settle_10 n) x1 x2 x3 T) else (fX5_settle_32 (fX5_settle_10 n) x1 (x3 + (1 : Int32)) x3 T))) else (fX5_settle_38 x1 x2 T)))
set_option maxRecDepth 10000 in
set_option maxHeartbeats 4000000 in
theorem tX5_settle_10 {nb : Nat} {G : dt_G} {A : Nat → Prop} {p : Program} {l : Launch} {e : Env} {s : State} {m : MethodId} {args : Array Value} {below : List Frame} {meth : Method} {c : Code} (C : dt_Cx nb G A p s m args meth c cX5_settle 4 RX5) (hr : meth.sig.returnType = none) {k : Nat} (hk : k < 18 + nb ∧ dt_c k = 5) {M : dt_M} {res : dt_Ob}  : ∀ (n : Nat) (x1 : Int32) (x2 : Int32) (x3 : Int32) (T : dt_Ob), fX5_settle_10 n x1 x2 x3 T = some res → dt_At G A p l e (dt_rm 2) s m args below meth c 4 (MQ below (dt_Post G A none (dt_put M k res)) args s 0 0 A) 10 [(0, .ref (G.1 k 0)), (1, .int x1), (2, .int x2), (3, .int x3)] [] (dt_put M k T) := by
  intro n
  induction n with
  | zero =>
    intro x1 x2 x3 T h
    unfold fX5_settle_10 at h
    cases h
  | succ n ih =>
    intro x1 x2 x3 T h
    unfold fX5_settle_10 at h
    refine dz_iload_n (pc := 10) C dX5_settle_10 rfl 3 rfl ?_
    refine dz_if_lt (pc := 11) (t := 38) C dX5_settle_11 (by decide) h (fun h => ?_) (fun h => ?_)
    · refine dz_sub [0, 1, 2] rfl ?_
      exact tX5_settle_38 C hr hk  x1 x2 T h
    · refine dz_iload_n (pc := 14) C dX5_settle_14 rfl 2 rfl ?_
      refine dz_if_ne (pc := 15) (t := 38) C dX5_settle_15 (by decide) h (fun h => ?_) (fun h => ?_)
      · refine dz_sub [0, 1, 2] rfl ?_
        exact tX5_settle_38 C hr hk  x1 x2 T h
      · refine dz_aload_n (pc := 18) C dX5_settle_18 rfl 0 rfl ?_
        refine dz_iload_n (pc := 19) C dX5_settle_19 rfl 1 rfl ?_
        refine dz_iload_n (pc := 20) C dX5_settle_20 rfl 3 rfl ?_
        obtain ⟨q2, eq2, h⟩ := dt_bind h
        refine dz_callVi (pc := 21) (st := []) (k := k) (As := [.int x1, .int x3]) (M' := (dt_put M k T)) C Fc_X5 hk mf_X5_cellAt rfl ml_X5_93 (m_X5_cellAt l hk _ _ _ _ eq2) rfl rfl (by omega) (by decide) (Nat.le_of_ble_eq_true rfl) dX5_settle_21 ?_
        refine dz_iconst (pc := 24) (v := (-1 : Int32)) C dX5_settle_24 (by decide) ?_
        refine dz_icmp_eq (pc := 25) (t := 32) C dX5_settle_25 (by decide) h (fun h => ?_) (fun h => ?_)
        · exact tX5_settle_32 C hr hk ih x1 x2 x3 T h
        · refine dz_iload_n (pc := 28) C dX5_settle_28 rfl 3 rfl ?_
          refine dz_iconst (pc := 29) (v := (1 : Int32)) C dX5_settle_29 (by decide) ?_
          refine dz_iadd (pc := 30) C dX5_settle_30 ?_
          refine dz_istore_n (pc := 31) C dX5_settle_31 rfl (by decide) rfl ?_
          refine dz_sub [1, 2, 0, 3] rfl ?_
          exact tX5_settle_32 C hr hk ih x1 (x3 + (1 : Int32)) x3 T h
def fX5_settle  (x1 : Int32) (T : dt_Ob) : Option (dt_Ob) := ((fX5_heightAt x1 T).bind fun q1 => (fX5_settle_10 dt_F x1 (0 : Int32) (q1 - (1 : Int32)) T))
set_option maxRecDepth 10000 in
set_option maxHeartbeats 4000000 in
theorem m_X5_settle {nb : Nat} (l : Launch) {k : Nat} (hk : k < 18 + nb ∧ dt_c k = 5)  (M : dt_M) (T : dt_Ob)  (x1 : Int32) {res : dt_Ob} (h : fX5_settle x1 T = some res) : dt_Met nb l yX5_settle cX5_settle 4 none 2 (fun G => [.ref (G.1 k 0), .int x1]) (dt_put M k T) none (dt_put M k res) := by
  refine dz_enter (lv := fun G => [(0, .ref (G.1 k 0)), (1, .int x1)]) (by decide) (fun _ => rfl) (fun _ => Nat.le_of_ble_eq_true rfl) (fun G A p e s m args below meth c C hr => ?_)
  unfold fX5_settle at h
  refine dz_iconst (pc := 0) (v := (0 : Int32)) C dX5_settle_0 (by decide) ?_
  refine dz_istore_n (pc := 1) C dX5_settle_1 rfl (by decide) rfl ?_
  refine dz_aload_n (pc := 2) C dX5_settle_2 rfl 1 rfl ?_
  refine dz_iload_n (pc := 3) C dX5_settle_3 rfl 2 rfl ?_
  obtain ⟨q1, eq1, h⟩ := dt_bind h
  refine dz_callVi (pc := 4) (st := []) (k := k) (As := [.int x1]) (M' := (dt_put M k T)) C Fc_X5 hk mf_X5_heightAt rfl ml_X5_87 (m_X5_heightAt l hk _ _ _ eq1) rfl rfl (by omega) (by decide) (Nat.le_of_ble_eq_true rfl) dX5_settle_4 ?_
  refine dz_iconst (pc := 7) (v := (1 : Int32)) C dX5_settle_7 (by decide) ?_
  refine dz_isub (pc := 8) C dX5_settle_8 ?_
  refine dz_istore_n (pc := 9) C dX5_settle_9 rfl (by decide) rfl ?_
  refine dz_sub [2, 3, 1, 0] rfl ?_
  exact tX5_settle_10 C hr hk dt_F x1 (0 : Int32) (q1 - (1 : Int32)) T h

def fX5_toYard  (x1 : Int32) (x2 : Int32) (T : dt_Ob) : Option (dt_Ob) := ((dt_ix x1 20).bind fun a1 => ((dt_ix x1 20).bind fun a2 => ((dt_ix x1 20).bind fun a3 => (some (dt_set (dt_set (dt_set T 6 a1 x2) 7 a2 (-1 : Int32)) 8 a3 (-1 : Int32))))))
set_option maxRecDepth 10000 in
set_option maxHeartbeats 4000000 in
theorem m_X5_toYard {nb : Nat} (l : Launch) {k : Nat} (hk : k < 18 + nb ∧ dt_c k = 5)  (M : dt_M) (T : dt_Ob)  (x1 : Int32) (x2 : Int32) {res : dt_Ob} (h : fX5_toYard x1 x2 T = some res) : dt_Met nb l yX5_toYard cX5_toYard 3 none 1 (fun G => [.ref (G.1 k 0), .int x1, .int x2]) (dt_put M k T) none (dt_put M k res) := by
  refine dz_enter (lv := fun G => [(0, .ref (G.1 k 0)), (1, .int x1), (2, .int x2)]) (by decide) (fun _ => rfl) (fun _ => Nat.le_of_ble_eq_true rfl) (fun G A p e s m args below meth c C hr => ?_)
  unfold fX5_toYard at h
  refine dz_aload_n (pc := 0) C dX5_toYard_0 rfl 0 rfl ?_
  refine dz_getR (pc := 1) (k := k) (j := 6) C Fc_X5 hk (by decide) (by decide) rfl fl_X5_31 dX5_toYard_1 ?_
  refine dz_iload_n (pc := 4) C dX5_toYard_4 rfl 1 rfl ?_
  refine dz_iload_n (pc := 5) C dX5_toYard_5 rfl 2 rfl ?_
  refine dz_iast (pc := 6) (k := k) (j := 6) (n := 20) (M' := fun a1 => (dt_put M k (dt_set T 6 a1 x2))) C hk (by decide) rfl (fun a1 => (dt_wA _ _ _ _ _ _)) dX5_toYard_6 h (fun a1 h => ?_)
  refine dz_aload_n (pc := 7) C dX5_toYard_7 rfl 0 rfl ?_
  refine dz_getR (pc := 8) (k := k) (j := 7) C Fc_X5 hk (by decide) (by decide) rfl fl_X5_34 dX5_toYard_8 ?_
  refine dz_iload_n (pc := 11) C dX5_toYard_11 rfl 1 rfl ?_
  refine dz_iconst (pc := 12) (v := (-1 : Int32)) C dX5_toYard_12 (by decide) ?_
  refine dz_iast (pc := 13) (k := k) (j := 7) (n := 20) (M' := fun a2 => (dt_put M k (dt_set (dt_set T 6 a1 x2) 7 a2 (-1 : Int32)))) C hk (by decide) rfl (fun a2 => (dt_wA _ _ _ _ _ _)) dX5_toYard_13 h (fun a2 h => ?_)
  refine dz_aload_n (pc := 14) C dX5_toYard_14 rfl 0 rfl ?_
  refine dz_getR (pc := 15) (k := k) (j := 8) C Fc_X5 hk (by decide) (by decide) rfl fl_X5_37 dX5_toYard_15 ?_
  refine dz_iload_n (pc := 18) C dX5_toYard_18 rfl 1 rfl ?_
  refine dz_iconst (pc := 19) (v := (-1 : Int32)) C dX5_toYard_19 (by decide) ?_
  refine dz_iast (pc := 20) (k := k) (j := 8) (n := 20) (M' := fun a3 => (dt_put M k (dt_set (dt_set (dt_set T 6 a1 x2) 7 a2 (-1 : Int32)) 8 a3 (-1 : Int32)))) C hk (by decide) rfl (fun a3 => (dt_wA _ _ _ _ _ _)) dX5_toYard_20 h (fun a3 h => ?_)
  cases dt_some h
  exact dz_vret (pc := 21) C hr dX5_toYard_21

def fX5_isFree_2  : Nat → Int32 → Int32 → dt_Ob → Option (Int32)
  | 0, _, _, _ => none
  | n + 1, x1, x2, T => ((dt_ix x1 20).bind fun a1 => (if ((T 2) a1) ≤ x2 then (some (1 : Int32)) else ((dt_ix x1 20).bind fun a2 => ((fX5_heightAt (((T 7) a2) + x2) T).bind fun q3 => ((dt_ix x1 20).bind fun a4 => (if q3 ≤ (((T 8) a4) + (1 : Int32)) then ((fX5_isFree_2 n) x1 (x2 + (1 : Int32)) T) else (some (0 : Int32))))))))
set_option maxRecDepth 10000 in
set_option maxHeartbeats 4000000 in
theorem tX5_isFree_2 {nb : Nat} {G : dt_G} {A : Nat → Prop} {p : Program} {l : Launch} {e : Env} {s : State} {m : MethodId} {args : Array Value} {below : List Frame} {meth : Method} {c : Code} (C : dt_Cx nb G A p s m args meth c cX5_isFree 3 RX5) (hr : meth.sig.returnType = (some .boolean)) {k : Nat} (hk : k < 18 + nb ∧ dt_c k = 5) {M : dt_M} {res : Int32}  : ∀ (n : Nat) (x1 : Int32) (x2 : Int32) (T : dt_Ob), fX5_isFree_2 n x1 x2 T = some res → dt_At G A p l e (dt_rm 2) s m args below meth c 3 (MQ below (dt_Post G A (some (.int res)) (dt_put M k T)) args s 0 0 A) 2 [(0, .ref (G.1 k 0)), (1, .int x1), (2, .int x2)] [] (dt_put M k T) := by
  intro n
  induction n with
  | zero =>
    intro x1 x2 T h
    unfold fX5_isFree_2 at h
    cases h
  | succ n ih =>
    intro x1 x2 T h
    unfold fX5_isFree_2 at h
    refine dz_iload_n (pc := 2) C dX5_isFree_2 rfl 2 rfl ?_
    refine dz_aload_n (pc := 3) C dX5_isFree_3 rfl 0 rfl ?_
    refine dz_getR (pc := 4) (k := k) (j := 2) C Fc_X5 hk (by decide) (by decide) rfl fl_X5_18 dX5_isFree_4 ?_
    refine dz_iload_n (pc := 7) C dX5_isFree_7 rfl 1 rfl ?_
    refine dz_iald (pc := 8) (k := k) (j := 2) (n := 20) (f := (T 2)) C hk (by decide) rfl (dt_rAf _ _ _ _) dX5_isFree_8 h (fun a1 h => ?_)
    refine dz_icmp_ge (pc := 9) (t := 43) C dX5_isFree_9 (by decide) h (fun h => ?_) (fun h => ?_)
    · refine dz_iconst (pc := 43) (v := (1 : Int32)) C dX5_isFree_43 (by decide) ?_
      cases dt_some h
      exact dz_zret (pc := 44) C hr (Or.inr rfl) dX5_isFree_44
    · refine dz_aload_n (pc := 12) C dX5_isFree_12 rfl 0 rfl ?_
      refine dz_aload_n (pc := 13) C dX5_isFree_13 rfl 0 rfl ?_
      refine dz_getR (pc := 14) (k := k) (j := 7) C Fc_X5 hk (by decide) (by decide) rfl fl_X5_34 dX5_isFree_14 ?_
      refine dz_iload_n (pc := 17) C dX5_isFree_17 rfl 1 rfl ?_
      refine dz_iald (pc := 18) (k := k) (j := 7) (n := 20) (f := (T 7)) C hk (by decide) rfl (dt_rAf _ _ _ _) dX5_isFree_18 h (fun a2 h => ?_)
      refine dz_iload_n (pc := 19) C dX5_isFree_19 rfl 2 rfl ?_
      refine dz_iadd (pc := 20) C dX5_isFree_20 ?_
      obtain ⟨q3, eq3, h⟩ := dt_bind h
      refine dz_callVi (pc := 21) (st := []) (k := k) (As := [.int (((T 7) a2) + x2)]) (M' := (dt_put M k T)) C Fc_X5 hk mf_X5_heightAt rfl ml_X5_87 (m_X5_heightAt l hk _ _ _ eq3) rfl rfl (by omega) (by decide) (Nat.le_of_ble_eq_true rfl) dX5_isFree_21 ?_
      refine dz_aload_n (pc := 24) C dX5_isFree_24 rfl 0 rfl ?_
      refine dz_getR (pc := 25) (k := k) (j := 8) C Fc_X5 hk (by decide) (by decide) rfl fl_X5_37 dX5_isFree_25 ?_
      refine dz_iload_n (pc := 28) C dX5_isFree_28 rfl 1 rfl ?_
      refine dz_iald (pc := 29) (k := k) (j := 8) (n := 20) (f := (T 8)) C hk (by decide) rfl (dt_rAf _ _ _ _) dX5_isFree_29 h (fun a4 h => ?_)
      refine dz_iconst (pc := 30) (v := (1 : Int32)) C dX5_isFree_30 (by decide) ?_
      refine dz_iadd (pc := 31) C dX5_isFree_31 ?_
      refine dz_icmp_le (pc := 32) (t := 37) C dX5_isFree_32 (by decide) h (fun h => ?_) (fun h => ?_)
      · refine dz_iinc (pc := 37) (v := (x2 + (1 : Int32))) C dX5_isFree_37 2 rfl rfl (by decide) rfl ?_
        refine dz_goto (pc := 40) (t := 2) C dX5_isFree_40 (by decide) ?_
        refine dz_sub [1, 2, 0] rfl ?_
        exact ih x1 (x2 + (1 : Int32)) T h
      · refine dz_iconst (pc := 35) (v := (0 : Int32)) C dX5_isFree_35 (by decide) ?_
        cases dt_some h
        exact dz_zret (pc := 36) C hr (Or.inl rfl) dX5_isFree_36
def fX5_isFree  (x1 : Int32) (T : dt_Ob) : Option (Int32) := (fX5_isFree_2 dt_F x1 (0 : Int32) T)
set_option maxRecDepth 10000 in
set_option maxHeartbeats 4000000 in
theorem m_X5_isFree {nb : Nat} (l : Launch) {k : Nat} (hk : k < 18 + nb ∧ dt_c k = 5)  (M : dt_M) (T : dt_Ob)  (x1 : Int32) {res : Int32} (h : fX5_isFree x1 T = some res) : dt_Met nb l yX5_isFree cX5_isFree 3 (some .boolean) 2 (fun G => [.ref (G.1 k 0), .int x1]) (dt_put M k T) (some (.int res)) (dt_put M k T) := by
  refine dz_enter (lv := fun G => [(0, .ref (G.1 k 0)), (1, .int x1)]) (by decide) (fun _ => rfl) (fun _ => Nat.le_of_ble_eq_true rfl) (fun G A p e s m args below meth c C hr => ?_)
  unfold fX5_isFree at h
  refine dz_iconst (pc := 0) (v := (0 : Int32)) C dX5_isFree_0 (by decide) ?_
  refine dz_istore_n (pc := 1) C dX5_isFree_1 rfl (by decide) rfl ?_
  refine dz_sub [1, 2, 0] rfl ?_
  exact tX5_isFree_2 C hr hk dt_F x1 (0 : Int32) T h

def fX5_leastFree_30 (r2 : Int32 → dt_Ob → Option (Int32)) (x1 : Int32) (T : dt_Ob) : Option (Int32) := (r2 (x1 + (1 : Int32)) T)
set_option maxRecDepth 10000 in
set_option maxHeartbeats 4000000 in
theorem tX5_leastFree_30 {nb : Nat} {G : dt_G} {A : Nat → Prop} {p : Program} {l : Launch} {e : Env} {s : State} {m : MethodId} {args : Array Value} {below : List Frame} {meth : Method} {c : Code} (C : dt_Cx nb G A p s m args meth c cX5_leastFree 2 RX5) (hr : meth.sig.returnType = (some .int)) {k : Nat} (hk : k < 18 + nb ∧ dt_c k = 5) {M : dt_M} {res : Int32} {r2 : Int32 → dt_Ob → Option (Int32)} (hr2 : ∀ (x1 : Int32) (T : dt_Ob), r2 x1 T = some res → dt_At G A p l e (dt_rm 3) s m args below meth c 2 (MQ below (dt_Post G A (some (.int res)) (dt_put M k T)) args s 0 0 A) 2 [(0, .ref (G.1 k 0)), (1, .int x1)] [] (dt_put M k T)) : ∀ (x1 : Int32) (T : dt_Ob), fX5_leastFree_30 r2 x1 T = some res → dt_At G A p l e (dt_rm 3) s m args below meth c 2 (MQ below (dt_Post G A (some (.int res)) (dt_put M k T)) args s 0 0 A) 30 [(0, .ref (G.1 k 0)), (1, .int x1)] [] (dt_put M k T) := by
  intro x1 T h
  unfold fX5_leastFree_30 at h
  refine dz_iinc (pc := 30) (v := (x1 + (1 : Int32))) C dX5_leastFree_30 1 rfl rfl (by decide) rfl ?_
  refine dz_goto (pc := 33) (t := 2) C dX5_leastFree_33 (by decide) ?_
  refine dz_sub [1, 0] rfl ?_
  exact hr2 (x1 + (1 : Int32)) T h
def fX5_leastFree_2  : Nat → Int32 → dt_Ob → Option (Int32)
  | 0, _, _ => none
  | n + 1, x1, T => (if (T 1 0) ≤ x1 then (some (-1 : Int32)) else ((dt_ix x1 20).bind fun a1 => (if ((T 6) a1) = (-1 : Int32) then ((fX5_isFree x1 T).bind fun q2 => (if q2 = 0 then (fX5_leastFree_30 (fX5_leastFree_2 n) x1 T) else (some x1))) else (fX5_leastFree_30 (fX5_leastFree_2 n) x1 T))))
set_option maxRecDepth 10000 in
set_option maxHeartbeats 4000000 in
theorem tX5_leastFree_2 {nb : Nat} {G : dt_G} {A : Nat → Prop} {p : Program} {l : Launch} {e : Env} {s : State} {m : MethodId} {args : Array Value} {below : List Frame} {meth : Method} {c : Code} (C : dt_Cx nb G A p s m args meth c cX5_leastFree 2 RX5) (hr : meth.sig.returnType = (some .int)) {k : Nat} (hk : k < 18 + nb ∧ dt_c k = 5) {M : dt_M} {res : Int32}  : ∀ (n : Nat) (x1 : Int32) (T : dt_Ob), fX5_leastFree_2 n x1 T = some res → dt_At G A p l e (dt_rm 3) s m args below meth c 2 (MQ below (dt_Post G A (some (.int res)) (dt_put M k T)) args s 0 0 A) 2 [(0, .ref (G.1 k 0)), (1, .int x1)] [] (dt_put M k T) := by
  intro n
  induction n with
  | zero =>
    intro x1 T h
    unfold fX5_leastFree_2 at h
    cases h
  | succ n ih =>
    intro x1 T h
    unfold fX5_leastFree_2 at h
    refine dz_iload_n (pc := 2) C dX5_leastFree_2 rfl 1 rfl ?_
    refine dz_aload_n (pc := 3) C dX5_leastFree_3 rfl 0 rfl ?_
    refine dz_getI (pc := 4) (k := k) (j := 1) (v := (T 1 0)) C Fc_X5 hk (by decide) rfl rfl fl_X5_15 (dt_rA _ _ _ _ _) dX5_leastFree_4 ?_
    refine dz_icmp_ge (pc := 7) (t := 36) C dX5_leastFree_7 (by decide) h (fun h => ?_) (fun h => ?_)
    · refine dz_iconst (pc := 36) (v := (-1 : Int32)) C dX5_leastFree_36 (by decide) ?_
      cases dt_some h
      exact dz_iret (pc := 37) C hr dX5_leastFree_37
    · refine dz_aload_n (pc := 10) C dX5_leastFree_10 rfl 0 rfl ?_
      refine dz_getR (pc := 11) (k := k) (j := 6) C Fc_X5 hk (by decide) (by decide) rfl fl_X5_31 dX5_leastFree_11 ?_
      refine dz_iload_n (pc := 14) C dX5_leastFree_14 rfl 1 rfl ?_
      refine dz_iald (pc := 15) (k := k) (j := 6) (n := 20) (f := (T 6)) C hk (by decide) rfl (dt_rAf _ _ _ _) dX5_leastFree_15 h (fun a1 h => ?_)
      refine dz_iconst (pc := 16) (v := (-1 : Int32)) C dX5_leastFree_16 (by decide) ?_
      refine dz_icmp_ne (pc := 17) (t := 30) C dX5_leastFree_17 (by decide) h (fun h => ?_) (fun h => ?_)
      · exact tX5_leastFree_30 C hr hk ih x1 T h
      · refine dz_aload_n (pc := 20) C dX5_leastFree_20 rfl 0 rfl ?_
        refine dz_iload_n (pc := 21) C dX5_leastFree_21 rfl 1 rfl ?_
        obtain ⟨q2, eq2, h⟩ := dt_bind h
        refine dz_callVi (pc := 22) (st := []) (k := k) (As := [.int x1]) (M' := (dt_put M k T)) C Fc_X5 hk mf_X5_isFree rfl ml_X5_90 (m_X5_isFree l hk _ _ _ eq2) rfl rfl (by omega) (by decide) (Nat.le_of_ble_eq_true rfl) dX5_leastFree_22 ?_
        refine dz_if_eq (pc := 25) (t := 30) C dX5_leastFree_25 (by decide) h (fun h => ?_) (fun h => ?_)
        · exact tX5_leastFree_30 C hr hk ih x1 T h
        · refine dz_iload_n (pc := 28) C dX5_leastFree_28 rfl 1 rfl ?_
          cases dt_some h
          exact dz_iret (pc := 29) C hr dX5_leastFree_29
def fX5_leastFree  (T : dt_Ob) : Option (Int32) := (fX5_leastFree_2 dt_F (0 : Int32) T)
set_option maxRecDepth 10000 in
set_option maxHeartbeats 4000000 in
theorem m_X5_leastFree {nb : Nat} (l : Launch) {k : Nat} (hk : k < 18 + nb ∧ dt_c k = 5)  (M : dt_M) (T : dt_Ob)   {res : Int32} (h : fX5_leastFree T = some res) : dt_Met nb l yX5_leastFree cX5_leastFree 2 (some .int) 3 (fun G => [.ref (G.1 k 0)]) (dt_put M k T) (some (.int res)) (dt_put M k T) := by
  refine dz_enter (lv := fun G => [(0, .ref (G.1 k 0))]) (by decide) (fun _ => rfl) (fun _ => Nat.le_of_ble_eq_true rfl) (fun G A p e s m args below meth c C hr => ?_)
  unfold fX5_leastFree at h
  refine dz_iconst (pc := 0) (v := (0 : Int32)) C dX5_leastFree_0 (by decide) ?_
  refine dz_istore_n (pc := 1) C dX5_leastFree_1 rfl (by decide) rfl ?_
  refine dz_sub [1, 0] rfl ?_
  exact tX5_leastFree_2 C hr hk dt_F (0 : Int32) T h

def fX5_isBare_2  : Nat → Int32 → Int32 → dt_Ob → Option (Int32)
  | 0, _, _, _ => none
  | n + 1, x1, x2, T => ((dt_ix x1 20).bind fun a1 => (if ((T 2) a1) ≤ x2 then (some (1 : Int32)) else ((dt_ix x1 20).bind fun a2 => ((dt_ix x1 20).bind fun a3 => ((fX5_cellAt (((T 7) a2) + x2) (((T 8) a3) + (1 : Int32)) T).bind fun q4 => (if q4 = (-1 : Int32) then ((fX5_isBare_2 n) x1 (x2 + (1 : Int32)) T) else (some (0 : Int32))))))))
set_option maxRecDepth 10000 in
set_option maxHeartbeats 4000000 in
theorem tX5_isBare_2 {nb : Nat} {G : dt_G} {A : Nat → Prop} {p : Program} {l : Launch} {e : Env} {s : State} {m : MethodId} {args : Array Value} {below : List Frame} {meth : Method} {c : Code} (C : dt_Cx nb G A p s m args meth c cX5_isBare 3 RX5) (hr : meth.sig.returnType = (some .boolean)) {k : Nat} (hk : k < 18 + nb ∧ dt_c k = 5) {M : dt_M} {res : Int32}  : ∀ (n : Nat) (x1 : Int32) (x2 : Int32) (T : dt_Ob), fX5_isBare_2 n x1 x2 T = some res → dt_At G A p l e (dt_rm 2) s m args below meth c 3 (MQ below (dt_Post G A (some (.int res)) (dt_put M k T)) args s 0 0 A) 2 [(0, .ref (G.1 k 0)), (1, .int x1), (2, .int x2)] [] (dt_put M k T) := by
  intro n
  induction n with
  | zero =>
    intro x1 x2 T h
    unfold fX5_isBare_2 at h
    cases h
  | succ n ih =>
    intro x1 x2 T h
    unfold fX5_isBare_2 at h
    refine dz_iload_n (pc := 2) C dX5_isBare_2 rfl 2 rfl ?_
    refine dz_aload_n (pc := 3) C dX5_isBare_3 rfl 0 rfl ?_
    refine dz_getR (pc := 4) (k := k) (j := 2) C Fc_X5 hk (by decide) (by decide) rfl fl_X5_18 dX5_isBare_4 ?_
    refine dz_iload_n (pc := 7) C dX5_isBare_7 rfl 1 rfl ?_
    refine dz_iald (pc := 8) (k := k) (j := 2) (n := 20) (f := (T 2)) C hk (by decide) rfl (dt_rAf _ _ _ _) dX5_isBare_8 h (fun a1 h => ?_)
    refine dz_icmp_ge (pc := 9) (t := 44) C dX5_isBare_9 (by decide) h (fun h => ?_) (fun h => ?_)
    · refine dz_iconst (pc := 44) (v := (1 : Int32)) C dX5_isBare_44 (by decide) ?_
      cases dt_some h
      exact dz_zret (pc := 45) C hr (Or.inr rfl) dX5_isBare_45
    · refine dz_aload_n (pc := 12) C dX5_isBare_12 rfl 0 rfl ?_
      refine dz_aload_n (pc := 13) C dX5_isBare_13 rfl 0 rfl ?_
      refine dz_getR (pc := 14) (k := k) (j := 7) C Fc_X5 hk (by decide) (by decide) rfl fl_X5_34 dX5_isBare_14 ?_
      refine dz_iload_n (pc := 17) C dX5_isBare_17 rfl 1 rfl ?_
      refine dz_iald (pc := 18) (k := k) (j := 7) (n := 20) (f := (T 7)) C hk (by decide) rfl (dt_rAf _ _ _ _) dX5_isBare_18 h (fun a2 h => ?_)
      refine dz_iload_n (pc := 19) C dX5_isBare_19 rfl 2 rfl ?_
      refine dz_iadd (pc := 20) C dX5_isBare_20 ?_
      refine dz_aload_n (pc := 21) C dX5_isBare_21 rfl 0 rfl ?_
      refine dz_getR (pc := 22) (k := k) (j := 8) C Fc_X5 hk (by decide) (by decide) rfl fl_X5_37 dX5_isBare_22 ?_
      refine dz_iload_n (pc := 25) C dX5_isBare_25 rfl 1 rfl ?_
      refine dz_iald (pc := 26) (k := k) (j := 8) (n := 20) (f := (T 8)) C hk (by decide) rfl (dt_rAf _ _ _ _) dX5_isBare_26 h (fun a3 h => ?_)
      refine dz_iconst (pc := 27) (v := (1 : Int32)) C dX5_isBare_27 (by decide) ?_
      refine dz_iadd (pc := 28) C dX5_isBare_28 ?_
      obtain ⟨q4, eq4, h⟩ := dt_bind h
      refine dz_callVi (pc := 29) (st := []) (k := k) (As := [.int (((T 7) a2) + x2), .int (((T 8) a3) + (1 : Int32))]) (M' := (dt_put M k T)) C Fc_X5 hk mf_X5_cellAt rfl ml_X5_93 (m_X5_cellAt l hk _ _ _ _ eq4) rfl rfl (by omega) (by decide) (Nat.le_of_ble_eq_true rfl) dX5_isBare_29 ?_
      refine dz_iconst (pc := 32) (v := (-1 : Int32)) C dX5_isBare_32 (by decide) ?_
      refine dz_icmp_eq (pc := 33) (t := 38) C dX5_isBare_33 (by decide) h (fun h => ?_) (fun h => ?_)
      · refine dz_iinc (pc := 38) (v := (x2 + (1 : Int32))) C dX5_isBare_38 2 rfl rfl (by decide) rfl ?_
        refine dz_goto (pc := 41) (t := 2) C dX5_isBare_41 (by decide) ?_
        refine dz_sub [1, 2, 0] rfl ?_
        exact ih x1 (x2 + (1 : Int32)) T h
      · refine dz_iconst (pc := 36) (v := (0 : Int32)) C dX5_isBare_36 (by decide) ?_
        cases dt_some h
        exact dz_zret (pc := 37) C hr (Or.inl rfl) dX5_isBare_37
def fX5_isBare  (x1 : Int32) (T : dt_Ob) : Option (Int32) := (fX5_isBare_2 dt_F x1 (0 : Int32) T)
set_option maxRecDepth 10000 in
set_option maxHeartbeats 4000000 in
theorem m_X5_isBare {nb : Nat} (l : Launch) {k : Nat} (hk : k < 18 + nb ∧ dt_c k = 5)  (M : dt_M) (T : dt_Ob)  (x1 : Int32) {res : Int32} (h : fX5_isBare x1 T = some res) : dt_Met nb l yX5_isBare cX5_isBare 3 (some .boolean) 2 (fun G => [.ref (G.1 k 0), .int x1]) (dt_put M k T) (some (.int res)) (dt_put M k T) := by
  refine dz_enter (lv := fun G => [(0, .ref (G.1 k 0)), (1, .int x1)]) (by decide) (fun _ => rfl) (fun _ => Nat.le_of_ble_eq_true rfl) (fun G A p e s m args below meth c C hr => ?_)
  unfold fX5_isBare at h
  refine dz_iconst (pc := 0) (v := (0 : Int32)) C dX5_isBare_0 (by decide) ?_
  refine dz_istore_n (pc := 1) C dX5_isBare_1 rfl (by decide) rfl ?_
  refine dz_sub [1, 2, 0] rfl ?_
  exact tX5_isBare_2 C hr hk dt_F x1 (0 : Int32) T h

def fX5_levelFor_5  : Nat → Int32 → Int32 → Int32 → Int32 → dt_Ob → Option (Int32)
  | 0, _, _, _, _, _ => none
  | n + 1, x1, x2, x3, x4, T => ((dt_ix x1 20).bind fun a1 => (if ((T 2) a1) ≤ x4 then (some x3) else ((fX5_heightAt (x2 + x4) T).bind fun q2 => ((fX5_levelFor_5 n) x1 x2 (if x3 < q2 then q2 else x3) (x4 + (1 : Int32)) T))))
set_option maxRecDepth 10000 in
set_option maxHeartbeats 4000000 in
theorem tX5_levelFor_5 {nb : Nat} {G : dt_G} {A : Nat → Prop} {p : Program} {l : Launch} {e : Env} {s : State} {m : MethodId} {args : Array Value} {below : List Frame} {meth : Method} {c : Code} (C : dt_Cx nb G A p s m args meth c cX5_levelFor 5 RX5) (hr : meth.sig.returnType = (some .int)) {k : Nat} (hk : k < 18 + nb ∧ dt_c k = 5) {M : dt_M} {res : Int32}  : ∀ (n : Nat) (x1 : Int32) (x2 : Int32) (x3 : Int32) (x4 : Int32) (T : dt_Ob), fX5_levelFor_5 n x1 x2 x3 x4 T = some res → dt_At G A p l e (dt_rm 2) s m args below meth c 5 (MQ below (dt_Post G A (some (.int res)) (dt_put M k T)) args s 0 0 A) 5 [(0, .ref (G.1 k 0)), (1, .int x1), (2, .int x2), (3, .int x3), (4, .int x4)] [] (dt_put M k T) := by
  intro n
  induction n with
  | zero =>
    intro x1 x2 x3 x4 T h
    unfold fX5_levelFor_5 at h
    cases h
  | succ n ih =>
    intro x1 x2 x3 x4 T h
    unfold fX5_levelFor_5 at h
    refine dz_iload (pc := 5) C dX5_levelFor_5 4 rfl ?_
    refine dz_aload_n (pc := 7) C dX5_levelFor_7 rfl 0 rfl ?_
    refine dz_getR (pc := 8) (k := k) (j := 2) C Fc_X5 hk (by decide) (by decide) rfl fl_X5_18 dX5_levelFor_8 ?_
    refine dz_iload_n (pc := 11) C dX5_levelFor_11 rfl 1 rfl ?_
    refine dz_iald (pc := 12) (k := k) (j := 2) (n := 20) (f := (T 2)) C hk (by decide) rfl (dt_rAf _ _ _ _) dX5_levelFor_12 h (fun a1 h => ?_)
    refine dz_icmp_ge (pc := 13) (t := 35) C dX5_levelFor_13 (by decide) h (fun h => ?_) (fun h => ?_)
    · refine dz_iload_n (pc := 35) C dX5_levelFor_35 rfl 3 rfl ?_
      cases dt_some h
      exact dz_iret (pc := 36) C hr dX5_levelFor_36
    · refine dz_iload_n (pc := 16) C dX5_levelFor_16 rfl 3 rfl ?_
      refine dz_aload_n (pc := 17) C dX5_levelFor_17 rfl 0 rfl ?_
      refine dz_iload_n (pc := 18) C dX5_levelFor_18 rfl 2 rfl ?_
      refine dz_iload (pc := 19) C dX5_levelFor_19 4 rfl ?_
      refine dz_iadd (pc := 21) C dX5_levelFor_21 ?_
      obtain ⟨q2, eq2, h⟩ := dt_bind h
      refine dz_callVi (pc := 22) (st := [.int x3]) (k := k) (As := [.int (x2 + x4)]) (M' := (dt_put M k T)) C Fc_X5 hk mf_X5_heightAt rfl ml_X5_87 (m_X5_heightAt l hk _ _ _ eq2) rfl rfl (by omega) (by decide) (Nat.le_of_ble_eq_true rfl) dX5_levelFor_22 ?_
      refine dz_max (pc := 25) C ml_X5_75 (by omega) (Nat.le_of_ble_eq_true rfl) dX5_levelFor_25 ?_
      refine dz_istore_n (pc := 28) C dX5_levelFor_28 rfl (by decide) rfl ?_
      refine dz_iinc (pc := 29) (v := (x4 + (1 : Int32))) C dX5_levelFor_29 4 rfl rfl (by decide) rfl ?_
      refine dz_goto (pc := 32) (t := 5) C dX5_levelFor_32 (by decide) ?_
      refine dz_sub [2, 3, 4, 1, 0] rfl ?_
      exact ih x1 x2 (if x3 < q2 then q2 else x3) (x4 + (1 : Int32)) T h
def fX5_levelFor  (x1 : Int32) (x2 : Int32) (T : dt_Ob) : Option (Int32) := (fX5_levelFor_5 dt_F x1 x2 (0 : Int32) (0 : Int32) T)
set_option maxRecDepth 10000 in
set_option maxHeartbeats 4000000 in
theorem m_X5_levelFor {nb : Nat} (l : Launch) {k : Nat} (hk : k < 18 + nb ∧ dt_c k = 5)  (M : dt_M) (T : dt_Ob)  (x1 : Int32) (x2 : Int32) {res : Int32} (h : fX5_levelFor x1 x2 T = some res) : dt_Met nb l yX5_levelFor cX5_levelFor 5 (some .int) 2 (fun G => [.ref (G.1 k 0), .int x1, .int x2]) (dt_put M k T) (some (.int res)) (dt_put M k T) := by
  refine dz_enter (lv := fun G => [(0, .ref (G.1 k 0)), (1, .int x1), (2, .int x2)]) (by decide) (fun _ => rfl) (fun _ => Nat.le_of_ble_eq_true rfl) (fun G A p e s m args below meth c C hr => ?_)
  unfold fX5_levelFor at h
  refine dz_iconst (pc := 0) (v := (0 : Int32)) C dX5_levelFor_0 (by decide) ?_
  refine dz_istore_n (pc := 1) C dX5_levelFor_1 rfl (by decide) rfl ?_
  refine dz_iconst (pc := 2) (v := (0 : Int32)) C dX5_levelFor_2 (by decide) ?_
  refine dz_istore (pc := 3) C dX5_levelFor_3 (by decide) rfl ?_
  refine dz_sub [2, 3, 4, 1, 0] rfl ?_
  exact tX5_levelFor_5 C hr hk dt_F x1 x2 (0 : Int32) (0 : Int32) T h

def fX5_wouldStand_108  (T : dt_Ob) : Option (Int32) := (some (1 : Int32))
set_option maxRecDepth 10000 in
set_option maxHeartbeats 4000000 in
theorem tX5_wouldStand_108 {nb : Nat} {G : dt_G} {A : Nat → Prop} {p : Program} {l : Launch} {e : Env} {s : State} {m : MethodId} {args : Array Value} {below : List Frame} {meth : Method} {c : Code} (C : dt_Cx nb G A p s m args meth c cX5_wouldStand 5 RX5) (hr : meth.sig.returnType = (some .boolean)) {k : Nat} (hk : k < 18 + nb ∧ dt_c k = 5) {M : dt_M} {res : Int32}  : ∀ (T : dt_Ob), fX5_wouldStand_108 T = some res → dt_At G A p l e (dt_rm 3) s m args below meth c 5 (MQ below (dt_Post G A (some (.int res)) (dt_put M k T)) args s 0 0 A) 108 [] [] (dt_put M k T) := by
  intro T h
  unfold fX5_wouldStand_108 at h
  refine dz_iconst (pc := 108) (v := (1 : Int32)) C dX5_wouldStand_108 (by decide) ?_
  refine dz_goto (pc := 109) (t := 113) C dX5_wouldStand_109 (by decide) ?_
  cases dt_some h
  exact dz_zret (pc := 113) C hr (Or.inr rfl) dX5_wouldStand_113
def fX5_wouldStand_21  (x1 : Int32) (x2 : Int32) (x3 : Int32) (s0 : Int32) (T : dt_Ob) : Option (Int32) := ((dt_ix x1 20).bind fun a3 => (if ((T 2) a3) = (1 : Int32) then (if s0 = 0 ∨ s0 = 1 then (some s0) else none) else (if ((T 2) a3) = (2 : Int32) then (if s0 = 0 then (some (0 : Int32)) else ((fX5_heightAt (x2 + (1 : Int32)) T).bind fun q7 => (if q7 = x3 then (some (1 : Int32)) else (some (0 : Int32))))) else ((fX5_heightAt (x2 + (1 : Int32)) T).bind fun q8 => (if q8 = x3 then (fX5_wouldStand_108 T) else (if s0 = 0 then (some (0 : Int32)) else ((fX5_heightAt (x2 + (2 : Int32)) T).bind fun q9 => (if q9 = x3 then (fX5_wouldStand_108 T) else (some (0 : Int32))))))))))
set_option maxRecDepth 10000 in
set_option maxHeartbeats 4000000 in
theorem tX5_wouldStand_21 {nb : Nat} {G : dt_G} {A : Nat → Prop} {p : Program} {l : Launch} {e : Env} {s : State} {m : MethodId} {args : Array Value} {below : List Frame} {meth : Method} {c : Code} (C : dt_Cx nb G A p s m args meth c cX5_wouldStand 5 RX5) (hr : meth.sig.returnType = (some .boolean)) {k : Nat} (hk : k < 18 + nb ∧ dt_c k = 5) {M : dt_M} {res : Int32}  : ∀ (x1 : Int32) (x2 : Int32) (x3 : Int32) (s0 : Int32) (T : dt_Ob), fX5_wouldStand_21 x1 x2 x3 s0 T = some res → dt_At G A p l e (dt_rm 3) s m args below meth c 5 (MQ below (dt_Post G A (some (.int res)) (dt_put M k T)) args s 0 0 A) 21 [(0, .ref (G.1 k 0)), (1, .int x1), (2, .int x2), (3, .int x3)] [.int s0] (dt_put M k T) := by
  intro x1 x2 x3 s0 T h
  unfold fX5_wouldStand_21 at h
  refine dz_istore (pc := 21) C dX5_wouldStand_21 (by decide) rfl ?_
  refine dz_aload_n (pc := 23) C dX5_wouldStand_23 rfl 1 rfl ?_
  refine dz_getR (pc := 24) (k := k) (j := 2) C Fc_X5 hk (by decide) (by decide) rfl fl_X5_18 dX5_wouldStand_24 ?_
  refine dz_iload_n (pc := 27) C dX5_wouldStand_27 rfl 2 rfl ?_
  refine dz_iald (pc := 28) (k := k) (j := 2) (n := 20) (f := (T 2)) C hk (by decide) rfl (dt_rAf _ _ _ _) dX5_wouldStand_28 h (fun a3 h => ?_)
  by_cases hc4 : ((T 2) a3) = (1 : Int32)
  · have h := dt_ifp h hc4
    refine dz_lsw (pc := 29) (off := 27) (t := 56) C dX5_wouldStand_29 (by decide) (by rw [hc4]; rfl) (by decide) ?_
    refine dz_iload (pc := 56) C dX5_wouldStand_56 0 rfl ?_
    obtain ⟨hz5, h⟩ := dt_ifn h
    cases dt_some h
    exact dz_zret (pc := 58) C hr hz5 dX5_wouldStand_58
  have h := dt_iff h hc4
  by_cases hc6 : ((T 2) a3) = (2 : Int32)
  · have h := dt_ifp h hc6
    refine dz_lsw (pc := 29) (off := 30) (t := 59) C dX5_wouldStand_29 (by decide) (by rw [hc6]; rfl) (by decide) ?_
    refine dz_iload (pc := 59) C dX5_wouldStand_59 0 rfl ?_
    refine dz_if_eq (pc := 61) (t := 79) C dX5_wouldStand_61 (by decide) h (fun h => ?_) (fun h => ?_)
    · refine dz_iconst (pc := 79) (v := (0 : Int32)) C dX5_wouldStand_79 (by decide) ?_
      cases dt_some h
      exact dz_zret (pc := 80) C hr (Or.inl rfl) dX5_wouldStand_80
    · refine dz_aload_n (pc := 64) C dX5_wouldStand_64 rfl 1 rfl ?_
      refine dz_iload_n (pc := 65) C dX5_wouldStand_65 rfl 3 rfl ?_
      refine dz_iconst (pc := 66) (v := (1 : Int32)) C dX5_wouldStand_66 (by decide) ?_
      refine dz_iadd (pc := 67) C dX5_wouldStand_67 ?_
      obtain ⟨q7, eq7, h⟩ := dt_bind h
      refine dz_callVi (pc := 68) (st := []) (k := k) (As := [.int (x2 + (1 : Int32))]) (M' := (dt_put M k T)) C Fc_X5 hk mf_X5_heightAt rfl ml_X5_87 (m_X5_heightAt l hk _ _ _ eq7) rfl rfl (by omega) (by decide) (Nat.le_of_ble_eq_true rfl) dX5_wouldStand_68 ?_
      refine dz_iload_n (pc := 71) C dX5_wouldStand_71 rfl 4 rfl ?_
      refine dz_icmp_ne (pc := 72) (t := 79) C dX5_wouldStand_72 (by decide) h (fun h => ?_) (fun h => ?_)
      · refine dz_iconst (pc := 79) (v := (0 : Int32)) C dX5_wouldStand_79 (by decide) ?_
        cases dt_some h
        exact dz_zret (pc := 80) C hr (Or.inl rfl) dX5_wouldStand_80
      · refine dz_iconst (pc := 75) (v := (1 : Int32)) C dX5_wouldStand_75 (by decide) ?_
        refine dz_goto (pc := 76) (t := 80) C dX5_wouldStand_76 (by decide) ?_
        cases dt_some h
        exact dz_zret (pc := 80) C hr (Or.inr rfl) dX5_wouldStand_80
  have h := dt_iff h hc6
  refine dz_lsw (pc := 29) (off := 52) (t := 81) C dX5_wouldStand_29 (by decide) (by show Op.lookupswitch.offset [(1, 27), (2, 30)] 52 _ = 52; rw [lv_osw (a := 1) hc4 rfl, lv_osw (a := 2) hc6 rfl]; rfl) (by decide) ?_
  refine dz_aload_n (pc := 81) C dX5_wouldStand_81 rfl 1 rfl ?_
  refine dz_iload_n (pc := 82) C dX5_wouldStand_82 rfl 3 rfl ?_
  refine dz_iconst (pc := 83) (v := (1 : Int32)) C dX5_wouldStand_83 (by decide) ?_
  refine dz_iadd (pc := 84) C dX5_wouldStand_84 ?_
  obtain ⟨q8, eq8, h⟩ := dt_bind h
  refine dz_callVi (pc := 85) (st := []) (k := k) (As := [.int (x2 + (1 : Int32))]) (M' := (dt_put M k T)) C Fc_X5 hk mf_X5_heightAt rfl ml_X5_87 (m_X5_heightAt l hk _ _ _ eq8) rfl rfl (by omega) (by decide) (Nat.le_of_ble_eq_true rfl) dX5_wouldStand_85 ?_
  refine dz_iload_n (pc := 88) C dX5_wouldStand_88 rfl 4 rfl ?_
  refine dz_icmp_eq (pc := 89) (t := 108) C dX5_wouldStand_89 (by decide) h (fun h => ?_) (fun h => ?_)
  · refine dz_sub [] rfl ?_
    exact tX5_wouldStand_108 C hr hk  T h
  · refine dz_iload (pc := 92) C dX5_wouldStand_92 0 rfl ?_
    refine dz_if_eq (pc := 94) (t := 112) C dX5_wouldStand_94 (by decide) h (fun h => ?_) (fun h => ?_)
    · refine dz_iconst (pc := 112) (v := (0 : Int32)) C dX5_wouldStand_112 (by decide) ?_
      cases dt_some h
      exact dz_zret (pc := 113) C hr (Or.inl rfl) dX5_wouldStand_113
    · refine dz_aload_n (pc := 97) C dX5_wouldStand_97 rfl 1 rfl ?_
      refine dz_iload_n (pc := 98) C dX5_wouldStand_98 rfl 3 rfl ?_
      refine dz_iconst (pc := 99) (v := (2 : Int32)) C dX5_wouldStand_99 (by decide) ?_
      refine dz_iadd (pc := 100) C dX5_wouldStand_100 ?_
      obtain ⟨q9, eq9, h⟩ := dt_bind h
      refine dz_callVi (pc := 101) (st := []) (k := k) (As := [.int (x2 + (2 : Int32))]) (M' := (dt_put M k T)) C Fc_X5 hk mf_X5_heightAt rfl ml_X5_87 (m_X5_heightAt l hk _ _ _ eq9) rfl rfl (by omega) (by decide) (Nat.le_of_ble_eq_true rfl) dX5_wouldStand_101 ?_
      refine dz_iload_n (pc := 104) C dX5_wouldStand_104 rfl 4 rfl ?_
      refine dz_icmp_ne (pc := 105) (t := 112) C dX5_wouldStand_105 (by decide) h (fun h => ?_) (fun h => ?_)
      · refine dz_iconst (pc := 112) (v := (0 : Int32)) C dX5_wouldStand_112 (by decide) ?_
        cases dt_some h
        exact dz_zret (pc := 113) C hr (Or.inl rfl) dX5_wouldStand_113
      · refine dz_sub [] rfl ?_
        exact tX5_wouldStand_108 C hr hk  T h
def fX5_wouldStand  (x1 : Int32) (x2 : Int32) (T : dt_Ob) : Option (Int32) := ((fX5_levelFor x1 x2 T).bind fun q1 => ((fX5_heightAt x2 T).bind fun q2 => (if q2 = q1 then (fX5_wouldStand_21 x1 x2 q1 (1 : Int32) T) else (fX5_wouldStand_21 x1 x2 q1 (0 : Int32) T))))
set_option maxRecDepth 10000 in
set_option maxHeartbeats 4000000 in
theorem m_X5_wouldStand {nb : Nat} (l : Launch) {k : Nat} (hk : k < 18 + nb ∧ dt_c k = 5)  (M : dt_M) (T : dt_Ob)  (x1 : Int32) (x2 : Int32) {res : Int32} (h : fX5_wouldStand x1 x2 T = some res) : dt_Met nb l yX5_wouldStand cX5_wouldStand 5 (some .boolean) 3 (fun G => [.ref (G.1 k 0), .int x1, .int x2]) (dt_put M k T) (some (.int res)) (dt_put M k T) := by
  refine dz_enter (lv := fun G => [(0, .ref (G.1 k 0)), (1, .int x1), (2, .int x2)]) (by decide) (fun _ => rfl) (fun _ => Nat.le_of_ble_eq_true rfl) (fun G A p e s m args below meth c C hr => ?_)
  unfold fX5_wouldStand at h
  refine dz_aload_n (pc := 0) C dX5_wouldStand_0 rfl 0 rfl ?_
  refine dz_iload_n (pc := 1) C dX5_wouldStand_1 rfl 1 rfl ?_
  refine dz_iload_n (pc := 2) C dX5_wouldStand_2 rfl 2 rfl ?_
  obtain ⟨q1, eq1, h⟩ := dt_bind h
  refine dz_callVi (pc := 3) (st := []) (k := k) (As := [.int x1, .int x2]) (M' := (dt_put M k T)) C Fc_X5 hk mf_X5_levelFor rfl ml_X5_96 (m_X5_levelFor l hk _ _ _ _ eq1) rfl rfl (by omega) (by decide) (Nat.le_of_ble_eq_true rfl) dX5_wouldStand_3 ?_
  refine dz_istore_n (pc := 6) C dX5_wouldStand_6 rfl (by decide) rfl ?_
  refine dz_aload_n (pc := 7) C dX5_wouldStand_7 rfl 1 rfl ?_
  refine dz_iload_n (pc := 8) C dX5_wouldStand_8 rfl 3 rfl ?_
  obtain ⟨q2, eq2, h⟩ := dt_bind h
  refine dz_callVi (pc := 9) (st := []) (k := k) (As := [.int x2]) (M' := (dt_put M k T)) C Fc_X5 hk mf_X5_heightAt rfl ml_X5_87 (m_X5_heightAt l hk _ _ _ eq2) rfl rfl (by omega) (by decide) (Nat.le_of_ble_eq_true rfl) dX5_wouldStand_9 ?_
  refine dz_iload_n (pc := 12) C dX5_wouldStand_12 rfl 0 rfl ?_
  refine dz_icmp_ne (pc := 13) (t := 20) C dX5_wouldStand_13 (by decide) h (fun h => ?_) (fun h => ?_)
  · refine dz_iconst (pc := 20) (v := (0 : Int32)) C dX5_wouldStand_20 (by decide) ?_
    refine dz_sub [1, 2, 3, 0] rfl ?_
    exact tX5_wouldStand_21 C hr hk  x1 x2 q1 (0 : Int32) T h
  · refine dz_iconst (pc := 16) (v := (1 : Int32)) C dX5_wouldStand_16 (by decide) ?_
    refine dz_goto (pc := 17) (t := 21) C dX5_wouldStand_17 (by decide) ?_
    refine dz_sub [1, 2, 3, 0] rfl ?_
    exact tX5_wouldStand_21 C hr hk  x1 x2 q1 (1 : Int32) T h
