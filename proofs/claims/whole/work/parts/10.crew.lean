/-! ===== lifted: 10.crew ===== -/
def fJ6_bitCount_0f7a4  (x0 : Int32) : Option (Int32) := (some ((((((((x0 - ((Int32.toUInt32 x0 >>> (Int32.toUInt32 (1 : Int32) &&& Int32.toUInt32 31)).toInt32 &&& (1431655765 : Int32))) &&& (858993459 : Int32)) + ((Int32.toUInt32 (x0 - ((Int32.toUInt32 x0 >>> (Int32.toUInt32 (1 : Int32) &&& Int32.toUInt32 31)).toInt32 &&& (1431655765 : Int32))) >>> (Int32.toUInt32 (2 : Int32) &&& Int32.toUInt32 31)).toInt32 &&& (858993459 : Int32))) + (Int32.toUInt32 (((x0 - ((Int32.toUInt32 x0 >>> (Int32.toUInt32 (1 : Int32) &&& Int32.toUInt32 31)).toInt32 &&& (1431655765 : Int32))) &&& (858993459 : Int32)) + ((Int32.toUInt32 (x0 - ((Int32.toUInt32 x0 >>> (Int32.toUInt32 (1 : Int32) &&& Int32.toUInt32 31)).toInt32 &&& (1431655765 : Int32))) >>> (Int32.toUInt32 (2 : Int32) &&& Int32.toUInt32 31)).toInt32 &&& (858993459 : Int32))) >>> (Int32.toUInt32 (4 : Int32) &&& Int32.toUInt32 31)).toInt32) &&& (252645135 : Int32)) + (Int32.toUInt32 (((((x0 - ((Int32.toUInt32 x0 >>> (Int32.toUInt32 (1 : Int32) &&& Int32.toUInt32 31)).toInt32 &&& (1431655765 : Int32))) &&& (858993459 : Int32)) + ((Int32.toUInt32 (x0 - ((Int32.toUInt32 x0 >>> (Int32.toUInt32 (1 : Int32) &&& Int32.toUInt32 31)).toInt32 &&& (1431655765 : Int32))) >>> (Int32.toUInt32 (2 : Int32) &&& Int32.toUInt32 31)).toInt32 &&& (858993459 : Int32))) + (Int32.toUInt32 (((x0 - ((Int32.toUInt32 x0 >>> (Int32.toUInt32 (1 : Int32) &&& Int32.toUInt32 31)).toInt32 &&& (1431655765 : Int32))) &&& (858993459 : Int32)) + ((Int32.toUInt32 (x0 - ((Int32.toUInt32 x0 >>> (Int32.toUInt32 (1 : Int32) &&& Int32.toUInt32 31)).toInt32 &&& (1431655765 : Int32))) >>> (Int32.toUInt32 (2 : Int32) &&& Int32.toUInt32 31)).toInt32 &&& (858993459 : Int32))) >>> (Int32.toUInt32 (4 : Int32) &&& Int32.toUInt32 31)).toInt32) &&& (252645135 : Int32)) >>> (Int32.toUInt32 (8 : Int32) &&& Int32.toUInt32 31)).toInt32) + (Int32.toUInt32 ((((((x0 - ((Int32.toUInt32 x0 >>> (Int32.toUInt32 (1 : Int32) &&& Int32.toUInt32 31)).toInt32 &&& (1431655765 : Int32))) &&& (858993459 : Int32)) + ((Int32.toUInt32 (x0 - ((Int32.toUInt32 x0 >>> (Int32.toUInt32 (1 : Int32) &&& Int32.toUInt32 31)).toInt32 &&& (1431655765 : Int32))) >>> (Int32.toUInt32 (2 : Int32) &&& Int32.toUInt32 31)).toInt32 &&& (858993459 : Int32))) + (Int32.toUInt32 (((x0 - ((Int32.toUInt32 x0 >>> (Int32.toUInt32 (1 : Int32) &&& Int32.toUInt32 31)).toInt32 &&& (1431655765 : Int32))) &&& (858993459 : Int32)) + ((Int32.toUInt32 (x0 - ((Int32.toUInt32 x0 >>> (Int32.toUInt32 (1 : Int32) &&& Int32.toUInt32 31)).toInt32 &&& (1431655765 : Int32))) >>> (Int32.toUInt32 (2 : Int32) &&& Int32.toUInt32 31)).toInt32 &&& (858993459 : Int32))) >>> (Int32.toUInt32 (4 : Int32) &&& Int32.toUInt32 31)).toInt32) &&& (252645135 : Int32)) + (Int32.toUInt32 (((((x0 - ((Int32.toUInt32 x0 >>> (Int32.toUInt32 (1 : Int32) &&& Int32.toUInt32 31)).toInt32 &&& (1431655765 : Int32))) &&& (858993459 : Int32)) + ((Int32.toUInt32 (x0 - ((Int32.toUInt32 x0 >>> (Int32.toUInt32 (1 : Int32) &&& Int32.toUInt32 31)).toInt32 &&& (1431655765 : Int32))) >>> (Int32.toUInt32 (2 : Int32) &&& Int32.toUInt32 31)).toInt32 &&& (858993459 : Int32))) + (Int32.toUInt32 (((x0 - ((Int32.toUInt32 x0 >>> (Int32.toUInt32 (1 : Int32) &&& Int32.toUInt32 31)).toInt32 &&& (1431655765 : Int32))) &&& (858993459 : Int32)) + ((Int32.toUInt32 (x0 - ((Int32.toUInt32 x0 >>> (Int32.toUInt32 (1 : Int32) &&& Int32.toUInt32 31)).toInt32 &&& (1431655765 : Int32))) >>> (Int32.toUInt32 (2 : Int32) &&& Int32.toUInt32 31)).toInt32 &&& (858993459 : Int32))) >>> (Int32.toUInt32 (4 : Int32) &&& Int32.toUInt32 31)).toInt32) &&& (252645135 : Int32)) >>> (Int32.toUInt32 (8 : Int32) &&& Int32.toUInt32 31)).toInt32) >>> (Int32.toUInt32 (16 : Int32) &&& Int32.toUInt32 31)).toInt32) &&& (63 : Int32)))
set_option maxRecDepth 10000 in
set_option maxHeartbeats 4000000 in
theorem m_J6_bitCount_0f7a4 {nb : Nat} (l : Launch)  (M : dt_M)   (x0 : Int32) {res : Int32} (h : fJ6_bitCount_0f7a4 x0 = some res) : dt_Met nb l yJ6_bitCount_0f7a4 cJ6_bitCount_0f7a4 1 (some .int) 1 (fun G => [.int x0]) M (some (.int res)) M := by
  refine dz_enter (lv := fun G => [(0, .int x0)]) (by decide) (fun _ => rfl) (fun _ => Nat.le_of_ble_eq_true rfl) (fun G A p e s m args below meth c C hr => ?_)
  unfold fJ6_bitCount_0f7a4 at h
  refine dz_iload_n (pc := 0) C dJ6_bitCount_0f7a4_0 rfl 0 rfl ?_
  refine dz_iload_n (pc := 1) C dJ6_bitCount_0f7a4_1 rfl 0 rfl ?_
  refine dz_iconst (pc := 2) (v := (1 : Int32)) C dJ6_bitCount_0f7a4_2 (by decide) ?_
  refine dz_iushr (pc := 3) C dJ6_bitCount_0f7a4_3 ?_
  refine dz_ldcw (pc := 4) C cn_J6_265 dJ6_bitCount_0f7a4_4 ?_
  refine dz_iand (pc := 7) C dJ6_bitCount_0f7a4_7 ?_
  refine dz_isub (pc := 8) C dJ6_bitCount_0f7a4_8 ?_
  refine dz_istore_n (pc := 9) C dJ6_bitCount_0f7a4_9 rfl (by decide) rfl ?_
  refine dz_iload_n (pc := 10) C dJ6_bitCount_0f7a4_10 rfl 0 rfl ?_
  refine dz_ldcw (pc := 11) C cn_J6_266 dJ6_bitCount_0f7a4_11 ?_
  refine dz_iand (pc := 14) C dJ6_bitCount_0f7a4_14 ?_
  refine dz_iload_n (pc := 15) C dJ6_bitCount_0f7a4_15 rfl 0 rfl ?_
  refine dz_iconst (pc := 16) (v := (2 : Int32)) C dJ6_bitCount_0f7a4_16 (by decide) ?_
  refine dz_iushr (pc := 17) C dJ6_bitCount_0f7a4_17 ?_
  refine dz_ldcw (pc := 18) C cn_J6_266 dJ6_bitCount_0f7a4_18 ?_
  refine dz_iand (pc := 21) C dJ6_bitCount_0f7a4_21 ?_
  refine dz_iadd (pc := 22) C dJ6_bitCount_0f7a4_22 ?_
  refine dz_istore_n (pc := 23) C dJ6_bitCount_0f7a4_23 rfl (by decide) rfl ?_
  refine dz_iload_n (pc := 24) C dJ6_bitCount_0f7a4_24 rfl 0 rfl ?_
  refine dz_iload_n (pc := 25) C dJ6_bitCount_0f7a4_25 rfl 0 rfl ?_
  refine dz_iconst (pc := 26) (v := (4 : Int32)) C dJ6_bitCount_0f7a4_26 (by decide) ?_
  refine dz_iushr (pc := 27) C dJ6_bitCount_0f7a4_27 ?_
  refine dz_iadd (pc := 28) C dJ6_bitCount_0f7a4_28 ?_
  refine dz_ldcw (pc := 29) C cn_J6_267 dJ6_bitCount_0f7a4_29 ?_
  refine dz_iand (pc := 32) C dJ6_bitCount_0f7a4_32 ?_
  refine dz_istore_n (pc := 33) C dJ6_bitCount_0f7a4_33 rfl (by decide) rfl ?_
  refine dz_iload_n (pc := 34) C dJ6_bitCount_0f7a4_34 rfl 0 rfl ?_
  refine dz_iload_n (pc := 35) C dJ6_bitCount_0f7a4_35 rfl 0 rfl ?_
  refine dz_bipush (pc := 36) (v := (8 : Int32)) C dJ6_bitCount_0f7a4_36 (by decide) ?_
  refine dz_iushr (pc := 38) C dJ6_bitCount_0f7a4_38 ?_
  refine dz_iadd (pc := 39) C dJ6_bitCount_0f7a4_39 ?_
  refine dz_istore_n (pc := 40) C dJ6_bitCount_0f7a4_40 rfl (by decide) rfl ?_
  refine dz_iload_n (pc := 41) C dJ6_bitCount_0f7a4_41 rfl 0 rfl ?_
  refine dz_iload_n (pc := 42) C dJ6_bitCount_0f7a4_42 rfl 0 rfl ?_
  refine dz_bipush (pc := 43) (v := (16 : Int32)) C dJ6_bitCount_0f7a4_43 (by decide) ?_
  refine dz_iushr (pc := 45) C dJ6_bitCount_0f7a4_45 ?_
  refine dz_iadd (pc := 46) C dJ6_bitCount_0f7a4_46 ?_
  refine dz_istore_n (pc := 47) C dJ6_bitCount_0f7a4_47 rfl (by decide) rfl ?_
  refine dz_iload_n (pc := 48) C dJ6_bitCount_0f7a4_48 rfl 0 rfl ?_
  refine dz_bipush (pc := 49) (v := (63 : Int32)) C dJ6_bitCount_0f7a4_49 (by decide) ?_
  refine dz_iand (pc := 51) C dJ6_bitCount_0f7a4_51 ?_
  cases dt_some h
  exact dz_iret (pc := 52) C hr dJ6_bitCount_0f7a4_52

def fX0_begin  (T : dt_Ob) : Option (dt_Ob) := (some (dt_setA (dt_set T 0 0 (0 : Int32)) 2 (dt_fill (T 2) 8 (0 : Int32))))
set_option maxRecDepth 10000 in
set_option maxHeartbeats 4000000 in
theorem m_X0_begin {nb : Nat} (l : Launch) {k : Nat} (hk : k < 18 + nb ∧ dt_c k = 0)  (M : dt_M) (T : dt_Ob)   {res : dt_Ob} (h : fX0_begin T = some res) : dt_Met nb l yX0_begin cX0_begin 1 none 2 (fun G => [.ref (G.1 k 0)]) (dt_put M k T) none (dt_put M k res) := by
  refine dz_enter (lv := fun G => [(0, .ref (G.1 k 0))]) (by decide) (fun _ => rfl) (fun _ => Nat.le_of_ble_eq_true rfl) (fun G A p e s m args below meth c C hr => ?_)
  unfold fX0_begin at h
  refine dz_aload_n (pc := 0) C dX0_begin_0 rfl 0 rfl ?_
  refine dz_iconst (pc := 1) (v := (0 : Int32)) C dX0_begin_1 (by decide) ?_
  refine dz_putI (pc := 2) (k := k) (j := 0) (M' := (dt_put M k (dt_set T 0 0 (0 : Int32)))) C Fc_X0 hk (by decide) rfl rfl rfl rfl fl_X0_9 (dt_wA _ _ _ _ _ _) dX0_begin_2 ?_
  refine dz_aload_n (pc := 5) C dX0_begin_5 rfl 0 rfl ?_
  refine dz_getR (pc := 6) (k := k) (j := 2) C Fc_X0 hk (by decide) (by decide) rfl fl_X0_19 dX0_begin_6 ?_
  refine dz_iconst (pc := 9) (v := (0 : Int32)) C dX0_begin_9 (by decide) ?_
  refine dz_callSv (pc := 10) (st := []) (As := [.ref (G.1 k (2 + 1)), .int (0 : Int32)]) (M' := (dt_put M k (dt_setA (dt_set T 0 0 (0 : Int32)) 2 (dt_fill (T 2) 8 (0 : Int32))))) C ms_J7_fill_53178 ml_X0_22 (by have z := m_fill l (k := k) (j := 2) (n := 8) hk (by decide) rfl (by decide) (dt_put M k (dt_set T 0 0 (0 : Int32))) (0 : Int32); rw [dt_rAf, dt_put_s, dt_put_put] at z; exact z) rfl rfl (by omega) (by decide) (Nat.le_of_ble_eq_true rfl) dX0_begin_10 ?_
  cases dt_some h
  exact dz_vret (pc := 13) C hr dX0_begin_13

def fX0_become (O : dt_Ob) (T : dt_Ob) : Option (dt_Ob) := (some (dt_setA (dt_setA (dt_set T 0 0 (O 0 0)) 1 (va_cpy (O 1) (T 1) (Int32.toNatClampNeg (0 : Int32)) (Int32.toNatClampNeg (0 : Int32)) (Int32.toNatClampNeg (8 : Int32)))) 2 (va_cpy (O 2) (T 2) (Int32.toNatClampNeg (0 : Int32)) (Int32.toNatClampNeg (0 : Int32)) (Int32.toNatClampNeg (8 : Int32)))))
set_option maxRecDepth 10000 in
set_option maxHeartbeats 4000000 in
theorem m_X0_become {nb : Nat} (l : Launch) {k : Nat} (hk : k < 18 + nb ∧ dt_c k = 0) {o : Nat} (ho : o < 18 + nb ∧ dt_c o = 0) (hne : o ≠ k)  (M : dt_M) (T : dt_Ob) (O : dt_Ob) (hO : M o = O)  {res : dt_Ob} (h : fX0_become O T = some res) : dt_Met nb l yX0_become cX0_become 2 none 2 (fun G => [.ref (G.1 k 0), .ref (G.1 o 0)]) (dt_put M k T) none (dt_put M k res) := by
  refine dz_enter (lv := fun G => [(0, .ref (G.1 k 0)), (1, .ref (G.1 o 0))]) (by decide) (fun _ => rfl) (fun _ => Nat.le_of_ble_eq_true rfl) (fun G A p e s m args below meth c C hr => ?_)
  unfold fX0_become at h
  refine dz_aload_n (pc := 0) C dX0_become_0 rfl 0 rfl ?_
  refine dz_aload_n (pc := 1) C dX0_become_1 rfl 1 rfl ?_
  refine dz_getI (pc := 2) (k := o) (j := 0) (v := (O 0 0)) C Fc_X0 ho (by decide) rfl rfl fl_X0_9 (dt_rO _ hne hO _ _) dX0_become_2 ?_
  refine dz_putI (pc := 5) (k := k) (j := 0) (M' := (dt_put M k (dt_set T 0 0 (O 0 0)))) C Fc_X0 hk (by decide) rfl rfl rfl rfl fl_X0_9 (dt_wA _ _ _ _ _ _) dX0_become_5 ?_
  refine dz_aload_n (pc := 8) C dX0_become_8 rfl 1 rfl ?_
  refine dz_getR (pc := 9) (k := o) (j := 1) C Fc_X0 ho (by decide) (by decide) rfl fl_X0_15 dX0_become_9 ?_
  refine dz_iconst (pc := 12) (v := (0 : Int32)) C dX0_become_12 (by decide) ?_
  refine dz_aload_n (pc := 13) C dX0_become_13 rfl 0 rfl ?_
  refine dz_getR (pc := 14) (k := k) (j := 1) C Fc_X0 hk (by decide) (by decide) rfl fl_X0_15 dX0_become_14 ?_
  refine dz_iconst (pc := 17) (v := (0 : Int32)) C dX0_become_17 (by decide) ?_
  refine dz_bipush (pc := 18) (v := (8 : Int32)) C dX0_become_18 (by decide) ?_
  refine dz_copy (pc := 20) (k0 := o) (j0 := 1) (n0 := 8) (k1 := k) (j1 := 1) (n1 := 8) (f := (O 1)) (g := (T 1)) (M' := (dt_put M k (dt_setA (dt_set T 0 0 (O 0 0)) 1 (va_cpy (O 1) (T 1) (Int32.toNatClampNeg (0 : Int32)) (Int32.toNatClampNeg (0 : Int32)) (Int32.toNatClampNeg (8 : Int32)))))) C ml_X0_28 ho (by decide) rfl (dt_rOf _ hne hO _) hk (by decide) rfl (dt_rAf _ _ _ _) (by decide) (by omega) (Nat.le_of_ble_eq_true rfl) (dt_wAA _ _ _ _ _) dX0_become_20 ?_
  refine dz_aload_n (pc := 23) C dX0_become_23 rfl 1 rfl ?_
  refine dz_getR (pc := 24) (k := o) (j := 2) C Fc_X0 ho (by decide) (by decide) rfl fl_X0_19 dX0_become_24 ?_
  refine dz_iconst (pc := 27) (v := (0 : Int32)) C dX0_become_27 (by decide) ?_
  refine dz_aload_n (pc := 28) C dX0_become_28 rfl 0 rfl ?_
  refine dz_getR (pc := 29) (k := k) (j := 2) C Fc_X0 hk (by decide) (by decide) rfl fl_X0_19 dX0_become_29 ?_
  refine dz_iconst (pc := 32) (v := (0 : Int32)) C dX0_become_32 (by decide) ?_
  refine dz_bipush (pc := 33) (v := (8 : Int32)) C dX0_become_33 (by decide) ?_
  refine dz_copy (pc := 35) (k0 := o) (j0 := 2) (n0 := 8) (k1 := k) (j1 := 2) (n1 := 8) (f := (O 2)) (g := (T 2)) (M' := (dt_put M k (dt_setA (dt_setA (dt_set T 0 0 (O 0 0)) 1 (va_cpy (O 1) (T 1) (Int32.toNatClampNeg (0 : Int32)) (Int32.toNatClampNeg (0 : Int32)) (Int32.toNatClampNeg (8 : Int32)))) 2 (va_cpy (O 2) (T 2) (Int32.toNatClampNeg (0 : Int32)) (Int32.toNatClampNeg (0 : Int32)) (Int32.toNatClampNeg (8 : Int32)))))) C ml_X0_28 ho (by decide) rfl (dt_rOf _ hne hO _) hk (by decide) rfl (dt_rAf _ _ _ _) (by decide) (by omega) (Nat.le_of_ble_eq_true rfl) (dt_wAA _ _ _ _ _) dX0_become_35 ?_
  cases dt_some h
  exact dz_vret (pc := 38) C hr dX0_become_38

def fX0_add  (x1 : Int32) (T : dt_Ob) : Option (Int32 × dt_Ob) := (if x1 < (1 : Int32) then (some ((-1 : Int32), T)) else (if (99 : Int32) < x1 then (some ((-1 : Int32), T)) else (if (T 0 0) < (8 : Int32) then ((dt_ix (T 0 0) 8).bind fun a1 => (some ((((T 0 0) + (1 : Int32)) - (1 : Int32)), (dt_set (dt_set T 1 a1 x1) 0 0 ((T 0 0) + (1 : Int32)))))) else (some ((-1 : Int32), T)))))
set_option maxRecDepth 10000 in
set_option maxHeartbeats 4000000 in
theorem m_X0_add {nb : Nat} (l : Launch) {k : Nat} (hk : k < 18 + nb ∧ dt_c k = 0)  (M : dt_M) (T : dt_Ob)  (x1 : Int32) {res : Int32 × dt_Ob} (h : fX0_add x1 T = some res) : dt_Met nb l yX0_add cX0_add 2 (some .int) 1 (fun G => [.ref (G.1 k 0), .int x1]) (dt_put M k T) (some (.int res.1)) (dt_put M k res.2) := by
  refine dz_enter (lv := fun G => [(0, .ref (G.1 k 0)), (1, .int x1)]) (by decide) (fun _ => rfl) (fun _ => Nat.le_of_ble_eq_true rfl) (fun G A p e s m args below meth c C hr => ?_)
  unfold fX0_add at h
  refine dz_iload_n (pc := 0) C dX0_add_0 rfl 1 rfl ?_
  refine dz_iconst (pc := 1) (v := (1 : Int32)) C dX0_add_1 (by decide) ?_
  refine dz_icmp_lt (pc := 2) (t := 20) C dX0_add_2 (by decide) h (fun h => ?_) (fun h => ?_)
  · refine dz_iconst (pc := 20) (v := (-1 : Int32)) C dX0_add_20 (by decide) ?_
    cases dt_some h
    exact dz_iret (pc := 21) C hr dX0_add_21
  · refine dz_iload_n (pc := 5) C dX0_add_5 rfl 1 rfl ?_
    refine dz_bipush (pc := 6) (v := (99 : Int32)) C dX0_add_6 (by decide) ?_
    refine dz_icmp_gt (pc := 8) (t := 20) C dX0_add_8 (by decide) h (fun h => ?_) (fun h => ?_)
    · refine dz_iconst (pc := 20) (v := (-1 : Int32)) C dX0_add_20 (by decide) ?_
      cases dt_some h
      exact dz_iret (pc := 21) C hr dX0_add_21
    · refine dz_aload_n (pc := 11) C dX0_add_11 rfl 0 rfl ?_
      refine dz_getI (pc := 12) (k := k) (j := 0) (v := (T 0 0)) C Fc_X0 hk (by decide) rfl rfl fl_X0_9 (dt_rA _ _ _ _ _) dX0_add_12 ?_
      refine dz_bipush (pc := 15) (v := (8 : Int32)) C dX0_add_15 (by decide) ?_
      refine dz_icmp_lt (pc := 17) (t := 22) C dX0_add_17 (by decide) h (fun h => ?_) (fun h => ?_)
      · refine dz_aload_n (pc := 22) C dX0_add_22 rfl 0 rfl ?_
        refine dz_getR (pc := 23) (k := k) (j := 1) C Fc_X0 hk (by decide) (by decide) rfl fl_X0_15 dX0_add_23 ?_
        refine dz_aload_n (pc := 26) C dX0_add_26 rfl 0 rfl ?_
        refine dz_getI (pc := 27) (k := k) (j := 0) (v := (T 0 0)) C Fc_X0 hk (by decide) rfl rfl fl_X0_9 (dt_rA _ _ _ _ _) dX0_add_27 ?_
        refine dz_iload_n (pc := 30) C dX0_add_30 rfl 1 rfl ?_
        refine dz_iast (pc := 31) (k := k) (j := 1) (n := 8) (M' := fun a1 => (dt_put M k (dt_set T 1 a1 x1))) C hk (by decide) rfl (fun a1 => (dt_wA _ _ _ _ _ _)) dX0_add_31 h (fun a1 h => ?_)
        refine dz_aload_n (pc := 32) C dX0_add_32 rfl 0 rfl ?_
        refine dz_dup (pc := 33) C dX0_add_33 rfl ?_
        refine dz_getI (pc := 34) (k := k) (j := 0) (v := (T 0 0)) C Fc_X0 hk (by decide) rfl rfl fl_X0_9 (dt_rA _ _ _ _ _) dX0_add_34 ?_
        refine dz_iconst (pc := 37) (v := (1 : Int32)) C dX0_add_37 (by decide) ?_
        refine dz_iadd (pc := 38) C dX0_add_38 ?_
        refine dz_putI (pc := 39) (k := k) (j := 0) (M' := (dt_put M k (dt_set (dt_set T 1 a1 x1) 0 0 ((T 0 0) + (1 : Int32))))) C Fc_X0 hk (by decide) rfl rfl rfl rfl fl_X0_9 (dt_wA _ _ _ _ _ _) dX0_add_39 ?_
        refine dz_aload_n (pc := 42) C dX0_add_42 rfl 0 rfl ?_
        refine dz_getI (pc := 43) (k := k) (j := 0) (v := ((T 0 0) + (1 : Int32))) C Fc_X0 hk (by decide) rfl rfl fl_X0_9 (dt_rA _ _ _ _ _) dX0_add_43 ?_
        refine dz_iconst (pc := 46) (v := (1 : Int32)) C dX0_add_46 (by decide) ?_
        refine dz_isub (pc := 47) C dX0_add_47 ?_
        cases dt_some h
        exact dz_iret (pc := 48) C hr dX0_add_48
      · refine dz_iconst (pc := 20) (v := (-1 : Int32)) C dX0_add_20 (by decide) ?_
        cases dt_some h
        exact dz_iret (pc := 21) C hr dX0_add_21

def fX0_setFoes  (x1 : Int32) (x2 : Int32) (x3 : Int32) (T : dt_Ob) : Option (Int32 × dt_Ob) := (if x1 < 0 then (some ((0 : Int32), T)) else (if (T 0 0) ≤ x1 then (some ((0 : Int32), T)) else (if x2 < 0 then (some ((0 : Int32), T)) else (if (T 0 0) ≤ x2 then (some ((0 : Int32), T)) else (if x1 = x2 then (some ((0 : Int32), T)) else (if x3 = 0 then ((dt_ix x1 8).bind fun a1 => ((dt_ix x1 8).bind fun a2 => ((dt_ix x2 8).bind fun a3 => ((dt_ix x2 8).bind fun a4 => (some ((1 : Int32), (dt_set (dt_set T 2 a2 (((T 2) a1) &&& (((1 : Int32) <<< (x2 &&& 31)) ^^^ (-1 : Int32)))) 2 a4 ((((dt_set T 2 a2 (((T 2) a1) &&& (((1 : Int32) <<< (x2 &&& 31)) ^^^ (-1 : Int32)))) 2) a3) &&& (((1 : Int32) <<< (x1 &&& 31)) ^^^ (-1 : Int32)))))))))) else ((dt_ix x1 8).bind fun a5 => ((dt_ix x1 8).bind fun a6 => ((dt_ix x2 8).bind fun a7 => ((dt_ix x2 8).bind fun a8 => (some ((1 : Int32), (dt_set (dt_set T 2 a6 (((T 2) a5) ||| ((1 : Int32) <<< (x2 &&& 31)))) 2 a8 ((((dt_set T 2 a6 (((T 2) a5) ||| ((1 : Int32) <<< (x2 &&& 31)))) 2) a7) ||| ((1 : Int32) <<< (x1 &&& 31))))))))))))))))
set_option maxRecDepth 10000 in
set_option maxHeartbeats 4000000 in
theorem m_X0_setFoes {nb : Nat} (l : Launch) {k : Nat} (hk : k < 18 + nb ∧ dt_c k = 0)  (M : dt_M) (T : dt_Ob)  (x1 : Int32) (x2 : Int32) (x3 : Int32) {res : Int32 × dt_Ob} (h : fX0_setFoes x1 x2 x3 T = some res) : dt_Met nb l yX0_setFoes cX0_setFoes 4 (some .boolean) 1 (fun G => [.ref (G.1 k 0), .int x1, .int x2, .int x3]) (dt_put M k T) (some (.int res.1)) (dt_put M k res.2) := by
  refine dz_enter (lv := fun G => [(0, .ref (G.1 k 0)), (1, .int x1), (2, .int x2), (3, .int x3)]) (by decide) (fun _ => rfl) (fun _ => Nat.le_of_ble_eq_true rfl) (fun G A p e s m args below meth c C hr => ?_)
  unfold fX0_setFoes at h
  refine dz_iload_n (pc := 0) C dX0_setFoes_0 rfl 1 rfl ?_
  refine dz_if_lt (pc := 1) (t := 29) C dX0_setFoes_1 (by decide) h (fun h => ?_) (fun h => ?_)
  · refine dz_iconst (pc := 29) (v := (0 : Int32)) C dX0_setFoes_29 (by decide) ?_
    cases dt_some h
    exact dz_zret (pc := 30) C hr (Or.inl rfl) dX0_setFoes_30
  · refine dz_iload_n (pc := 4) C dX0_setFoes_4 rfl 1 rfl ?_
    refine dz_aload_n (pc := 5) C dX0_setFoes_5 rfl 0 rfl ?_
    refine dz_getI (pc := 6) (k := k) (j := 0) (v := (T 0 0)) C Fc_X0 hk (by decide) rfl rfl fl_X0_9 (dt_rA _ _ _ _ _) dX0_setFoes_6 ?_
    refine dz_icmp_ge (pc := 9) (t := 29) C dX0_setFoes_9 (by decide) h (fun h => ?_) (fun h => ?_)
    · refine dz_iconst (pc := 29) (v := (0 : Int32)) C dX0_setFoes_29 (by decide) ?_
      cases dt_some h
      exact dz_zret (pc := 30) C hr (Or.inl rfl) dX0_setFoes_30
    · refine dz_iload_n (pc := 12) C dX0_setFoes_12 rfl 2 rfl ?_
      refine dz_if_lt (pc := 13) (t := 29) C dX0_setFoes_13 (by decide) h (fun h => ?_) (fun h => ?_)
      · refine dz_iconst (pc := 29) (v := (0 : Int32)) C dX0_setFoes_29 (by decide) ?_
        cases dt_some h
        exact dz_zret (pc := 30) C hr (Or.inl rfl) dX0_setFoes_30
      · refine dz_iload_n (pc := 16) C dX0_setFoes_16 rfl 2 rfl ?_
        refine dz_aload_n (pc := 17) C dX0_setFoes_17 rfl 0 rfl ?_
        refine dz_getI (pc := 18) (k := k) (j := 0) (v := (T 0 0)) C Fc_X0 hk (by decide) rfl rfl fl_X0_9 (dt_rA _ _ _ _ _) dX0_setFoes_18 ?_
        refine dz_icmp_ge (pc := 21) (t := 29) C dX0_setFoes_21 (by decide) h (fun h => ?_) (fun h => ?_)
        · refine dz_iconst (pc := 29) (v := (0 : Int32)) C dX0_setFoes_29 (by decide) ?_
          cases dt_some h
          exact dz_zret (pc := 30) C hr (Or.inl rfl) dX0_setFoes_30
        · refine dz_iload_n (pc := 24) C dX0_setFoes_24 rfl 1 rfl ?_
          refine dz_iload_n (pc := 25) C dX0_setFoes_25 rfl 2 rfl ?_
          refine dz_icmp_ne (pc := 26) (t := 31) C dX0_setFoes_26 (by decide) h (fun h => ?_) (fun h => ?_)
          · refine dz_iload_n (pc := 31) C dX0_setFoes_31 rfl 3 rfl ?_
            refine dz_if_eq (pc := 32) (t := 62) C dX0_setFoes_32 (by decide) h (fun h => ?_) (fun h => ?_)
            · refine dz_aload_n (pc := 62) C dX0_setFoes_62 rfl 0 rfl ?_
              refine dz_getR (pc := 63) (k := k) (j := 2) C Fc_X0 hk (by decide) (by decide) rfl fl_X0_19 dX0_setFoes_63 ?_
              refine dz_iload_n (pc := 66) C dX0_setFoes_66 rfl 1 rfl ?_
              refine dz_dup2 (pc := 67) C dX0_setFoes_67 rfl rfl ?_
              refine dz_iald (pc := 68) (k := k) (j := 2) (n := 8) (f := (T 2)) C hk (by decide) rfl (dt_rAf _ _ _ _) dX0_setFoes_68 h (fun a1 h => ?_)
              refine dz_iconst (pc := 69) (v := (1 : Int32)) C dX0_setFoes_69 (by decide) ?_
              refine dz_iload_n (pc := 70) C dX0_setFoes_70 rfl 2 rfl ?_
              refine dz_ishl (pc := 71) C dX0_setFoes_71 ?_
              refine dz_iconst (pc := 72) (v := (-1 : Int32)) C dX0_setFoes_72 (by decide) ?_
              refine dz_ixor (pc := 73) C dX0_setFoes_73 ?_
              refine dz_iand (pc := 74) C dX0_setFoes_74 ?_
              refine dz_iast (pc := 75) (k := k) (j := 2) (n := 8) (M' := fun a2 => (dt_put M k (dt_set T 2 a2 (((T 2) a1) &&& (((1 : Int32) <<< (x2 &&& 31)) ^^^ (-1 : Int32)))))) C hk (by decide) rfl (fun a2 => (dt_wA _ _ _ _ _ _)) dX0_setFoes_75 h (fun a2 h => ?_)
              refine dz_aload_n (pc := 76) C dX0_setFoes_76 rfl 0 rfl ?_
              refine dz_getR (pc := 77) (k := k) (j := 2) C Fc_X0 hk (by decide) (by decide) rfl fl_X0_19 dX0_setFoes_77 ?_
              refine dz_iload_n (pc := 80) C dX0_setFoes_80 rfl 2 rfl ?_
              refine dz_dup2 (pc := 81) C dX0_setFoes_81 rfl rfl ?_
              refine dz_iald (pc := 82) (k := k) (j := 2) (n := 8) (f := ((dt_set T 2 a2 (((T 2) a1) &&& (((1 : Int32) <<< (x2 &&& 31)) ^^^ (-1 : Int32)))) 2)) C hk (by decide) rfl (dt_rAf _ _ _ _) dX0_setFoes_82 h (fun a3 h => ?_)
              refine dz_iconst (pc := 83) (v := (1 : Int32)) C dX0_setFoes_83 (by decide) ?_
              refine dz_iload_n (pc := 84) C dX0_setFoes_84 rfl 1 rfl ?_
              refine dz_ishl (pc := 85) C dX0_setFoes_85 ?_
              refine dz_iconst (pc := 86) (v := (-1 : Int32)) C dX0_setFoes_86 (by decide) ?_
              refine dz_ixor (pc := 87) C dX0_setFoes_87 ?_
              refine dz_iand (pc := 88) C dX0_setFoes_88 ?_
              refine dz_iast (pc := 89) (k := k) (j := 2) (n := 8) (M' := fun a4 => (dt_put M k (dt_set (dt_set T 2 a2 (((T 2) a1) &&& (((1 : Int32) <<< (x2 &&& 31)) ^^^ (-1 : Int32)))) 2 a4 ((((dt_set T 2 a2 (((T 2) a1) &&& (((1 : Int32) <<< (x2 &&& 31)) ^^^ (-1 : Int32)))) 2) a3) &&& (((1 : Int32) <<< (x1 &&& 31)) ^^^ (-1 : Int32)))))) C hk (by decide) rfl (fun a4 => (dt_wA _ _ _ _ _ _)) dX0_setFoes_89 h (fun a4 h => ?_)
              refine dz_iconst (pc := 90) (v := (1 : Int32)) C dX0_setFoes_90 (by decide) ?_
              cases dt_some h
              exact dz_zret (pc := 91) C hr (Or.inr rfl) dX0_setFoes_91
            · refine dz_aload_n (pc := 35) C dX0_setFoes_35 rfl 0 rfl ?_
              refine dz_getR (pc := 36) (k := k) (j := 2) C Fc_X0 hk (by decide) (by decide) rfl fl_X0_19 dX0_setFoes_36 ?_
              refine dz_iload_n (pc := 39) C dX0_setFoes_39 rfl 1 rfl ?_
              refine dz_dup2 (pc := 40) C dX0_setFoes_40 rfl rfl ?_
              refine dz_iald (pc := 41) (k := k) (j := 2) (n := 8) (f := (T 2)) C hk (by decide) rfl (dt_rAf _ _ _ _) dX0_setFoes_41 h (fun a5 h => ?_)
              refine dz_iconst (pc := 42) (v := (1 : Int32)) C dX0_setFoes_42 (by decide) ?_
              refine dz_iload_n (pc := 43) C dX0_setFoes_43 rfl 2 rfl ?_
              refine dz_ishl (pc := 44) C dX0_setFoes_44 ?_
              refine dz_ior (pc := 45) C dX0_setFoes_45 ?_
              refine dz_iast (pc := 46) (k := k) (j := 2) (n := 8) (M' := fun a6 => (dt_put M k (dt_set T 2 a6 (((T 2) a5) ||| ((1 : Int32) <<< (x2 &&& 31)))))) C hk (by decide) rfl (fun a6 => (dt_wA _ _ _ _ _ _)) dX0_setFoes_46 h (fun a6 h => ?_)
              refine dz_aload_n (pc := 47) C dX0_setFoes_47 rfl 0 rfl ?_
              refine dz_getR (pc := 48) (k := k) (j := 2) C Fc_X0 hk (by decide) (by decide) rfl fl_X0_19 dX0_setFoes_48 ?_
              refine dz_iload_n (pc := 51) C dX0_setFoes_51 rfl 2 rfl ?_
              refine dz_dup2 (pc := 52) C dX0_setFoes_52 rfl rfl ?_
              refine dz_iald (pc := 53) (k := k) (j := 2) (n := 8) (f := ((dt_set T 2 a6 (((T 2) a5) ||| ((1 : Int32) <<< (x2 &&& 31)))) 2)) C hk (by decide) rfl (dt_rAf _ _ _ _) dX0_setFoes_53 h (fun a7 h => ?_)
              refine dz_iconst (pc := 54) (v := (1 : Int32)) C dX0_setFoes_54 (by decide) ?_
              refine dz_iload_n (pc := 55) C dX0_setFoes_55 rfl 1 rfl ?_
              refine dz_ishl (pc := 56) C dX0_setFoes_56 ?_
              refine dz_ior (pc := 57) C dX0_setFoes_57 ?_
              refine dz_iast (pc := 58) (k := k) (j := 2) (n := 8) (M' := fun a8 => (dt_put M k (dt_set (dt_set T 2 a6 (((T 2) a5) ||| ((1 : Int32) <<< (x2 &&& 31)))) 2 a8 ((((dt_set T 2 a6 (((T 2) a5) ||| ((1 : Int32) <<< (x2 &&& 31)))) 2) a7) ||| ((1 : Int32) <<< (x1 &&& 31)))))) C hk (by decide) rfl (fun a8 => (dt_wA _ _ _ _ _ _)) dX0_setFoes_58 h (fun a8 h => ?_)
              refine dz_goto (pc := 59) (t := 90) C dX0_setFoes_59 (by decide) ?_
              refine dz_iconst (pc := 90) (v := (1 : Int32)) C dX0_setFoes_90 (by decide) ?_
              cases dt_some h
              exact dz_zret (pc := 91) C hr (Or.inr rfl) dX0_setFoes_91
          · refine dz_iconst (pc := 29) (v := (0 : Int32)) C dX0_setFoes_29 (by decide) ?_
            cases dt_some h
            exact dz_zret (pc := 30) C hr (Or.inl rfl) dX0_setFoes_30

def fX0_strengthOf_42 (r4 : Int32 → Int32 → Int32 → dt_Ob → Option (Int32)) (x1 : Int32) (x2 : Int32) (x3 : Int32) (T : dt_Ob) : Option (Int32) := (r4 x1 x2 (x3 + (1 : Int32)) T)
set_option maxRecDepth 10000 in
set_option maxHeartbeats 4000000 in
theorem tX0_strengthOf_42 {nb : Nat} {G : dt_G} {A : Nat → Prop} {p : Program} {l : Launch} {e : Env} {s : State} {m : MethodId} {args : Array Value} {below : List Frame} {meth : Method} {c : Code} (C : dt_Cx nb G A p s m args meth c cX0_strengthOf 4 RX0) (hr : meth.sig.returnType = (some .int)) {k : Nat} (hk : k < 18 + nb ∧ dt_c k = 0) {M : dt_M} {res : Int32} {r4 : Int32 → Int32 → Int32 → dt_Ob → Option (Int32)} (hr4 : ∀ (x1 : Int32) (x2 : Int32) (x3 : Int32) (T : dt_Ob), r4 x1 x2 x3 T = some res → dt_At G A p l e (dt_rm 1) s m args below meth c 4 (MQ below (dt_Post G A (some (.int res)) (dt_put M k T)) args s 0 0 A) 4 [(0, .ref (G.1 k 0)), (1, .int x1), (2, .int x2), (3, .int x3)] [] (dt_put M k T)) : ∀ (x1 : Int32) (x2 : Int32) (x3 : Int32) (T : dt_Ob), fX0_strengthOf_42 r4 x1 x2 x3 T = some res → dt_At G A p l e (dt_rm 1) s m args below meth c 4 (MQ below (dt_Post G A (some (.int res)) (dt_put M k T)) args s 0 0 A) 42 [(0, .ref (G.1 k 0)), (1, .int x1), (2, .int x2), (3, .int x3)] [] (dt_put M k T) := by
  intro x1 x2 x3 T h
  unfold fX0_strengthOf_42 at h
  refine dz_iinc (pc := 42) (v := (x3 + (1 : Int32))) C dX0_strengthOf_42 3 rfl rfl (by decide) rfl ?_
  refine dz_goto (pc := 45) (t := 4) C dX0_strengthOf_45 (by decide) ?_
  refine dz_sub [1, 2, 3, 0] rfl ?_
  exact hr4 x1 x2 (x3 + (1 : Int32)) T h
def fX0_strengthOf_4  : Nat → Int32 → Int32 → Int32 → dt_Ob → Option (Int32)
  | 0, _, _, _, _ => none
  | n + 1, x1, x2, x3, T => (if (T 0 0) ≤ x3 then (some x2) else (if (x1 &&& ((1 : Int32) <<< (x3 &&& 31))) = 0 then (fX0_strengthOf_42 (fX0_strengthOf_4 n) x1 x2 x3 T) else ((dt_ix x3 8).bind fun a1 => (if (((T 2) a1) &&& x1) = 0 then ((dt_ix x3 8).bind fun a2 => (fX0_strengthOf_42 (fX0_strengthOf_4 n) x1 (x2 + ((T 1) a2)) x3 T)) else (some (0 : Int32))))))
set_option maxRecDepth 10000 in
set_option maxHeartbeats 4000000 in
theorem tX0_strengthOf_4 {nb : Nat} {G : dt_G} {A : Nat → Prop} {p : Program} {l : Launch} {e : Env} {s : State} {m : MethodId} {args : Array Value} {below : List Frame} {meth : Method} {c : Code} (C : dt_Cx nb G A p s m args meth c cX0_strengthOf 4 RX0) (hr : meth.sig.returnType = (some .int)) {k : Nat} (hk : k < 18 + nb ∧ dt_c k = 0) {M : dt_M} {res : Int32}  : ∀ (n : Nat) (x1 : Int32) (x2 : Int32) (x3 : Int32) (T : dt_Ob), fX0_strengthOf_4 n x1 x2 x3 T = some res → dt_At G A p l e (dt_rm 1) s m args below meth c 4 (MQ below (dt_Post G A (some (.int res)) (dt_put M k T)) args s 0 0 A) 4 [(0, .ref (G.1 k 0)), (1, .int x1), (2, .int x2), (3, .int x3)] [] (dt_put M k T) := by
  intro n
  induction n with
  | zero =>
    intro x1 x2 x3 T h
    unfold fX0_strengthOf_4 at h
    cases h
  | succ n ih =>
    intro x1 x2 x3 T h
    unfold fX0_strengthOf_4 at h
    refine dz_iload_n (pc := 4) C dX0_strengthOf_4 rfl 3 rfl ?_
    refine dz_aload_n (pc := 5) C dX0_strengthOf_5 rfl 0 rfl ?_
    refine dz_getI (pc := 6) (k := k) (j := 0) (v := (T 0 0)) C Fc_X0 hk (by decide) rfl rfl fl_X0_9 (dt_rA _ _ _ _ _) dX0_strengthOf_6 ?_
    refine dz_icmp_ge (pc := 9) (t := 48) C dX0_strengthOf_9 (by decide) h (fun h => ?_) (fun h => ?_)
    · refine dz_iload_n (pc := 48) C dX0_strengthOf_48 rfl 2 rfl ?_
      cases dt_some h
      exact dz_iret (pc := 49) C hr dX0_strengthOf_49
    · refine dz_iload_n (pc := 12) C dX0_strengthOf_12 rfl 1 rfl ?_
      refine dz_iconst (pc := 13) (v := (1 : Int32)) C dX0_strengthOf_13 (by decide) ?_
      refine dz_iload_n (pc := 14) C dX0_strengthOf_14 rfl 3 rfl ?_
      refine dz_ishl (pc := 15) C dX0_strengthOf_15 ?_
      refine dz_iand (pc := 16) C dX0_strengthOf_16 ?_
      refine dz_if_eq (pc := 17) (t := 42) C dX0_strengthOf_17 (by decide) h (fun h => ?_) (fun h => ?_)
      · exact tX0_strengthOf_42 C hr hk ih x1 x2 x3 T h
      · refine dz_aload_n (pc := 20) C dX0_strengthOf_20 rfl 0 rfl ?_
        refine dz_getR (pc := 21) (k := k) (j := 2) C Fc_X0 hk (by decide) (by decide) rfl fl_X0_19 dX0_strengthOf_21 ?_
        refine dz_iload_n (pc := 24) C dX0_strengthOf_24 rfl 3 rfl ?_
        refine dz_iald (pc := 25) (k := k) (j := 2) (n := 8) (f := (T 2)) C hk (by decide) rfl (dt_rAf _ _ _ _) dX0_strengthOf_25 h (fun a1 h => ?_)
        refine dz_iload_n (pc := 26) C dX0_strengthOf_26 rfl 1 rfl ?_
        refine dz_iand (pc := 27) C dX0_strengthOf_27 ?_
        refine dz_if_eq (pc := 28) (t := 33) C dX0_strengthOf_28 (by decide) h (fun h => ?_) (fun h => ?_)
        · refine dz_iload_n (pc := 33) C dX0_strengthOf_33 rfl 2 rfl ?_
          refine dz_aload_n (pc := 34) C dX0_strengthOf_34 rfl 0 rfl ?_
          refine dz_getR (pc := 35) (k := k) (j := 1) C Fc_X0 hk (by decide) (by decide) rfl fl_X0_15 dX0_strengthOf_35 ?_
          refine dz_iload_n (pc := 38) C dX0_strengthOf_38 rfl 3 rfl ?_
          refine dz_iald (pc := 39) (k := k) (j := 1) (n := 8) (f := (T 1)) C hk (by decide) rfl (dt_rAf _ _ _ _) dX0_strengthOf_39 h (fun a2 h => ?_)
          refine dz_iadd (pc := 40) C dX0_strengthOf_40 ?_
          refine dz_istore_n (pc := 41) C dX0_strengthOf_41 rfl (by decide) rfl ?_
          refine dz_sub [1, 2, 0, 3] rfl ?_
          exact tX0_strengthOf_42 C hr hk ih x1 (x2 + ((T 1) a2)) x3 T h
        · refine dz_iconst (pc := 31) (v := (0 : Int32)) C dX0_strengthOf_31 (by decide) ?_
          cases dt_some h
          exact dz_iret (pc := 32) C hr dX0_strengthOf_32
def fX0_strengthOf  (x1 : Int32) (T : dt_Ob) : Option (Int32) := (fX0_strengthOf_4 dt_F x1 (0 : Int32) (0 : Int32) T)
set_option maxRecDepth 10000 in
set_option maxHeartbeats 4000000 in
theorem m_X0_strengthOf {nb : Nat} (l : Launch) {k : Nat} (hk : k < 18 + nb ∧ dt_c k = 0)  (M : dt_M) (T : dt_Ob)  (x1 : Int32) {res : Int32} (h : fX0_strengthOf x1 T = some res) : dt_Met nb l yX0_strengthOf cX0_strengthOf 4 (some .int) 1 (fun G => [.ref (G.1 k 0), .int x1]) (dt_put M k T) (some (.int res)) (dt_put M k T) := by
  refine dz_enter (lv := fun G => [(0, .ref (G.1 k 0)), (1, .int x1)]) (by decide) (fun _ => rfl) (fun _ => Nat.le_of_ble_eq_true rfl) (fun G A p e s m args below meth c C hr => ?_)
  unfold fX0_strengthOf at h
  refine dz_iconst (pc := 0) (v := (0 : Int32)) C dX0_strengthOf_0 (by decide) ?_
  refine dz_istore_n (pc := 1) C dX0_strengthOf_1 rfl (by decide) rfl ?_
  refine dz_iconst (pc := 2) (v := (0 : Int32)) C dX0_strengthOf_2 (by decide) ?_
  refine dz_istore_n (pc := 3) C dX0_strengthOf_3 rfl (by decide) rfl ?_
  refine dz_sub [2, 3, 1, 0] rfl ?_
  exact tX0_strengthOf_4 C hr hk dt_F x1 (0 : Int32) (0 : Int32) T h

def fX0_fewest_53 (r4 : Int32 → Int32 → Int32 → dt_Ob → Option (Int32)) (x1 : Int32) (x2 : Int32) (x3 : Int32) (T : dt_Ob) : Option (Int32) := (r4 x1 x2 (x3 + (1 : Int32)) T)
set_option maxRecDepth 10000 in
set_option maxHeartbeats 4000000 in
theorem tX0_fewest_53 {nb : Nat} {G : dt_G} {A : Nat → Prop} {p : Program} {l : Launch} {e : Env} {s : State} {m : MethodId} {args : Array Value} {below : List Frame} {meth : Method} {c : Code} (C : dt_Cx nb G A p s m args meth c cX0_fewest 5 RX0) (hr : meth.sig.returnType = (some .int)) {k : Nat} (hk : k < 18 + nb ∧ dt_c k = 0) {M : dt_M} {res : Int32} {r4 : Int32 → Int32 → Int32 → dt_Ob → Option (Int32)} (hr4 : ∀ (x1 : Int32) (x2 : Int32) (x3 : Int32) (T : dt_Ob), r4 x1 x2 x3 T = some res → dt_At G A p l e (dt_rm 2) s m args below meth c 5 (MQ below (dt_Post G A (some (.int res)) (dt_put M k T)) args s 0 0 A) 4 [(0, .ref (G.1 k 0)), (1, .int x1), (2, .int x2), (3, .int x3)] [] (dt_put M k T)) : ∀ (x1 : Int32) (x2 : Int32) (x3 : Int32) (T : dt_Ob), fX0_fewest_53 r4 x1 x2 x3 T = some res → dt_At G A p l e (dt_rm 2) s m args below meth c 5 (MQ below (dt_Post G A (some (.int res)) (dt_put M k T)) args s 0 0 A) 53 [(0, .ref (G.1 k 0)), (1, .int x1), (2, .int x2), (3, .int x3)] [] (dt_put M k T) := by
  intro x1 x2 x3 T h
  unfold fX0_fewest_53 at h
  refine dz_iinc (pc := 53) (v := (x3 + (1 : Int32))) C dX0_fewest_53 3 rfl rfl (by decide) rfl ?_
  refine dz_goto (pc := 56) (t := 4) C dX0_fewest_56 (by decide) ?_
  refine dz_sub [1, 2, 3, 0] rfl ?_
  exact hr4 x1 x2 (x3 + (1 : Int32)) T h
def fX0_fewest_35 (r4 : Int32 → Int32 → Int32 → dt_Ob → Option (Int32)) (x1 : Int32) (x2 : Int32) (x3 : Int32) (s0 : Int32) (T : dt_Ob) : Option (Int32) := (if s0 = 0 then (fX0_fewest_53 r4 x1 x2 x3 T) else ((fX0_strengthOf x3 T).bind fun q3 => (if q3 < x1 then (fX0_fewest_53 r4 x1 x2 x3 T) else (fX0_fewest_53 r4 x1 x3 x3 T))))
set_option maxRecDepth 10000 in
set_option maxHeartbeats 4000000 in
theorem tX0_fewest_35 {nb : Nat} {G : dt_G} {A : Nat → Prop} {p : Program} {l : Launch} {e : Env} {s : State} {m : MethodId} {args : Array Value} {below : List Frame} {meth : Method} {c : Code} (C : dt_Cx nb G A p s m args meth c cX0_fewest 5 RX0) (hr : meth.sig.returnType = (some .int)) {k : Nat} (hk : k < 18 + nb ∧ dt_c k = 0) {M : dt_M} {res : Int32} {r4 : Int32 → Int32 → Int32 → dt_Ob → Option (Int32)} (hr4 : ∀ (x1 : Int32) (x2 : Int32) (x3 : Int32) (T : dt_Ob), r4 x1 x2 x3 T = some res → dt_At G A p l e (dt_rm 2) s m args below meth c 5 (MQ below (dt_Post G A (some (.int res)) (dt_put M k T)) args s 0 0 A) 4 [(0, .ref (G.1 k 0)), (1, .int x1), (2, .int x2), (3, .int x3)] [] (dt_put M k T)) : ∀ (x1 : Int32) (x2 : Int32) (x3 : Int32) (s0 : Int32) (T : dt_Ob), fX0_fewest_35 r4 x1 x2 x3 s0 T = some res → dt_At G A p l e (dt_rm 2) s m args below meth c 5 (MQ below (dt_Post G A (some (.int res)) (dt_put M k T)) args s 0 0 A) 35 [(0, .ref (G.1 k 0)), (1, .int x1), (2, .int x2), (3, .int x3)] [.int s0] (dt_put M k T) := by
  intro x1 x2 x3 s0 T h
  unfold fX0_fewest_35 at h
  refine dz_istore (pc := 35) C dX0_fewest_35 (by decide) rfl ?_
  refine dz_iload (pc := 37) C dX0_fewest_37 0 rfl ?_
  refine dz_if_eq (pc := 39) (t := 53) C dX0_fewest_39 (by decide) h (fun h => ?_) (fun h => ?_)
  · refine dz_sub [1, 2, 3, 4] rfl ?_
    exact tX0_fewest_53 C hr hk hr4 x1 x2 x3 T h
  · refine dz_aload_n (pc := 42) C dX0_fewest_42 rfl 1 rfl ?_
    refine dz_iload_n (pc := 43) C dX0_fewest_43 rfl 4 rfl ?_
    obtain ⟨q3, eq3, h⟩ := dt_bind h
    refine dz_callVi (pc := 44) (st := []) (k := k) (As := [.int x3]) (M' := (dt_put M k T)) C Fc_X0 hk mf_X0_strengthOf rfl ml_X0_40 (m_X0_strengthOf l hk _ _ _ eq3) rfl rfl (by omega) (by decide) (Nat.le_of_ble_eq_true rfl) dX0_fewest_44 ?_
    refine dz_iload_n (pc := 47) C dX0_fewest_47 rfl 2 rfl ?_
    refine dz_icmp_lt (pc := 48) (t := 53) C dX0_fewest_48 (by decide) h (fun h => ?_) (fun h => ?_)
    · refine dz_sub [1, 2, 3, 4] rfl ?_
      exact tX0_fewest_53 C hr hk hr4 x1 x2 x3 T h
    · refine dz_iload_n (pc := 51) C dX0_fewest_51 rfl 4 rfl ?_
      refine dz_istore_n (pc := 52) C dX0_fewest_52 rfl (by decide) rfl ?_
      refine dz_sub [2, 3, 0, 4] rfl ?_
      exact tX0_fewest_53 C hr hk hr4 x1 x3 x3 T h
def fX0_fewest_30 (r4 : Int32 → Int32 → Int32 → dt_Ob → Option (Int32)) (x1 : Int32) (x2 : Int32) (x3 : Int32) (T : dt_Ob) : Option (Int32) := (fX0_fewest_35 r4 x1 x2 x3 (1 : Int32) T)
set_option maxRecDepth 10000 in
set_option maxHeartbeats 4000000 in
theorem tX0_fewest_30 {nb : Nat} {G : dt_G} {A : Nat → Prop} {p : Program} {l : Launch} {e : Env} {s : State} {m : MethodId} {args : Array Value} {below : List Frame} {meth : Method} {c : Code} (C : dt_Cx nb G A p s m args meth c cX0_fewest 5 RX0) (hr : meth.sig.returnType = (some .int)) {k : Nat} (hk : k < 18 + nb ∧ dt_c k = 0) {M : dt_M} {res : Int32} {r4 : Int32 → Int32 → Int32 → dt_Ob → Option (Int32)} (hr4 : ∀ (x1 : Int32) (x2 : Int32) (x3 : Int32) (T : dt_Ob), r4 x1 x2 x3 T = some res → dt_At G A p l e (dt_rm 2) s m args below meth c 5 (MQ below (dt_Post G A (some (.int res)) (dt_put M k T)) args s 0 0 A) 4 [(0, .ref (G.1 k 0)), (1, .int x1), (2, .int x2), (3, .int x3)] [] (dt_put M k T)) : ∀ (x1 : Int32) (x2 : Int32) (x3 : Int32) (T : dt_Ob), fX0_fewest_30 r4 x1 x2 x3 T = some res → dt_At G A p l e (dt_rm 2) s m args below meth c 5 (MQ below (dt_Post G A (some (.int res)) (dt_put M k T)) args s 0 0 A) 30 [(0, .ref (G.1 k 0)), (1, .int x1), (2, .int x2), (3, .int x3)] [] (dt_put M k T) := by
  intro x1 x2 x3 T h
  unfold fX0_fewest_30 at h
  refine dz_iconst (pc := 30) (v := (1 : Int32)) C dX0_fewest_30 (by decide) ?_
  refine dz_goto (pc := 31) (t := 35) C dX0_fewest_31 (by decide) ?_
  exact tX0_fewest_35 C hr hk hr4 x1 x2 x3 (1 : Int32) T h
def fX0_fewest_4  : Nat → Int32 → Int32 → Int32 → dt_Ob → Option (Int32)
  | 0, _, _, _, _ => none
  | n + 1, x1, x2, x3, T => (if ((1 : Int32) <<< ((T 0 0) &&& 31)) ≤ x3 then (some x2) else (if x2 = (-1 : Int32) then (fX0_fewest_30 (fX0_fewest_4 n) x1 x2 x3 T) else ((fJ6_bitCount_0f7a4 x3).bind fun q1 => ((fJ6_bitCount_0f7a4 x2).bind fun q2 => (if q2 ≤ q1 then (fX0_fewest_35 (fX0_fewest_4 n) x1 x2 x3 (0 : Int32) T) else (fX0_fewest_30 (fX0_fewest_4 n) x1 x2 x3 T))))))
set_option maxRecDepth 10000 in
set_option maxHeartbeats 4000000 in
theorem tX0_fewest_4 {nb : Nat} {G : dt_G} {A : Nat → Prop} {p : Program} {l : Launch} {e : Env} {s : State} {m : MethodId} {args : Array Value} {below : List Frame} {meth : Method} {c : Code} (C : dt_Cx nb G A p s m args meth c cX0_fewest 5 RX0) (hr : meth.sig.returnType = (some .int)) {k : Nat} (hk : k < 18 + nb ∧ dt_c k = 0) {M : dt_M} {res : Int32}  : ∀ (n : Nat) (x1 : Int32) (x2 : Int32) (x3 : Int32) (T : dt_Ob), fX0_fewest_4 n x1 x2 x3 T = some res → dt_At G A p l e (dt_rm 2) s m args below meth c 5 (MQ below (dt_Post G A (some (.int res)) (dt_put M k T)) args s 0 0 A) 4 [(0, .ref (G.1 k 0)), (1, .int x1), (2, .int x2), (3, .int x3)] [] (dt_put M k T) := by
  intro n
  induction n with
  | zero =>
    intro x1 x2 x3 T h
    unfold fX0_fewest_4 at h
    cases h
  | succ n ih =>
    intro x1 x2 x3 T h
    unfold fX0_fewest_4 at h
    refine dz_iload_n (pc := 4) C dX0_fewest_4 rfl 3 rfl ?_
    refine dz_iconst (pc := 5) (v := (1 : Int32)) C dX0_fewest_5 (by decide) ?_
    refine dz_aload_n (pc := 6) C dX0_fewest_6 rfl 0 rfl ?_
    refine dz_getI (pc := 7) (k := k) (j := 0) (v := (T 0 0)) C Fc_X0 hk (by decide) rfl rfl fl_X0_9 (dt_rA _ _ _ _ _) dX0_fewest_7 ?_
    refine dz_ishl (pc := 10) C dX0_fewest_10 ?_
    refine dz_icmp_ge (pc := 11) (t := 59) C dX0_fewest_11 (by decide) h (fun h => ?_) (fun h => ?_)
    · refine dz_iload_n (pc := 59) C dX0_fewest_59 rfl 2 rfl ?_
      cases dt_some h
      exact dz_iret (pc := 60) C hr dX0_fewest_60
    · refine dz_iload_n (pc := 14) C dX0_fewest_14 rfl 2 rfl ?_
      refine dz_iconst (pc := 15) (v := (-1 : Int32)) C dX0_fewest_15 (by decide) ?_
      refine dz_icmp_eq (pc := 16) (t := 30) C dX0_fewest_16 (by decide) h (fun h => ?_) (fun h => ?_)
      · exact tX0_fewest_30 C hr hk ih x1 x2 x3 T h
      · refine dz_iload_n (pc := 19) C dX0_fewest_19 rfl 3 rfl ?_
        obtain ⟨q1, eq1, h⟩ := dt_bind h
        refine dz_callSi (pc := 20) (st := []) (As := [.int x3]) (M' := (dt_put M k T)) C ms_J6_bitCount_0f7a4 ml_X0_34 (m_J6_bitCount_0f7a4 l _ _ eq1) rfl rfl (by omega) (by decide) (Nat.le_of_ble_eq_true rfl) dX0_fewest_20 ?_
        refine dz_iload_n (pc := 23) C dX0_fewest_23 rfl 2 rfl ?_
        obtain ⟨q2, eq2, h⟩ := dt_bind h
        refine dz_callSi (pc := 24) (st := [.int q1]) (As := [.int x2]) (M' := (dt_put M k T)) C ms_J6_bitCount_0f7a4 ml_X0_34 (m_J6_bitCount_0f7a4 l _ _ eq2) rfl rfl (by omega) (by decide) (Nat.le_of_ble_eq_true rfl) dX0_fewest_24 ?_
        refine dz_icmp_ge (pc := 27) (t := 34) C dX0_fewest_27 (by decide) h (fun h => ?_) (fun h => ?_)
        · refine dz_iconst (pc := 34) (v := (0 : Int32)) C dX0_fewest_34 (by decide) ?_
          exact tX0_fewest_35 C hr hk ih x1 x2 x3 (0 : Int32) T h
        · exact tX0_fewest_30 C hr hk ih x1 x2 x3 T h
def fX0_fewest  (x1 : Int32) (T : dt_Ob) : Option (Int32) := (fX0_fewest_4 dt_F x1 (-1 : Int32) (1 : Int32) T)
set_option maxRecDepth 10000 in
set_option maxHeartbeats 4000000 in
theorem m_X0_fewest {nb : Nat} (l : Launch) {k : Nat} (hk : k < 18 + nb ∧ dt_c k = 0)  (M : dt_M) (T : dt_Ob)  (x1 : Int32) {res : Int32} (h : fX0_fewest x1 T = some res) : dt_Met nb l yX0_fewest cX0_fewest 5 (some .int) 2 (fun G => [.ref (G.1 k 0), .int x1]) (dt_put M k T) (some (.int res)) (dt_put M k T) := by
  refine dz_enter (lv := fun G => [(0, .ref (G.1 k 0)), (1, .int x1)]) (by decide) (fun _ => rfl) (fun _ => Nat.le_of_ble_eq_true rfl) (fun G A p e s m args below meth c C hr => ?_)
  unfold fX0_fewest at h
  refine dz_iconst (pc := 0) (v := (-1 : Int32)) C dX0_fewest_0 (by decide) ?_
  refine dz_istore_n (pc := 1) C dX0_fewest_1 rfl (by decide) rfl ?_
  refine dz_iconst (pc := 2) (v := (1 : Int32)) C dX0_fewest_2 (by decide) ?_
  refine dz_istore_n (pc := 3) C dX0_fewest_3 rfl (by decide) rfl ?_
  refine dz_sub [2, 3, 1, 0] rfl ?_
  exact tX0_fewest_4 C hr hk dt_F x1 (-1 : Int32) (1 : Int32) T h
