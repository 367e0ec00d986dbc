/-! ===== lifted: 19.tower ===== -/
def fX8_begin  (x1 : Int32) (M : dt_M) : Option (dt_M) := ((fX5_begin x1 (M 1)).bind fun q1 => ((fX1_begin (M 2)).bind fun q2 => ((fX7_begin (M 3)).bind fun q3 => ((fX0_begin (M 4)).bind fun q4 => ((fX4_begin (M 5)).bind fun q5 => (some (dt_put (dt_put (dt_put (dt_put (dt_put M 1 q1) 2 q2) 3 q3) 4 q4) 5 q5)))))))
set_option maxRecDepth 10000 in
set_option maxHeartbeats 4000000 in
theorem m_X8_begin {nb : Nat} (l : Launch)   (M : dt_M)  (x1 : Int32) {res : dt_M} (h : fX8_begin x1 M = some res) : dt_Met nb l yX8_begin cX8_begin 2 none 4 (fun G => [.ref (G.1 16 0), .int x1]) M none res := by
  refine dz_enter (lv := fun G => [(0, .ref (G.1 16 0)), (1, .int x1)]) (by decide) (fun _ => rfl) (fun _ => Nat.le_of_ble_eq_true rfl) (fun G A p e s m args below meth c C hr => ?_)
  unfold fX8_begin at h
  refine dz_aload_n (pc := 0) C dX8_begin_0 rfl 0 rfl ?_
  refine dz_getO (pc := 1) (k := 16) (j := 0) (o := 1) C Fc_X8 hk_16 (by decide) rfl rfl rfl fl_X8_10 dX8_begin_1 ?_
  refine dz_iload_n (pc := 4) C dX8_begin_4 rfl 1 rfl ?_
  obtain ⟨q1, eq1, h⟩ := dt_bind h
  refine dz_callVv (pc := 5) (st := []) (k := 1) (As := [.int x1]) (M' := (dt_put M 1 q1)) C Fc_X5 hk_1 mf_X5_begin rfl ml_X8_44 (dt_c1 (m_X5_begin l hk_1 M (M 1) _ eq1)) rfl rfl (by omega) (by decide) (Nat.le_of_ble_eq_true rfl) dX8_begin_5 ?_
  refine dz_aload_n (pc := 8) C dX8_begin_8 rfl 0 rfl ?_
  refine dz_getO (pc := 9) (k := 16) (j := 1) (o := 2) C Fc_X8 hk_16 (by decide) rfl rfl rfl fl_X8_19 dX8_begin_9 ?_
  obtain ⟨q2, eq2, h⟩ := dt_bind h
  refine dz_callVv (pc := 12) (st := []) (k := 2) (As := []) (M' := (dt_put (dt_put M 1 q1) 2 q2)) C Fc_X1 hk_2 mf_X1_begin rfl ml_X8_48 (dt_c1 (m_X1_begin l hk_2 (dt_put M 1 q1) (M 2) eq2)) rfl rfl (by omega) (by decide) (Nat.le_of_ble_eq_true rfl) dX8_begin_12 ?_
  refine dz_aload_n (pc := 15) C dX8_begin_15 rfl 0 rfl ?_
  refine dz_getO (pc := 16) (k := 16) (j := 2) (o := 3) C Fc_X8 hk_16 (by decide) rfl rfl rfl fl_X8_26 dX8_begin_16 ?_
  obtain ⟨q3, eq3, h⟩ := dt_bind h
  refine dz_callVv (pc := 19) (st := []) (k := 3) (As := []) (M' := (dt_put (dt_put (dt_put M 1 q1) 2 q2) 3 q3)) C Fc_X7 hk_3 mf_X7_begin rfl ml_X8_50 (dt_c1 (m_X7_begin l hk_3 (dt_put (dt_put M 1 q1) 2 q2) (M 3) eq3)) rfl rfl (by omega) (by decide) (Nat.le_of_ble_eq_true rfl) dX8_begin_19 ?_
  refine dz_aload_n (pc := 22) C dX8_begin_22 rfl 0 rfl ?_
  refine dz_getO (pc := 23) (k := 16) (j := 3) (o := 4) C Fc_X8 hk_16 (by decide) rfl rfl rfl fl_X8_33 dX8_begin_23 ?_
  obtain ⟨q4, eq4, h⟩ := dt_bind h
  refine dz_callVv (pc := 26) (st := []) (k := 4) (As := []) (M' := (dt_put (dt_put (dt_put (dt_put M 1 q1) 2 q2) 3 q3) 4 q4)) C Fc_X0 hk_4 mf_X0_begin rfl ml_X8_51 (dt_c1 (m_X0_begin l hk_4 (dt_put (dt_put (dt_put M 1 q1) 2 q2) 3 q3) (M 4) eq4)) rfl rfl (by omega) (by decide) (Nat.le_of_ble_eq_true rfl) dX8_begin_26 ?_
  refine dz_aload_n (pc := 29) C dX8_begin_29 rfl 0 rfl ?_
  refine dz_getO (pc := 30) (k := 16) (j := 4) (o := 5) C Fc_X8 hk_16 (by decide) rfl rfl rfl fl_X8_40 dX8_begin_30 ?_
  obtain ⟨q5, eq5, h⟩ := dt_bind h
  refine dz_callVv (pc := 33) (st := []) (k := 5) (As := []) (M' := (dt_put (dt_put (dt_put (dt_put (dt_put M 1 q1) 2 q2) 3 q3) 4 q4) 5 q5)) C Fc_X4 hk_5 mf_X4_begin rfl ml_X8_52 (dt_c1 (m_X4_begin l hk_5 (dt_put (dt_put (dt_put (dt_put M 1 q1) 2 q2) 3 q3) 4 q4) (M 5) eq5)) rfl rfl (by omega) (by decide) (Nat.le_of_ble_eq_true rfl) dX8_begin_33 ?_
  cases dt_some h
  exact dz_vret (pc := 36) C hr dX8_begin_36

def fX8_become_w  (M : dt_M) : Option (dt_M) := ((fX5_become (M 6) (M 1)).bind fun q1 => ((fX1_become (M 7) (M 2)).bind fun q2 => ((fX7_become (M 8) (M 3)).bind fun q3 => ((fX0_become (M 9) (M 4)).bind fun q4 => ((fX4_become (M 10) (M 5)).bind fun q5 => (some (dt_put (dt_put (dt_put (dt_put (dt_put M 1 q1) 2 q2) 3 q3) 4 q4) 5 q5)))))))
set_option maxRecDepth 10000 in
set_option maxHeartbeats 4000000 in
theorem m_X8_become_w {nb : Nat} (l : Launch)   (M : dt_M)   {res : dt_M} (h : fX8_become_w M = some res) : dt_Met nb l yX8_become cX8_become 2 none 3 (fun G => [.ref (G.1 16 0), .ref (G.1 17 0)]) M none res := by
  refine dz_enter (lv := fun G => [(0, .ref (G.1 16 0)), (1, .ref (G.1 17 0))]) (by decide) (fun _ => rfl) (fun _ => Nat.le_of_ble_eq_true rfl) (fun G A p e s m args below meth c C hr => ?_)
  unfold fX8_become_w at h
  refine dz_aload_n (pc := 0) C dX8_become_0 rfl 0 rfl ?_
  refine dz_getO (pc := 1) (k := 16) (j := 0) (o := 1) C Fc_X8 hk_16 (by decide) rfl rfl rfl fl_X8_10 dX8_become_1 ?_
  refine dz_aload_n (pc := 4) C dX8_become_4 rfl 1 rfl ?_
  refine dz_getO (pc := 5) (k := 17) (j := 0) (o := 6) C Fc_X8 hk_17 (by decide) rfl rfl rfl fl_X8_10 dX8_become_5 ?_
  obtain ⟨q1, eq1, h⟩ := dt_bind h
  refine dz_callVv (pc := 8) (st := []) (k := 1) (As := [.ref (G.1 6 0)]) (M' := (dt_put M 1 q1)) C Fc_X5 hk_1 mf_X5_become rfl ml_X8_53 (dt_c1 (m_X5_become l hk_1 hk_6 (by decide) M (M 1) (M 6) rfl eq1)) rfl rfl (by omega) (by decide) (Nat.le_of_ble_eq_true rfl) dX8_become_8 ?_
  refine dz_aload_n (pc := 11) C dX8_become_11 rfl 0 rfl ?_
  refine dz_getO (pc := 12) (k := 16) (j := 1) (o := 2) C Fc_X8 hk_16 (by decide) rfl rfl rfl fl_X8_19 dX8_become_12 ?_
  refine dz_aload_n (pc := 15) C dX8_become_15 rfl 1 rfl ?_
  refine dz_getO (pc := 16) (k := 17) (j := 1) (o := 7) C Fc_X8 hk_17 (by decide) rfl rfl rfl fl_X8_19 dX8_become_16 ?_
  obtain ⟨q2, eq2, h⟩ := dt_bind h
  refine dz_callVv (pc := 19) (st := []) (k := 2) (As := [.ref (G.1 7 0)]) (M' := (dt_put (dt_put M 1 q1) 2 q2)) C Fc_X1 hk_2 mf_X1_become rfl ml_X8_57 (dt_c1 (m_X1_become l hk_2 hk_7 (by decide) (dt_put M 1 q1) (M 2) (M 7) rfl eq2)) rfl rfl (by omega) (by decide) (Nat.le_of_ble_eq_true rfl) dX8_become_19 ?_
  refine dz_aload_n (pc := 22) C dX8_become_22 rfl 0 rfl ?_
  refine dz_getO (pc := 23) (k := 16) (j := 2) (o := 3) C Fc_X8 hk_16 (by decide) rfl rfl rfl fl_X8_26 dX8_become_23 ?_
  refine dz_aload_n (pc := 26) C dX8_become_26 rfl 1 rfl ?_
  refine dz_getO (pc := 27) (k := 17) (j := 2) (o := 8) C Fc_X8 hk_17 (by decide) rfl rfl rfl fl_X8_26 dX8_become_27 ?_
  obtain ⟨q3, eq3, h⟩ := dt_bind h
  refine dz_callVv (pc := 30) (st := []) (k := 3) (As := [.ref (G.1 8 0)]) (M' := (dt_put (dt_put (dt_put M 1 q1) 2 q2) 3 q3)) C Fc_X7 hk_3 mf_X7_become rfl ml_X8_60 (dt_c1 (m_X7_become l hk_3 hk_8 (by decide) (dt_put (dt_put M 1 q1) 2 q2) (M 3) (M 8) rfl eq3)) rfl rfl (by omega) (by decide) (Nat.le_of_ble_eq_true rfl) dX8_become_30 ?_
  refine dz_aload_n (pc := 33) C dX8_become_33 rfl 0 rfl ?_
  refine dz_getO (pc := 34) (k := 16) (j := 3) (o := 4) C Fc_X8 hk_16 (by decide) rfl rfl rfl fl_X8_33 dX8_become_34 ?_
  refine dz_aload_n (pc := 37) C dX8_become_37 rfl 1 rfl ?_
  refine dz_getO (pc := 38) (k := 17) (j := 3) (o := 9) C Fc_X8 hk_17 (by decide) rfl rfl rfl fl_X8_33 dX8_become_38 ?_
  obtain ⟨q4, eq4, h⟩ := dt_bind h
  refine dz_callVv (pc := 41) (st := []) (k := 4) (As := [.ref (G.1 9 0)]) (M' := (dt_put (dt_put (dt_put (dt_put M 1 q1) 2 q2) 3 q3) 4 q4)) C Fc_X0 hk_4 mf_X0_become rfl ml_X8_63 (dt_c1 (m_X0_become l hk_4 hk_9 (by decide) (dt_put (dt_put (dt_put M 1 q1) 2 q2) 3 q3) (M 4) (M 9) rfl eq4)) rfl rfl (by omega) (by decide) (Nat.le_of_ble_eq_true rfl) dX8_become_41 ?_
  refine dz_aload_n (pc := 44) C dX8_become_44 rfl 0 rfl ?_
  refine dz_getO (pc := 45) (k := 16) (j := 4) (o := 5) C Fc_X8 hk_16 (by decide) rfl rfl rfl fl_X8_40 dX8_become_45 ?_
  refine dz_aload_n (pc := 48) C dX8_become_48 rfl 1 rfl ?_
  refine dz_getO (pc := 49) (k := 17) (j := 4) (o := 10) C Fc_X8 hk_17 (by decide) rfl rfl rfl fl_X8_40 dX8_become_49 ?_
  obtain ⟨q5, eq5, h⟩ := dt_bind h
  refine dz_callVv (pc := 52) (st := []) (k := 5) (As := [.ref (G.1 10 0)]) (M' := (dt_put (dt_put (dt_put (dt_put (dt_put M 1 q1) 2 q2) 3 q3) 4 q4) 5 q5)) C Fc_X4 hk_5 mf_X4_become rfl ml_X8_66 (dt_c1 (m_X4_become l hk_5 hk_10 (by decide) (dt_put (dt_put (dt_put (dt_put M 1 q1) 2 q2) 3 q3) 4 q4) (M 5) (M 10) rfl eq5)) rfl rfl (by omega) (by decide) (Nat.le_of_ble_eq_true rfl) dX8_become_52 ?_
  cases dt_some h
  exact dz_vret (pc := 55) C hr dX8_become_55

def fX8_become_k  (M : dt_M) : Option (dt_M) := ((fX5_become (M 1) (M 6)).bind fun q1 => ((fX1_become (M 2) (M 7)).bind fun q2 => ((fX7_become (M 3) (M 8)).bind fun q3 => ((fX0_become (M 4) (M 9)).bind fun q4 => ((fX4_become (M 5) (M 10)).bind fun q5 => (some (dt_put (dt_put (dt_put (dt_put (dt_put M 6 q1) 7 q2) 8 q3) 9 q4) 10 q5)))))))
set_option maxRecDepth 10000 in
set_option maxHeartbeats 4000000 in
theorem m_X8_become_k {nb : Nat} (l : Launch)   (M : dt_M)   {res : dt_M} (h : fX8_become_k M = some res) : dt_Met nb l yX8_become cX8_become 2 none 3 (fun G => [.ref (G.1 17 0), .ref (G.1 16 0)]) M none res := by
  refine dz_enter (lv := fun G => [(0, .ref (G.1 17 0)), (1, .ref (G.1 16 0))]) (by decide) (fun _ => rfl) (fun _ => Nat.le_of_ble_eq_true rfl) (fun G A p e s m args below meth c C hr => ?_)
  unfold fX8_become_k at h
  refine dz_aload_n (pc := 0) C dX8_become_0 rfl 0 rfl ?_
  refine dz_getO (pc := 1) (k := 17) (j := 0) (o := 6) C Fc_X8 hk_17 (by decide) rfl rfl rfl fl_X8_10 dX8_become_1 ?_
  refine dz_aload_n (pc := 4) C dX8_become_4 rfl 1 rfl ?_
  refine dz_getO (pc := 5) (k := 16) (j := 0) (o := 1) C Fc_X8 hk_16 (by decide) rfl rfl rfl fl_X8_10 dX8_become_5 ?_
  obtain ⟨q1, eq1, h⟩ := dt_bind h
  refine dz_callVv (pc := 8) (st := []) (k := 6) (As := [.ref (G.1 1 0)]) (M' := (dt_put M 6 q1)) C Fc_X5 hk_6 mf_X5_become rfl ml_X8_53 (dt_c1 (m_X5_become l hk_6 hk_1 (by decide) M (M 6) (M 1) rfl eq1)) rfl rfl (by omega) (by decide) (Nat.le_of_ble_eq_true rfl) dX8_become_8 ?_
  refine dz_aload_n (pc := 11) C dX8_become_11 rfl 0 rfl ?_
  refine dz_getO (pc := 12) (k := 17) (j := 1) (o := 7) C Fc_X8 hk_17 (by decide) rfl rfl rfl fl_X8_19 dX8_become_12 ?_
  refine dz_aload_n (pc := 15) C dX8_become_15 rfl 1 rfl ?_
  refine dz_getO (pc := 16) (k := 16) (j := 1) (o := 2) C Fc_X8 hk_16 (by decide) rfl rfl rfl fl_X8_19 dX8_become_16 ?_
  obtain ⟨q2, eq2, h⟩ := dt_bind h
  refine dz_callVv (pc := 19) (st := []) (k := 7) (As := [.ref (G.1 2 0)]) (M' := (dt_put (dt_put M 6 q1) 7 q2)) C Fc_X1 hk_7 mf_X1_become rfl ml_X8_57 (dt_c1 (m_X1_become l hk_7 hk_2 (by decide) (dt_put M 6 q1) (M 7) (M 2) rfl eq2)) rfl rfl (by omega) (by decide) (Nat.le_of_ble_eq_true rfl) dX8_become_19 ?_
  refine dz_aload_n (pc := 22) C dX8_become_22 rfl 0 rfl ?_
  refine dz_getO (pc := 23) (k := 17) (j := 2) (o := 8) C Fc_X8 hk_17 (by decide) rfl rfl rfl fl_X8_26 dX8_become_23 ?_
  refine dz_aload_n (pc := 26) C dX8_become_26 rfl 1 rfl ?_
  refine dz_getO (pc := 27) (k := 16) (j := 2) (o := 3) C Fc_X8 hk_16 (by decide) rfl rfl rfl fl_X8_26 dX8_become_27 ?_
  obtain ⟨q3, eq3, h⟩ := dt_bind h
  refine dz_callVv (pc := 30) (st := []) (k := 8) (As := [.ref (G.1 3 0)]) (M' := (dt_put (dt_put (dt_put M 6 q1) 7 q2) 8 q3)) C Fc_X7 hk_8 mf_X7_become rfl ml_X8_60 (dt_c1 (m_X7_become l hk_8 hk_3 (by decide) (dt_put (dt_put M 6 q1) 7 q2) (M 8) (M 3) rfl eq3)) rfl rfl (by omega) (by decide) (Nat.le_of_ble_eq_true rfl) dX8_become_30 ?_
  refine dz_aload_n (pc := 33) C dX8_become_33 rfl 0 rfl ?_
  refine dz_getO (pc := 34) (k := 17) (j := 3) (o := 9) C Fc_X8 hk_17 (by decide) rfl rfl rfl fl_X8_33 dX8_become_34 ?_
  refine dz_aload_n (pc := 37) C dX8_become_37 rfl 1 rfl ?_
  refine dz_getO (pc := 38) (k := 16) (j := 3) (o := 4) C Fc_X8 hk_16 (by decide) rfl rfl rfl fl_X8_33 dX8_become_38 ?_
  obtain ⟨q4, eq4, h⟩ := dt_bind h
  refine dz_callVv (pc := 41) (st := []) (k := 9) (As := [.ref (G.1 4 0)]) (M' := (dt_put (dt_put (dt_put (dt_put M 6 q1) 7 q2) 8 q3) 9 q4)) C Fc_X0 hk_9 mf_X0_become rfl ml_X8_63 (dt_c1 (m_X0_become l hk_9 hk_4 (by decide) (dt_put (dt_put (dt_put M 6 q1) 7 q2) 8 q3) (M 9) (M 4) rfl eq4)) rfl rfl (by omega) (by decide) (Nat.le_of_ble_eq_true rfl) dX8_become_41 ?_
  refine dz_aload_n (pc := 44) C dX8_become_44 rfl 0 rfl ?_
  refine dz_getO (pc := 45) (k := 17) (j := 4) (o := 10) C Fc_X8 hk_17 (by decide) rfl rfl rfl fl_X8_40 dX8_become_45 ?_
  refine dz_aload_n (pc := 48) C dX8_become_48 rfl 1 rfl ?_
  refine dz_getO (pc := 49) (k := 16) (j := 4) (o := 5) C Fc_X8 hk_16 (by decide) rfl rfl rfl fl_X8_40 dX8_become_49 ?_
  obtain ⟨q5, eq5, h⟩ := dt_bind h
  refine dz_callVv (pc := 52) (st := []) (k := 10) (As := [.ref (G.1 5 0)]) (M' := (dt_put (dt_put (dt_put (dt_put (dt_put M 6 q1) 7 q2) 8 q3) 9 q4) 10 q5)) C Fc_X4 hk_10 mf_X4_become rfl ml_X8_66 (dt_c1 (m_X4_become l hk_10 hk_5 (by decide) (dt_put (dt_put (dt_put (dt_put M 6 q1) 7 q2) 8 q3) 9 q4) (M 10) (M 5) rfl eq5)) rfl rfl (by omega) (by decide) (Nat.le_of_ble_eq_true rfl) dX8_become_52 ?_
  cases dt_some h
  exact dz_vret (pc := 55) C hr dX8_become_55

def fX9_refuse  (x1 : Int32) (x2 : Int32) (M : dt_M) : Option (dt_M) := (some (dt_sM (dt_sM M 0 7 0 x1) 0 8 0 x2))
set_option maxRecDepth 10000 in
set_option maxHeartbeats 4000000 in
theorem m_X9_refuse {nb : Nat} (l : Launch)   (M : dt_M)  (x1 : Int32) (x2 : Int32) {res : dt_M} (h : fX9_refuse x1 x2 M = some res) : dt_Met nb l yX9_refuse cX9_refuse 3 none 1 (fun G => [.ref (G.1 0 0), .int x1, .int x2]) M none res := by
  refine dz_enter (lv := fun G => [(0, .ref (G.1 0 0)), (1, .int x1), (2, .int x2)]) (by decide) (fun _ => rfl) (fun _ => Nat.le_of_ble_eq_true rfl) (fun G A p e s m args below meth c C hr => ?_)
  unfold fX9_refuse at h
  refine dz_aload_n (pc := 0) C dX9_refuse_0 rfl 0 rfl ?_
  refine dz_iload_n (pc := 1) C dX9_refuse_1 rfl 1 rfl ?_
  refine dz_putI (pc := 2) (k := 0) (j := 7) (M' := (dt_sM M 0 7 0 x1)) C Fc_X9 hk_0 (by decide) rfl rfl rfl rfl fl_X9_45 rfl dX9_refuse_2 ?_
  refine dz_aload_n (pc := 5) C dX9_refuse_5 rfl 0 rfl ?_
  refine dz_iload_n (pc := 6) C dX9_refuse_6 rfl 2 rfl ?_
  refine dz_putI (pc := 7) (k := 0) (j := 8) (M' := (dt_sM (dt_sM M 0 7 0 x1) 0 8 0 x2)) C Fc_X9 hk_0 (by decide) rfl rfl rfl rfl fl_X9_48 rfl dX9_refuse_7 ?_
  cases dt_some h
  exact dz_vret (pc := 10) C hr dX9_refuse_10

def fX9_punch_42 (r3 : Int32 → Int32 → dt_M → Option (dt_M)) (x1 : Int32) (x2 : Int32) (M : dt_M) : Option (dt_M) := (r3 x1 (x2 + (-8 : Int32)) M)
set_option maxRecDepth 10000 in
set_option maxHeartbeats 4000000 in
theorem tX9_punch_42 {nb : Nat} {G : dt_G} {A : Nat → Prop} {p : Program} {l : Launch} {e : Env} {s : State} {m : MethodId} {args : Array Value} {below : List Frame} {meth : Method} {c : Code} (C : dt_Cx nb G A p s m args meth c cX9_punch 3 RX9) (hr : meth.sig.returnType = none) {res : dt_M} {r3 : Int32 → Int32 → dt_M → Option (dt_M)} (hr3 : ∀ (x1 : Int32) (x2 : Int32) (M : dt_M), r3 x1 x2 M = some res → dt_At G A p l e (dt_rm 1) s m args below meth c 3 (MQ below (dt_Post G A none res) args s 0 0 A) 3 [(0, .ref (G.1 0 0)), (1, .int x1), (2, .int x2)] [] M) : ∀ (x1 : Int32) (x2 : Int32) (M : dt_M), fX9_punch_42 r3 x1 x2 M = some res → dt_At G A p l e (dt_rm 1) s m args below meth c 3 (MQ below (dt_Post G A none res) args s 0 0 A) 42 [(0, .ref (G.1 0 0)), (1, .int x1), (2, .int x2)] [] M := by
  intro x1 x2 M h
  unfold fX9_punch_42 at h
  refine dz_iinc (pc := 42) (v := (x2 + (-8 : Int32))) C dX9_punch_42 2 rfl rfl (by decide) rfl ?_
  refine dz_goto (pc := 45) (t := 3) C dX9_punch_45 (by decide) ?_
  refine dz_sub [1, 2, 0] rfl ?_
  exact hr3 x1 (x2 + (-8 : Int32)) M h
def fX9_punch_3  : Nat → Int32 → Int32 → dt_M → Option (dt_M)
  | 0, _, _, _ => none
  | n + 1, x1, x2, M => (if x2 < 0 then (some M) else (if (400 : Int32) ≤ ((M 0) 5 0) then (fX9_punch_42 (fX9_punch_3 n) x1 x2 M) else ((dt_ix ((M 0) 5 0) 400).bind fun a1 => (fX9_punch_42 (fX9_punch_3 n) x1 x2 (dt_sM (dt_sM M 0 4 a1 ((Int32.toInt8 (Int32.toInt8 (x1 >>> (x2 &&& 31))).toInt32).toInt32)) 0 5 0 (((M 0) 5 0) + (1 : Int32)))))))
set_option maxRecDepth 10000 in
set_option maxHeartbeats 4000000 in
theorem tX9_punch_3 {nb : Nat} {G : dt_G} {A : Nat → Prop} {p : Program} {l : Launch} {e : Env} {s : State} {m : MethodId} {args : Array Value} {below : List Frame} {meth : Method} {c : Code} (C : dt_Cx nb G A p s m args meth c cX9_punch 3 RX9) (hr : meth.sig.returnType = none) {res : dt_M}  : ∀ (n : Nat) (x1 : Int32) (x2 : Int32) (M : dt_M), fX9_punch_3 n x1 x2 M = some res → dt_At G A p l e (dt_rm 1) s m args below meth c 3 (MQ below (dt_Post G A none res) args s 0 0 A) 3 [(0, .ref (G.1 0 0)), (1, .int x1), (2, .int x2)] [] M := by
  intro n
  induction n with
  | zero =>
    intro x1 x2 M h
    unfold fX9_punch_3 at h
    cases h
  | succ n ih =>
    intro x1 x2 M h
    unfold fX9_punch_3 at h
    refine dz_iload_n (pc := 3) C dX9_punch_3 rfl 2 rfl ?_
    refine dz_if_lt (pc := 4) (t := 48) C dX9_punch_4 (by decide) h (fun h => ?_) (fun h => ?_)
    · cases dt_some h
      exact dz_vret (pc := 48) C hr dX9_punch_48
    · refine dz_aload_n (pc := 7) C dX9_punch_7 rfl 0 rfl ?_
      refine dz_getI (pc := 8) (k := 0) (j := 5) (v := ((M 0) 5 0)) C Fc_X9 hk_0 (by decide) rfl rfl fl_X9_34 rfl dX9_punch_8 ?_
      refine dz_aload_n (pc := 11) C dX9_punch_11 rfl 0 rfl ?_
      refine dz_getR (pc := 12) (k := 0) (j := 4) C Fc_X9 hk_0 (by decide) (by decide) rfl fl_X9_30 dX9_punch_12 ?_
      refine dz_alenB (pc := 15) (k := 0) (j := 4) (n := 400) (v := (400 : Int32)) C hk_0 (by decide) rfl (by decide) dX9_punch_15 ?_
      refine dz_icmp_ge (pc := 16) (t := 42) C dX9_punch_16 (by decide) h (fun h => ?_) (fun h => ?_)
      · exact tX9_punch_42 C hr ih x1 x2 M h
      · refine dz_aload_n (pc := 19) C dX9_punch_19 rfl 0 rfl ?_
        refine dz_getR (pc := 20) (k := 0) (j := 4) C Fc_X9 hk_0 (by decide) (by decide) rfl fl_X9_30 dX9_punch_20 ?_
        refine dz_aload_n (pc := 23) C dX9_punch_23 rfl 0 rfl ?_
        refine dz_getI (pc := 24) (k := 0) (j := 5) (v := ((M 0) 5 0)) C Fc_X9 hk_0 (by decide) rfl rfl fl_X9_34 rfl dX9_punch_24 ?_
        refine dz_iload_n (pc := 27) C dX9_punch_27 rfl 1 rfl ?_
        refine dz_iload_n (pc := 28) C dX9_punch_28 rfl 2 rfl ?_
        refine dz_ishr (pc := 29) C dX9_punch_29 ?_
        refine dz_i2b (pc := 30) C dX9_punch_30 ?_
        refine dz_bast (pc := 31) (k := 0) (j := 4) (n := 400) (M' := fun a1 => (dt_sM M 0 4 a1 ((Int32.toInt8 (Int32.toInt8 (x1 >>> (x2 &&& 31))).toInt32).toInt32))) C hk_0 (by decide) rfl (fun a1 => rfl) dX9_punch_31 h (fun a1 h => ?_)
        refine dz_aload_n (pc := 32) C dX9_punch_32 rfl 0 rfl ?_
        refine dz_dup (pc := 33) C dX9_punch_33 rfl ?_
        refine dz_getI (pc := 34) (k := 0) (j := 5) (v := ((M 0) 5 0)) C Fc_X9 hk_0 (by decide) rfl rfl fl_X9_34 rfl dX9_punch_34 ?_
        refine dz_iconst (pc := 37) (v := (1 : Int32)) C dX9_punch_37 (by decide) ?_
        refine dz_iadd (pc := 38) C dX9_punch_38 ?_
        refine dz_putI (pc := 39) (k := 0) (j := 5) (M' := (dt_sM (dt_sM M 0 4 a1 ((Int32.toInt8 (Int32.toInt8 (x1 >>> (x2 &&& 31))).toInt32).toInt32)) 0 5 0 (((M 0) 5 0) + (1 : Int32)))) C Fc_X9 hk_0 (by decide) rfl rfl rfl rfl fl_X9_34 rfl dX9_punch_39 ?_
        exact tX9_punch_42 C hr ih x1 x2 (dt_sM (dt_sM M 0 4 a1 ((Int32.toInt8 (Int32.toInt8 (x1 >>> (x2 &&& 31))).toInt32).toInt32)) 0 5 0 (((M 0) 5 0) + (1 : Int32))) h
def fX9_punch  (x1 : Int32) (M : dt_M) : Option (dt_M) := (fX9_punch_3 dt_F x1 (24 : Int32) M)
set_option maxRecDepth 10000 in
set_option maxHeartbeats 4000000 in
theorem m_X9_punch {nb : Nat} (l : Launch)   (M : dt_M)  (x1 : Int32) {res : dt_M} (h : fX9_punch x1 M = some res) : dt_Met nb l yX9_punch cX9_punch 3 none 1 (fun G => [.ref (G.1 0 0), .int x1]) M none res := by
  refine dz_enter (lv := fun G => [(0, .ref (G.1 0 0)), (1, .int x1)]) (by decide) (fun _ => rfl) (fun _ => Nat.le_of_ble_eq_true rfl) (fun G A p e s m args below meth c C hr => ?_)
  unfold fX9_punch at h
  refine dz_bipush (pc := 0) (v := (24 : Int32)) C dX9_punch_0 (by decide) ?_
  refine dz_istore_n (pc := 2) C dX9_punch_2 rfl (by decide) rfl ?_
  refine dz_sub [1, 2, 0] rfl ?_
  exact tX9_punch_3 C hr dt_F x1 (24 : Int32) M h

def fX9_judge_95  (x1 : Int32) (s1 : Int32) (s2 : Int32) (M : dt_M) : Option (Int32 × dt_M) := ((fX7_tell s1 s2 (M 3)).bind fun q8 => ((fX7_tell (20010 : Int32) ((M 2) 3 0) q8).bind fun q9 => ((fX7_tell (20011 : Int32) ((M 2) 0 0) q9).bind fun q10 => ((fX7_read x1 q10).bind fun q11 => (if q11.1 = (-1 : Int32) then (some (q11.1, (dt_put (dt_put (dt_put (dt_put M 3 q8) 3 q9) 3 q10) 3 q11.2))) else (some (q11.1, (dt_sM (dt_put (dt_put (dt_put (dt_put M 3 q8) 3 q9) 3 q10) 3 q11.2) 2 5 0 (((M 2) 5 0) + (1 : Int32))))))))))
set_option maxRecDepth 10000 in
set_option maxHeartbeats 4000000 in
theorem tX9_judge_95 {nb : Nat} {G : dt_G} {A : Nat → Prop} {p : Program} {l : Launch} {e : Env} {s : State} {m : MethodId} {args : Array Value} {below : List Frame} {meth : Method} {c : Code} (C : dt_Cx nb G A p s m args meth c cX9_judge 6 RX9) (hr : meth.sig.returnType = (some .int)) {res : Int32 × dt_M}  : ∀ (x1 : Int32) (s1 : Int32) (s2 : Int32) (M : dt_M), fX9_judge_95 x1 s1 s2 M = some res → dt_At G A p l e (dt_rm 54) s m args below meth c 6 (MQ below (dt_Post G A (some (.int res.1)) res.2) args s 0 0 A) 95 [(1, .int x1), (3, .ref (G.1 2 0)), (4, .ref (G.1 3 0))] [.int s2, .int s1, .ref (G.1 3 0)] M := by
  intro x1 s1 s2 M h
  unfold fX9_judge_95 at h
  obtain ⟨q8, eq8, h⟩ := dt_bind h
  refine dz_callVv (pc := 95) (st := []) (k := 3) (As := [.int s1, .int s2]) (M' := (dt_put M 3 q8)) C Fc_X7 hk_3 mf_X7_tell rfl ml_X9_329 (dt_c1 (m_X7_tell l hk_3 M (M 3) _ _ eq8)) rfl rfl (by omega) (by decide) (Nat.le_of_ble_eq_true rfl) dX9_judge_95 ?_
  refine dz_aload (pc := 98) C dX9_judge_98 2 rfl ?_
  refine dz_sipush (pc := 100) (v := (20010 : Int32)) C dX9_judge_100 (by decide) ?_
  refine dz_aload_n (pc := 103) C dX9_judge_103 rfl 1 rfl ?_
  refine dz_getI (pc := 104) (k := 2) (j := 3) (v := ((M 2) 3 0)) C Fc_X1 hk_2 (by decide) rfl rfl fl_X9_189 rfl dX9_judge_104 ?_
  obtain ⟨q9, eq9, h⟩ := dt_bind h
  refine dz_callVv (pc := 107) (st := []) (k := 3) (As := [.int (20010 : Int32), .int ((M 2) 3 0)]) (M' := (dt_put (dt_put M 3 q8) 3 q9)) C Fc_X7 hk_3 mf_X7_tell rfl ml_X9_329 (dt_c1 (m_X7_tell l hk_3 (dt_put M 3 q8) q8 _ _ eq9)) rfl rfl (by omega) (by decide) (Nat.le_of_ble_eq_true rfl) dX9_judge_107 ?_
  refine dz_aload (pc := 110) C dX9_judge_110 2 rfl ?_
  refine dz_sipush (pc := 112) (v := (20011 : Int32)) C dX9_judge_112 (by decide) ?_
  refine dz_aload_n (pc := 115) C dX9_judge_115 rfl 1 rfl ?_
  refine dz_getI (pc := 116) (k := 2) (j := 0) (v := ((M 2) 0 0)) C Fc_X1 hk_2 (by decide) rfl rfl fl_X9_313 rfl dX9_judge_116 ?_
  obtain ⟨q10, eq10, h⟩ := dt_bind h
  refine dz_callVv (pc := 119) (st := []) (k := 3) (As := [.int (20011 : Int32), .int ((M 2) 0 0)]) (M' := (dt_put (dt_put (dt_put M 3 q8) 3 q9) 3 q10)) C Fc_X7 hk_3 mf_X7_tell rfl ml_X9_329 (dt_c1 (m_X7_tell l hk_3 (dt_put (dt_put M 3 q8) 3 q9) q9 _ _ eq10)) rfl rfl (by omega) (by decide) (Nat.le_of_ble_eq_true rfl) dX9_judge_119 ?_
  refine dz_aload (pc := 122) C dX9_judge_122 2 rfl ?_
  refine dz_iload_n (pc := 124) C dX9_judge_124 rfl 0 rfl ?_
  obtain ⟨q11, eq11, h⟩ := dt_bind h
  refine dz_callVi (pc := 125) (st := []) (k := 3) (As := [.int x1]) (M' := (dt_put (dt_put (dt_put (dt_put M 3 q8) 3 q9) 3 q10) 3 q11.2)) C Fc_X7 hk_3 mf_X7_read rfl ml_X9_208 (dt_c1 (m_X7_read l hk_3 (dt_put (dt_put (dt_put M 3 q8) 3 q9) 3 q10) q10 _ eq11)) rfl rfl (by omega) (by decide) (Nat.le_of_ble_eq_true rfl) dX9_judge_125 ?_
  refine dz_istore (pc := 128) C dX9_judge_128 (by decide) rfl ?_
  refine dz_iload (pc := 130) C dX9_judge_130 0 rfl ?_
  refine dz_iconst (pc := 132) (v := (-1 : Int32)) C dX9_judge_132 (by decide) ?_
  refine dz_icmp_eq (pc := 133) (t := 146) C dX9_judge_133 (by decide) h (fun h => ?_) (fun h => ?_)
  · refine dz_iload (pc := 146) C dX9_judge_146 0 rfl ?_
    cases dt_some h
    exact dz_iret (pc := 148) C hr dX9_judge_148
  · refine dz_aload_n (pc := 136) C dX9_judge_136 rfl 2 rfl ?_
    refine dz_dup (pc := 137) C dX9_judge_137 rfl ?_
    refine dz_getI (pc := 138) (k := 2) (j := 5) (v := ((M 2) 5 0)) C Fc_X1 hk_2 (by decide) rfl rfl fl_X9_322 rfl dX9_judge_138 ?_
    refine dz_iconst (pc := 141) (v := (1 : Int32)) C dX9_judge_141 (by decide) ?_
    refine dz_iadd (pc := 142) C dX9_judge_142 ?_
    refine dz_putI (pc := 143) (k := 2) (j := 5) (M' := (dt_sM (dt_put (dt_put (dt_put (dt_put M 3 q8) 3 q9) 3 q10) 3 q11.2) 2 5 0 (((M 2) 5 0) + (1 : Int32)))) C Fc_X1 hk_2 (by decide) rfl rfl rfl rfl fl_X9_322 rfl dX9_judge_143 ?_
    refine dz_iload (pc := 146) C dX9_judge_146 0 rfl ?_
    cases dt_some h
    exact dz_iret (pc := 148) C hr dX9_judge_148
def fX9_judge  (x1 : Int32) (M : dt_M) : Option (Int32 × dt_M) := ((fX5_tallest (M 1)).bind fun q1 => ((fX7_tell (20005 : Int32) q1 (M 3)).bind fun q2 => ((fX5_inYard (M 1)).bind fun q3 => ((fX7_tell (20006 : Int32) (((M 1) 1 0) - q3) q2).bind fun q4 => ((fX7_tell (20007 : Int32) ((M 2) 1 0) q4).bind fun q5 => ((fX7_tell (20008 : Int32) ((M 2) 2 0) q5).bind fun q6 => ((fX5_isTopHoly (M 1)).bind fun q7 => (if q7 = 0 then (fX9_judge_95 x1 (20009 : Int32) (0 : Int32) (dt_put (dt_put (dt_put (dt_put M 3 q2) 3 q4) 3 q5) 3 q6)) else (fX9_judge_95 x1 (20009 : Int32) (1 : Int32) (dt_put (dt_put (dt_put (dt_put M 3 q2) 3 q4) 3 q5) 3 q6))))))))))
set_option maxRecDepth 10000 in
set_option maxHeartbeats 4000000 in
theorem m_X9_judge {nb : Nat} (l : Launch)   (M : dt_M)  (x1 : Int32) {res : Int32 × dt_M} (h : fX9_judge x1 M = some res) : dt_Met nb l yX9_judge cX9_judge 6 (some .int) 54 (fun G => [.ref (G.1 0 0), .int x1]) M (some (.int res.1)) res.2 := by
  refine dz_enter (lv := fun G => [(0, .ref (G.1 0 0)), (1, .int x1)]) (by decide) (fun _ => rfl) (fun _ => Nat.le_of_ble_eq_true rfl) (fun G A p e s m args below meth c C hr => ?_)
  unfold fX9_judge at h
  refine dz_aload_n (pc := 0) C dX9_judge_0 rfl 0 rfl ?_
  refine dz_getO (pc := 1) (k := 0) (j := 0) (o := 16) C Fc_X9 hk_0 (by decide) rfl rfl rfl fl_X9_10 dX9_judge_1 ?_
  refine dz_getO (pc := 4) (k := 16) (j := 0) (o := 1) C Fc_X8 hk_16 (by decide) rfl rfl rfl fl_X9_79 dX9_judge_4 ?_
  refine dz_astore_n (pc := 7) C dX9_judge_7 rfl (by decide) rfl ?_
  refine dz_aload_n (pc := 8) C dX9_judge_8 rfl 1 rfl ?_
  refine dz_getO (pc := 9) (k := 0) (j := 0) (o := 16) C Fc_X9 hk_0 (by decide) rfl rfl rfl fl_X9_10 dX9_judge_9 ?_
  refine dz_getO (pc := 12) (k := 16) (j := 1) (o := 2) C Fc_X8 hk_16 (by decide) rfl rfl rfl fl_X9_123 dX9_judge_12 ?_
  refine dz_astore_n (pc := 15) C dX9_judge_15 rfl (by decide) rfl ?_
  refine dz_aload_n (pc := 16) C dX9_judge_16 rfl 2 rfl ?_
  refine dz_getO (pc := 17) (k := 0) (j := 0) (o := 16) C Fc_X9 hk_0 (by decide) rfl rfl rfl fl_X9_10 dX9_judge_17 ?_
  refine dz_getO (pc := 20) (k := 16) (j := 2) (o := 3) C Fc_X8 hk_16 (by decide) rfl rfl rfl fl_X9_214 dX9_judge_20 ?_
  refine dz_astore (pc := 23) C dX9_judge_23 (by decide) rfl ?_
  refine dz_aload (pc := 25) C dX9_judge_25 0 rfl ?_
  refine dz_sipush (pc := 27) (v := (20005 : Int32)) C dX9_judge_27 (by decide) ?_
  refine dz_aload_n (pc := 30) C dX9_judge_30 rfl 2 rfl ?_
  obtain ⟨q1, eq1, h⟩ := dt_bind h
  refine dz_callVi (pc := 31) (st := [.int (20005 : Int32), .ref (G.1 3 0)]) (k := 1) (As := []) (M' := M) C Fc_X5 hk_1 mf_X5_tallest rfl ml_X9_179 (dt_c0 (m_X5_tallest l hk_1 M (M 1) eq1)) rfl rfl (by omega) (by decide) (Nat.le_of_ble_eq_true rfl) dX9_judge_31 ?_
  obtain ⟨q2, eq2, h⟩ := dt_bind h
  refine dz_callVv (pc := 34) (st := []) (k := 3) (As := [.int (20005 : Int32), .int q1]) (M' := (dt_put M 3 q2)) C Fc_X7 hk_3 mf_X7_tell rfl ml_X9_329 (dt_c1 (m_X7_tell l hk_3 M (M 3) _ _ eq2)) rfl rfl (by omega) (by decide) (Nat.le_of_ble_eq_true rfl) dX9_judge_34 ?_
  refine dz_aload (pc := 37) C dX9_judge_37 0 rfl ?_
  refine dz_sipush (pc := 39) (v := (20006 : Int32)) C dX9_judge_39 (by decide) ?_
  refine dz_aload_n (pc := 42) C dX9_judge_42 rfl 2 rfl ?_
  refine dz_getI (pc := 43) (k := 1) (j := 1) (v := ((M 1) 1 0)) C Fc_X5 hk_1 (by decide) rfl rfl fl_X9_89 rfl dX9_judge_43 ?_
  refine dz_aload_n (pc := 46) C dX9_judge_46 rfl 2 rfl ?_
  obtain ⟨q3, eq3, h⟩ := dt_bind h
  refine dz_callVi (pc := 47) (st := [.int ((M 1) 1 0), .int (20006 : Int32), .ref (G.1 3 0)]) (k := 1) (As := []) (M' := (dt_put M 3 q2)) C Fc_X5 hk_1 mf_X5_inYard rfl ml_X9_227 (dt_c0 (m_X5_inYard l hk_1 (dt_put M 3 q2) (M 1) eq3)) rfl rfl (by omega) (by decide) (Nat.le_of_ble_eq_true rfl) dX9_judge_47 ?_
  refine dz_isub (pc := 50) C dX9_judge_50 ?_
  obtain ⟨q4, eq4, h⟩ := dt_bind h
  refine dz_callVv (pc := 51) (st := []) (k := 3) (As := [.int (20006 : Int32), .int (((M 1) 1 0) - q3)]) (M' := (dt_put (dt_put M 3 q2) 3 q4)) C Fc_X7 hk_3 mf_X7_tell rfl ml_X9_329 (dt_c1 (m_X7_tell l hk_3 (dt_put M 3 q2) q2 _ _ eq4)) rfl rfl (by omega) (by decide) (Nat.le_of_ble_eq_true rfl) dX9_judge_51 ?_
  refine dz_aload (pc := 54) C dX9_judge_54 0 rfl ?_
  refine dz_sipush (pc := 56) (v := (20007 : Int32)) C dX9_judge_56 (by decide) ?_
  refine dz_aload_n (pc := 59) C dX9_judge_59 rfl 1 rfl ?_
  refine dz_getI (pc := 60) (k := 2) (j := 1) (v := ((M 2) 1 0)) C Fc_X1 hk_2 (by decide) rfl rfl fl_X9_316 rfl dX9_judge_60 ?_
  obtain ⟨q5, eq5, h⟩ := dt_bind h
  refine dz_callVv (pc := 63) (st := []) (k := 3) (As := [.int (20007 : Int32), .int ((M 2) 1 0)]) (M' := (dt_put (dt_put (dt_put M 3 q2) 3 q4) 3 q5)) C Fc_X7 hk_3 mf_X7_tell rfl ml_X9_329 (dt_c1 (m_X7_tell l hk_3 (dt_put (dt_put M 3 q2) 3 q4) q4 _ _ eq5)) rfl rfl (by omega) (by decide) (Nat.le_of_ble_eq_true rfl) dX9_judge_63 ?_
  refine dz_aload (pc := 66) C dX9_judge_66 0 rfl ?_
  refine dz_sipush (pc := 68) (v := (20008 : Int32)) C dX9_judge_68 (by decide) ?_
  refine dz_aload_n (pc := 71) C dX9_judge_71 rfl 1 rfl ?_
  refine dz_getI (pc := 72) (k := 2) (j := 2) (v := ((M 2) 2 0)) C Fc_X1 hk_2 (by decide) rfl rfl fl_X9_319 rfl dX9_judge_72 ?_
  obtain ⟨q6, eq6, h⟩ := dt_bind h
  refine dz_callVv (pc := 75) (st := []) (k := 3) (As := [.int (20008 : Int32), .int ((M 2) 2 0)]) (M' := (dt_put (dt_put (dt_put (dt_put M 3 q2) 3 q4) 3 q5) 3 q6)) C Fc_X7 hk_3 mf_X7_tell rfl ml_X9_329 (dt_c1 (m_X7_tell l hk_3 (dt_put (dt_put (dt_put M 3 q2) 3 q4) 3 q5) q5 _ _ eq6)) rfl rfl (by omega) (by decide) (Nat.le_of_ble_eq_true rfl) dX9_judge_75 ?_
  refine dz_aload (pc := 78) C dX9_judge_78 0 rfl ?_
  refine dz_sipush (pc := 80) (v := (20009 : Int32)) C dX9_judge_80 (by decide) ?_
  refine dz_aload_n (pc := 83) C dX9_judge_83 rfl 2 rfl ?_
  obtain ⟨q7, eq7, h⟩ := dt_bind h
  refine dz_callVi (pc := 84) (st := [.int (20009 : Int32), .ref (G.1 3 0)]) (k := 1) (As := []) (M' := (dt_put (dt_put (dt_put (dt_put M 3 q2) 3 q4) 3 q5) 3 q6)) C Fc_X5 hk_1 mf_X5_isTopHoly rfl ml_X9_332 (dt_c0 (m_X5_isTopHoly l hk_1 (dt_put (dt_put (dt_put (dt_put M 3 q2) 3 q4) 3 q5) 3 q6) (M 1) eq7)) rfl rfl (by omega) (by decide) (Nat.le_of_ble_eq_true rfl) dX9_judge_84 ?_
  refine dz_if_eq (pc := 87) (t := 94) C dX9_judge_87 (by decide) h (fun h => ?_) (fun h => ?_)
  · refine dz_iconst (pc := 94) (v := (0 : Int32)) C dX9_judge_94 (by decide) ?_
    refine dz_sub [4, 1, 0] rfl ?_
    exact tX9_judge_95 C hr  x1 (20009 : Int32) (0 : Int32) (dt_put (dt_put (dt_put (dt_put M 3 q2) 3 q4) 3 q5) 3 q6) h
  · refine dz_iconst (pc := 90) (v := (1 : Int32)) C dX9_judge_90 (by decide) ?_
    refine dz_goto (pc := 91) (t := 95) C dX9_judge_91 (by decide) ?_
    refine dz_sub [4, 1, 0] rfl ?_
    exact tX9_judge_95 C hr  x1 (20009 : Int32) (1 : Int32) (dt_put (dt_put (dt_put (dt_put M 3 q2) 3 q4) 3 q5) 3 q6) h

def fX9_columns  (x1 : Int32) (M : dt_M) : Option (Int32 × dt_M) := (if x1 < (2 : Int32) then (some ((0 : Int32), M)) else (if x1 ≤ (8 : Int32) then ((fX8_begin x1 M).bind fun q1 => ((fX6_forget (q1 11)).bind fun q2 => (some ((1 : Int32), (dt_put q1 11 q2))))) else (some ((0 : Int32), M))))
set_option maxRecDepth 10000 in
set_option maxHeartbeats 4000000 in
theorem m_X9_columns {nb : Nat} (l : Launch)   (M : dt_M)  (x1 : Int32) {res : Int32 × dt_M} (h : fX9_columns x1 M = some res) : dt_Met nb l yX9_columns cX9_columns 2 (some .boolean) 5 (fun G => [.ref (G.1 0 0), .int x1]) M (some (.int res.1)) res.2 := by
  refine dz_enter (lv := fun G => [(0, .ref (G.1 0 0)), (1, .int x1)]) (by decide) (fun _ => rfl) (fun _ => Nat.le_of_ble_eq_true rfl) (fun G A p e s m args below meth c C hr => ?_)
  unfold fX9_columns at h
  refine dz_iload_n (pc := 0) C dX9_columns_0 rfl 1 rfl ?_
  refine dz_iconst (pc := 1) (v := (2 : Int32)) C dX9_columns_1 (by decide) ?_
  refine dz_icmp_lt (pc := 2) (t := 11) C dX9_columns_2 (by decide) h (fun h => ?_) (fun h => ?_)
  · refine dz_iconst (pc := 11) (v := (0 : Int32)) C dX9_columns_11 (by decide) ?_
    cases dt_some h
    exact dz_zret (pc := 12) C hr (Or.inl rfl) dX9_columns_12
  · refine dz_iload_n (pc := 5) C dX9_columns_5 rfl 1 rfl ?_
    refine dz_bipush (pc := 6) (v := (8 : Int32)) C dX9_columns_6 (by decide) ?_
    refine dz_icmp_le (pc := 8) (t := 13) C dX9_columns_8 (by decide) h (fun h => ?_) (fun h => ?_)
    · refine dz_aload_n (pc := 13) C dX9_columns_13 rfl 0 rfl ?_
      refine dz_getO (pc := 14) (k := 0) (j := 0) (o := 16) C Fc_X9 hk_0 (by decide) rfl rfl rfl fl_X9_10 dX9_columns_14 ?_
      refine dz_iload_n (pc := 17) C dX9_columns_17 rfl 1 rfl ?_
      obtain ⟨q1, eq1, h⟩ := dt_bind h
      refine dz_callVv (pc := 18) (st := []) (k := 16) (As := [.int x1]) (M' := q1) C Fc_X8 hk_16 mf_X8_begin rfl ml_X9_72 (m_X8_begin l M _ eq1) rfl rfl (by omega) (by decide) (Nat.le_of_ble_eq_true rfl) dX9_columns_18 ?_
      refine dz_aload_n (pc := 21) C dX9_columns_21 rfl 0 rfl ?_
      refine dz_getO (pc := 22) (k := 0) (j := 3) (o := 11) C Fc_X9 hk_0 (by decide) rfl rfl rfl fl_X9_26 dX9_columns_22 ?_
      obtain ⟨q2, eq2, h⟩ := dt_bind h
      refine dz_callVv (pc := 25) (st := []) (k := 11) (As := []) (M' := (dt_put q1 11 q2)) C Fc_X6 hk_11 mf_X6_forget rfl ml_X9_76 (dt_c1 (m_X6_forget l hk_11 q1 (q1 11) eq2)) rfl rfl (by omega) (by decide) (Nat.le_of_ble_eq_true rfl) dX9_columns_25 ?_
      refine dz_iconst (pc := 28) (v := (1 : Int32)) C dX9_columns_28 (by decide) ?_
      cases dt_some h
      exact dz_zret (pc := 29) C hr (Or.inr rfl) dX9_columns_29
    · refine dz_iconst (pc := 11) (v := (0 : Int32)) C dX9_columns_11 (by decide) ?_
      cases dt_some h
      exact dz_zret (pc := 12) C hr (Or.inl rfl) dX9_columns_12

def fX9_block_74  (x1 : Int32) (x2 : Int32) (x3 : Int32) (x4 : Int32) (x5 : Int32) (x7 : Int32) (s0 : Int32) (M : dt_M) : Option (Int32 × dt_M) := (if x7 = 0 then (some ((-1 : Int32), M)) else (if s0 = 0 then (some ((-1 : Int32), M)) else ((fX9_isPlace x5).bind fun q1 => (if q1 = 0 then (some ((-1 : Int32), M)) else (if ((M 1) 1 0) < (20 : Int32) then ((fX6_forget (M 11)).bind fun q2 => ((fX5_add x1 x2 x3 x4 x5 (M 1)).bind fun q3 => (some (q3.1, (dt_put (dt_put M 11 q2) 1 q3.2))))) else (some ((-1 : Int32), M)))))))
set_option maxRecDepth 10000 in
set_option maxHeartbeats 4000000 in
theorem tX9_block_74 {nb : Nat} {G : dt_G} {A : Nat → Prop} {p : Program} {l : Launch} {e : Env} {s : State} {m : MethodId} {args : Array Value} {below : List Frame} {meth : Method} {c : Code} (C : dt_Cx nb G A p s m args meth c cX9_block 9 RX9) (hr : meth.sig.returnType = (some .int)) {res : Int32 × dt_M}  : ∀ (x1 : Int32) (x2 : Int32) (x3 : Int32) (x4 : Int32) (x5 : Int32) (x7 : Int32) (s0 : Int32) (M : dt_M), fX9_block_74 x1 x2 x3 x4 x5 x7 s0 M = some res → dt_At G A p l e (dt_rm 2) s m args below meth c 9 (MQ below (dt_Post G A (some (.int res.1)) res.2) args s 0 0 A) 74 [(0, .ref (G.1 0 0)), (1, .int x1), (2, .int x2), (3, .int x3), (4, .int x4), (5, .int x5), (6, .ref (G.1 1 0)), (7, .int x7)] [.int s0] M := by
  intro x1 x2 x3 x4 x5 x7 s0 M h
  unfold fX9_block_74 at h
  refine dz_istore (pc := 74) C dX9_block_74 (by decide) rfl ?_
  refine dz_iload (pc := 76) C dX9_block_76 8 rfl ?_
  refine dz_if_eq (pc := 78) (t := 104) C dX9_block_78 (by decide) h (fun h => ?_) (fun h => ?_)
  · refine dz_iconst (pc := 104) (v := (-1 : Int32)) C dX9_block_104 (by decide) ?_
    cases dt_some h
    exact dz_iret (pc := 105) C hr dX9_block_105
  · refine dz_iload (pc := 81) C dX9_block_81 0 rfl ?_
    refine dz_if_eq (pc := 83) (t := 104) C dX9_block_83 (by decide) h (fun h => ?_) (fun h => ?_)
    · refine dz_iconst (pc := 104) (v := (-1 : Int32)) C dX9_block_104 (by decide) ?_
      cases dt_some h
      exact dz_iret (pc := 105) C hr dX9_block_105
    · refine dz_iload (pc := 86) C dX9_block_86 6 rfl ?_
      obtain ⟨q1, eq1, h⟩ := dt_bind h
      refine dz_callSi (pc := 88) (st := []) (As := [.int x5]) (M' := M) C ms_X9_isPlace ml_X9_85 (m_X9_isPlace l _ _ eq1) rfl rfl (by omega) (by decide) (Nat.le_of_ble_eq_true rfl) dX9_block_88 ?_
      refine dz_if_eq (pc := 91) (t := 104) C dX9_block_91 (by decide) h (fun h => ?_) (fun h => ?_)
      · refine dz_iconst (pc := 104) (v := (-1 : Int32)) C dX9_block_104 (by decide) ?_
        cases dt_some h
        exact dz_iret (pc := 105) C hr dX9_block_105
      · refine dz_aload (pc := 94) C dX9_block_94 7 rfl ?_
        refine dz_getI (pc := 96) (k := 1) (j := 1) (v := ((M 1) 1 0)) C Fc_X5 hk_1 (by decide) rfl rfl fl_X9_89 rfl dX9_block_96 ?_
        refine dz_bipush (pc := 99) (v := (20 : Int32)) C dX9_block_99 (by decide) ?_
        refine dz_icmp_lt (pc := 101) (t := 106) C dX9_block_101 (by decide) h (fun h => ?_) (fun h => ?_)
        · refine dz_aload_n (pc := 106) C dX9_block_106 rfl 1 rfl ?_
          refine dz_getO (pc := 107) (k := 0) (j := 3) (o := 11) C Fc_X9 hk_0 (by decide) rfl rfl rfl fl_X9_26 dX9_block_107 ?_
          obtain ⟨q2, eq2, h⟩ := dt_bind h
          refine dz_callVv (pc := 110) (st := []) (k := 11) (As := []) (M' := (dt_put M 11 q2)) C Fc_X6 hk_11 mf_X6_forget rfl ml_X9_76 (dt_c1 (m_X6_forget l hk_11 M (M 11) eq2)) rfl rfl (by omega) (by decide) (Nat.le_of_ble_eq_true rfl) dX9_block_110 ?_
          refine dz_aload (pc := 113) C dX9_block_113 7 rfl ?_
          refine dz_iload_n (pc := 115) C dX9_block_115 rfl 2 rfl ?_
          refine dz_iload_n (pc := 116) C dX9_block_116 rfl 3 rfl ?_
          refine dz_iload_n (pc := 117) C dX9_block_117 rfl 4 rfl ?_
          refine dz_iload (pc := 118) C dX9_block_118 5 rfl ?_
          refine dz_iload (pc := 120) C dX9_block_120 6 rfl ?_
          obtain ⟨q3, eq3, h⟩ := dt_bind h
          refine dz_callVi (pc := 122) (st := []) (k := 1) (As := [.int x1, .int x2, .int x3, .int x4, .int x5]) (M' := (dt_put (dt_put M 11 q2) 1 q3.2)) C Fc_X5 hk_1 mf_X5_add rfl ml_X9_92 (dt_c1 (m_X5_add l hk_1 (dt_put M 11 q2) (M 1) _ _ _ _ _ eq3)) rfl rfl (by omega) (by decide) (Nat.le_of_ble_eq_true rfl) dX9_block_122 ?_
          cases dt_some h
          exact dz_iret (pc := 125) C hr dX9_block_125
        · refine dz_iconst (pc := 104) (v := (-1 : Int32)) C dX9_block_104 (by decide) ?_
          cases dt_some h
          exact dz_iret (pc := 105) C hr dX9_block_105
def fX9_block_73  (x1 : Int32) (x2 : Int32) (x3 : Int32) (x4 : Int32) (x5 : Int32) (x7 : Int32) (M : dt_M) : Option (Int32 × dt_M) := (fX9_block_74 x1 x2 x3 x4 x5 x7 (0 : Int32) M)
set_option maxRecDepth 10000 in
set_option maxHeartbeats 4000000 in
theorem tX9_block_73 {nb : Nat} {G : dt_G} {A : Nat → Prop} {p : Program} {l : Launch} {e : Env} {s : State} {m : MethodId} {args : Array Value} {below : List Frame} {meth : Method} {c : Code} (C : dt_Cx nb G A p s m args meth c cX9_block 9 RX9) (hr : meth.sig.returnType = (some .int)) {res : Int32 × dt_M}  : ∀ (x1 : Int32) (x2 : Int32) (x3 : Int32) (x4 : Int32) (x5 : Int32) (x7 : Int32) (M : dt_M), fX9_block_73 x1 x2 x3 x4 x5 x7 M = some res → dt_At G A p l e (dt_rm 2) s m args below meth c 9 (MQ below (dt_Post G A (some (.int res.1)) res.2) args s 0 0 A) 73 [(0, .ref (G.1 0 0)), (1, .int x1), (2, .int x2), (3, .int x3), (4, .int x4), (5, .int x5), (6, .ref (G.1 1 0)), (7, .int x7)] [] M := by
  intro x1 x2 x3 x4 x5 x7 M h
  unfold fX9_block_73 at h
  refine dz_iconst (pc := 73) (v := (0 : Int32)) C dX9_block_73 (by decide) ?_
  exact tX9_block_74 C hr  x1 x2 x3 x4 x5 x7 (0 : Int32) M h
def fX9_block_45  (x1 : Int32) (x2 : Int32) (x3 : Int32) (x4 : Int32) (x5 : Int32) (s0 : Int32) (M : dt_M) : Option (Int32 × dt_M) := (if x2 < (1 : Int32) then (fX9_block_73 x1 x2 x3 x4 x5 s0 M) else (if (99 : Int32) < x2 then (fX9_block_73 x1 x2 x3 x4 x5 s0 M) else (if x3 < 0 then (fX9_block_73 x1 x2 x3 x4 x5 s0 M) else (if (999 : Int32) < x3 then (fX9_block_73 x1 x2 x3 x4 x5 s0 M) else (fX9_block_74 x1 x2 x3 x4 x5 s0 (1 : Int32) M)))))
set_option maxRecDepth 10000 in
set_option maxHeartbeats 4000000 in
theorem tX9_block_45 {nb : Nat} {G : dt_G} {A : Nat → Prop} {p : Program} {l : Launch} {e : Env} {s : State} {m : MethodId} {args : Array Value} {below : List Frame} {meth : Method} {c : Code} (C : dt_Cx nb G A p s m args meth c cX9_block 9 RX9) (hr : meth.sig.returnType = (some .int)) {res : Int32 × dt_M}  : ∀ (x1 : Int32) (x2 : Int32) (x3 : Int32) (x4 : Int32) (x5 : Int32) (s0 : Int32) (M : dt_M), fX9_block_45 x1 x2 x3 x4 x5 s0 M = some res → dt_At G A p l e (dt_rm 2) s m args below meth c 9 (MQ below (dt_Post G A (some (.int res.1)) res.2) args s 0 0 A) 45 [(0, .ref (G.1 0 0)), (1, .int x1), (2, .int x2), (3, .int x3), (4, .int x4), (5, .int x5), (6, .ref (G.1 1 0))] [.int s0] M := by
  intro x1 x2 x3 x4 x5 s0 M h
  unfold fX9_block_45 at h
  refine dz_istore (pc := 45) C dX9_block_45 (by decide) rfl ?_
  refine dz_iload_n (pc := 47) C dX9_block_47 rfl 3 rfl ?_
  refine dz_iconst (pc := 48) (v := (1 : Int32)) C dX9_block_48 (by decide) ?_
  refine dz_icmp_lt (pc := 49) (t := 73) C dX9_block_49 (by decide) h (fun h => ?_) (fun h => ?_)
  · refine dz_sub [1, 2, 3, 4, 5, 6, 7, 0] rfl ?_
    exact tX9_block_73 C hr  x1 x2 x3 x4 x5 s0 M h
  · refine dz_iload_n (pc := 52) C dX9_block_52 rfl 3 rfl ?_
    refine dz_bipush (pc := 53) (v := (99 : Int32)) C dX9_block_53 (by decide) ?_
    refine dz_icmp_gt (pc := 55) (t := 73) C dX9_block_55 (by decide) h (fun h => ?_) (fun h => ?_)
    · refine dz_sub [1, 2, 3, 4, 5, 6, 7, 0] rfl ?_
      exact tX9_block_73 C hr  x1 x2 x3 x4 x5 s0 M h
    · refine dz_iload_n (pc := 58) C dX9_block_58 rfl 4 rfl ?_
      refine dz_if_lt (pc := 59) (t := 73) C dX9_block_59 (by decide) h (fun h => ?_) (fun h => ?_)
      · refine dz_sub [1, 2, 3, 4, 5, 6, 7, 0] rfl ?_
        exact tX9_block_73 C hr  x1 x2 x3 x4 x5 s0 M h
      · refine dz_iload_n (pc := 62) C dX9_block_62 rfl 4 rfl ?_
        refine dz_sipush (pc := 63) (v := (999 : Int32)) C dX9_block_63 (by decide) ?_
        refine dz_icmp_gt (pc := 66) (t := 73) C dX9_block_66 (by decide) h (fun h => ?_) (fun h => ?_)
        · refine dz_sub [1, 2, 3, 4, 5, 6, 7, 0] rfl ?_
          exact tX9_block_73 C hr  x1 x2 x3 x4 x5 s0 M h
        · refine dz_iconst (pc := 69) (v := (1 : Int32)) C dX9_block_69 (by decide) ?_
          refine dz_goto (pc := 70) (t := 74) C dX9_block_70 (by decide) ?_
          refine dz_sub [1, 2, 3, 4, 5, 6, 7, 0] rfl ?_
          exact tX9_block_74 C hr  x1 x2 x3 x4 x5 s0 (1 : Int32) M h
def fX9_block_44  (x1 : Int32) (x2 : Int32) (x3 : Int32) (x4 : Int32) (x5 : Int32) (M : dt_M) : Option (Int32 × dt_M) := (fX9_block_45 x1 x2 x3 x4 x5 (0 : Int32) M)
set_option maxRecDepth 10000 in
set_option maxHeartbeats 4000000 in
theorem tX9_block_44 {nb : Nat} {G : dt_G} {A : Nat → Prop} {p : Program} {l : Launch} {e : Env} {s : State} {m : MethodId} {args : Array Value} {below : List Frame} {meth : Method} {c : Code} (C : dt_Cx nb G A p s m args meth c cX9_block 9 RX9) (hr : meth.sig.returnType = (some .int)) {res : Int32 × dt_M}  : ∀ (x1 : Int32) (x2 : Int32) (x3 : Int32) (x4 : Int32) (x5 : Int32) (M : dt_M), fX9_block_44 x1 x2 x3 x4 x5 M = some res → dt_At G A p l e (dt_rm 2) s m args below meth c 9 (MQ below (dt_Post G A (some (.int res.1)) res.2) args s 0 0 A) 44 [(0, .ref (G.1 0 0)), (1, .int x1), (2, .int x2), (3, .int x3), (4, .int x4), (5, .int x5), (6, .ref (G.1 1 0))] [] M := by
  intro x1 x2 x3 x4 x5 M h
  unfold fX9_block_44 at h
  refine dz_iconst (pc := 44) (v := (0 : Int32)) C dX9_block_44 (by decide) ?_
  exact tX9_block_45 C hr  x1 x2 x3 x4 x5 (0 : Int32) M h
def fX9_block  (x1 : Int32) (x2 : Int32) (x3 : Int32) (x4 : Int32) (x5 : Int32) (M : dt_M) : Option (Int32 × dt_M) := (if x1 < (1 : Int32) then (fX9_block_44 x1 x2 x3 x4 x5 M) else (if (3 : Int32) < x1 then (fX9_block_44 x1 x2 x3 x4 x5 M) else (if ((M 1) 0 0) < x1 then (fX9_block_44 x1 x2 x3 x4 x5 M) else (if x4 < 0 then (fX9_block_44 x1 x2 x3 x4 x5 M) else (if (7 : Int32) < x4 then (fX9_block_44 x1 x2 x3 x4 x5 M) else (fX9_block_45 x1 x2 x3 x4 x5 (1 : Int32) M))))))
set_option maxRecDepth 10000 in
set_option maxHeartbeats 4000000 in
theorem m_X9_block {nb : Nat} (l : Launch)   (M : dt_M)  (x1 : Int32) (x2 : Int32) (x3 : Int32) (x4 : Int32) (x5 : Int32) {res : Int32 × dt_M} (h : fX9_block x1 x2 x3 x4 x5 M = some res) : dt_Met nb l yX9_block cX9_block 9 (some .int) 2 (fun G => [.ref (G.1 0 0), .int x1, .int x2, .int x3, .int x4, .int x5]) M (some (.int res.1)) res.2 := by
  refine dz_enter (lv := fun G => [(0, .ref (G.1 0 0)), (1, .int x1), (2, .int x2), (3, .int x3), (4, .int x4), (5, .int x5)]) (by decide) (fun _ => rfl) (fun _ => Nat.le_of_ble_eq_true rfl) (fun G A p e s m args below meth c C hr => ?_)
  unfold fX9_block at h
  refine dz_aload_n (pc := 0) C dX9_block_0 rfl 0 rfl ?_
  refine dz_getO (pc := 1) (k := 0) (j := 0) (o := 16) C Fc_X9 hk_0 (by decide) rfl rfl rfl fl_X9_10 dX9_block_1 ?_
  refine dz_getO (pc := 4) (k := 16) (j := 0) (o := 1) C Fc_X8 hk_16 (by decide) rfl rfl rfl fl_X9_79 dX9_block_4 ?_
  refine dz_astore (pc := 7) C dX9_block_7 (by decide) rfl ?_
  refine dz_iload_n (pc := 9) C dX9_block_9 rfl 2 rfl ?_
  refine dz_iconst (pc := 10) (v := (1 : Int32)) C dX9_block_10 (by decide) ?_
  refine dz_icmp_lt (pc := 11) (t := 44) C dX9_block_11 (by decide) h (fun h => ?_) (fun h => ?_)
  · refine dz_sub [1, 2, 3, 4, 5, 6, 0] rfl ?_
    exact tX9_block_44 C hr  x1 x2 x3 x4 x5 M h
  · refine dz_iload_n (pc := 14) C dX9_block_14 rfl 2 rfl ?_
    refine dz_iconst (pc := 15) (v := (3 : Int32)) C dX9_block_15 (by decide) ?_
    refine dz_icmp_gt (pc := 16) (t := 44) C dX9_block_16 (by decide) h (fun h => ?_) (fun h => ?_)
    · refine dz_sub [1, 2, 3, 4, 5, 6, 0] rfl ?_
      exact tX9_block_44 C hr  x1 x2 x3 x4 x5 M h
    · refine dz_iload_n (pc := 19) C dX9_block_19 rfl 2 rfl ?_
      refine dz_aload (pc := 20) C dX9_block_20 0 rfl ?_
      refine dz_getI (pc := 22) (k := 1) (j := 0) (v := ((M 1) 0 0)) C Fc_X5 hk_1 (by decide) rfl rfl fl_X9_82 rfl dX9_block_22 ?_
      refine dz_icmp_gt (pc := 25) (t := 44) C dX9_block_25 (by decide) h (fun h => ?_) (fun h => ?_)
      · refine dz_sub [1, 2, 3, 4, 5, 6, 0] rfl ?_
        exact tX9_block_44 C hr  x1 x2 x3 x4 x5 M h
      · refine dz_iload (pc := 28) C dX9_block_28 5 rfl ?_
        refine dz_if_lt (pc := 30) (t := 44) C dX9_block_30 (by decide) h (fun h => ?_) (fun h => ?_)
        · refine dz_sub [1, 2, 3, 4, 5, 6, 0] rfl ?_
          exact tX9_block_44 C hr  x1 x2 x3 x4 x5 M h
        · refine dz_iload (pc := 33) C dX9_block_33 5 rfl ?_
          refine dz_bipush (pc := 35) (v := (7 : Int32)) C dX9_block_35 (by decide) ?_
          refine dz_icmp_gt (pc := 37) (t := 44) C dX9_block_37 (by decide) h (fun h => ?_) (fun h => ?_)
          · refine dz_sub [1, 2, 3, 4, 5, 6, 0] rfl ?_
            exact tX9_block_44 C hr  x1 x2 x3 x4 x5 M h
          · refine dz_iconst (pc := 40) (v := (1 : Int32)) C dX9_block_40 (by decide) ?_
            refine dz_goto (pc := 41) (t := 45) C dX9_block_41 (by decide) ?_
            refine dz_sub [1, 2, 3, 4, 5, 6, 0] rfl ?_
            exact tX9_block_45 C hr  x1 x2 x3 x4 x5 (1 : Int32) M h

def fX9_put_25  (M : dt_M) : Option (Int32 × dt_M) := ((fX9_refuse (1 : Int32) (-1 : Int32) M).bind fun q10 => (some ((-1 : Int32), q10)))
set_option maxRecDepth 10000 in
set_option maxHeartbeats 4000000 in
theorem tX9_put_25 {nb : Nat} {G : dt_G} {A : Nat → Prop} {p : Program} {l : Launch} {e : Env} {s : State} {m : MethodId} {args : Array Value} {below : List Frame} {meth : Method} {c : Code} (C : dt_Cx nb G A p s m args meth c cX9_put 8 RX9) (hr : meth.sig.returnType = (some .int)) {res : Int32 × dt_M}  : ∀ (M : dt_M), fX9_put_25 M = some res → dt_At G A p l e (dt_rm 5) s m args below meth c 8 (MQ below (dt_Post G A (some (.int res.1)) res.2) args s 0 0 A) 25 [(0, .ref (G.1 0 0))] [] M := by
  intro M h
  unfold fX9_put_25 at h
  refine dz_aload_n (pc := 25) C dX9_put_25 rfl 0 rfl ?_
  refine dz_iconst (pc := 26) (v := (1 : Int32)) C dX9_put_26 (by decide) ?_
  refine dz_iconst (pc := 27) (v := (-1 : Int32)) C dX9_put_27 (by decide) ?_
  obtain ⟨q10, eq10, h⟩ := dt_bind h
  refine dz_callVv (pc := 28) (st := []) (k := 0) (As := [.int (1 : Int32), .int (-1 : Int32)]) (M' := q10) C Fc_X9 hk_0 mf_X9_refuse rfl ml_X9_103 (m_X9_refuse l M _ _ eq10) rfl rfl (by omega) (by decide) (Nat.le_of_ble_eq_true rfl) dX9_put_28 ?_
  refine dz_iconst (pc := 31) (v := (-1 : Int32)) C dX9_put_31 (by decide) ?_
  cases dt_some h
  exact dz_iret (pc := 32) C hr dX9_put_32
def fX9_put  (x1 : Int32) (x2 : Int32) (M : dt_M) : Option (Int32 × dt_M) := ((fX5_isInYard x1 (M 1)).bind fun q1 => (if q1 = 0 then (fX9_put_25 M) else ((fX5_fits x1 x2 (M 1)).bind fun q2 => (if q2 = 0 then (fX9_put_25 M) else ((dt_ix x1 20).bind fun a3 => ((fX5_raise x1 x2 (M 1)).bind fun q4 => ((fX9_refuse q4.1 (q4.2 12 0) (dt_put M 1 q4.2)).bind fun q5 => (if q4.1 = 0 then ((dt_ix x1 20).bind fun a6 => ((fX9_costOf (((M 1) 6) a3) x2 (((q5 1) 8) a6)).bind fun q7 => ((fX1_carry q7 (q5 2)).bind fun q8 => ((fX6_remember x1 (((M 1) 6) a3) (-1 : Int32) q7 (q5 11)).bind fun q9 => (some ((((q5 1) 8) a6), (dt_put (dt_put q5 2 q8) 11 q9))))))) else (some ((-1 : Int32), q5))))))))))
set_option maxRecDepth 10000 in
set_option maxHeartbeats 4000000 in
theorem m_X9_put {nb : Nat} (l : Launch)   (M : dt_M)  (x1 : Int32) (x2 : Int32) {res : Int32 × dt_M} (h : fX9_put x1 x2 M = some res) : dt_Met nb l yX9_put cX9_put 8 (some .int) 5 (fun G => [.ref (G.1 0 0), .int x1, .int x2]) M (some (.int res.1)) res.2 := by
  refine dz_enter (lv := fun G => [(0, .ref (G.1 0 0)), (1, .int x1), (2, .int x2)]) (by decide) (fun _ => rfl) (fun _ => Nat.le_of_ble_eq_true rfl) (fun G A p e s m args below meth c C hr => ?_)
  unfold fX9_put at h
  refine dz_aload_n (pc := 0) C dX9_put_0 rfl 0 rfl ?_
  refine dz_getO (pc := 1) (k := 0) (j := 0) (o := 16) C Fc_X9 hk_0 (by decide) rfl rfl rfl fl_X9_10 dX9_put_1 ?_
  refine dz_getO (pc := 4) (k := 16) (j := 0) (o := 1) C Fc_X8 hk_16 (by decide) rfl rfl rfl fl_X9_79 dX9_put_4 ?_
  refine dz_astore_n (pc := 7) C dX9_put_7 rfl (by decide) rfl ?_
  refine dz_aload_n (pc := 8) C dX9_put_8 rfl 0 rfl ?_
  refine dz_iload_n (pc := 9) C dX9_put_9 rfl 2 rfl ?_
  obtain ⟨q1, eq1, h⟩ := dt_bind h
  refine dz_callVi (pc := 10) (st := []) (k := 1) (As := [.int x1]) (M' := M) C Fc_X5 hk_1 mf_X5_isInYard rfl ml_X9_96 (dt_c0 (m_X5_isInYard l hk_1 M (M 1) _ eq1)) rfl rfl (by omega) (by decide) (Nat.le_of_ble_eq_true rfl) dX9_put_10 ?_
  refine dz_if_eq (pc := 13) (t := 25) C dX9_put_13 (by decide) h (fun h => ?_) (fun h => ?_)
  · refine dz_sub [1] rfl ?_
    exact tX9_put_25 C hr  M h
  · refine dz_aload_n (pc := 16) C dX9_put_16 rfl 0 rfl ?_
    refine dz_iload_n (pc := 17) C dX9_put_17 rfl 2 rfl ?_
    refine dz_iload_n (pc := 18) C dX9_put_18 rfl 3 rfl ?_
    obtain ⟨q2, eq2, h⟩ := dt_bind h
    refine dz_callVi (pc := 19) (st := []) (k := 1) (As := [.int x1, .int x2]) (M' := M) C Fc_X5 hk_1 mf_X5_fits rfl ml_X9_99 (dt_c0 (m_X5_fits l hk_1 M (M 1) _ _ eq2)) rfl rfl (by omega) (by decide) (Nat.le_of_ble_eq_true rfl) dX9_put_19 ?_
    refine dz_if_ne (pc := 22) (t := 33) C dX9_put_22 (by decide) h (fun h => ?_) (fun h => ?_)
    · refine dz_aload_n (pc := 33) C dX9_put_33 rfl 0 rfl ?_
      refine dz_getR (pc := 34) (k := 1) (j := 6) C Fc_X5 hk_1 (by decide) (by decide) rfl fl_X9_107 dX9_put_34 ?_
      refine dz_iload_n (pc := 37) C dX9_put_37 rfl 2 rfl ?_
      refine dz_iald (pc := 38) (k := 1) (j := 6) (n := 20) (f := ((M 1) 6)) C hk_1 (by decide) rfl rfl dX9_put_38 h (fun a3 h => ?_)
      refine dz_istore (pc := 39) C dX9_put_39 (by decide) rfl ?_
      refine dz_aload_n (pc := 41) C dX9_put_41 rfl 1 rfl ?_
      refine dz_iload_n (pc := 42) C dX9_put_42 rfl 3 rfl ?_
      refine dz_iload_n (pc := 43) C dX9_put_43 rfl 4 rfl ?_
      obtain ⟨q4, eq4, h⟩ := dt_bind h
      refine dz_callVi (pc := 44) (st := []) (k := 1) (As := [.int x1, .int x2]) (M' := (dt_put M 1 q4.2)) C Fc_X5 hk_1 mf_X5_raise rfl ml_X9_111 (dt_c1 (m_X5_raise l hk_1 M (M 1) _ _ eq4)) rfl rfl (by omega) (by decide) (Nat.le_of_ble_eq_true rfl) dX9_put_44 ?_
      refine dz_istore (pc := 47) C dX9_put_47 (by decide) rfl ?_
      refine dz_aload_n (pc := 49) C dX9_put_49 rfl 3 rfl ?_
      refine dz_iload (pc := 50) C dX9_put_50 0 rfl ?_
      refine dz_aload_n (pc := 52) C dX9_put_52 rfl 2 rfl ?_
      refine dz_getI (pc := 53) (k := 1) (j := 12) (v := (q4.2 12 0)) C Fc_X5 hk_1 (by decide) rfl rfl fl_X9_115 rfl dX9_put_53 ?_
      obtain ⟨q5, eq5, h⟩ := dt_bind h
      refine dz_callVv (pc := 56) (st := []) (k := 0) (As := [.int q4.1, .int (q4.2 12 0)]) (M' := q5) C Fc_X9 hk_0 mf_X9_refuse rfl ml_X9_103 (m_X9_refuse l (dt_put M 1 q4.2) _ _ eq5) rfl rfl (by omega) (by decide) (Nat.le_of_ble_eq_true rfl) dX9_put_56 ?_
      refine dz_iload (pc := 59) C dX9_put_59 0 rfl ?_
      refine dz_if_eq (pc := 61) (t := 66) C dX9_put_61 (by decide) h (fun h => ?_) (fun h => ?_)
      · refine dz_aload_n (pc := 66) C dX9_put_66 rfl 2 rfl ?_
        refine dz_getR (pc := 67) (k := 1) (j := 8) C Fc_X5 hk_1 (by decide) (by decide) rfl fl_X9_116 dX9_put_67 ?_
        refine dz_iload_n (pc := 70) C dX9_put_70 rfl 4 rfl ?_
        refine dz_iald (pc := 71) (k := 1) (j := 8) (n := 20) (f := ((q5 1) 8)) C hk_1 (by decide) rfl rfl dX9_put_71 h (fun a6 h => ?_)
        refine dz_istore (pc := 72) C dX9_put_72 (by decide) rfl ?_
        refine dz_iload (pc := 74) C dX9_put_74 2 rfl ?_
        refine dz_iload_n (pc := 76) C dX9_put_76 rfl 6 rfl ?_
        refine dz_iload (pc := 77) C dX9_put_77 0 rfl ?_
        obtain ⟨q7, eq7, h⟩ := dt_bind h
        refine dz_callSi (pc := 79) (st := []) (As := [.int (((M 1) 6) a3), .int x2, .int (((q5 1) 8) a6)]) (M' := q5) C ms_X9_costOf ml_X9_119 (m_X9_costOf l _ _ _ _ eq7) rfl rfl (by omega) (by decide) (Nat.le_of_ble_eq_true rfl) dX9_put_79 ?_
        refine dz_istore (pc := 82) C dX9_put_82 (by decide) rfl ?_
        refine dz_aload_n (pc := 84) C dX9_put_84 rfl 5 rfl ?_
        refine dz_getO (pc := 85) (k := 0) (j := 0) (o := 16) C Fc_X9 hk_0 (by decide) rfl rfl rfl fl_X9_10 dX9_put_85 ?_
        refine dz_getO (pc := 88) (k := 16) (j := 1) (o := 2) C Fc_X8 hk_16 (by decide) rfl rfl rfl fl_X9_123 dX9_put_88 ?_
        refine dz_iload (pc := 91) C dX9_put_91 0 rfl ?_
        obtain ⟨q8, eq8, h⟩ := dt_bind h
        refine dz_callVv (pc := 93) (st := []) (k := 2) (As := [.int q7]) (M' := (dt_put q5 2 q8)) C Fc_X1 hk_2 mf_X1_carry rfl ml_X9_127 (dt_c1 (m_X1_carry l hk_2 q5 (q5 2) _ eq8)) rfl rfl (by omega) (by decide) (Nat.le_of_ble_eq_true rfl) dX9_put_93 ?_
        refine dz_aload_n (pc := 96) C dX9_put_96 rfl 5 rfl ?_
        refine dz_getO (pc := 97) (k := 0) (j := 3) (o := 11) C Fc_X9 hk_0 (by decide) rfl rfl rfl fl_X9_26 dX9_put_97 ?_
        refine dz_iload_n (pc := 100) C dX9_put_100 rfl 6 rfl ?_
        refine dz_iload (pc := 101) C dX9_put_101 3 rfl ?_
        refine dz_iconst (pc := 103) (v := (-1 : Int32)) C dX9_put_103 (by decide) ?_
        refine dz_iload (pc := 104) C dX9_put_104 0 rfl ?_
        obtain ⟨q9, eq9, h⟩ := dt_bind h
        refine dz_callVv (pc := 106) (st := []) (k := 11) (As := [.int x1, .int (((M 1) 6) a3), .int (-1 : Int32), .int q7]) (M' := (dt_put (dt_put q5 2 q8) 11 q9)) C Fc_X6 hk_11 mf_X6_remember rfl ml_X9_132 (dt_c1 (m_X6_remember l hk_11 (dt_put q5 2 q8) (q5 11) _ _ _ _ eq9)) rfl rfl (by omega) (by decide) (Nat.le_of_ble_eq_true rfl) dX9_put_106 ?_
        refine dz_iload (pc := 109) C dX9_put_109 1 rfl ?_
        cases dt_some h
        exact dz_iret (pc := 111) C hr dX9_put_111
      · refine dz_iconst (pc := 64) (v := (-1 : Int32)) C dX9_put_64 (by decide) ?_
        cases dt_some h
        exact dz_iret (pc := 65) C hr dX9_put_65
    · refine dz_sub [1] rfl ?_
      exact tX9_put_25 C hr  M h

def fX9_take_31  (M : dt_M) : Option (Int32 × dt_M) := ((fX9_refuse (1 : Int32) (-1 : Int32) M).bind fun q11 => (some ((0 : Int32), q11)))
set_option maxRecDepth 10000 in
set_option maxHeartbeats 4000000 in
theorem tX9_take_31 {nb : Nat} {G : dt_G} {A : Nat → Prop} {p : Program} {l : Launch} {e : Env} {s : State} {m : MethodId} {args : Array Value} {below : List Frame} {meth : Method} {c : Code} (C : dt_Cx nb G A p s m args meth c cX9_take 6 RX9) (hr : meth.sig.returnType = (some .boolean)) {res : Int32 × dt_M}  : ∀ (M : dt_M), fX9_take_31 M = some res → dt_At G A p l e (dt_rm 4) s m args below meth c 6 (MQ below (dt_Post G A (some (.int res.1)) res.2) args s 0 0 A) 31 [(0, .ref (G.1 0 0))] [] M := by
  intro M h
  unfold fX9_take_31 at h
  refine dz_aload_n (pc := 31) C dX9_take_31 rfl 0 rfl ?_
  refine dz_iconst (pc := 32) (v := (1 : Int32)) C dX9_take_32 (by decide) ?_
  refine dz_iconst (pc := 33) (v := (-1 : Int32)) C dX9_take_33 (by decide) ?_
  obtain ⟨q11, eq11, h⟩ := dt_bind h
  refine dz_callVv (pc := 34) (st := []) (k := 0) (As := [.int (1 : Int32), .int (-1 : Int32)]) (M' := q11) C Fc_X9 hk_0 mf_X9_refuse rfl ml_X9_103 (m_X9_refuse l M _ _ eq11) rfl rfl (by omega) (by decide) (Nat.le_of_ble_eq_true rfl) dX9_take_34 ?_
  refine dz_iconst (pc := 37) (v := (0 : Int32)) C dX9_take_37 (by decide) ?_
  cases dt_some h
  exact dz_zret (pc := 38) C hr (Or.inl rfl) dX9_take_38
def fX9_take  (x1 : Int32) (x2 : Int32) (M : dt_M) : Option (Int32 × dt_M) := ((fX5_isInTower x1 (M 1)).bind fun q1 => (if q1 = 0 then (fX9_take_31 M) else ((fX5_isFree x1 (M 1)).bind fun q2 => (if q2 = 0 then (fX9_take_31 M) else ((fX9_isPlace x2).bind fun q3 => (if q3 = 0 then (fX9_take_31 M) else ((fX9_refuse (0 : Int32) (-1 : Int32) M).bind fun q4 => ((dt_ix x1 20).bind fun a5 => ((dt_ix x1 20).bind fun a6 => ((fX9_costOf x2 (((q4 1) 7) a5) (((q4 1) 8) a6)).bind fun q7 => ((fX5_lift x1 x2 (q4 1)).bind fun q8 => ((fX1_carry q7 (q4 2)).bind fun q9 => ((fX6_remember x1 (-1 : Int32) (((q4 1) 7) a5) q7 (q4 11)).bind fun q10 => (some ((1 : Int32), (dt_put (dt_put (dt_put q4 1 q8) 2 q9) 11 q10))))))))))))))))
set_option maxRecDepth 10000 in
set_option maxHeartbeats 4000000 in
theorem m_X9_take {nb : Nat} (l : Launch)   (M : dt_M)  (x1 : Int32) (x2 : Int32) {res : Int32 × dt_M} (h : fX9_take x1 x2 M = some res) : dt_Met nb l yX9_take cX9_take 6 (some .boolean) 4 (fun G => [.ref (G.1 0 0), .int x1, .int x2]) M (some (.int res.1)) res.2 := by
  refine dz_enter (lv := fun G => [(0, .ref (G.1 0 0)), (1, .int x1), (2, .int x2)]) (by decide) (fun _ => rfl) (fun _ => Nat.le_of_ble_eq_true rfl) (fun G A p e s m args below meth c C hr => ?_)
  unfold fX9_take at h
  refine dz_aload_n (pc := 0) C dX9_take_0 rfl 0 rfl ?_
  refine dz_getO (pc := 1) (k := 0) (j := 0) (o := 16) C Fc_X9 hk_0 (by decide) rfl rfl rfl fl_X9_10 dX9_take_1 ?_
  refine dz_getO (pc := 4) (k := 16) (j := 0) (o := 1) C Fc_X8 hk_16 (by decide) rfl rfl rfl fl_X9_79 dX9_take_4 ?_
  refine dz_astore_n (pc := 7) C dX9_take_7 rfl (by decide) rfl ?_
  refine dz_aload_n (pc := 8) C dX9_take_8 rfl 0 rfl ?_
  refine dz_iload_n (pc := 9) C dX9_take_9 rfl 2 rfl ?_
  obtain ⟨q1, eq1, h⟩ := dt_bind h
  refine dz_callVi (pc := 10) (st := []) (k := 1) (As := [.int x1]) (M' := M) C Fc_X5 hk_1 mf_X5_isInTower rfl ml_X9_136 (dt_c0 (m_X5_isInTower l hk_1 M (M 1) _ eq1)) rfl rfl (by omega) (by decide) (Nat.le_of_ble_eq_true rfl) dX9_take_10 ?_
  refine dz_if_eq (pc := 13) (t := 31) C dX9_take_13 (by decide) h (fun h => ?_) (fun h => ?_)
  · refine dz_sub [1] rfl ?_
    exact tX9_take_31 C hr  M h
  · refine dz_aload_n (pc := 16) C dX9_take_16 rfl 0 rfl ?_
    refine dz_iload_n (pc := 17) C dX9_take_17 rfl 2 rfl ?_
    obtain ⟨q2, eq2, h⟩ := dt_bind h
    refine dz_callVi (pc := 18) (st := []) (k := 1) (As := [.int x1]) (M' := M) C Fc_X5 hk_1 mf_X5_isFree rfl ml_X9_139 (dt_c0 (m_X5_isFree l hk_1 M (M 1) _ eq2)) rfl rfl (by omega) (by decide) (Nat.le_of_ble_eq_true rfl) dX9_take_18 ?_
    refine dz_if_eq (pc := 21) (t := 31) C dX9_take_21 (by decide) h (fun h => ?_) (fun h => ?_)
    · refine dz_sub [1] rfl ?_
      exact tX9_take_31 C hr  M h
    · refine dz_iload_n (pc := 24) C dX9_take_24 rfl 3 rfl ?_
      obtain ⟨q3, eq3, h⟩ := dt_bind h
      refine dz_callSi (pc := 25) (st := []) (As := [.int x2]) (M' := M) C ms_X9_isPlace ml_X9_85 (m_X9_isPlace l _ _ eq3) rfl rfl (by omega) (by decide) (Nat.le_of_ble_eq_true rfl) dX9_take_25 ?_
      refine dz_if_ne (pc := 28) (t := 39) C dX9_take_28 (by decide) h (fun h => ?_) (fun h => ?_)
      · refine dz_aload_n (pc := 39) C dX9_take_39 rfl 1 rfl ?_
        refine dz_iconst (pc := 40) (v := (0 : Int32)) C dX9_take_40 (by decide) ?_
        refine dz_iconst (pc := 41) (v := (-1 : Int32)) C dX9_take_41 (by decide) ?_
        obtain ⟨q4, eq4, h⟩ := dt_bind h
        refine dz_callVv (pc := 42) (st := []) (k := 0) (As := [.int (0 : Int32), .int (-1 : Int32)]) (M' := q4) C Fc_X9 hk_0 mf_X9_refuse rfl ml_X9_103 (m_X9_refuse l M _ _ eq4) rfl rfl (by omega) (by decide) (Nat.le_of_ble_eq_true rfl) dX9_take_42 ?_
        refine dz_aload_n (pc := 45) C dX9_take_45 rfl 0 rfl ?_
        refine dz_getR (pc := 46) (k := 1) (j := 7) C Fc_X5 hk_1 (by decide) (by decide) rfl fl_X9_142 dX9_take_46 ?_
        refine dz_iload_n (pc := 49) C dX9_take_49 rfl 2 rfl ?_
        refine dz_iald (pc := 50) (k := 1) (j := 7) (n := 20) (f := ((q4 1) 7)) C hk_1 (by decide) rfl rfl dX9_take_50 h (fun a5 h => ?_)
        refine dz_istore (pc := 51) C dX9_take_51 (by decide) rfl ?_
        refine dz_iload_n (pc := 53) C dX9_take_53 rfl 4 rfl ?_
        refine dz_iload (pc := 54) C dX9_take_54 0 rfl ?_
        refine dz_aload_n (pc := 56) C dX9_take_56 rfl 1 rfl ?_
        refine dz_getR (pc := 57) (k := 1) (j := 8) C Fc_X5 hk_1 (by decide) (by decide) rfl fl_X9_116 dX9_take_57 ?_
        refine dz_iload_n (pc := 60) C dX9_take_60 rfl 3 rfl ?_
        refine dz_iald (pc := 61) (k := 1) (j := 8) (n := 20) (f := ((q4 1) 8)) C hk_1 (by decide) rfl rfl dX9_take_61 h (fun a6 h => ?_)
        obtain ⟨q7, eq7, h⟩ := dt_bind h
        refine dz_callSi (pc := 62) (st := []) (As := [.int x2, .int (((q4 1) 7) a5), .int (((q4 1) 8) a6)]) (M' := q4) C ms_X9_costOf ml_X9_119 (m_X9_costOf l _ _ _ _ eq7) rfl rfl (by omega) (by decide) (Nat.le_of_ble_eq_true rfl) dX9_take_62 ?_
        refine dz_istore (pc := 65) C dX9_take_65 (by decide) rfl ?_
        refine dz_aload_n (pc := 67) C dX9_take_67 rfl 2 rfl ?_
        refine dz_iload_n (pc := 68) C dX9_take_68 rfl 4 rfl ?_
        refine dz_iload_n (pc := 69) C dX9_take_69 rfl 5 rfl ?_
        obtain ⟨q8, eq8, h⟩ := dt_bind h
        refine dz_callVv (pc := 70) (st := []) (k := 1) (As := [.int x1, .int x2]) (M' := (dt_put q4 1 q8)) C Fc_X5 hk_1 mf_X5_lift rfl ml_X9_145 (dt_c1 (m_X5_lift l hk_1 q4 (q4 1) _ _ eq8)) rfl rfl (by omega) (by decide) (Nat.le_of_ble_eq_true rfl) dX9_take_70 ?_
        refine dz_aload_n (pc := 73) C dX9_take_73 rfl 3 rfl ?_
        refine dz_getO (pc := 74) (k := 0) (j := 0) (o := 16) C Fc_X9 hk_0 (by decide) rfl rfl rfl fl_X9_10 dX9_take_74 ?_
        refine dz_getO (pc := 77) (k := 16) (j := 1) (o := 2) C Fc_X8 hk_16 (by decide) rfl rfl rfl fl_X9_123 dX9_take_77 ?_
        refine dz_iload (pc := 80) C dX9_take_80 0 rfl ?_
        obtain ⟨q9, eq9, h⟩ := dt_bind h
        refine dz_callVv (pc := 82) (st := []) (k := 2) (As := [.int q7]) (M' := (dt_put (dt_put q4 1 q8) 2 q9)) C Fc_X1 hk_2 mf_X1_carry rfl ml_X9_127 (dt_c1 (m_X1_carry l hk_2 (dt_put q4 1 q8) (q4 2) _ eq9)) rfl rfl (by omega) (by decide) (Nat.le_of_ble_eq_true rfl) dX9_take_82 ?_
        refine dz_aload_n (pc := 85) C dX9_take_85 rfl 3 rfl ?_
        refine dz_getO (pc := 86) (k := 0) (j := 3) (o := 11) C Fc_X9 hk_0 (by decide) rfl rfl rfl fl_X9_26 dX9_take_86 ?_
        refine dz_iload_n (pc := 89) C dX9_take_89 rfl 4 rfl ?_
        refine dz_iconst (pc := 90) (v := (-1 : Int32)) C dX9_take_90 (by decide) ?_
        refine dz_iload (pc := 91) C dX9_take_91 1 rfl ?_
        refine dz_iload (pc := 93) C dX9_take_93 0 rfl ?_
        obtain ⟨q10, eq10, h⟩ := dt_bind h
        refine dz_callVv (pc := 95) (st := []) (k := 11) (As := [.int x1, .int (-1 : Int32), .int (((q4 1) 7) a5), .int q7]) (M' := (dt_put (dt_put (dt_put q4 1 q8) 2 q9) 11 q10)) C Fc_X6 hk_11 mf_X6_remember rfl ml_X9_132 (dt_c1 (m_X6_remember l hk_11 (dt_put (dt_put q4 1 q8) 2 q9) (q4 11) _ _ _ _ eq10)) rfl rfl (by omega) (by decide) (Nat.le_of_ble_eq_true rfl) dX9_take_95 ?_
        refine dz_iconst (pc := 98) (v := (1 : Int32)) C dX9_take_98 (by decide) ?_
        cases dt_some h
        exact dz_zret (pc := 99) C hr (Or.inr rfl) dX9_take_99
      · refine dz_sub [1] rfl ?_
        exact tX9_take_31 C hr  M h

def fX9_refused  (x1 : Int32) (M : dt_M) : Option (Int32) := (if x1 = 0 then (some ((M 0) 7 0)) else (if x1 = (1 : Int32) then (some ((M 0) 8 0)) else (some (-1 : Int32))))
set_option maxRecDepth 10000 in
set_option maxHeartbeats 4000000 in
theorem m_X9_refused {nb : Nat} (l : Launch)   (M : dt_M)  (x1 : Int32) {res : Int32} (h : fX9_refused x1 M = some res) : dt_Met nb l yX9_refused cX9_refused 2 (some .int) 1 (fun G => [.ref (G.1 0 0), .int x1]) M (some (.int res)) M := by
  refine dz_enter (lv := fun G => [(0, .ref (G.1 0 0)), (1, .int x1)]) (by decide) (fun _ => rfl) (fun _ => Nat.le_of_ble_eq_true rfl) (fun G A p e s m args below meth c C hr => ?_)
  unfold fX9_refused at h
  refine dz_iload_n (pc := 0) C dX9_refused_0 rfl 1 rfl ?_
  refine dz_if_ne (pc := 1) (t := 9) C dX9_refused_1 (by decide) h (fun h => ?_) (fun h => ?_)
  · refine dz_iload_n (pc := 9) C dX9_refused_9 rfl 1 rfl ?_
    refine dz_iconst (pc := 10) (v := (1 : Int32)) C dX9_refused_10 (by decide) ?_
    refine dz_icmp_ne (pc := 11) (t := 21) C dX9_refused_11 (by decide) h (fun h => ?_) (fun h => ?_)
    · refine dz_iconst (pc := 21) (v := (-1 : Int32)) C dX9_refused_21 (by decide) ?_
      cases dt_some h
      exact dz_iret (pc := 22) C hr dX9_refused_22
    · refine dz_aload_n (pc := 14) C dX9_refused_14 rfl 0 rfl ?_
      refine dz_getI (pc := 15) (k := 0) (j := 8) (v := ((M 0) 8 0)) C Fc_X9 hk_0 (by decide) rfl rfl fl_X9_48 rfl dX9_refused_15 ?_
      refine dz_goto (pc := 18) (t := 22) C dX9_refused_18 (by decide) ?_
      cases dt_some h
      exact dz_iret (pc := 22) C hr dX9_refused_22
  · refine dz_aload_n (pc := 4) C dX9_refused_4 rfl 0 rfl ?_
    refine dz_getI (pc := 5) (k := 0) (j := 7) (v := ((M 0) 7 0)) C Fc_X9 hk_0 (by decide) rfl rfl fl_X9_45 rfl dX9_refused_5 ?_
    cases dt_some h
    exact dz_iret (pc := 8) C hr dX9_refused_8

def fX9_of  (x1 : Int32) (x2 : Int32) (M : dt_M) : Option (Int32 × dt_M) := ((fX5_isKnown x1 (M 1)).bind fun q1 => (if q1 = 0 then (some ((-2 : Int32), M)) else (if x2 = (0 : Int32) then ((dt_ix x1 20).bind fun a3 => (some ((((M 1) 2) a3), M))) else (if x2 = (1 : Int32) then ((dt_ix x1 20).bind fun a5 => (some ((((M 1) 3) a5), M))) else (if x2 = (2 : Int32) then ((dt_ix x1 20).bind fun a7 => (some ((((M 1) 4) a7), M))) else (if x2 = (3 : Int32) then ((dt_ix x1 20).bind fun a9 => (some ((((M 1) 5) a9), M))) else (if x2 = (4 : Int32) then ((dt_ix x1 20).bind fun a11 => (some ((((M 1) 6) a11), M))) else (if x2 = (5 : Int32) then ((dt_ix x1 20).bind fun a13 => (some ((((M 1) 7) a13), M))) else (if x2 = (6 : Int32) then ((dt_ix x1 20).bind fun a15 => (some ((((M 1) 8) a15), M))) else (if x2 = (7 : Int32) then ((fX5_loadOf x1 (M 1)).bind fun q17 => (some (q17.1, (dt_put M 1 q17.2)))) else (if x2 = (8 : Int32) then ((fX5_bears x1 (M 1)).bind fun q19 => (some (q19, M))) else (if x2 = (9 : Int32) then ((dt_ix x1 20).bind fun a21 => ((fX0_fewest (((M 1) 3) a21) (M 4)).bind fun q22 => (some (q22, M)))) else (some ((-2 : Int32), M))))))))))))))
set_option maxRecDepth 10000 in
set_option maxHeartbeats 4000000 in
theorem m_X9_of {nb : Nat} (l : Launch)   (M : dt_M)  (x1 : Int32) (x2 : Int32) {res : Int32 × dt_M} (h : fX9_of x1 x2 M = some res) : dt_Met nb l yX9_of cX9_of 4 (some .int) 5 (fun G => [.ref (G.1 0 0), .int x1, .int x2]) M (some (.int res.1)) res.2 := by
  refine dz_enter (lv := fun G => [(0, .ref (G.1 0 0)), (1, .int x1), (2, .int x2)]) (by decide) (fun _ => rfl) (fun _ => Nat.le_of_ble_eq_true rfl) (fun G A p e s m args below meth c C hr => ?_)
  unfold fX9_of at h
  refine dz_aload_n (pc := 0) C dX9_of_0 rfl 0 rfl ?_
  refine dz_getO (pc := 1) (k := 0) (j := 0) (o := 16) C Fc_X9 hk_0 (by decide) rfl rfl rfl fl_X9_10 dX9_of_1 ?_
  refine dz_getO (pc := 4) (k := 16) (j := 0) (o := 1) C Fc_X8 hk_16 (by decide) rfl rfl rfl fl_X9_79 dX9_of_4 ?_
  refine dz_astore_n (pc := 7) C dX9_of_7 rfl (by decide) rfl ?_
  refine dz_aload_n (pc := 8) C dX9_of_8 rfl 0 rfl ?_
  refine dz_iload_n (pc := 9) C dX9_of_9 rfl 2 rfl ?_
  obtain ⟨q1, eq1, h⟩ := dt_bind h
  refine dz_callVi (pc := 10) (st := []) (k := 1) (As := [.int x1]) (M' := M) C Fc_X5 hk_1 mf_X5_isKnown rfl ml_X9_148 (dt_c0 (m_X5_isKnown l hk_1 M (M 1) _ eq1)) rfl rfl (by omega) (by decide) (Nat.le_of_ble_eq_true rfl) dX9_of_10 ?_
  refine dz_if_ne (pc := 13) (t := 19) C dX9_of_13 (by decide) h (fun h => ?_) (fun h => ?_)
  · refine dz_iload_n (pc := 19) C dX9_of_19 rfl 3 rfl ?_
    by_cases hc2 : x2 = (0 : Int32)
    · have h := dt_ifp h hc2
      refine dz_tsw (pc := 20) (off := 56) (t := 76) C dX9_of_20 (0) (by rw [hc2]; rfl) (by decide) (by decide) rfl (by decide) ?_
      refine dz_aload_n (pc := 76) C dX9_of_76 rfl 0 rfl ?_
      refine dz_getR (pc := 77) (k := 1) (j := 2) C Fc_X5 hk_1 (by decide) (by decide) rfl fl_X9_151 dX9_of_77 ?_
      refine dz_iload_n (pc := 80) C dX9_of_80 rfl 2 rfl ?_
      refine dz_iald (pc := 81) (k := 1) (j := 2) (n := 20) (f := ((M 1) 2)) C hk_1 (by decide) rfl rfl dX9_of_81 h (fun a3 h => ?_)
      cases dt_some h
      exact dz_iret (pc := 82) C hr dX9_of_82
    have h := dt_iff h hc2
    by_cases hc4 : x2 = (1 : Int32)
    · have h := dt_ifp h hc4
      refine dz_tsw (pc := 20) (off := 63) (t := 83) C dX9_of_20 (1) (by rw [hc4]; rfl) (by decide) (by decide) rfl (by decide) ?_
      refine dz_aload_n (pc := 83) C dX9_of_83 rfl 0 rfl ?_
      refine dz_getR (pc := 84) (k := 1) (j := 3) C Fc_X5 hk_1 (by decide) (by decide) rfl fl_X9_154 dX9_of_84 ?_
      refine dz_iload_n (pc := 87) C dX9_of_87 rfl 2 rfl ?_
      refine dz_iald (pc := 88) (k := 1) (j := 3) (n := 20) (f := ((M 1) 3)) C hk_1 (by decide) rfl rfl dX9_of_88 h (fun a5 h => ?_)
      cases dt_some h
      exact dz_iret (pc := 89) C hr dX9_of_89
    have h := dt_iff h hc4
    by_cases hc6 : x2 = (2 : Int32)
    · have h := dt_ifp h hc6
      refine dz_tsw (pc := 20) (off := 70) (t := 90) C dX9_of_20 (2) (by rw [hc6]; rfl) (by decide) (by decide) rfl (by decide) ?_
      refine dz_aload_n (pc := 90) C dX9_of_90 rfl 0 rfl ?_
      refine dz_getR (pc := 91) (k := 1) (j := 4) C Fc_X5 hk_1 (by decide) (by decide) rfl fl_X9_157 dX9_of_91 ?_
      refine dz_iload_n (pc := 94) C dX9_of_94 rfl 2 rfl ?_
      refine dz_iald (pc := 95) (k := 1) (j := 4) (n := 20) (f := ((M 1) 4)) C hk_1 (by decide) rfl rfl dX9_of_95 h (fun a7 h => ?_)
      cases dt_some h
      exact dz_iret (pc := 96) C hr dX9_of_96
    have h := dt_iff h hc6
    by_cases hc8 : x2 = (3 : Int32)
    · have h := dt_ifp h hc8
      refine dz_tsw (pc := 20) (off := 77) (t := 97) C dX9_of_20 (3) (by rw [hc8]; rfl) (by decide) (by decide) rfl (by decide) ?_
      refine dz_aload_n (pc := 97) C dX9_of_97 rfl 0 rfl ?_
      refine dz_getR (pc := 98) (k := 1) (j := 5) C Fc_X5 hk_1 (by decide) (by decide) rfl fl_X9_160 dX9_of_98 ?_
      refine dz_iload_n (pc := 101) C dX9_of_101 rfl 2 rfl ?_
      refine dz_iald (pc := 102) (k := 1) (j := 5) (n := 20) (f := ((M 1) 5)) C hk_1 (by decide) rfl rfl dX9_of_102 h (fun a9 h => ?_)
      cases dt_some h
      exact dz_iret (pc := 103) C hr dX9_of_103
    have h := dt_iff h hc8
    by_cases hc10 : x2 = (4 : Int32)
    · have h := dt_ifp h hc10
      refine dz_tsw (pc := 20) (off := 84) (t := 104) C dX9_of_20 (4) (by rw [hc10]; rfl) (by decide) (by decide) rfl (by decide) ?_
      refine dz_aload_n (pc := 104) C dX9_of_104 rfl 0 rfl ?_
      refine dz_getR (pc := 105) (k := 1) (j := 6) C Fc_X5 hk_1 (by decide) (by decide) rfl fl_X9_107 dX9_of_105 ?_
      refine dz_iload_n (pc := 108) C dX9_of_108 rfl 2 rfl ?_
      refine dz_iald (pc := 109) (k := 1) (j := 6) (n := 20) (f := ((M 1) 6)) C hk_1 (by decide) rfl rfl dX9_of_109 h (fun a11 h => ?_)
      cases dt_some h
      exact dz_iret (pc := 110) C hr dX9_of_110
    have h := dt_iff h hc10
    by_cases hc12 : x2 = (5 : Int32)
    · have h := dt_ifp h hc12
      refine dz_tsw (pc := 20) (off := 91) (t := 111) C dX9_of_20 (5) (by rw [hc12]; rfl) (by decide) (by decide) rfl (by decide) ?_
      refine dz_aload_n (pc := 111) C dX9_of_111 rfl 0 rfl ?_
      refine dz_getR (pc := 112) (k := 1) (j := 7) C Fc_X5 hk_1 (by decide) (by decide) rfl fl_X9_142 dX9_of_112 ?_
      refine dz_iload_n (pc := 115) C dX9_of_115 rfl 2 rfl ?_
      refine dz_iald (pc := 116) (k := 1) (j := 7) (n := 20) (f := ((M 1) 7)) C hk_1 (by decide) rfl rfl dX9_of_116 h (fun a13 h => ?_)
      cases dt_some h
      exact dz_iret (pc := 117) C hr dX9_of_117
    have h := dt_iff h hc12
    by_cases hc14 : x2 = (6 : Int32)
    · have h := dt_ifp h hc14
      refine dz_tsw (pc := 20) (off := 98) (t := 118) C dX9_of_20 (6) (by rw [hc14]; rfl) (by decide) (by decide) rfl (by decide) ?_
      refine dz_aload_n (pc := 118) C dX9_of_118 rfl 0 rfl ?_
      refine dz_getR (pc := 119) (k := 1) (j := 8) C Fc_X5 hk_1 (by decide) (by decide) rfl fl_X9_116 dX9_of_119 ?_
      refine dz_iload_n (pc := 122) C dX9_of_122 rfl 2 rfl ?_
      refine dz_iald (pc := 123) (k := 1) (j := 8) (n := 20) (f := ((M 1) 8)) C hk_1 (by decide) rfl rfl dX9_of_123 h (fun a15 h => ?_)
      cases dt_some h
      exact dz_iret (pc := 124) C hr dX9_of_124
    have h := dt_iff h hc14
    by_cases hc16 : x2 = (7 : Int32)
    · have h := dt_ifp h hc16
      refine dz_tsw (pc := 20) (off := 105) (t := 125) C dX9_of_20 (7) (by rw [hc16]; rfl) (by decide) (by decide) rfl (by decide) ?_
      refine dz_aload_n (pc := 125) C dX9_of_125 rfl 0 rfl ?_
      refine dz_iload_n (pc := 126) C dX9_of_126 rfl 2 rfl ?_
      obtain ⟨q17, eq17, h⟩ := dt_bind h
      refine dz_callVi (pc := 127) (st := []) (k := 1) (As := [.int x1]) (M' := (dt_put M 1 q17.2)) C Fc_X5 hk_1 mf_X5_loadOf rfl ml_X9_163 (dt_c1 (m_X5_loadOf l hk_1 M (M 1) _ eq17)) rfl rfl (by omega) (by decide) (Nat.le_of_ble_eq_true rfl) dX9_of_127 ?_
      cases dt_some h
      exact dz_iret (pc := 130) C hr dX9_of_130
    have h := dt_iff h hc16
    by_cases hc18 : x2 = (8 : Int32)
    · have h := dt_ifp h hc18
      refine dz_tsw (pc := 20) (off := 111) (t := 131) C dX9_of_20 (8) (by rw [hc18]; rfl) (by decide) (by decide) rfl (by decide) ?_
      refine dz_aload_n (pc := 131) C dX9_of_131 rfl 0 rfl ?_
      refine dz_iload_n (pc := 132) C dX9_of_132 rfl 2 rfl ?_
      obtain ⟨q19, eq19, h⟩ := dt_bind h
      refine dz_callVi (pc := 133) (st := []) (k := 1) (As := [.int x1]) (M' := M) C Fc_X5 hk_1 mf_X5_bears rfl ml_X9_167 (dt_c0 (m_X5_bears l hk_1 M (M 1) _ eq19)) rfl rfl (by omega) (by decide) (Nat.le_of_ble_eq_true rfl) dX9_of_133 ?_
      cases dt_some h
      exact dz_iret (pc := 136) C hr dX9_of_136
    have h := dt_iff h hc18
    by_cases hc20 : x2 = (9 : Int32)
    · have h := dt_ifp h hc20
      refine dz_tsw (pc := 20) (off := 117) (t := 137) C dX9_of_20 (9) (by rw [hc20]; rfl) (by decide) (by decide) rfl (by decide) ?_
      refine dz_aload_n (pc := 137) C dX9_of_137 rfl 1 rfl ?_
      refine dz_getO (pc := 138) (k := 0) (j := 0) (o := 16) C Fc_X9 hk_0 (by decide) rfl rfl rfl fl_X9_10 dX9_of_138 ?_
      refine dz_getO (pc := 141) (k := 16) (j := 3) (o := 4) C Fc_X8 hk_16 (by decide) rfl rfl rfl fl_X9_170 dX9_of_141 ?_
      refine dz_aload_n (pc := 144) C dX9_of_144 rfl 0 rfl ?_
      refine dz_getR (pc := 145) (k := 1) (j := 3) C Fc_X5 hk_1 (by decide) (by decide) rfl fl_X9_154 dX9_of_145 ?_
      refine dz_iload_n (pc := 148) C dX9_of_148 rfl 2 rfl ?_
      refine dz_iald (pc := 149) (k := 1) (j := 3) (n := 20) (f := ((M 1) 3)) C hk_1 (by decide) rfl rfl dX9_of_149 h (fun a21 h => ?_)
      obtain ⟨q22, eq22, h⟩ := dt_bind h
      refine dz_callVi (pc := 150) (st := []) (k := 4) (As := [.int (((M 1) 3) a21)]) (M' := M) C Fc_X0 hk_4 mf_X0_fewest rfl ml_X9_174 (dt_c0 (m_X0_fewest l hk_4 M (M 4) _ eq22)) rfl rfl (by omega) (by decide) (Nat.le_of_ble_eq_true rfl) dX9_of_150 ?_
      cases dt_some h
      exact dz_iret (pc := 153) C hr dX9_of_153
    have h := dt_iff h hc20
    refine dz_tswO (pc := 20) (t := 154) C dX9_of_20 (by have z0 := lv_neT hc2 (a := 0) rfl; have z1 := lv_neT hc4 (a := 1) rfl; have z2 := lv_neT hc6 (a := 2) rfl; have z3 := lv_neT hc8 (a := 3) rfl; have z4 := lv_neT hc10 (a := 4) rfl; have z5 := lv_neT hc12 (a := 5) rfl; have z6 := lv_neT hc14 (a := 6) rfl; have z7 := lv_neT hc16 (a := 7) rfl; have z8 := lv_neT hc18 (a := 8) rfl; have z9 := lv_neT hc20 (a := 9) rfl; omega) (by decide) ?_
    refine dz_bipush (pc := 154) (v := (-2 : Int32)) C dX9_of_154 (by decide) ?_
    cases dt_some h
    exact dz_iret (pc := 156) C hr dX9_of_156
  · refine dz_bipush (pc := 16) (v := (-2 : Int32)) C dX9_of_16 (by decide) ?_
    cases dt_some h
    exact dz_iret (pc := 18) C hr dX9_of_18

def fX9_height  (x1 : Int32) (M : dt_M) : Option (Int32) := (if x1 = (-1 : Int32) then ((fX5_tallest (M 1)).bind fun q2 => (some q2)) else (if x1 < 0 then (some (-2 : Int32)) else (if ((M 1) 0 0) ≤ x1 then (some (-2 : Int32)) else ((dt_ix x1 8).bind fun a1 => (some (((M 1) 9) a1))))))
set_option maxRecDepth 10000 in
set_option maxHeartbeats 4000000 in
theorem m_X9_height {nb : Nat} (l : Launch)   (M : dt_M)  (x1 : Int32) {res : Int32} (h : fX9_height x1 M = some res) : dt_Met nb l yX9_height cX9_height 3 (some .int) 2 (fun G => [.ref (G.1 0 0), .int x1]) M (some (.int res)) M := by
  refine dz_enter (lv := fun G => [(0, .ref (G.1 0 0)), (1, .int x1)]) (by decide) (fun _ => rfl) (fun _ => Nat.le_of_ble_eq_true rfl) (fun G A p e s m args below meth c C hr => ?_)
  unfold fX9_height at h
  refine dz_aload_n (pc := 0) C dX9_height_0 rfl 0 rfl ?_
  refine dz_getO (pc := 1) (k := 0) (j := 0) (o := 16) C Fc_X9 hk_0 (by decide) rfl rfl rfl fl_X9_10 dX9_height_1 ?_
  refine dz_getO (pc := 4) (k := 16) (j := 0) (o := 1) C Fc_X8 hk_16 (by decide) rfl rfl rfl fl_X9_79 dX9_height_4 ?_
  refine dz_astore_n (pc := 7) C dX9_height_7 rfl (by decide) rfl ?_
  refine dz_iload_n (pc := 8) C dX9_height_8 rfl 2 rfl ?_
  refine dz_iconst (pc := 9) (v := (-1 : Int32)) C dX9_height_9 (by decide) ?_
  refine dz_icmp_ne (pc := 10) (t := 18) C dX9_height_10 (by decide) h (fun h => ?_) (fun h => ?_)
  · refine dz_iload_n (pc := 18) C dX9_height_18 rfl 2 rfl ?_
    refine dz_if_lt (pc := 19) (t := 39) C dX9_height_19 (by decide) h (fun h => ?_) (fun h => ?_)
    · refine dz_bipush (pc := 39) (v := (-2 : Int32)) C dX9_height_39 (by decide) ?_
      cases dt_some h
      exact dz_iret (pc := 41) C hr dX9_height_41
    · refine dz_iload_n (pc := 22) C dX9_height_22 rfl 2 rfl ?_
      refine dz_aload_n (pc := 23) C dX9_height_23 rfl 0 rfl ?_
      refine dz_getI (pc := 24) (k := 1) (j := 0) (v := ((M 1) 0 0)) C Fc_X5 hk_1 (by decide) rfl rfl fl_X9_82 rfl dX9_height_24 ?_
      refine dz_icmp_ge (pc := 27) (t := 39) C dX9_height_27 (by decide) h (fun h => ?_) (fun h => ?_)
      · refine dz_bipush (pc := 39) (v := (-2 : Int32)) C dX9_height_39 (by decide) ?_
        cases dt_some h
        exact dz_iret (pc := 41) C hr dX9_height_41
      · refine dz_aload_n (pc := 30) C dX9_height_30 rfl 0 rfl ?_
        refine dz_getR (pc := 31) (k := 1) (j := 9) C Fc_X5 hk_1 (by decide) (by decide) rfl fl_X9_183 dX9_height_31 ?_
        refine dz_iload_n (pc := 34) C dX9_height_34 rfl 2 rfl ?_
        refine dz_iald (pc := 35) (k := 1) (j := 9) (n := 8) (f := ((M 1) 9)) C hk_1 (by decide) rfl rfl dX9_height_35 h (fun a1 h => ?_)
        refine dz_goto (pc := 36) (t := 41) C dX9_height_36 (by decide) ?_
        cases dt_some h
        exact dz_iret (pc := 41) C hr dX9_height_41
  · refine dz_aload_n (pc := 13) C dX9_height_13 rfl 0 rfl ?_
    obtain ⟨q2, eq2, h⟩ := dt_bind h
    refine dz_callVi (pc := 14) (st := []) (k := 1) (As := []) (M' := M) C Fc_X5 hk_1 mf_X5_tallest rfl ml_X9_179 (dt_c0 (m_X5_tallest l hk_1 M (M 1) eq2)) rfl rfl (by omega) (by decide) (Nat.le_of_ble_eq_true rfl) dX9_height_14 ?_
    cases dt_some h
    exact dz_iret (pc := 17) C hr dX9_height_17

def fX9_noon  (M : dt_M) : Option (Int32 × dt_M) := (if ((M 2) 4 0) = 0 then ((fX5_tallest (M 1)).bind fun q1 => ((fX6_forget (M 11)).bind fun q2 => ((fX9_judge (20000 : Int32) (dt_put (dt_sM (dt_sM M 2 4 0 (1 : Int32)) 2 3 0 q1) 11 q2)).bind fun q3 => (some (q3.1, q3.2))))) else (some ((-2 : Int32), M)))
set_option maxRecDepth 10000 in
set_option maxHeartbeats 4000000 in
theorem m_X9_noon {nb : Nat} (l : Launch)   (M : dt_M)   {res : Int32 × dt_M} (h : fX9_noon M = some res) : dt_Met nb l yX9_noon cX9_noon 2 (some .int) 55 (fun G => [.ref (G.1 0 0)]) M (some (.int res.1)) res.2 := by
  refine dz_enter (lv := fun G => [(0, .ref (G.1 0 0))]) (by decide) (fun _ => rfl) (fun _ => Nat.le_of_ble_eq_true rfl) (fun G A p e s m args below meth c C hr => ?_)
  unfold fX9_noon at h
  refine dz_aload_n (pc := 0) C dX9_noon_0 rfl 0 rfl ?_
  refine dz_getO (pc := 1) (k := 0) (j := 0) (o := 16) C Fc_X9 hk_0 (by decide) rfl rfl rfl fl_X9_10 dX9_noon_1 ?_
  refine dz_getO (pc := 4) (k := 16) (j := 1) (o := 2) C Fc_X8 hk_16 (by decide) rfl rfl rfl fl_X9_123 dX9_noon_4 ?_
  refine dz_astore_n (pc := 7) C dX9_noon_7 rfl (by decide) rfl ?_
  refine dz_aload_n (pc := 8) C dX9_noon_8 rfl 0 rfl ?_
  refine dz_getI (pc := 9) (k := 2) (j := 4) (v := ((M 2) 4 0)) C Fc_X1 hk_2 (by decide) rfl rfl fl_X9_186 rfl dX9_noon_9 ?_
  refine dz_if_eq (pc := 12) (t := 18) C dX9_noon_12 (by decide) h (fun h => ?_) (fun h => ?_)
  · refine dz_aload_n (pc := 18) C dX9_noon_18 rfl 0 rfl ?_
    refine dz_iconst (pc := 19) (v := (1 : Int32)) C dX9_noon_19 (by decide) ?_
    refine dz_putZ (pc := 20) (k := 2) (j := 4) (M' := (dt_sM M 2 4 0 (1 : Int32))) C Fc_X1 hk_2 (by decide) rfl rfl (by decide) rfl rfl fl_X9_186 rfl dX9_noon_20 ?_
    refine dz_aload_n (pc := 23) C dX9_noon_23 rfl 0 rfl ?_
    refine dz_aload_n (pc := 24) C dX9_noon_24 rfl 1 rfl ?_
    refine dz_getO (pc := 25) (k := 0) (j := 0) (o := 16) C Fc_X9 hk_0 (by decide) rfl rfl rfl fl_X9_10 dX9_noon_25 ?_
    refine dz_getO (pc := 28) (k := 16) (j := 0) (o := 1) C Fc_X8 hk_16 (by decide) rfl rfl rfl fl_X9_79 dX9_noon_28 ?_
    obtain ⟨q1, eq1, h⟩ := dt_bind h
    refine dz_callVi (pc := 31) (st := [.ref (G.1 2 0)]) (k := 1) (As := []) (M' := (dt_sM M 2 4 0 (1 : Int32))) C Fc_X5 hk_1 mf_X5_tallest rfl ml_X9_179 (dt_c0 (m_X5_tallest l hk_1 (dt_sM M 2 4 0 (1 : Int32)) (M 1) eq1)) rfl rfl (by omega) (by decide) (Nat.le_of_ble_eq_true rfl) dX9_noon_31 ?_
    refine dz_putI (pc := 34) (k := 2) (j := 3) (M' := (dt_sM (dt_sM M 2 4 0 (1 : Int32)) 2 3 0 q1)) C Fc_X1 hk_2 (by decide) rfl rfl rfl rfl fl_X9_189 rfl dX9_noon_34 ?_
    refine dz_aload_n (pc := 37) C dX9_noon_37 rfl 1 rfl ?_
    refine dz_getO (pc := 38) (k := 0) (j := 3) (o := 11) C Fc_X9 hk_0 (by decide) rfl rfl rfl fl_X9_26 dX9_noon_38 ?_
    obtain ⟨q2, eq2, h⟩ := dt_bind h
    refine dz_callVv (pc := 41) (st := []) (k := 11) (As := []) (M' := (dt_put (dt_sM (dt_sM M 2 4 0 (1 : Int32)) 2 3 0 q1) 11 q2)) C Fc_X6 hk_11 mf_X6_forget rfl ml_X9_76 (dt_c1 (m_X6_forget l hk_11 (dt_sM (dt_sM M 2 4 0 (1 : Int32)) 2 3 0 q1) (M 11) eq2)) rfl rfl (by omega) (by decide) (Nat.le_of_ble_eq_true rfl) dX9_noon_41 ?_
    refine dz_aload_n (pc := 44) C dX9_noon_44 rfl 1 rfl ?_
    refine dz_sipush (pc := 45) (v := (20000 : Int32)) C dX9_noon_45 (by decide) ?_
    obtain ⟨q3, eq3, h⟩ := dt_bind h
    refine dz_callVi (pc := 48) (st := []) (k := 0) (As := [.int (20000 : Int32)]) (M' := q3.2) C Fc_X9 hk_0 mf_X9_judge rfl ml_X9_192 (m_X9_judge l (dt_put (dt_sM (dt_sM M 2 4 0 (1 : Int32)) 2 3 0 q1) 11 q2) _ eq3) rfl rfl (by omega) (by decide) (Nat.le_of_ble_eq_true rfl) dX9_noon_48 ?_
    cases dt_some h
    exact dz_iret (pc := 51) C hr dX9_noon_51
  · refine dz_bipush (pc := 15) (v := (-2 : Int32)) C dX9_noon_15 (by decide) ?_
    cases dt_some h
    exact dz_iret (pc := 17) C hr dX9_noon_17

def fX9_dusk  (M : dt_M) : Option (Int32 × dt_M) := ((fX9_judge (20001 : Int32) M).bind fun q1 => ((fX5_fall (q1.2 1)).bind fun q2 => ((fX1_pass (q1.2 2)).bind fun q3 => ((fX6_forget (q1.2 11)).bind fun q4 => (some (q1.1, (dt_put (dt_put (dt_put q1.2 1 q2) 2 q3) 11 q4)))))))
set_option maxRecDepth 10000 in
set_option maxHeartbeats 4000000 in
theorem m_X9_dusk {nb : Nat} (l : Launch)   (M : dt_M)   {res : Int32 × dt_M} (h : fX9_dusk M = some res) : dt_Met nb l yX9_dusk cX9_dusk 2 (some .int) 55 (fun G => [.ref (G.1 0 0)]) M (some (.int res.1)) res.2 := by
  refine dz_enter (lv := fun G => [(0, .ref (G.1 0 0))]) (by decide) (fun _ => rfl) (fun _ => Nat.le_of_ble_eq_true rfl) (fun G A p e s m args below meth c C hr => ?_)
  unfold fX9_dusk at h
  refine dz_aload_n (pc := 0) C dX9_dusk_0 rfl 0 rfl ?_
  refine dz_sipush (pc := 1) (v := (20001 : Int32)) C dX9_dusk_1 (by decide) ?_
  obtain ⟨q1, eq1, h⟩ := dt_bind h
  refine dz_callVi (pc := 4) (st := []) (k := 0) (As := [.int (20001 : Int32)]) (M' := q1.2) C Fc_X9 hk_0 mf_X9_judge rfl ml_X9_192 (m_X9_judge l M _ eq1) rfl rfl (by omega) (by decide) (Nat.le_of_ble_eq_true rfl) dX9_dusk_4 ?_
  refine dz_istore_n (pc := 7) C dX9_dusk_7 rfl (by decide) rfl ?_
  refine dz_aload_n (pc := 8) C dX9_dusk_8 rfl 1 rfl ?_
  refine dz_getO (pc := 9) (k := 0) (j := 0) (o := 16) C Fc_X9 hk_0 (by decide) rfl rfl rfl fl_X9_10 dX9_dusk_9 ?_
  refine dz_getO (pc := 12) (k := 16) (j := 0) (o := 1) C Fc_X8 hk_16 (by decide) rfl rfl rfl fl_X9_79 dX9_dusk_12 ?_
  obtain ⟨q2, eq2, h⟩ := dt_bind h
  refine dz_callVv (pc := 15) (st := []) (k := 1) (As := []) (M' := (dt_put q1.2 1 q2)) C Fc_X5 hk_1 mf_X5_fall rfl ml_X9_195 (dt_c1 (m_X5_fall l hk_1 q1.2 (q1.2 1) eq2)) rfl rfl (by omega) (by decide) (Nat.le_of_ble_eq_true rfl) dX9_dusk_15 ?_
  refine dz_aload_n (pc := 18) C dX9_dusk_18 rfl 1 rfl ?_
  refine dz_getO (pc := 19) (k := 0) (j := 0) (o := 16) C Fc_X9 hk_0 (by decide) rfl rfl rfl fl_X9_10 dX9_dusk_19 ?_
  refine dz_getO (pc := 22) (k := 16) (j := 1) (o := 2) C Fc_X8 hk_16 (by decide) rfl rfl rfl fl_X9_123 dX9_dusk_22 ?_
  obtain ⟨q3, eq3, h⟩ := dt_bind h
  refine dz_callVv (pc := 25) (st := []) (k := 2) (As := []) (M' := (dt_put (dt_put q1.2 1 q2) 2 q3)) C Fc_X1 hk_2 mf_X1_pass rfl ml_X9_198 (dt_c1 (m_X1_pass l hk_2 (dt_put q1.2 1 q2) (q1.2 2) eq3)) rfl rfl (by omega) (by decide) (Nat.le_of_ble_eq_true rfl) dX9_dusk_25 ?_
  refine dz_aload_n (pc := 28) C dX9_dusk_28 rfl 1 rfl ?_
  refine dz_getO (pc := 29) (k := 0) (j := 3) (o := 11) C Fc_X9 hk_0 (by decide) rfl rfl rfl fl_X9_26 dX9_dusk_29 ?_
  obtain ⟨q4, eq4, h⟩ := dt_bind h
  refine dz_callVv (pc := 32) (st := []) (k := 11) (As := []) (M' := (dt_put (dt_put (dt_put q1.2 1 q2) 2 q3) 11 q4)) C Fc_X6 hk_11 mf_X6_forget rfl ml_X9_76 (dt_c1 (m_X6_forget l hk_11 (dt_put (dt_put q1.2 1 q2) 2 q3) (q1.2 11) eq4)) rfl rfl (by omega) (by decide) (Nat.le_of_ble_eq_true rfl) dX9_dusk_32 ?_
  refine dz_iload_n (pc := 35) C dX9_dusk_35 rfl 0 rfl ?_
  cases dt_some h
  exact dz_iret (pc := 36) C hr dX9_dusk_36

def fX9_feed  (x1 : Int32) (x2 : Int32) (x3 : Int32) (x4 : Int32) (x5 : Int32) (M : dt_M) : Option (Int32 × dt_M) := (if (((M 0) 5 0) + (20 : Int32)) ≤ (400 : Int32) then ((fX9_punch x1 M).bind fun q1 => ((fX9_punch x2 q1).bind fun q2 => ((fX9_punch x3 q2).bind fun q3 => ((fX9_punch x4 q3).bind fun q4 => ((fX9_punch x5 q4).bind fun q5 => (some (((q5 0) 5 0), q5))))))) else (some ((-1 : Int32), M)))
set_option maxRecDepth 10000 in
set_option maxHeartbeats 4000000 in
theorem m_X9_feed {nb : Nat} (l : Launch)   (M : dt_M)  (x1 : Int32) (x2 : Int32) (x3 : Int32) (x4 : Int32) (x5 : Int32) {res : Int32 × dt_M} (h : fX9_feed x1 x2 x3 x4 x5 M = some res) : dt_Met nb l yX9_feed cX9_feed 6 (some .int) 2 (fun G => [.ref (G.1 0 0), .int x1, .int x2, .int x3, .int x4, .int x5]) M (some (.int res.1)) res.2 := by
  refine dz_enter (lv := fun G => [(0, .ref (G.1 0 0)), (1, .int x1), (2, .int x2), (3, .int x3), (4, .int x4), (5, .int x5)]) (by decide) (fun _ => rfl) (fun _ => Nat.le_of_ble_eq_true rfl) (fun G A p e s m args below meth c C hr => ?_)
  unfold fX9_feed at h
  refine dz_aload_n (pc := 0) C dX9_feed_0 rfl 0 rfl ?_
  refine dz_getI (pc := 1) (k := 0) (j := 5) (v := ((M 0) 5 0)) C Fc_X9 hk_0 (by decide) rfl rfl fl_X9_34 rfl dX9_feed_1 ?_
  refine dz_bipush (pc := 4) (v := (20 : Int32)) C dX9_feed_4 (by decide) ?_
  refine dz_iadd (pc := 6) C dX9_feed_6 ?_
  refine dz_sipush (pc := 7) (v := (400 : Int32)) C dX9_feed_7 (by decide) ?_
  refine dz_icmp_le (pc := 10) (t := 15) C dX9_feed_10 (by decide) h (fun h => ?_) (fun h => ?_)
  · refine dz_aload_n (pc := 15) C dX9_feed_15 rfl 0 rfl ?_
    refine dz_iload_n (pc := 16) C dX9_feed_16 rfl 1 rfl ?_
    obtain ⟨q1, eq1, h⟩ := dt_bind h
    refine dz_callVv (pc := 17) (st := []) (k := 0) (As := [.int x1]) (M' := q1) C Fc_X9 hk_0 mf_X9_punch rfl ml_X9_201 (m_X9_punch l M _ eq1) rfl rfl (by omega) (by decide) (Nat.le_of_ble_eq_true rfl) dX9_feed_17 ?_
    refine dz_aload_n (pc := 20) C dX9_feed_20 rfl 0 rfl ?_
    refine dz_iload_n (pc := 21) C dX9_feed_21 rfl 2 rfl ?_
    obtain ⟨q2, eq2, h⟩ := dt_bind h
    refine dz_callVv (pc := 22) (st := []) (k := 0) (As := [.int x2]) (M' := q2) C Fc_X9 hk_0 mf_X9_punch rfl ml_X9_201 (m_X9_punch l q1 _ eq2) rfl rfl (by omega) (by decide) (Nat.le_of_ble_eq_true rfl) dX9_feed_22 ?_
    refine dz_aload_n (pc := 25) C dX9_feed_25 rfl 0 rfl ?_
    refine dz_iload_n (pc := 26) C dX9_feed_26 rfl 3 rfl ?_
    obtain ⟨q3, eq3, h⟩ := dt_bind h
    refine dz_callVv (pc := 27) (st := []) (k := 0) (As := [.int x3]) (M' := q3) C Fc_X9 hk_0 mf_X9_punch rfl ml_X9_201 (m_X9_punch l q2 _ eq3) rfl rfl (by omega) (by decide) (Nat.le_of_ble_eq_true rfl) dX9_feed_27 ?_
    refine dz_aload_n (pc := 30) C dX9_feed_30 rfl 0 rfl ?_
    refine dz_iload (pc := 31) C dX9_feed_31 4 rfl ?_
    obtain ⟨q4, eq4, h⟩ := dt_bind h
    refine dz_callVv (pc := 33) (st := []) (k := 0) (As := [.int x4]) (M' := q4) C Fc_X9 hk_0 mf_X9_punch rfl ml_X9_201 (m_X9_punch l q3 _ eq4) rfl rfl (by omega) (by decide) (Nat.le_of_ble_eq_true rfl) dX9_feed_33 ?_
    refine dz_aload_n (pc := 36) C dX9_feed_36 rfl 0 rfl ?_
    refine dz_iload (pc := 37) C dX9_feed_37 5 rfl ?_
    obtain ⟨q5, eq5, h⟩ := dt_bind h
    refine dz_callVv (pc := 39) (st := []) (k := 0) (As := [.int x5]) (M' := q5) C Fc_X9 hk_0 mf_X9_punch rfl ml_X9_201 (m_X9_punch l q4 _ eq5) rfl rfl (by omega) (by decide) (Nat.le_of_ble_eq_true rfl) dX9_feed_39 ?_
    refine dz_aload_n (pc := 42) C dX9_feed_42 rfl 0 rfl ?_
    refine dz_getI (pc := 43) (k := 0) (j := 5) (v := ((q5 0) 5 0)) C Fc_X9 hk_0 (by decide) rfl rfl fl_X9_34 rfl dX9_feed_43 ?_
    cases dt_some h
    exact dz_iret (pc := 46) C hr dX9_feed_46
  · refine dz_iconst (pc := 13) (v := (-1 : Int32)) C dX9_feed_13 (by decide) ?_
    cases dt_some h
    exact dz_iret (pc := 14) C hr dX9_feed_14

def fX9_end  (x1 : Int32) (M : dt_M) : Option (Int32 × dt_M) := (if x1 < 0 then (some ((0 : Int32), M)) else (if x1 ≤ ((M 0) 5 0) then (some ((1 : Int32), (dt_sM M 0 5 0 x1))) else (some ((0 : Int32), M))))
set_option maxRecDepth 10000 in
set_option maxHeartbeats 4000000 in
theorem m_X9_end {nb : Nat} (l : Launch)   (M : dt_M)  (x1 : Int32) {res : Int32 × dt_M} (h : fX9_end x1 M = some res) : dt_Met nb l yX9_end cX9_end 2 (some .boolean) 1 (fun G => [.ref (G.1 0 0), .int x1]) M (some (.int res.1)) res.2 := by
  refine dz_enter (lv := fun G => [(0, .ref (G.1 0 0)), (1, .int x1)]) (by decide) (fun _ => rfl) (fun _ => Nat.le_of_ble_eq_true rfl) (fun G A p e s m args below meth c C hr => ?_)
  unfold fX9_end at h
  refine dz_iload_n (pc := 0) C dX9_end_0 rfl 1 rfl ?_
  refine dz_if_lt (pc := 1) (t := 12) C dX9_end_1 (by decide) h (fun h => ?_) (fun h => ?_)
  · refine dz_iconst (pc := 12) (v := (0 : Int32)) C dX9_end_12 (by decide) ?_
    cases dt_some h
    exact dz_zret (pc := 13) C hr (Or.inl rfl) dX9_end_13
  · refine dz_iload_n (pc := 4) C dX9_end_4 rfl 1 rfl ?_
    refine dz_aload_n (pc := 5) C dX9_end_5 rfl 0 rfl ?_
    refine dz_getI (pc := 6) (k := 0) (j := 5) (v := ((M 0) 5 0)) C Fc_X9 hk_0 (by decide) rfl rfl fl_X9_34 rfl dX9_end_6 ?_
    refine dz_icmp_le (pc := 9) (t := 14) C dX9_end_9 (by decide) h (fun h => ?_) (fun h => ?_)
    · refine dz_aload_n (pc := 14) C dX9_end_14 rfl 0 rfl ?_
      refine dz_iload_n (pc := 15) C dX9_end_15 rfl 1 rfl ?_
      refine dz_putI (pc := 16) (k := 0) (j := 5) (M' := (dt_sM M 0 5 0 x1)) C Fc_X9 hk_0 (by decide) rfl rfl rfl rfl fl_X9_34 rfl dX9_end_16 ?_
      refine dz_iconst (pc := 19) (v := (1 : Int32)) C dX9_end_19 (by decide) ?_
      cases dt_some h
      exact dz_zret (pc := 20) C hr (Or.inr rfl) dX9_end_20
    · refine dz_iconst (pc := 12) (v := (0 : Int32)) C dX9_end_12 (by decide) ?_
      cases dt_some h
      exact dz_zret (pc := 13) C hr (Or.inl rfl) dX9_end_13

def fX9_text  (M : dt_M) : Option (Int32 × dt_M) := ((fX7_scan ((M 0) 4) ((M 0) 5 0) (M 12)).bind fun q1 => ((fX7_read (-1 : Int32) q1).bind fun q2 => (if (q2.2 6 0) = 0 then ((fX7_become q2.2 (M 3)).bind fun q3 => (some ((q2.2 5 0), (dt_put (dt_put (dt_sM (dt_put M 12 q1) 0 5 0 (0 : Int32)) 12 q2.2) 3 q3)))) else (some ((-1 : Int32), (dt_put (dt_sM (dt_put M 12 q1) 0 5 0 (0 : Int32)) 12 q2.2))))))
set_option maxRecDepth 10000 in
set_option maxHeartbeats 4000000 in
theorem m_X9_text {nb : Nat} (l : Launch)   (M : dt_M)   {res : Int32 × dt_M} (h : fX9_text M = some res) : dt_Met nb l yX9_text cX9_text 1 (some .int) 54 (fun G => [.ref (G.1 0 0)]) M (some (.int res.1)) res.2 := by
  refine dz_enter (lv := fun G => [(0, .ref (G.1 0 0))]) (by decide) (fun _ => rfl) (fun _ => Nat.le_of_ble_eq_true rfl) (fun G A p e s m args below meth c C hr => ?_)
  unfold fX9_text at h
  refine dz_aload_n (pc := 0) C dX9_text_0 rfl 0 rfl ?_
  refine dz_getO (pc := 1) (k := 0) (j := 6) (o := 12) C Fc_X9 hk_0 (by decide) rfl rfl rfl fl_X9_41 dX9_text_1 ?_
  refine dz_aload_n (pc := 4) C dX9_text_4 rfl 0 rfl ?_
  refine dz_getR (pc := 5) (k := 0) (j := 4) C Fc_X9 hk_0 (by decide) (by decide) rfl fl_X9_30 dX9_text_5 ?_
  refine dz_aload_n (pc := 8) C dX9_text_8 rfl 0 rfl ?_
  refine dz_getI (pc := 9) (k := 0) (j := 5) (v := ((M 0) 5 0)) C Fc_X9 hk_0 (by decide) rfl rfl fl_X9_34 rfl dX9_text_9 ?_
  obtain ⟨q1, eq1, h⟩ := dt_bind h
  refine dz_callVv (pc := 12) (st := []) (k := 12) (As := [.ref (G.1 0 (4 + 1)), .int ((M 0) 5 0)]) (M' := (dt_put M 12 q1)) C Fc_X7 hk_12 mf_X7_scan rfl ml_X9_204 (dt_c1 (m_X7_scan l hk_12 (by decide) M (M 12) _ rfl _ eq1)) rfl rfl (by omega) (by decide) (Nat.le_of_ble_eq_true rfl) dX9_text_12 ?_
  refine dz_aload_n (pc := 15) C dX9_text_15 rfl 0 rfl ?_
  refine dz_iconst (pc := 16) (v := (0 : Int32)) C dX9_text_16 (by decide) ?_
  refine dz_putI (pc := 17) (k := 0) (j := 5) (M' := (dt_sM (dt_put M 12 q1) 0 5 0 (0 : Int32))) C Fc_X9 hk_0 (by decide) rfl rfl rfl rfl fl_X9_34 rfl dX9_text_17 ?_
  refine dz_aload_n (pc := 20) C dX9_text_20 rfl 0 rfl ?_
  refine dz_getO (pc := 21) (k := 0) (j := 6) (o := 12) C Fc_X9 hk_0 (by decide) rfl rfl rfl fl_X9_41 dX9_text_21 ?_
  refine dz_iconst (pc := 24) (v := (-1 : Int32)) C dX9_text_24 (by decide) ?_
  obtain ⟨q2, eq2, h⟩ := dt_bind h
  refine dz_callVi (pc := 25) (st := []) (k := 12) (As := [.int (-1 : Int32)]) (M' := (dt_put (dt_sM (dt_put M 12 q1) 0 5 0 (0 : Int32)) 12 q2.2)) C Fc_X7 hk_12 mf_X7_read rfl ml_X9_208 (dt_c1 (m_X7_read l hk_12 (dt_sM (dt_put M 12 q1) 0 5 0 (0 : Int32)) q1 _ eq2)) rfl rfl (by omega) (by decide) (Nat.le_of_ble_eq_true rfl) dX9_text_25 ?_
  refine dz_pop (pc := 28) C dX9_text_28 rfl ?_
  refine dz_aload_n (pc := 29) C dX9_text_29 rfl 0 rfl ?_
  refine dz_getO (pc := 30) (k := 0) (j := 6) (o := 12) C Fc_X9 hk_0 (by decide) rfl rfl rfl fl_X9_41 dX9_text_30 ?_
  refine dz_getI (pc := 33) (k := 12) (j := 6) (v := (q2.2 6 0)) C Fc_X7 hk_12 (by decide) rfl rfl fl_X9_211 rfl dX9_text_33 ?_
  refine dz_if_eq (pc := 36) (t := 41) C dX9_text_36 (by decide) h (fun h => ?_) (fun h => ?_)
  · refine dz_aload_n (pc := 41) C dX9_text_41 rfl 0 rfl ?_
    refine dz_getO (pc := 42) (k := 0) (j := 0) (o := 16) C Fc_X9 hk_0 (by decide) rfl rfl rfl fl_X9_10 dX9_text_42 ?_
    refine dz_getO (pc := 45) (k := 16) (j := 2) (o := 3) C Fc_X8 hk_16 (by decide) rfl rfl rfl fl_X9_214 dX9_text_45 ?_
    refine dz_aload_n (pc := 48) C dX9_text_48 rfl 0 rfl ?_
    refine dz_getO (pc := 49) (k := 0) (j := 6) (o := 12) C Fc_X9 hk_0 (by decide) rfl rfl rfl fl_X9_41 dX9_text_49 ?_
    obtain ⟨q3, eq3, h⟩ := dt_bind h
    refine dz_callVv (pc := 52) (st := []) (k := 3) (As := [.ref (G.1 12 0)]) (M' := (dt_put (dt_put (dt_sM (dt_put M 12 q1) 0 5 0 (0 : Int32)) 12 q2.2) 3 q3)) C Fc_X7 hk_3 mf_X7_become rfl ml_X9_217 (dt_c1 (m_X7_become l hk_3 hk_12 (by decide) (dt_put (dt_sM (dt_put M 12 q1) 0 5 0 (0 : Int32)) 12 q2.2) (M 3) q2.2 rfl eq3)) rfl rfl (by omega) (by decide) (Nat.le_of_ble_eq_true rfl) dX9_text_52 ?_
    refine dz_aload_n (pc := 55) C dX9_text_55 rfl 0 rfl ?_
    refine dz_getO (pc := 56) (k := 0) (j := 6) (o := 12) C Fc_X9 hk_0 (by decide) rfl rfl rfl fl_X9_41 dX9_text_56 ?_
    refine dz_getI (pc := 59) (k := 12) (j := 5) (v := (q2.2 5 0)) C Fc_X7 hk_12 (by decide) rfl rfl fl_X9_221 rfl dX9_text_59 ?_
    cases dt_some h
    exact dz_iret (pc := 62) C hr dX9_text_62
  · refine dz_iconst (pc := 39) (v := (-1 : Int32)) C dX9_text_39 (by decide) ?_
    cases dt_some h
    exact dz_iret (pc := 40) C hr dX9_text_40

def fX9_fault  (x1 : Int32) (M : dt_M) : Option (Int32) := (if x1 = 0 then (some ((M 12) 6 0)) else (if x1 = (1 : Int32) then (some ((M 12) 7 0)) else (some (-1 : Int32))))
set_option maxRecDepth 10000 in
set_option maxHeartbeats 4000000 in
theorem m_X9_fault {nb : Nat} (l : Launch)   (M : dt_M)  (x1 : Int32) {res : Int32} (h : fX9_fault x1 M = some res) : dt_Met nb l yX9_fault cX9_fault 2 (some .int) 1 (fun G => [.ref (G.1 0 0), .int x1]) M (some (.int res)) M := by
  refine dz_enter (lv := fun G => [(0, .ref (G.1 0 0)), (1, .int x1)]) (by decide) (fun _ => rfl) (fun _ => Nat.le_of_ble_eq_true rfl) (fun G A p e s m args below meth c C hr => ?_)
  unfold fX9_fault at h
  refine dz_iload_n (pc := 0) C dX9_fault_0 rfl 1 rfl ?_
  refine dz_if_ne (pc := 1) (t := 12) C dX9_fault_1 (by decide) h (fun h => ?_) (fun h => ?_)
  · refine dz_iload_n (pc := 12) C dX9_fault_12 rfl 1 rfl ?_
    refine dz_iconst (pc := 13) (v := (1 : Int32)) C dX9_fault_13 (by decide) ?_
    refine dz_icmp_ne (pc := 14) (t := 27) C dX9_fault_14 (by decide) h (fun h => ?_) (fun h => ?_)
    · refine dz_iconst (pc := 27) (v := (-1 : Int32)) C dX9_fault_27 (by decide) ?_
      cases dt_some h
      exact dz_iret (pc := 28) C hr dX9_fault_28
    · refine dz_aload_n (pc := 17) C dX9_fault_17 rfl 0 rfl ?_
      refine dz_getO (pc := 18) (k := 0) (j := 6) (o := 12) C Fc_X9 hk_0 (by decide) rfl rfl rfl fl_X9_41 dX9_fault_18 ?_
      refine dz_getI (pc := 21) (k := 12) (j := 7) (v := ((M 12) 7 0)) C Fc_X7 hk_12 (by decide) rfl rfl fl_X9_224 rfl dX9_fault_21 ?_
      refine dz_goto (pc := 24) (t := 28) C dX9_fault_24 (by decide) ?_
      cases dt_some h
      exact dz_iret (pc := 28) C hr dX9_fault_28
  · refine dz_aload_n (pc := 4) C dX9_fault_4 rfl 0 rfl ?_
    refine dz_getO (pc := 5) (k := 0) (j := 6) (o := 12) C Fc_X9 hk_0 (by decide) rfl rfl rfl fl_X9_41 dX9_fault_5 ?_
    refine dz_getI (pc := 8) (k := 12) (j := 6) (v := ((M 12) 6 0)) C Fc_X7 hk_12 (by decide) rfl rfl fl_X9_211 rfl dX9_fault_8 ?_
    cases dt_some h
    exact dz_iret (pc := 11) C hr dX9_fault_11

def fX9_plan  (x1 : Int32) (x2 : Int32) (M : dt_M) : Option (Int32 × dt_M) := (if x1 < (1 : Int32) then (some ((-1 : Int32), M)) else (if (20 : Int32) < x1 then (some ((-1 : Int32), M)) else (if (5 : Int32) < ((M 1) 0 0) then (some ((-1 : Int32), M)) else ((fX5_inYard (M 1)).bind fun q1 => (if q1 ≤ (6 : Int32) then ((fX3_isAsked x2).bind fun q2 => (if q2 = 0 then (some ((-1 : Int32), M)) else ((fX5_become (M 1) (M 13)).bind fun q3 => ((fX3_seek x1 (M 14) q3).bind fun q4 => ((fX3_answer x2 q4.1 q4.2).bind fun q5 => (some (q5, (dt_put (dt_put (dt_put M 13 q3) 14 q4.1) 13 q4.2)))))))) else (some ((-1 : Int32), M)))))))
set_option maxRecDepth 10000 in
set_option maxHeartbeats 4000000 in
theorem m_X9_plan {nb : Nat} (l : Launch)   (M : dt_M)  (x1 : Int32) (x2 : Int32) {res : Int32 × dt_M} (h : fX9_plan x1 x2 M = some res) : dt_Met nb l yX9_plan cX9_plan 4 (some .int) 54 (fun G => [.ref (G.1 0 0), .int x1, .int x2]) M (some (.int res.1)) res.2 := by
  refine dz_enter (lv := fun G => [(0, .ref (G.1 0 0)), (1, .int x1), (2, .int x2)]) (by decide) (fun _ => rfl) (fun _ => Nat.le_of_ble_eq_true rfl) (fun G A p e s m args below meth c C hr => ?_)
  unfold fX9_plan at h
  refine dz_aload_n (pc := 0) C dX9_plan_0 rfl 0 rfl ?_
  refine dz_getO (pc := 1) (k := 0) (j := 0) (o := 16) C Fc_X9 hk_0 (by decide) rfl rfl rfl fl_X9_10 dX9_plan_1 ?_
  refine dz_getO (pc := 4) (k := 16) (j := 0) (o := 1) C Fc_X8 hk_16 (by decide) rfl rfl rfl fl_X9_79 dX9_plan_4 ?_
  refine dz_astore_n (pc := 7) C dX9_plan_7 rfl (by decide) rfl ?_
  refine dz_iload_n (pc := 8) C dX9_plan_8 rfl 2 rfl ?_
  refine dz_iconst (pc := 9) (v := (1 : Int32)) C dX9_plan_9 (by decide) ?_
  refine dz_icmp_lt (pc := 10) (t := 36) C dX9_plan_10 (by decide) h (fun h => ?_) (fun h => ?_)
  · refine dz_iconst (pc := 36) (v := (-1 : Int32)) C dX9_plan_36 (by decide) ?_
    cases dt_some h
    exact dz_iret (pc := 37) C hr dX9_plan_37
  · refine dz_iload_n (pc := 13) C dX9_plan_13 rfl 2 rfl ?_
    refine dz_bipush (pc := 14) (v := (20 : Int32)) C dX9_plan_14 (by decide) ?_
    refine dz_icmp_gt (pc := 16) (t := 36) C dX9_plan_16 (by decide) h (fun h => ?_) (fun h => ?_)
    · refine dz_iconst (pc := 36) (v := (-1 : Int32)) C dX9_plan_36 (by decide) ?_
      cases dt_some h
      exact dz_iret (pc := 37) C hr dX9_plan_37
    · refine dz_aload_n (pc := 19) C dX9_plan_19 rfl 0 rfl ?_
      refine dz_getI (pc := 20) (k := 1) (j := 0) (v := ((M 1) 0 0)) C Fc_X5 hk_1 (by decide) rfl rfl fl_X9_82 rfl dX9_plan_20 ?_
      refine dz_iconst (pc := 23) (v := (5 : Int32)) C dX9_plan_23 (by decide) ?_
      refine dz_icmp_gt (pc := 24) (t := 36) C dX9_plan_24 (by decide) h (fun h => ?_) (fun h => ?_)
      · refine dz_iconst (pc := 36) (v := (-1 : Int32)) C dX9_plan_36 (by decide) ?_
        cases dt_some h
        exact dz_iret (pc := 37) C hr dX9_plan_37
      · refine dz_aload_n (pc := 27) C dX9_plan_27 rfl 0 rfl ?_
        obtain ⟨q1, eq1, h⟩ := dt_bind h
        refine dz_callVi (pc := 28) (st := []) (k := 1) (As := []) (M' := M) C Fc_X5 hk_1 mf_X5_inYard rfl ml_X9_227 (dt_c0 (m_X5_inYard l hk_1 M (M 1) eq1)) rfl rfl (by omega) (by decide) (Nat.le_of_ble_eq_true rfl) dX9_plan_28 ?_
        refine dz_bipush (pc := 31) (v := (6 : Int32)) C dX9_plan_31 (by decide) ?_
        refine dz_icmp_le (pc := 33) (t := 38) C dX9_plan_33 (by decide) h (fun h => ?_) (fun h => ?_)
        · refine dz_iload_n (pc := 38) C dX9_plan_38 rfl 3 rfl ?_
          obtain ⟨q2, eq2, h⟩ := dt_bind h
          refine dz_callSi (pc := 39) (st := []) (As := [.int x2]) (M' := M) C ms_X3_isAsked ml_X9_230 (m_X3_isAsked l _ _ eq2) rfl rfl (by omega) (by decide) (Nat.le_of_ble_eq_true rfl) dX9_plan_39 ?_
          refine dz_if_ne (pc := 42) (t := 47) C dX9_plan_42 (by decide) h (fun h => ?_) (fun h => ?_)
          · refine dz_aload_n (pc := 47) C dX9_plan_47 rfl 1 rfl ?_
            refine dz_getO (pc := 48) (k := 0) (j := 9) (o := 13) C Fc_X9 hk_0 (by decide) rfl rfl rfl fl_X9_54 dX9_plan_48 ?_
            refine dz_aload_n (pc := 51) C dX9_plan_51 rfl 0 rfl ?_
            obtain ⟨q3, eq3, h⟩ := dt_bind h
            refine dz_callVv (pc := 52) (st := []) (k := 13) (As := [.ref (G.1 1 0)]) (M' := (dt_put M 13 q3)) C Fc_X5 hk_13 mf_X5_become rfl ml_X9_233 (dt_c1 (m_X5_become l hk_13 hk_1 (by decide) M (M 13) (M 1) rfl eq3)) rfl rfl (by omega) (by decide) (Nat.le_of_ble_eq_true rfl) dX9_plan_52 ?_
            refine dz_aload_n (pc := 55) C dX9_plan_55 rfl 1 rfl ?_
            refine dz_getO (pc := 56) (k := 0) (j := 10) (o := 14) C Fc_X9 hk_0 (by decide) rfl rfl rfl fl_X9_61 dX9_plan_56 ?_
            refine dz_aload_n (pc := 59) C dX9_plan_59 rfl 1 rfl ?_
            refine dz_getO (pc := 60) (k := 0) (j := 9) (o := 13) C Fc_X9 hk_0 (by decide) rfl rfl rfl fl_X9_54 dX9_plan_60 ?_
            refine dz_iload_n (pc := 63) C dX9_plan_63 rfl 2 rfl ?_
            obtain ⟨q4, eq4, h⟩ := dt_bind h
            refine dz_callVv (pc := 64) (st := []) (k := 14) (As := [.ref (G.1 13 0), .int x1]) (M' := (dt_put (dt_put (dt_put M 13 q3) 14 q4.1) 13 q4.2)) C Fc_X3 hk_14 mf_X3_seek rfl ml_X9_236 (dt_c2 (m_X3_seek l (dt_put M 13 q3) (M 14) q3 _ eq4)) rfl rfl (by omega) (by decide) (Nat.le_of_ble_eq_true rfl) dX9_plan_64 ?_
            refine dz_aload_n (pc := 67) C dX9_plan_67 rfl 1 rfl ?_
            refine dz_getO (pc := 68) (k := 0) (j := 10) (o := 14) C Fc_X9 hk_0 (by decide) rfl rfl rfl fl_X9_61 dX9_plan_68 ?_
            refine dz_iload_n (pc := 71) C dX9_plan_71 rfl 3 rfl ?_
            obtain ⟨q5, eq5, h⟩ := dt_bind h
            refine dz_callVi (pc := 72) (st := []) (k := 14) (As := [.int x2]) (M' := (dt_put (dt_put (dt_put M 13 q3) 14 q4.1) 13 q4.2)) C Fc_X3 hk_14 mf_X3_answer rfl ml_X9_240 (dt_c20 (m_X3_answer l (dt_put (dt_put (dt_put M 13 q3) 14 q4.1) 13 q4.2) q4.1 q4.2 _ eq5)) rfl rfl (by omega) (by decide) (Nat.le_of_ble_eq_true rfl) dX9_plan_72 ?_
            cases dt_some h
            exact dz_iret (pc := 75) C hr dX9_plan_75
          · refine dz_iconst (pc := 45) (v := (-1 : Int32)) C dX9_plan_45 (by decide) ?_
            cases dt_some h
            exact dz_iret (pc := 46) C hr dX9_plan_46
        · refine dz_iconst (pc := 36) (v := (-1 : Int32)) C dX9_plan_36 (by decide) ?_
          cases dt_some h
          exact dz_iret (pc := 37) C hr dX9_plan_37

def fX9_down_30  : Nat → Int32 → Int32 → Int32 → dt_M → Option (Int32 × dt_M)
  | 0, _, _, _, _ => none
  | n + 1, x1, x2, x3, M => (if x1 < x3 then (some (x2, M)) else ((fX5_leastFree (M 13)).bind fun q2 => (if q2 = (-1 : Int32) then (some ((-1 : Int32), M)) else ((fX5_lift q2 (0 : Int32) (M 13)).bind fun q3 => ((fX9_down_30 n) x1 q2 (x3 + (1 : Int32)) (dt_put M 13 q3))))))
set_option maxRecDepth 10000 in
set_option maxHeartbeats 4000000 in
theorem tX9_down_30 {nb : Nat} {G : dt_G} {A : Nat → Prop} {p : Program} {l : Launch} {e : Env} {s : State} {m : MethodId} {args : Array Value} {below : List Frame} {meth : Method} {c : Code} (C : dt_Cx nb G A p s m args meth c cX9_down 4 RX9) (hr : meth.sig.returnType = (some .int)) {res : Int32 × dt_M}  : ∀ (n : Nat) (x1 : Int32) (x2 : Int32) (x3 : Int32) (M : dt_M), fX9_down_30 n x1 x2 x3 M = some res → dt_At G A p l e (dt_rm 4) s m args below meth c 4 (MQ below (dt_Post G A (some (.int res.1)) res.2) args s 0 0 A) 30 [(0, .ref (G.1 0 0)), (1, .int x1), (2, .int x2), (3, .int x3)] [] M := by
  intro n
  induction n with
  | zero =>
    intro x1 x2 x3 M h
    unfold fX9_down_30 at h
    cases h
  | succ n ih =>
    intro x1 x2 x3 M h
    unfold fX9_down_30 at h
    refine dz_iload_n (pc := 30) C dX9_down_30 rfl 3 rfl ?_
    refine dz_iload_n (pc := 31) C dX9_down_31 rfl 1 rfl ?_
    refine dz_icmp_gt (pc := 32) (t := 65) C dX9_down_32 (by decide) h (fun h => ?_) (fun h => ?_)
    · refine dz_iload_n (pc := 65) C dX9_down_65 rfl 2 rfl ?_
      cases dt_some h
      exact dz_iret (pc := 66) C hr dX9_down_66
    · refine dz_aload_n (pc := 35) C dX9_down_35 rfl 0 rfl ?_
      refine dz_getO (pc := 36) (k := 0) (j := 9) (o := 13) C Fc_X9 hk_0 (by decide) rfl rfl rfl fl_X9_54 dX9_down_36 ?_
      obtain ⟨q2, eq2, h⟩ := dt_bind h
      refine dz_callVi (pc := 39) (st := []) (k := 13) (As := []) (M' := M) C Fc_X5 hk_13 mf_X5_leastFree rfl ml_X9_243 (dt_c0 (m_X5_leastFree l hk_13 M (M 13) eq2)) rfl rfl (by omega) (by decide) (Nat.le_of_ble_eq_true rfl) dX9_down_39 ?_
      refine dz_istore_n (pc := 42) C dX9_down_42 rfl (by decide) rfl ?_
      refine dz_iload_n (pc := 43) C dX9_down_43 rfl 0 rfl ?_
      refine dz_iconst (pc := 44) (v := (-1 : Int32)) C dX9_down_44 (by decide) ?_
      refine dz_icmp_ne (pc := 45) (t := 50) C dX9_down_45 (by decide) h (fun h => ?_) (fun h => ?_)
      · refine dz_aload_n (pc := 50) C dX9_down_50 rfl 1 rfl ?_
        refine dz_getO (pc := 51) (k := 0) (j := 9) (o := 13) C Fc_X9 hk_0 (by decide) rfl rfl rfl fl_X9_54 dX9_down_51 ?_
        refine dz_iload_n (pc := 54) C dX9_down_54 rfl 0 rfl ?_
        refine dz_iconst (pc := 55) (v := (0 : Int32)) C dX9_down_55 (by decide) ?_
        obtain ⟨q3, eq3, h⟩ := dt_bind h
        refine dz_callVv (pc := 56) (st := []) (k := 13) (As := [.int q2, .int (0 : Int32)]) (M' := (dt_put M 13 q3)) C Fc_X5 hk_13 mf_X5_lift rfl ml_X9_145 (dt_c1 (m_X5_lift l hk_13 M (M 13) _ _ eq3)) rfl rfl (by omega) (by decide) (Nat.le_of_ble_eq_true rfl) dX9_down_56 ?_
        refine dz_iinc (pc := 59) (v := (x3 + (1 : Int32))) C dX9_down_59 3 rfl rfl (by decide) rfl ?_
        refine dz_goto (pc := 62) (t := 30) C dX9_down_62 (by decide) ?_
        refine dz_sub [2, 3, 1, 0] rfl ?_
        exact ih x1 q2 (x3 + (1 : Int32)) (dt_put M 13 q3) h
      · refine dz_iconst (pc := 48) (v := (-1 : Int32)) C dX9_down_48 (by decide) ?_
        cases dt_some h
        exact dz_iret (pc := 49) C hr dX9_down_49
def fX9_down  (x1 : Int32) (M : dt_M) : Option (Int32 × dt_M) := (if x1 < 0 then (some ((-1 : Int32), M)) else (if x1 < (20 : Int32) then ((fX5_become (M 1) (M 13)).bind fun q1 => (fX9_down_30 dt_F x1 (-1 : Int32) (0 : Int32) (dt_put M 13 q1))) else (some ((-1 : Int32), M))))
set_option maxRecDepth 10000 in
set_option maxHeartbeats 4000000 in
theorem m_X9_down {nb : Nat} (l : Launch)   (M : dt_M)  (x1 : Int32) {res : Int32 × dt_M} (h : fX9_down x1 M = some res) : dt_Met nb l yX9_down cX9_down 4 (some .int) 4 (fun G => [.ref (G.1 0 0), .int x1]) M (some (.int res.1)) res.2 := by
  refine dz_enter (lv := fun G => [(0, .ref (G.1 0 0)), (1, .int x1)]) (by decide) (fun _ => rfl) (fun _ => Nat.le_of_ble_eq_true rfl) (fun G A p e s m args below meth c C hr => ?_)
  unfold fX9_down at h
  refine dz_iload_n (pc := 0) C dX9_down_0 rfl 1 rfl ?_
  refine dz_if_lt (pc := 1) (t := 10) C dX9_down_1 (by decide) h (fun h => ?_) (fun h => ?_)
  · refine dz_iconst (pc := 10) (v := (-1 : Int32)) C dX9_down_10 (by decide) ?_
    cases dt_some h
    exact dz_iret (pc := 11) C hr dX9_down_11
  · refine dz_iload_n (pc := 4) C dX9_down_4 rfl 1 rfl ?_
    refine dz_bipush (pc := 5) (v := (20 : Int32)) C dX9_down_5 (by decide) ?_
    refine dz_icmp_lt (pc := 7) (t := 12) C dX9_down_7 (by decide) h (fun h => ?_) (fun h => ?_)
    · refine dz_aload_n (pc := 12) C dX9_down_12 rfl 0 rfl ?_
      refine dz_getO (pc := 13) (k := 0) (j := 9) (o := 13) C Fc_X9 hk_0 (by decide) rfl rfl rfl fl_X9_54 dX9_down_13 ?_
      refine dz_aload_n (pc := 16) C dX9_down_16 rfl 0 rfl ?_
      refine dz_getO (pc := 17) (k := 0) (j := 0) (o := 16) C Fc_X9 hk_0 (by decide) rfl rfl rfl fl_X9_10 dX9_down_17 ?_
      refine dz_getO (pc := 20) (k := 16) (j := 0) (o := 1) C Fc_X8 hk_16 (by decide) rfl rfl rfl fl_X9_79 dX9_down_20 ?_
      obtain ⟨q1, eq1, h⟩ := dt_bind h
      refine dz_callVv (pc := 23) (st := []) (k := 13) (As := [.ref (G.1 1 0)]) (M' := (dt_put M 13 q1)) C Fc_X5 hk_13 mf_X5_become rfl ml_X9_233 (dt_c1 (m_X5_become l hk_13 hk_1 (by decide) M (M 13) (M 1) rfl eq1)) rfl rfl (by omega) (by decide) (Nat.le_of_ble_eq_true rfl) dX9_down_23 ?_
      refine dz_iconst (pc := 26) (v := (-1 : Int32)) C dX9_down_26 (by decide) ?_
      refine dz_istore_n (pc := 27) C dX9_down_27 rfl (by decide) rfl ?_
      refine dz_iconst (pc := 28) (v := (0 : Int32)) C dX9_down_28 (by decide) ?_
      refine dz_istore_n (pc := 29) C dX9_down_29 rfl (by decide) rfl ?_
      refine dz_sub [2, 3, 1, 0] rfl ?_
      exact tX9_down_30 C hr dt_F x1 (-1 : Int32) (0 : Int32) (dt_put M 13 q1) h
    · refine dz_iconst (pc := 10) (v := (-1 : Int32)) C dX9_down_10 (by decide) ?_
      cases dt_some h
      exact dz_iret (pc := 11) C hr dX9_down_11

def fX9_which  (x1 : Int32) (x2 : Int32) (M : dt_M) : Option (Int32 × dt_M) := (if x1 = 0 then (some ((-1 : Int32), M)) else ((fJ6_bitCount_0f7a4 x1).bind fun q1 => (if (6 : Int32) < q1 then (some ((-1 : Int32), M)) else ((fX5_yardSet (M 1)).bind fun q2 => (if (x1 &&& (q2 ^^^ (-1 : Int32))) = 0 then ((fX2_isAsked x1 x2).bind fun q3 => (if q3 = 0 then (some ((-1 : Int32), M)) else ((fX5_become (M 1) (M 13)).bind fun q4 => ((fX5_clear q4).bind fun q5 => ((fX2_seek x1 (M 15) q5).bind fun q6 => ((fX2_answer x2 q6.1 q6.2).bind fun q7 => (some (q7, (dt_put (dt_put (dt_put (dt_put M 13 q4) 13 q5) 15 q6.1) 13 q6.2))))))))) else (some ((-1 : Int32), M)))))))
set_option maxRecDepth 10000 in
set_option maxHeartbeats 4000000 in
theorem m_X9_which {nb : Nat} (l : Launch)   (M : dt_M)  (x1 : Int32) (x2 : Int32) {res : Int32 × dt_M} (h : fX9_which x1 x2 M = some res) : dt_Met nb l yX9_which cX9_which 3 (some .int) 31 (fun G => [.ref (G.1 0 0), .int x1, .int x2]) M (some (.int res.1)) res.2 := by
  refine dz_enter (lv := fun G => [(0, .ref (G.1 0 0)), (1, .int x1), (2, .int x2)]) (by decide) (fun _ => rfl) (fun _ => Nat.le_of_ble_eq_true rfl) (fun G A p e s m args below meth c C hr => ?_)
  unfold fX9_which at h
  refine dz_iload_n (pc := 0) C dX9_which_0 rfl 1 rfl ?_
  refine dz_if_eq (pc := 1) (t := 30) C dX9_which_1 (by decide) h (fun h => ?_) (fun h => ?_)
  · refine dz_iconst (pc := 30) (v := (-1 : Int32)) C dX9_which_30 (by decide) ?_
    cases dt_some h
    exact dz_iret (pc := 31) C hr dX9_which_31
  · refine dz_iload_n (pc := 4) C dX9_which_4 rfl 1 rfl ?_
    obtain ⟨q1, eq1, h⟩ := dt_bind h
    refine dz_callSi (pc := 5) (st := []) (As := [.int x1]) (M' := M) C ms_J6_bitCount_0f7a4 ml_X9_246 (m_J6_bitCount_0f7a4 l _ _ eq1) rfl rfl (by omega) (by decide) (Nat.le_of_ble_eq_true rfl) dX9_which_5 ?_
    refine dz_bipush (pc := 8) (v := (6 : Int32)) C dX9_which_8 (by decide) ?_
    refine dz_icmp_gt (pc := 10) (t := 30) C dX9_which_10 (by decide) h (fun h => ?_) (fun h => ?_)
    · refine dz_iconst (pc := 30) (v := (-1 : Int32)) C dX9_which_30 (by decide) ?_
      cases dt_some h
      exact dz_iret (pc := 31) C hr dX9_which_31
    · refine dz_iload_n (pc := 13) C dX9_which_13 rfl 1 rfl ?_
      refine dz_aload_n (pc := 14) C dX9_which_14 rfl 0 rfl ?_
      refine dz_getO (pc := 15) (k := 0) (j := 0) (o := 16) C Fc_X9 hk_0 (by decide) rfl rfl rfl fl_X9_10 dX9_which_15 ?_
      refine dz_getO (pc := 18) (k := 16) (j := 0) (o := 1) C Fc_X8 hk_16 (by decide) rfl rfl rfl fl_X9_79 dX9_which_18 ?_
      obtain ⟨q2, eq2, h⟩ := dt_bind h
      refine dz_callVi (pc := 21) (st := [.int x1]) (k := 1) (As := []) (M' := M) C Fc_X5 hk_1 mf_X5_yardSet rfl ml_X9_251 (dt_c0 (m_X5_yardSet l hk_1 M (M 1) eq2)) rfl rfl (by omega) (by decide) (Nat.le_of_ble_eq_true rfl) dX9_which_21 ?_
      refine dz_iconst (pc := 24) (v := (-1 : Int32)) C dX9_which_24 (by decide) ?_
      refine dz_ixor (pc := 25) C dX9_which_25 ?_
      refine dz_iand (pc := 26) C dX9_which_26 ?_
      refine dz_if_eq (pc := 27) (t := 32) C dX9_which_27 (by decide) h (fun h => ?_) (fun h => ?_)
      · refine dz_iload_n (pc := 32) C dX9_which_32 rfl 1 rfl ?_
        refine dz_iload_n (pc := 33) C dX9_which_33 rfl 2 rfl ?_
        obtain ⟨q3, eq3, h⟩ := dt_bind h
        refine dz_callSi (pc := 34) (st := []) (As := [.int x1, .int x2]) (M' := M) C ms_X2_isAsked ml_X9_254 (m_X2_isAsked l _ _ _ eq3) rfl rfl (by omega) (by decide) (Nat.le_of_ble_eq_true rfl) dX9_which_34 ?_
        refine dz_if_ne (pc := 37) (t := 42) C dX9_which_37 (by decide) h (fun h => ?_) (fun h => ?_)
        · refine dz_aload_n (pc := 42) C dX9_which_42 rfl 0 rfl ?_
          refine dz_getO (pc := 43) (k := 0) (j := 9) (o := 13) C Fc_X9 hk_0 (by decide) rfl rfl rfl fl_X9_54 dX9_which_43 ?_
          refine dz_aload_n (pc := 46) C dX9_which_46 rfl 0 rfl ?_
          refine dz_getO (pc := 47) (k := 0) (j := 0) (o := 16) C Fc_X9 hk_0 (by decide) rfl rfl rfl fl_X9_10 dX9_which_47 ?_
          refine dz_getO (pc := 50) (k := 16) (j := 0) (o := 1) C Fc_X8 hk_16 (by decide) rfl rfl rfl fl_X9_79 dX9_which_50 ?_
          obtain ⟨q4, eq4, h⟩ := dt_bind h
          refine dz_callVv (pc := 53) (st := []) (k := 13) (As := [.ref (G.1 1 0)]) (M' := (dt_put M 13 q4)) C Fc_X5 hk_13 mf_X5_become rfl ml_X9_233 (dt_c1 (m_X5_become l hk_13 hk_1 (by decide) M (M 13) (M 1) rfl eq4)) rfl rfl (by omega) (by decide) (Nat.le_of_ble_eq_true rfl) dX9_which_53 ?_
          refine dz_aload_n (pc := 56) C dX9_which_56 rfl 0 rfl ?_
          refine dz_getO (pc := 57) (k := 0) (j := 9) (o := 13) C Fc_X9 hk_0 (by decide) rfl rfl rfl fl_X9_54 dX9_which_57 ?_
          obtain ⟨q5, eq5, h⟩ := dt_bind h
          refine dz_callVv (pc := 60) (st := []) (k := 13) (As := []) (M' := (dt_put (dt_put M 13 q4) 13 q5)) C Fc_X5 hk_13 mf_X5_clear rfl ml_X9_256 (dt_c1 (m_X5_clear l hk_13 (dt_put M 13 q4) q4 eq5)) rfl rfl (by omega) (by decide) (Nat.le_of_ble_eq_true rfl) dX9_which_60 ?_
          refine dz_aload_n (pc := 63) C dX9_which_63 rfl 0 rfl ?_
          refine dz_getO (pc := 64) (k := 0) (j := 11) (o := 15) C Fc_X9 hk_0 (by decide) rfl rfl rfl fl_X9_68 dX9_which_64 ?_
          refine dz_aload_n (pc := 67) C dX9_which_67 rfl 0 rfl ?_
          refine dz_getO (pc := 68) (k := 0) (j := 9) (o := 13) C Fc_X9 hk_0 (by decide) rfl rfl rfl fl_X9_54 dX9_which_68 ?_
          refine dz_iload_n (pc := 71) C dX9_which_71 rfl 1 rfl ?_
          obtain ⟨q6, eq6, h⟩ := dt_bind h
          refine dz_callVv (pc := 72) (st := []) (k := 15) (As := [.ref (G.1 13 0), .int x1]) (M' := (dt_put (dt_put (dt_put (dt_put M 13 q4) 13 q5) 15 q6.1) 13 q6.2)) C Fc_X2 hk_15 mf_X2_seek rfl ml_X9_259 (dt_c2 (m_X2_seek l (dt_put (dt_put M 13 q4) 13 q5) (M 15) q5 _ eq6)) rfl rfl (by omega) (by decide) (Nat.le_of_ble_eq_true rfl) dX9_which_72 ?_
          refine dz_aload_n (pc := 75) C dX9_which_75 rfl 0 rfl ?_
          refine dz_getO (pc := 76) (k := 0) (j := 11) (o := 15) C Fc_X9 hk_0 (by decide) rfl rfl rfl fl_X9_68 dX9_which_76 ?_
          refine dz_iload_n (pc := 79) C dX9_which_79 rfl 2 rfl ?_
          obtain ⟨q7, eq7, h⟩ := dt_bind h
          refine dz_callVi (pc := 80) (st := []) (k := 15) (As := [.int x2]) (M' := (dt_put (dt_put (dt_put (dt_put M 13 q4) 13 q5) 15 q6.1) 13 q6.2)) C Fc_X2 hk_15 mf_X2_answer rfl ml_X9_260 (dt_c20 (m_X2_answer l (dt_put (dt_put (dt_put (dt_put M 13 q4) 13 q5) 15 q6.1) 13 q6.2) q6.1 q6.2 _ eq7)) rfl rfl (by omega) (by decide) (Nat.le_of_ble_eq_true rfl) dX9_which_80 ?_
          cases dt_some h
          exact dz_iret (pc := 83) C hr dX9_which_83
        · refine dz_iconst (pc := 40) (v := (-1 : Int32)) C dX9_which_40 (by decide) ?_
          cases dt_some h
          exact dz_iret (pc := 41) C hr dX9_which_41
      · refine dz_iconst (pc := 30) (v := (-1 : Int32)) C dX9_which_30 (by decide) ?_
        cases dt_some h
        exact dz_iret (pc := 31) C hr dX9_which_31

def fX9_hand  (x1 : Int32) (M : dt_M) : Option (Int32 × dt_M) := ((fX0_add x1 (M 4)).bind fun q1 => (some (q1.1, (dt_put M 4 q1.2))))
set_option maxRecDepth 10000 in
set_option maxHeartbeats 4000000 in
theorem m_X9_hand {nb : Nat} (l : Launch)   (M : dt_M)  (x1 : Int32) {res : Int32 × dt_M} (h : fX9_hand x1 M = some res) : dt_Met nb l yX9_hand cX9_hand 2 (some .int) 2 (fun G => [.ref (G.1 0 0), .int x1]) M (some (.int res.1)) res.2 := by
  refine dz_enter (lv := fun G => [(0, .ref (G.1 0 0)), (1, .int x1)]) (by decide) (fun _ => rfl) (fun _ => Nat.le_of_ble_eq_true rfl) (fun G A p e s m args below meth c C hr => ?_)
  unfold fX9_hand at h
  refine dz_aload_n (pc := 0) C dX9_hand_0 rfl 0 rfl ?_
  refine dz_getO (pc := 1) (k := 0) (j := 0) (o := 16) C Fc_X9 hk_0 (by decide) rfl rfl rfl fl_X9_10 dX9_hand_1 ?_
  refine dz_getO (pc := 4) (k := 16) (j := 3) (o := 4) C Fc_X8 hk_16 (by decide) rfl rfl rfl fl_X9_170 dX9_hand_4 ?_
  refine dz_iload_n (pc := 7) C dX9_hand_7 rfl 1 rfl ?_
  obtain ⟨q1, eq1, h⟩ := dt_bind h
  refine dz_callVi (pc := 8) (st := []) (k := 4) (As := [.int x1]) (M' := (dt_put M 4 q1.2)) C Fc_X0 hk_4 mf_X0_add rfl ml_X9_261 (dt_c1 (m_X0_add l hk_4 M (M 4) _ eq1)) rfl rfl (by omega) (by decide) (Nat.le_of_ble_eq_true rfl) dX9_hand_8 ?_
  cases dt_some h
  exact dz_iret (pc := 11) C hr dX9_hand_11

def fX9_quarrel  (x1 : Int32) (x2 : Int32) (x3 : Int32) (M : dt_M) : Option (Int32 × dt_M) := ((fX0_setFoes x1 x2 x3 (M 4)).bind fun q1 => (if q1.1 = 0 ∨ q1.1 = 1 then (some (q1.1, (dt_put M 4 q1.2))) else none))
set_option maxRecDepth 10000 in
set_option maxHeartbeats 4000000 in
theorem m_X9_quarrel {nb : Nat} (l : Launch)   (M : dt_M)  (x1 : Int32) (x2 : Int32) (x3 : Int32) {res : Int32 × dt_M} (h : fX9_quarrel x1 x2 x3 M = some res) : dt_Met nb l yX9_quarrel cX9_quarrel 4 (some .boolean) 2 (fun G => [.ref (G.1 0 0), .int x1, .int x2, .int x3]) M (some (.int res.1)) res.2 := by
  refine dz_enter (lv := fun G => [(0, .ref (G.1 0 0)), (1, .int x1), (2, .int x2), (3, .int x3)]) (by decide) (fun _ => rfl) (fun _ => Nat.le_of_ble_eq_true rfl) (fun G A p e s m args below meth c C hr => ?_)
  unfold fX9_quarrel at h
  refine dz_aload_n (pc := 0) C dX9_quarrel_0 rfl 0 rfl ?_
  refine dz_getO (pc := 1) (k := 0) (j := 0) (o := 16) C Fc_X9 hk_0 (by decide) rfl rfl rfl fl_X9_10 dX9_quarrel_1 ?_
  refine dz_getO (pc := 4) (k := 16) (j := 3) (o := 4) C Fc_X8 hk_16 (by decide) rfl rfl rfl fl_X9_170 dX9_quarrel_4 ?_
  refine dz_iload_n (pc := 7) C dX9_quarrel_7 rfl 1 rfl ?_
  refine dz_iload_n (pc := 8) C dX9_quarrel_8 rfl 2 rfl ?_
  refine dz_iload_n (pc := 9) C dX9_quarrel_9 rfl 3 rfl ?_
  obtain ⟨q1, eq1, h⟩ := dt_bind h
  refine dz_callVi (pc := 10) (st := []) (k := 4) (As := [.int x1, .int x2, .int x3]) (M' := (dt_put M 4 q1.2)) C Fc_X0 hk_4 mf_X0_setFoes rfl ml_X9_263 (dt_c1 (m_X0_setFoes l hk_4 M (M 4) _ _ _ eq1)) rfl rfl (by omega) (by decide) (Nat.le_of_ble_eq_true rfl) dX9_quarrel_10 ?_
  obtain ⟨hz2, h⟩ := dt_ifn h
  cases dt_some h
  exact dz_zret (pc := 13) C hr hz2 dX9_quarrel_13

def fX9_wind  (x1 : Int32) (x2 : Int32) (x3 : Int32) (M : dt_M) : Option (Int32 × dt_M) := ((fX4_setChance x1 x2 x3 (M 5)).bind fun q1 => (if q1.1 = 0 ∨ q1.1 = 1 then (some (q1.1, (dt_put M 5 q1.2))) else none))
set_option maxRecDepth 10000 in
set_option maxHeartbeats 4000000 in
theorem m_X9_wind {nb : Nat} (l : Launch)   (M : dt_M)  (x1 : Int32) (x2 : Int32) (x3 : Int32) {res : Int32 × dt_M} (h : fX9_wind x1 x2 x3 M = some res) : dt_Met nb l yX9_wind cX9_wind 4 (some .boolean) 2 (fun G => [.ref (G.1 0 0), .int x1, .int x2, .int x3]) M (some (.int res.1)) res.2 := by
  refine dz_enter (lv := fun G => [(0, .ref (G.1 0 0)), (1, .int x1), (2, .int x2), (3, .int x3)]) (by decide) (fun _ => rfl) (fun _ => Nat.le_of_ble_eq_true rfl) (fun G A p e s m args below meth c C hr => ?_)
  unfold fX9_wind at h
  refine dz_aload_n (pc := 0) C dX9_wind_0 rfl 0 rfl ?_
  refine dz_getO (pc := 1) (k := 0) (j := 0) (o := 16) C Fc_X9 hk_0 (by decide) rfl rfl rfl fl_X9_10 dX9_wind_1 ?_
  refine dz_getO (pc := 4) (k := 16) (j := 4) (o := 5) C Fc_X8 hk_16 (by decide) rfl rfl rfl fl_X9_267 dX9_wind_4 ?_
  refine dz_iload_n (pc := 7) C dX9_wind_7 rfl 1 rfl ?_
  refine dz_iload_n (pc := 8) C dX9_wind_8 rfl 2 rfl ?_
  refine dz_iload_n (pc := 9) C dX9_wind_9 rfl 3 rfl ?_
  obtain ⟨q1, eq1, h⟩ := dt_bind h
  refine dz_callVi (pc := 10) (st := []) (k := 5) (As := [.int x1, .int x2, .int x3]) (M' := (dt_put M 5 q1.2)) C Fc_X4 hk_5 mf_X4_setChance rfl ml_X9_271 (dt_c1 (m_X4_setChance l hk_5 M (M 5) _ _ _ eq1)) rfl rfl (by omega) (by decide) (Nat.le_of_ble_eq_true rfl) dX9_wind_10 ?_
  obtain ⟨hz2, h⟩ := dt_ifn h
  cases dt_some h
  exact dz_zret (pc := 13) C hr hz2 dX9_wind_13

def fX9_pay  (x1 : Int32) (x2 : Int32) (M : dt_M) : Option (Int32 × dt_M) := ((fX4_setReward x1 x2 (M 5)).bind fun q1 => (if q1.1 = 0 ∨ q1.1 = 1 then (some (q1.1, (dt_put M 5 q1.2))) else none))
set_option maxRecDepth 10000 in
set_option maxHeartbeats 4000000 in
theorem m_X9_pay {nb : Nat} (l : Launch)   (M : dt_M)  (x1 : Int32) (x2 : Int32) {res : Int32 × dt_M} (h : fX9_pay x1 x2 M = some res) : dt_Met nb l yX9_pay cX9_pay 3 (some .boolean) 2 (fun G => [.ref (G.1 0 0), .int x1, .int x2]) M (some (.int res.1)) res.2 := by
  refine dz_enter (lv := fun G => [(0, .ref (G.1 0 0)), (1, .int x1), (2, .int x2)]) (by decide) (fun _ => rfl) (fun _ => Nat.le_of_ble_eq_true rfl) (fun G A p e s m args below meth c C hr => ?_)
  unfold fX9_pay at h
  refine dz_aload_n (pc := 0) C dX9_pay_0 rfl 0 rfl ?_
  refine dz_getO (pc := 1) (k := 0) (j := 0) (o := 16) C Fc_X9 hk_0 (by decide) rfl rfl rfl fl_X9_10 dX9_pay_1 ?_
  refine dz_getO (pc := 4) (k := 16) (j := 4) (o := 5) C Fc_X8 hk_16 (by decide) rfl rfl rfl fl_X9_267 dX9_pay_4 ?_
  refine dz_iload_n (pc := 7) C dX9_pay_7 rfl 1 rfl ?_
  refine dz_iload_n (pc := 8) C dX9_pay_8 rfl 2 rfl ?_
  obtain ⟨q1, eq1, h⟩ := dt_bind h
  refine dz_callVi (pc := 9) (st := []) (k := 5) (As := [.int x1, .int x2]) (M' := (dt_put M 5 q1.2)) C Fc_X4 hk_5 mf_X4_setReward rfl ml_X9_277 (dt_c1 (m_X4_setReward l hk_5 M (M 5) _ _ eq1)) rfl rfl (by omega) (by decide) (Nat.le_of_ble_eq_true rfl) dX9_pay_9 ?_
  obtain ⟨hz2, h⟩ := dt_ifn h
  cases dt_some h
  exact dz_zret (pc := 12) C hr hz2 dX9_pay_12

def fX9_worth_53  (M : dt_M) : Option (Int64 × dt_M) := (some ((-1 : Int64), M))
set_option maxRecDepth 10000 in
set_option maxHeartbeats 4000000 in
theorem tX9_worth_53 {nb : Nat} {G : dt_G} {A : Nat → Prop} {p : Program} {l : Launch} {e : Env} {s : State} {m : MethodId} {args : Array Value} {below : List Frame} {meth : Method} {c : Code} (C : dt_Cx nb G A p s m args meth c cX9_worth 6 RX9) (hr : meth.sig.returnType = (some .long)) {res : Int64 × dt_M}  : ∀ (M : dt_M), fX9_worth_53 M = some res → dt_At G A p l e (dt_rm 4) s m args below meth c 6 (MQ below (dt_Post G A (some (.long res.1)) res.2) args s 0 0 A) 53 [] [] M := by
  intro M h
  unfold fX9_worth_53 at h
  refine dz_ldc2 (pc := 53) C cl_X9_280 dX9_worth_53 ?_
  cases dt_some h
  exact dz_lret (pc := 56) C hr dX9_worth_56
def fX9_worth_78  (s1 : Int32) (s2 : Int32) (s3 : Int32) (s4 : Int32) (M : dt_M) : Option (Int64 × dt_M) := ((fX4_best s1 s2 s3 s4 (M 5)).bind fun q1 => (some (q1.1, (dt_put M 5 q1.2))))
set_option maxRecDepth 10000 in
set_option maxHeartbeats 4000000 in
theorem tX9_worth_78 {nb : Nat} {G : dt_G} {A : Nat → Prop} {p : Program} {l : Launch} {e : Env} {s : State} {m : MethodId} {args : Array Value} {below : List Frame} {meth : Method} {c : Code} (C : dt_Cx nb G A p s m args meth c cX9_worth 6 RX9) (hr : meth.sig.returnType = (some .long)) {res : Int64 × dt_M}  : ∀ (s1 : Int32) (s2 : Int32) (s3 : Int32) (s4 : Int32) (M : dt_M), fX9_worth_78 s1 s2 s3 s4 M = some res → dt_At G A p l e (dt_rm 4) s m args below meth c 6 (MQ below (dt_Post G A (some (.long res.1)) res.2) args s 0 0 A) 78 [] [.int s4, .int s3, .int s2, .int s1, .ref (G.1 5 0)] M := by
  intro s1 s2 s3 s4 M h
  unfold fX9_worth_78 at h
  obtain ⟨q1, eq1, h⟩ := dt_bind h
  refine dz_callVl (pc := 78) (st := []) (k := 5) (As := [.int s1, .int s2, .int s3, .int s4]) (M' := (dt_put M 5 q1.2)) C Fc_X4 hk_5 mf_X4_best rfl ml_X9_282 (dt_c1 (m_X4_best l hk_5 M (M 5) _ _ _ _ eq1)) rfl rfl (by omega) (by decide) (Nat.le_of_ble_eq_true rfl) dX9_worth_78 ?_
  cases dt_some h
  exact dz_lret (pc := 81) C hr dX9_worth_81
def fX9_worth_25  (x1 : Int32) (x2 : Int32) (x3 : Int32) (x4 : Int32) (s0 : Int32) (M : dt_M) : Option (Int64 × dt_M) := (if s0 = 0 then (fX9_worth_53 M) else (if x3 < 0 then (fX9_worth_53 M) else (if (8 : Int32) < x3 then (fX9_worth_53 M) else (if x4 < 0 then (fX9_worth_53 M) else (if x4 ≤ (1 : Int32) then (if x4 = (1 : Int32) then (fX9_worth_78 x1 x2 x3 (1 : Int32) M) else (fX9_worth_78 x1 x2 x3 (0 : Int32) M)) else (fX9_worth_53 M))))))
set_option maxRecDepth 10000 in
set_option maxHeartbeats 4000000 in
theorem tX9_worth_25 {nb : Nat} {G : dt_G} {A : Nat → Prop} {p : Program} {l : Launch} {e : Env} {s : State} {m : MethodId} {args : Array Value} {below : List Frame} {meth : Method} {c : Code} (C : dt_Cx nb G A p s m args meth c cX9_worth 6 RX9) (hr : meth.sig.returnType = (some .long)) {res : Int64 × dt_M}  : ∀ (x1 : Int32) (x2 : Int32) (x3 : Int32) (x4 : Int32) (s0 : Int32) (M : dt_M), fX9_worth_25 x1 x2 x3 x4 s0 M = some res → dt_At G A p l e (dt_rm 4) s m args below meth c 6 (MQ below (dt_Post G A (some (.long res.1)) res.2) args s 0 0 A) 25 [(0, .ref (G.1 0 0)), (1, .int x1), (2, .int x2), (3, .int x3), (4, .int x4)] [.int s0] M := by
  intro x1 x2 x3 x4 s0 M h
  unfold fX9_worth_25 at h
  refine dz_istore (pc := 25) C dX9_worth_25 (by decide) rfl ?_
  refine dz_iload (pc := 27) C dX9_worth_27 0 rfl ?_
  refine dz_if_eq (pc := 29) (t := 53) C dX9_worth_29 (by decide) h (fun h => ?_) (fun h => ?_)
  · refine dz_sub [] rfl ?_
    exact tX9_worth_53 C hr  M h
  · refine dz_iload_n (pc := 32) C dX9_worth_32 rfl 4 rfl ?_
    refine dz_if_lt (pc := 33) (t := 53) C dX9_worth_33 (by decide) h (fun h => ?_) (fun h => ?_)
    · refine dz_sub [] rfl ?_
      exact tX9_worth_53 C hr  M h
    · refine dz_iload_n (pc := 36) C dX9_worth_36 rfl 4 rfl ?_
      refine dz_bipush (pc := 37) (v := (8 : Int32)) C dX9_worth_37 (by decide) ?_
      refine dz_icmp_gt (pc := 39) (t := 53) C dX9_worth_39 (by decide) h (fun h => ?_) (fun h => ?_)
      · refine dz_sub [] rfl ?_
        exact tX9_worth_53 C hr  M h
      · refine dz_iload (pc := 42) C dX9_worth_42 5 rfl ?_
        refine dz_if_lt (pc := 44) (t := 53) C dX9_worth_44 (by decide) h (fun h => ?_) (fun h => ?_)
        · refine dz_sub [] rfl ?_
          exact tX9_worth_53 C hr  M h
        · refine dz_iload (pc := 47) C dX9_worth_47 5 rfl ?_
          refine dz_iconst (pc := 49) (v := (1 : Int32)) C dX9_worth_49 (by decide) ?_
          refine dz_icmp_le (pc := 50) (t := 57) C dX9_worth_50 (by decide) h (fun h => ?_) (fun h => ?_)
          · refine dz_aload_n (pc := 57) C dX9_worth_57 rfl 1 rfl ?_
            refine dz_getO (pc := 58) (k := 0) (j := 0) (o := 16) C Fc_X9 hk_0 (by decide) rfl rfl rfl fl_X9_10 dX9_worth_58 ?_
            refine dz_getO (pc := 61) (k := 16) (j := 4) (o := 5) C Fc_X8 hk_16 (by decide) rfl rfl rfl fl_X9_267 dX9_worth_61 ?_
            refine dz_iload_n (pc := 64) C dX9_worth_64 rfl 2 rfl ?_
            refine dz_iload_n (pc := 65) C dX9_worth_65 rfl 3 rfl ?_
            refine dz_iload_n (pc := 66) C dX9_worth_66 rfl 4 rfl ?_
            refine dz_iload (pc := 67) C dX9_worth_67 5 rfl ?_
            refine dz_iconst (pc := 69) (v := (1 : Int32)) C dX9_worth_69 (by decide) ?_
            refine dz_icmp_ne (pc := 70) (t := 77) C dX9_worth_70 (by decide) h (fun h => ?_) (fun h => ?_)
            · refine dz_iconst (pc := 77) (v := (0 : Int32)) C dX9_worth_77 (by decide) ?_
              refine dz_sub [] rfl ?_
              exact tX9_worth_78 C hr  x1 x2 x3 (0 : Int32) M h
            · refine dz_iconst (pc := 73) (v := (1 : Int32)) C dX9_worth_73 (by decide) ?_
              refine dz_goto (pc := 74) (t := 78) C dX9_worth_74 (by decide) ?_
              refine dz_sub [] rfl ?_
              exact tX9_worth_78 C hr  x1 x2 x3 (1 : Int32) M h
          · refine dz_sub [] rfl ?_
            exact tX9_worth_53 C hr  M h
def fX9_worth_24  (x1 : Int32) (x2 : Int32) (x3 : Int32) (x4 : Int32) (M : dt_M) : Option (Int64 × dt_M) := (fX9_worth_25 x1 x2 x3 x4 (0 : Int32) M)
set_option maxRecDepth 10000 in
set_option maxHeartbeats 4000000 in
theorem tX9_worth_24 {nb : Nat} {G : dt_G} {A : Nat → Prop} {p : Program} {l : Launch} {e : Env} {s : State} {m : MethodId} {args : Array Value} {below : List Frame} {meth : Method} {c : Code} (C : dt_Cx nb G A p s m args meth c cX9_worth 6 RX9) (hr : meth.sig.returnType = (some .long)) {res : Int64 × dt_M}  : ∀ (x1 : Int32) (x2 : Int32) (x3 : Int32) (x4 : Int32) (M : dt_M), fX9_worth_24 x1 x2 x3 x4 M = some res → dt_At G A p l e (dt_rm 4) s m args below meth c 6 (MQ below (dt_Post G A (some (.long res.1)) res.2) args s 0 0 A) 24 [(0, .ref (G.1 0 0)), (1, .int x1), (2, .int x2), (3, .int x3), (4, .int x4)] [] M := by
  intro x1 x2 x3 x4 M h
  unfold fX9_worth_24 at h
  refine dz_iconst (pc := 24) (v := (0 : Int32)) C dX9_worth_24 (by decide) ?_
  exact tX9_worth_25 C hr  x1 x2 x3 x4 (0 : Int32) M h
def fX9_worth  (x1 : Int32) (x2 : Int32) (x3 : Int32) (x4 : Int32) (M : dt_M) : Option (Int64 × dt_M) := (if x1 < (1 : Int32) then (fX9_worth_24 x1 x2 x3 x4 M) else (if (8 : Int32) < x1 then (fX9_worth_24 x1 x2 x3 x4 M) else (if x2 < 0 then (fX9_worth_24 x1 x2 x3 x4 M) else (if x1 < x2 then (fX9_worth_24 x1 x2 x3 x4 M) else (fX9_worth_25 x1 x2 x3 x4 (1 : Int32) M)))))
set_option maxRecDepth 10000 in
set_option maxHeartbeats 4000000 in
theorem m_X9_worth {nb : Nat} (l : Launch)   (M : dt_M)  (x1 : Int32) (x2 : Int32) (x3 : Int32) (x4 : Int32) {res : Int64 × dt_M} (h : fX9_worth x1 x2 x3 x4 M = some res) : dt_Met nb l yX9_worth cX9_worth 6 (some .long) 4 (fun G => [.ref (G.1 0 0), .int x1, .int x2, .int x3, .int x4]) M (some (.long res.1)) res.2 := by
  refine dz_enter (lv := fun G => [(0, .ref (G.1 0 0)), (1, .int x1), (2, .int x2), (3, .int x3), (4, .int x4)]) (by decide) (fun _ => rfl) (fun _ => Nat.le_of_ble_eq_true rfl) (fun G A p e s m args below meth c C hr => ?_)
  unfold fX9_worth at h
  refine dz_iload_n (pc := 0) C dX9_worth_0 rfl 1 rfl ?_
  refine dz_iconst (pc := 1) (v := (1 : Int32)) C dX9_worth_1 (by decide) ?_
  refine dz_icmp_lt (pc := 2) (t := 24) C dX9_worth_2 (by decide) h (fun h => ?_) (fun h => ?_)
  · exact tX9_worth_24 C hr  x1 x2 x3 x4 M h
  · refine dz_iload_n (pc := 5) C dX9_worth_5 rfl 1 rfl ?_
    refine dz_bipush (pc := 6) (v := (8 : Int32)) C dX9_worth_6 (by decide) ?_
    refine dz_icmp_gt (pc := 8) (t := 24) C dX9_worth_8 (by decide) h (fun h => ?_) (fun h => ?_)
    · exact tX9_worth_24 C hr  x1 x2 x3 x4 M h
    · refine dz_iload_n (pc := 11) C dX9_worth_11 rfl 2 rfl ?_
      refine dz_if_lt (pc := 12) (t := 24) C dX9_worth_12 (by decide) h (fun h => ?_) (fun h => ?_)
      · exact tX9_worth_24 C hr  x1 x2 x3 x4 M h
      · refine dz_iload_n (pc := 15) C dX9_worth_15 rfl 2 rfl ?_
        refine dz_iload_n (pc := 16) C dX9_worth_16 rfl 1 rfl ?_
        refine dz_icmp_gt (pc := 17) (t := 24) C dX9_worth_17 (by decide) h (fun h => ?_) (fun h => ?_)
        · exact tX9_worth_24 C hr  x1 x2 x3 x4 M h
        · refine dz_iconst (pc := 20) (v := (1 : Int32)) C dX9_worth_20 (by decide) ?_
          refine dz_goto (pc := 21) (t := 25) C dX9_worth_21 (by decide) ?_
          exact tX9_worth_25 C hr  x1 x2 x3 x4 (1 : Int32) M h

def fX9_bet_21  (M : dt_M) : Option (Int64) := (some (-1 : Int64))
set_option maxRecDepth 10000 in
set_option maxHeartbeats 4000000 in
theorem tX9_bet_21 {nb : Nat} {G : dt_G} {A : Nat → Prop} {p : Program} {l : Launch} {e : Env} {s : State} {m : MethodId} {args : Array Value} {below : List Frame} {meth : Method} {c : Code} (C : dt_Cx nb G A p s m args meth c cX9_bet 3 RX9) (hr : meth.sig.returnType = (some .long)) {res : Int64}  : ∀ (M : dt_M), fX9_bet_21 M = some res → dt_At G A p l e (dt_rm 3) s m args below meth c 3 (MQ below (dt_Post G A (some (.long res)) M) args s 0 0 A) 21 [] [] M := by
  intro M h
  unfold fX9_bet_21 at h
  refine dz_ldc2 (pc := 21) C cl_X9_280 dX9_bet_21 ?_
  cases dt_some h
  exact dz_lret (pc := 24) C hr dX9_bet_24
def fX9_bet  (x1 : Int32) (x2 : Int32) (M : dt_M) : Option (Int64) := (if x1 < (1 : Int32) then (fX9_bet_21 M) else (if (8 : Int32) < x1 then (fX9_bet_21 M) else (if x2 < 0 then (fX9_bet_21 M) else (if x2 ≤ (8 : Int32) then ((fX4_odds x1 x2 (M 5)).bind fun q1 => (some q1)) else (fX9_bet_21 M)))))
set_option maxRecDepth 10000 in
set_option maxHeartbeats 4000000 in
theorem m_X9_bet {nb : Nat} (l : Launch)   (M : dt_M)  (x1 : Int32) (x2 : Int32) {res : Int64} (h : fX9_bet x1 x2 M = some res) : dt_Met nb l yX9_bet cX9_bet 3 (some .long) 3 (fun G => [.ref (G.1 0 0), .int x1, .int x2]) M (some (.long res)) M := by
  refine dz_enter (lv := fun G => [(0, .ref (G.1 0 0)), (1, .int x1), (2, .int x2)]) (by decide) (fun _ => rfl) (fun _ => Nat.le_of_ble_eq_true rfl) (fun G A p e s m args below meth c C hr => ?_)
  unfold fX9_bet at h
  refine dz_iload_n (pc := 0) C dX9_bet_0 rfl 1 rfl ?_
  refine dz_iconst (pc := 1) (v := (1 : Int32)) C dX9_bet_1 (by decide) ?_
  refine dz_icmp_lt (pc := 2) (t := 21) C dX9_bet_2 (by decide) h (fun h => ?_) (fun h => ?_)
  · refine dz_sub [] rfl ?_
    exact tX9_bet_21 C hr  M h
  · refine dz_iload_n (pc := 5) C dX9_bet_5 rfl 1 rfl ?_
    refine dz_bipush (pc := 6) (v := (8 : Int32)) C dX9_bet_6 (by decide) ?_
    refine dz_icmp_gt (pc := 8) (t := 21) C dX9_bet_8 (by decide) h (fun h => ?_) (fun h => ?_)
    · refine dz_sub [] rfl ?_
      exact tX9_bet_21 C hr  M h
    · refine dz_iload_n (pc := 11) C dX9_bet_11 rfl 2 rfl ?_
      refine dz_if_lt (pc := 12) (t := 21) C dX9_bet_12 (by decide) h (fun h => ?_) (fun h => ?_)
      · refine dz_sub [] rfl ?_
        exact tX9_bet_21 C hr  M h
      · refine dz_iload_n (pc := 15) C dX9_bet_15 rfl 2 rfl ?_
        refine dz_bipush (pc := 16) (v := (8 : Int32)) C dX9_bet_16 (by decide) ?_
        refine dz_icmp_le (pc := 18) (t := 25) C dX9_bet_18 (by decide) h (fun h => ?_) (fun h => ?_)
        · refine dz_aload_n (pc := 25) C dX9_bet_25 rfl 0 rfl ?_
          refine dz_getO (pc := 26) (k := 0) (j := 0) (o := 16) C Fc_X9 hk_0 (by decide) rfl rfl rfl fl_X9_10 dX9_bet_26 ?_
          refine dz_getO (pc := 29) (k := 16) (j := 4) (o := 5) C Fc_X8 hk_16 (by decide) rfl rfl rfl fl_X9_267 dX9_bet_29 ?_
          refine dz_iload_n (pc := 32) C dX9_bet_32 rfl 1 rfl ?_
          refine dz_iload_n (pc := 33) C dX9_bet_33 rfl 2 rfl ?_
          obtain ⟨q1, eq1, h⟩ := dt_bind h
          refine dz_callVl (pc := 34) (st := []) (k := 5) (As := [.int x1, .int x2]) (M' := M) C Fc_X4 hk_5 mf_X4_odds rfl ml_X9_286 (dt_c0 (m_X4_odds l hk_5 M (M 5) _ _ eq1)) rfl rfl (by omega) (by decide) (Nat.le_of_ble_eq_true rfl) dX9_bet_34 ?_
          cases dt_some h
          exact dz_lret (pc := 37) C hr dX9_bet_37
        · refine dz_sub [] rfl ?_
          exact tX9_bet_21 C hr  M h

def fX9_undo_81  (x1 : Int32) (M : dt_M) : Option (Int32 × dt_M) := ((dt_ix x1 12).bind fun a8 => ((fX1_uncarry (((M 11) 3) a8) (M 2)).bind fun q9 => ((fX6_dropNewest (M 11)).bind fun q10 => (some ((1 : Int32), (dt_put (dt_put M 2 q9) 11 q10))))))
set_option maxRecDepth 10000 in
set_option maxHeartbeats 4000000 in
theorem tX9_undo_81 {nb : Nat} {G : dt_G} {A : Nat → Prop} {p : Program} {l : Launch} {e : Env} {s : State} {m : MethodId} {args : Array Value} {below : List Frame} {meth : Method} {c : Code} (C : dt_Cx nb G A p s m args meth c cX9_undo 3 RX9) (hr : meth.sig.returnType = (some .boolean)) {res : Int32 × dt_M}  : ∀ (x1 : Int32) (M : dt_M), fX9_undo_81 x1 M = some res → dt_At G A p l e (dt_rm 4) s m args below meth c 3 (MQ below (dt_Post G A (some (.int res.1)) res.2) args s 0 0 A) 81 [(0, .ref (G.1 0 0)), (1, .int x1)] [] M := by
  intro x1 M h
  unfold fX9_undo_81 at h
  refine dz_aload_n (pc := 81) C dX9_undo_81 rfl 0 rfl ?_
  refine dz_getO (pc := 82) (k := 0) (j := 0) (o := 16) C Fc_X9 hk_0 (by decide) rfl rfl rfl fl_X9_10 dX9_undo_82 ?_
  refine dz_getO (pc := 85) (k := 16) (j := 1) (o := 2) C Fc_X8 hk_16 (by decide) rfl rfl rfl fl_X9_123 dX9_undo_85 ?_
  refine dz_aload_n (pc := 88) C dX9_undo_88 rfl 0 rfl ?_
  refine dz_getO (pc := 89) (k := 0) (j := 3) (o := 11) C Fc_X9 hk_0 (by decide) rfl rfl rfl fl_X9_26 dX9_undo_89 ?_
  refine dz_getR (pc := 92) (k := 11) (j := 3) C Fc_X6 hk_11 (by decide) (by decide) rfl fl_X9_301 dX9_undo_92 ?_
  refine dz_iload_n (pc := 95) C dX9_undo_95 rfl 1 rfl ?_
  refine dz_iald (pc := 96) (k := 11) (j := 3) (n := 12) (f := ((M 11) 3)) C hk_11 (by decide) rfl rfl dX9_undo_96 h (fun a8 h => ?_)
  obtain ⟨q9, eq9, h⟩ := dt_bind h
  refine dz_callVv (pc := 97) (st := []) (k := 2) (As := [.int (((M 11) 3) a8)]) (M' := (dt_put M 2 q9)) C Fc_X1 hk_2 mf_X1_uncarry rfl ml_X9_304 (dt_c1 (m_X1_uncarry l hk_2 M (M 2) _ eq9)) rfl rfl (by omega) (by decide) (Nat.le_of_ble_eq_true rfl) dX9_undo_97 ?_
  refine dz_aload_n (pc := 100) C dX9_undo_100 rfl 0 rfl ?_
  refine dz_getO (pc := 101) (k := 0) (j := 3) (o := 11) C Fc_X9 hk_0 (by decide) rfl rfl rfl fl_X9_26 dX9_undo_101 ?_
  obtain ⟨q10, eq10, h⟩ := dt_bind h
  refine dz_callVv (pc := 104) (st := []) (k := 11) (As := []) (M' := (dt_put (dt_put M 2 q9) 11 q10)) C Fc_X6 hk_11 mf_X6_dropNewest rfl ml_X9_307 (dt_c1 (m_X6_dropNewest l hk_11 (dt_put M 2 q9) (M 11) eq10)) rfl rfl (by omega) (by decide) (Nat.le_of_ble_eq_true rfl) dX9_undo_104 ?_
  refine dz_iconst (pc := 107) (v := (1 : Int32)) C dX9_undo_107 (by decide) ?_
  cases dt_some h
  exact dz_zret (pc := 108) C hr (Or.inr rfl) dX9_undo_108
def fX9_undo  (M : dt_M) : Option (Int32 × dt_M) := ((fX6_newest (M 11)).bind fun q1 => (if q1 = (-1 : Int32) then (some ((0 : Int32), M)) else ((dt_ix q1 12).bind fun a2 => ((dt_ix q1 12).bind fun a3 => (if (((M 11) 1) a3) = (-1 : Int32) then ((dt_ix q1 12).bind fun a6 => ((fX5_drop (((M 11) 0) a2) (((M 11) 2) a6) (M 1)).bind fun q7 => (fX9_undo_81 q1 (dt_put M 1 q7)))) else ((dt_ix q1 12).bind fun a4 => ((fX5_lift (((M 11) 0) a2) (((M 11) 1) a4) (M 1)).bind fun q5 => (fX9_undo_81 q1 (dt_put M 1 q5)))))))))
set_option maxRecDepth 10000 in
set_option maxHeartbeats 4000000 in
theorem m_X9_undo {nb : Nat} (l : Launch)   (M : dt_M)   {res : Int32 × dt_M} (h : fX9_undo M = some res) : dt_Met nb l yX9_undo cX9_undo 3 (some .boolean) 4 (fun G => [.ref (G.1 0 0)]) M (some (.int res.1)) res.2 := by
  refine dz_enter (lv := fun G => [(0, .ref (G.1 0 0))]) (by decide) (fun _ => rfl) (fun _ => Nat.le_of_ble_eq_true rfl) (fun G A p e s m args below meth c C hr => ?_)
  unfold fX9_undo at h
  refine dz_aload_n (pc := 0) C dX9_undo_0 rfl 0 rfl ?_
  refine dz_getO (pc := 1) (k := 0) (j := 3) (o := 11) C Fc_X9 hk_0 (by decide) rfl rfl rfl fl_X9_26 dX9_undo_1 ?_
  obtain ⟨q1, eq1, h⟩ := dt_bind h
  refine dz_callVi (pc := 4) (st := []) (k := 11) (As := []) (M' := M) C Fc_X6 hk_11 mf_X6_newest rfl ml_X9_290 (dt_c0 (m_X6_newest l hk_11 M (M 11) eq1)) rfl rfl (by omega) (by decide) (Nat.le_of_ble_eq_true rfl) dX9_undo_4 ?_
  refine dz_istore_n (pc := 7) C dX9_undo_7 rfl (by decide) rfl ?_
  refine dz_iload_n (pc := 8) C dX9_undo_8 rfl 0 rfl ?_
  refine dz_iconst (pc := 9) (v := (-1 : Int32)) C dX9_undo_9 (by decide) ?_
  refine dz_icmp_ne (pc := 10) (t := 15) C dX9_undo_10 (by decide) h (fun h => ?_) (fun h => ?_)
  · refine dz_aload_n (pc := 15) C dX9_undo_15 rfl 1 rfl ?_
    refine dz_getO (pc := 16) (k := 0) (j := 3) (o := 11) C Fc_X9 hk_0 (by decide) rfl rfl rfl fl_X9_26 dX9_undo_16 ?_
    refine dz_getR (pc := 19) (k := 11) (j := 0) C Fc_X6 hk_11 (by decide) (by decide) rfl fl_X9_293 dX9_undo_19 ?_
    refine dz_iload_n (pc := 22) C dX9_undo_22 rfl 0 rfl ?_
    refine dz_iald (pc := 23) (k := 11) (j := 0) (n := 12) (f := ((M 11) 0)) C hk_11 (by decide) rfl rfl dX9_undo_23 h (fun a2 h => ?_)
    refine dz_istore_n (pc := 24) C dX9_undo_24 rfl (by decide) rfl ?_
    refine dz_aload_n (pc := 25) C dX9_undo_25 rfl 2 rfl ?_
    refine dz_getO (pc := 26) (k := 0) (j := 3) (o := 11) C Fc_X9 hk_0 (by decide) rfl rfl rfl fl_X9_26 dX9_undo_26 ?_
    refine dz_getR (pc := 29) (k := 11) (j := 1) C Fc_X6 hk_11 (by decide) (by decide) rfl fl_X9_296 dX9_undo_29 ?_
    refine dz_iload_n (pc := 32) C dX9_undo_32 rfl 1 rfl ?_
    refine dz_iald (pc := 33) (k := 11) (j := 1) (n := 12) (f := ((M 11) 1)) C hk_11 (by decide) rfl rfl dX9_undo_33 h (fun a3 h => ?_)
    refine dz_iconst (pc := 34) (v := (-1 : Int32)) C dX9_undo_34 (by decide) ?_
    refine dz_icmp_ne (pc := 35) (t := 61) C dX9_undo_35 (by decide) h (fun h => ?_) (fun h => ?_)
    · refine dz_aload_n (pc := 61) C dX9_undo_61 rfl 2 rfl ?_
      refine dz_getO (pc := 62) (k := 0) (j := 0) (o := 16) C Fc_X9 hk_0 (by decide) rfl rfl rfl fl_X9_10 dX9_undo_62 ?_
      refine dz_getO (pc := 65) (k := 16) (j := 0) (o := 1) C Fc_X8 hk_16 (by decide) rfl rfl rfl fl_X9_79 dX9_undo_65 ?_
      refine dz_iload_n (pc := 68) C dX9_undo_68 rfl 0 rfl ?_
      refine dz_aload_n (pc := 69) C dX9_undo_69 rfl 2 rfl ?_
      refine dz_getO (pc := 70) (k := 0) (j := 3) (o := 11) C Fc_X9 hk_0 (by decide) rfl rfl rfl fl_X9_26 dX9_undo_70 ?_
      refine dz_getR (pc := 73) (k := 11) (j := 1) C Fc_X6 hk_11 (by decide) (by decide) rfl fl_X9_296 dX9_undo_73 ?_
      refine dz_iload_n (pc := 76) C dX9_undo_76 rfl 1 rfl ?_
      refine dz_iald (pc := 77) (k := 11) (j := 1) (n := 12) (f := ((M 11) 1)) C hk_11 (by decide) rfl rfl dX9_undo_77 h (fun a4 h => ?_)
      obtain ⟨q5, eq5, h⟩ := dt_bind h
      refine dz_callVv (pc := 78) (st := []) (k := 1) (As := [.int (((M 11) 0) a2), .int (((M 11) 1) a4)]) (M' := (dt_put M 1 q5)) C Fc_X5 hk_1 mf_X5_lift rfl ml_X9_145 (dt_c1 (m_X5_lift l hk_1 M (M 1) _ _ eq5)) rfl rfl (by omega) (by decide) (Nat.le_of_ble_eq_true rfl) dX9_undo_78 ?_
      refine dz_sub [2, 1] rfl ?_
      exact tX9_undo_81 C hr  q1 (dt_put M 1 q5) h
    · refine dz_aload_n (pc := 38) C dX9_undo_38 rfl 2 rfl ?_
      refine dz_getO (pc := 39) (k := 0) (j := 0) (o := 16) C Fc_X9 hk_0 (by decide) rfl rfl rfl fl_X9_10 dX9_undo_39 ?_
      refine dz_getO (pc := 42) (k := 16) (j := 0) (o := 1) C Fc_X8 hk_16 (by decide) rfl rfl rfl fl_X9_79 dX9_undo_42 ?_
      refine dz_iload_n (pc := 45) C dX9_undo_45 rfl 0 rfl ?_
      refine dz_aload_n (pc := 46) C dX9_undo_46 rfl 2 rfl ?_
      refine dz_getO (pc := 47) (k := 0) (j := 3) (o := 11) C Fc_X9 hk_0 (by decide) rfl rfl rfl fl_X9_26 dX9_undo_47 ?_
      refine dz_getR (pc := 50) (k := 11) (j := 2) C Fc_X6 hk_11 (by decide) (by decide) rfl fl_X9_297 dX9_undo_50 ?_
      refine dz_iload_n (pc := 53) C dX9_undo_53 rfl 1 rfl ?_
      refine dz_iald (pc := 54) (k := 11) (j := 2) (n := 12) (f := ((M 11) 2)) C hk_11 (by decide) rfl rfl dX9_undo_54 h (fun a6 h => ?_)
      obtain ⟨q7, eq7, h⟩ := dt_bind h
      refine dz_callVv (pc := 55) (st := []) (k := 1) (As := [.int (((M 11) 0) a2), .int (((M 11) 2) a6)]) (M' := (dt_put M 1 q7)) C Fc_X5 hk_1 mf_X5_drop rfl ml_X9_298 (dt_c1 (m_X5_drop l hk_1 M (M 1) _ _ eq7)) rfl rfl (by omega) (by decide) (Nat.le_of_ble_eq_true rfl) dX9_undo_55 ?_
      refine dz_goto (pc := 58) (t := 81) C dX9_undo_58 (by decide) ?_
      refine dz_sub [2, 1] rfl ?_
      exact tX9_undo_81 C hr  q1 (dt_put M 1 q7) h
  · refine dz_iconst (pc := 13) (v := (0 : Int32)) C dX9_undo_13 (by decide) ?_
    cases dt_some h
    exact dz_zret (pc := 14) C hr (Or.inl rfl) dX9_undo_14

def fX9_image  (x1 : Int32) (M : dt_M) : Option (Int32 × dt_M) := (if x1 = 0 then (if ((M 0) 2 0) = 0 then (some ((0 : Int32), M)) else ((fX8_become_w M).bind fun q1 => ((fX6_forget (q1 11)).bind fun q2 => (some ((1 : Int32), (dt_put q1 11 q2)))))) else ((fX8_become_k M).bind fun q3 => (some ((1 : Int32), (dt_sM q3 0 2 0 (1 : Int32))))))
set_option maxRecDepth 10000 in
set_option maxHeartbeats 4000000 in
theorem m_X9_image {nb : Nat} (l : Launch)   (M : dt_M)  (x1 : Int32) {res : Int32 × dt_M} (h : fX9_image x1 M = some res) : dt_Met nb l yX9_image cX9_image 2 (some .boolean) 4 (fun G => [.ref (G.1 0 0), .int x1]) M (some (.int res.1)) res.2 := by
  refine dz_enter (lv := fun G => [(0, .ref (G.1 0 0)), (1, .int x1)]) (by decide) (fun _ => rfl) (fun _ => Nat.le_of_ble_eq_true rfl) (fun G A p e s m args below meth c C hr => ?_)
  unfold fX9_image at h
  refine dz_iload_n (pc := 0) C dX9_image_0 rfl 1 rfl ?_
  refine dz_if_eq (pc := 1) (t := 22) C dX9_image_1 (by decide) h (fun h => ?_) (fun h => ?_)
  · refine dz_aload_n (pc := 22) C dX9_image_22 rfl 0 rfl ?_
    refine dz_getI (pc := 23) (k := 0) (j := 2) (v := ((M 0) 2 0)) C Fc_X9 hk_0 (by decide) rfl rfl fl_X9_19 rfl dX9_image_23 ?_
    refine dz_if_ne (pc := 26) (t := 31) C dX9_image_26 (by decide) h (fun h => ?_) (fun h => ?_)
    · refine dz_aload_n (pc := 31) C dX9_image_31 rfl 0 rfl ?_
      refine dz_getO (pc := 32) (k := 0) (j := 0) (o := 16) C Fc_X9 hk_0 (by decide) rfl rfl rfl fl_X9_10 dX9_image_32 ?_
      refine dz_aload_n (pc := 35) C dX9_image_35 rfl 0 rfl ?_
      refine dz_getO (pc := 36) (k := 0) (j := 1) (o := 17) C Fc_X9 hk_0 (by decide) rfl rfl rfl fl_X9_16 dX9_image_36 ?_
      obtain ⟨q1, eq1, h⟩ := dt_bind h
      refine dz_callVv (pc := 39) (st := []) (k := 16) (As := [.ref (G.1 17 0)]) (M' := q1) C Fc_X8 hk_16 mf_X8_become rfl ml_X9_310 (m_X8_become_w l M eq1) rfl rfl (by omega) (by decide) (Nat.le_of_ble_eq_true rfl) dX9_image_39 ?_
      refine dz_aload_n (pc := 42) C dX9_image_42 rfl 0 rfl ?_
      refine dz_getO (pc := 43) (k := 0) (j := 3) (o := 11) C Fc_X9 hk_0 (by decide) rfl rfl rfl fl_X9_26 dX9_image_43 ?_
      obtain ⟨q2, eq2, h⟩ := dt_bind h
      refine dz_callVv (pc := 46) (st := []) (k := 11) (As := []) (M' := (dt_put q1 11 q2)) C Fc_X6 hk_11 mf_X6_forget rfl ml_X9_76 (dt_c1 (m_X6_forget l hk_11 q1 (q1 11) eq2)) rfl rfl (by omega) (by decide) (Nat.le_of_ble_eq_true rfl) dX9_image_46 ?_
      refine dz_iconst (pc := 49) (v := (1 : Int32)) C dX9_image_49 (by decide) ?_
      cases dt_some h
      exact dz_zret (pc := 50) C hr (Or.inr rfl) dX9_image_50
    · refine dz_iconst (pc := 29) (v := (0 : Int32)) C dX9_image_29 (by decide) ?_
      cases dt_some h
      exact dz_zret (pc := 30) C hr (Or.inl rfl) dX9_image_30
  · refine dz_aload_n (pc := 4) C dX9_image_4 rfl 0 rfl ?_
    refine dz_getO (pc := 5) (k := 0) (j := 1) (o := 17) C Fc_X9 hk_0 (by decide) rfl rfl rfl fl_X9_16 dX9_image_5 ?_
    refine dz_aload_n (pc := 8) C dX9_image_8 rfl 0 rfl ?_
    refine dz_getO (pc := 9) (k := 0) (j := 0) (o := 16) C Fc_X9 hk_0 (by decide) rfl rfl rfl fl_X9_10 dX9_image_9 ?_
    obtain ⟨q3, eq3, h⟩ := dt_bind h
    refine dz_callVv (pc := 12) (st := []) (k := 17) (As := [.ref (G.1 16 0)]) (M' := q3) C Fc_X8 hk_17 mf_X8_become rfl ml_X9_310 (m_X8_become_k l M eq3) rfl rfl (by omega) (by decide) (Nat.le_of_ble_eq_true rfl) dX9_image_12 ?_
    refine dz_aload_n (pc := 15) C dX9_image_15 rfl 0 rfl ?_
    refine dz_iconst (pc := 16) (v := (1 : Int32)) C dX9_image_16 (by decide) ?_
    refine dz_putZ (pc := 17) (k := 0) (j := 2) (M' := (dt_sM q3 0 2 0 (1 : Int32))) C Fc_X9 hk_0 (by decide) rfl rfl (by decide) rfl rfl fl_X9_19 rfl dX9_image_17 ?_
    refine dz_iconst (pc := 20) (v := (1 : Int32)) C dX9_image_20 (by decide) ?_
    cases dt_some h
    exact dz_zret (pc := 21) C hr (Or.inr rfl) dX9_image_21

def fX9_look  (x1 : Int32) (M : dt_M) : Option (Int32) := (if x1 = (0 : Int32) then (some ((M 1) 0 0)) else (if x1 = (1 : Int32) then (some ((M 1) 1 0)) else (if x1 = (2 : Int32) then ((fX5_inYard (M 1)).bind fun q4 => (some (((M 1) 1 0) - q4))) else (if x1 = (3 : Int32) then (some ((M 2) 0 0)) else (if x1 = (4 : Int32) then (some ((M 2) 1 0)) else (if x1 = (5 : Int32) then (some ((M 2) 2 0)) else (if x1 = (6 : Int32) then (some ((M 2) 3 0)) else (if x1 = (7 : Int32) then (some ((M 2) 5 0)) else (if x1 = (8 : Int32) then (some ((M 4) 0 0)) else (if x1 = (9 : Int32) then (some ((M 11) 4 0)) else (if x1 = (10 : Int32) then (some ((M 3) 5 0)) else (some (-1 : Int32)))))))))))))
set_option maxRecDepth 10000 in
set_option maxHeartbeats 4000000 in
theorem m_X9_look {nb : Nat} (l : Launch)   (M : dt_M)  (x1 : Int32) {res : Int32} (h : fX9_look x1 M = some res) : dt_Met nb l yX9_look cX9_look 2 (some .int) 3 (fun G => [.ref (G.1 0 0), .int x1]) M (some (.int res)) M := by
  refine dz_enter (lv := fun G => [(0, .ref (G.1 0 0)), (1, .int x1)]) (by decide) (fun _ => rfl) (fun _ => Nat.le_of_ble_eq_true rfl) (fun G A p e s m args below meth c C hr => ?_)
  unfold fX9_look at h
  refine dz_iload_n (pc := 0) C dX9_look_0 rfl 1 rfl ?_
  by_cases hc1 : x1 = (0 : Int32)
  · have h := dt_ifp h hc1
    refine dz_tsw (pc := 1) (off := 59) (t := 60) C dX9_look_1 (0) (by rw [hc1]; rfl) (by decide) (by decide) rfl (by decide) ?_
    refine dz_aload_n (pc := 60) C dX9_look_60 rfl 0 rfl ?_
    refine dz_getO (pc := 61) (k := 0) (j := 0) (o := 16) C Fc_X9 hk_0 (by decide) rfl rfl rfl fl_X9_10 dX9_look_61 ?_
    refine dz_getO (pc := 64) (k := 16) (j := 0) (o := 1) C Fc_X8 hk_16 (by decide) rfl rfl rfl fl_X9_79 dX9_look_64 ?_
    refine dz_getI (pc := 67) (k := 1) (j := 0) (v := ((M 1) 0 0)) C Fc_X5 hk_1 (by decide) rfl rfl fl_X9_82 rfl dX9_look_67 ?_
    cases dt_some h
    exact dz_iret (pc := 70) C hr dX9_look_70
  have h := dt_iff h hc1
  by_cases hc2 : x1 = (1 : Int32)
  · have h := dt_ifp h hc2
    refine dz_tsw (pc := 1) (off := 70) (t := 71) C dX9_look_1 (1) (by rw [hc2]; rfl) (by decide) (by decide) rfl (by decide) ?_
    refine dz_aload_n (pc := 71) C dX9_look_71 rfl 0 rfl ?_
    refine dz_getO (pc := 72) (k := 0) (j := 0) (o := 16) C Fc_X9 hk_0 (by decide) rfl rfl rfl fl_X9_10 dX9_look_72 ?_
    refine dz_getO (pc := 75) (k := 16) (j := 0) (o := 1) C Fc_X8 hk_16 (by decide) rfl rfl rfl fl_X9_79 dX9_look_75 ?_
    refine dz_getI (pc := 78) (k := 1) (j := 1) (v := ((M 1) 1 0)) C Fc_X5 hk_1 (by decide) rfl rfl fl_X9_89 rfl dX9_look_78 ?_
    cases dt_some h
    exact dz_iret (pc := 81) C hr dX9_look_81
  have h := dt_iff h hc2
  by_cases hc3 : x1 = (2 : Int32)
  · have h := dt_ifp h hc3
    refine dz_tsw (pc := 1) (off := 81) (t := 82) C dX9_look_1 (2) (by rw [hc3]; rfl) (by decide) (by decide) rfl (by decide) ?_
    refine dz_aload_n (pc := 82) C dX9_look_82 rfl 0 rfl ?_
    refine dz_getO (pc := 83) (k := 0) (j := 0) (o := 16) C Fc_X9 hk_0 (by decide) rfl rfl rfl fl_X9_10 dX9_look_83 ?_
    refine dz_getO (pc := 86) (k := 16) (j := 0) (o := 1) C Fc_X8 hk_16 (by decide) rfl rfl rfl fl_X9_79 dX9_look_86 ?_
    refine dz_getI (pc := 89) (k := 1) (j := 1) (v := ((M 1) 1 0)) C Fc_X5 hk_1 (by decide) rfl rfl fl_X9_89 rfl dX9_look_89 ?_
    refine dz_aload_n (pc := 92) C dX9_look_92 rfl 0 rfl ?_
    refine dz_getO (pc := 93) (k := 0) (j := 0) (o := 16) C Fc_X9 hk_0 (by decide) rfl rfl rfl fl_X9_10 dX9_look_93 ?_
    refine dz_getO (pc := 96) (k := 16) (j := 0) (o := 1) C Fc_X8 hk_16 (by decide) rfl rfl rfl fl_X9_79 dX9_look_96 ?_
    obtain ⟨q4, eq4, h⟩ := dt_bind h
    refine dz_callVi (pc := 99) (st := [.int ((M 1) 1 0)]) (k := 1) (As := []) (M' := M) C Fc_X5 hk_1 mf_X5_inYard rfl ml_X9_227 (dt_c0 (m_X5_inYard l hk_1 M (M 1) eq4)) rfl rfl (by omega) (by decide) (Nat.le_of_ble_eq_true rfl) dX9_look_99 ?_
    refine dz_isub (pc := 102) C dX9_look_102 ?_
    cases dt_some h
    exact dz_iret (pc := 103) C hr dX9_look_103
  have h := dt_iff h hc3
  by_cases hc5 : x1 = (3 : Int32)
  · have h := dt_ifp h hc5
    refine dz_tsw (pc := 1) (off := 103) (t := 104) C dX9_look_1 (3) (by rw [hc5]; rfl) (by decide) (by decide) rfl (by decide) ?_
    refine dz_aload_n (pc := 104) C dX9_look_104 rfl 0 rfl ?_
    refine dz_getO (pc := 105) (k := 0) (j := 0) (o := 16) C Fc_X9 hk_0 (by decide) rfl rfl rfl fl_X9_10 dX9_look_105 ?_
    refine dz_getO (pc := 108) (k := 16) (j := 1) (o := 2) C Fc_X8 hk_16 (by decide) rfl rfl rfl fl_X9_123 dX9_look_108 ?_
    refine dz_getI (pc := 111) (k := 2) (j := 0) (v := ((M 2) 0 0)) C Fc_X1 hk_2 (by decide) rfl rfl fl_X9_313 rfl dX9_look_111 ?_
    cases dt_some h
    exact dz_iret (pc := 114) C hr dX9_look_114
  have h := dt_iff h hc5
  by_cases hc6 : x1 = (4 : Int32)
  · have h := dt_ifp h hc6
    refine dz_tsw (pc := 1) (off := 114) (t := 115) C dX9_look_1 (4) (by rw [hc6]; rfl) (by decide) (by decide) rfl (by decide) ?_
    refine dz_aload_n (pc := 115) C dX9_look_115 rfl 0 rfl ?_
    refine dz_getO (pc := 116) (k := 0) (j := 0) (o := 16) C Fc_X9 hk_0 (by decide) rfl rfl rfl fl_X9_10 dX9_look_116 ?_
    refine dz_getO (pc := 119) (k := 16) (j := 1) (o := 2) C Fc_X8 hk_16 (by decide) rfl rfl rfl fl_X9_123 dX9_look_119 ?_
    refine dz_getI (pc := 122) (k := 2) (j := 1) (v := ((M 2) 1 0)) C Fc_X1 hk_2 (by decide) rfl rfl fl_X9_316 rfl dX9_look_122 ?_
    cases dt_some h
    exact dz_iret (pc := 125) C hr dX9_look_125
  have h := dt_iff h hc6
  by_cases hc7 : x1 = (5 : Int32)
  · have h := dt_ifp h hc7
    refine dz_tsw (pc := 1) (off := 125) (t := 126) C dX9_look_1 (5) (by rw [hc7]; rfl) (by decide) (by decide) rfl (by decide) ?_
    refine dz_aload_n (pc := 126) C dX9_look_126 rfl 0 rfl ?_
    refine dz_getO (pc := 127) (k := 0) (j := 0) (o := 16) C Fc_X9 hk_0 (by decide) rfl rfl rfl fl_X9_10 dX9_look_127 ?_
    refine dz_getO (pc := 130) (k := 16) (j := 1) (o := 2) C Fc_X8 hk_16 (by decide) rfl rfl rfl fl_X9_123 dX9_look_130 ?_
    refine dz_getI (pc := 133) (k := 2) (j := 2) (v := ((M 2) 2 0)) C Fc_X1 hk_2 (by decide) rfl rfl fl_X9_319 rfl dX9_look_133 ?_
    cases dt_some h
    exact dz_iret (pc := 136) C hr dX9_look_136
  have h := dt_iff h hc7
  by_cases hc8 : x1 = (6 : Int32)
  · have h := dt_ifp h hc8
    refine dz_tsw (pc := 1) (off := 136) (t := 137) C dX9_look_1 (6) (by rw [hc8]; rfl) (by decide) (by decide) rfl (by decide) ?_
    refine dz_aload_n (pc := 137) C dX9_look_137 rfl 0 rfl ?_
    refine dz_getO (pc := 138) (k := 0) (j := 0) (o := 16) C Fc_X9 hk_0 (by decide) rfl rfl rfl fl_X9_10 dX9_look_138 ?_
    refine dz_getO (pc := 141) (k := 16) (j := 1) (o := 2) C Fc_X8 hk_16 (by decide) rfl rfl rfl fl_X9_123 dX9_look_141 ?_
    refine dz_getI (pc := 144) (k := 2) (j := 3) (v := ((M 2) 3 0)) C Fc_X1 hk_2 (by decide) rfl rfl fl_X9_189 rfl dX9_look_144 ?_
    cases dt_some h
    exact dz_iret (pc := 147) C hr dX9_look_147
  have h := dt_iff h hc8
  by_cases hc9 : x1 = (7 : Int32)
  · have h := dt_ifp h hc9
    refine dz_tsw (pc := 1) (off := 147) (t := 148) C dX9_look_1 (7) (by rw [hc9]; rfl) (by decide) (by decide) rfl (by decide) ?_
    refine dz_aload_n (pc := 148) C dX9_look_148 rfl 0 rfl ?_
    refine dz_getO (pc := 149) (k := 0) (j := 0) (o := 16) C Fc_X9 hk_0 (by decide) rfl rfl rfl fl_X9_10 dX9_look_149 ?_
    refine dz_getO (pc := 152) (k := 16) (j := 1) (o := 2) C Fc_X8 hk_16 (by decide) rfl rfl rfl fl_X9_123 dX9_look_152 ?_
    refine dz_getI (pc := 155) (k := 2) (j := 5) (v := ((M 2) 5 0)) C Fc_X1 hk_2 (by decide) rfl rfl fl_X9_322 rfl dX9_look_155 ?_
    cases dt_some h
    exact dz_iret (pc := 158) C hr dX9_look_158
  have h := dt_iff h hc9
  by_cases hc10 : x1 = (8 : Int32)
  · have h := dt_ifp h hc10
    refine dz_tsw (pc := 1) (off := 158) (t := 159) C dX9_look_1 (8) (by rw [hc10]; rfl) (by decide) (by decide) rfl (by decide) ?_
    refine dz_aload_n (pc := 159) C dX9_look_159 rfl 0 rfl ?_
    refine dz_getO (pc := 160) (k := 0) (j := 0) (o := 16) C Fc_X9 hk_0 (by decide) rfl rfl rfl fl_X9_10 dX9_look_160 ?_
    refine dz_getO (pc := 163) (k := 16) (j := 3) (o := 4) C Fc_X8 hk_16 (by decide) rfl rfl rfl fl_X9_170 dX9_look_163 ?_
    refine dz_getI (pc := 166) (k := 4) (j := 0) (v := ((M 4) 0 0)) C Fc_X0 hk_4 (by decide) rfl rfl fl_X9_325 rfl dX9_look_166 ?_
    cases dt_some h
    exact dz_iret (pc := 169) C hr dX9_look_169
  have h := dt_iff h hc10
  by_cases hc11 : x1 = (9 : Int32)
  · have h := dt_ifp h hc11
    refine dz_tsw (pc := 1) (off := 169) (t := 170) C dX9_look_1 (9) (by rw [hc11]; rfl) (by decide) (by decide) rfl (by decide) ?_
    refine dz_aload_n (pc := 170) C dX9_look_170 rfl 0 rfl ?_
    refine dz_getO (pc := 171) (k := 0) (j := 3) (o := 11) C Fc_X9 hk_0 (by decide) rfl rfl rfl fl_X9_26 dX9_look_171 ?_
    refine dz_getI (pc := 174) (k := 11) (j := 4) (v := ((M 11) 4 0)) C Fc_X6 hk_11 (by decide) rfl rfl fl_X9_326 rfl dX9_look_174 ?_
    cases dt_some h
    exact dz_iret (pc := 177) C hr dX9_look_177
  have h := dt_iff h hc11
  by_cases hc12 : x1 = (10 : Int32)
  · have h := dt_ifp h hc12
    refine dz_tsw (pc := 1) (off := 177) (t := 178) C dX9_look_1 (10) (by rw [hc12]; rfl) (by decide) (by decide) rfl (by decide) ?_
    refine dz_aload_n (pc := 178) C dX9_look_178 rfl 0 rfl ?_
    refine dz_getO (pc := 179) (k := 0) (j := 0) (o := 16) C Fc_X9 hk_0 (by decide) rfl rfl rfl fl_X9_10 dX9_look_179 ?_
    refine dz_getO (pc := 182) (k := 16) (j := 2) (o := 3) C Fc_X8 hk_16 (by decide) rfl rfl rfl fl_X9_214 dX9_look_182 ?_
    refine dz_getI (pc := 185) (k := 3) (j := 5) (v := ((M 3) 5 0)) C Fc_X7 hk_3 (by decide) rfl rfl fl_X9_221 rfl dX9_look_185 ?_
    cases dt_some h
    exact dz_iret (pc := 188) C hr dX9_look_188
  have h := dt_iff h hc12
  refine dz_tswO (pc := 1) (t := 189) C dX9_look_1 (by have z0 := lv_neT hc1 (a := 0) rfl; have z1 := lv_neT hc2 (a := 1) rfl; have z2 := lv_neT hc3 (a := 2) rfl; have z3 := lv_neT hc5 (a := 3) rfl; have z4 := lv_neT hc6 (a := 4) rfl; have z5 := lv_neT hc7 (a := 5) rfl; have z6 := lv_neT hc8 (a := 6) rfl; have z7 := lv_neT hc9 (a := 7) rfl; have z8 := lv_neT hc10 (a := 8) rfl; have z9 := lv_neT hc11 (a := 9) rfl; have z10 := lv_neT hc12 (a := 10) rfl; omega) (by decide) ?_
  refine dz_iconst (pc := 189) (v := (-1 : Int32)) C dX9_look_189 (by decide) ?_
  cases dt_some h
  exact dz_iret (pc := 190) C hr dX9_look_190
