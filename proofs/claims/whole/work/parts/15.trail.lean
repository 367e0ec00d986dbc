/-! ===== lifted: 15.trail ===== -/
def fX6_forget  (T : dt_Ob) : Option (dt_Ob) := (some (dt_set (dt_set T 4 0 (0 : Int32)) 5 0 (0 : Int32)))
set_option maxRecDepth 10000 in
set_option maxHeartbeats 4000000 in
theorem m_X6_forget {nb : Nat} (l : Launch) {k : Nat} (hk : k < 18 + nb ∧ dt_c k = 6)  (M : dt_M) (T : dt_Ob)   {res : dt_Ob} (h : fX6_forget T = some res) : dt_Met nb l yX6_forget cX6_forget 1 none 1 (fun G => [.ref (G.1 k 0)]) (dt_put M k T) none (dt_put M k res) := by
  refine dz_enter (lv := fun G => [(0, .ref (G.1 k 0))]) (by decide) (fun _ => rfl) (fun _ => Nat.le_of_ble_eq_true rfl) (fun G A p e s m args below meth c C hr => ?_)
  unfold fX6_forget at h
  refine dz_aload_n (pc := 0) C dX6_forget_0 rfl 0 rfl ?_
  refine dz_iconst (pc := 1) (v := (0 : Int32)) C dX6_forget_1 (by decide) ?_
  refine dz_putI (pc := 2) (k := k) (j := 4) (M' := (dt_put M k (dt_set T 4 0 (0 : Int32)))) C Fc_X6 hk (by decide) rfl rfl rfl rfl fl_X6_24 (dt_wA _ _ _ _ _ _) dX6_forget_2 ?_
  refine dz_aload_n (pc := 5) C dX6_forget_5 rfl 0 rfl ?_
  refine dz_iconst (pc := 6) (v := (0 : Int32)) C dX6_forget_6 (by decide) ?_
  refine dz_putI (pc := 7) (k := k) (j := 5) (M' := (dt_put M k (dt_set (dt_set T 4 0 (0 : Int32)) 5 0 (0 : Int32)))) C Fc_X6 hk (by decide) rfl rfl rfl rfl fl_X6_28 (dt_wA _ _ _ _ _ _) dX6_forget_7 ?_
  cases dt_some h
  exact dz_vret (pc := 10) C hr dX6_forget_10

def fX6_remember_63  (s1 : Int32) (T : dt_Ob) : Option (dt_Ob) := (some (dt_set (dt_set T 5 0 s1) 4 0 (if (12 : Int32) < ((T 4 0) + (1 : Int32)) then (12 : Int32) else ((T 4 0) + (1 : Int32)))))
set_option maxRecDepth 10000 in
set_option maxHeartbeats 4000000 in
theorem tX6_remember_63 {nb : Nat} {G : dt_G} {A : Nat → Prop} {p : Program} {l : Launch} {e : Env} {s : State} {m : MethodId} {args : Array Value} {below : List Frame} {meth : Method} {c : Code} (C : dt_Cx nb G A p s m args meth c cX6_remember 5 RX6) (hr : meth.sig.returnType = none) {k : Nat} (hk : k < 18 + nb ∧ dt_c k = 6) {M : dt_M} {res : dt_Ob}  : ∀ (s1 : Int32) (T : dt_Ob), fX6_remember_63 s1 T = some res → dt_At G A p l e (dt_rm 1) s m args below meth c 5 (MQ below (dt_Post G A none (dt_put M k res)) args s 0 0 A) 63 [(0, .ref (G.1 k 0))] [.int s1, .ref (G.1 k 0)] (dt_put M k T) := by
  intro s1 T h
  unfold fX6_remember_63 at h
  refine dz_putI (pc := 63) (k := k) (j := 5) (M' := (dt_put M k (dt_set T 5 0 s1))) C Fc_X6 hk (by decide) rfl rfl rfl rfl fl_X6_28 (dt_wA _ _ _ _ _ _) dX6_remember_63 ?_
  refine dz_aload_n (pc := 66) C dX6_remember_66 rfl 0 rfl ?_
  refine dz_aload_n (pc := 67) C dX6_remember_67 rfl 0 rfl ?_
  refine dz_getI (pc := 68) (k := k) (j := 4) (v := (T 4 0)) C Fc_X6 hk (by decide) rfl rfl fl_X6_24 (dt_rA _ _ _ _ _) dX6_remember_68 ?_
  refine dz_iconst (pc := 71) (v := (1 : Int32)) C dX6_remember_71 (by decide) ?_
  refine dz_iadd (pc := 72) C dX6_remember_72 ?_
  refine dz_bipush (pc := 73) (v := (12 : Int32)) C dX6_remember_73 (by decide) ?_
  refine dz_min (pc := 75) C ml_X6_31 (by omega) (Nat.le_of_ble_eq_true rfl) dX6_remember_75 ?_
  refine dz_putI (pc := 78) (k := k) (j := 4) (M' := (dt_put M k (dt_set (dt_set T 5 0 s1) 4 0 (if (12 : Int32) < ((T 4 0) + (1 : Int32)) then (12 : Int32) else ((T 4 0) + (1 : Int32)))))) C Fc_X6 hk (by decide) rfl rfl rfl rfl fl_X6_24 (dt_wA _ _ _ _ _ _) dX6_remember_78 ?_
  cases dt_some h
  exact dz_vret (pc := 81) C hr dX6_remember_81
def fX6_remember  (x1 : Int32) (x2 : Int32) (x3 : Int32) (x4 : Int32) (T : dt_Ob) : Option (dt_Ob) := ((dt_ix (T 5 0) 12).bind fun a1 => ((dt_ix (T 5 0) 12).bind fun a2 => ((dt_ix (T 5 0) 12).bind fun a3 => ((dt_ix (T 5 0) 12).bind fun a4 => (if (12 : Int32) ≤ ((T 5 0) + (1 : Int32)) then (fX6_remember_63 (0 : Int32) (dt_set (dt_set (dt_set (dt_set T 0 a1 x1) 1 a2 x2) 2 a3 x3) 3 a4 x4)) else (fX6_remember_63 ((T 5 0) + (1 : Int32)) (dt_set (dt_set (dt_set (dt_set T 0 a1 x1) 1 a2 x2) 2 a3 x3) 3 a4 x4)))))))
set_option maxRecDepth 10000 in
set_option maxHeartbeats 4000000 in
theorem m_X6_remember {nb : Nat} (l : Launch) {k : Nat} (hk : k < 18 + nb ∧ dt_c k = 6)  (M : dt_M) (T : dt_Ob)  (x1 : Int32) (x2 : Int32) (x3 : Int32) (x4 : Int32) {res : dt_Ob} (h : fX6_remember x1 x2 x3 x4 T = some res) : dt_Met nb l yX6_remember cX6_remember 5 none 1 (fun G => [.ref (G.1 k 0), .int x1, .int x2, .int x3, .int x4]) (dt_put M k T) none (dt_put M k res) := by
  refine dz_enter (lv := fun G => [(0, .ref (G.1 k 0)), (1, .int x1), (2, .int x2), (3, .int x3), (4, .int x4)]) (by decide) (fun _ => rfl) (fun _ => Nat.le_of_ble_eq_true rfl) (fun G A p e s m args below meth c C hr => ?_)
  unfold fX6_remember at h
  refine dz_aload_n (pc := 0) C dX6_remember_0 rfl 0 rfl ?_
  refine dz_getR (pc := 1) (k := k) (j := 0) C Fc_X6 hk (by decide) (by decide) rfl fl_X6_11 dX6_remember_1 ?_
  refine dz_aload_n (pc := 4) C dX6_remember_4 rfl 0 rfl ?_
  refine dz_getI (pc := 5) (k := k) (j := 5) (v := (T 5 0)) C Fc_X6 hk (by decide) rfl rfl fl_X6_28 (dt_rA _ _ _ _ _) dX6_remember_5 ?_
  refine dz_iload_n (pc := 8) C dX6_remember_8 rfl 1 rfl ?_
  refine dz_iast (pc := 9) (k := k) (j := 0) (n := 12) (M' := fun a1 => (dt_put M k (dt_set T 0 a1 x1))) C hk (by decide) rfl (fun a1 => (dt_wA _ _ _ _ _ _)) dX6_remember_9 h (fun a1 h => ?_)
  refine dz_aload_n (pc := 10) C dX6_remember_10 rfl 0 rfl ?_
  refine dz_getR (pc := 11) (k := k) (j := 1) C Fc_X6 hk (by decide) (by decide) rfl fl_X6_15 dX6_remember_11 ?_
  refine dz_aload_n (pc := 14) C dX6_remember_14 rfl 0 rfl ?_
  refine dz_getI (pc := 15) (k := k) (j := 5) (v := (T 5 0)) C Fc_X6 hk (by decide) rfl rfl fl_X6_28 (dt_rA _ _ _ _ _) dX6_remember_15 ?_
  refine dz_iload_n (pc := 18) C dX6_remember_18 rfl 2 rfl ?_
  refine dz_iast (pc := 19) (k := k) (j := 1) (n := 12) (M' := fun a2 => (dt_put M k (dt_set (dt_set T 0 a1 x1) 1 a2 x2))) C hk (by decide) rfl (fun a2 => (dt_wA _ _ _ _ _ _)) dX6_remember_19 h (fun a2 h => ?_)
  refine dz_aload_n (pc := 20) C dX6_remember_20 rfl 0 rfl ?_
  refine dz_getR (pc := 21) (k := k) (j := 2) C Fc_X6 hk (by decide) (by decide) rfl fl_X6_18 dX6_remember_21 ?_
  refine dz_aload_n (pc := 24) C dX6_remember_24 rfl 0 rfl ?_
  refine dz_getI (pc := 25) (k := k) (j := 5) (v := (T 5 0)) C Fc_X6 hk (by decide) rfl rfl fl_X6_28 (dt_rA _ _ _ _ _) dX6_remember_25 ?_
  refine dz_iload_n (pc := 28) C dX6_remember_28 rfl 3 rfl ?_
  refine dz_iast (pc := 29) (k := k) (j := 2) (n := 12) (M' := fun a3 => (dt_put M k (dt_set (dt_set (dt_set T 0 a1 x1) 1 a2 x2) 2 a3 x3))) C hk (by decide) rfl (fun a3 => (dt_wA _ _ _ _ _ _)) dX6_remember_29 h (fun a3 h => ?_)
  refine dz_aload_n (pc := 30) C dX6_remember_30 rfl 0 rfl ?_
  refine dz_getR (pc := 31) (k := k) (j := 3) C Fc_X6 hk (by decide) (by decide) rfl fl_X6_21 dX6_remember_31 ?_
  refine dz_aload_n (pc := 34) C dX6_remember_34 rfl 0 rfl ?_
  refine dz_getI (pc := 35) (k := k) (j := 5) (v := (T 5 0)) C Fc_X6 hk (by decide) rfl rfl fl_X6_28 (dt_rA _ _ _ _ _) dX6_remember_35 ?_
  refine dz_iload (pc := 38) C dX6_remember_38 4 rfl ?_
  refine dz_iast (pc := 40) (k := k) (j := 3) (n := 12) (M' := fun a4 => (dt_put M k (dt_set (dt_set (dt_set (dt_set T 0 a1 x1) 1 a2 x2) 2 a3 x3) 3 a4 x4))) C hk (by decide) rfl (fun a4 => (dt_wA _ _ _ _ _ _)) dX6_remember_40 h (fun a4 h => ?_)
  refine dz_aload_n (pc := 41) C dX6_remember_41 rfl 0 rfl ?_
  refine dz_aload_n (pc := 42) C dX6_remember_42 rfl 0 rfl ?_
  refine dz_getI (pc := 43) (k := k) (j := 5) (v := (T 5 0)) C Fc_X6 hk (by decide) rfl rfl fl_X6_28 (dt_rA _ _ _ _ _) dX6_remember_43 ?_
  refine dz_iconst (pc := 46) (v := (1 : Int32)) C dX6_remember_46 (by decide) ?_
  refine dz_iadd (pc := 47) C dX6_remember_47 ?_
  refine dz_bipush (pc := 48) (v := (12 : Int32)) C dX6_remember_48 (by decide) ?_
  refine dz_icmp_ge (pc := 50) (t := 62) C dX6_remember_50 (by decide) h (fun h => ?_) (fun h => ?_)
  · refine dz_iconst (pc := 62) (v := (0 : Int32)) C dX6_remember_62 (by decide) ?_
    refine dz_sub [0] rfl ?_
    exact tX6_remember_63 C hr hk  (0 : Int32) (dt_set (dt_set (dt_set (dt_set T 0 a1 x1) 1 a2 x2) 2 a3 x3) 3 a4 x4) h
  · refine dz_aload_n (pc := 53) C dX6_remember_53 rfl 0 rfl ?_
    refine dz_getI (pc := 54) (k := k) (j := 5) (v := (T 5 0)) C Fc_X6 hk (by decide) rfl rfl fl_X6_28 (dt_rA _ _ _ _ _) dX6_remember_54 ?_
    refine dz_iconst (pc := 57) (v := (1 : Int32)) C dX6_remember_57 (by decide) ?_
    refine dz_iadd (pc := 58) C dX6_remember_58 ?_
    refine dz_goto (pc := 59) (t := 63) C dX6_remember_59 (by decide) ?_
    refine dz_sub [0] rfl ?_
    exact tX6_remember_63 C hr hk  ((T 5 0) + (1 : Int32)) (dt_set (dt_set (dt_set (dt_set T 0 a1 x1) 1 a2 x2) 2 a3 x3) 3 a4 x4) h

def fX6_newest  (T : dt_Ob) : Option (Int32) := (if (T 4 0) = 0 then (some (-1 : Int32)) else (if (T 5 0) ≤ 0 then (some (11 : Int32)) else (some ((T 5 0) - (1 : Int32)))))
set_option maxRecDepth 10000 in
set_option maxHeartbeats 4000000 in
theorem m_X6_newest {nb : Nat} (l : Launch) {k : Nat} (hk : k < 18 + nb ∧ dt_c k = 6)  (M : dt_M) (T : dt_Ob)   {res : Int32} (h : fX6_newest T = some res) : dt_Met nb l yX6_newest cX6_newest 1 (some .int) 1 (fun G => [.ref (G.1 k 0)]) (dt_put M k T) (some (.int res)) (dt_put M k T) := by
  refine dz_enter (lv := fun G => [(0, .ref (G.1 k 0))]) (by decide) (fun _ => rfl) (fun _ => Nat.le_of_ble_eq_true rfl) (fun G A p e s m args below meth c C hr => ?_)
  unfold fX6_newest at h
  refine dz_aload_n (pc := 0) C dX6_newest_0 rfl 0 rfl ?_
  refine dz_getI (pc := 1) (k := k) (j := 4) (v := (T 4 0)) C Fc_X6 hk (by decide) rfl rfl fl_X6_24 (dt_rA _ _ _ _ _) dX6_newest_1 ?_
  refine dz_if_ne (pc := 4) (t := 9) C dX6_newest_4 (by decide) h (fun h => ?_) (fun h => ?_)
  · refine dz_aload_n (pc := 9) C dX6_newest_9 rfl 0 rfl ?_
    refine dz_getI (pc := 10) (k := k) (j := 5) (v := (T 5 0)) C Fc_X6 hk (by decide) rfl rfl fl_X6_28 (dt_rA _ _ _ _ _) dX6_newest_10 ?_
    refine dz_if_le (pc := 13) (t := 25) C dX6_newest_13 (by decide) h (fun h => ?_) (fun h => ?_)
    · refine dz_bipush (pc := 25) (v := (11 : Int32)) C dX6_newest_25 (by decide) ?_
      cases dt_some h
      exact dz_iret (pc := 27) C hr dX6_newest_27
    · refine dz_aload_n (pc := 16) C dX6_newest_16 rfl 0 rfl ?_
      refine dz_getI (pc := 17) (k := k) (j := 5) (v := (T 5 0)) C Fc_X6 hk (by decide) rfl rfl fl_X6_28 (dt_rA _ _ _ _ _) dX6_newest_17 ?_
      refine dz_iconst (pc := 20) (v := (1 : Int32)) C dX6_newest_20 (by decide) ?_
      refine dz_isub (pc := 21) C dX6_newest_21 ?_
      refine dz_goto (pc := 22) (t := 27) C dX6_newest_22 (by decide) ?_
      cases dt_some h
      exact dz_iret (pc := 27) C hr dX6_newest_27
  · refine dz_iconst (pc := 7) (v := (-1 : Int32)) C dX6_newest_7 (by decide) ?_
    cases dt_some h
    exact dz_iret (pc := 8) C hr dX6_newest_8

def fX6_dropNewest  (T : dt_Ob) : Option (dt_Ob) := (if (T 4 0) ≤ 0 then (some T) else ((fX6_newest T).bind fun q1 => (some (dt_set (dt_set T 5 0 q1) 4 0 ((T 4 0) - (1 : Int32))))))
set_option maxRecDepth 10000 in
set_option maxHeartbeats 4000000 in
theorem m_X6_dropNewest {nb : Nat} (l : Launch) {k : Nat} (hk : k < 18 + nb ∧ dt_c k = 6)  (M : dt_M) (T : dt_Ob)   {res : dt_Ob} (h : fX6_dropNewest T = some res) : dt_Met nb l yX6_dropNewest cX6_dropNewest 1 none 2 (fun G => [.ref (G.1 k 0)]) (dt_put M k T) none (dt_put M k res) := by
  refine dz_enter (lv := fun G => [(0, .ref (G.1 k 0))]) (by decide) (fun _ => rfl) (fun _ => Nat.le_of_ble_eq_true rfl) (fun G A p e s m args below meth c C hr => ?_)
  unfold fX6_dropNewest at h
  refine dz_aload_n (pc := 0) C dX6_dropNewest_0 rfl 0 rfl ?_
  refine dz_getI (pc := 1) (k := k) (j := 4) (v := (T 4 0)) C Fc_X6 hk (by decide) rfl rfl fl_X6_24 (dt_rA _ _ _ _ _) dX6_dropNewest_1 ?_
  refine dz_if_le (pc := 4) (t := 25) C dX6_dropNewest_4 (by decide) h (fun h => ?_) (fun h => ?_)
  · cases dt_some h
    exact dz_vret (pc := 25) C hr dX6_dropNewest_25
  · refine dz_aload_n (pc := 7) C dX6_dropNewest_7 rfl 0 rfl ?_
    refine dz_aload_n (pc := 8) C dX6_dropNewest_8 rfl 0 rfl ?_
    obtain ⟨q1, eq1, h⟩ := dt_bind h
    refine dz_callVi (pc := 9) (st := [.ref (G.1 k 0)]) (k := k) (As := []) (M' := (dt_put M k T)) C Fc_X6 hk mf_X6_newest rfl ml_X6_37 (m_X6_newest l hk _ _ eq1) rfl rfl (by omega) (by decide) (Nat.le_of_ble_eq_true rfl) dX6_dropNewest_9 ?_
    refine dz_putI (pc := 12) (k := k) (j := 5) (M' := (dt_put M k (dt_set T 5 0 q1))) C Fc_X6 hk (by decide) rfl rfl rfl rfl fl_X6_28 (dt_wA _ _ _ _ _ _) dX6_dropNewest_12 ?_
    refine dz_aload_n (pc := 15) C dX6_dropNewest_15 rfl 0 rfl ?_
    refine dz_dup (pc := 16) C dX6_dropNewest_16 rfl ?_
    refine dz_getI (pc := 17) (k := k) (j := 4) (v := (T 4 0)) C Fc_X6 hk (by decide) rfl rfl fl_X6_24 (dt_rA _ _ _ _ _) dX6_dropNewest_17 ?_
    refine dz_iconst (pc := 20) (v := (1 : Int32)) C dX6_dropNewest_20 (by decide) ?_
    refine dz_isub (pc := 21) C dX6_dropNewest_21 ?_
    refine dz_putI (pc := 22) (k := k) (j := 4) (M' := (dt_put M k (dt_set (dt_set T 5 0 q1) 4 0 ((T 4 0) - (1 : Int32))))) C Fc_X6 hk (by decide) rfl rfl rfl rfl fl_X6_24 (dt_wA _ _ _ _ _ _) dX6_dropNewest_22 ?_
    cases dt_some h
    exact dz_vret (pc := 25) C hr dX6_dropNewest_25
