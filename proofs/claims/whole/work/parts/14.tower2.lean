/-! ===== lifted: 14.tower2 ===== -/
def fX5_drop_41  : Nat → Int32 → Int32 → Int32 → Int32 → dt_Ob → Option (dt_Ob)
  | 0, _, _, _, _, _ => none
  | n + 1, x1, x2, x3, x4, T => ((dt_ix x1 20).bind fun a6 => (if ((T 2) a6) ≤ x4 then (some T) else ((fX5_mark (x2 + x4) x3 x1 T).bind fun q7 => ((dt_ix (x2 + x4) 8).bind fun a8 => ((fX5_drop_41 n) x1 x2 x3 (x4 + (1 : Int32)) (dt_set q7 9 a8 (x3 + (1 : Int32))))))))
set_option maxRecDepth 10000 in
set_option maxHeartbeats 4000000 in
theorem tX5_drop_41 {nb : Nat} {G : dt_G} {A : Nat → Prop} {p : Program} {l : Launch} {e : Env} {s : State} {m : MethodId} {args : Array Value} {below : List Frame} {meth : Method} {c : Code} (C : dt_Cx nb G A p s m args meth c cX5_drop 5 RX5) (hr : meth.sig.returnType = none) {k : Nat} (hk : k < 18 + nb ∧ dt_c k = 5) {M : dt_M} {res : dt_Ob}  : ∀ (n : Nat) (x1 : Int32) (x2 : Int32) (x3 : Int32) (x4 : Int32) (T : dt_Ob), fX5_drop_41 n x1 x2 x3 x4 T = some res → dt_At G A p l e (dt_rm 3) s m args below meth c 5 (MQ below (dt_Post G A none (dt_put M k res)) args s 0 0 A) 41 [(0, .ref (G.1 k 0)), (1, .int x1), (2, .int x2), (3, .int x3), (4, .int x4)] [] (dt_put M k T) := by
  intro n
  induction n with
  | zero =>
    intro x1 x2 x3 x4 T h
    unfold fX5_drop_41 at h
    cases h
  | succ n ih =>
    intro x1 x2 x3 x4 T h
    unfold fX5_drop_41 at h
    refine dz_iload (pc := 41) C dX5_drop_41 4 rfl ?_
    refine dz_aload_n (pc := 43) C dX5_drop_43 rfl 0 rfl ?_
    refine dz_getR (pc := 44) (k := k) (j := 2) C Fc_X5 hk (by decide) (by decide) rfl fl_X5_18 dX5_drop_44 ?_
    refine dz_iload_n (pc := 47) C dX5_drop_47 rfl 1 rfl ?_
    refine dz_iald (pc := 48) (k := k) (j := 2) (n := 20) (f := (T 2)) C hk (by decide) rfl (dt_rAf _ _ _ _) dX5_drop_48 h (fun a6 h => ?_)
    refine dz_icmp_ge (pc := 49) (t := 80) C dX5_drop_49 (by decide) h (fun h => ?_) (fun h => ?_)
    · cases dt_some h
      exact dz_vret (pc := 80) C hr dX5_drop_80
    · refine dz_aload_n (pc := 52) C dX5_drop_52 rfl 0 rfl ?_
      refine dz_iload_n (pc := 53) C dX5_drop_53 rfl 2 rfl ?_
      refine dz_iload (pc := 54) C dX5_drop_54 4 rfl ?_
      refine dz_iadd (pc := 56) C dX5_drop_56 ?_
      refine dz_iload_n (pc := 57) C dX5_drop_57 rfl 3 rfl ?_
      refine dz_iload_n (pc := 58) C dX5_drop_58 rfl 1 rfl ?_
      obtain ⟨q7, eq7, h⟩ := dt_bind h
      refine dz_callVv (pc := 59) (st := []) (k := k) (As := [.int (x2 + x4), .int x3, .int x1]) (M' := (dt_put M k q7)) C Fc_X5 hk mf_X5_mark rfl ml_X5_116 (m_X5_mark l hk _ _ _ _ _ eq7) rfl rfl (by omega) (by decide) (Nat.le_of_ble_eq_true rfl) dX5_drop_59 ?_
      refine dz_aload_n (pc := 62) C dX5_drop_62 rfl 0 rfl ?_
      refine dz_getR (pc := 63) (k := k) (j := 9) C Fc_X5 hk (by decide) (by decide) rfl fl_X5_40 dX5_drop_63 ?_
      refine dz_iload_n (pc := 66) C dX5_drop_66 rfl 2 rfl ?_
      refine dz_iload (pc := 67) C dX5_drop_67 4 rfl ?_
      refine dz_iadd (pc := 69) C dX5_drop_69 ?_
      refine dz_iload_n (pc := 70) C dX5_drop_70 rfl 3 rfl ?_
      refine dz_iconst (pc := 71) (v := (1 : Int32)) C dX5_drop_71 (by decide) ?_
      refine dz_iadd (pc := 72) C dX5_drop_72 ?_
      refine dz_iast (pc := 73) (k := k) (j := 9) (n := 8) (M' := fun a8 => (dt_put M k (dt_set q7 9 a8 (x3 + (1 : Int32))))) C hk (by decide) rfl (fun a8 => (dt_wA _ _ _ _ _ _)) dX5_drop_73 h (fun a8 h => ?_)
      refine dz_iinc (pc := 74) (v := (x4 + (1 : Int32))) C dX5_drop_74 4 rfl rfl (by decide) rfl ?_
      refine dz_goto (pc := 77) (t := 41) C dX5_drop_77 (by decide) ?_
      refine dz_sub [1, 2, 3, 4, 0] rfl ?_
      exact ih x1 x2 x3 (x4 + (1 : Int32)) (dt_set q7 9 a8 (x3 + (1 : Int32))) h
def fX5_drop  (x1 : Int32) (x2 : Int32) (T : dt_Ob) : Option (dt_Ob) := ((fX5_fits x1 x2 T).bind fun q1 => (if q1 = 0 then (some T) else ((fX5_levelFor x1 x2 T).bind fun q2 => ((dt_ix x1 20).bind fun a3 => ((dt_ix x1 20).bind fun a4 => ((dt_ix x1 20).bind fun a5 => (fX5_drop_41 dt_F x1 x2 q2 (0 : Int32) (dt_set (dt_set (dt_set T 6 a3 (-1 : Int32)) 7 a4 x2) 8 a5 q2))))))))
set_option maxRecDepth 10000 in
set_option maxHeartbeats 4000000 in
theorem m_X5_drop {nb : Nat} (l : Launch) {k : Nat} (hk : k < 18 + nb ∧ dt_c k = 5)  (M : dt_M) (T : dt_Ob)  (x1 : Int32) (x2 : Int32) {res : dt_Ob} (h : fX5_drop x1 x2 T = some res) : dt_Met nb l yX5_drop cX5_drop 5 none 3 (fun G => [.ref (G.1 k 0), .int x1, .int x2]) (dt_put M k T) none (dt_put M k res) := by
  refine dz_enter (lv := fun G => [(0, .ref (G.1 k 0)), (1, .int x1), (2, .int x2)]) (by decide) (fun _ => rfl) (fun _ => Nat.le_of_ble_eq_true rfl) (fun G A p e s m args below meth c C hr => ?_)
  unfold fX5_drop at h
  refine dz_aload_n (pc := 0) C dX5_drop_0 rfl 0 rfl ?_
  refine dz_iload_n (pc := 1) C dX5_drop_1 rfl 1 rfl ?_
  refine dz_iload_n (pc := 2) C dX5_drop_2 rfl 2 rfl ?_
  obtain ⟨q1, eq1, h⟩ := dt_bind h
  refine dz_callVi (pc := 3) (st := []) (k := k) (As := [.int x1, .int x2]) (M' := (dt_put M k T)) C Fc_X5 hk mf_X5_fits rfl ml_X5_113 (m_X5_fits l hk _ _ _ _ eq1) rfl rfl (by omega) (by decide) (Nat.le_of_ble_eq_true rfl) dX5_drop_3 ?_
  refine dz_if_ne (pc := 6) (t := 10) C dX5_drop_6 (by decide) h (fun h => ?_) (fun h => ?_)
  · refine dz_aload_n (pc := 10) C dX5_drop_10 rfl 0 rfl ?_
    refine dz_iload_n (pc := 11) C dX5_drop_11 rfl 1 rfl ?_
    refine dz_iload_n (pc := 12) C dX5_drop_12 rfl 2 rfl ?_
    obtain ⟨q2, eq2, h⟩ := dt_bind h
    refine dz_callVi (pc := 13) (st := []) (k := k) (As := [.int x1, .int x2]) (M' := (dt_put M k T)) C Fc_X5 hk mf_X5_levelFor rfl ml_X5_96 (m_X5_levelFor l hk _ _ _ _ eq2) rfl rfl (by omega) (by decide) (Nat.le_of_ble_eq_true rfl) dX5_drop_13 ?_
    refine dz_istore_n (pc := 16) C dX5_drop_16 rfl (by decide) rfl ?_
    refine dz_aload_n (pc := 17) C dX5_drop_17 rfl 1 rfl ?_
    refine dz_getR (pc := 18) (k := k) (j := 6) C Fc_X5 hk (by decide) (by decide) rfl fl_X5_31 dX5_drop_18 ?_
    refine dz_iload_n (pc := 21) C dX5_drop_21 rfl 2 rfl ?_
    refine dz_iconst (pc := 22) (v := (-1 : Int32)) C dX5_drop_22 (by decide) ?_
    refine dz_iast (pc := 23) (k := k) (j := 6) (n := 20) (M' := fun a3 => (dt_put M k (dt_set T 6 a3 (-1 : Int32)))) C hk (by decide) rfl (fun a3 => (dt_wA _ _ _ _ _ _)) dX5_drop_23 h (fun a3 h => ?_)
    refine dz_aload_n (pc := 24) C dX5_drop_24 rfl 1 rfl ?_
    refine dz_getR (pc := 25) (k := k) (j := 7) C Fc_X5 hk (by decide) (by decide) rfl fl_X5_34 dX5_drop_25 ?_
    refine dz_iload_n (pc := 28) C dX5_drop_28 rfl 2 rfl ?_
    refine dz_iload_n (pc := 29) C dX5_drop_29 rfl 3 rfl ?_
    refine dz_iast (pc := 30) (k := k) (j := 7) (n := 20) (M' := fun a4 => (dt_put M k (dt_set (dt_set T 6 a3 (-1 : Int32)) 7 a4 x2))) C hk (by decide) rfl (fun a4 => (dt_wA _ _ _ _ _ _)) dX5_drop_30 h (fun a4 h => ?_)
    refine dz_aload_n (pc := 31) C dX5_drop_31 rfl 1 rfl ?_
    refine dz_getR (pc := 32) (k := k) (j := 8) C Fc_X5 hk (by decide) (by decide) rfl fl_X5_37 dX5_drop_32 ?_
    refine dz_iload_n (pc := 35) C dX5_drop_35 rfl 2 rfl ?_
    refine dz_iload_n (pc := 36) C dX5_drop_36 rfl 0 rfl ?_
    refine dz_iast (pc := 37) (k := k) (j := 8) (n := 20) (M' := fun a5 => (dt_put M k (dt_set (dt_set (dt_set T 6 a3 (-1 : Int32)) 7 a4 x2) 8 a5 q2))) C hk (by decide) rfl (fun a5 => (dt_wA _ _ _ _ _ _)) dX5_drop_37 h (fun a5 h => ?_)
    refine dz_iconst (pc := 38) (v := (0 : Int32)) C dX5_drop_38 (by decide) ?_
    refine dz_istore (pc := 39) C dX5_drop_39 (by decide) rfl ?_
    refine dz_sub [2, 3, 4, 1, 0] rfl ?_
    exact tX5_drop_41 C hr hk dt_F x1 x2 q2 (0 : Int32) (dt_set (dt_set (dt_set T 6 a3 (-1 : Int32)) 7 a4 x2) 8 a5 q2) h
  · cases dt_some h
    exact dz_vret (pc := 9) C hr dX5_drop_9

def fX5_lift_11  : Nat → Int32 → Int32 → Int32 → dt_Ob → Option (dt_Ob)
  | 0, _, _, _, _ => none
  | n + 1, x1, x2, x3, T => ((dt_ix x1 20).bind fun a2 => (if ((T 2) a2) ≤ x3 then ((fX5_toYard x1 x2 T).bind fun q3 => (some q3)) else ((dt_ix x1 20).bind fun a4 => ((dt_ix x1 20).bind fun a5 => ((fX5_mark (((T 7) a4) + x3) ((T 8) a5) (-1 : Int32) T).bind fun q6 => ((fX5_settle (((T 7) a4) + x3) q6).bind fun q7 => ((fX5_lift_11 n) x1 x2 (x3 + (1 : Int32)) q7)))))))
set_option maxRecDepth 10000 in
set_option maxHeartbeats 4000000 in
theorem tX5_lift_11 {nb : Nat} {G : dt_G} {A : Nat → Prop} {p : Program} {l : Launch} {e : Env} {s : State} {m : MethodId} {args : Array Value} {below : List Frame} {meth : Method} {c : Code} (C : dt_Cx nb G A p s m args meth c cX5_lift 5 RX5) (hr : meth.sig.returnType = none) {k : Nat} (hk : k < 18 + nb ∧ dt_c k = 5) {M : dt_M} {res : dt_Ob}  : ∀ (n : Nat) (x1 : Int32) (x2 : Int32) (x3 : Int32) (T : dt_Ob), fX5_lift_11 n x1 x2 x3 T = some res → dt_At G A p l e (dt_rm 3) s m args below meth c 5 (MQ below (dt_Post G A none (dt_put M k res)) args s 0 0 A) 11 [(0, .ref (G.1 k 0)), (1, .int x1), (2, .int x2), (3, .int x3)] [] (dt_put M k T) := by
  intro n
  induction n with
  | zero =>
    intro x1 x2 x3 T h
    unfold fX5_lift_11 at h
    cases h
  | succ n ih =>
    intro x1 x2 x3 T h
    unfold fX5_lift_11 at h
    refine dz_iload_n (pc := 11) C dX5_lift_11 rfl 3 rfl ?_
    refine dz_aload_n (pc := 12) C dX5_lift_12 rfl 0 rfl ?_
    refine dz_getR (pc := 13) (k := k) (j := 2) C Fc_X5 hk (by decide) (by decide) rfl fl_X5_18 dX5_lift_13 ?_
    refine dz_iload_n (pc := 16) C dX5_lift_16 rfl 1 rfl ?_
    refine dz_iald (pc := 17) (k := k) (j := 2) (n := 20) (f := (T 2)) C hk (by decide) rfl (dt_rAf _ _ _ _) dX5_lift_17 h (fun a2 h => ?_)
    refine dz_icmp_ge (pc := 18) (t := 56) C dX5_lift_18 (by decide) h (fun h => ?_) (fun h => ?_)
    · refine dz_aload_n (pc := 56) C dX5_lift_56 rfl 0 rfl ?_
      refine dz_iload_n (pc := 57) C dX5_lift_57 rfl 1 rfl ?_
      refine dz_iload_n (pc := 58) C dX5_lift_58 rfl 2 rfl ?_
      obtain ⟨q3, eq3, h⟩ := dt_bind h
      refine dz_callVv (pc := 59) (st := []) (k := k) (As := [.int x1, .int x2]) (M' := (dt_put M k q3)) C Fc_X5 hk mf_X5_toYard rfl ml_X5_124 (m_X5_toYard l hk _ _ _ _ eq3) rfl rfl (by omega) (by decide) (Nat.le_of_ble_eq_true rfl) dX5_lift_59 ?_
      cases dt_some h
      exact dz_vret (pc := 62) C hr dX5_lift_62
    · refine dz_aload_n (pc := 21) C dX5_lift_21 rfl 0 rfl ?_
      refine dz_getR (pc := 22) (k := k) (j := 7) C Fc_X5 hk (by decide) (by decide) rfl fl_X5_34 dX5_lift_22 ?_
      refine dz_iload_n (pc := 25) C dX5_lift_25 rfl 1 rfl ?_
      refine dz_iald (pc := 26) (k := k) (j := 7) (n := 20) (f := (T 7)) C hk (by decide) rfl (dt_rAf _ _ _ _) dX5_lift_26 h (fun a4 h => ?_)
      refine dz_iload_n (pc := 27) C dX5_lift_27 rfl 3 rfl ?_
      refine dz_iadd (pc := 28) C dX5_lift_28 ?_
      refine dz_istore (pc := 29) C dX5_lift_29 (by decide) rfl ?_
      refine dz_aload_n (pc := 31) C dX5_lift_31 rfl 1 rfl ?_
      refine dz_iload (pc := 32) C dX5_lift_32 0 rfl ?_
      refine dz_aload_n (pc := 34) C dX5_lift_34 rfl 1 rfl ?_
      refine dz_getR (pc := 35) (k := k) (j := 8) C Fc_X5 hk (by decide) (by decide) rfl fl_X5_37 dX5_lift_35 ?_
      refine dz_iload_n (pc := 38) C dX5_lift_38 rfl 2 rfl ?_
      refine dz_iald (pc := 39) (k := k) (j := 8) (n := 20) (f := (T 8)) C hk (by decide) rfl (dt_rAf _ _ _ _) dX5_lift_39 h (fun a5 h => ?_)
      refine dz_iconst (pc := 40) (v := (-1 : Int32)) C dX5_lift_40 (by decide) ?_
      obtain ⟨q6, eq6, h⟩ := dt_bind h
      refine dz_callVv (pc := 41) (st := []) (k := k) (As := [.int (((T 7) a4) + x3), .int ((T 8) a5), .int (-1 : Int32)]) (M' := (dt_put M k q6)) C Fc_X5 hk mf_X5_mark rfl ml_X5_116 (m_X5_mark l hk _ _ _ _ _ eq6) rfl rfl (by omega) (by decide) (Nat.le_of_ble_eq_true rfl) dX5_lift_41 ?_
      refine dz_aload_n (pc := 44) C dX5_lift_44 rfl 1 rfl ?_
      refine dz_iload (pc := 45) C dX5_lift_45 0 rfl ?_
      obtain ⟨q7, eq7, h⟩ := dt_bind h
      refine dz_callVv (pc := 47) (st := []) (k := k) (As := [.int (((T 7) a4) + x3)]) (M' := (dt_put M k q7)) C Fc_X5 hk mf_X5_settle rfl ml_X5_120 (m_X5_settle l hk _ _ _ eq7) rfl rfl (by omega) (by decide) (Nat.le_of_ble_eq_true rfl) dX5_lift_47 ?_
      refine dz_iinc (pc := 50) (v := (x3 + (1 : Int32))) C dX5_lift_50 4 rfl rfl (by decide) rfl ?_
      refine dz_goto (pc := 53) (t := 11) C dX5_lift_53 (by decide) ?_
      refine dz_sub [2, 3, 4, 0] rfl ?_
      exact ih x1 x2 (x3 + (1 : Int32)) q7 h
def fX5_lift  (x1 : Int32) (x2 : Int32) (T : dt_Ob) : Option (dt_Ob) := ((fX5_isInTower x1 T).bind fun q1 => (if q1 = 0 then (some T) else (fX5_lift_11 dt_F x1 x2 (0 : Int32) T)))
set_option maxRecDepth 10000 in
set_option maxHeartbeats 4000000 in
theorem m_X5_lift {nb : Nat} (l : Launch) {k : Nat} (hk : k < 18 + nb ∧ dt_c k = 5)  (M : dt_M) (T : dt_Ob)  (x1 : Int32) (x2 : Int32) {res : dt_Ob} (h : fX5_lift x1 x2 T = some res) : dt_Met nb l yX5_lift cX5_lift 5 none 3 (fun G => [.ref (G.1 k 0), .int x1, .int x2]) (dt_put M k T) none (dt_put M k res) := by
  refine dz_enter (lv := fun G => [(0, .ref (G.1 k 0)), (1, .int x1), (2, .int x2)]) (by decide) (fun _ => rfl) (fun _ => Nat.le_of_ble_eq_true rfl) (fun G A p e s m args below meth c C hr => ?_)
  unfold fX5_lift at h
  refine dz_aload_n (pc := 0) C dX5_lift_0 rfl 0 rfl ?_
  refine dz_iload_n (pc := 1) C dX5_lift_1 rfl 1 rfl ?_
  obtain ⟨q1, eq1, h⟩ := dt_bind h
  refine dz_callVi (pc := 2) (st := []) (k := k) (As := [.int x1]) (M' := (dt_put M k T)) C Fc_X5 hk mf_X5_isInTower rfl ml_X5_81 (m_X5_isInTower l hk _ _ _ eq1) rfl rfl (by omega) (by decide) (Nat.le_of_ble_eq_true rfl) dX5_lift_2 ?_
  refine dz_if_ne (pc := 5) (t := 9) C dX5_lift_5 (by decide) h (fun h => ?_) (fun h => ?_)
  · refine dz_iconst (pc := 9) (v := (0 : Int32)) C dX5_lift_9 (by decide) ?_
    refine dz_istore_n (pc := 10) C dX5_lift_10 rfl (by decide) rfl ?_
    refine dz_sub [1, 2, 3, 0] rfl ?_
    exact tX5_lift_11 C hr hk dt_F x1 x2 (0 : Int32) T h
  · cases dt_some h
    exact dz_vret (pc := 8) C hr dX5_lift_8

def fX5_fall_68 (r2 : Int32 → dt_Ob → Option (dt_Ob)) (x1 : Int32) (T : dt_Ob) : Option (dt_Ob) := (r2 (x1 + (1 : Int32)) T)
set_option maxRecDepth 10000 in
set_option maxHeartbeats 4000000 in
theorem tX5_fall_68 {nb : Nat} {G : dt_G} {A : Nat → Prop} {p : Program} {l : Launch} {e : Env} {s : State} {m : MethodId} {args : Array Value} {below : List Frame} {meth : Method} {c : Code} (C : dt_Cx nb G A p s m args meth c cX5_fall 3 RX5) (hr : meth.sig.returnType = none) {k : Nat} (hk : k < 18 + nb ∧ dt_c k = 5) {M : dt_M} {res : dt_Ob} {r2 : Int32 → dt_Ob → Option (dt_Ob)} (hr2 : ∀ (x1 : Int32) (T : dt_Ob), r2 x1 T = some res → dt_At G A p l e (dt_rm 3) s m args below meth c 3 (MQ below (dt_Post G A none (dt_put M k res)) args s 0 0 A) 2 [(0, .ref (G.1 k 0)), (1, .int x1)] [] (dt_put M k T)) : ∀ (x1 : Int32) (T : dt_Ob), fX5_fall_68 r2 x1 T = some res → dt_At G A p l e (dt_rm 3) s m args below meth c 3 (MQ below (dt_Post G A none (dt_put M k res)) args s 0 0 A) 68 [(0, .ref (G.1 k 0)), (1, .int x1)] [] (dt_put M k T) := by
  intro x1 T h
  unfold fX5_fall_68 at h
  refine dz_iinc (pc := 68) (v := (x1 + (1 : Int32))) C dX5_fall_68 1 rfl rfl (by decide) rfl ?_
  refine dz_goto (pc := 71) (t := 2) C dX5_fall_71 (by decide) ?_
  refine dz_sub [1, 0] rfl ?_
  exact hr2 (x1 + (1 : Int32)) T h
def fX5_fall_2  : Nat → Int32 → dt_Ob → Option (dt_Ob)
  | 0, _, _ => none
  | n + 1, x1, T => (if (T 1 0) ≤ x1 then ((fX5_clearCells T).bind fun q1 => (some q1)) else ((dt_ix x1 20).bind fun a2 => (if ((T 6) a2) = (-1 : Int32) then ((dt_ix x1 20).bind fun a3 => ((dt_ix x1 20).bind fun a4 => ((dt_ix x1 20).bind fun a5 => ((dt_ix x1 20).bind fun a6 => ((fX5_toYard x1 (if (((10 : Int32) + ((T 7) a6)) + ((2 : Int32) * ((T 8) a3))) < (59 : Int32) then (((10 : Int32) + ((T 7) a6)) + ((2 : Int32) * ((T 8) a3))) else (59 : Int32)) (dt_set T 4 a5 (if (0 : Int32) < (((T 4) a4) - ((T 8) a3)) then (((T 4) a4) - ((T 8) a3)) else (0 : Int32)))).bind fun q7 => (fX5_fall_68 (fX5_fall_2 n) x1 q7)))))) else (fX5_fall_68 (fX5_fall_2 n) x1 T))))
set_option maxRecDepth 10000 in
set_option maxHeartbeats 4000000 in
theorem tX5_fall_2 {nb : Nat} {G : dt_G} {A : Nat → Prop} {p : Program} {l : Launch} {e : Env} {s : State} {m : MethodId} {args : Array Value} {below : List Frame} {meth : Method} {c : Code} (C : dt_Cx nb G A p s m args meth c cX5_fall 3 RX5) (hr : meth.sig.returnType = none) {k : Nat} (hk : k < 18 + nb ∧ dt_c k = 5) {M : dt_M} {res : dt_Ob}  : ∀ (n : Nat) (x1 : Int32) (T : dt_Ob), fX5_fall_2 n x1 T = some res → dt_At G A p l e (dt_rm 3) s m args below meth c 3 (MQ below (dt_Post G A none (dt_put M k res)) args s 0 0 A) 2 [(0, .ref (G.1 k 0)), (1, .int x1)] [] (dt_put M k T) := by
  intro n
  induction n with
  | zero =>
    intro x1 T h
    unfold fX5_fall_2 at h
    cases h
  | succ n ih =>
    intro x1 T h
    unfold fX5_fall_2 at h
    refine dz_iload_n (pc := 2) C dX5_fall_2 rfl 1 rfl ?_
    refine dz_aload_n (pc := 3) C dX5_fall_3 rfl 0 rfl ?_
    refine dz_getI (pc := 4) (k := k) (j := 1) (v := (T 1 0)) C Fc_X5 hk (by decide) rfl rfl fl_X5_15 (dt_rA _ _ _ _ _) dX5_fall_4 ?_
    refine dz_icmp_ge (pc := 7) (t := 74) C dX5_fall_7 (by decide) h (fun h => ?_) (fun h => ?_)
    · refine dz_aload_n (pc := 74) C dX5_fall_74 rfl 0 rfl ?_
      obtain ⟨q1, eq1, h⟩ := dt_bind h
      refine dz_callVv (pc := 75) (st := []) (k := k) (As := []) (M' := (dt_put M k q1)) C Fc_X5 hk mf_X5_clearCells rfl ml_X5_52 (m_X5_clearCells l hk _ _ eq1) rfl rfl (by omega) (by decide) (Nat.le_of_ble_eq_true rfl) dX5_fall_75 ?_
      cases dt_some h
      exact dz_vret (pc := 78) C hr dX5_fall_78
    · refine dz_aload_n (pc := 10) C dX5_fall_10 rfl 0 rfl ?_
      refine dz_getR (pc := 11) (k := k) (j := 6) C Fc_X5 hk (by decide) (by decide) rfl fl_X5_31 dX5_fall_11 ?_
      refine dz_iload_n (pc := 14) C dX5_fall_14 rfl 1 rfl ?_
      refine dz_iald (pc := 15) (k := k) (j := 6) (n := 20) (f := (T 6)) C hk (by decide) rfl (dt_rAf _ _ _ _) dX5_fall_15 h (fun a2 h => ?_)
      refine dz_iconst (pc := 16) (v := (-1 : Int32)) C dX5_fall_16 (by decide) ?_
      refine dz_icmp_ne (pc := 17) (t := 68) C dX5_fall_17 (by decide) h (fun h => ?_) (fun h => ?_)
      · exact tX5_fall_68 C hr hk ih x1 T h
      · refine dz_aload_n (pc := 20) C dX5_fall_20 rfl 0 rfl ?_
        refine dz_getR (pc := 21) (k := k) (j := 8) C Fc_X5 hk (by decide) (by decide) rfl fl_X5_37 dX5_fall_21 ?_
        refine dz_iload_n (pc := 24) C dX5_fall_24 rfl 1 rfl ?_
        refine dz_iald (pc := 25) (k := k) (j := 8) (n := 20) (f := (T 8)) C hk (by decide) rfl (dt_rAf _ _ _ _) dX5_fall_25 h (fun a3 h => ?_)
        refine dz_istore_n (pc := 26) C dX5_fall_26 rfl (by decide) rfl ?_
        refine dz_aload_n (pc := 27) C dX5_fall_27 rfl 1 rfl ?_
        refine dz_getR (pc := 28) (k := k) (j := 4) C Fc_X5 hk (by decide) (by decide) rfl fl_X5_25 dX5_fall_28 ?_
        refine dz_iload_n (pc := 31) C dX5_fall_31 rfl 2 rfl ?_
        refine dz_iconst (pc := 32) (v := (0 : Int32)) C dX5_fall_32 (by decide) ?_
        refine dz_aload_n (pc := 33) C dX5_fall_33 rfl 1 rfl ?_
        refine dz_getR (pc := 34) (k := k) (j := 4) C Fc_X5 hk (by decide) (by decide) rfl fl_X5_25 dX5_fall_34 ?_
        refine dz_iload_n (pc := 37) C dX5_fall_37 rfl 2 rfl ?_
        refine dz_iald (pc := 38) (k := k) (j := 4) (n := 20) (f := (T 4)) C hk (by decide) rfl (dt_rAf _ _ _ _) dX5_fall_38 h (fun a4 h => ?_)
        refine dz_iload_n (pc := 39) C dX5_fall_39 rfl 0 rfl ?_
        refine dz_isub (pc := 40) C dX5_fall_40 ?_
        refine dz_max (pc := 41) C ml_X5_75 (by omega) (Nat.le_of_ble_eq_true rfl) dX5_fall_41 ?_
        refine dz_iast (pc := 44) (k := k) (j := 4) (n := 20) (M' := fun a5 => (dt_put M k (dt_set T 4 a5 (if (0 : Int32) < (((T 4) a4) - ((T 8) a3)) then (((T 4) a4) - ((T 8) a3)) else (0 : Int32))))) C hk (by decide) rfl (fun a5 => (dt_wA _ _ _ _ _ _)) dX5_fall_44 h (fun a5 h => ?_)
        refine dz_aload_n (pc := 45) C dX5_fall_45 rfl 1 rfl ?_
        refine dz_iload_n (pc := 46) C dX5_fall_46 rfl 2 rfl ?_
        refine dz_bipush (pc := 47) (v := (59 : Int32)) C dX5_fall_47 (by decide) ?_
        refine dz_bipush (pc := 49) (v := (10 : Int32)) C dX5_fall_49 (by decide) ?_
        refine dz_aload_n (pc := 51) C dX5_fall_51 rfl 1 rfl ?_
        refine dz_getR (pc := 52) (k := k) (j := 7) C Fc_X5 hk (by decide) (by decide) rfl fl_X5_34 dX5_fall_52 ?_
        refine dz_iload_n (pc := 55) C dX5_fall_55 rfl 2 rfl ?_
        refine dz_iald (pc := 56) (k := k) (j := 7) (n := 20) (f := (T 7)) C hk (by decide) rfl (dt_rAf _ _ _ _) dX5_fall_56 h (fun a6 h => ?_)
        refine dz_iadd (pc := 57) C dX5_fall_57 ?_
        refine dz_iconst (pc := 58) (v := (2 : Int32)) C dX5_fall_58 (by decide) ?_
        refine dz_iload_n (pc := 59) C dX5_fall_59 rfl 0 rfl ?_
        refine dz_imul (pc := 60) C dX5_fall_60 ?_
        refine dz_iadd (pc := 61) C dX5_fall_61 ?_
        refine dz_min (pc := 62) C ml_X5_127 (by omega) (Nat.le_of_ble_eq_true rfl) dX5_fall_62 ?_
        obtain ⟨q7, eq7, h⟩ := dt_bind h
        refine dz_callVv (pc := 65) (st := []) (k := k) (As := [.int x1, .int (if (((10 : Int32) + ((T 7) a6)) + ((2 : Int32) * ((T 8) a3))) < (59 : Int32) then (((10 : Int32) + ((T 7) a6)) + ((2 : Int32) * ((T 8) a3))) else (59 : Int32))]) (M' := (dt_put M k q7)) C Fc_X5 hk mf_X5_toYard rfl ml_X5_124 (m_X5_toYard l hk _ _ _ _ eq7) rfl rfl (by omega) (by decide) (Nat.le_of_ble_eq_true rfl) dX5_fall_65 ?_
        refine dz_sub [1, 2] rfl ?_
        exact tX5_fall_68 C hr hk ih x1 q7 h
def fX5_fall  (T : dt_Ob) : Option (dt_Ob) := (fX5_fall_2 dt_F (0 : Int32) T)
set_option maxRecDepth 10000 in
set_option maxHeartbeats 4000000 in
theorem m_X5_fall {nb : Nat} (l : Launch) {k : Nat} (hk : k < 18 + nb ∧ dt_c k = 5)  (M : dt_M) (T : dt_Ob)   {res : dt_Ob} (h : fX5_fall T = some res) : dt_Met nb l yX5_fall cX5_fall 3 none 3 (fun G => [.ref (G.1 k 0)]) (dt_put M k T) none (dt_put M k res) := by
  refine dz_enter (lv := fun G => [(0, .ref (G.1 k 0))]) (by decide) (fun _ => rfl) (fun _ => Nat.le_of_ble_eq_true rfl) (fun G A p e s m args below meth c C hr => ?_)
  unfold fX5_fall at h
  refine dz_iconst (pc := 0) (v := (0 : Int32)) C dX5_fall_0 (by decide) ?_
  refine dz_istore_n (pc := 1) C dX5_fall_1 rfl (by decide) rfl ?_
  refine dz_sub [1, 0] rfl ?_
  exact tX5_fall_2 C hr hk dt_F (0 : Int32) T h

def fX5_clear_26 (r2 : Int32 → dt_Ob → Option (dt_Ob)) (x1 : Int32) (T : dt_Ob) : Option (dt_Ob) := (r2 (x1 + (1 : Int32)) T)
set_option maxRecDepth 10000 in
set_option maxHeartbeats 4000000 in
theorem tX5_clear_26 {nb : Nat} {G : dt_G} {A : Nat → Prop} {p : Program} {l : Launch} {e : Env} {s : State} {m : MethodId} {args : Array Value} {below : List Frame} {meth : Method} {c : Code} (C : dt_Cx nb G A p s m args meth c cX5_clear 2 RX5) (hr : meth.sig.returnType = none) {k : Nat} (hk : k < 18 + nb ∧ dt_c k = 5) {M : dt_M} {res : dt_Ob} {r2 : Int32 → dt_Ob → Option (dt_Ob)} (hr2 : ∀ (x1 : Int32) (T : dt_Ob), r2 x1 T = some res → dt_At G A p l e (dt_rm 3) s m args below meth c 2 (MQ below (dt_Post G A none (dt_put M k res)) args s 0 0 A) 2 [(0, .ref (G.1 k 0)), (1, .int x1)] [] (dt_put M k T)) : ∀ (x1 : Int32) (T : dt_Ob), fX5_clear_26 r2 x1 T = some res → dt_At G A p l e (dt_rm 3) s m args below meth c 2 (MQ below (dt_Post G A none (dt_put M k res)) args s 0 0 A) 26 [(0, .ref (G.1 k 0)), (1, .int x1)] [] (dt_put M k T) := by
  intro x1 T h
  unfold fX5_clear_26 at h
  refine dz_iinc (pc := 26) (v := (x1 + (1 : Int32))) C dX5_clear_26 1 rfl rfl (by decide) rfl ?_
  refine dz_goto (pc := 29) (t := 2) C dX5_clear_29 (by decide) ?_
  refine dz_sub [1, 0] rfl ?_
  exact hr2 (x1 + (1 : Int32)) T h
def fX5_clear_2  : Nat → Int32 → dt_Ob → Option (dt_Ob)
  | 0, _, _ => none
  | n + 1, x1, T => (if (T 1 0) ≤ x1 then ((fX5_clearCells T).bind fun q1 => (some q1)) else ((dt_ix x1 20).bind fun a2 => (if ((T 6) a2) = (-1 : Int32) then ((fX5_toYard x1 (0 : Int32) T).bind fun q3 => (fX5_clear_26 (fX5_clear_2 n) x1 q3)) else (fX5_clear_26 (fX5_clear_2 n) x1 T))))
set_option maxRecDepth 10000 in
set_option maxHeartbeats 4000000 in
theorem tX5_clear_2 {nb : Nat} {G : dt_G} {A : Nat → Prop} {p : Program} {l : Launch} {e : Env} {s : State} {m : MethodId} {args : Array Value} {below : List Frame} {meth : Method} {c : Code} (C : dt_Cx nb G A p s m args meth c cX5_clear 2 RX5) (hr : meth.sig.returnType = none) {k : Nat} (hk : k < 18 + nb ∧ dt_c k = 5) {M : dt_M} {res : dt_Ob}  : ∀ (n : Nat) (x1 : Int32) (T : dt_Ob), fX5_clear_2 n x1 T = some res → dt_At G A p l e (dt_rm 3) s m args below meth c 2 (MQ below (dt_Post G A none (dt_put M k res)) args s 0 0 A) 2 [(0, .ref (G.1 k 0)), (1, .int x1)] [] (dt_put M k T) := by
  intro n
  induction n with
  | zero =>
    intro x1 T h
    unfold fX5_clear_2 at h
    cases h
  | succ n ih =>
    intro x1 T h
    unfold fX5_clear_2 at h
    refine dz_iload_n (pc := 2) C dX5_clear_2 rfl 1 rfl ?_
    refine dz_aload_n (pc := 3) C dX5_clear_3 rfl 0 rfl ?_
    refine dz_getI (pc := 4) (k := k) (j := 1) (v := (T 1 0)) C Fc_X5 hk (by decide) rfl rfl fl_X5_15 (dt_rA _ _ _ _ _) dX5_clear_4 ?_
    refine dz_icmp_ge (pc := 7) (t := 32) C dX5_clear_7 (by decide) h (fun h => ?_) (fun h => ?_)
    · refine dz_aload_n (pc := 32) C dX5_clear_32 rfl 0 rfl ?_
      obtain ⟨q1, eq1, h⟩ := dt_bind h
      refine dz_callVv (pc := 33) (st := []) (k := k) (As := []) (M' := (dt_put M k q1)) C Fc_X5 hk mf_X5_clearCells rfl ml_X5_52 (m_X5_clearCells l hk _ _ eq1) rfl rfl (by omega) (by decide) (Nat.le_of_ble_eq_true rfl) dX5_clear_33 ?_
      cases dt_some h
      exact dz_vret (pc := 36) C hr dX5_clear_36
    · refine dz_aload_n (pc := 10) C dX5_clear_10 rfl 0 rfl ?_
      refine dz_getR (pc := 11) (k := k) (j := 6) C Fc_X5 hk (by decide) (by decide) rfl fl_X5_31 dX5_clear_11 ?_
      refine dz_iload_n (pc := 14) C dX5_clear_14 rfl 1 rfl ?_
      refine dz_iald (pc := 15) (k := k) (j := 6) (n := 20) (f := (T 6)) C hk (by decide) rfl (dt_rAf _ _ _ _) dX5_clear_15 h (fun a2 h => ?_)
      refine dz_iconst (pc := 16) (v := (-1 : Int32)) C dX5_clear_16 (by decide) ?_
      refine dz_icmp_ne (pc := 17) (t := 26) C dX5_clear_17 (by decide) h (fun h => ?_) (fun h => ?_)
      · exact tX5_clear_26 C hr hk ih x1 T h
      · refine dz_aload_n (pc := 20) C dX5_clear_20 rfl 0 rfl ?_
        refine dz_iload_n (pc := 21) C dX5_clear_21 rfl 1 rfl ?_
        refine dz_iconst (pc := 22) (v := (0 : Int32)) C dX5_clear_22 (by decide) ?_
        obtain ⟨q3, eq3, h⟩ := dt_bind h
        refine dz_callVv (pc := 23) (st := []) (k := k) (As := [.int x1, .int (0 : Int32)]) (M' := (dt_put M k q3)) C Fc_X5 hk mf_X5_toYard rfl ml_X5_124 (m_X5_toYard l hk _ _ _ _ eq3) rfl rfl (by omega) (by decide) (Nat.le_of_ble_eq_true rfl) dX5_clear_23 ?_
        exact tX5_clear_26 C hr hk ih x1 q3 h
def fX5_clear  (T : dt_Ob) : Option (dt_Ob) := (fX5_clear_2 dt_F (0 : Int32) T)
set_option maxRecDepth 10000 in
set_option maxHeartbeats 4000000 in
theorem m_X5_clear {nb : Nat} (l : Launch) {k : Nat} (hk : k < 18 + nb ∧ dt_c k = 5)  (M : dt_M) (T : dt_Ob)   {res : dt_Ob} (h : fX5_clear T = some res) : dt_Met nb l yX5_clear cX5_clear 2 none 3 (fun G => [.ref (G.1 k 0)]) (dt_put M k T) none (dt_put M k res) := by
  refine dz_enter (lv := fun G => [(0, .ref (G.1 k 0))]) (by decide) (fun _ => rfl) (fun _ => Nat.le_of_ble_eq_true rfl) (fun G A p e s m args below meth c C hr => ?_)
  unfold fX5_clear at h
  refine dz_iconst (pc := 0) (v := (0 : Int32)) C dX5_clear_0 (by decide) ?_
  refine dz_istore_n (pc := 1) C dX5_clear_1 rfl (by decide) rfl ?_
  refine dz_sub [1, 0] rfl ?_
  exact tX5_clear_2 C hr hk dt_F (0 : Int32) T h

def fX5_isTopHoly_44 (r4 : Int32 → Int32 → dt_Ob → Option (Int32)) (x1 : Int32) (x2 : Int32) (T : dt_Ob) : Option (Int32) := (r4 x1 (x2 + (1 : Int32)) T)
set_option maxRecDepth 10000 in
set_option maxHeartbeats 4000000 in
theorem tX5_isTopHoly_44 {nb : Nat} {G : dt_G} {A : Nat → Prop} {p : Program} {l : Launch} {e : Env} {s : State} {m : MethodId} {args : Array Value} {below : List Frame} {meth : Method} {c : Code} (C : dt_Cx nb G A p s m args meth c cX5_isTopHoly 3 RX5) (hr : meth.sig.returnType = (some .boolean)) {k : Nat} (hk : k < 18 + nb ∧ dt_c k = 5) {M : dt_M} {res : Int32} {r4 : Int32 → Int32 → dt_Ob → Option (Int32)} (hr4 : ∀ (x1 : Int32) (x2 : Int32) (T : dt_Ob), r4 x1 x2 T = some res → dt_At G A p l e (dt_rm 1) s m args below meth c 3 (MQ below (dt_Post G A (some (.int res)) (dt_put M k T)) args s 0 0 A) 4 [(0, .ref (G.1 k 0)), (1, .int x1), (2, .int x2)] [] (dt_put M k T)) : ∀ (x1 : Int32) (x2 : Int32) (T : dt_Ob), fX5_isTopHoly_44 r4 x1 x2 T = some res → dt_At G A p l e (dt_rm 1) s m args below meth c 3 (MQ below (dt_Post G A (some (.int res)) (dt_put M k T)) args s 0 0 A) 44 [(0, .ref (G.1 k 0)), (1, .int x1), (2, .int x2)] [] (dt_put M k T) := by
  intro x1 x2 T h
  unfold fX5_isTopHoly_44 at h
  refine dz_iinc (pc := 44) (v := (x2 + (1 : Int32))) C dX5_isTopHoly_44 2 rfl rfl (by decide) rfl ?_
  refine dz_goto (pc := 47) (t := 4) C dX5_isTopHoly_47 (by decide) ?_
  refine dz_sub [1, 2, 0] rfl ?_
  exact hr4 x1 (x2 + (1 : Int32)) T h
def fX5_isTopHoly_42 (r4 : Int32 → Int32 → dt_Ob → Option (Int32)) (x2 : Int32) (T : dt_Ob) : Option (Int32) := (fX5_isTopHoly_44 r4 x2 x2 T)
set_option maxRecDepth 10000 in
set_option maxHeartbeats 4000000 in
theorem tX5_isTopHoly_42 {nb : Nat} {G : dt_G} {A : Nat → Prop} {p : Program} {l : Launch} {e : Env} {s : State} {m : MethodId} {args : Array Value} {below : List Frame} {meth : Method} {c : Code} (C : dt_Cx nb G A p s m args meth c cX5_isTopHoly 3 RX5) (hr : meth.sig.returnType = (some .boolean)) {k : Nat} (hk : k < 18 + nb ∧ dt_c k = 5) {M : dt_M} {res : Int32} {r4 : Int32 → Int32 → dt_Ob → Option (Int32)} (hr4 : ∀ (x1 : Int32) (x2 : Int32) (T : dt_Ob), r4 x1 x2 T = some res → dt_At G A p l e (dt_rm 1) s m args below meth c 3 (MQ below (dt_Post G A (some (.int res)) (dt_put M k T)) args s 0 0 A) 4 [(0, .ref (G.1 k 0)), (1, .int x1), (2, .int x2)] [] (dt_put M k T)) : ∀ (x2 : Int32) (T : dt_Ob), fX5_isTopHoly_42 r4 x2 T = some res → dt_At G A p l e (dt_rm 1) s m args below meth c 3 (MQ below (dt_Post G A (some (.int res)) (dt_put M k T)) args s 0 0 A) 42 [(0, .ref (G.1 k 0)), (2, .int x2)] [] (dt_put M k T) := by
  intro x2 T h
  unfold fX5_isTopHoly_42 at h
  refine dz_iload_n (pc := 42) C dX5_isTopHoly_42 rfl 1 rfl ?_
  refine dz_istore_n (pc := 43) C dX5_isTopHoly_43 rfl (by decide) rfl ?_
  refine dz_sub [1, 0, 2] rfl ?_
  exact tX5_isTopHoly_44 C hr hk hr4 x2 x2 T h
def fX5_isTopHoly_4  : Nat → Int32 → Int32 → dt_Ob → Option (Int32)
  | 0, _, _, _ => none
  | n + 1, x1, x2, T => (if (T 1 0) ≤ x2 then (if x1 = (-1 : Int32) then (some (0 : Int32)) else ((dt_ix x1 20).bind fun a1 => (if (((T 5) a1) &&& (4 : Int32)) = 0 then (some (0 : Int32)) else (some (1 : Int32))))) else ((dt_ix x2 20).bind fun a2 => (if ((T 6) a2) = (-1 : Int32) then (if x1 = (-1 : Int32) then (fX5_isTopHoly_42 (fX5_isTopHoly_4 n) x2 T) else ((dt_ix x2 20).bind fun a3 => ((dt_ix x1 20).bind fun a4 => (if ((T 8) a3) ≤ ((T 8) a4) then (fX5_isTopHoly_44 (fX5_isTopHoly_4 n) x1 x2 T) else (fX5_isTopHoly_42 (fX5_isTopHoly_4 n) x2 T))))) else (fX5_isTopHoly_44 (fX5_isTopHoly_4 n) x1 x2 T))))
set_option maxRecDepth 10000 in
set_option maxHeartbeats 4000000 in
theorem tX5_isTopHoly_4 {nb : Nat} {G : dt_G} {A : Nat → Prop} {p : Program} {l : Launch} {e : Env} {s : State} {m : MethodId} {args : Array Value} {below : List Frame} {meth : Method} {c : Code} (C : dt_Cx nb G A p s m args meth c cX5_isTopHoly 3 RX5) (hr : meth.sig.returnType = (some .boolean)) {k : Nat} (hk : k < 18 + nb ∧ dt_c k = 5) {M : dt_M} {res : Int32}  : ∀ (n : Nat) (x1 : Int32) (x2 : Int32) (T : dt_Ob), fX5_isTopHoly_4 n x1 x2 T = some res → dt_At G A p l e (dt_rm 1) s m args below meth c 3 (MQ below (dt_Post G A (some (.int res)) (dt_put M k T)) args s 0 0 A) 4 [(0, .ref (G.1 k 0)), (1, .int x1), (2, .int x2)] [] (dt_put M k T) := by
  intro n
  induction n with
  | zero =>
    intro x1 x2 T h
    unfold fX5_isTopHoly_4 at h
    cases h
  | succ n ih =>
    intro x1 x2 T h
    unfold fX5_isTopHoly_4 at h
    refine dz_iload_n (pc := 4) C dX5_isTopHoly_4 rfl 2 rfl ?_
    refine dz_aload_n (pc := 5) C dX5_isTopHoly_5 rfl 0 rfl ?_
    refine dz_getI (pc := 6) (k := k) (j := 1) (v := (T 1 0)) C Fc_X5 hk (by decide) rfl rfl fl_X5_15 (dt_rA _ _ _ _ _) dX5_isTopHoly_6 ?_
    refine dz_icmp_ge (pc := 9) (t := 50) C dX5_isTopHoly_9 (by decide) h (fun h => ?_) (fun h => ?_)
    · refine dz_iload_n (pc := 50) C dX5_isTopHoly_50 rfl 1 rfl ?_
      refine dz_iconst (pc := 51) (v := (-1 : Int32)) C dX5_isTopHoly_51 (by decide) ?_
      refine dz_icmp_eq (pc := 52) (t := 70) C dX5_isTopHoly_52 (by decide) h (fun h => ?_) (fun h => ?_)
      · refine dz_iconst (pc := 70) (v := (0 : Int32)) C dX5_isTopHoly_70 (by decide) ?_
        cases dt_some h
        exact dz_zret (pc := 71) C hr (Or.inl rfl) dX5_isTopHoly_71
      · refine dz_aload_n (pc := 55) C dX5_isTopHoly_55 rfl 0 rfl ?_
        refine dz_getR (pc := 56) (k := k) (j := 5) C Fc_X5 hk (by decide) (by decide) rfl fl_X5_28 dX5_isTopHoly_56 ?_
        refine dz_iload_n (pc := 59) C dX5_isTopHoly_59 rfl 1 rfl ?_
        refine dz_iald (pc := 60) (k := k) (j := 5) (n := 20) (f := (T 5)) C hk (by decide) rfl (dt_rAf _ _ _ _) dX5_isTopHoly_60 h (fun a1 h => ?_)
        refine dz_iconst (pc := 61) (v := (4 : Int32)) C dX5_isTopHoly_61 (by decide) ?_
        refine dz_iand (pc := 62) C dX5_isTopHoly_62 ?_
        refine dz_if_eq (pc := 63) (t := 70) C dX5_isTopHoly_63 (by decide) h (fun h => ?_) (fun h => ?_)
        · refine dz_iconst (pc := 70) (v := (0 : Int32)) C dX5_isTopHoly_70 (by decide) ?_
          cases dt_some h
          exact dz_zret (pc := 71) C hr (Or.inl rfl) dX5_isTopHoly_71
        · refine dz_iconst (pc := 66) (v := (1 : Int32)) C dX5_isTopHoly_66 (by decide) ?_
          refine dz_goto (pc := 67) (t := 71) C dX5_isTopHoly_67 (by decide) ?_
          cases dt_some h
          exact dz_zret (pc := 71) C hr (Or.inr rfl) dX5_isTopHoly_71
    · refine dz_aload_n (pc := 12) C dX5_isTopHoly_12 rfl 0 rfl ?_
      refine dz_getR (pc := 13) (k := k) (j := 6) C Fc_X5 hk (by decide) (by decide) rfl fl_X5_31 dX5_isTopHoly_13 ?_
      refine dz_iload_n (pc := 16) C dX5_isTopHoly_16 rfl 2 rfl ?_
      refine dz_iald (pc := 17) (k := k) (j := 6) (n := 20) (f := (T 6)) C hk (by decide) rfl (dt_rAf _ _ _ _) dX5_isTopHoly_17 h (fun a2 h => ?_)
      refine dz_iconst (pc := 18) (v := (-1 : Int32)) C dX5_isTopHoly_18 (by decide) ?_
      refine dz_icmp_ne (pc := 19) (t := 44) C dX5_isTopHoly_19 (by decide) h (fun h => ?_) (fun h => ?_)
      · exact tX5_isTopHoly_44 C hr hk ih x1 x2 T h
      · refine dz_iload_n (pc := 22) C dX5_isTopHoly_22 rfl 1 rfl ?_
        refine dz_iconst (pc := 23) (v := (-1 : Int32)) C dX5_isTopHoly_23 (by decide) ?_
        refine dz_icmp_eq (pc := 24) (t := 42) C dX5_isTopHoly_24 (by decide) h (fun h => ?_) (fun h => ?_)
        · refine dz_sub [0, 2] rfl ?_
          exact tX5_isTopHoly_42 C hr hk ih x2 T h
        · refine dz_aload_n (pc := 27) C dX5_isTopHoly_27 rfl 0 rfl ?_
          refine dz_getR (pc := 28) (k := k) (j := 8) C Fc_X5 hk (by decide) (by decide) rfl fl_X5_37 dX5_isTopHoly_28 ?_
          refine dz_iload_n (pc := 31) C dX5_isTopHoly_31 rfl 2 rfl ?_
          refine dz_iald (pc := 32) (k := k) (j := 8) (n := 20) (f := (T 8)) C hk (by decide) rfl (dt_rAf _ _ _ _) dX5_isTopHoly_32 h (fun a3 h => ?_)
          refine dz_aload_n (pc := 33) C dX5_isTopHoly_33 rfl 0 rfl ?_
          refine dz_getR (pc := 34) (k := k) (j := 8) C Fc_X5 hk (by decide) (by decide) rfl fl_X5_37 dX5_isTopHoly_34 ?_
          refine dz_iload_n (pc := 37) C dX5_isTopHoly_37 rfl 1 rfl ?_
          refine dz_iald (pc := 38) (k := k) (j := 8) (n := 20) (f := (T 8)) C hk (by decide) rfl (dt_rAf _ _ _ _) dX5_isTopHoly_38 h (fun a4 h => ?_)
          refine dz_icmp_le (pc := 39) (t := 44) C dX5_isTopHoly_39 (by decide) h (fun h => ?_) (fun h => ?_)
          · exact tX5_isTopHoly_44 C hr hk ih x1 x2 T h
          · refine dz_sub [0, 2] rfl ?_
            exact tX5_isTopHoly_42 C hr hk ih x2 T h
def fX5_isTopHoly  (T : dt_Ob) : Option (Int32) := (fX5_isTopHoly_4 dt_F (-1 : Int32) (0 : Int32) T)
set_option maxRecDepth 10000 in
set_option maxHeartbeats 4000000 in
theorem m_X5_isTopHoly {nb : Nat} (l : Launch) {k : Nat} (hk : k < 18 + nb ∧ dt_c k = 5)  (M : dt_M) (T : dt_Ob)   {res : Int32} (h : fX5_isTopHoly T = some res) : dt_Met nb l yX5_isTopHoly cX5_isTopHoly 3 (some .boolean) 1 (fun G => [.ref (G.1 k 0)]) (dt_put M k T) (some (.int res)) (dt_put M k T) := by
  refine dz_enter (lv := fun G => [(0, .ref (G.1 k 0))]) (by decide) (fun _ => rfl) (fun _ => Nat.le_of_ble_eq_true rfl) (fun G A p e s m args below meth c C hr => ?_)
  unfold fX5_isTopHoly at h
  refine dz_iconst (pc := 0) (v := (-1 : Int32)) C dX5_isTopHoly_0 (by decide) ?_
  refine dz_istore_n (pc := 1) C dX5_isTopHoly_1 rfl (by decide) rfl ?_
  refine dz_iconst (pc := 2) (v := (0 : Int32)) C dX5_isTopHoly_2 (by decide) ?_
  refine dz_istore_n (pc := 3) C dX5_isTopHoly_3 rfl (by decide) rfl ?_
  refine dz_sub [2, 1, 0] rfl ?_
  exact tX5_isTopHoly_4 C hr hk dt_F (-1 : Int32) (0 : Int32) T h

def fX5_overloaded_68 (r4 : Int32 → Int32 → dt_Ob → Option (Int32)) (x1 : Int32) (x2 : Int32) (T : dt_Ob) : Option (Int32) := (r4 x1 (x2 + (1 : Int32)) T)
set_option maxRecDepth 10000 in
set_option maxHeartbeats 4000000 in
theorem tX5_overloaded_68 {nb : Nat} {G : dt_G} {A : Nat → Prop} {p : Program} {l : Launch} {e : Env} {s : State} {m : MethodId} {args : Array Value} {below : List Frame} {meth : Method} {c : Code} (C : dt_Cx nb G A p s m args meth c cX5_overloaded 4 RX5) (hr : meth.sig.returnType = (some .int)) {k : Nat} (hk : k < 18 + nb ∧ dt_c k = 5) {M : dt_M} {res : Int32} {r4 : Int32 → Int32 → dt_Ob → Option (Int32)} (hr4 : ∀ (x1 : Int32) (x2 : Int32) (T : dt_Ob), r4 x1 x2 T = some res → dt_At G A p l e (dt_rm 2) s m args below meth c 4 (MQ below (dt_Post G A (some (.int res)) (dt_put M k T)) args s 0 0 A) 4 [(0, .ref (G.1 k 0)), (1, .int x1), (2, .int x2)] [] (dt_put M k T)) : ∀ (x1 : Int32) (x2 : Int32) (T : dt_Ob), fX5_overloaded_68 r4 x1 x2 T = some res → dt_At G A p l e (dt_rm 2) s m args below meth c 4 (MQ below (dt_Post G A (some (.int res)) (dt_put M k T)) args s 0 0 A) 68 [(0, .ref (G.1 k 0)), (1, .int x1), (2, .int x2)] [] (dt_put M k T) := by
  intro x1 x2 T h
  unfold fX5_overloaded_68 at h
  refine dz_iinc (pc := 68) (v := (x2 + (1 : Int32))) C dX5_overloaded_68 2 rfl rfl (by decide) rfl ?_
  refine dz_goto (pc := 71) (t := 4) C dX5_overloaded_71 (by decide) ?_
  refine dz_sub [1, 2, 0] rfl ?_
  exact hr4 x1 (x2 + (1 : Int32)) T h
def fX5_overloaded_66 (r4 : Int32 → Int32 → dt_Ob → Option (Int32)) (x2 : Int32) (T : dt_Ob) : Option (Int32) := (fX5_overloaded_68 r4 x2 x2 T)
set_option maxRecDepth 10000 in
set_option maxHeartbeats 4000000 in
theorem tX5_overloaded_66 {nb : Nat} {G : dt_G} {A : Nat → Prop} {p : Program} {l : Launch} {e : Env} {s : State} {m : MethodId} {args : Array Value} {below : List Frame} {meth : Method} {c : Code} (C : dt_Cx nb G A p s m args meth c cX5_overloaded 4 RX5) (hr : meth.sig.returnType = (some .int)) {k : Nat} (hk : k < 18 + nb ∧ dt_c k = 5) {M : dt_M} {res : Int32} {r4 : Int32 → Int32 → dt_Ob → Option (Int32)} (hr4 : ∀ (x1 : Int32) (x2 : Int32) (T : dt_Ob), r4 x1 x2 T = some res → dt_At G A p l e (dt_rm 2) s m args below meth c 4 (MQ below (dt_Post G A (some (.int res)) (dt_put M k T)) args s 0 0 A) 4 [(0, .ref (G.1 k 0)), (1, .int x1), (2, .int x2)] [] (dt_put M k T)) : ∀ (x2 : Int32) (T : dt_Ob), fX5_overloaded_66 r4 x2 T = some res → dt_At G A p l e (dt_rm 2) s m args below meth c 4 (MQ below (dt_Post G A (some (.int res)) (dt_put M k T)) args s 0 0 A) 66 [(0, .ref (G.1 k 0)), (2, .int x2)] [] (dt_put M k T) := by
  intro x2 T h
  unfold fX5_overloaded_66 at h
  refine dz_iload_n (pc := 66) C dX5_overloaded_66 rfl 1 rfl ?_
  refine dz_istore_n (pc := 67) C dX5_overloaded_67 rfl (by decide) rfl ?_
  refine dz_sub [1, 0, 2] rfl ?_
  exact tX5_overloaded_68 C hr hk hr4 x2 x2 T h
def fX5_overloaded_41 (r4 : Int32 → Int32 → dt_Ob → Option (Int32)) (x1 : Int32) (x2 : Int32) (s0 : Int32) (T : dt_Ob) : Option (Int32) := (if s0 = 0 then (fX5_overloaded_68 r4 x1 x2 T) else (if x1 = (-1 : Int32) then (fX5_overloaded_66 r4 x2 T) else ((dt_ix x2 20).bind fun a4 => ((dt_ix x1 20).bind fun a5 => (if ((T 8) a4) ≤ ((T 8) a5) then (fX5_overloaded_68 r4 x1 x2 T) else (fX5_overloaded_66 r4 x2 T))))))
set_option maxRecDepth 10000 in
set_option maxHeartbeats 4000000 in
theorem tX5_overloaded_41 {nb : Nat} {G : dt_G} {A : Nat → Prop} {p : Program} {l : Launch} {e : Env} {s : State} {m : MethodId} {args : Array Value} {below : List Frame} {meth : Method} {c : Code} (C : dt_Cx nb G A p s m args meth c cX5_overloaded 4 RX5) (hr : meth.sig.returnType = (some .int)) {k : Nat} (hk : k < 18 + nb ∧ dt_c k = 5) {M : dt_M} {res : Int32} {r4 : Int32 → Int32 → dt_Ob → Option (Int32)} (hr4 : ∀ (x1 : Int32) (x2 : Int32) (T : dt_Ob), r4 x1 x2 T = some res → dt_At G A p l e (dt_rm 2) s m args below meth c 4 (MQ below (dt_Post G A (some (.int res)) (dt_put M k T)) args s 0 0 A) 4 [(0, .ref (G.1 k 0)), (1, .int x1), (2, .int x2)] [] (dt_put M k T)) : ∀ (x1 : Int32) (x2 : Int32) (s0 : Int32) (T : dt_Ob), fX5_overloaded_41 r4 x1 x2 s0 T = some res → dt_At G A p l e (dt_rm 2) s m args below meth c 4 (MQ below (dt_Post G A (some (.int res)) (dt_put M k T)) args s 0 0 A) 41 [(0, .ref (G.1 k 0)), (1, .int x1), (2, .int x2)] [.int s0] (dt_put M k T) := by
  intro x1 x2 s0 T h
  unfold fX5_overloaded_41 at h
  refine dz_istore_n (pc := 41) C dX5_overloaded_41 rfl (by decide) rfl ?_
  refine dz_iload_n (pc := 42) C dX5_overloaded_42 rfl 0 rfl ?_
  refine dz_if_eq (pc := 43) (t := 68) C dX5_overloaded_43 (by decide) h (fun h => ?_) (fun h => ?_)
  · refine dz_sub [1, 2, 3] rfl ?_
    exact tX5_overloaded_68 C hr hk hr4 x1 x2 T h
  · refine dz_iload_n (pc := 46) C dX5_overloaded_46 rfl 2 rfl ?_
    refine dz_iconst (pc := 47) (v := (-1 : Int32)) C dX5_overloaded_47 (by decide) ?_
    refine dz_icmp_eq (pc := 48) (t := 66) C dX5_overloaded_48 (by decide) h (fun h => ?_) (fun h => ?_)
    · refine dz_sub [1, 3] rfl ?_
      exact tX5_overloaded_66 C hr hk hr4 x2 T h
    · refine dz_aload_n (pc := 51) C dX5_overloaded_51 rfl 1 rfl ?_
      refine dz_getR (pc := 52) (k := k) (j := 8) C Fc_X5 hk (by decide) (by decide) rfl fl_X5_37 dX5_overloaded_52 ?_
      refine dz_iload_n (pc := 55) C dX5_overloaded_55 rfl 3 rfl ?_
      refine dz_iald (pc := 56) (k := k) (j := 8) (n := 20) (f := (T 8)) C hk (by decide) rfl (dt_rAf _ _ _ _) dX5_overloaded_56 h (fun a4 h => ?_)
      refine dz_aload_n (pc := 57) C dX5_overloaded_57 rfl 1 rfl ?_
      refine dz_getR (pc := 58) (k := k) (j := 8) C Fc_X5 hk (by decide) (by decide) rfl fl_X5_37 dX5_overloaded_58 ?_
      refine dz_iload_n (pc := 61) C dX5_overloaded_61 rfl 2 rfl ?_
      refine dz_iald (pc := 62) (k := k) (j := 8) (n := 20) (f := (T 8)) C hk (by decide) rfl (dt_rAf _ _ _ _) dX5_overloaded_62 h (fun a5 h => ?_)
      refine dz_icmp_le (pc := 63) (t := 68) C dX5_overloaded_63 (by decide) h (fun h => ?_) (fun h => ?_)
      · refine dz_sub [1, 2, 3] rfl ?_
        exact tX5_overloaded_68 C hr hk hr4 x1 x2 T h
      · refine dz_sub [1, 3] rfl ?_
        exact tX5_overloaded_66 C hr hk hr4 x2 T h
def fX5_overloaded_40 (r4 : Int32 → Int32 → dt_Ob → Option (Int32)) (x1 : Int32) (x2 : Int32) (T : dt_Ob) : Option (Int32) := (fX5_overloaded_41 r4 x1 x2 (0 : Int32) T)
set_option maxRecDepth 10000 in
set_option maxHeartbeats 4000000 in
theorem tX5_overloaded_40 {nb : Nat} {G : dt_G} {A : Nat → Prop} {p : Program} {l : Launch} {e : Env} {s : State} {m : MethodId} {args : Array Value} {below : List Frame} {meth : Method} {c : Code} (C : dt_Cx nb G A p s m args meth c cX5_overloaded 4 RX5) (hr : meth.sig.returnType = (some .int)) {k : Nat} (hk : k < 18 + nb ∧ dt_c k = 5) {M : dt_M} {res : Int32} {r4 : Int32 → Int32 → dt_Ob → Option (Int32)} (hr4 : ∀ (x1 : Int32) (x2 : Int32) (T : dt_Ob), r4 x1 x2 T = some res → dt_At G A p l e (dt_rm 2) s m args below meth c 4 (MQ below (dt_Post G A (some (.int res)) (dt_put M k T)) args s 0 0 A) 4 [(0, .ref (G.1 k 0)), (1, .int x1), (2, .int x2)] [] (dt_put M k T)) : ∀ (x1 : Int32) (x2 : Int32) (T : dt_Ob), fX5_overloaded_40 r4 x1 x2 T = some res → dt_At G A p l e (dt_rm 2) s m args below meth c 4 (MQ below (dt_Post G A (some (.int res)) (dt_put M k T)) args s 0 0 A) 40 [(0, .ref (G.1 k 0)), (1, .int x1), (2, .int x2)] [] (dt_put M k T) := by
  intro x1 x2 T h
  unfold fX5_overloaded_40 at h
  refine dz_iconst (pc := 40) (v := (0 : Int32)) C dX5_overloaded_40 (by decide) ?_
  exact tX5_overloaded_41 C hr hk hr4 x1 x2 (0 : Int32) T h
def fX5_overloaded_4  : Nat → Int32 → Int32 → dt_Ob → Option (Int32)
  | 0, _, _, _ => none
  | n + 1, x1, x2, T => (if (T 1 0) ≤ x2 then (some x1) else ((dt_ix x2 20).bind fun a1 => (if ((T 6) a1) = (-1 : Int32) then ((dt_ix x2 20).bind fun a2 => ((fX5_bears x2 T).bind fun q3 => (if ((T 11) a2) ≤ q3 then (fX5_overloaded_40 (fX5_overloaded_4 n) x1 x2 T) else (fX5_overloaded_41 (fX5_overloaded_4 n) x1 x2 (1 : Int32) T)))) else (fX5_overloaded_40 (fX5_overloaded_4 n) x1 x2 T))))
set_option maxRecDepth 10000 in
set_option maxHeartbeats 4000000 in
theorem tX5_overloaded_4 {nb : Nat} {G : dt_G} {A : Nat → Prop} {p : Program} {l : Launch} {e : Env} {s : State} {m : MethodId} {args : Array Value} {below : List Frame} {meth : Method} {c : Code} (C : dt_Cx nb G A p s m args meth c cX5_overloaded 4 RX5) (hr : meth.sig.returnType = (some .int)) {k : Nat} (hk : k < 18 + nb ∧ dt_c k = 5) {M : dt_M} {res : Int32}  : ∀ (n : Nat) (x1 : Int32) (x2 : Int32) (T : dt_Ob), fX5_overloaded_4 n x1 x2 T = some res → dt_At G A p l e (dt_rm 2) s m args below meth c 4 (MQ below (dt_Post G A (some (.int res)) (dt_put M k T)) args s 0 0 A) 4 [(0, .ref (G.1 k 0)), (1, .int x1), (2, .int x2)] [] (dt_put M k T) := by
  intro n
  induction n with
  | zero =>
    intro x1 x2 T h
    unfold fX5_overloaded_4 at h
    cases h
  | succ n ih =>
    intro x1 x2 T h
    unfold fX5_overloaded_4 at h
    refine dz_iload_n (pc := 4) C dX5_overloaded_4 rfl 2 rfl ?_
    refine dz_aload_n (pc := 5) C dX5_overloaded_5 rfl 0 rfl ?_
    refine dz_getI (pc := 6) (k := k) (j := 1) (v := (T 1 0)) C Fc_X5 hk (by decide) rfl rfl fl_X5_15 (dt_rA _ _ _ _ _) dX5_overloaded_6 ?_
    refine dz_icmp_ge (pc := 9) (t := 74) C dX5_overloaded_9 (by decide) h (fun h => ?_) (fun h => ?_)
    · refine dz_iload_n (pc := 74) C dX5_overloaded_74 rfl 1 rfl ?_
      cases dt_some h
      exact dz_iret (pc := 75) C hr dX5_overloaded_75
    · refine dz_aload_n (pc := 12) C dX5_overloaded_12 rfl 0 rfl ?_
      refine dz_getR (pc := 13) (k := k) (j := 6) C Fc_X5 hk (by decide) (by decide) rfl fl_X5_31 dX5_overloaded_13 ?_
      refine dz_iload_n (pc := 16) C dX5_overloaded_16 rfl 2 rfl ?_
      refine dz_iald (pc := 17) (k := k) (j := 6) (n := 20) (f := (T 6)) C hk (by decide) rfl (dt_rAf _ _ _ _) dX5_overloaded_17 h (fun a1 h => ?_)
      refine dz_iconst (pc := 18) (v := (-1 : Int32)) C dX5_overloaded_18 (by decide) ?_
      refine dz_icmp_ne (pc := 19) (t := 40) C dX5_overloaded_19 (by decide) h (fun h => ?_) (fun h => ?_)
      · exact tX5_overloaded_40 C hr hk ih x1 x2 T h
      · refine dz_aload_n (pc := 22) C dX5_overloaded_22 rfl 0 rfl ?_
        refine dz_getR (pc := 23) (k := k) (j := 11) C Fc_X5 hk (by decide) (by decide) rfl fl_X5_46 dX5_overloaded_23 ?_
        refine dz_iload_n (pc := 26) C dX5_overloaded_26 rfl 2 rfl ?_
        refine dz_iald (pc := 27) (k := k) (j := 11) (n := 20) (f := (T 11)) C hk (by decide) rfl (dt_rAf _ _ _ _) dX5_overloaded_27 h (fun a2 h => ?_)
        refine dz_aload_n (pc := 28) C dX5_overloaded_28 rfl 0 rfl ?_
        refine dz_iload_n (pc := 29) C dX5_overloaded_29 rfl 2 rfl ?_
        obtain ⟨q3, eq3, h⟩ := dt_bind h
        refine dz_callVi (pc := 30) (st := [.int ((T 11) a2)]) (k := k) (As := [.int x2]) (M' := (dt_put M k T)) C Fc_X5 hk mf_X5_bears rfl ml_X5_130 (m_X5_bears l hk _ _ _ eq3) rfl rfl (by omega) (by decide) (Nat.le_of_ble_eq_true rfl) dX5_overloaded_30 ?_
        refine dz_icmp_le (pc := 33) (t := 40) C dX5_overloaded_33 (by decide) h (fun h => ?_) (fun h => ?_)
        · exact tX5_overloaded_40 C hr hk ih x1 x2 T h
        · refine dz_iconst (pc := 36) (v := (1 : Int32)) C dX5_overloaded_36 (by decide) ?_
          refine dz_goto (pc := 37) (t := 41) C dX5_overloaded_37 (by decide) ?_
          exact tX5_overloaded_41 C hr hk ih x1 x2 (1 : Int32) T h
def fX5_overloaded  (T : dt_Ob) : Option (Int32) := (fX5_overloaded_4 dt_F (-1 : Int32) (0 : Int32) T)
set_option maxRecDepth 10000 in
set_option maxHeartbeats 4000000 in
theorem m_X5_overloaded {nb : Nat} (l : Launch) {k : Nat} (hk : k < 18 + nb ∧ dt_c k = 5)  (M : dt_M) (T : dt_Ob)   {res : Int32} (h : fX5_overloaded T = some res) : dt_Met nb l yX5_overloaded cX5_overloaded 4 (some .int) 2 (fun G => [.ref (G.1 k 0)]) (dt_put M k T) (some (.int res)) (dt_put M k T) := by
  refine dz_enter (lv := fun G => [(0, .ref (G.1 k 0))]) (by decide) (fun _ => rfl) (fun _ => Nat.le_of_ble_eq_true rfl) (fun G A p e s m args below meth c C hr => ?_)
  unfold fX5_overloaded at h
  refine dz_iconst (pc := 0) (v := (-1 : Int32)) C dX5_overloaded_0 (by decide) ?_
  refine dz_istore_n (pc := 1) C dX5_overloaded_1 rfl (by decide) rfl ?_
  refine dz_iconst (pc := 2) (v := (0 : Int32)) C dX5_overloaded_2 (by decide) ?_
  refine dz_istore_n (pc := 3) C dX5_overloaded_3 rfl (by decide) rfl ?_
  refine dz_sub [2, 1, 0] rfl ?_
  exact tX5_overloaded_4 C hr hk dt_F (-1 : Int32) (0 : Int32) T h

def fX5_share_150 (r90 : Int32 → Int32 → Int32 → Int32 → Int32 → dt_Ob → Option (dt_Ob)) (x1 : Int32) (x2 : Int32) (x5 : Int32) (x6 : Int32) (x7 : Int32) (T : dt_Ob) : Option (dt_Ob) := (r90 x1 x2 x5 x6 (x7 + (1 : Int32)) T)
set_option maxRecDepth 10000 in
set_option maxHeartbeats 4000000 in
theorem tX5_share_150 {nb : Nat} {G : dt_G} {A : Nat → Prop} {p : Program} {l : Launch} {e : Env} {s : State} {m : MethodId} {args : Array Value} {below : List Frame} {meth : Method} {c : Code} (C : dt_Cx nb G A p s m args meth c cX5_share 9 RX5) (hr : meth.sig.returnType = none) {k : Nat} (hk : k < 18 + nb ∧ dt_c k = 5) {M : dt_M} {res : dt_Ob} {r90 : Int32 → Int32 → Int32 → Int32 → Int32 → dt_Ob → Option (dt_Ob)} (hr90 : ∀ (x1 : Int32) (x2 : Int32) (x5 : Int32) (x6 : Int32) (x7 : Int32) (T : dt_Ob), r90 x1 x2 x5 x6 x7 T = some res → dt_At G A p l e (dt_rm 2) s m args below meth c 9 (MQ below (dt_Post G A none (dt_put M k res)) args s 0 0 A) 90 [(0, .ref (G.1 k 0)), (1, .int x1), (2, .int x2), (5, .int x5), (6, .int x6), (7, .int x7)] [] (dt_put M k T)) : ∀ (x1 : Int32) (x2 : Int32) (x5 : Int32) (x6 : Int32) (x7 : Int32) (T : dt_Ob), fX5_share_150 r90 x1 x2 x5 x6 x7 T = some res → dt_At G A p l e (dt_rm 2) s m args below meth c 9 (MQ below (dt_Post G A none (dt_put M k res)) args s 0 0 A) 150 [(0, .ref (G.1 k 0)), (1, .int x1), (2, .int x2), (5, .int x5), (6, .int x6), (7, .int x7)] [] (dt_put M k T) := by
  intro x1 x2 x5 x6 x7 T h
  unfold fX5_share_150 at h
  refine dz_iinc (pc := 150) (v := (x7 + (1 : Int32))) C dX5_share_150 5 rfl rfl (by decide) rfl ?_
  refine dz_goto (pc := 153) (t := 90) C dX5_share_153 (by decide) ?_
  refine dz_sub [1, 2, 3, 4, 5, 0] rfl ?_
  exact hr90 x1 x2 x5 x6 (x7 + (1 : Int32)) T h
def fX5_share_145 (r90 : Int32 → Int32 → Int32 → Int32 → Int32 → dt_Ob → Option (dt_Ob)) (x1 : Int32) (x2 : Int32) (x5 : Int32) (x6 : Int32) (x7 : Int32) (s1 : Int32) (s2 : Int32) (s3 : Int32) (T : dt_Ob) : Option (dt_Ob) := ((dt_ix s1 20).bind fun a11 => (fX5_share_150 r90 x1 x2 x5 (x6 + (-1 : Int32)) x7 (dt_set T 11 a11 (s2 + s3))))
set_option maxRecDepth 10000 in
set_option maxHeartbeats 4000000 in
theorem tX5_share_145 {nb : Nat} {G : dt_G} {A : Nat → Prop} {p : Program} {l : Launch} {e : Env} {s : State} {m : MethodId} {args : Array Value} {below : List Frame} {meth : Method} {c : Code} (C : dt_Cx nb G A p s m args meth c cX5_share 9 RX5) (hr : meth.sig.returnType = none) {k : Nat} (hk : k < 18 + nb ∧ dt_c k = 5) {M : dt_M} {res : dt_Ob} {r90 : Int32 → Int32 → Int32 → Int32 → Int32 → dt_Ob → Option (dt_Ob)} (hr90 : ∀ (x1 : Int32) (x2 : Int32) (x5 : Int32) (x6 : Int32) (x7 : Int32) (T : dt_Ob), r90 x1 x2 x5 x6 x7 T = some res → dt_At G A p l e (dt_rm 2) s m args below meth c 9 (MQ below (dt_Post G A none (dt_put M k res)) args s 0 0 A) 90 [(0, .ref (G.1 k 0)), (1, .int x1), (2, .int x2), (5, .int x5), (6, .int x6), (7, .int x7)] [] (dt_put M k T)) : ∀ (x1 : Int32) (x2 : Int32) (x5 : Int32) (x6 : Int32) (x7 : Int32) (s1 : Int32) (s2 : Int32) (s3 : Int32) (T : dt_Ob), fX5_share_145 r90 x1 x2 x5 x6 x7 s1 s2 s3 T = some res → dt_At G A p l e (dt_rm 2) s m args below meth c 9 (MQ below (dt_Post G A none (dt_put M k res)) args s 0 0 A) 145 [(0, .ref (G.1 k 0)), (1, .int x1), (2, .int x2), (5, .int x5), (6, .int x6), (7, .int x7)] [.int s3, .int s2, .int s1, .ref (G.1 k (11 + 1))] (dt_put M k T) := by
  intro x1 x2 x5 x6 x7 s1 s2 s3 T h
  unfold fX5_share_145 at h
  refine dz_iadd (pc := 145) C dX5_share_145 ?_
  refine dz_iast (pc := 146) (k := k) (j := 11) (n := 20) (M' := fun a11 => (dt_put M k (dt_set T 11 a11 (s2 + s3)))) C hk (by decide) rfl (fun a11 => (dt_wA _ _ _ _ _ _)) dX5_share_146 h (fun a11 h => ?_)
  refine dz_iinc (pc := 147) (v := (x6 + (-1 : Int32))) C dX5_share_147 4 rfl rfl (by decide) rfl ?_
  refine dz_sub [1, 2, 3, 4, 0, 5] rfl ?_
  exact tX5_share_150 C hr hk hr90 x1 x2 x5 (x6 + (-1 : Int32)) x7 (dt_set T 11 a11 (s2 + s3)) h
def fX5_share_90  : Nat → Int32 → Int32 → Int32 → Int32 → Int32 → dt_Ob → Option (dt_Ob)
  | 0, _, _, _, _, _, _ => none
  | n + 1, x1, x2, x5, x6, x7, T => ((dt_ix x1 20).bind fun a7 => (if ((T 2) a7) ≤ x7 then (some T) else ((dt_ix x1 20).bind fun a8 => ((fX5_cellAt (((T 7) a8) + x7) x2 T).bind fun q9 => (if q9 = (-1 : Int32) then (fX5_share_150 (fX5_share_90 n) x1 x2 x5 x6 x7 T) else ((dt_ix q9 20).bind fun a10 => (if x6 ≤ 0 then (fX5_share_145 (fX5_share_90 n) x1 x2 x5 x6 x7 q9 ((T 11) a10) x5 T) else (fX5_share_145 (fX5_share_90 n) x1 x2 x5 x6 x7 q9 ((T 11) a10) (x5 + (1 : Int32)) T))))))))
set_option maxRecDepth 10000 in
set_option maxHeartbeats 4000000 in
theorem tX5_share_90 {nb : Nat} {G : dt_G} {A : Nat → Prop} {p : Program} {l : Launch} {e : Env} {s : State} {m : MethodId} {args : Array Value} {below : List Frame} {meth : Method} {c : Code} (C : dt_Cx nb G A p s m args meth c cX5_share 9 RX5) (hr : meth.sig.returnType = none) {k : Nat} (hk : k < 18 + nb ∧ dt_c k = 5) {M : dt_M} {res : dt_Ob}  : ∀ (n : Nat) (x1 : Int32) (x2 : Int32) (x5 : Int32) (x6 : Int32) (x7 : Int32) (T : dt_Ob), fX5_share_90 n x1 x2 x5 x6 x7 T = some res → dt_At G A p l e (dt_rm 2) s m args below meth c 9 (MQ below (dt_Post G A none (dt_put M k res)) args s 0 0 A) 90 [(0, .ref (G.1 k 0)), (1, .int x1), (2, .int x2), (5, .int x5), (6, .int x6), (7, .int x7)] [] (dt_put M k T) := by
  intro n
  induction n with
  | zero =>
    intro x1 x2 x5 x6 x7 T h
    unfold fX5_share_90 at h
    cases h
  | succ n ih =>
    intro x1 x2 x5 x6 x7 T h
    unfold fX5_share_90 at h
    refine dz_iload (pc := 90) C dX5_share_90 5 rfl ?_
    refine dz_aload_n (pc := 92) C dX5_share_92 rfl 0 rfl ?_
    refine dz_getR (pc := 93) (k := k) (j := 2) C Fc_X5 hk (by decide) (by decide) rfl fl_X5_18 dX5_share_93 ?_
    refine dz_iload_n (pc := 96) C dX5_share_96 rfl 1 rfl ?_
    refine dz_iald (pc := 97) (k := k) (j := 2) (n := 20) (f := (T 2)) C hk (by decide) rfl (dt_rAf _ _ _ _) dX5_share_97 h (fun a7 h => ?_)
    refine dz_icmp_ge (pc := 98) (t := 156) C dX5_share_98 (by decide) h (fun h => ?_) (fun h => ?_)
    · cases dt_some h
      exact dz_vret (pc := 156) C hr dX5_share_156
    · refine dz_aload_n (pc := 101) C dX5_share_101 rfl 0 rfl ?_
      refine dz_aload_n (pc := 102) C dX5_share_102 rfl 0 rfl ?_
      refine dz_getR (pc := 103) (k := k) (j := 7) C Fc_X5 hk (by decide) (by decide) rfl fl_X5_34 dX5_share_103 ?_
      refine dz_iload_n (pc := 106) C dX5_share_106 rfl 1 rfl ?_
      refine dz_iald (pc := 107) (k := k) (j := 7) (n := 20) (f := (T 7)) C hk (by decide) rfl (dt_rAf _ _ _ _) dX5_share_107 h (fun a8 h => ?_)
      refine dz_iload (pc := 108) C dX5_share_108 5 rfl ?_
      refine dz_iadd (pc := 110) C dX5_share_110 ?_
      refine dz_iload_n (pc := 111) C dX5_share_111 rfl 2 rfl ?_
      obtain ⟨q9, eq9, h⟩ := dt_bind h
      refine dz_callVi (pc := 112) (st := []) (k := k) (As := [.int (((T 7) a8) + x7), .int x2]) (M' := (dt_put M k T)) C Fc_X5 hk mf_X5_cellAt rfl ml_X5_93 (m_X5_cellAt l hk _ _ _ _ eq9) rfl rfl (by omega) (by decide) (Nat.le_of_ble_eq_true rfl) dX5_share_112 ?_
      refine dz_istore (pc := 115) C dX5_share_115 (by decide) rfl ?_
      refine dz_iload (pc := 117) C dX5_share_117 0 rfl ?_
      refine dz_iconst (pc := 119) (v := (-1 : Int32)) C dX5_share_119 (by decide) ?_
      refine dz_icmp_eq (pc := 120) (t := 150) C dX5_share_120 (by decide) h (fun h => ?_) (fun h => ?_)
      · refine dz_sub [1, 2, 3, 4, 5, 6] rfl ?_
        exact tX5_share_150 C hr hk ih x1 x2 x5 x6 x7 T h
      · refine dz_aload_n (pc := 123) C dX5_share_123 rfl 1 rfl ?_
        refine dz_getR (pc := 124) (k := k) (j := 11) C Fc_X5 hk (by decide) (by decide) rfl fl_X5_46 dX5_share_124 ?_
        refine dz_iload (pc := 127) C dX5_share_127 0 rfl ?_
        refine dz_dup2 (pc := 129) C dX5_share_129 rfl rfl ?_
        refine dz_iald (pc := 130) (k := k) (j := 11) (n := 20) (f := (T 11)) C hk (by decide) rfl (dt_rAf _ _ _ _) dX5_share_130 h (fun a10 h => ?_)
        refine dz_iload (pc := 131) C dX5_share_131 5 rfl ?_
        refine dz_if_le (pc := 133) (t := 143) C dX5_share_133 (by decide) h (fun h => ?_) (fun h => ?_)
        · refine dz_iload (pc := 143) C dX5_share_143 4 rfl ?_
          refine dz_sub [1, 2, 3, 4, 5, 6] rfl ?_
          exact tX5_share_145 C hr hk ih x1 x2 x5 x6 x7 q9 ((T 11) a10) x5 T h
        · refine dz_iload (pc := 136) C dX5_share_136 4 rfl ?_
          refine dz_iconst (pc := 138) (v := (1 : Int32)) C dX5_share_138 (by decide) ?_
          refine dz_iadd (pc := 139) C dX5_share_139 ?_
          refine dz_goto (pc := 140) (t := 145) C dX5_share_140 (by decide) ?_
          refine dz_sub [1, 2, 3, 4, 5, 6] rfl ?_
          exact tX5_share_145 C hr hk ih x1 x2 x5 x6 x7 q9 ((T 11) a10) (x5 + (1 : Int32)) T h
def fX5_share_46 (r14 : Int32 → Int32 → Int32 → Int32 → dt_Ob → Option (dt_Ob)) (x1 : Int32) (x2 : Int32) (x3 : Int32) (x4 : Int32) (T : dt_Ob) : Option (dt_Ob) := (r14 x1 x2 x3 (x4 + (1 : Int32)) T)
set_option maxRecDepth 10000 in
set_option maxHeartbeats 4000000 in
theorem tX5_share_46 {nb : Nat} {G : dt_G} {A : Nat → Prop} {p : Program} {l : Launch} {e : Env} {s : State} {m : MethodId} {args : Array Value} {below : List Frame} {meth : Method} {c : Code} (C : dt_Cx nb G A p s m args meth c cX5_share 9 RX5) (hr : meth.sig.returnType = none) {k : Nat} (hk : k < 18 + nb ∧ dt_c k = 5) {M : dt_M} {res : dt_Ob} {r14 : Int32 → Int32 → Int32 → Int32 → dt_Ob → Option (dt_Ob)} (hr14 : ∀ (x1 : Int32) (x2 : Int32) (x3 : Int32) (x4 : Int32) (T : dt_Ob), r14 x1 x2 x3 x4 T = some res → dt_At G A p l e (dt_rm 2) s m args below meth c 9 (MQ below (dt_Post G A none (dt_put M k res)) args s 0 0 A) 14 [(0, .ref (G.1 k 0)), (1, .int x1), (2, .int x2), (3, .int x3), (4, .int x4)] [] (dt_put M k T)) : ∀ (x1 : Int32) (x2 : Int32) (x3 : Int32) (x4 : Int32) (T : dt_Ob), fX5_share_46 r14 x1 x2 x3 x4 T = some res → dt_At G A p l e (dt_rm 2) s m args below meth c 9 (MQ below (dt_Post G A none (dt_put M k res)) args s 0 0 A) 46 [(0, .ref (G.1 k 0)), (1, .int x1), (2, .int x2), (3, .int x3), (4, .int x4)] [] (dt_put M k T) := by
  intro x1 x2 x3 x4 T h
  unfold fX5_share_46 at h
  refine dz_iinc (pc := 46) (v := (x4 + (1 : Int32))) C dX5_share_46 4 rfl rfl (by decide) rfl ?_
  refine dz_goto (pc := 49) (t := 14) C dX5_share_49 (by decide) ?_
  refine dz_sub [1, 2, 3, 4, 0] rfl ?_
  exact hr14 x1 x2 x3 (x4 + (1 : Int32)) T h
def fX5_share_14  : Nat → Int32 → Int32 → Int32 → Int32 → dt_Ob → Option (dt_Ob)
  | 0, _, _, _, _, _ => none
  | n + 1, x1, x2, x3, x4, T => ((dt_ix x1 20).bind fun a2 => (if ((T 2) a2) ≤ x4 then (if x3 = 0 then (some T) else ((dt_ix x1 20).bind fun a3 => ((dt_ix x1 20).bind fun a4 => (if x3 = 0 then none else (fX5_share_90 dt_F x1 x2 ((((T 3) a3) + ((T 11) a4)) / x3) ((((T 3) a3) + ((T 11) a4)) - (((((T 3) a3) + ((T 11) a4)) / x3) * x3)) (0 : Int32) T))))) else ((dt_ix x1 20).bind fun a5 => ((fX5_cellAt (((T 7) a5) + x4) x2 T).bind fun q6 => (if q6 = (-1 : Int32) then (fX5_share_46 (fX5_share_14 n) x1 x2 x3 x4 T) else (fX5_share_46 (fX5_share_14 n) x1 x2 (x3 + (1 : Int32)) x4 T))))))
set_option maxRecDepth 10000 in
set_option maxHeartbeats 4000000 in
theorem tX5_share_14 {nb : Nat} {G : dt_G} {A : Nat → Prop} {p : Program} {l : Launch} {e : Env} {s : State} {m : MethodId} {args : Array Value} {below : List Frame} {meth : Method} {c : Code} (C : dt_Cx nb G A p s m args meth c cX5_share 9 RX5) (hr : meth.sig.returnType = none) {k : Nat} (hk : k < 18 + nb ∧ dt_c k = 5) {M : dt_M} {res : dt_Ob}  : ∀ (n : Nat) (x1 : Int32) (x2 : Int32) (x3 : Int32) (x4 : Int32) (T : dt_Ob), fX5_share_14 n x1 x2 x3 x4 T = some res → dt_At G A p l e (dt_rm 2) s m args below meth c 9 (MQ below (dt_Post G A none (dt_put M k res)) args s 0 0 A) 14 [(0, .ref (G.1 k 0)), (1, .int x1), (2, .int x2), (3, .int x3), (4, .int x4)] [] (dt_put M k T) := by
  intro n
  induction n with
  | zero =>
    intro x1 x2 x3 x4 T h
    unfold fX5_share_14 at h
    cases h
  | succ n ih =>
    intro x1 x2 x3 x4 T h
    unfold fX5_share_14 at h
    refine dz_iload (pc := 14) C dX5_share_14 4 rfl ?_
    refine dz_aload_n (pc := 16) C dX5_share_16 rfl 0 rfl ?_
    refine dz_getR (pc := 17) (k := k) (j := 2) C Fc_X5 hk (by decide) (by decide) rfl fl_X5_18 dX5_share_17 ?_
    refine dz_iload_n (pc := 20) C dX5_share_20 rfl 1 rfl ?_
    refine dz_iald (pc := 21) (k := k) (j := 2) (n := 20) (f := (T 2)) C hk (by decide) rfl (dt_rAf _ _ _ _) dX5_share_21 h (fun a2 h => ?_)
    refine dz_icmp_ge (pc := 22) (t := 52) C dX5_share_22 (by decide) h (fun h => ?_) (fun h => ?_)
    · refine dz_iload_n (pc := 52) C dX5_share_52 rfl 3 rfl ?_
      refine dz_if_ne (pc := 53) (t := 57) C dX5_share_53 (by decide) h (fun h => ?_) (fun h => ?_)
      · refine dz_aload_n (pc := 57) C dX5_share_57 rfl 0 rfl ?_
        refine dz_getR (pc := 58) (k := k) (j := 3) C Fc_X5 hk (by decide) (by decide) rfl fl_X5_22 dX5_share_58 ?_
        refine dz_iload_n (pc := 61) C dX5_share_61 rfl 1 rfl ?_
        refine dz_iald (pc := 62) (k := k) (j := 3) (n := 20) (f := (T 3)) C hk (by decide) rfl (dt_rAf _ _ _ _) dX5_share_62 h (fun a3 h => ?_)
        refine dz_aload_n (pc := 63) C dX5_share_63 rfl 0 rfl ?_
        refine dz_getR (pc := 64) (k := k) (j := 11) C Fc_X5 hk (by decide) (by decide) rfl fl_X5_46 dX5_share_64 ?_
        refine dz_iload_n (pc := 67) C dX5_share_67 rfl 1 rfl ?_
        refine dz_iald (pc := 68) (k := k) (j := 11) (n := 20) (f := (T 11)) C hk (by decide) rfl (dt_rAf _ _ _ _) dX5_share_68 h (fun a4 h => ?_)
        refine dz_iadd (pc := 69) C dX5_share_69 ?_
        refine dz_istore (pc := 70) C dX5_share_70 (by decide) rfl ?_
        refine dz_iload (pc := 72) C dX5_share_72 0 rfl ?_
        refine dz_iload_n (pc := 74) C dX5_share_74 rfl 4 rfl ?_
        refine dz_idiv (pc := 75) C dX5_share_75 h (fun h => ?_)
        refine dz_istore (pc := 76) C dX5_share_76 (by decide) rfl ?_
        refine dz_iload (pc := 78) C dX5_share_78 1 rfl ?_
        refine dz_iload (pc := 80) C dX5_share_80 0 rfl ?_
        refine dz_iload_n (pc := 82) C dX5_share_82 rfl 5 rfl ?_
        refine dz_imul (pc := 83) C dX5_share_83 ?_
        refine dz_isub (pc := 84) C dX5_share_84 ?_
        refine dz_istore (pc := 85) C dX5_share_85 (by decide) rfl ?_
        refine dz_iconst (pc := 87) (v := (0 : Int32)) C dX5_share_87 (by decide) ?_
        refine dz_istore (pc := 88) C dX5_share_88 (by decide) rfl ?_
        refine dz_sub [4, 5, 6, 2, 1, 0] rfl ?_
        exact tX5_share_90 C hr hk dt_F x1 x2 ((((T 3) a3) + ((T 11) a4)) / x3) ((((T 3) a3) + ((T 11) a4)) - (((((T 3) a3) + ((T 11) a4)) / x3) * x3)) (0 : Int32) T h
      · cases dt_some h
        exact dz_vret (pc := 56) C hr dX5_share_56
    · refine dz_aload_n (pc := 25) C dX5_share_25 rfl 0 rfl ?_
      refine dz_aload_n (pc := 26) C dX5_share_26 rfl 0 rfl ?_
      refine dz_getR (pc := 27) (k := k) (j := 7) C Fc_X5 hk (by decide) (by decide) rfl fl_X5_34 dX5_share_27 ?_
      refine dz_iload_n (pc := 30) C dX5_share_30 rfl 1 rfl ?_
      refine dz_iald (pc := 31) (k := k) (j := 7) (n := 20) (f := (T 7)) C hk (by decide) rfl (dt_rAf _ _ _ _) dX5_share_31 h (fun a5 h => ?_)
      refine dz_iload (pc := 32) C dX5_share_32 4 rfl ?_
      refine dz_iadd (pc := 34) C dX5_share_34 ?_
      refine dz_iload_n (pc := 35) C dX5_share_35 rfl 2 rfl ?_
      obtain ⟨q6, eq6, h⟩ := dt_bind h
      refine dz_callVi (pc := 36) (st := []) (k := k) (As := [.int (((T 7) a5) + x4), .int x2]) (M' := (dt_put M k T)) C Fc_X5 hk mf_X5_cellAt rfl ml_X5_93 (m_X5_cellAt l hk _ _ _ _ eq6) rfl rfl (by omega) (by decide) (Nat.le_of_ble_eq_true rfl) dX5_share_36 ?_
      refine dz_iconst (pc := 39) (v := (-1 : Int32)) C dX5_share_39 (by decide) ?_
      refine dz_icmp_eq (pc := 40) (t := 46) C dX5_share_40 (by decide) h (fun h => ?_) (fun h => ?_)
      · exact tX5_share_46 C hr hk ih x1 x2 x3 x4 T h
      · refine dz_iinc (pc := 43) (v := (x3 + (1 : Int32))) C dX5_share_43 3 rfl rfl (by decide) rfl ?_
        refine dz_sub [1, 2, 3, 0, 4] rfl ?_
        exact tX5_share_46 C hr hk ih x1 x2 (x3 + (1 : Int32)) x4 T h
def fX5_share  (x1 : Int32) (T : dt_Ob) : Option (dt_Ob) := ((dt_ix x1 20).bind fun a1 => (fX5_share_14 dt_F x1 (((T 8) a1) - (1 : Int32)) (0 : Int32) (0 : Int32) T))
set_option maxRecDepth 10000 in
set_option maxHeartbeats 4000000 in
theorem m_X5_share {nb : Nat} (l : Launch) {k : Nat} (hk : k < 18 + nb ∧ dt_c k = 5)  (M : dt_M) (T : dt_Ob)  (x1 : Int32) {res : dt_Ob} (h : fX5_share x1 T = some res) : dt_Met nb l yX5_share cX5_share 9 none 2 (fun G => [.ref (G.1 k 0), .int x1]) (dt_put M k T) none (dt_put M k res) := by
  refine dz_enter (lv := fun G => [(0, .ref (G.1 k 0)), (1, .int x1)]) (by decide) (fun _ => rfl) (fun _ => Nat.le_of_ble_eq_true rfl) (fun G A p e s m args below meth c C hr => ?_)
  unfold fX5_share at h
  refine dz_aload_n (pc := 0) C dX5_share_0 rfl 0 rfl ?_
  refine dz_getR (pc := 1) (k := k) (j := 8) C Fc_X5 hk (by decide) (by decide) rfl fl_X5_37 dX5_share_1 ?_
  refine dz_iload_n (pc := 4) C dX5_share_4 rfl 1 rfl ?_
  refine dz_iald (pc := 5) (k := k) (j := 8) (n := 20) (f := (T 8)) C hk (by decide) rfl (dt_rAf _ _ _ _) dX5_share_5 h (fun a1 h => ?_)
  refine dz_iconst (pc := 6) (v := (1 : Int32)) C dX5_share_6 (by decide) ?_
  refine dz_isub (pc := 7) C dX5_share_7 ?_
  refine dz_istore_n (pc := 8) C dX5_share_8 rfl (by decide) rfl ?_
  refine dz_iconst (pc := 9) (v := (0 : Int32)) C dX5_share_9 (by decide) ?_
  refine dz_istore_n (pc := 10) C dX5_share_10 rfl (by decide) rfl ?_
  refine dz_iconst (pc := 11) (v := (0 : Int32)) C dX5_share_11 (by decide) ?_
  refine dz_istore (pc := 12) C dX5_share_12 (by decide) rfl ?_
  refine dz_sub [3, 4, 2, 1, 0] rfl ?_
  exact tX5_share_14 C hr hk dt_F x1 (((T 8) a1) - (1 : Int32)) (0 : Int32) (0 : Int32) T h

def fX5_weigh_56 (r15 : Int32 → dt_Ob → Option (dt_Ob)) (r21 : Int32 → Int32 → dt_Ob → Option (dt_Ob)) (x1 : Int32) (x2 : Int32) (T : dt_Ob) : Option (dt_Ob) := (r21 x1 (x2 + (1 : Int32)) T)
set_option maxRecDepth 10000 in
set_option maxHeartbeats 4000000 in
theorem tX5_weigh_56 {nb : Nat} {G : dt_G} {A : Nat → Prop} {p : Program} {l : Launch} {e : Env} {s : State} {m : MethodId} {args : Array Value} {below : List Frame} {meth : Method} {c : Code} (C : dt_Cx nb G A p s m args meth c cX5_weigh 4 RX5) (hr : meth.sig.returnType = none) {k : Nat} (hk : k < 18 + nb ∧ dt_c k = 5) {M : dt_M} {res : dt_Ob} {r15 : Int32 → dt_Ob → Option (dt_Ob)} (hr15 : ∀ (x1 : Int32) (T : dt_Ob), r15 x1 T = some res → dt_At G A p l e (dt_rm 3) s m args below meth c 4 (MQ below (dt_Post G A none (dt_put M k res)) args s 0 0 A) 15 [(0, .ref (G.1 k 0)), (1, .int x1)] [] (dt_put M k T)) {r21 : Int32 → Int32 → dt_Ob → Option (dt_Ob)} (hr21 : ∀ (x1 : Int32) (x2 : Int32) (T : dt_Ob), r21 x1 x2 T = some res → dt_At G A p l e (dt_rm 3) s m args below meth c 4 (MQ below (dt_Post G A none (dt_put M k res)) args s 0 0 A) 21 [(0, .ref (G.1 k 0)), (1, .int x1), (2, .int x2)] [] (dt_put M k T)) : ∀ (x1 : Int32) (x2 : Int32) (T : dt_Ob), fX5_weigh_56 r15 r21 x1 x2 T = some res → dt_At G A p l e (dt_rm 3) s m args below meth c 4 (MQ below (dt_Post G A none (dt_put M k res)) args s 0 0 A) 56 [(0, .ref (G.1 k 0)), (1, .int x1), (2, .int x2)] [] (dt_put M k T) := by
  intro x1 x2 T h
  unfold fX5_weigh_56 at h
  refine dz_iinc (pc := 56) (v := (x2 + (1 : Int32))) C dX5_weigh_56 2 rfl rfl (by decide) rfl ?_
  refine dz_goto (pc := 59) (t := 21) C dX5_weigh_59 (by decide) ?_
  refine dz_sub [1, 2, 0] rfl ?_
  exact hr21 x1 (x2 + (1 : Int32)) T h
def fX5_weigh_21 (r15 : Int32 → dt_Ob → Option (dt_Ob)) : Nat → Int32 → Int32 → dt_Ob → Option (dt_Ob)
  | 0, _, _, _ => none
  | n + 1, x1, x2, T => (if (T 0 0) ≤ x2 then (r15 (x1 + (-1 : Int32)) T) else ((fX5_cellAt x2 x1 T).bind fun q2 => (if q2 = (-1 : Int32) then (fX5_weigh_56 r15 (fX5_weigh_21 r15 n) x1 x2 T) else ((dt_ix q2 20).bind fun a3 => (if ((T 7) a3) = x2 then ((fX5_share q2 T).bind fun q4 => (fX5_weigh_56 r15 (fX5_weigh_21 r15 n) x1 x2 q4)) else (fX5_weigh_56 r15 (fX5_weigh_21 r15 n) x1 x2 T))))))
set_option maxRecDepth 10000 in
set_option maxHeartbeats 4000000 in
theorem tX5_weigh_21 {nb : Nat} {G : dt_G} {A : Nat → Prop} {p : Program} {l : Launch} {e : Env} {s : State} {m : MethodId} {args : Array Value} {below : List Frame} {meth : Method} {c : Code} (C : dt_Cx nb G A p s m args meth c cX5_weigh 4 RX5) (hr : meth.sig.returnType = none) {k : Nat} (hk : k < 18 + nb ∧ dt_c k = 5) {M : dt_M} {res : dt_Ob} {r15 : Int32 → dt_Ob → Option (dt_Ob)} (hr15 : ∀ (x1 : Int32) (T : dt_Ob), r15 x1 T = some res → dt_At G A p l e (dt_rm 3) s m args below meth c 4 (MQ below (dt_Post G A none (dt_put M k res)) args s 0 0 A) 15 [(0, .ref (G.1 k 0)), (1, .int x1)] [] (dt_put M k T)) : ∀ (n : Nat) (x1 : Int32) (x2 : Int32) (T : dt_Ob), fX5_weigh_21 r15 n x1 x2 T = some res → dt_At G A p l e (dt_rm 3) s m args below meth c 4 (MQ below (dt_Post G A none (dt_put M k res)) args s 0 0 A) 21 [(0, .ref (G.1 k 0)), (1, .int x1), (2, .int x2)] [] (dt_put M k T) := by
  intro n
  induction n with
  | zero =>
    intro x1 x2 T h
    unfold fX5_weigh_21 at h
    cases h
  | succ n ih =>
    intro x1 x2 T h
    unfold fX5_weigh_21 at h
    refine dz_iload_n (pc := 21) C dX5_weigh_21 rfl 2 rfl ?_
    refine dz_aload_n (pc := 22) C dX5_weigh_22 rfl 0 rfl ?_
    refine dz_getI (pc := 23) (k := k) (j := 0) (v := (T 0 0)) C Fc_X5 hk (by decide) rfl rfl fl_X5_9 (dt_rA _ _ _ _ _) dX5_weigh_23 ?_
    refine dz_icmp_ge (pc := 26) (t := 62) C dX5_weigh_26 (by decide) h (fun h => ?_) (fun h => ?_)
    · refine dz_iinc (pc := 62) (v := (x1 + (-1 : Int32))) C dX5_weigh_62 1 rfl rfl (by decide) rfl ?_
      refine dz_goto (pc := 65) (t := 15) C dX5_weigh_65 (by decide) ?_
      refine dz_sub [1, 0] rfl ?_
      exact hr15 (x1 + (-1 : Int32)) T h
    · refine dz_aload_n (pc := 29) C dX5_weigh_29 rfl 0 rfl ?_
      refine dz_iload_n (pc := 30) C dX5_weigh_30 rfl 2 rfl ?_
      refine dz_iload_n (pc := 31) C dX5_weigh_31 rfl 1 rfl ?_
      obtain ⟨q2, eq2, h⟩ := dt_bind h
      refine dz_callVi (pc := 32) (st := []) (k := k) (As := [.int x2, .int x1]) (M' := (dt_put M k T)) C Fc_X5 hk mf_X5_cellAt rfl ml_X5_93 (m_X5_cellAt l hk _ _ _ _ eq2) rfl rfl (by omega) (by decide) (Nat.le_of_ble_eq_true rfl) dX5_weigh_32 ?_
      refine dz_istore_n (pc := 35) C dX5_weigh_35 rfl (by decide) rfl ?_
      refine dz_iload_n (pc := 36) C dX5_weigh_36 rfl 0 rfl ?_
      refine dz_iconst (pc := 37) (v := (-1 : Int32)) C dX5_weigh_37 (by decide) ?_
      refine dz_icmp_eq (pc := 38) (t := 56) C dX5_weigh_38 (by decide) h (fun h => ?_) (fun h => ?_)
      · refine dz_sub [1, 2, 3] rfl ?_
        exact tX5_weigh_56 C hr hk hr15 ih x1 x2 T h
      · refine dz_aload_n (pc := 41) C dX5_weigh_41 rfl 1 rfl ?_
        refine dz_getR (pc := 42) (k := k) (j := 7) C Fc_X5 hk (by decide) (by decide) rfl fl_X5_34 dX5_weigh_42 ?_
        refine dz_iload_n (pc := 45) C dX5_weigh_45 rfl 0 rfl ?_
        refine dz_iald (pc := 46) (k := k) (j := 7) (n := 20) (f := (T 7)) C hk (by decide) rfl (dt_rAf _ _ _ _) dX5_weigh_46 h (fun a3 h => ?_)
        refine dz_iload_n (pc := 47) C dX5_weigh_47 rfl 3 rfl ?_
        refine dz_icmp_ne (pc := 48) (t := 56) C dX5_weigh_48 (by decide) h (fun h => ?_) (fun h => ?_)
        · refine dz_sub [1, 2, 3] rfl ?_
          exact tX5_weigh_56 C hr hk hr15 ih x1 x2 T h
        · refine dz_aload_n (pc := 51) C dX5_weigh_51 rfl 1 rfl ?_
          refine dz_iload_n (pc := 52) C dX5_weigh_52 rfl 0 rfl ?_
          obtain ⟨q4, eq4, h⟩ := dt_bind h
          refine dz_callVv (pc := 53) (st := []) (k := k) (As := [.int q2]) (M' := (dt_put M k q4)) C Fc_X5 hk mf_X5_share rfl ml_X5_142 (m_X5_share l hk _ _ _ eq4) rfl rfl (by omega) (by decide) (Nat.le_of_ble_eq_true rfl) dX5_weigh_53 ?_
          refine dz_sub [1, 2, 3] rfl ?_
          exact tX5_weigh_56 C hr hk hr15 ih x1 x2 q4 h
def fX5_weigh_15  : Nat → Int32 → dt_Ob → Option (dt_Ob)
  | 0, _, _ => none
  | n + 1, x1, T => (if x1 ≤ 0 then (some T) else (fX5_weigh_21 (fX5_weigh_15 n) dt_F x1 (0 : Int32) T))
set_option maxRecDepth 10000 in
set_option maxHeartbeats 4000000 in
theorem tX5_weigh_15 {nb : Nat} {G : dt_G} {A : Nat → Prop} {p : Program} {l : Launch} {e : Env} {s : State} {m : MethodId} {args : Array Value} {below : List Frame} {meth : Method} {c : Code} (C : dt_Cx nb G A p s m args meth c cX5_weigh 4 RX5) (hr : meth.sig.returnType = none) {k : Nat} (hk : k < 18 + nb ∧ dt_c k = 5) {M : dt_M} {res : dt_Ob}  : ∀ (n : Nat) (x1 : Int32) (T : dt_Ob), fX5_weigh_15 n x1 T = some res → dt_At G A p l e (dt_rm 3) s m args below meth c 4 (MQ below (dt_Post G A none (dt_put M k res)) args s 0 0 A) 15 [(0, .ref (G.1 k 0)), (1, .int x1)] [] (dt_put M k T) := by
  intro n
  induction n with
  | zero =>
    intro x1 T h
    unfold fX5_weigh_15 at h
    cases h
  | succ n ih =>
    intro x1 T h
    unfold fX5_weigh_15 at h
    refine dz_iload_n (pc := 15) C dX5_weigh_15 rfl 1 rfl ?_
    refine dz_if_le (pc := 16) (t := 68) C dX5_weigh_16 (by decide) h (fun h => ?_) (fun h => ?_)
    · cases dt_some h
      exact dz_vret (pc := 68) C hr dX5_weigh_68
    · refine dz_iconst (pc := 19) (v := (0 : Int32)) C dX5_weigh_19 (by decide) ?_
      refine dz_istore_n (pc := 20) C dX5_weigh_20 rfl (by decide) rfl ?_
      refine dz_sub [1, 2, 0] rfl ?_
      exact tX5_weigh_21 C hr hk ih dt_F x1 (0 : Int32) T h
def fX5_weigh  (T : dt_Ob) : Option (dt_Ob) := ((fX5_tallest (dt_setA T 11 (dt_fill (T 11) 20 (0 : Int32)))).bind fun q1 => (fX5_weigh_15 dt_F (q1 - (1 : Int32)) (dt_setA T 11 (dt_fill (T 11) 20 (0 : Int32)))))
set_option maxRecDepth 10000 in
set_option maxHeartbeats 4000000 in
theorem m_X5_weigh {nb : Nat} (l : Launch) {k : Nat} (hk : k < 18 + nb ∧ dt_c k = 5)  (M : dt_M) (T : dt_Ob)   {res : dt_Ob} (h : fX5_weigh T = some res) : dt_Met nb l yX5_weigh cX5_weigh 4 none 3 (fun G => [.ref (G.1 k 0)]) (dt_put M k T) none (dt_put M k res) := by
  refine dz_enter (lv := fun G => [(0, .ref (G.1 k 0))]) (by decide) (fun _ => rfl) (fun _ => Nat.le_of_ble_eq_true rfl) (fun G A p e s m args below meth c C hr => ?_)
  unfold fX5_weigh at h
  refine dz_aload_n (pc := 0) C dX5_weigh_0 rfl 0 rfl ?_
  refine dz_getR (pc := 1) (k := k) (j := 11) C Fc_X5 hk (by decide) (by decide) rfl fl_X5_46 dX5_weigh_1 ?_
  refine dz_iconst (pc := 4) (v := (0 : Int32)) C dX5_weigh_4 (by decide) ?_
  refine dz_callSv (pc := 5) (st := []) (As := [.ref (G.1 k (11 + 1)), .int (0 : Int32)]) (M' := (dt_put M k (dt_setA T 11 (dt_fill (T 11) 20 (0 : Int32))))) C ms_J7_fill_53178 ml_X5_133 (by have z := m_fill l (k := k) (j := 11) (n := 20) hk (by decide) rfl (by decide) (dt_put M k T) (0 : Int32); rw [dt_rAf, dt_put_s, dt_put_put] at z; exact z) rfl rfl (by omega) (by decide) (Nat.le_of_ble_eq_true rfl) dX5_weigh_5 ?_
  refine dz_aload_n (pc := 8) C dX5_weigh_8 rfl 0 rfl ?_
  obtain ⟨q1, eq1, h⟩ := dt_bind h
  refine dz_callVi (pc := 9) (st := []) (k := k) (As := []) (M' := (dt_put M k (dt_setA T 11 (dt_fill (T 11) 20 (0 : Int32))))) C Fc_X5 hk mf_X5_tallest rfl ml_X5_139 (m_X5_tallest l hk _ _ eq1) rfl rfl (by omega) (by decide) (Nat.le_of_ble_eq_true rfl) dX5_weigh_9 ?_
  refine dz_iconst (pc := 12) (v := (1 : Int32)) C dX5_weigh_12 (by decide) ?_
  refine dz_isub (pc := 13) C dX5_weigh_13 ?_
  refine dz_istore_n (pc := 14) C dX5_weigh_14 rfl (by decide) rfl ?_
  refine dz_sub [1, 0] rfl ?_
  exact tX5_weigh_15 C hr hk dt_F (q1 - (1 : Int32)) (dt_setA T 11 (dt_fill (T 11) 20 (0 : Int32))) h

def fX5_loadOf  (x1 : Int32) (T : dt_Ob) : Option (Int32 × dt_Ob) := ((fX5_isInTower x1 T).bind fun q1 => (if q1 = 0 then (some ((0 : Int32), T)) else ((fX5_weigh T).bind fun q2 => ((dt_ix x1 20).bind fun a3 => (some (((q2 11) a3), q2))))))
set_option maxRecDepth 10000 in
set_option maxHeartbeats 4000000 in
theorem m_X5_loadOf {nb : Nat} (l : Launch) {k : Nat} (hk : k < 18 + nb ∧ dt_c k = 5)  (M : dt_M) (T : dt_Ob)  (x1 : Int32) {res : Int32 × dt_Ob} (h : fX5_loadOf x1 T = some res) : dt_Met nb l yX5_loadOf cX5_loadOf 2 (some .int) 4 (fun G => [.ref (G.1 k 0), .int x1]) (dt_put M k T) (some (.int res.1)) (dt_put M k res.2) := by
  refine dz_enter (lv := fun G => [(0, .ref (G.1 k 0)), (1, .int x1)]) (by decide) (fun _ => rfl) (fun _ => Nat.le_of_ble_eq_true rfl) (fun G A p e s m args below meth c C hr => ?_)
  unfold fX5_loadOf at h
  refine dz_aload_n (pc := 0) C dX5_loadOf_0 rfl 0 rfl ?_
  refine dz_iload_n (pc := 1) C dX5_loadOf_1 rfl 1 rfl ?_
  obtain ⟨q1, eq1, h⟩ := dt_bind h
  refine dz_callVi (pc := 2) (st := []) (k := k) (As := [.int x1]) (M' := (dt_put M k T)) C Fc_X5 hk mf_X5_isInTower rfl ml_X5_81 (m_X5_isInTower l hk _ _ _ eq1) rfl rfl (by omega) (by decide) (Nat.le_of_ble_eq_true rfl) dX5_loadOf_2 ?_
  refine dz_if_ne (pc := 5) (t := 10) C dX5_loadOf_5 (by decide) h (fun h => ?_) (fun h => ?_)
  · refine dz_aload_n (pc := 10) C dX5_loadOf_10 rfl 0 rfl ?_
    obtain ⟨q2, eq2, h⟩ := dt_bind h
    refine dz_callVv (pc := 11) (st := []) (k := k) (As := []) (M' := (dt_put M k q2)) C Fc_X5 hk mf_X5_weigh rfl ml_X5_84 (m_X5_weigh l hk _ _ eq2) rfl rfl (by omega) (by decide) (Nat.le_of_ble_eq_true rfl) dX5_loadOf_11 ?_
    refine dz_aload_n (pc := 14) C dX5_loadOf_14 rfl 0 rfl ?_
    refine dz_getR (pc := 15) (k := k) (j := 11) C Fc_X5 hk (by decide) (by decide) rfl fl_X5_46 dX5_loadOf_15 ?_
    refine dz_iload_n (pc := 18) C dX5_loadOf_18 rfl 1 rfl ?_
    refine dz_iald (pc := 19) (k := k) (j := 11) (n := 20) (f := (q2 11)) C hk (by decide) rfl (dt_rAf _ _ _ _) dX5_loadOf_19 h (fun a3 h => ?_)
    cases dt_some h
    exact dz_iret (pc := 20) C hr dX5_loadOf_20
  · refine dz_iconst (pc := 8) (v := (0 : Int32)) C dX5_loadOf_8 (by decide) ?_
    cases dt_some h
    exact dz_iret (pc := 9) C hr dX5_loadOf_9

def fX5_raise  (x1 : Int32) (x2 : Int32) (T : dt_Ob) : Option (Int32 × dt_Ob) := ((fX5_wouldStand x1 x2 (dt_set T 12 0 (-1 : Int32))).bind fun q1 => (if q1 = 0 then (some ((2 : Int32), (dt_set T 12 0 (-1 : Int32)))) else ((dt_ix x1 20).bind fun a2 => ((fX5_drop x1 x2 (dt_set T 12 0 (-1 : Int32))).bind fun q3 => ((fX5_weigh q3).bind fun q4 => ((fX5_overloaded q4).bind fun q5 => (if q5 = (-1 : Int32) then (some ((0 : Int32), (dt_set q4 12 0 q5))) else ((fX5_lift x1 ((T 6) a2) (dt_set q4 12 0 q5)).bind fun q6 => (some ((3 : Int32), q6))))))))))
set_option maxRecDepth 10000 in
set_option maxHeartbeats 4000000 in
theorem m_X5_raise {nb : Nat} (l : Launch) {k : Nat} (hk : k < 18 + nb ∧ dt_c k = 5)  (M : dt_M) (T : dt_Ob)  (x1 : Int32) (x2 : Int32) {res : Int32 × dt_Ob} (h : fX5_raise x1 x2 T = some res) : dt_Met nb l yX5_raise cX5_raise 4 (some .int) 4 (fun G => [.ref (G.1 k 0), .int x1, .int x2]) (dt_put M k T) (some (.int res.1)) (dt_put M k res.2) := by
  refine dz_enter (lv := fun G => [(0, .ref (G.1 k 0)), (1, .int x1), (2, .int x2)]) (by decide) (fun _ => rfl) (fun _ => Nat.le_of_ble_eq_true rfl) (fun G A p e s m args below meth c C hr => ?_)
  unfold fX5_raise at h
  refine dz_aload_n (pc := 0) C dX5_raise_0 rfl 0 rfl ?_
  refine dz_iconst (pc := 1) (v := (-1 : Int32)) C dX5_raise_1 (by decide) ?_
  refine dz_putI (pc := 2) (k := k) (j := 12) (M' := (dt_put M k (dt_set T 12 0 (-1 : Int32)))) C Fc_X5 hk (by decide) rfl rfl rfl rfl fl_X5_49 (dt_wA _ _ _ _ _ _) dX5_raise_2 ?_
  refine dz_aload_n (pc := 5) C dX5_raise_5 rfl 0 rfl ?_
  refine dz_iload_n (pc := 6) C dX5_raise_6 rfl 1 rfl ?_
  refine dz_iload_n (pc := 7) C dX5_raise_7 rfl 2 rfl ?_
  obtain ⟨q1, eq1, h⟩ := dt_bind h
  refine dz_callVi (pc := 8) (st := []) (k := k) (As := [.int x1, .int x2]) (M' := (dt_put M k (dt_set T 12 0 (-1 : Int32)))) C Fc_X5 hk mf_X5_wouldStand rfl ml_X5_99 (m_X5_wouldStand l hk _ _ _ _ eq1) rfl rfl (by omega) (by decide) (Nat.le_of_ble_eq_true rfl) dX5_raise_8 ?_
  refine dz_if_ne (pc := 11) (t := 16) C dX5_raise_11 (by decide) h (fun h => ?_) (fun h => ?_)
  · refine dz_aload_n (pc := 16) C dX5_raise_16 rfl 0 rfl ?_
    refine dz_getR (pc := 17) (k := k) (j := 6) C Fc_X5 hk (by decide) (by decide) rfl fl_X5_31 dX5_raise_17 ?_
    refine dz_iload_n (pc := 20) C dX5_raise_20 rfl 1 rfl ?_
    refine dz_iald (pc := 21) (k := k) (j := 6) (n := 20) (f := (T 6)) C hk (by decide) rfl (dt_rAf _ _ _ _) dX5_raise_21 h (fun a2 h => ?_)
    refine dz_istore_n (pc := 22) C dX5_raise_22 rfl (by decide) rfl ?_
    refine dz_aload_n (pc := 23) C dX5_raise_23 rfl 1 rfl ?_
    refine dz_iload_n (pc := 24) C dX5_raise_24 rfl 2 rfl ?_
    refine dz_iload_n (pc := 25) C dX5_raise_25 rfl 3 rfl ?_
    obtain ⟨q3, eq3, h⟩ := dt_bind h
    refine dz_callVv (pc := 26) (st := []) (k := k) (As := [.int x1, .int x2]) (M' := (dt_put M k q3)) C Fc_X5 hk mf_X5_drop rfl ml_X5_103 (m_X5_drop l hk _ _ _ _ eq3) rfl rfl (by omega) (by decide) (Nat.le_of_ble_eq_true rfl) dX5_raise_26 ?_
    refine dz_aload_n (pc := 29) C dX5_raise_29 rfl 1 rfl ?_
    obtain ⟨q4, eq4, h⟩ := dt_bind h
    refine dz_callVv (pc := 30) (st := []) (k := k) (As := []) (M' := (dt_put M k q4)) C Fc_X5 hk mf_X5_weigh rfl ml_X5_84 (m_X5_weigh l hk _ _ eq4) rfl rfl (by omega) (by decide) (Nat.le_of_ble_eq_true rfl) dX5_raise_30 ?_
    refine dz_aload_n (pc := 33) C dX5_raise_33 rfl 1 rfl ?_
    refine dz_aload_n (pc := 34) C dX5_raise_34 rfl 1 rfl ?_
    obtain ⟨q5, eq5, h⟩ := dt_bind h
    refine dz_callVi (pc := 35) (st := [.ref (G.1 k 0)]) (k := k) (As := []) (M' := (dt_put M k q4)) C Fc_X5 hk mf_X5_overloaded rfl ml_X5_107 (m_X5_overloaded l hk _ _ eq5) rfl rfl (by omega) (by decide) (Nat.le_of_ble_eq_true rfl) dX5_raise_35 ?_
    refine dz_putI (pc := 38) (k := k) (j := 12) (M' := (dt_put M k (dt_set q4 12 0 q5))) C Fc_X5 hk (by decide) rfl rfl rfl rfl fl_X5_49 (dt_wA _ _ _ _ _ _) dX5_raise_38 ?_
    refine dz_aload_n (pc := 41) C dX5_raise_41 rfl 1 rfl ?_
    refine dz_getI (pc := 42) (k := k) (j := 12) (v := q5) C Fc_X5 hk (by decide) rfl rfl fl_X5_49 (dt_rA _ _ _ _ _) dX5_raise_42 ?_
    refine dz_iconst (pc := 45) (v := (-1 : Int32)) C dX5_raise_45 (by decide) ?_
    refine dz_icmp_ne (pc := 46) (t := 51) C dX5_raise_46 (by decide) h (fun h => ?_) (fun h => ?_)
    · refine dz_aload_n (pc := 51) C dX5_raise_51 rfl 1 rfl ?_
      refine dz_iload_n (pc := 52) C dX5_raise_52 rfl 2 rfl ?_
      refine dz_iload_n (pc := 53) C dX5_raise_53 rfl 0 rfl ?_
      obtain ⟨q6, eq6, h⟩ := dt_bind h
      refine dz_callVv (pc := 54) (st := []) (k := k) (As := [.int x1, .int ((T 6) a2)]) (M' := (dt_put M k q6)) C Fc_X5 hk mf_X5_lift rfl ml_X5_110 (m_X5_lift l hk _ _ _ _ eq6) rfl rfl (by omega) (by decide) (Nat.le_of_ble_eq_true rfl) dX5_raise_54 ?_
      refine dz_iconst (pc := 57) (v := (3 : Int32)) C dX5_raise_57 (by decide) ?_
      cases dt_some h
      exact dz_iret (pc := 58) C hr dX5_raise_58
    · refine dz_iconst (pc := 49) (v := (0 : Int32)) C dX5_raise_49 (by decide) ?_
      cases dt_some h
      exact dz_iret (pc := 50) C hr dX5_raise_50
  · refine dz_iconst (pc := 14) (v := (2 : Int32)) C dX5_raise_14 (by decide) ?_
    cases dt_some h
    exact dz_iret (pc := 15) C hr dX5_raise_15
