/-! ===== lifted: 20.model1 ===== -/
def fX10_isIn  (x0 : Int32) (x1 : Int32) (x2 : Int32) : Option (Int32) := (if x0 < x1 then (some (0 : Int32)) else (if x2 < x0 then (some (0 : Int32)) else (some (1 : Int32))))
set_option maxRecDepth 10000 in
set_option maxHeartbeats 4000000 in
theorem m_X10_isIn (l : Launch)  (M : dt_M)   (x0 : Int32) (x1 : Int32) (x2 : Int32) {res : Int32} (h : fX10_isIn x0 x1 x2 = some res) : dt_Met 1 l yX10_isIn cX10_isIn 3 (some .boolean) 1 (fun G => [.int x0, .int x1, .int x2]) M (some (.int res)) M := by
  refine dz_enter (lv := fun G => [(0, .int x0), (1, .int x1), (2, .int x2)]) (by decide) (fun _ => rfl) (fun _ => Nat.le_of_ble_eq_true rfl) (fun G A p e s m args below meth c C hr => ?_)
  unfold fX10_isIn at h
  refine dz_iload_n (pc := 0) C dX10_isIn_0 rfl 0 rfl ?_
  refine dz_iload_n (pc := 1) C dX10_isIn_1 rfl 1 rfl ?_
  refine dz_icmp_lt (pc := 2) (t := 14) C dX10_isIn_2 (by decide) h (fun h => ?_) (fun h => ?_)
  · refine dz_iconst (pc := 14) (v := (0 : Int32)) C dX10_isIn_14 (by decide) ?_
    cases dt_some h
    exact dz_zret (pc := 15) C hr (Or.inl rfl) dX10_isIn_15
  · refine dz_iload_n (pc := 5) C dX10_isIn_5 rfl 0 rfl ?_
    refine dz_iload_n (pc := 6) C dX10_isIn_6 rfl 2 rfl ?_
    refine dz_icmp_gt (pc := 7) (t := 14) C dX10_isIn_7 (by decide) h (fun h => ?_) (fun h => ?_)
    · refine dz_iconst (pc := 14) (v := (0 : Int32)) C dX10_isIn_14 (by decide) ?_
      cases dt_some h
      exact dz_zret (pc := 15) C hr (Or.inl rfl) dX10_isIn_15
    · refine dz_iconst (pc := 10) (v := (1 : Int32)) C dX10_isIn_10 (by decide) ?_
      refine dz_goto (pc := 11) (t := 15) C dX10_isIn_11 (by decide) ?_
      cases dt_some h
      exact dz_zret (pc := 15) C hr (Or.inr rfl) dX10_isIn_15

def fX10_least  (x0 : Int32) (x1 : Int32) : Option (Int32) := (if x1 ≤ x0 then (some x1) else (some x0))
set_option maxRecDepth 10000 in
set_option maxHeartbeats 4000000 in
theorem m_X10_least (l : Launch)  (M : dt_M)   (x0 : Int32) (x1 : Int32) {res : Int32} (h : fX10_least x0 x1 = some res) : dt_Met 1 l yX10_least cX10_least 2 (some .int) 1 (fun G => [.int x0, .int x1]) M (some (.int res)) M := by
  refine dz_enter (lv := fun G => [(0, .int x0), (1, .int x1)]) (by decide) (fun _ => rfl) (fun _ => Nat.le_of_ble_eq_true rfl) (fun G A p e s m args below meth c C hr => ?_)
  unfold fX10_least at h
  refine dz_iload_n (pc := 0) C dX10_least_0 rfl 0 rfl ?_
  refine dz_iload_n (pc := 1) C dX10_least_1 rfl 1 rfl ?_
  refine dz_icmp_ge (pc := 2) (t := 9) C dX10_least_2 (by decide) h (fun h => ?_) (fun h => ?_)
  · refine dz_iload_n (pc := 9) C dX10_least_9 rfl 1 rfl ?_
    cases dt_some h
    exact dz_iret (pc := 10) C hr dX10_least_10
  · refine dz_iload_n (pc := 5) C dX10_least_5 rfl 0 rfl ?_
    refine dz_goto (pc := 6) (t := 10) C dX10_least_6 (by decide) ?_
    cases dt_some h
    exact dz_iret (pc := 10) C hr dX10_least_10

def fX10_most  (x0 : Int32) (x1 : Int32) : Option (Int32) := (if x0 ≤ x1 then (some x1) else (some x0))
set_option maxRecDepth 10000 in
set_option maxHeartbeats 4000000 in
theorem m_X10_most (l : Launch)  (M : dt_M)   (x0 : Int32) (x1 : Int32) {res : Int32} (h : fX10_most x0 x1 = some res) : dt_Met 1 l yX10_most cX10_most 2 (some .int) 1 (fun G => [.int x0, .int x1]) M (some (.int res)) M := by
  refine dz_enter (lv := fun G => [(0, .int x0), (1, .int x1)]) (by decide) (fun _ => rfl) (fun _ => Nat.le_of_ble_eq_true rfl) (fun G A p e s m args below meth c C hr => ?_)
  unfold fX10_most at h
  refine dz_iload_n (pc := 0) C dX10_most_0 rfl 0 rfl ?_
  refine dz_iload_n (pc := 1) C dX10_most_1 rfl 1 rfl ?_
  refine dz_icmp_le (pc := 2) (t := 9) C dX10_most_2 (by decide) h (fun h => ?_) (fun h => ?_)
  · refine dz_iload_n (pc := 9) C dX10_most_9 rfl 1 rfl ?_
    cases dt_some h
    exact dz_iret (pc := 10) C hr dX10_most_10
  · refine dz_iload_n (pc := 5) C dX10_most_5 rfl 0 rfl ?_
    refine dz_goto (pc := 6) (t := 10) C dX10_most_6 (by decide) ?_
    cases dt_some h
    exact dz_iret (pc := 10) C hr dX10_most_10

def fX10_isBlock  (x1 : Int32) (T : dt_Ob) : Option (Int32) := ((dt_ix (1 : Int32) 1225).bind fun a1 => ((fX10_isIn x1 (0 : Int32) (((T 0) a1) - (1 : Int32))).bind fun q2 => (if q2 = 0 ∨ q2 = 1 then (some q2) else none)))
set_option maxRecDepth 10000 in
set_option maxHeartbeats 4000000 in
theorem m_X10_isBlock (l : Launch)  (M : dt_M) (T : dt_Ob)  (x1 : Int32) {res : Int32} (h : fX10_isBlock x1 T = some res) : dt_Met 1 l yX10_isBlock cX10_isBlock 2 (some .boolean) 2 (fun G => [.ref (G.1 18 0), .int x1]) (dt_put M 18 T) (some (.int res)) (dt_put M 18 T) := by
  refine dz_enter (lv := fun G => [(0, .ref (G.1 18 0)), (1, .int x1)]) (by decide) (fun _ => rfl) (fun _ => Nat.le_of_ble_eq_true rfl) (fun G A p e s m args below meth c C hr => ?_)
  unfold fX10_isBlock at h
  refine dz_iload_n (pc := 0) C dX10_isBlock_0 rfl 1 rfl ?_
  refine dz_iconst (pc := 1) (v := (0 : Int32)) C dX10_isBlock_1 (by decide) ?_
  refine dz_aload_n (pc := 2) C dX10_isBlock_2 rfl 0 rfl ?_
  refine dz_getR (pc := 3) (k := 18) (j := 0) C Fc_X10 hk_18 (by decide) (by decide) rfl fl_X10_7 dX10_isBlock_3 ?_
  refine dz_iconst (pc := 6) (v := (1 : Int32)) C dX10_isBlock_6 (by decide) ?_
  refine dz_iald (pc := 7) (k := 18) (j := 0) (n := 1225) (f := (T 0)) C hk_18 (by decide) rfl (dt_rAf _ _ _ _) dX10_isBlock_7 h (fun a1 h => ?_)
  refine dz_iconst (pc := 8) (v := (1 : Int32)) C dX10_isBlock_8 (by decide) ?_
  refine dz_isub (pc := 9) C dX10_isBlock_9 ?_
  obtain ⟨q2, eq2, h⟩ := dt_bind h
  refine dz_callSi (pc := 10) (st := []) (As := [.int x1, .int (0 : Int32), .int (((T 0) a1) - (1 : Int32))]) (M' := (dt_put M 18 T)) C ms_X10_isIn ml_X10_76 (m_X10_isIn l _ _ _ _ eq2) rfl rfl (by omega) (by decide) (Nat.le_of_ble_eq_true rfl) dX10_isBlock_10 ?_
  obtain ⟨hz3, h⟩ := dt_ifn h
  cases dt_some h
  exact dz_zret (pc := 13) C hr hz3 dX10_isBlock_13

def fX10_own  (x1 : Int32) (x2 : Int32) (T : dt_Ob) : Option (Int32) := ((dt_ix (((20 : Int32) + ((8 : Int32) * x1)) + x2) 1225).bind fun a1 => (some ((T 0) a1)))
set_option maxRecDepth 10000 in
set_option maxHeartbeats 4000000 in
theorem m_X10_own (l : Launch)  (M : dt_M) (T : dt_Ob)  (x1 : Int32) (x2 : Int32) {res : Int32} (h : fX10_own x1 x2 T = some res) : dt_Met 1 l yX10_own cX10_own 3 (some .int) 1 (fun G => [.ref (G.1 18 0), .int x1, .int x2]) (dt_put M 18 T) (some (.int res)) (dt_put M 18 T) := by
  refine dz_enter (lv := fun G => [(0, .ref (G.1 18 0)), (1, .int x1), (2, .int x2)]) (by decide) (fun _ => rfl) (fun _ => Nat.le_of_ble_eq_true rfl) (fun G A p e s m args below meth c C hr => ?_)
  unfold fX10_own at h
  refine dz_aload_n (pc := 0) C dX10_own_0 rfl 0 rfl ?_
  refine dz_getR (pc := 1) (k := 18) (j := 0) C Fc_X10 hk_18 (by decide) (by decide) rfl fl_X10_7 dX10_own_1 ?_
  refine dz_bipush (pc := 4) (v := (20 : Int32)) C dX10_own_4 (by decide) ?_
  refine dz_bipush (pc := 6) (v := (8 : Int32)) C dX10_own_6 (by decide) ?_
  refine dz_iload_n (pc := 8) C dX10_own_8 rfl 1 rfl ?_
  refine dz_imul (pc := 9) C dX10_own_9 ?_
  refine dz_iadd (pc := 10) C dX10_own_10 ?_
  refine dz_iload_n (pc := 11) C dX10_own_11 rfl 2 rfl ?_
  refine dz_iadd (pc := 12) C dX10_own_12 ?_
  refine dz_iald (pc := 13) (k := 18) (j := 0) (n := 1225) (f := (T 0)) C hk_18 (by decide) rfl (dt_rAf _ _ _ _) dX10_own_13 h (fun a1 h => ?_)
  cases dt_some h
  exact dz_iret (pc := 14) C hr dX10_own_14

def fX10_gives  (x1 : Int32) (x2 : Int32) (x3 : Int32) (T : dt_Ob) : Option (dt_Ob) := ((dt_ix (((20 : Int32) + ((8 : Int32) * x1)) + x2) 1225).bind fun a1 => (some (dt_set T 0 a1 x3)))
set_option maxRecDepth 10000 in
set_option maxHeartbeats 4000000 in
theorem m_X10_gives (l : Launch)  (M : dt_M) (T : dt_Ob)  (x1 : Int32) (x2 : Int32) (x3 : Int32) {res : dt_Ob} (h : fX10_gives x1 x2 x3 T = some res) : dt_Met 1 l yX10_gives cX10_gives 4 none 1 (fun G => [.ref (G.1 18 0), .int x1, .int x2, .int x3]) (dt_put M 18 T) none (dt_put M 18 res) := by
  refine dz_enter (lv := fun G => [(0, .ref (G.1 18 0)), (1, .int x1), (2, .int x2), (3, .int x3)]) (by decide) (fun _ => rfl) (fun _ => Nat.le_of_ble_eq_true rfl) (fun G A p e s m args below meth c C hr => ?_)
  unfold fX10_gives at h
  refine dz_aload_n (pc := 0) C dX10_gives_0 rfl 0 rfl ?_
  refine dz_getR (pc := 1) (k := 18) (j := 0) C Fc_X10 hk_18 (by decide) (by decide) rfl fl_X10_7 dX10_gives_1 ?_
  refine dz_bipush (pc := 4) (v := (20 : Int32)) C dX10_gives_4 (by decide) ?_
  refine dz_bipush (pc := 6) (v := (8 : Int32)) C dX10_gives_6 (by decide) ?_
  refine dz_iload_n (pc := 8) C dX10_gives_8 rfl 1 rfl ?_
  refine dz_imul (pc := 9) C dX10_gives_9 ?_
  refine dz_iadd (pc := 10) C dX10_gives_10 ?_
  refine dz_iload_n (pc := 11) C dX10_gives_11 rfl 2 rfl ?_
  refine dz_iadd (pc := 12) C dX10_gives_12 ?_
  refine dz_iload_n (pc := 13) C dX10_gives_13 rfl 3 rfl ?_
  refine dz_iast (pc := 14) (k := 18) (j := 0) (n := 1225) (M' := fun a1 => (dt_put M 18 (dt_set T 0 a1 x3))) C hk_18 (by decide) rfl (fun a1 => (dt_wA _ _ _ _ _ _)) dX10_gives_14 h (fun a1 h => ?_)
  cases dt_some h
  exact dz_vret (pc := 15) C hr dX10_gives_15

def fX10_forgets  (T : dt_Ob) : Option (dt_Ob) := (some (dt_set T 3 0 (0 : Int32)))
set_option maxRecDepth 10000 in
set_option maxHeartbeats 4000000 in
theorem m_X10_forgets (l : Launch)  (M : dt_M) (T : dt_Ob)   {res : dt_Ob} (h : fX10_forgets T = some res) : dt_Met 1 l yX10_forgets cX10_forgets 1 none 1 (fun G => [.ref (G.1 18 0)]) (dt_put M 18 T) none (dt_put M 18 res) := by
  refine dz_enter (lv := fun G => [(0, .ref (G.1 18 0))]) (by decide) (fun _ => rfl) (fun _ => Nat.le_of_ble_eq_true rfl) (fun G A p e s m args below meth c C hr => ?_)
  unfold fX10_forgets at h
  refine dz_aload_n (pc := 0) C dX10_forgets_0 rfl 0 rfl ?_
  refine dz_iconst (pc := 1) (v := (0 : Int32)) C dX10_forgets_1 (by decide) ?_
  refine dz_putI (pc := 2) (k := 18) (j := 3) (M' := (dt_put M 18 (dt_set T 3 0 (0 : Int32)))) C Fc_X10 hk_18 (by decide) rfl rfl rfl rfl fl_X10_80 (dt_wA _ _ _ _ _ _) dX10_forgets_2 ?_
  cases dt_some h
  exact dz_vret (pc := 5) C hr dX10_forgets_5

def fX10_columns_14  : Nat → Int32 → Int32 → dt_Ob → Option (Int32 × dt_Ob)
  | 0, _, _, _ => none
  | n + 1, x1, x2, T => (if (1225 : Int32) ≤ x2 then ((dt_ix (0 : Int32) 1225).bind fun a2 => ((fX10_forgets (dt_set T 0 a2 x1)).bind fun q3 => (some ((1 : Int32), q3)))) else ((dt_ix x2 1225).bind fun a4 => ((fX10_columns_14 n) x1 (x2 + (1 : Int32)) (dt_set T 0 a4 (0 : Int32)))))
set_option maxRecDepth 10000 in
set_option maxHeartbeats 4000000 in
theorem tX10_columns_14 {G : dt_G} {A : Nat → Prop} {p : Program} {l : Launch} {e : Env} {s : State} {m : MethodId} {args : Array Value} {below : List Frame} {meth : Method} {c : Code} (C : dt_Cx 1 G A p s m args meth c cX10_columns 3 RX10) (hr : meth.sig.returnType = (some .boolean)) {M : dt_M} {res : Int32 × dt_Ob}  : ∀ (n : Nat) (x1 : Int32) (x2 : Int32) (T : dt_Ob), fX10_columns_14 n x1 x2 T = some res → dt_At G A p l e (dt_rm 2) s m args below meth c 3 (MQ below (dt_Post G A (some (.int res.1)) (dt_put M 18 res.2)) args s 0 0 A) 14 [(0, .ref (G.1 18 0)), (1, .int x1), (2, .int x2)] [] (dt_put M 18 T) := by
  intro n
  induction n with
  | zero =>
    intro x1 x2 T h
    unfold fX10_columns_14 at h
    cases h
  | succ n ih =>
    intro x1 x2 T h
    unfold fX10_columns_14 at h
    refine dz_iload_n (pc := 14) C dX10_columns_14 rfl 2 rfl ?_
    refine dz_sipush (pc := 15) (v := (1225 : Int32)) C dX10_columns_15 (by decide) ?_
    refine dz_icmp_ge (pc := 18) (t := 34) C dX10_columns_18 (by decide) h (fun h => ?_) (fun h => ?_)
    · refine dz_aload_n (pc := 34) C dX10_columns_34 rfl 0 rfl ?_
      refine dz_getR (pc := 35) (k := 18) (j := 0) C Fc_X10 hk_18 (by decide) (by decide) rfl fl_X10_7 dX10_columns_35 ?_
      refine dz_iconst (pc := 38) (v := (0 : Int32)) C dX10_columns_38 (by decide) ?_
      refine dz_iload_n (pc := 39) C dX10_columns_39 rfl 1 rfl ?_
      refine dz_iast (pc := 40) (k := 18) (j := 0) (n := 1225) (M' := fun a2 => (dt_put M 18 (dt_set T 0 a2 x1))) C hk_18 (by decide) rfl (fun a2 => (dt_wA _ _ _ _ _ _)) dX10_columns_40 h (fun a2 h => ?_)
      refine dz_aload_n (pc := 41) C dX10_columns_41 rfl 0 rfl ?_
      obtain ⟨q3, eq3, h⟩ := dt_bind h
      refine dz_callVv (pc := 42) (st := []) (k := 18) (As := []) (M' := (dt_put M 18 q3)) C Fc_X10 hk_18 mf_X10_forgets rfl ml_X10_83 (m_X10_forgets l _ _ eq3) rfl rfl (by omega) (by decide) (Nat.le_of_ble_eq_true rfl) dX10_columns_42 ?_
      refine dz_iconst (pc := 45) (v := (1 : Int32)) C dX10_columns_45 (by decide) ?_
      cases dt_some h
      exact dz_zret (pc := 46) C hr (Or.inr rfl) dX10_columns_46
    · refine dz_aload_n (pc := 21) C dX10_columns_21 rfl 0 rfl ?_
      refine dz_getR (pc := 22) (k := 18) (j := 0) C Fc_X10 hk_18 (by decide) (by decide) rfl fl_X10_7 dX10_columns_22 ?_
      refine dz_iload_n (pc := 25) C dX10_columns_25 rfl 2 rfl ?_
      refine dz_iconst (pc := 26) (v := (0 : Int32)) C dX10_columns_26 (by decide) ?_
      refine dz_iast (pc := 27) (k := 18) (j := 0) (n := 1225) (M' := fun a4 => (dt_put M 18 (dt_set T 0 a4 (0 : Int32)))) C hk_18 (by decide) rfl (fun a4 => (dt_wA _ _ _ _ _ _)) dX10_columns_27 h (fun a4 h => ?_)
      refine dz_iinc (pc := 28) (v := (x2 + (1 : Int32))) C dX10_columns_28 2 rfl rfl (by decide) rfl ?_
      refine dz_goto (pc := 31) (t := 14) C dX10_columns_31 (by decide) ?_
      refine dz_sub [1, 2, 0] rfl ?_
      exact ih x1 (x2 + (1 : Int32)) (dt_set T 0 a4 (0 : Int32)) h
def fX10_columns  (x1 : Int32) (T : dt_Ob) : Option (Int32 × dt_Ob) := ((fX10_isIn x1 (2 : Int32) (8 : Int32)).bind fun q1 => (if q1 = 0 then (some ((0 : Int32), T)) else (fX10_columns_14 dt_F x1 (0 : Int32) T)))
set_option maxRecDepth 10000 in
set_option maxHeartbeats 4000000 in
theorem m_X10_columns (l : Launch)  (M : dt_M) (T : dt_Ob)  (x1 : Int32) {res : Int32 × dt_Ob} (h : fX10_columns x1 T = some res) : dt_Met 1 l yX10_columns cX10_columns 3 (some .boolean) 2 (fun G => [.ref (G.1 18 0), .int x1]) (dt_put M 18 T) (some (.int res.1)) (dt_put M 18 res.2) := by
  refine dz_enter (lv := fun G => [(0, .ref (G.1 18 0)), (1, .int x1)]) (by decide) (fun _ => rfl) (fun _ => Nat.le_of_ble_eq_true rfl) (fun G A p e s m args below meth c C hr => ?_)
  unfold fX10_columns at h
  refine dz_iload_n (pc := 0) C dX10_columns_0 rfl 1 rfl ?_
  refine dz_iconst (pc := 1) (v := (2 : Int32)) C dX10_columns_1 (by decide) ?_
  refine dz_bipush (pc := 2) (v := (8 : Int32)) C dX10_columns_2 (by decide) ?_
  obtain ⟨q1, eq1, h⟩ := dt_bind h
  refine dz_callSi (pc := 4) (st := []) (As := [.int x1, .int (2 : Int32), .int (8 : Int32)]) (M' := (dt_put M 18 T)) C ms_X10_isIn ml_X10_76 (m_X10_isIn l _ _ _ _ eq1) rfl rfl (by omega) (by decide) (Nat.le_of_ble_eq_true rfl) dX10_columns_4 ?_
  refine dz_if_ne (pc := 7) (t := 12) C dX10_columns_7 (by decide) h (fun h => ?_) (fun h => ?_)
  · refine dz_iconst (pc := 12) (v := (0 : Int32)) C dX10_columns_12 (by decide) ?_
    refine dz_istore_n (pc := 13) C dX10_columns_13 rfl (by decide) rfl ?_
    refine dz_sub [1, 2, 0] rfl ?_
    exact tX10_columns_14 C hr dt_F x1 (0 : Int32) T h
  · refine dz_iconst (pc := 10) (v := (0 : Int32)) C dX10_columns_10 (by decide) ?_
    cases dt_some h
    exact dz_zret (pc := 11) C hr (Or.inl rfl) dX10_columns_11

def fX10_block  (x1 : Int32) (x2 : Int32) (x3 : Int32) (x4 : Int32) (x5 : Int32) (T : dt_Ob) : Option (Int32 × dt_Ob) := ((dt_ix (0 : Int32) 1225).bind fun a1 => ((fX10_least (3 : Int32) ((T 0) a1)).bind fun q2 => ((fX10_isIn x1 (1 : Int32) q2).bind fun q3 => (if q3 = 0 then (some ((-1 : Int32), T)) else ((fX10_isIn x2 (1 : Int32) (99 : Int32)).bind fun q4 => (if q4 = 0 then (some ((-1 : Int32), T)) else ((fX10_isIn x3 (0 : Int32) (999 : Int32)).bind fun q5 => (if q5 = 0 then (some ((-1 : Int32), T)) else ((fX10_isIn x4 (0 : Int32) (7 : Int32)).bind fun q6 => (if q6 = 0 then (some ((-1 : Int32), T)) else ((fX10_isIn x5 (0 : Int32) (59 : Int32)).bind fun q7 => (if q7 = 0 then (some ((-1 : Int32), T)) else ((dt_ix (1 : Int32) 1225).bind fun a8 => (if ((T 0) a8) = (20 : Int32) then (some ((-1 : Int32), T)) else ((dt_ix (1 : Int32) 1225).bind fun a9 => ((fX10_gives ((T 0) a9) (0 : Int32) x1 T).bind fun q10 => ((fX10_gives ((T 0) a9) (1 : Int32) x2 q10).bind fun q11 => ((fX10_gives ((T 0) a9) (2 : Int32) x3 q11).bind fun q12 => ((fX10_gives ((T 0) a9) (3 : Int32) x4 q12).bind fun q13 => ((fX10_gives ((T 0) a9) (4 : Int32) x5 q13).bind fun q14 => ((fX10_gives ((T 0) a9) (5 : Int32) (-1 : Int32) q14).bind fun q15 => ((fX10_gives ((T 0) a9) (6 : Int32) (-1 : Int32) q15).bind fun q16 => ((dt_ix (1 : Int32) 1225).bind fun a17 => ((dt_ix (1 : Int32) 1225).bind fun a18 => ((fX10_forgets (dt_set q16 0 a18 (((q16 0) a17) + (1 : Int32)))).bind fun q19 => (some (((T 0) a9), q19)))))))))))))))))))))))))))
set_option maxRecDepth 10000 in
set_option maxHeartbeats 4000000 in
theorem m_X10_block (l : Launch)  (M : dt_M) (T : dt_Ob)  (x1 : Int32) (x2 : Int32) (x3 : Int32) (x4 : Int32) (x5 : Int32) {res : Int32 × dt_Ob} (h : fX10_block x1 x2 x3 x4 x5 T = some res) : dt_Met 1 l yX10_block cX10_block 7 (some .int) 2 (fun G => [.ref (G.1 18 0), .int x1, .int x2, .int x3, .int x4, .int x5]) (dt_put M 18 T) (some (.int res.1)) (dt_put M 18 res.2) := by
  refine dz_enter (lv := fun G => [(0, .ref (G.1 18 0)), (1, .int x1), (2, .int x2), (3, .int x3), (4, .int x4), (5, .int x5)]) (by decide) (fun _ => rfl) (fun _ => Nat.le_of_ble_eq_true rfl) (fun G A p e s m args below meth c C hr => ?_)
  unfold fX10_block at h
  refine dz_iload_n (pc := 0) C dX10_block_0 rfl 1 rfl ?_
  refine dz_iconst (pc := 1) (v := (1 : Int32)) C dX10_block_1 (by decide) ?_
  refine dz_iconst (pc := 2) (v := (3 : Int32)) C dX10_block_2 (by decide) ?_
  refine dz_aload_n (pc := 3) C dX10_block_3 rfl 0 rfl ?_
  refine dz_getR (pc := 4) (k := 18) (j := 0) C Fc_X10 hk_18 (by decide) (by decide) rfl fl_X10_7 dX10_block_4 ?_
  refine dz_iconst (pc := 7) (v := (0 : Int32)) C dX10_block_7 (by decide) ?_
  refine dz_iald (pc := 8) (k := 18) (j := 0) (n := 1225) (f := (T 0)) C hk_18 (by decide) rfl (dt_rAf _ _ _ _) dX10_block_8 h (fun a1 h => ?_)
  obtain ⟨q2, eq2, h⟩ := dt_bind h
  refine dz_callSi (pc := 9) (st := [.int (1 : Int32), .int x1]) (As := [.int (3 : Int32), .int ((T 0) a1)]) (M' := (dt_put M 18 T)) C ms_X10_least ml_X10_86 (m_X10_least l _ _ _ eq2) rfl rfl (by omega) (by decide) (Nat.le_of_ble_eq_true rfl) dX10_block_9 ?_
  obtain ⟨q3, eq3, h⟩ := dt_bind h
  refine dz_callSi (pc := 12) (st := []) (As := [.int x1, .int (1 : Int32), .int q2]) (M' := (dt_put M 18 T)) C ms_X10_isIn ml_X10_76 (m_X10_isIn l _ _ _ _ eq3) rfl rfl (by omega) (by decide) (Nat.le_of_ble_eq_true rfl) dX10_block_12 ?_
  refine dz_if_eq (pc := 15) (t := 72) C dX10_block_15 (by decide) h (fun h => ?_) (fun h => ?_)
  · refine dz_iconst (pc := 72) (v := (-1 : Int32)) C dX10_block_72 (by decide) ?_
    cases dt_some h
    exact dz_iret (pc := 73) C hr dX10_block_73
  · refine dz_iload_n (pc := 18) C dX10_block_18 rfl 2 rfl ?_
    refine dz_iconst (pc := 19) (v := (1 : Int32)) C dX10_block_19 (by decide) ?_
    refine dz_bipush (pc := 20) (v := (99 : Int32)) C dX10_block_20 (by decide) ?_
    obtain ⟨q4, eq4, h⟩ := dt_bind h
    refine dz_callSi (pc := 22) (st := []) (As := [.int x2, .int (1 : Int32), .int (99 : Int32)]) (M' := (dt_put M 18 T)) C ms_X10_isIn ml_X10_76 (m_X10_isIn l _ _ _ _ eq4) rfl rfl (by omega) (by decide) (Nat.le_of_ble_eq_true rfl) dX10_block_22 ?_
    refine dz_if_eq (pc := 25) (t := 72) C dX10_block_25 (by decide) h (fun h => ?_) (fun h => ?_)
    · refine dz_iconst (pc := 72) (v := (-1 : Int32)) C dX10_block_72 (by decide) ?_
      cases dt_some h
      exact dz_iret (pc := 73) C hr dX10_block_73
    · refine dz_iload_n (pc := 28) C dX10_block_28 rfl 3 rfl ?_
      refine dz_iconst (pc := 29) (v := (0 : Int32)) C dX10_block_29 (by decide) ?_
      refine dz_sipush (pc := 30) (v := (999 : Int32)) C dX10_block_30 (by decide) ?_
      obtain ⟨q5, eq5, h⟩ := dt_bind h
      refine dz_callSi (pc := 33) (st := []) (As := [.int x3, .int (0 : Int32), .int (999 : Int32)]) (M' := (dt_put M 18 T)) C ms_X10_isIn ml_X10_76 (m_X10_isIn l _ _ _ _ eq5) rfl rfl (by omega) (by decide) (Nat.le_of_ble_eq_true rfl) dX10_block_33 ?_
      refine dz_if_eq (pc := 36) (t := 72) C dX10_block_36 (by decide) h (fun h => ?_) (fun h => ?_)
      · refine dz_iconst (pc := 72) (v := (-1 : Int32)) C dX10_block_72 (by decide) ?_
        cases dt_some h
        exact dz_iret (pc := 73) C hr dX10_block_73
      · refine dz_iload (pc := 39) C dX10_block_39 4 rfl ?_
        refine dz_iconst (pc := 41) (v := (0 : Int32)) C dX10_block_41 (by decide) ?_
        refine dz_bipush (pc := 42) (v := (7 : Int32)) C dX10_block_42 (by decide) ?_
        obtain ⟨q6, eq6, h⟩ := dt_bind h
        refine dz_callSi (pc := 44) (st := []) (As := [.int x4, .int (0 : Int32), .int (7 : Int32)]) (M' := (dt_put M 18 T)) C ms_X10_isIn ml_X10_76 (m_X10_isIn l _ _ _ _ eq6) rfl rfl (by omega) (by decide) (Nat.le_of_ble_eq_true rfl) dX10_block_44 ?_
        refine dz_if_eq (pc := 47) (t := 72) C dX10_block_47 (by decide) h (fun h => ?_) (fun h => ?_)
        · refine dz_iconst (pc := 72) (v := (-1 : Int32)) C dX10_block_72 (by decide) ?_
          cases dt_some h
          exact dz_iret (pc := 73) C hr dX10_block_73
        · refine dz_iload (pc := 50) C dX10_block_50 5 rfl ?_
          refine dz_iconst (pc := 52) (v := (0 : Int32)) C dX10_block_52 (by decide) ?_
          refine dz_bipush (pc := 53) (v := (59 : Int32)) C dX10_block_53 (by decide) ?_
          obtain ⟨q7, eq7, h⟩ := dt_bind h
          refine dz_callSi (pc := 55) (st := []) (As := [.int x5, .int (0 : Int32), .int (59 : Int32)]) (M' := (dt_put M 18 T)) C ms_X10_isIn ml_X10_76 (m_X10_isIn l _ _ _ _ eq7) rfl rfl (by omega) (by decide) (Nat.le_of_ble_eq_true rfl) dX10_block_55 ?_
          refine dz_if_eq (pc := 58) (t := 72) C dX10_block_58 (by decide) h (fun h => ?_) (fun h => ?_)
          · refine dz_iconst (pc := 72) (v := (-1 : Int32)) C dX10_block_72 (by decide) ?_
            cases dt_some h
            exact dz_iret (pc := 73) C hr dX10_block_73
          · refine dz_aload_n (pc := 61) C dX10_block_61 rfl 0 rfl ?_
            refine dz_getR (pc := 62) (k := 18) (j := 0) C Fc_X10 hk_18 (by decide) (by decide) rfl fl_X10_7 dX10_block_62 ?_
            refine dz_iconst (pc := 65) (v := (1 : Int32)) C dX10_block_65 (by decide) ?_
            refine dz_iald (pc := 66) (k := 18) (j := 0) (n := 1225) (f := (T 0)) C hk_18 (by decide) rfl (dt_rAf _ _ _ _) dX10_block_66 h (fun a8 h => ?_)
            refine dz_bipush (pc := 67) (v := (20 : Int32)) C dX10_block_67 (by decide) ?_
            refine dz_icmp_ne (pc := 69) (t := 74) C dX10_block_69 (by decide) h (fun h => ?_) (fun h => ?_)
            · refine dz_aload_n (pc := 74) C dX10_block_74 rfl 0 rfl ?_
              refine dz_getR (pc := 75) (k := 18) (j := 0) C Fc_X10 hk_18 (by decide) (by decide) rfl fl_X10_7 dX10_block_75 ?_
              refine dz_iconst (pc := 78) (v := (1 : Int32)) C dX10_block_78 (by decide) ?_
              refine dz_iald (pc := 79) (k := 18) (j := 0) (n := 1225) (f := (T 0)) C hk_18 (by decide) rfl (dt_rAf _ _ _ _) dX10_block_79 h (fun a9 h => ?_)
              refine dz_istore (pc := 80) C dX10_block_80 (by decide) rfl ?_
              refine dz_aload_n (pc := 82) C dX10_block_82 rfl 1 rfl ?_
              refine dz_iload (pc := 83) C dX10_block_83 0 rfl ?_
              refine dz_iconst (pc := 85) (v := (0 : Int32)) C dX10_block_85 (by decide) ?_
              refine dz_iload_n (pc := 86) C dX10_block_86 rfl 2 rfl ?_
              obtain ⟨q10, eq10, h⟩ := dt_bind h
              refine dz_callVv (pc := 87) (st := []) (k := 18) (As := [.int ((T 0) a9), .int (0 : Int32), .int x1]) (M' := (dt_put M 18 q10)) C Fc_X10 hk_18 mf_X10_gives rfl ml_X10_90 (m_X10_gives l _ _ _ _ _ eq10) rfl rfl (by omega) (by decide) (Nat.le_of_ble_eq_true rfl) dX10_block_87 ?_
              refine dz_aload_n (pc := 90) C dX10_block_90 rfl 1 rfl ?_
              refine dz_iload (pc := 91) C dX10_block_91 0 rfl ?_
              refine dz_iconst (pc := 93) (v := (1 : Int32)) C dX10_block_93 (by decide) ?_
              refine dz_iload_n (pc := 94) C dX10_block_94 rfl 3 rfl ?_
              obtain ⟨q11, eq11, h⟩ := dt_bind h
              refine dz_callVv (pc := 95) (st := []) (k := 18) (As := [.int ((T 0) a9), .int (1 : Int32), .int x2]) (M' := (dt_put M 18 q11)) C Fc_X10 hk_18 mf_X10_gives rfl ml_X10_90 (m_X10_gives l _ _ _ _ _ eq11) rfl rfl (by omega) (by decide) (Nat.le_of_ble_eq_true rfl) dX10_block_95 ?_
              refine dz_aload_n (pc := 98) C dX10_block_98 rfl 1 rfl ?_
              refine dz_iload (pc := 99) C dX10_block_99 0 rfl ?_
              refine dz_iconst (pc := 101) (v := (2 : Int32)) C dX10_block_101 (by decide) ?_
              refine dz_iload_n (pc := 102) C dX10_block_102 rfl 4 rfl ?_
              obtain ⟨q12, eq12, h⟩ := dt_bind h
              refine dz_callVv (pc := 103) (st := []) (k := 18) (As := [.int ((T 0) a9), .int (2 : Int32), .int x3]) (M' := (dt_put M 18 q12)) C Fc_X10 hk_18 mf_X10_gives rfl ml_X10_90 (m_X10_gives l _ _ _ _ _ eq12) rfl rfl (by omega) (by decide) (Nat.le_of_ble_eq_true rfl) dX10_block_103 ?_
              refine dz_aload_n (pc := 106) C dX10_block_106 rfl 1 rfl ?_
              refine dz_iload (pc := 107) C dX10_block_107 0 rfl ?_
              refine dz_iconst (pc := 109) (v := (3 : Int32)) C dX10_block_109 (by decide) ?_
              refine dz_iload (pc := 110) C dX10_block_110 5 rfl ?_
              obtain ⟨q13, eq13, h⟩ := dt_bind h
              refine dz_callVv (pc := 112) (st := []) (k := 18) (As := [.int ((T 0) a9), .int (3 : Int32), .int x4]) (M' := (dt_put M 18 q13)) C Fc_X10 hk_18 mf_X10_gives rfl ml_X10_90 (m_X10_gives l _ _ _ _ _ eq13) rfl rfl (by omega) (by decide) (Nat.le_of_ble_eq_true rfl) dX10_block_112 ?_
              refine dz_aload_n (pc := 115) C dX10_block_115 rfl 1 rfl ?_
              refine dz_iload (pc := 116) C dX10_block_116 0 rfl ?_
              refine dz_iconst (pc := 118) (v := (4 : Int32)) C dX10_block_118 (by decide) ?_
              refine dz_iload (pc := 119) C dX10_block_119 6 rfl ?_
              obtain ⟨q14, eq14, h⟩ := dt_bind h
              refine dz_callVv (pc := 121) (st := []) (k := 18) (As := [.int ((T 0) a9), .int (4 : Int32), .int x5]) (M' := (dt_put M 18 q14)) C Fc_X10 hk_18 mf_X10_gives rfl ml_X10_90 (m_X10_gives l _ _ _ _ _ eq14) rfl rfl (by omega) (by decide) (Nat.le_of_ble_eq_true rfl) dX10_block_121 ?_
              refine dz_aload_n (pc := 124) C dX10_block_124 rfl 1 rfl ?_
              refine dz_iload (pc := 125) C dX10_block_125 0 rfl ?_
              refine dz_iconst (pc := 127) (v := (5 : Int32)) C dX10_block_127 (by decide) ?_
              refine dz_iconst (pc := 128) (v := (-1 : Int32)) C dX10_block_128 (by decide) ?_
              obtain ⟨q15, eq15, h⟩ := dt_bind h
              refine dz_callVv (pc := 129) (st := []) (k := 18) (As := [.int ((T 0) a9), .int (5 : Int32), .int (-1 : Int32)]) (M' := (dt_put M 18 q15)) C Fc_X10 hk_18 mf_X10_gives rfl ml_X10_90 (m_X10_gives l _ _ _ _ _ eq15) rfl rfl (by omega) (by decide) (Nat.le_of_ble_eq_true rfl) dX10_block_129 ?_
              refine dz_aload_n (pc := 132) C dX10_block_132 rfl 1 rfl ?_
              refine dz_iload (pc := 133) C dX10_block_133 0 rfl ?_
              refine dz_bipush (pc := 135) (v := (6 : Int32)) C dX10_block_135 (by decide) ?_
              refine dz_iconst (pc := 137) (v := (-1 : Int32)) C dX10_block_137 (by decide) ?_
              obtain ⟨q16, eq16, h⟩ := dt_bind h
              refine dz_callVv (pc := 138) (st := []) (k := 18) (As := [.int ((T 0) a9), .int (6 : Int32), .int (-1 : Int32)]) (M' := (dt_put M 18 q16)) C Fc_X10 hk_18 mf_X10_gives rfl ml_X10_90 (m_X10_gives l _ _ _ _ _ eq16) rfl rfl (by omega) (by decide) (Nat.le_of_ble_eq_true rfl) dX10_block_138 ?_
              refine dz_aload_n (pc := 141) C dX10_block_141 rfl 1 rfl ?_
              refine dz_getR (pc := 142) (k := 18) (j := 0) C Fc_X10 hk_18 (by decide) (by decide) rfl fl_X10_7 dX10_block_142 ?_
              refine dz_iconst (pc := 145) (v := (1 : Int32)) C dX10_block_145 (by decide) ?_
              refine dz_dup2 (pc := 146) C dX10_block_146 rfl rfl ?_
              refine dz_iald (pc := 147) (k := 18) (j := 0) (n := 1225) (f := (q16 0)) C hk_18 (by decide) rfl (dt_rAf _ _ _ _) dX10_block_147 h (fun a17 h => ?_)
              refine dz_iconst (pc := 148) (v := (1 : Int32)) C dX10_block_148 (by decide) ?_
              refine dz_iadd (pc := 149) C dX10_block_149 ?_
              refine dz_iast (pc := 150) (k := 18) (j := 0) (n := 1225) (M' := fun a18 => (dt_put M 18 (dt_set q16 0 a18 (((q16 0) a17) + (1 : Int32))))) C hk_18 (by decide) rfl (fun a18 => (dt_wA _ _ _ _ _ _)) dX10_block_150 h (fun a18 h => ?_)
              refine dz_aload_n (pc := 151) C dX10_block_151 rfl 1 rfl ?_
              obtain ⟨q19, eq19, h⟩ := dt_bind h
              refine dz_callVv (pc := 152) (st := []) (k := 18) (As := []) (M' := (dt_put M 18 q19)) C Fc_X10 hk_18 mf_X10_forgets rfl ml_X10_83 (m_X10_forgets l _ _ eq19) rfl rfl (by omega) (by decide) (Nat.le_of_ble_eq_true rfl) dX10_block_152 ?_
              refine dz_iload (pc := 155) C dX10_block_155 0 rfl ?_
              cases dt_some h
              exact dz_iret (pc := 157) C hr dX10_block_157
            · refine dz_iconst (pc := 72) (v := (-1 : Int32)) C dX10_block_72 (by decide) ?_
              cases dt_some h
              exact dz_iret (pc := 73) C hr dX10_block_73

def fX10_laysTower_2  : Nat → Int32 → dt_Ob → Option (dt_Ob)
  | 0, _, _ => none
  | n + 1, x1, T => ((dt_ix (1 : Int32) 1225).bind fun a1 => (if ((T 0) a1) ≤ x1 then (some T) else ((fX10_own x1 (5 : Int32) T).bind fun q2 => ((dt_ix x1 20).bind fun a3 => ((fX10_own x1 (6 : Int32) (dt_set T 7 a3 q2)).bind fun q4 => ((dt_ix x1 20).bind fun a5 => ((fX10_laysTower_2 n) (x1 + (1 : Int32)) (dt_set (dt_set T 7 a3 q2) 8 a5 q4))))))))
set_option maxRecDepth 10000 in
set_option maxHeartbeats 4000000 in
theorem tX10_laysTower_2 {G : dt_G} {A : Nat → Prop} {p : Program} {l : Launch} {e : Env} {s : State} {m : MethodId} {args : Array Value} {below : List Frame} {meth : Method} {c : Code} (C : dt_Cx 1 G A p s m args meth c cX10_laysTower 2 RX10) (hr : meth.sig.returnType = none) {M : dt_M} {res : dt_Ob}  : ∀ (n : Nat) (x1 : Int32) (T : dt_Ob), fX10_laysTower_2 n x1 T = some res → dt_At G A p l e (dt_rm 2) s m args below meth c 2 (MQ below (dt_Post G A none (dt_put M 18 res)) args s 0 0 A) 2 [(0, .ref (G.1 18 0)), (1, .int x1)] [] (dt_put M 18 T) := by
  intro n
  induction n with
  | zero =>
    intro x1 T h
    unfold fX10_laysTower_2 at h
    cases h
  | succ n ih =>
    intro x1 T h
    unfold fX10_laysTower_2 at h
    refine dz_iload_n (pc := 2) C dX10_laysTower_2 rfl 1 rfl ?_
    refine dz_aload_n (pc := 3) C dX10_laysTower_3 rfl 0 rfl ?_
    refine dz_getR (pc := 4) (k := 18) (j := 0) C Fc_X10 hk_18 (by decide) (by decide) rfl fl_X10_7 dX10_laysTower_4 ?_
    refine dz_iconst (pc := 7) (v := (1 : Int32)) C dX10_laysTower_7 (by decide) ?_
    refine dz_iald (pc := 8) (k := 18) (j := 0) (n := 1225) (f := (T 0)) C hk_18 (by decide) rfl (dt_rAf _ _ _ _) dX10_laysTower_8 h (fun a1 h => ?_)
    refine dz_icmp_ge (pc := 9) (t := 43) C dX10_laysTower_9 (by decide) h (fun h => ?_) (fun h => ?_)
    · cases dt_some h
      exact dz_vret (pc := 43) C hr dX10_laysTower_43
    · refine dz_aload_n (pc := 12) C dX10_laysTower_12 rfl 0 rfl ?_
      refine dz_getR (pc := 13) (k := 18) (j := 7) C Fc_X10 hk_18 (by decide) (by decide) rfl fl_X10_23 dX10_laysTower_13 ?_
      refine dz_iload_n (pc := 16) C dX10_laysTower_16 rfl 1 rfl ?_
      refine dz_aload_n (pc := 17) C dX10_laysTower_17 rfl 0 rfl ?_
      refine dz_iload_n (pc := 18) C dX10_laysTower_18 rfl 1 rfl ?_
      refine dz_iconst (pc := 19) (v := (5 : Int32)) C dX10_laysTower_19 (by decide) ?_
      obtain ⟨q2, eq2, h⟩ := dt_bind h
      refine dz_callVi (pc := 20) (st := [.int x1, .ref (G.1 18 (7 + 1))]) (k := 18) (As := [.int x1, .int (5 : Int32)]) (M' := (dt_put M 18 T)) C Fc_X10 hk_18 mf_X10_own rfl ml_X10_94 (m_X10_own l _ _ _ _ eq2) rfl rfl (by omega) (by decide) (Nat.le_of_ble_eq_true rfl) dX10_laysTower_20 ?_
      refine dz_iast (pc := 23) (k := 18) (j := 7) (n := 20) (M' := fun a3 => (dt_put M 18 (dt_set T 7 a3 q2))) C hk_18 (by decide) rfl (fun a3 => (dt_wA _ _ _ _ _ _)) dX10_laysTower_23 h (fun a3 h => ?_)
      refine dz_aload_n (pc := 24) C dX10_laysTower_24 rfl 0 rfl ?_
      refine dz_getR (pc := 25) (k := 18) (j := 8) C Fc_X10 hk_18 (by decide) (by decide) rfl fl_X10_26 dX10_laysTower_25 ?_
      refine dz_iload_n (pc := 28) C dX10_laysTower_28 rfl 1 rfl ?_
      refine dz_aload_n (pc := 29) C dX10_laysTower_29 rfl 0 rfl ?_
      refine dz_iload_n (pc := 30) C dX10_laysTower_30 rfl 1 rfl ?_
      refine dz_bipush (pc := 31) (v := (6 : Int32)) C dX10_laysTower_31 (by decide) ?_
      obtain ⟨q4, eq4, h⟩ := dt_bind h
      refine dz_callVi (pc := 33) (st := [.int x1, .ref (G.1 18 (8 + 1))]) (k := 18) (As := [.int x1, .int (6 : Int32)]) (M' := (dt_put M 18 (dt_set T 7 a3 q2))) C Fc_X10 hk_18 mf_X10_own rfl ml_X10_94 (m_X10_own l _ _ _ _ eq4) rfl rfl (by omega) (by decide) (Nat.le_of_ble_eq_true rfl) dX10_laysTower_33 ?_
      refine dz_iast (pc := 36) (k := 18) (j := 8) (n := 20) (M' := fun a5 => (dt_put M 18 (dt_set (dt_set T 7 a3 q2) 8 a5 q4))) C hk_18 (by decide) rfl (fun a5 => (dt_wA _ _ _ _ _ _)) dX10_laysTower_36 h (fun a5 h => ?_)
      refine dz_iinc (pc := 37) (v := (x1 + (1 : Int32))) C dX10_laysTower_37 1 rfl rfl (by decide) rfl ?_
      refine dz_goto (pc := 40) (t := 2) C dX10_laysTower_40 (by decide) ?_
      refine dz_sub [1, 0] rfl ?_
      exact ih (x1 + (1 : Int32)) (dt_set (dt_set T 7 a3 q2) 8 a5 q4) h
def fX10_laysTower  (T : dt_Ob) : Option (dt_Ob) := (fX10_laysTower_2 dt_F (0 : Int32) T)
set_option maxRecDepth 10000 in
set_option maxHeartbeats 4000000 in
theorem m_X10_laysTower (l : Launch)  (M : dt_M) (T : dt_Ob)   {res : dt_Ob} (h : fX10_laysTower T = some res) : dt_Met 1 l yX10_laysTower cX10_laysTower 2 none 2 (fun G => [.ref (G.1 18 0)]) (dt_put M 18 T) none (dt_put M 18 res) := by
  refine dz_enter (lv := fun G => [(0, .ref (G.1 18 0))]) (by decide) (fun _ => rfl) (fun _ => Nat.le_of_ble_eq_true rfl) (fun G A p e s m args below meth c C hr => ?_)
  unfold fX10_laysTower at h
  refine dz_iconst (pc := 0) (v := (0 : Int32)) C dX10_laysTower_0 (by decide) ?_
  refine dz_istore_n (pc := 1) C dX10_laysTower_1 rfl (by decide) rfl ?_
  refine dz_sub [1, 0] rfl ?_
  exact tX10_laysTower_2 C hr dt_F (0 : Int32) T h

def fX10_highOf_65 (r4 : Int32 → Int32 → Int32 → dt_Ob → Option (Int32)) (x1 : Int32) (x2 : Int32) (x3 : Int32) (T : dt_Ob) : Option (Int32) := (r4 x1 x2 (x3 + (1 : Int32)) T)
set_option maxRecDepth 10000 in
set_option maxHeartbeats 4000000 in
theorem tX10_highOf_65 {G : dt_G} {A : Nat → Prop} {p : Program} {l : Launch} {e : Env} {s : State} {m : MethodId} {args : Array Value} {below : List Frame} {meth : Method} {c : Code} (C : dt_Cx 1 G A p s m args meth c cX10_highOf 4 RX10) (hr : meth.sig.returnType = (some .int)) {M : dt_M} {res : Int32} {r4 : Int32 → Int32 → Int32 → dt_Ob → Option (Int32)} (hr4 : ∀ (x1 : Int32) (x2 : Int32) (x3 : Int32) (T : dt_Ob), r4 x1 x2 x3 T = some res → dt_At G A p l e (dt_rm 2) s m args below meth c 4 (MQ below (dt_Post G A (some (.int res)) (dt_put M 18 T)) args s 0 0 A) 4 [(0, .ref (G.1 18 0)), (1, .int x1), (2, .int x2), (3, .int x3)] [] (dt_put M 18 T)) : ∀ (x1 : Int32) (x2 : Int32) (x3 : Int32) (T : dt_Ob), fX10_highOf_65 r4 x1 x2 x3 T = some res → dt_At G A p l e (dt_rm 2) s m args below meth c 4 (MQ below (dt_Post G A (some (.int res)) (dt_put M 18 T)) args s 0 0 A) 65 [(0, .ref (G.1 18 0)), (1, .int x1), (2, .int x2), (3, .int x3)] [] (dt_put M 18 T) := by
  intro x1 x2 x3 T h
  unfold fX10_highOf_65 at h
  refine dz_iinc (pc := 65) (v := (x3 + (1 : Int32))) C dX10_highOf_65 3 rfl rfl (by decide) rfl ?_
  refine dz_goto (pc := 68) (t := 4) C dX10_highOf_68 (by decide) ?_
  refine dz_sub [1, 2, 3, 0] rfl ?_
  exact hr4 x1 x2 (x3 + (1 : Int32)) T h
def fX10_highOf_4  : Nat → Int32 → Int32 → Int32 → dt_Ob → Option (Int32)
  | 0, _, _, _, _ => none
  | n + 1, x1, x2, x3, T => ((dt_ix (1 : Int32) 1225).bind fun a1 => (if ((T 0) a1) ≤ x3 then (some x2) else ((dt_ix x3 20).bind fun a2 => (if ((T 7) a2) = (-1 : Int32) then (fX10_highOf_65 (fX10_highOf_4 n) x1 x2 x3 T) else ((dt_ix x3 20).bind fun a3 => ((dt_ix x3 20).bind fun a4 => ((fX10_own x3 (0 : Int32) T).bind fun q5 => ((fX10_isIn x1 ((T 7) a3) ((((T 7) a4) + q5) - (1 : Int32))).bind fun q6 => (if q6 = 0 then (fX10_highOf_65 (fX10_highOf_4 n) x1 x2 x3 T) else ((dt_ix x3 20).bind fun a7 => ((fX10_most x2 (((T 8) a7) + (1 : Int32))).bind fun q8 => (fX10_highOf_65 (fX10_highOf_4 n) x1 q8 x3 T))))))))))))
set_option maxRecDepth 10000 in
set_option maxHeartbeats 4000000 in
theorem tX10_highOf_4 {G : dt_G} {A : Nat → Prop} {p : Program} {l : Launch} {e : Env} {s : State} {m : MethodId} {args : Array Value} {below : List Frame} {meth : Method} {c : Code} (C : dt_Cx 1 G A p s m args meth c cX10_highOf 4 RX10) (hr : meth.sig.returnType = (some .int)) {M : dt_M} {res : Int32}  : ∀ (n : Nat) (x1 : Int32) (x2 : Int32) (x3 : Int32) (T : dt_Ob), fX10_highOf_4 n x1 x2 x3 T = some res → dt_At G A p l e (dt_rm 2) s m args below meth c 4 (MQ below (dt_Post G A (some (.int res)) (dt_put M 18 T)) args s 0 0 A) 4 [(0, .ref (G.1 18 0)), (1, .int x1), (2, .int x2), (3, .int x3)] [] (dt_put M 18 T) := by
  intro n
  induction n with
  | zero =>
    intro x1 x2 x3 T h
    unfold fX10_highOf_4 at h
    cases h
  | succ n ih =>
    intro x1 x2 x3 T h
    unfold fX10_highOf_4 at h
    refine dz_iload_n (pc := 4) C dX10_highOf_4 rfl 3 rfl ?_
    refine dz_aload_n (pc := 5) C dX10_highOf_5 rfl 0 rfl ?_
    refine dz_getR (pc := 6) (k := 18) (j := 0) C Fc_X10 hk_18 (by decide) (by decide) rfl fl_X10_7 dX10_highOf_6 ?_
    refine dz_iconst (pc := 9) (v := (1 : Int32)) C dX10_highOf_9 (by decide) ?_
    refine dz_iald (pc := 10) (k := 18) (j := 0) (n := 1225) (f := (T 0)) C hk_18 (by decide) rfl (dt_rAf _ _ _ _) dX10_highOf_10 h (fun a1 h => ?_)
    refine dz_icmp_ge (pc := 11) (t := 71) C dX10_highOf_11 (by decide) h (fun h => ?_) (fun h => ?_)
    · refine dz_iload_n (pc := 71) C dX10_highOf_71 rfl 2 rfl ?_
      cases dt_some h
      exact dz_iret (pc := 72) C hr dX10_highOf_72
    · refine dz_aload_n (pc := 14) C dX10_highOf_14 rfl 0 rfl ?_
      refine dz_getR (pc := 15) (k := 18) (j := 7) C Fc_X10 hk_18 (by decide) (by decide) rfl fl_X10_23 dX10_highOf_15 ?_
      refine dz_iload_n (pc := 18) C dX10_highOf_18 rfl 3 rfl ?_
      refine dz_iald (pc := 19) (k := 18) (j := 7) (n := 20) (f := (T 7)) C hk_18 (by decide) rfl (dt_rAf _ _ _ _) dX10_highOf_19 h (fun a2 h => ?_)
      refine dz_iconst (pc := 20) (v := (-1 : Int32)) C dX10_highOf_20 (by decide) ?_
      refine dz_icmp_eq (pc := 21) (t := 65) C dX10_highOf_21 (by decide) h (fun h => ?_) (fun h => ?_)
      · exact tX10_highOf_65 C hr ih x1 x2 x3 T h
      · refine dz_iload_n (pc := 24) C dX10_highOf_24 rfl 1 rfl ?_
        refine dz_aload_n (pc := 25) C dX10_highOf_25 rfl 0 rfl ?_
        refine dz_getR (pc := 26) (k := 18) (j := 7) C Fc_X10 hk_18 (by decide) (by decide) rfl fl_X10_23 dX10_highOf_26 ?_
        refine dz_iload_n (pc := 29) C dX10_highOf_29 rfl 3 rfl ?_
        refine dz_iald (pc := 30) (k := 18) (j := 7) (n := 20) (f := (T 7)) C hk_18 (by decide) rfl (dt_rAf _ _ _ _) dX10_highOf_30 h (fun a3 h => ?_)
        refine dz_aload_n (pc := 31) C dX10_highOf_31 rfl 0 rfl ?_
        refine dz_getR (pc := 32) (k := 18) (j := 7) C Fc_X10 hk_18 (by decide) (by decide) rfl fl_X10_23 dX10_highOf_32 ?_
        refine dz_iload_n (pc := 35) C dX10_highOf_35 rfl 3 rfl ?_
        refine dz_iald (pc := 36) (k := 18) (j := 7) (n := 20) (f := (T 7)) C hk_18 (by decide) rfl (dt_rAf _ _ _ _) dX10_highOf_36 h (fun a4 h => ?_)
        refine dz_aload_n (pc := 37) C dX10_highOf_37 rfl 0 rfl ?_
        refine dz_iload_n (pc := 38) C dX10_highOf_38 rfl 3 rfl ?_
        refine dz_iconst (pc := 39) (v := (0 : Int32)) C dX10_highOf_39 (by decide) ?_
        obtain ⟨q5, eq5, h⟩ := dt_bind h
        refine dz_callVi (pc := 40) (st := [.int ((T 7) a4), .int ((T 7) a3), .int x1]) (k := 18) (As := [.int x3, .int (0 : Int32)]) (M' := (dt_put M 18 T)) C Fc_X10 hk_18 mf_X10_own rfl ml_X10_94 (m_X10_own l _ _ _ _ eq5) rfl rfl (by omega) (by decide) (Nat.le_of_ble_eq_true rfl) dX10_highOf_40 ?_
        refine dz_iadd (pc := 43) C dX10_highOf_43 ?_
        refine dz_iconst (pc := 44) (v := (1 : Int32)) C dX10_highOf_44 (by decide) ?_
        refine dz_isub (pc := 45) C dX10_highOf_45 ?_
        obtain ⟨q6, eq6, h⟩ := dt_bind h
        refine dz_callSi (pc := 46) (st := []) (As := [.int x1, .int ((T 7) a3), .int ((((T 7) a4) + q5) - (1 : Int32))]) (M' := (dt_put M 18 T)) C ms_X10_isIn ml_X10_76 (m_X10_isIn l _ _ _ _ eq6) rfl rfl (by omega) (by decide) (Nat.le_of_ble_eq_true rfl) dX10_highOf_46 ?_
        refine dz_if_eq (pc := 49) (t := 65) C dX10_highOf_49 (by decide) h (fun h => ?_) (fun h => ?_)
        · exact tX10_highOf_65 C hr ih x1 x2 x3 T h
        · refine dz_iload_n (pc := 52) C dX10_highOf_52 rfl 2 rfl ?_
          refine dz_aload_n (pc := 53) C dX10_highOf_53 rfl 0 rfl ?_
          refine dz_getR (pc := 54) (k := 18) (j := 8) C Fc_X10 hk_18 (by decide) (by decide) rfl fl_X10_26 dX10_highOf_54 ?_
          refine dz_iload_n (pc := 57) C dX10_highOf_57 rfl 3 rfl ?_
          refine dz_iald (pc := 58) (k := 18) (j := 8) (n := 20) (f := (T 8)) C hk_18 (by decide) rfl (dt_rAf _ _ _ _) dX10_highOf_58 h (fun a7 h => ?_)
          refine dz_iconst (pc := 59) (v := (1 : Int32)) C dX10_highOf_59 (by decide) ?_
          refine dz_iadd (pc := 60) C dX10_highOf_60 ?_
          obtain ⟨q8, eq8, h⟩ := dt_bind h
          refine dz_callSi (pc := 61) (st := []) (As := [.int x2, .int (((T 8) a7) + (1 : Int32))]) (M' := (dt_put M 18 T)) C ms_X10_most ml_X10_97 (m_X10_most l _ _ _ eq8) rfl rfl (by omega) (by decide) (Nat.le_of_ble_eq_true rfl) dX10_highOf_61 ?_
          refine dz_istore_n (pc := 64) C dX10_highOf_64 rfl (by decide) rfl ?_
          refine dz_sub [1, 2, 0, 3] rfl ?_
          exact tX10_highOf_65 C hr ih x1 q8 x3 T h
def fX10_highOf  (x1 : Int32) (T : dt_Ob) : Option (Int32) := (fX10_highOf_4 dt_F x1 (0 : Int32) (0 : Int32) T)
set_option maxRecDepth 10000 in
set_option maxHeartbeats 4000000 in
theorem m_X10_highOf (l : Launch)  (M : dt_M) (T : dt_Ob)  (x1 : Int32) {res : Int32} (h : fX10_highOf x1 T = some res) : dt_Met 1 l yX10_highOf cX10_highOf 4 (some .int) 2 (fun G => [.ref (G.1 18 0), .int x1]) (dt_put M 18 T) (some (.int res)) (dt_put M 18 T) := by
  refine dz_enter (lv := fun G => [(0, .ref (G.1 18 0)), (1, .int x1)]) (by decide) (fun _ => rfl) (fun _ => Nat.le_of_ble_eq_true rfl) (fun G A p e s m args below meth c C hr => ?_)
  unfold fX10_highOf at h
  refine dz_iconst (pc := 0) (v := (0 : Int32)) C dX10_highOf_0 (by decide) ?_
  refine dz_istore_n (pc := 1) C dX10_highOf_1 rfl (by decide) rfl ?_
  refine dz_iconst (pc := 2) (v := (0 : Int32)) C dX10_highOf_2 (by decide) ?_
  refine dz_istore_n (pc := 3) C dX10_highOf_3 rfl (by decide) rfl ?_
  refine dz_sub [2, 3, 1, 0] rfl ?_
  exact tX10_highOf_4 C hr dt_F x1 (0 : Int32) (0 : Int32) T h

def fX10_highest_37 (r4 : Int32 → Int32 → dt_Ob → Option (Int32)) (x1 : Int32) (x2 : Int32) (T : dt_Ob) : Option (Int32) := (r4 x1 (x2 + (1 : Int32)) T)
set_option maxRecDepth 10000 in
set_option maxHeartbeats 4000000 in
theorem tX10_highest_37 {G : dt_G} {A : Nat → Prop} {p : Program} {l : Launch} {e : Env} {s : State} {m : MethodId} {args : Array Value} {below : List Frame} {meth : Method} {c : Code} (C : dt_Cx 1 G A p s m args meth c cX10_highest 3 RX10) (hr : meth.sig.returnType = (some .int)) {M : dt_M} {res : Int32} {r4 : Int32 → Int32 → dt_Ob → Option (Int32)} (hr4 : ∀ (x1 : Int32) (x2 : Int32) (T : dt_Ob), r4 x1 x2 T = some res → dt_At G A p l e (dt_rm 2) s m args below meth c 3 (MQ below (dt_Post G A (some (.int res)) (dt_put M 18 T)) args s 0 0 A) 4 [(0, .ref (G.1 18 0)), (1, .int x1), (2, .int x2)] [] (dt_put M 18 T)) : ∀ (x1 : Int32) (x2 : Int32) (T : dt_Ob), fX10_highest_37 r4 x1 x2 T = some res → dt_At G A p l e (dt_rm 2) s m args below meth c 3 (MQ below (dt_Post G A (some (.int res)) (dt_put M 18 T)) args s 0 0 A) 37 [(0, .ref (G.1 18 0)), (1, .int x1), (2, .int x2)] [] (dt_put M 18 T) := by
  intro x1 x2 T h
  unfold fX10_highest_37 at h
  refine dz_iinc (pc := 37) (v := (x2 + (1 : Int32))) C dX10_highest_37 2 rfl rfl (by decide) rfl ?_
  refine dz_goto (pc := 40) (t := 4) C dX10_highest_40 (by decide) ?_
  refine dz_sub [1, 2, 0] rfl ?_
  exact hr4 x1 (x2 + (1 : Int32)) T h
def fX10_highest_4  : Nat → Int32 → Int32 → dt_Ob → Option (Int32)
  | 0, _, _, _ => none
  | n + 1, x1, x2, T => ((dt_ix (1 : Int32) 1225).bind fun a1 => (if ((T 0) a1) ≤ x2 then (some x1) else ((dt_ix x2 20).bind fun a2 => (if ((T 7) a2) = (-1 : Int32) then (fX10_highest_37 (fX10_highest_4 n) x1 x2 T) else ((dt_ix x2 20).bind fun a3 => ((fX10_most x1 (((T 8) a3) + (1 : Int32))).bind fun q4 => (fX10_highest_37 (fX10_highest_4 n) q4 x2 T)))))))
set_option maxRecDepth 10000 in
set_option maxHeartbeats 4000000 in
theorem tX10_highest_4 {G : dt_G} {A : Nat → Prop} {p : Program} {l : Launch} {e : Env} {s : State} {m : MethodId} {args : Array Value} {below : List Frame} {meth : Method} {c : Code} (C : dt_Cx 1 G A p s m args meth c cX10_highest 3 RX10) (hr : meth.sig.returnType = (some .int)) {M : dt_M} {res : Int32}  : ∀ (n : Nat) (x1 : Int32) (x2 : Int32) (T : dt_Ob), fX10_highest_4 n x1 x2 T = some res → dt_At G A p l e (dt_rm 2) s m args below meth c 3 (MQ below (dt_Post G A (some (.int res)) (dt_put M 18 T)) args s 0 0 A) 4 [(0, .ref (G.1 18 0)), (1, .int x1), (2, .int x2)] [] (dt_put M 18 T) := by
  intro n
  induction n with
  | zero =>
    intro x1 x2 T h
    unfold fX10_highest_4 at h
    cases h
  | succ n ih =>
    intro x1 x2 T h
    unfold fX10_highest_4 at h
    refine dz_iload_n (pc := 4) C dX10_highest_4 rfl 2 rfl ?_
    refine dz_aload_n (pc := 5) C dX10_highest_5 rfl 0 rfl ?_
    refine dz_getR (pc := 6) (k := 18) (j := 0) C Fc_X10 hk_18 (by decide) (by decide) rfl fl_X10_7 dX10_highest_6 ?_
    refine dz_iconst (pc := 9) (v := (1 : Int32)) C dX10_highest_9 (by decide) ?_
    refine dz_iald (pc := 10) (k := 18) (j := 0) (n := 1225) (f := (T 0)) C hk_18 (by decide) rfl (dt_rAf _ _ _ _) dX10_highest_10 h (fun a1 h => ?_)
    refine dz_icmp_ge (pc := 11) (t := 43) C dX10_highest_11 (by decide) h (fun h => ?_) (fun h => ?_)
    · refine dz_iload_n (pc := 43) C dX10_highest_43 rfl 1 rfl ?_
      cases dt_some h
      exact dz_iret (pc := 44) C hr dX10_highest_44
    · refine dz_aload_n (pc := 14) C dX10_highest_14 rfl 0 rfl ?_
      refine dz_getR (pc := 15) (k := 18) (j := 7) C Fc_X10 hk_18 (by decide) (by decide) rfl fl_X10_23 dX10_highest_15 ?_
      refine dz_iload_n (pc := 18) C dX10_highest_18 rfl 2 rfl ?_
      refine dz_iald (pc := 19) (k := 18) (j := 7) (n := 20) (f := (T 7)) C hk_18 (by decide) rfl (dt_rAf _ _ _ _) dX10_highest_19 h (fun a2 h => ?_)
      refine dz_iconst (pc := 20) (v := (-1 : Int32)) C dX10_highest_20 (by decide) ?_
      refine dz_icmp_eq (pc := 21) (t := 37) C dX10_highest_21 (by decide) h (fun h => ?_) (fun h => ?_)
      · exact tX10_highest_37 C hr ih x1 x2 T h
      · refine dz_iload_n (pc := 24) C dX10_highest_24 rfl 1 rfl ?_
        refine dz_aload_n (pc := 25) C dX10_highest_25 rfl 0 rfl ?_
        refine dz_getR (pc := 26) (k := 18) (j := 8) C Fc_X10 hk_18 (by decide) (by decide) rfl fl_X10_26 dX10_highest_26 ?_
        refine dz_iload_n (pc := 29) C dX10_highest_29 rfl 2 rfl ?_
        refine dz_iald (pc := 30) (k := 18) (j := 8) (n := 20) (f := (T 8)) C hk_18 (by decide) rfl (dt_rAf _ _ _ _) dX10_highest_30 h (fun a3 h => ?_)
        refine dz_iconst (pc := 31) (v := (1 : Int32)) C dX10_highest_31 (by decide) ?_
        refine dz_iadd (pc := 32) C dX10_highest_32 ?_
        obtain ⟨q4, eq4, h⟩ := dt_bind h
        refine dz_callSi (pc := 33) (st := []) (As := [.int x1, .int (((T 8) a3) + (1 : Int32))]) (M' := (dt_put M 18 T)) C ms_X10_most ml_X10_97 (m_X10_most l _ _ _ eq4) rfl rfl (by omega) (by decide) (Nat.le_of_ble_eq_true rfl) dX10_highest_33 ?_
        refine dz_istore_n (pc := 36) C dX10_highest_36 rfl (by decide) rfl ?_
        refine dz_sub [1, 0, 2] rfl ?_
        exact tX10_highest_37 C hr ih q4 x2 T h
def fX10_highest  (T : dt_Ob) : Option (Int32) := (fX10_highest_4 dt_F (0 : Int32) (0 : Int32) T)
set_option maxRecDepth 10000 in
set_option maxHeartbeats 4000000 in
theorem m_X10_highest (l : Launch)  (M : dt_M) (T : dt_Ob)   {res : Int32} (h : fX10_highest T = some res) : dt_Met 1 l yX10_highest cX10_highest 3 (some .int) 2 (fun G => [.ref (G.1 18 0)]) (dt_put M 18 T) (some (.int res)) (dt_put M 18 T) := by
  refine dz_enter (lv := fun G => [(0, .ref (G.1 18 0))]) (by decide) (fun _ => rfl) (fun _ => Nat.le_of_ble_eq_true rfl) (fun G A p e s m args below meth c C hr => ?_)
  unfold fX10_highest at h
  refine dz_iconst (pc := 0) (v := (0 : Int32)) C dX10_highest_0 (by decide) ?_
  refine dz_istore_n (pc := 1) C dX10_highest_1 rfl (by decide) rfl ?_
  refine dz_iconst (pc := 2) (v := (0 : Int32)) C dX10_highest_2 (by decide) ?_
  refine dz_istore_n (pc := 3) C dX10_highest_3 rfl (by decide) rfl ?_
  refine dz_sub [2, 1, 0] rfl ?_
  exact tX10_highest_4 C hr dt_F (0 : Int32) (0 : Int32) T h

def fX10_levelAt_5  : Nat → Int32 → Int32 → Int32 → Int32 → dt_Ob → Option (Int32)
  | 0, _, _, _, _, _ => none
  | n + 1, x1, x2, x3, x4, T => ((fX10_own x1 (0 : Int32) T).bind fun q1 => (if q1 ≤ x4 then (some x3) else ((fX10_highOf (x2 + x4) T).bind fun q2 => ((fX10_most x3 q2).bind fun q3 => ((fX10_levelAt_5 n) x1 x2 q3 (x4 + (1 : Int32)) T)))))
set_option maxRecDepth 10000 in
set_option maxHeartbeats 4000000 in
theorem tX10_levelAt_5 {G : dt_G} {A : Nat → Prop} {p : Program} {l : Launch} {e : Env} {s : State} {m : MethodId} {args : Array Value} {below : List Frame} {meth : Method} {c : Code} (C : dt_Cx 1 G A p s m args meth c cX10_levelAt 5 RX10) (hr : meth.sig.returnType = (some .int)) {M : dt_M} {res : Int32}  : ∀ (n : Nat) (x1 : Int32) (x2 : Int32) (x3 : Int32) (x4 : Int32) (T : dt_Ob), fX10_levelAt_5 n x1 x2 x3 x4 T = some res → dt_At G A p l e (dt_rm 3) s m args below meth c 5 (MQ below (dt_Post G A (some (.int res)) (dt_put M 18 T)) args s 0 0 A) 5 [(0, .ref (G.1 18 0)), (1, .int x1), (2, .int x2), (3, .int x3), (4, .int x4)] [] (dt_put M 18 T) := by
  intro n
  induction n with
  | zero =>
    intro x1 x2 x3 x4 T h
    unfold fX10_levelAt_5 at h
    cases h
  | succ n ih =>
    intro x1 x2 x3 x4 T h
    unfold fX10_levelAt_5 at h
    refine dz_iload (pc := 5) C dX10_levelAt_5 4 rfl ?_
    refine dz_aload_n (pc := 7) C dX10_levelAt_7 rfl 0 rfl ?_
    refine dz_iload_n (pc := 8) C dX10_levelAt_8 rfl 1 rfl ?_
    refine dz_iconst (pc := 9) (v := (0 : Int32)) C dX10_levelAt_9 (by decide) ?_
    obtain ⟨q1, eq1, h⟩ := dt_bind h
    refine dz_callVi (pc := 10) (st := [.int x4]) (k := 18) (As := [.int x1, .int (0 : Int32)]) (M' := (dt_put M 18 T)) C Fc_X10 hk_18 mf_X10_own rfl ml_X10_94 (m_X10_own l _ _ _ _ eq1) rfl rfl (by omega) (by decide) (Nat.le_of_ble_eq_true rfl) dX10_levelAt_10 ?_
    refine dz_icmp_ge (pc := 13) (t := 35) C dX10_levelAt_13 (by decide) h (fun h => ?_) (fun h => ?_)
    · refine dz_iload_n (pc := 35) C dX10_levelAt_35 rfl 3 rfl ?_
      cases dt_some h
      exact dz_iret (pc := 36) C hr dX10_levelAt_36
    · refine dz_iload_n (pc := 16) C dX10_levelAt_16 rfl 3 rfl ?_
      refine dz_aload_n (pc := 17) C dX10_levelAt_17 rfl 0 rfl ?_
      refine dz_iload_n (pc := 18) C dX10_levelAt_18 rfl 2 rfl ?_
      refine dz_iload (pc := 19) C dX10_levelAt_19 4 rfl ?_
      refine dz_iadd (pc := 21) C dX10_levelAt_21 ?_
      obtain ⟨q2, eq2, h⟩ := dt_bind h
      refine dz_callVi (pc := 22) (st := [.int x3]) (k := 18) (As := [.int (x2 + x4)]) (M' := (dt_put M 18 T)) C Fc_X10 hk_18 mf_X10_highOf rfl ml_X10_100 (m_X10_highOf l _ _ _ eq2) rfl rfl (by omega) (by decide) (Nat.le_of_ble_eq_true rfl) dX10_levelAt_22 ?_
      obtain ⟨q3, eq3, h⟩ := dt_bind h
      refine dz_callSi (pc := 25) (st := []) (As := [.int x3, .int q2]) (M' := (dt_put M 18 T)) C ms_X10_most ml_X10_97 (m_X10_most l _ _ _ eq3) rfl rfl (by omega) (by decide) (Nat.le_of_ble_eq_true rfl) dX10_levelAt_25 ?_
      refine dz_istore_n (pc := 28) C dX10_levelAt_28 rfl (by decide) rfl ?_
      refine dz_iinc (pc := 29) (v := (x4 + (1 : Int32))) C dX10_levelAt_29 4 rfl rfl (by decide) rfl ?_
      refine dz_goto (pc := 32) (t := 5) C dX10_levelAt_32 (by decide) ?_
      refine dz_sub [2, 3, 4, 1, 0] rfl ?_
      exact ih x1 x2 q3 (x4 + (1 : Int32)) T h
def fX10_levelAt  (x1 : Int32) (x2 : Int32) (T : dt_Ob) : Option (Int32) := (fX10_levelAt_5 dt_F x1 x2 (0 : Int32) (0 : Int32) T)
set_option maxRecDepth 10000 in
set_option maxHeartbeats 4000000 in
theorem m_X10_levelAt (l : Launch)  (M : dt_M) (T : dt_Ob)  (x1 : Int32) (x2 : Int32) {res : Int32} (h : fX10_levelAt x1 x2 T = some res) : dt_Met 1 l yX10_levelAt cX10_levelAt 5 (some .int) 3 (fun G => [.ref (G.1 18 0), .int x1, .int x2]) (dt_put M 18 T) (some (.int res)) (dt_put M 18 T) := by
  refine dz_enter (lv := fun G => [(0, .ref (G.1 18 0)), (1, .int x1), (2, .int x2)]) (by decide) (fun _ => rfl) (fun _ => Nat.le_of_ble_eq_true rfl) (fun G A p e s m args below meth c C hr => ?_)
  unfold fX10_levelAt at h
  refine dz_iconst (pc := 0) (v := (0 : Int32)) C dX10_levelAt_0 (by decide) ?_
  refine dz_istore_n (pc := 1) C dX10_levelAt_1 rfl (by decide) rfl ?_
  refine dz_iconst (pc := 2) (v := (0 : Int32)) C dX10_levelAt_2 (by decide) ?_
  refine dz_istore (pc := 3) C dX10_levelAt_3 (by decide) rfl ?_
  refine dz_sub [2, 3, 4, 1, 0] rfl ?_
  exact tX10_levelAt_5 C hr dt_F x1 x2 (0 : Int32) (0 : Int32) T h

def fX10_laysGrid_98 (r39 : Int32 → dt_Ob → Option (dt_Ob)) (x1 : Int32) (T : dt_Ob) : Option (dt_Ob) := (r39 (x1 + (1 : Int32)) T)
set_option maxRecDepth 10000 in
set_option maxHeartbeats 4000000 in
theorem tX10_laysGrid_98 {G : dt_G} {A : Nat → Prop} {p : Program} {l : Launch} {e : Env} {s : State} {m : MethodId} {args : Array Value} {below : List Frame} {meth : Method} {c : Code} (C : dt_Cx 1 G A p s m args meth c cX10_laysGrid 3 RX10) (hr : meth.sig.returnType = none) {M : dt_M} {res : dt_Ob} {r39 : Int32 → dt_Ob → Option (dt_Ob)} (hr39 : ∀ (x1 : Int32) (T : dt_Ob), r39 x1 T = some res → dt_At G A p l e (dt_rm 2) s m args below meth c 3 (MQ below (dt_Post G A none (dt_put M 18 res)) args s 0 0 A) 39 [(0, .ref (G.1 18 0)), (1, .int x1)] [] (dt_put M 18 T)) : ∀ (x1 : Int32) (T : dt_Ob), fX10_laysGrid_98 r39 x1 T = some res → dt_At G A p l e (dt_rm 2) s m args below meth c 3 (MQ below (dt_Post G A none (dt_put M 18 res)) args s 0 0 A) 98 [(0, .ref (G.1 18 0)), (1, .int x1)] [] (dt_put M 18 T) := by
  intro x1 T h
  unfold fX10_laysGrid_98 at h
  refine dz_iinc (pc := 98) (v := (x1 + (1 : Int32))) C dX10_laysGrid_98 1 rfl rfl (by decide) rfl ?_
  refine dz_goto (pc := 101) (t := 39) C dX10_laysGrid_101 (by decide) ?_
  refine dz_sub [1, 0] rfl ?_
  exact hr39 (x1 + (1 : Int32)) T h
def fX10_laysGrid_61 (r39 : Int32 → dt_Ob → Option (dt_Ob)) : Nat → Int32 → Int32 → dt_Ob → Option (dt_Ob)
  | 0, _, _, _ => none
  | n + 1, x1, x2, T => ((fX10_own x1 (0 : Int32) T).bind fun q5 => (if q5 ≤ x2 then (fX10_laysGrid_98 r39 x1 T) else ((dt_ix x1 20).bind fun a6 => ((dt_ix (((T 7) a6) + x2) 8).bind fun a7 => ((dt_ix x1 20).bind fun a8 => ((dt_ix ((T 8) a8) 21).bind fun a9 => ((fX10_laysGrid_61 r39 n) x1 (x2 + (1 : Int32)) (dt_set T (38 + a7) a9 x1))))))))
set_option maxRecDepth 10000 in
set_option maxHeartbeats 4000000 in
theorem tX10_laysGrid_61 {G : dt_G} {A : Nat → Prop} {p : Program} {l : Launch} {e : Env} {s : State} {m : MethodId} {args : Array Value} {below : List Frame} {meth : Method} {c : Code} (C : dt_Cx 1 G A p s m args meth c cX10_laysGrid 3 RX10) (hr : meth.sig.returnType = none) {M : dt_M} {res : dt_Ob} {r39 : Int32 → dt_Ob → Option (dt_Ob)} (hr39 : ∀ (x1 : Int32) (T : dt_Ob), r39 x1 T = some res → dt_At G A p l e (dt_rm 2) s m args below meth c 3 (MQ below (dt_Post G A none (dt_put M 18 res)) args s 0 0 A) 39 [(0, .ref (G.1 18 0)), (1, .int x1)] [] (dt_put M 18 T)) : ∀ (n : Nat) (x1 : Int32) (x2 : Int32) (T : dt_Ob), fX10_laysGrid_61 r39 n x1 x2 T = some res → dt_At G A p l e (dt_rm 2) s m args below meth c 3 (MQ below (dt_Post G A none (dt_put M 18 res)) args s 0 0 A) 61 [(0, .ref (G.1 18 0)), (1, .int x1), (2, .int x2)] [] (dt_put M 18 T) := by
  intro n
  induction n with
  | zero =>
    intro x1 x2 T h
    unfold fX10_laysGrid_61 at h
    cases h
  | succ n ih =>
    intro x1 x2 T h
    unfold fX10_laysGrid_61 at h
    refine dz_iload_n (pc := 61) C dX10_laysGrid_61 rfl 2 rfl ?_
    refine dz_aload_n (pc := 62) C dX10_laysGrid_62 rfl 0 rfl ?_
    refine dz_iload_n (pc := 63) C dX10_laysGrid_63 rfl 1 rfl ?_
    refine dz_iconst (pc := 64) (v := (0 : Int32)) C dX10_laysGrid_64 (by decide) ?_
    obtain ⟨q5, eq5, h⟩ := dt_bind h
    refine dz_callVi (pc := 65) (st := [.int x2]) (k := 18) (As := [.int x1, .int (0 : Int32)]) (M' := (dt_put M 18 T)) C Fc_X10 hk_18 mf_X10_own rfl ml_X10_94 (m_X10_own l _ _ _ _ eq5) rfl rfl (by omega) (by decide) (Nat.le_of_ble_eq_true rfl) dX10_laysGrid_65 ?_
    refine dz_icmp_ge (pc := 68) (t := 98) C dX10_laysGrid_68 (by decide) h (fun h => ?_) (fun h => ?_)
    · refine dz_sub [0, 1] rfl ?_
      exact tX10_laysGrid_98 C hr hr39 x1 T h
    · refine dz_aload_n (pc := 71) C dX10_laysGrid_71 rfl 0 rfl ?_
      refine dz_getR (pc := 72) (k := 18) (j := 10) C Fc_X10 hk_18 (by decide) (by decide) rfl fl_X10_34 dX10_laysGrid_72 ?_
      refine dz_aload_n (pc := 75) C dX10_laysGrid_75 rfl 0 rfl ?_
      refine dz_getR (pc := 76) (k := 18) (j := 7) C Fc_X10 hk_18 (by decide) (by decide) rfl fl_X10_23 dX10_laysGrid_76 ?_
      refine dz_iload_n (pc := 79) C dX10_laysGrid_79 rfl 1 rfl ?_
      refine dz_iald (pc := 80) (k := 18) (j := 7) (n := 20) (f := (T 7)) C hk_18 (by decide) rfl (dt_rAf _ _ _ _) dX10_laysGrid_80 h (fun a6 h => ?_)
      refine dz_iload_n (pc := 81) C dX10_laysGrid_81 rfl 2 rfl ?_
      refine dz_iadd (pc := 82) C dX10_laysGrid_82 ?_
      refine dz_aald (pc := 83) (k := 18) (j := 10) (n := 8) C hk_18 (by decide) rfl dX10_laysGrid_83 h (fun a7 ha7 h => ?_)
      refine dz_aload_n (pc := 84) C dX10_laysGrid_84 rfl 0 rfl ?_
      refine dz_getR (pc := 85) (k := 18) (j := 8) C Fc_X10 hk_18 (by decide) (by decide) rfl fl_X10_26 dX10_laysGrid_85 ?_
      refine dz_iload_n (pc := 88) C dX10_laysGrid_88 rfl 1 rfl ?_
      refine dz_iald (pc := 89) (k := 18) (j := 8) (n := 20) (f := (T 8)) C hk_18 (by decide) rfl (dt_rAf _ _ _ _) dX10_laysGrid_89 h (fun a8 h => ?_)
      refine dz_iload_n (pc := 90) C dX10_laysGrid_90 rfl 1 rfl ?_
      refine dz_iast (pc := 91) (k := 18) (j := (38 + a7)) (n := 21) (M' := fun a9 => (dt_put M 18 (dt_set T (38 + a7) a9 x1))) C hk_18 (by omega) (dt_k_row ha7) (fun a9 => (dt_wA _ _ _ _ _ _)) dX10_laysGrid_91 h (fun a9 h => ?_)
      refine dz_iinc (pc := 92) (v := (x2 + (1 : Int32))) C dX10_laysGrid_92 2 rfl rfl (by decide) rfl ?_
      refine dz_goto (pc := 95) (t := 61) C dX10_laysGrid_95 (by decide) ?_
      refine dz_sub [1, 2, 0] rfl ?_
      exact ih x1 (x2 + (1 : Int32)) (dt_set T (38 + a7) a9 x1) h
def fX10_laysGrid_39  : Nat → Int32 → dt_Ob → Option (dt_Ob)
  | 0, _, _ => none
  | n + 1, x1, T => ((dt_ix (1 : Int32) 1225).bind fun a3 => (if ((T 0) a3) ≤ x1 then (some T) else ((dt_ix x1 20).bind fun a4 => (if ((T 7) a4) = (-1 : Int32) then (fX10_laysGrid_98 (fX10_laysGrid_39 n) x1 T) else (fX10_laysGrid_61 (fX10_laysGrid_39 n) dt_F x1 (0 : Int32) T)))))
set_option maxRecDepth 10000 in
set_option maxHeartbeats 4000000 in
theorem tX10_laysGrid_39 {G : dt_G} {A : Nat → Prop} {p : Program} {l : Launch} {e : Env} {s : State} {m : MethodId} {args : Array Value} {below : List Frame} {meth : Method} {c : Code} (C : dt_Cx 1 G A p s m args meth c cX10_laysGrid 3 RX10) (hr : meth.sig.returnType = none) {M : dt_M} {res : dt_Ob}  : ∀ (n : Nat) (x1 : Int32) (T : dt_Ob), fX10_laysGrid_39 n x1 T = some res → dt_At G A p l e (dt_rm 2) s m args below meth c 3 (MQ below (dt_Post G A none (dt_put M 18 res)) args s 0 0 A) 39 [(0, .ref (G.1 18 0)), (1, .int x1)] [] (dt_put M 18 T) := by
  intro n
  induction n with
  | zero =>
    intro x1 T h
    unfold fX10_laysGrid_39 at h
    cases h
  | succ n ih =>
    intro x1 T h
    unfold fX10_laysGrid_39 at h
    refine dz_iload_n (pc := 39) C dX10_laysGrid_39 rfl 1 rfl ?_
    refine dz_aload_n (pc := 40) C dX10_laysGrid_40 rfl 0 rfl ?_
    refine dz_getR (pc := 41) (k := 18) (j := 0) C Fc_X10 hk_18 (by decide) (by decide) rfl fl_X10_7 dX10_laysGrid_41 ?_
    refine dz_iconst (pc := 44) (v := (1 : Int32)) C dX10_laysGrid_44 (by decide) ?_
    refine dz_iald (pc := 45) (k := 18) (j := 0) (n := 1225) (f := (T 0)) C hk_18 (by decide) rfl (dt_rAf _ _ _ _) dX10_laysGrid_45 h (fun a3 h => ?_)
    refine dz_icmp_ge (pc := 46) (t := 104) C dX10_laysGrid_46 (by decide) h (fun h => ?_) (fun h => ?_)
    · cases dt_some h
      exact dz_vret (pc := 104) C hr dX10_laysGrid_104
    · refine dz_aload_n (pc := 49) C dX10_laysGrid_49 rfl 0 rfl ?_
      refine dz_getR (pc := 50) (k := 18) (j := 7) C Fc_X10 hk_18 (by decide) (by decide) rfl fl_X10_23 dX10_laysGrid_50 ?_
      refine dz_iload_n (pc := 53) C dX10_laysGrid_53 rfl 1 rfl ?_
      refine dz_iald (pc := 54) (k := 18) (j := 7) (n := 20) (f := (T 7)) C hk_18 (by decide) rfl (dt_rAf _ _ _ _) dX10_laysGrid_54 h (fun a4 h => ?_)
      refine dz_iconst (pc := 55) (v := (-1 : Int32)) C dX10_laysGrid_55 (by decide) ?_
      refine dz_icmp_eq (pc := 56) (t := 98) C dX10_laysGrid_56 (by decide) h (fun h => ?_) (fun h => ?_)
      · exact tX10_laysGrid_98 C hr ih x1 T h
      · refine dz_iconst (pc := 59) (v := (0 : Int32)) C dX10_laysGrid_59 (by decide) ?_
        refine dz_istore_n (pc := 60) C dX10_laysGrid_60 rfl (by decide) rfl ?_
        refine dz_sub [1, 2, 0] rfl ?_
        exact tX10_laysGrid_61 C hr ih dt_F x1 (0 : Int32) T h
def fX10_laysGrid_10 (r2 : Int32 → dt_Ob → Option (dt_Ob)) : Nat → Int32 → Int32 → dt_Ob → Option (dt_Ob)
  | 0, _, _, _ => none
  | n + 1, x1, x2, T => (if (21 : Int32) ≤ x2 then (r2 (x1 + (1 : Int32)) T) else ((dt_ix x1 8).bind fun a1 => ((dt_ix x2 21).bind fun a2 => ((fX10_laysGrid_10 r2 n) x1 (x2 + (1 : Int32)) (dt_set T (38 + a1) a2 (-1 : Int32))))))
set_option maxRecDepth 10000 in
set_option maxHeartbeats 4000000 in
theorem tX10_laysGrid_10 {G : dt_G} {A : Nat → Prop} {p : Program} {l : Launch} {e : Env} {s : State} {m : MethodId} {args : Array Value} {below : List Frame} {meth : Method} {c : Code} (C : dt_Cx 1 G A p s m args meth c cX10_laysGrid 3 RX10) (hr : meth.sig.returnType = none) {M : dt_M} {res : dt_Ob} {r2 : Int32 → dt_Ob → Option (dt_Ob)} (hr2 : ∀ (x1 : Int32) (T : dt_Ob), r2 x1 T = some res → dt_At G A p l e (dt_rm 2) s m args below meth c 3 (MQ below (dt_Post G A none (dt_put M 18 res)) args s 0 0 A) 2 [(0, .ref (G.1 18 0)), (1, .int x1)] [] (dt_put M 18 T)) : ∀ (n : Nat) (x1 : Int32) (x2 : Int32) (T : dt_Ob), fX10_laysGrid_10 r2 n x1 x2 T = some res → dt_At G A p l e (dt_rm 2) s m args below meth c 3 (MQ below (dt_Post G A none (dt_put M 18 res)) args s 0 0 A) 10 [(0, .ref (G.1 18 0)), (1, .int x1), (2, .int x2)] [] (dt_put M 18 T) := by
  intro n
  induction n with
  | zero =>
    intro x1 x2 T h
    unfold fX10_laysGrid_10 at h
    cases h
  | succ n ih =>
    intro x1 x2 T h
    unfold fX10_laysGrid_10 at h
    refine dz_iload_n (pc := 10) C dX10_laysGrid_10 rfl 2 rfl ?_
    refine dz_bipush (pc := 11) (v := (21 : Int32)) C dX10_laysGrid_11 (by decide) ?_
    refine dz_icmp_ge (pc := 13) (t := 31) C dX10_laysGrid_13 (by decide) h (fun h => ?_) (fun h => ?_)
    · refine dz_iinc (pc := 31) (v := (x1 + (1 : Int32))) C dX10_laysGrid_31 1 rfl rfl (by decide) rfl ?_
      refine dz_goto (pc := 34) (t := 2) C dX10_laysGrid_34 (by decide) ?_
      refine dz_sub [1, 0] rfl ?_
      exact hr2 (x1 + (1 : Int32)) T h
    · refine dz_aload_n (pc := 16) C dX10_laysGrid_16 rfl 0 rfl ?_
      refine dz_getR (pc := 17) (k := 18) (j := 10) C Fc_X10 hk_18 (by decide) (by decide) rfl fl_X10_34 dX10_laysGrid_17 ?_
      refine dz_iload_n (pc := 20) C dX10_laysGrid_20 rfl 1 rfl ?_
      refine dz_aald (pc := 21) (k := 18) (j := 10) (n := 8) C hk_18 (by decide) rfl dX10_laysGrid_21 h (fun a1 ha1 h => ?_)
      refine dz_iload_n (pc := 22) C dX10_laysGrid_22 rfl 2 rfl ?_
      refine dz_iconst (pc := 23) (v := (-1 : Int32)) C dX10_laysGrid_23 (by decide) ?_
      refine dz_iast (pc := 24) (k := 18) (j := (38 + a1)) (n := 21) (M' := fun a2 => (dt_put M 18 (dt_set T (38 + a1) a2 (-1 : Int32)))) C hk_18 (by omega) (dt_k_row ha1) (fun a2 => (dt_wA _ _ _ _ _ _)) dX10_laysGrid_24 h (fun a2 h => ?_)
      refine dz_iinc (pc := 25) (v := (x2 + (1 : Int32))) C dX10_laysGrid_25 2 rfl rfl (by decide) rfl ?_
      refine dz_goto (pc := 28) (t := 10) C dX10_laysGrid_28 (by decide) ?_
      refine dz_sub [1, 2, 0] rfl ?_
      exact ih x1 (x2 + (1 : Int32)) (dt_set T (38 + a1) a2 (-1 : Int32)) h
def fX10_laysGrid_2  : Nat → Int32 → dt_Ob → Option (dt_Ob)
  | 0, _, _ => none
  | n + 1, x1, T => (if (8 : Int32) ≤ x1 then (fX10_laysGrid_39 dt_F (0 : Int32) T) else (fX10_laysGrid_10 (fX10_laysGrid_2 n) dt_F x1 (0 : Int32) T))
set_option maxRecDepth 10000 in
set_option maxHeartbeats 4000000 in
theorem tX10_laysGrid_2 {G : dt_G} {A : Nat → Prop} {p : Program} {l : Launch} {e : Env} {s : State} {m : MethodId} {args : Array Value} {below : List Frame} {meth : Method} {c : Code} (C : dt_Cx 1 G A p s m args meth c cX10_laysGrid 3 RX10) (hr : meth.sig.returnType = none) {M : dt_M} {res : dt_Ob}  : ∀ (n : Nat) (x1 : Int32) (T : dt_Ob), fX10_laysGrid_2 n x1 T = some res → dt_At G A p l e (dt_rm 2) s m args below meth c 3 (MQ below (dt_Post G A none (dt_put M 18 res)) args s 0 0 A) 2 [(0, .ref (G.1 18 0)), (1, .int x1)] [] (dt_put M 18 T) := by
  intro n
  induction n with
  | zero =>
    intro x1 T h
    unfold fX10_laysGrid_2 at h
    cases h
  | succ n ih =>
    intro x1 T h
    unfold fX10_laysGrid_2 at h
    refine dz_iload_n (pc := 2) C dX10_laysGrid_2 rfl 1 rfl ?_
    refine dz_bipush (pc := 3) (v := (8 : Int32)) C dX10_laysGrid_3 (by decide) ?_
    refine dz_icmp_ge (pc := 5) (t := 37) C dX10_laysGrid_5 (by decide) h (fun h => ?_) (fun h => ?_)
    · refine dz_iconst (pc := 37) (v := (0 : Int32)) C dX10_laysGrid_37 (by decide) ?_
      refine dz_istore_n (pc := 38) C dX10_laysGrid_38 rfl (by decide) rfl ?_
      refine dz_sub [1, 0] rfl ?_
      exact tX10_laysGrid_39 C hr dt_F (0 : Int32) T h
    · refine dz_iconst (pc := 8) (v := (0 : Int32)) C dX10_laysGrid_8 (by decide) ?_
      refine dz_istore_n (pc := 9) C dX10_laysGrid_9 rfl (by decide) rfl ?_
      refine dz_sub [1, 2, 0] rfl ?_
      exact tX10_laysGrid_10 C hr ih dt_F x1 (0 : Int32) T h
def fX10_laysGrid  (T : dt_Ob) : Option (dt_Ob) := (fX10_laysGrid_2 dt_F (0 : Int32) T)
set_option maxRecDepth 10000 in
set_option maxHeartbeats 4000000 in
theorem m_X10_laysGrid (l : Launch)  (M : dt_M) (T : dt_Ob)   {res : dt_Ob} (h : fX10_laysGrid T = some res) : dt_Met 1 l yX10_laysGrid cX10_laysGrid 3 none 2 (fun G => [.ref (G.1 18 0)]) (dt_put M 18 T) none (dt_put M 18 res) := by
  refine dz_enter (lv := fun G => [(0, .ref (G.1 18 0))]) (by decide) (fun _ => rfl) (fun _ => Nat.le_of_ble_eq_true rfl) (fun G A p e s m args below meth c C hr => ?_)
  unfold fX10_laysGrid at h
  refine dz_iconst (pc := 0) (v := (0 : Int32)) C dX10_laysGrid_0 (by decide) ?_
  refine dz_istore_n (pc := 1) C dX10_laysGrid_1 rfl (by decide) rfl ?_
  refine dz_sub [1, 0] rfl ?_
  exact tX10_laysGrid_2 C hr dt_F (0 : Int32) T h

def fX10_isBorne_35  (T : dt_Ob) : Option (Int32) := (some (1 : Int32))
set_option maxRecDepth 10000 in
set_option maxHeartbeats 4000000 in
theorem tX10_isBorne_35 {G : dt_G} {A : Nat → Prop} {p : Program} {l : Launch} {e : Env} {s : State} {m : MethodId} {args : Array Value} {below : List Frame} {meth : Method} {c : Code} (C : dt_Cx 1 G A p s m args meth c cX10_isBorne 3 RX10) (hr : meth.sig.returnType = (some .boolean)) {M : dt_M} {res : Int32}  : ∀ (T : dt_Ob), fX10_isBorne_35 T = some res → dt_At G A p l e (dt_rm 1) s m args below meth c 3 (MQ below (dt_Post G A (some (.int res)) (dt_put M 18 T)) args s 0 0 A) 35 [] [] (dt_put M 18 T) := by
  intro T h
  unfold fX10_isBorne_35 at h
  refine dz_iconst (pc := 35) (v := (1 : Int32)) C dX10_isBorne_35 (by decide) ?_
  refine dz_goto (pc := 36) (t := 40) C dX10_isBorne_36 (by decide) ?_
  cases dt_some h
  exact dz_zret (pc := 40) C hr (Or.inr rfl) dX10_isBorne_40
def fX10_isBorne  (x1 : Int32) (x2 : Int32) (T : dt_Ob) : Option (Int32) := ((dt_ix x1 20).bind fun a1 => (if ((T 8) a1) = 0 then (fX10_isBorne_35 T) else ((dt_ix x1 20).bind fun a2 => ((dt_ix (((T 7) a2) + x2) 8).bind fun a3 => ((dt_ix x1 20).bind fun a4 => ((dt_ix (((T 8) a4) - (1 : Int32)) 21).bind fun a5 => (if ((T (38 + a3)) a5) = (-1 : Int32) then (some (0 : Int32)) else (fX10_isBorne_35 T))))))))
set_option maxRecDepth 10000 in
set_option maxHeartbeats 4000000 in
theorem m_X10_isBorne (l : Launch)  (M : dt_M) (T : dt_Ob)  (x1 : Int32) (x2 : Int32) {res : Int32} (h : fX10_isBorne x1 x2 T = some res) : dt_Met 1 l yX10_isBorne cX10_isBorne 3 (some .boolean) 1 (fun G => [.ref (G.1 18 0), .int x1, .int x2]) (dt_put M 18 T) (some (.int res)) (dt_put M 18 T) := by
  refine dz_enter (lv := fun G => [(0, .ref (G.1 18 0)), (1, .int x1), (2, .int x2)]) (by decide) (fun _ => rfl) (fun _ => Nat.le_of_ble_eq_true rfl) (fun G A p e s m args below meth c C hr => ?_)
  unfold fX10_isBorne at h
  refine dz_aload_n (pc := 0) C dX10_isBorne_0 rfl 0 rfl ?_
  refine dz_getR (pc := 1) (k := 18) (j := 8) C Fc_X10 hk_18 (by decide) (by decide) rfl fl_X10_26 dX10_isBorne_1 ?_
  refine dz_iload_n (pc := 4) C dX10_isBorne_4 rfl 1 rfl ?_
  refine dz_iald (pc := 5) (k := 18) (j := 8) (n := 20) (f := (T 8)) C hk_18 (by decide) rfl (dt_rAf _ _ _ _) dX10_isBorne_5 h (fun a1 h => ?_)
  refine dz_if_eq (pc := 6) (t := 35) C dX10_isBorne_6 (by decide) h (fun h => ?_) (fun h => ?_)
  · refine dz_sub [] rfl ?_
    exact tX10_isBorne_35 C hr  T h
  · refine dz_aload_n (pc := 9) C dX10_isBorne_9 rfl 0 rfl ?_
    refine dz_getR (pc := 10) (k := 18) (j := 10) C Fc_X10 hk_18 (by decide) (by decide) rfl fl_X10_34 dX10_isBorne_10 ?_
    refine dz_aload_n (pc := 13) C dX10_isBorne_13 rfl 0 rfl ?_
    refine dz_getR (pc := 14) (k := 18) (j := 7) C Fc_X10 hk_18 (by decide) (by decide) rfl fl_X10_23 dX10_isBorne_14 ?_
    refine dz_iload_n (pc := 17) C dX10_isBorne_17 rfl 1 rfl ?_
    refine dz_iald (pc := 18) (k := 18) (j := 7) (n := 20) (f := (T 7)) C hk_18 (by decide) rfl (dt_rAf _ _ _ _) dX10_isBorne_18 h (fun a2 h => ?_)
    refine dz_iload_n (pc := 19) C dX10_isBorne_19 rfl 2 rfl ?_
    refine dz_iadd (pc := 20) C dX10_isBorne_20 ?_
    refine dz_aald (pc := 21) (k := 18) (j := 10) (n := 8) C hk_18 (by decide) rfl dX10_isBorne_21 h (fun a3 ha3 h => ?_)
    refine dz_aload_n (pc := 22) C dX10_isBorne_22 rfl 0 rfl ?_
    refine dz_getR (pc := 23) (k := 18) (j := 8) C Fc_X10 hk_18 (by decide) (by decide) rfl fl_X10_26 dX10_isBorne_23 ?_
    refine dz_iload_n (pc := 26) C dX10_isBorne_26 rfl 1 rfl ?_
    refine dz_iald (pc := 27) (k := 18) (j := 8) (n := 20) (f := (T 8)) C hk_18 (by decide) rfl (dt_rAf _ _ _ _) dX10_isBorne_27 h (fun a4 h => ?_)
    refine dz_iconst (pc := 28) (v := (1 : Int32)) C dX10_isBorne_28 (by decide) ?_
    refine dz_isub (pc := 29) C dX10_isBorne_29 ?_
    refine dz_iald (pc := 30) (k := 18) (j := (38 + a3)) (n := 21) (f := (T (38 + a3))) C hk_18 (by omega) (dt_k_row ha3) (dt_rAf _ _ _ _) dX10_isBorne_30 h (fun a5 h => ?_)
    refine dz_iconst (pc := 31) (v := (-1 : Int32)) C dX10_isBorne_31 (by decide) ?_
    refine dz_icmp_eq (pc := 32) (t := 39) C dX10_isBorne_32 (by decide) h (fun h => ?_) (fun h => ?_)
    · refine dz_iconst (pc := 39) (v := (0 : Int32)) C dX10_isBorne_39 (by decide) ?_
      cases dt_some h
      exact dz_zret (pc := 40) C hr (Or.inl rfl) dX10_isBorne_40
    · refine dz_sub [] rfl ?_
      exact tX10_isBorne_35 C hr  T h

def fX10_standsThere_39  (T : dt_Ob) : Option (Int32) := (some (1 : Int32))
set_option maxRecDepth 10000 in
set_option maxHeartbeats 4000000 in
theorem tX10_standsThere_39 {G : dt_G} {A : Nat → Prop} {p : Program} {l : Launch} {e : Env} {s : State} {m : MethodId} {args : Array Value} {below : List Frame} {meth : Method} {c : Code} (C : dt_Cx 1 G A p s m args meth c cX10_standsThere 3 RX10) (hr : meth.sig.returnType = (some .boolean)) {M : dt_M} {res : Int32}  : ∀ (T : dt_Ob), fX10_standsThere_39 T = some res → dt_At G A p l e (dt_rm 2) s m args below meth c 3 (MQ below (dt_Post G A (some (.int res)) (dt_put M 18 T)) args s 0 0 A) 39 [] [] (dt_put M 18 T) := by
  intro T h
  unfold fX10_standsThere_39 at h
  refine dz_iconst (pc := 39) (v := (1 : Int32)) C dX10_standsThere_39 (by decide) ?_
  refine dz_goto (pc := 40) (t := 44) C dX10_standsThere_40 (by decide) ?_
  cases dt_some h
  exact dz_zret (pc := 44) C hr (Or.inr rfl) dX10_standsThere_44
def fX10_standsThere  (x1 : Int32) (T : dt_Ob) : Option (Int32) := ((fX10_own x1 (0 : Int32) T).bind fun q1 => (if q1 = (3 : Int32) then ((fX10_isBorne x1 (1 : Int32) T).bind fun q4 => (if q4 = 0 then ((fX10_isBorne x1 (0 : Int32) T).bind fun q5 => (if q5 = 0 then (some (0 : Int32)) else ((fX10_isBorne x1 (2 : Int32) T).bind fun q6 => (if q6 = 0 then (some (0 : Int32)) else (fX10_standsThere_39 T))))) else (fX10_standsThere_39 T))) else ((fX10_isBorne x1 (0 : Int32) T).bind fun q2 => (if q2 = 0 then (some (0 : Int32)) else ((fX10_isBorne x1 (q1 - (1 : Int32)) T).bind fun q3 => (if q3 = 0 then (some (0 : Int32)) else (some (1 : Int32))))))))
set_option maxRecDepth 10000 in
set_option maxHeartbeats 4000000 in
theorem m_X10_standsThere (l : Launch)  (M : dt_M) (T : dt_Ob)  (x1 : Int32) {res : Int32} (h : fX10_standsThere x1 T = some res) : dt_Met 1 l yX10_standsThere cX10_standsThere 3 (some .boolean) 2 (fun G => [.ref (G.1 18 0), .int x1]) (dt_put M 18 T) (some (.int res)) (dt_put M 18 T) := by
  refine dz_enter (lv := fun G => [(0, .ref (G.1 18 0)), (1, .int x1)]) (by decide) (fun _ => rfl) (fun _ => Nat.le_of_ble_eq_true rfl) (fun G A p e s m args below meth c C hr => ?_)
  unfold fX10_standsThere at h
  refine dz_aload_n (pc := 0) C dX10_standsThere_0 rfl 0 rfl ?_
  refine dz_iload_n (pc := 1) C dX10_standsThere_1 rfl 1 rfl ?_
  refine dz_iconst (pc := 2) (v := (0 : Int32)) C dX10_standsThere_2 (by decide) ?_
  obtain ⟨q1, eq1, h⟩ := dt_bind h
  refine dz_callVi (pc := 3) (st := []) (k := 18) (As := [.int x1, .int (0 : Int32)]) (M' := (dt_put M 18 T)) C Fc_X10 hk_18 mf_X10_own rfl ml_X10_94 (m_X10_own l _ _ _ _ eq1) rfl rfl (by omega) (by decide) (Nat.le_of_ble_eq_true rfl) dX10_standsThere_3 ?_
  refine dz_istore_n (pc := 6) C dX10_standsThere_6 rfl (by decide) rfl ?_
  refine dz_iload_n (pc := 7) C dX10_standsThere_7 rfl 0 rfl ?_
  refine dz_iconst (pc := 8) (v := (3 : Int32)) C dX10_standsThere_8 (by decide) ?_
  refine dz_icmp_ne (pc := 9) (t := 45) C dX10_standsThere_9 (by decide) h (fun h => ?_) (fun h => ?_)
  · refine dz_aload_n (pc := 45) C dX10_standsThere_45 rfl 1 rfl ?_
    refine dz_iload_n (pc := 46) C dX10_standsThere_46 rfl 2 rfl ?_
    refine dz_iconst (pc := 47) (v := (0 : Int32)) C dX10_standsThere_47 (by decide) ?_
    obtain ⟨q2, eq2, h⟩ := dt_bind h
    refine dz_callVi (pc := 48) (st := []) (k := 18) (As := [.int x1, .int (0 : Int32)]) (M' := (dt_put M 18 T)) C Fc_X10 hk_18 mf_X10_isBorne rfl ml_X10_104 (m_X10_isBorne l _ _ _ _ eq2) rfl rfl (by omega) (by decide) (Nat.le_of_ble_eq_true rfl) dX10_standsThere_48 ?_
    refine dz_if_eq (pc := 51) (t := 69) C dX10_standsThere_51 (by decide) h (fun h => ?_) (fun h => ?_)
    · refine dz_iconst (pc := 69) (v := (0 : Int32)) C dX10_standsThere_69 (by decide) ?_
      cases dt_some h
      exact dz_zret (pc := 70) C hr (Or.inl rfl) dX10_standsThere_70
    · refine dz_aload_n (pc := 54) C dX10_standsThere_54 rfl 1 rfl ?_
      refine dz_iload_n (pc := 55) C dX10_standsThere_55 rfl 2 rfl ?_
      refine dz_iload_n (pc := 56) C dX10_standsThere_56 rfl 0 rfl ?_
      refine dz_iconst (pc := 57) (v := (1 : Int32)) C dX10_standsThere_57 (by decide) ?_
      refine dz_isub (pc := 58) C dX10_standsThere_58 ?_
      obtain ⟨q3, eq3, h⟩ := dt_bind h
      refine dz_callVi (pc := 59) (st := []) (k := 18) (As := [.int x1, .int (q1 - (1 : Int32))]) (M' := (dt_put M 18 T)) C Fc_X10 hk_18 mf_X10_isBorne rfl ml_X10_104 (m_X10_isBorne l _ _ _ _ eq3) rfl rfl (by omega) (by decide) (Nat.le_of_ble_eq_true rfl) dX10_standsThere_59 ?_
      refine dz_if_eq (pc := 62) (t := 69) C dX10_standsThere_62 (by decide) h (fun h => ?_) (fun h => ?_)
      · refine dz_iconst (pc := 69) (v := (0 : Int32)) C dX10_standsThere_69 (by decide) ?_
        cases dt_some h
        exact dz_zret (pc := 70) C hr (Or.inl rfl) dX10_standsThere_70
      · refine dz_iconst (pc := 65) (v := (1 : Int32)) C dX10_standsThere_65 (by decide) ?_
        refine dz_goto (pc := 66) (t := 70) C dX10_standsThere_66 (by decide) ?_
        cases dt_some h
        exact dz_zret (pc := 70) C hr (Or.inr rfl) dX10_standsThere_70
  · refine dz_aload_n (pc := 12) C dX10_standsThere_12 rfl 1 rfl ?_
    refine dz_iload_n (pc := 13) C dX10_standsThere_13 rfl 2 rfl ?_
    refine dz_iconst (pc := 14) (v := (1 : Int32)) C dX10_standsThere_14 (by decide) ?_
    obtain ⟨q4, eq4, h⟩ := dt_bind h
    refine dz_callVi (pc := 15) (st := []) (k := 18) (As := [.int x1, .int (1 : Int32)]) (M' := (dt_put M 18 T)) C Fc_X10 hk_18 mf_X10_isBorne rfl ml_X10_104 (m_X10_isBorne l _ _ _ _ eq4) rfl rfl (by omega) (by decide) (Nat.le_of_ble_eq_true rfl) dX10_standsThere_15 ?_
    refine dz_if_ne (pc := 18) (t := 39) C dX10_standsThere_18 (by decide) h (fun h => ?_) (fun h => ?_)
    · refine dz_sub [] rfl ?_
      exact tX10_standsThere_39 C hr  T h
    · refine dz_aload_n (pc := 21) C dX10_standsThere_21 rfl 1 rfl ?_
      refine dz_iload_n (pc := 22) C dX10_standsThere_22 rfl 2 rfl ?_
      refine dz_iconst (pc := 23) (v := (0 : Int32)) C dX10_standsThere_23 (by decide) ?_
      obtain ⟨q5, eq5, h⟩ := dt_bind h
      refine dz_callVi (pc := 24) (st := []) (k := 18) (As := [.int x1, .int (0 : Int32)]) (M' := (dt_put M 18 T)) C Fc_X10 hk_18 mf_X10_isBorne rfl ml_X10_104 (m_X10_isBorne l _ _ _ _ eq5) rfl rfl (by omega) (by decide) (Nat.le_of_ble_eq_true rfl) dX10_standsThere_24 ?_
      refine dz_if_eq (pc := 27) (t := 43) C dX10_standsThere_27 (by decide) h (fun h => ?_) (fun h => ?_)
      · refine dz_iconst (pc := 43) (v := (0 : Int32)) C dX10_standsThere_43 (by decide) ?_
        cases dt_some h
        exact dz_zret (pc := 44) C hr (Or.inl rfl) dX10_standsThere_44
      · refine dz_aload_n (pc := 30) C dX10_standsThere_30 rfl 1 rfl ?_
        refine dz_iload_n (pc := 31) C dX10_standsThere_31 rfl 2 rfl ?_
        refine dz_iconst (pc := 32) (v := (2 : Int32)) C dX10_standsThere_32 (by decide) ?_
        obtain ⟨q6, eq6, h⟩ := dt_bind h
        refine dz_callVi (pc := 33) (st := []) (k := 18) (As := [.int x1, .int (2 : Int32)]) (M' := (dt_put M 18 T)) C Fc_X10 hk_18 mf_X10_isBorne rfl ml_X10_104 (m_X10_isBorne l _ _ _ _ eq6) rfl rfl (by omega) (by decide) (Nat.le_of_ble_eq_true rfl) dX10_standsThere_33 ?_
        refine dz_if_eq (pc := 36) (t := 43) C dX10_standsThere_36 (by decide) h (fun h => ?_) (fun h => ?_)
        · refine dz_iconst (pc := 43) (v := (0 : Int32)) C dX10_standsThere_43 (by decide) ?_
          cases dt_some h
          exact dz_zret (pc := 44) C hr (Or.inl rfl) dX10_standsThere_44
        · refine dz_sub [] rfl ?_
          exact tX10_standsThere_39 C hr  T h

def fX10_laysLoads_216 (r32 : Int32 → dt_Ob → Option (dt_Ob)) (r38 : Int32 → Int32 → dt_Ob → Option (dt_Ob)) (x1 : Int32) (x2 : Int32) (T : dt_Ob) : Option (dt_Ob) := (r38 x1 (x2 + (1 : Int32)) T)
set_option maxRecDepth 10000 in
set_option maxHeartbeats 4000000 in
theorem tX10_laysLoads_216 {G : dt_G} {A : Nat → Prop} {p : Program} {l : Launch} {e : Env} {s : State} {m : MethodId} {args : Array Value} {below : List Frame} {meth : Method} {c : Code} (C : dt_Cx 1 G A p s m args meth c cX10_laysLoads 7 RX10) (hr : meth.sig.returnType = none) {M : dt_M} {res : dt_Ob} {r32 : Int32 → dt_Ob → Option (dt_Ob)} (hr32 : ∀ (x1 : Int32) (T : dt_Ob), r32 x1 T = some res → dt_At G A p l e (dt_rm 3) s m args below meth c 7 (MQ below (dt_Post G A none (dt_put M 18 res)) args s 0 0 A) 32 [(0, .ref (G.1 18 0)), (1, .int x1)] [] (dt_put M 18 T)) {r38 : Int32 → Int32 → dt_Ob → Option (dt_Ob)} (hr38 : ∀ (x1 : Int32) (x2 : Int32) (T : dt_Ob), r38 x1 x2 T = some res → dt_At G A p l e (dt_rm 3) s m args below meth c 7 (MQ below (dt_Post G A none (dt_put M 18 res)) args s 0 0 A) 38 [(0, .ref (G.1 18 0)), (1, .int x1), (2, .int x2)] [] (dt_put M 18 T)) : ∀ (x1 : Int32) (x2 : Int32) (T : dt_Ob), fX10_laysLoads_216 r32 r38 x1 x2 T = some res → dt_At G A p l e (dt_rm 3) s m args below meth c 7 (MQ below (dt_Post G A none (dt_put M 18 res)) args s 0 0 A) 216 [(0, .ref (G.1 18 0)), (1, .int x1), (2, .int x2)] [] (dt_put M 18 T) := by
  intro x1 x2 T h
  unfold fX10_laysLoads_216 at h
  refine dz_iinc (pc := 216) (v := (x2 + (1 : Int32))) C dX10_laysLoads_216 2 rfl rfl (by decide) rfl ?_
  refine dz_goto (pc := 219) (t := 38) C dX10_laysLoads_219 (by decide) ?_
  refine dz_sub [1, 2, 0] rfl ?_
  exact hr38 x1 (x2 + (1 : Int32)) T h
def fX10_laysLoads_210 (r32 : Int32 → dt_Ob → Option (dt_Ob)) (r38 : Int32 → Int32 → dt_Ob → Option (dt_Ob)) (r142 : Int32 → Int32 → Int32 → Int32 → Int32 → Int32 → dt_Ob → Option (dt_Ob)) (x1 : Int32) (x2 : Int32) (x3 : Int32) (x4 : Int32) (x5 : Int32) (x6 : Int32) (T : dt_Ob) : Option (dt_Ob) := (r142 x1 x2 x3 x4 x5 (x6 + (1 : Int32)) T)
set_option maxRecDepth 10000 in
set_option maxHeartbeats 4000000 in
theorem tX10_laysLoads_210 {G : dt_G} {A : Nat → Prop} {p : Program} {l : Launch} {e : Env} {s : State} {m : MethodId} {args : Array Value} {below : List Frame} {meth : Method} {c : Code} (C : dt_Cx 1 G A p s m args meth c cX10_laysLoads 7 RX10) (hr : meth.sig.returnType = none) {M : dt_M} {res : dt_Ob} {r32 : Int32 → dt_Ob → Option (dt_Ob)} (hr32 : ∀ (x1 : Int32) (T : dt_Ob), r32 x1 T = some res → dt_At G A p l e (dt_rm 3) s m args below meth c 7 (MQ below (dt_Post G A none (dt_put M 18 res)) args s 0 0 A) 32 [(0, .ref (G.1 18 0)), (1, .int x1)] [] (dt_put M 18 T)) {r38 : Int32 → Int32 → dt_Ob → Option (dt_Ob)} (hr38 : ∀ (x1 : Int32) (x2 : Int32) (T : dt_Ob), r38 x1 x2 T = some res → dt_At G A p l e (dt_rm 3) s m args below meth c 7 (MQ below (dt_Post G A none (dt_put M 18 res)) args s 0 0 A) 38 [(0, .ref (G.1 18 0)), (1, .int x1), (2, .int x2)] [] (dt_put M 18 T)) {r142 : Int32 → Int32 → Int32 → Int32 → Int32 → Int32 → dt_Ob → Option (dt_Ob)} (hr142 : ∀ (x1 : Int32) (x2 : Int32) (x3 : Int32) (x4 : Int32) (x5 : Int32) (x6 : Int32) (T : dt_Ob), r142 x1 x2 x3 x4 x5 x6 T = some res → dt_At G A p l e (dt_rm 3) s m args below meth c 7 (MQ below (dt_Post G A none (dt_put M 18 res)) args s 0 0 A) 142 [(0, .ref (G.1 18 0)), (1, .int x1), (2, .int x2), (3, .int x3), (4, .int x4), (5, .int x5), (6, .int x6)] [] (dt_put M 18 T)) : ∀ (x1 : Int32) (x2 : Int32) (x3 : Int32) (x4 : Int32) (x5 : Int32) (x6 : Int32) (T : dt_Ob), fX10_laysLoads_210 r32 r38 r142 x1 x2 x3 x4 x5 x6 T = some res → dt_At G A p l e (dt_rm 3) s m args below meth c 7 (MQ below (dt_Post G A none (dt_put M 18 res)) args s 0 0 A) 210 [(0, .ref (G.1 18 0)), (1, .int x1), (2, .int x2), (3, .int x3), (4, .int x4), (5, .int x5), (6, .int x6)] [] (dt_put M 18 T) := by
  intro x1 x2 x3 x4 x5 x6 T h
  unfold fX10_laysLoads_210 at h
  refine dz_iinc (pc := 210) (v := (x6 + (1 : Int32))) C dX10_laysLoads_210 6 rfl rfl (by decide) rfl ?_
  refine dz_goto (pc := 213) (t := 142) C dX10_laysLoads_213 (by decide) ?_
  refine dz_sub [1, 2, 3, 4, 5, 6, 0] rfl ?_
  exact hr142 x1 x2 x3 x4 x5 (x6 + (1 : Int32)) T h
def fX10_laysLoads_204 (r32 : Int32 → dt_Ob → Option (dt_Ob)) (r38 : Int32 → Int32 → dt_Ob → Option (dt_Ob)) (r142 : Int32 → Int32 → Int32 → Int32 → Int32 → Int32 → dt_Ob → Option (dt_Ob)) (x1 : Int32) (x2 : Int32) (x3 : Int32) (x4 : Int32) (x5 : Int32) (x6 : Int32) (s1 : Int32) (s2 : Int32) (s3 : Int32) (s4 : Int32) (T : dt_Ob) : Option (dt_Ob) := ((dt_ix s1 20).bind fun a17 => (fX10_laysLoads_210 r32 r38 r142 x1 x2 x3 x4 (x5 + (-1 : Int32)) x6 (dt_set T 9 a17 (s2 + (s3 + s4)))))
set_option maxRecDepth 10000 in
set_option maxHeartbeats 4000000 in
theorem tX10_laysLoads_204 {G : dt_G} {A : Nat → Prop} {p : Program} {l : Launch} {e : Env} {s : State} {m : MethodId} {args : Array Value} {below : List Frame} {meth : Method} {c : Code} (C : dt_Cx 1 G A p s m args meth c cX10_laysLoads 7 RX10) (hr : meth.sig.returnType = none) {M : dt_M} {res : dt_Ob} {r32 : Int32 → dt_Ob → Option (dt_Ob)} (hr32 : ∀ (x1 : Int32) (T : dt_Ob), r32 x1 T = some res → dt_At G A p l e (dt_rm 3) s m args below meth c 7 (MQ below (dt_Post G A none (dt_put M 18 res)) args s 0 0 A) 32 [(0, .ref (G.1 18 0)), (1, .int x1)] [] (dt_put M 18 T)) {r38 : Int32 → Int32 → dt_Ob → Option (dt_Ob)} (hr38 : ∀ (x1 : Int32) (x2 : Int32) (T : dt_Ob), r38 x1 x2 T = some res → dt_At G A p l e (dt_rm 3) s m args below meth c 7 (MQ below (dt_Post G A none (dt_put M 18 res)) args s 0 0 A) 38 [(0, .ref (G.1 18 0)), (1, .int x1), (2, .int x2)] [] (dt_put M 18 T)) {r142 : Int32 → Int32 → Int32 → Int32 → Int32 → Int32 → dt_Ob → Option (dt_Ob)} (hr142 : ∀ (x1 : Int32) (x2 : Int32) (x3 : Int32) (x4 : Int32) (x5 : Int32) (x6 : Int32) (T : dt_Ob), r142 x1 x2 x3 x4 x5 x6 T = some res → dt_At G A p l e (dt_rm 3) s m args below meth c 7 (MQ below (dt_Post G A none (dt_put M 18 res)) args s 0 0 A) 142 [(0, .ref (G.1 18 0)), (1, .int x1), (2, .int x2), (3, .int x3), (4, .int x4), (5, .int x5), (6, .int x6)] [] (dt_put M 18 T)) : ∀ (x1 : Int32) (x2 : Int32) (x3 : Int32) (x4 : Int32) (x5 : Int32) (x6 : Int32) (s1 : Int32) (s2 : Int32) (s3 : Int32) (s4 : Int32) (T : dt_Ob), fX10_laysLoads_204 r32 r38 r142 x1 x2 x3 x4 x5 x6 s1 s2 s3 s4 T = some res → dt_At G A p l e (dt_rm 3) s m args below meth c 7 (MQ below (dt_Post G A none (dt_put M 18 res)) args s 0 0 A) 204 [(0, .ref (G.1 18 0)), (1, .int x1), (2, .int x2), (3, .int x3), (4, .int x4), (5, .int x5), (6, .int x6)] [.int s4, .int s3, .int s2, .int s1, .ref (G.1 18 (9 + 1))] (dt_put M 18 T) := by
  intro x1 x2 x3 x4 x5 x6 s1 s2 s3 s4 T h
  unfold fX10_laysLoads_204 at h
  refine dz_iadd (pc := 204) C dX10_laysLoads_204 ?_
  refine dz_iadd (pc := 205) C dX10_laysLoads_205 ?_
  refine dz_iast (pc := 206) (k := 18) (j := 9) (n := 20) (M' := fun a17 => (dt_put M 18 (dt_set T 9 a17 (s2 + (s3 + s4))))) C hk_18 (by decide) rfl (fun a17 => (dt_wA _ _ _ _ _ _)) dX10_laysLoads_206 h (fun a17 h => ?_)
  refine dz_iinc (pc := 207) (v := (x5 + (-1 : Int32))) C dX10_laysLoads_207 5 rfl rfl (by decide) rfl ?_
  refine dz_sub [1, 2, 3, 4, 5, 0, 6] rfl ?_
  exact tX10_laysLoads_210 C hr hr32 hr38 hr142 x1 x2 x3 x4 (x5 + (-1 : Int32)) x6 (dt_set T 9 a17 (s2 + (s3 + s4))) h
def fX10_laysLoads_142 (r32 : Int32 → dt_Ob → Option (dt_Ob)) (r38 : Int32 → Int32 → dt_Ob → Option (dt_Ob)) : Nat → Int32 → Int32 → Int32 → Int32 → Int32 → Int32 → dt_Ob → Option (dt_Ob)
  | 0, _, _, _, _, _, _, _ => none
  | n + 1, x1, x2, x3, x4, x5, x6, T => ((fX10_own x2 (0 : Int32) T).bind fun q11 => (if q11 ≤ x6 then (fX10_laysLoads_216 r32 r38 x1 x2 T) else ((fX10_isBorne x2 x6 T).bind fun q12 => (if q12 = 0 then (fX10_laysLoads_210 r32 r38 (fX10_laysLoads_142 r32 r38 n) x1 x2 x3 x4 x5 x6 T) else ((dt_ix x2 20).bind fun a13 => ((dt_ix (((T 7) a13) + x6) 8).bind fun a14 => ((dt_ix (x1 - (1 : Int32)) 21).bind fun a15 => ((dt_ix ((T (38 + a14)) a15) 20).bind fun a16 => (if x3 = 0 then none else (if x5 ≤ 0 then (fX10_laysLoads_204 r32 r38 (fX10_laysLoads_142 r32 r38 n) x1 x2 x3 x4 x5 x6 ((T (38 + a14)) a15) ((T 9) a16) (x4 / x3) (0 : Int32) T) else (fX10_laysLoads_204 r32 r38 (fX10_laysLoads_142 r32 r38 n) x1 x2 x3 x4 x5 x6 ((T (38 + a14)) a15) ((T 9) a16) (x4 / x3) (1 : Int32) T)))))))))))
set_option maxRecDepth 10000 in
set_option maxHeartbeats 4000000 in
theorem tX10_laysLoads_142 {G : dt_G} {A : Nat → Prop} {p : Program} {l : Launch} {e : Env} {s : State} {m : MethodId} {args : Array Value} {below : List Frame} {meth : Method} {c : Code} (C : dt_Cx 1 G A p s m args meth c cX10_laysLoads 7 RX10) (hr : meth.sig.returnType = none) {M : dt_M} {res : dt_Ob} {r32 : Int32 → dt_Ob → Option (dt_Ob)} (hr32 : ∀ (x1 : Int32) (T : dt_Ob), r32 x1 T = some res → dt_At G A p l e (dt_rm 3) s m args below meth c 7 (MQ below (dt_Post G A none (dt_put M 18 res)) args s 0 0 A) 32 [(0, .ref (G.1 18 0)), (1, .int x1)] [] (dt_put M 18 T)) {r38 : Int32 → Int32 → dt_Ob → Option (dt_Ob)} (hr38 : ∀ (x1 : Int32) (x2 : Int32) (T : dt_Ob), r38 x1 x2 T = some res → dt_At G A p l e (dt_rm 3) s m args below meth c 7 (MQ below (dt_Post G A none (dt_put M 18 res)) args s 0 0 A) 38 [(0, .ref (G.1 18 0)), (1, .int x1), (2, .int x2)] [] (dt_put M 18 T)) : ∀ (n : Nat) (x1 : Int32) (x2 : Int32) (x3 : Int32) (x4 : Int32) (x5 : Int32) (x6 : Int32) (T : dt_Ob), fX10_laysLoads_142 r32 r38 n x1 x2 x3 x4 x5 x6 T = some res → dt_At G A p l e (dt_rm 3) s m args below meth c 7 (MQ below (dt_Post G A none (dt_put M 18 res)) args s 0 0 A) 142 [(0, .ref (G.1 18 0)), (1, .int x1), (2, .int x2), (3, .int x3), (4, .int x4), (5, .int x5), (6, .int x6)] [] (dt_put M 18 T) := by
  intro n
  induction n with
  | zero =>
    intro x1 x2 x3 x4 x5 x6 T h
    unfold fX10_laysLoads_142 at h
    cases h
  | succ n ih =>
    intro x1 x2 x3 x4 x5 x6 T h
    unfold fX10_laysLoads_142 at h
    refine dz_iload (pc := 142) C dX10_laysLoads_142 6 rfl ?_
    refine dz_aload_n (pc := 144) C dX10_laysLoads_144 rfl 0 rfl ?_
    refine dz_iload_n (pc := 145) C dX10_laysLoads_145 rfl 2 rfl ?_
    refine dz_iconst (pc := 146) (v := (0 : Int32)) C dX10_laysLoads_146 (by decide) ?_
    obtain ⟨q11, eq11, h⟩ := dt_bind h
    refine dz_callVi (pc := 147) (st := [.int x6]) (k := 18) (As := [.int x2, .int (0 : Int32)]) (M' := (dt_put M 18 T)) C Fc_X10 hk_18 mf_X10_own rfl ml_X10_94 (m_X10_own l _ _ _ _ eq11) rfl rfl (by omega) (by decide) (Nat.le_of_ble_eq_true rfl) dX10_laysLoads_147 ?_
    refine dz_icmp_ge (pc := 150) (t := 216) C dX10_laysLoads_150 (by decide) h (fun h => ?_) (fun h => ?_)
    · refine dz_sub [0, 1, 2] rfl ?_
      exact tX10_laysLoads_216 C hr hr32 hr38 x1 x2 T h
    · refine dz_aload_n (pc := 153) C dX10_laysLoads_153 rfl 0 rfl ?_
      refine dz_iload_n (pc := 154) C dX10_laysLoads_154 rfl 2 rfl ?_
      refine dz_iload (pc := 155) C dX10_laysLoads_155 6 rfl ?_
      obtain ⟨q12, eq12, h⟩ := dt_bind h
      refine dz_callVi (pc := 157) (st := []) (k := 18) (As := [.int x2, .int x6]) (M' := (dt_put M 18 T)) C Fc_X10 hk_18 mf_X10_isBorne rfl ml_X10_104 (m_X10_isBorne l _ _ _ _ eq12) rfl rfl (by omega) (by decide) (Nat.le_of_ble_eq_true rfl) dX10_laysLoads_157 ?_
      refine dz_if_ne (pc := 160) (t := 166) C dX10_laysLoads_160 (by decide) h (fun h => ?_) (fun h => ?_)
      · refine dz_aload_n (pc := 166) C dX10_laysLoads_166 rfl 0 rfl ?_
        refine dz_getR (pc := 167) (k := 18) (j := 9) C Fc_X10 hk_18 (by decide) (by decide) rfl fl_X10_29 dX10_laysLoads_167 ?_
        refine dz_aload_n (pc := 170) C dX10_laysLoads_170 rfl 0 rfl ?_
        refine dz_getR (pc := 171) (k := 18) (j := 10) C Fc_X10 hk_18 (by decide) (by decide) rfl fl_X10_34 dX10_laysLoads_171 ?_
        refine dz_aload_n (pc := 174) C dX10_laysLoads_174 rfl 0 rfl ?_
        refine dz_getR (pc := 175) (k := 18) (j := 7) C Fc_X10 hk_18 (by decide) (by decide) rfl fl_X10_23 dX10_laysLoads_175 ?_
        refine dz_iload_n (pc := 178) C dX10_laysLoads_178 rfl 2 rfl ?_
        refine dz_iald (pc := 179) (k := 18) (j := 7) (n := 20) (f := (T 7)) C hk_18 (by decide) rfl (dt_rAf _ _ _ _) dX10_laysLoads_179 h (fun a13 h => ?_)
        refine dz_iload (pc := 180) C dX10_laysLoads_180 6 rfl ?_
        refine dz_iadd (pc := 182) C dX10_laysLoads_182 ?_
        refine dz_aald (pc := 183) (k := 18) (j := 10) (n := 8) C hk_18 (by decide) rfl dX10_laysLoads_183 h (fun a14 ha14 h => ?_)
        refine dz_iload_n (pc := 184) C dX10_laysLoads_184 rfl 1 rfl ?_
        refine dz_iconst (pc := 185) (v := (1 : Int32)) C dX10_laysLoads_185 (by decide) ?_
        refine dz_isub (pc := 186) C dX10_laysLoads_186 ?_
        refine dz_iald (pc := 187) (k := 18) (j := (38 + a14)) (n := 21) (f := (T (38 + a14))) C hk_18 (by omega) (dt_k_row ha14) (dt_rAf _ _ _ _) dX10_laysLoads_187 h (fun a15 h => ?_)
        refine dz_dup2 (pc := 188) C dX10_laysLoads_188 rfl rfl ?_
        refine dz_iald (pc := 189) (k := 18) (j := 9) (n := 20) (f := (T 9)) C hk_18 (by decide) rfl (dt_rAf _ _ _ _) dX10_laysLoads_189 h (fun a16 h => ?_)
        refine dz_iload (pc := 190) C dX10_laysLoads_190 4 rfl ?_
        refine dz_iload_n (pc := 192) C dX10_laysLoads_192 rfl 3 rfl ?_
        refine dz_idiv (pc := 193) C dX10_laysLoads_193 h (fun h => ?_)
        refine dz_iload (pc := 194) C dX10_laysLoads_194 5 rfl ?_
        refine dz_if_le (pc := 196) (t := 203) C dX10_laysLoads_196 (by decide) h (fun h => ?_) (fun h => ?_)
        · refine dz_iconst (pc := 203) (v := (0 : Int32)) C dX10_laysLoads_203 (by decide) ?_
          exact tX10_laysLoads_204 C hr hr32 hr38 ih x1 x2 x3 x4 x5 x6 ((T (38 + a14)) a15) ((T 9) a16) (x4 / x3) (0 : Int32) T h
        · refine dz_iconst (pc := 199) (v := (1 : Int32)) C dX10_laysLoads_199 (by decide) ?_
          refine dz_goto (pc := 200) (t := 204) C dX10_laysLoads_200 (by decide) ?_
          exact tX10_laysLoads_204 C hr hr32 hr38 ih x1 x2 x3 x4 x5 x6 ((T (38 + a14)) a15) ((T 9) a16) (x4 / x3) (1 : Int32) T h
      · refine dz_goto (pc := 163) (t := 210) C dX10_laysLoads_163 (by decide) ?_
        exact tX10_laysLoads_210 C hr hr32 hr38 ih x1 x2 x3 x4 x5 x6 T h
def fX10_laysLoads_103 (r32 : Int32 → dt_Ob → Option (dt_Ob)) (r38 : Int32 → Int32 → dt_Ob → Option (dt_Ob)) (r76 : Int32 → Int32 → Int32 → Int32 → dt_Ob → Option (dt_Ob)) (x1 : Int32) (x2 : Int32) (x4 : Int32) (s0 : Int32) (s1 : Int32) (T : dt_Ob) : Option (dt_Ob) := (r76 x1 x2 (s0 + s1) (x4 + (1 : Int32)) T)
set_option maxRecDepth 10000 in
set_option maxHeartbeats 4000000 in
theorem tX10_laysLoads_103 {G : dt_G} {A : Nat → Prop} {p : Program} {l : Launch} {e : Env} {s : State} {m : MethodId} {args : Array Value} {below : List Frame} {meth : Method} {c : Code} (C : dt_Cx 1 G A p s m args meth c cX10_laysLoads 7 RX10) (hr : meth.sig.returnType = none) {M : dt_M} {res : dt_Ob} {r32 : Int32 → dt_Ob → Option (dt_Ob)} (hr32 : ∀ (x1 : Int32) (T : dt_Ob), r32 x1 T = some res → dt_At G A p l e (dt_rm 3) s m args below meth c 7 (MQ below (dt_Post G A none (dt_put M 18 res)) args s 0 0 A) 32 [(0, .ref (G.1 18 0)), (1, .int x1)] [] (dt_put M 18 T)) {r38 : Int32 → Int32 → dt_Ob → Option (dt_Ob)} (hr38 : ∀ (x1 : Int32) (x2 : Int32) (T : dt_Ob), r38 x1 x2 T = some res → dt_At G A p l e (dt_rm 3) s m args below meth c 7 (MQ below (dt_Post G A none (dt_put M 18 res)) args s 0 0 A) 38 [(0, .ref (G.1 18 0)), (1, .int x1), (2, .int x2)] [] (dt_put M 18 T)) {r76 : Int32 → Int32 → Int32 → Int32 → dt_Ob → Option (dt_Ob)} (hr76 : ∀ (x1 : Int32) (x2 : Int32) (x3 : Int32) (x4 : Int32) (T : dt_Ob), r76 x1 x2 x3 x4 T = some res → dt_At G A p l e (dt_rm 3) s m args below meth c 7 (MQ below (dt_Post G A none (dt_put M 18 res)) args s 0 0 A) 76 [(0, .ref (G.1 18 0)), (1, .int x1), (2, .int x2), (3, .int x3), (4, .int x4)] [] (dt_put M 18 T)) : ∀ (x1 : Int32) (x2 : Int32) (x4 : Int32) (s0 : Int32) (s1 : Int32) (T : dt_Ob), fX10_laysLoads_103 r32 r38 r76 x1 x2 x4 s0 s1 T = some res → dt_At G A p l e (dt_rm 3) s m args below meth c 7 (MQ below (dt_Post G A none (dt_put M 18 res)) args s 0 0 A) 103 [(0, .ref (G.1 18 0)), (1, .int x1), (2, .int x2), (4, .int x4)] [.int s1, .int s0] (dt_put M 18 T) := by
  intro x1 x2 x4 s0 s1 T h
  unfold fX10_laysLoads_103 at h
  refine dz_iadd (pc := 103) C dX10_laysLoads_103 ?_
  refine dz_istore_n (pc := 104) C dX10_laysLoads_104 rfl (by decide) rfl ?_
  refine dz_iinc (pc := 105) (v := (x4 + (1 : Int32))) C dX10_laysLoads_105 4 rfl rfl (by decide) rfl ?_
  refine dz_goto (pc := 108) (t := 76) C dX10_laysLoads_108 (by decide) ?_
  refine dz_sub [2, 3, 4, 1, 0] rfl ?_
  exact hr76 x1 x2 (s0 + s1) (x4 + (1 : Int32)) T h
def fX10_laysLoads_76 (r32 : Int32 → dt_Ob → Option (dt_Ob)) (r38 : Int32 → Int32 → dt_Ob → Option (dt_Ob)) : Nat → Int32 → Int32 → Int32 → Int32 → dt_Ob → Option (dt_Ob)
  | 0, _, _, _, _, _ => none
  | n + 1, x1, x2, x3, x4, T => ((fX10_own x2 (0 : Int32) T).bind fun q7 => (if q7 ≤ x4 then (if x3 = 0 then (fX10_laysLoads_216 r32 r38 x1 x2 T) else ((fX10_own x2 (1 : Int32) T).bind fun q8 => ((dt_ix x2 20).bind fun a9 => (if x3 = 0 then none else (fX10_laysLoads_142 r32 r38 dt_F x1 x2 x3 (q8 + ((T 9) a9)) ((q8 + ((T 9) a9)) - (q8 + ((T 9) a9)) / x3 * x3) (0 : Int32) T))))) else ((fX10_isBorne x2 x4 T).bind fun q10 => (if q10 = 0 then (fX10_laysLoads_103 r32 r38 (fX10_laysLoads_76 r32 r38 n) x1 x2 x4 x3 (0 : Int32) T) else (fX10_laysLoads_103 r32 r38 (fX10_laysLoads_76 r32 r38 n) x1 x2 x4 x3 (1 : Int32) T)))))
set_option maxRecDepth 10000 in
set_option maxHeartbeats 4000000 in
theorem tX10_laysLoads_76 {G : dt_G} {A : Nat → Prop} {p : Program} {l : Launch} {e : Env} {s : State} {m : MethodId} {args : Array Value} {below : List Frame} {meth : Method} {c : Code} (C : dt_Cx 1 G A p s m args meth c cX10_laysLoads 7 RX10) (hr : meth.sig.returnType = none) {M : dt_M} {res : dt_Ob} {r32 : Int32 → dt_Ob → Option (dt_Ob)} (hr32 : ∀ (x1 : Int32) (T : dt_Ob), r32 x1 T = some res → dt_At G A p l e (dt_rm 3) s m args below meth c 7 (MQ below (dt_Post G A none (dt_put M 18 res)) args s 0 0 A) 32 [(0, .ref (G.1 18 0)), (1, .int x1)] [] (dt_put M 18 T)) {r38 : Int32 → Int32 → dt_Ob → Option (dt_Ob)} (hr38 : ∀ (x1 : Int32) (x2 : Int32) (T : dt_Ob), r38 x1 x2 T = some res → dt_At G A p l e (dt_rm 3) s m args below meth c 7 (MQ below (dt_Post G A none (dt_put M 18 res)) args s 0 0 A) 38 [(0, .ref (G.1 18 0)), (1, .int x1), (2, .int x2)] [] (dt_put M 18 T)) : ∀ (n : Nat) (x1 : Int32) (x2 : Int32) (x3 : Int32) (x4 : Int32) (T : dt_Ob), fX10_laysLoads_76 r32 r38 n x1 x2 x3 x4 T = some res → dt_At G A p l e (dt_rm 3) s m args below meth c 7 (MQ below (dt_Post G A none (dt_put M 18 res)) args s 0 0 A) 76 [(0, .ref (G.1 18 0)), (1, .int x1), (2, .int x2), (3, .int x3), (4, .int x4)] [] (dt_put M 18 T) := by
  intro n
  induction n with
  | zero =>
    intro x1 x2 x3 x4 T h
    unfold fX10_laysLoads_76 at h
    cases h
  | succ n ih =>
    intro x1 x2 x3 x4 T h
    unfold fX10_laysLoads_76 at h
    refine dz_iload (pc := 76) C dX10_laysLoads_76 4 rfl ?_
    refine dz_aload_n (pc := 78) C dX10_laysLoads_78 rfl 0 rfl ?_
    refine dz_iload_n (pc := 79) C dX10_laysLoads_79 rfl 2 rfl ?_
    refine dz_iconst (pc := 80) (v := (0 : Int32)) C dX10_laysLoads_80 (by decide) ?_
    obtain ⟨q7, eq7, h⟩ := dt_bind h
    refine dz_callVi (pc := 81) (st := [.int x4]) (k := 18) (As := [.int x2, .int (0 : Int32)]) (M' := (dt_put M 18 T)) C Fc_X10 hk_18 mf_X10_own rfl ml_X10_94 (m_X10_own l _ _ _ _ eq7) rfl rfl (by omega) (by decide) (Nat.le_of_ble_eq_true rfl) dX10_laysLoads_81 ?_
    refine dz_icmp_ge (pc := 84) (t := 111) C dX10_laysLoads_84 (by decide) h (fun h => ?_) (fun h => ?_)
    · refine dz_iload_n (pc := 111) C dX10_laysLoads_111 rfl 3 rfl ?_
      refine dz_if_ne (pc := 112) (t := 118) C dX10_laysLoads_112 (by decide) h (fun h => ?_) (fun h => ?_)
      · refine dz_aload_n (pc := 118) C dX10_laysLoads_118 rfl 0 rfl ?_
        refine dz_iload_n (pc := 119) C dX10_laysLoads_119 rfl 2 rfl ?_
        refine dz_iconst (pc := 120) (v := (1 : Int32)) C dX10_laysLoads_120 (by decide) ?_
        obtain ⟨q8, eq8, h⟩ := dt_bind h
        refine dz_callVi (pc := 121) (st := []) (k := 18) (As := [.int x2, .int (1 : Int32)]) (M' := (dt_put M 18 T)) C Fc_X10 hk_18 mf_X10_own rfl ml_X10_94 (m_X10_own l _ _ _ _ eq8) rfl rfl (by omega) (by decide) (Nat.le_of_ble_eq_true rfl) dX10_laysLoads_121 ?_
        refine dz_aload_n (pc := 124) C dX10_laysLoads_124 rfl 0 rfl ?_
        refine dz_getR (pc := 125) (k := 18) (j := 9) C Fc_X10 hk_18 (by decide) (by decide) rfl fl_X10_29 dX10_laysLoads_125 ?_
        refine dz_iload_n (pc := 128) C dX10_laysLoads_128 rfl 2 rfl ?_
        refine dz_iald (pc := 129) (k := 18) (j := 9) (n := 20) (f := (T 9)) C hk_18 (by decide) rfl (dt_rAf _ _ _ _) dX10_laysLoads_129 h (fun a9 h => ?_)
        refine dz_iadd (pc := 130) C dX10_laysLoads_130 ?_
        refine dz_istore (pc := 131) C dX10_laysLoads_131 (by decide) rfl ?_
        refine dz_iload (pc := 133) C dX10_laysLoads_133 0 rfl ?_
        refine dz_iload_n (pc := 135) C dX10_laysLoads_135 rfl 4 rfl ?_
        refine dz_irem (pc := 136) C dX10_laysLoads_136 h (fun h => ?_)
        refine dz_istore (pc := 137) C dX10_laysLoads_137 (by decide) rfl ?_
        refine dz_iconst (pc := 139) (v := (0 : Int32)) C dX10_laysLoads_139 (by decide) ?_
        refine dz_istore (pc := 140) C dX10_laysLoads_140 (by decide) rfl ?_
        refine dz_sub [3, 4, 5, 6, 2, 1, 0] rfl ?_
        exact tX10_laysLoads_142 C hr hr32 hr38 dt_F x1 x2 x3 (q8 + ((T 9) a9)) ((q8 + ((T 9) a9)) - (q8 + ((T 9) a9)) / x3 * x3) (0 : Int32) T h
      · refine dz_goto (pc := 115) (t := 216) C dX10_laysLoads_115 (by decide) ?_
        refine dz_sub [0, 1, 2] rfl ?_
        exact tX10_laysLoads_216 C hr hr32 hr38 x1 x2 T h
    · refine dz_iload_n (pc := 87) C dX10_laysLoads_87 rfl 3 rfl ?_
      refine dz_aload_n (pc := 88) C dX10_laysLoads_88 rfl 0 rfl ?_
      refine dz_iload_n (pc := 89) C dX10_laysLoads_89 rfl 2 rfl ?_
      refine dz_iload (pc := 90) C dX10_laysLoads_90 4 rfl ?_
      obtain ⟨q10, eq10, h⟩ := dt_bind h
      refine dz_callVi (pc := 92) (st := [.int x3]) (k := 18) (As := [.int x2, .int x4]) (M' := (dt_put M 18 T)) C Fc_X10 hk_18 mf_X10_isBorne rfl ml_X10_104 (m_X10_isBorne l _ _ _ _ eq10) rfl rfl (by omega) (by decide) (Nat.le_of_ble_eq_true rfl) dX10_laysLoads_92 ?_
      refine dz_if_eq (pc := 95) (t := 102) C dX10_laysLoads_95 (by decide) h (fun h => ?_) (fun h => ?_)
      · refine dz_iconst (pc := 102) (v := (0 : Int32)) C dX10_laysLoads_102 (by decide) ?_
        refine dz_sub [0, 1, 2, 4] rfl ?_
        exact tX10_laysLoads_103 C hr hr32 hr38 ih x1 x2 x4 x3 (0 : Int32) T h
      · refine dz_iconst (pc := 98) (v := (1 : Int32)) C dX10_laysLoads_98 (by decide) ?_
        refine dz_goto (pc := 99) (t := 103) C dX10_laysLoads_99 (by decide) ?_
        refine dz_sub [0, 1, 2, 4] rfl ?_
        exact tX10_laysLoads_103 C hr hr32 hr38 ih x1 x2 x4 x3 (1 : Int32) T h
def fX10_laysLoads_38 (r32 : Int32 → dt_Ob → Option (dt_Ob)) : Nat → Int32 → Int32 → dt_Ob → Option (dt_Ob)
  | 0, _, _, _ => none
  | n + 1, x1, x2, T => ((dt_ix (1 : Int32) 1225).bind fun a4 => (if ((T 0) a4) ≤ x2 then (r32 (x1 + (-1 : Int32)) T) else ((dt_ix x2 20).bind fun a5 => (if ((T 7) a5) = (-1 : Int32) then (fX10_laysLoads_216 r32 (fX10_laysLoads_38 r32 n) x1 x2 T) else ((dt_ix x2 20).bind fun a6 => (if ((T 8) a6) = x1 then (fX10_laysLoads_76 r32 (fX10_laysLoads_38 r32 n) dt_F x1 x2 (0 : Int32) (0 : Int32) T) else (fX10_laysLoads_216 r32 (fX10_laysLoads_38 r32 n) x1 x2 T)))))))
set_option maxRecDepth 10000 in
set_option maxHeartbeats 4000000 in
theorem tX10_laysLoads_38 {G : dt_G} {A : Nat → Prop} {p : Program} {l : Launch} {e : Env} {s : State} {m : MethodId} {args : Array Value} {below : List Frame} {meth : Method} {c : Code} (C : dt_Cx 1 G A p s m args meth c cX10_laysLoads 7 RX10) (hr : meth.sig.returnType = none) {M : dt_M} {res : dt_Ob} {r32 : Int32 → dt_Ob → Option (dt_Ob)} (hr32 : ∀ (x1 : Int32) (T : dt_Ob), r32 x1 T = some res → dt_At G A p l e (dt_rm 3) s m args below meth c 7 (MQ below (dt_Post G A none (dt_put M 18 res)) args s 0 0 A) 32 [(0, .ref (G.1 18 0)), (1, .int x1)] [] (dt_put M 18 T)) : ∀ (n : Nat) (x1 : Int32) (x2 : Int32) (T : dt_Ob), fX10_laysLoads_38 r32 n x1 x2 T = some res → dt_At G A p l e (dt_rm 3) s m args below meth c 7 (MQ below (dt_Post G A none (dt_put M 18 res)) args s 0 0 A) 38 [(0, .ref (G.1 18 0)), (1, .int x1), (2, .int x2)] [] (dt_put M 18 T) := by
  intro n
  induction n with
  | zero =>
    intro x1 x2 T h
    unfold fX10_laysLoads_38 at h
    cases h
  | succ n ih =>
    intro x1 x2 T h
    unfold fX10_laysLoads_38 at h
    refine dz_iload_n (pc := 38) C dX10_laysLoads_38 rfl 2 rfl ?_
    refine dz_aload_n (pc := 39) C dX10_laysLoads_39 rfl 0 rfl ?_
    refine dz_getR (pc := 40) (k := 18) (j := 0) C Fc_X10 hk_18 (by decide) (by decide) rfl fl_X10_7 dX10_laysLoads_40 ?_
    refine dz_iconst (pc := 43) (v := (1 : Int32)) C dX10_laysLoads_43 (by decide) ?_
    refine dz_iald (pc := 44) (k := 18) (j := 0) (n := 1225) (f := (T 0)) C hk_18 (by decide) rfl (dt_rAf _ _ _ _) dX10_laysLoads_44 h (fun a4 h => ?_)
    refine dz_icmp_ge (pc := 45) (t := 222) C dX10_laysLoads_45 (by decide) h (fun h => ?_) (fun h => ?_)
    · refine dz_iinc (pc := 222) (v := (x1 + (-1 : Int32))) C dX10_laysLoads_222 1 rfl rfl (by decide) rfl ?_
      refine dz_goto (pc := 225) (t := 32) C dX10_laysLoads_225 (by decide) ?_
      refine dz_sub [1, 0] rfl ?_
      exact hr32 (x1 + (-1 : Int32)) T h
    · refine dz_aload_n (pc := 48) C dX10_laysLoads_48 rfl 0 rfl ?_
      refine dz_getR (pc := 49) (k := 18) (j := 7) C Fc_X10 hk_18 (by decide) (by decide) rfl fl_X10_23 dX10_laysLoads_49 ?_
      refine dz_iload_n (pc := 52) C dX10_laysLoads_52 rfl 2 rfl ?_
      refine dz_iald (pc := 53) (k := 18) (j := 7) (n := 20) (f := (T 7)) C hk_18 (by decide) rfl (dt_rAf _ _ _ _) dX10_laysLoads_53 h (fun a5 h => ?_)
      refine dz_iconst (pc := 54) (v := (-1 : Int32)) C dX10_laysLoads_54 (by decide) ?_
      refine dz_icmp_eq (pc := 55) (t := 216) C dX10_laysLoads_55 (by decide) h (fun h => ?_) (fun h => ?_)
      · exact tX10_laysLoads_216 C hr hr32 ih x1 x2 T h
      · refine dz_aload_n (pc := 58) C dX10_laysLoads_58 rfl 0 rfl ?_
        refine dz_getR (pc := 59) (k := 18) (j := 8) C Fc_X10 hk_18 (by decide) (by decide) rfl fl_X10_26 dX10_laysLoads_59 ?_
        refine dz_iload_n (pc := 62) C dX10_laysLoads_62 rfl 2 rfl ?_
        refine dz_iald (pc := 63) (k := 18) (j := 8) (n := 20) (f := (T 8)) C hk_18 (by decide) rfl (dt_rAf _ _ _ _) dX10_laysLoads_63 h (fun a6 h => ?_)
        refine dz_iload_n (pc := 64) C dX10_laysLoads_64 rfl 1 rfl ?_
        refine dz_icmp_eq (pc := 65) (t := 71) C dX10_laysLoads_65 (by decide) h (fun h => ?_) (fun h => ?_)
        · refine dz_iconst (pc := 71) (v := (0 : Int32)) C dX10_laysLoads_71 (by decide) ?_
          refine dz_istore_n (pc := 72) C dX10_laysLoads_72 rfl (by decide) rfl ?_
          refine dz_iconst (pc := 73) (v := (0 : Int32)) C dX10_laysLoads_73 (by decide) ?_
          refine dz_istore (pc := 74) C dX10_laysLoads_74 (by decide) rfl ?_
          refine dz_sub [2, 3, 4, 1, 0] rfl ?_
          exact tX10_laysLoads_76 C hr hr32 ih dt_F x1 x2 (0 : Int32) (0 : Int32) T h
        · refine dz_goto (pc := 68) (t := 216) C dX10_laysLoads_68 (by decide) ?_
          exact tX10_laysLoads_216 C hr hr32 ih x1 x2 T h
def fX10_laysLoads_32  : Nat → Int32 → dt_Ob → Option (dt_Ob)
  | 0, _, _ => none
  | n + 1, x1, T => (if x1 ≤ 0 then (some T) else (fX10_laysLoads_38 (fX10_laysLoads_32 n) dt_F x1 (0 : Int32) T))
set_option maxRecDepth 10000 in
set_option maxHeartbeats 4000000 in
theorem tX10_laysLoads_32 {G : dt_G} {A : Nat → Prop} {p : Program} {l : Launch} {e : Env} {s : State} {m : MethodId} {args : Array Value} {below : List Frame} {meth : Method} {c : Code} (C : dt_Cx 1 G A p s m args meth c cX10_laysLoads 7 RX10) (hr : meth.sig.returnType = none) {M : dt_M} {res : dt_Ob}  : ∀ (n : Nat) (x1 : Int32) (T : dt_Ob), fX10_laysLoads_32 n x1 T = some res → dt_At G A p l e (dt_rm 3) s m args below meth c 7 (MQ below (dt_Post G A none (dt_put M 18 res)) args s 0 0 A) 32 [(0, .ref (G.1 18 0)), (1, .int x1)] [] (dt_put M 18 T) := by
  intro n
  induction n with
  | zero =>
    intro x1 T h
    unfold fX10_laysLoads_32 at h
    cases h
  | succ n ih =>
    intro x1 T h
    unfold fX10_laysLoads_32 at h
    refine dz_iload_n (pc := 32) C dX10_laysLoads_32 rfl 1 rfl ?_
    refine dz_if_le (pc := 33) (t := 228) C dX10_laysLoads_33 (by decide) h (fun h => ?_) (fun h => ?_)
    · cases dt_some h
      exact dz_vret (pc := 228) C hr dX10_laysLoads_228
    · refine dz_iconst (pc := 36) (v := (0 : Int32)) C dX10_laysLoads_36 (by decide) ?_
      refine dz_istore_n (pc := 37) C dX10_laysLoads_37 rfl (by decide) rfl ?_
      refine dz_sub [1, 2, 0] rfl ?_
      exact tX10_laysLoads_38 C hr ih dt_F x1 (0 : Int32) T h
def fX10_laysLoads_6  : Nat → Int32 → dt_Ob → Option (dt_Ob)
  | 0, _, _ => none
  | n + 1, x1, T => ((dt_ix (1 : Int32) 1225).bind fun a2 => (if ((T 0) a2) ≤ x1 then (fX10_laysLoads_32 dt_F (20 : Int32) T) else ((dt_ix x1 20).bind fun a3 => ((fX10_laysLoads_6 n) (x1 + (1 : Int32)) (dt_set T 9 a3 (0 : Int32))))))
set_option maxRecDepth 10000 in
set_option maxHeartbeats 4000000 in
theorem tX10_laysLoads_6 {G : dt_G} {A : Nat → Prop} {p : Program} {l : Launch} {e : Env} {s : State} {m : MethodId} {args : Array Value} {below : List Frame} {meth : Method} {c : Code} (C : dt_Cx 1 G A p s m args meth c cX10_laysLoads 7 RX10) (hr : meth.sig.returnType = none) {M : dt_M} {res : dt_Ob}  : ∀ (n : Nat) (x1 : Int32) (T : dt_Ob), fX10_laysLoads_6 n x1 T = some res → dt_At G A p l e (dt_rm 3) s m args below meth c 7 (MQ below (dt_Post G A none (dt_put M 18 res)) args s 0 0 A) 6 [(0, .ref (G.1 18 0)), (1, .int x1)] [] (dt_put M 18 T) := by
  intro n
  induction n with
  | zero =>
    intro x1 T h
    unfold fX10_laysLoads_6 at h
    cases h
  | succ n ih =>
    intro x1 T h
    unfold fX10_laysLoads_6 at h
    refine dz_iload_n (pc := 6) C dX10_laysLoads_6 rfl 1 rfl ?_
    refine dz_aload_n (pc := 7) C dX10_laysLoads_7 rfl 0 rfl ?_
    refine dz_getR (pc := 8) (k := 18) (j := 0) C Fc_X10 hk_18 (by decide) (by decide) rfl fl_X10_7 dX10_laysLoads_8 ?_
    refine dz_iconst (pc := 11) (v := (1 : Int32)) C dX10_laysLoads_11 (by decide) ?_
    refine dz_iald (pc := 12) (k := 18) (j := 0) (n := 1225) (f := (T 0)) C hk_18 (by decide) rfl (dt_rAf _ _ _ _) dX10_laysLoads_12 h (fun a2 h => ?_)
    refine dz_icmp_ge (pc := 13) (t := 29) C dX10_laysLoads_13 (by decide) h (fun h => ?_) (fun h => ?_)
    · refine dz_bipush (pc := 29) (v := (20 : Int32)) C dX10_laysLoads_29 (by decide) ?_
      refine dz_istore_n (pc := 31) C dX10_laysLoads_31 rfl (by decide) rfl ?_
      refine dz_sub [1, 0] rfl ?_
      exact tX10_laysLoads_32 C hr dt_F (20 : Int32) T h
    · refine dz_aload_n (pc := 16) C dX10_laysLoads_16 rfl 0 rfl ?_
      refine dz_getR (pc := 17) (k := 18) (j := 9) C Fc_X10 hk_18 (by decide) (by decide) rfl fl_X10_29 dX10_laysLoads_17 ?_
      refine dz_iload_n (pc := 20) C dX10_laysLoads_20 rfl 1 rfl ?_
      refine dz_iconst (pc := 21) (v := (0 : Int32)) C dX10_laysLoads_21 (by decide) ?_
      refine dz_iast (pc := 22) (k := 18) (j := 9) (n := 20) (M' := fun a3 => (dt_put M 18 (dt_set T 9 a3 (0 : Int32)))) C hk_18 (by decide) rfl (fun a3 => (dt_wA _ _ _ _ _ _)) dX10_laysLoads_22 h (fun a3 h => ?_)
      refine dz_iinc (pc := 23) (v := (x1 + (1 : Int32))) C dX10_laysLoads_23 1 rfl rfl (by decide) rfl ?_
      refine dz_goto (pc := 26) (t := 6) C dX10_laysLoads_26 (by decide) ?_
      refine dz_sub [1, 0] rfl ?_
      exact ih (x1 + (1 : Int32)) (dt_set T 9 a3 (0 : Int32)) h
def fX10_laysLoads  (T : dt_Ob) : Option (dt_Ob) := ((fX10_laysGrid T).bind fun q1 => (fX10_laysLoads_6 dt_F (0 : Int32) q1))
set_option maxRecDepth 10000 in
set_option maxHeartbeats 4000000 in
theorem m_X10_laysLoads (l : Launch)  (M : dt_M) (T : dt_Ob)   {res : dt_Ob} (h : fX10_laysLoads T = some res) : dt_Met 1 l yX10_laysLoads cX10_laysLoads 7 none 3 (fun G => [.ref (G.1 18 0)]) (dt_put M 18 T) none (dt_put M 18 res) := by
  refine dz_enter (lv := fun G => [(0, .ref (G.1 18 0))]) (by decide) (fun _ => rfl) (fun _ => Nat.le_of_ble_eq_true rfl) (fun G A p e s m args below meth c C hr => ?_)
  unfold fX10_laysLoads at h
  refine dz_aload_n (pc := 0) C dX10_laysLoads_0 rfl 0 rfl ?_
  obtain ⟨q1, eq1, h⟩ := dt_bind h
  refine dz_callVv (pc := 1) (st := []) (k := 18) (As := []) (M' := (dt_put M 18 q1)) C Fc_X10 hk_18 mf_X10_laysGrid rfl ml_X10_108 (m_X10_laysGrid l _ _ eq1) rfl rfl (by omega) (by decide) (Nat.le_of_ble_eq_true rfl) dX10_laysLoads_1 ?_
  refine dz_iconst (pc := 4) (v := (0 : Int32)) C dX10_laysLoads_4 (by decide) ?_
  refine dz_istore_n (pc := 5) C dX10_laysLoads_5 rfl (by decide) rfl ?_
  refine dz_sub [1, 0] rfl ?_
  exact tX10_laysLoads_6 C hr dt_F (0 : Int32) q1 h

def fX10_bears_32  (x2 : Int32) (x3 : Int32) (T : dt_Ob) : Option (Int32) := (if (x3 &&& (2 : Int32)) = 0 then (some x2) else (some (x2 / (3 : Int32))))
set_option maxRecDepth 10000 in
set_option maxHeartbeats 4000000 in
theorem tX10_bears_32 {G : dt_G} {A : Nat → Prop} {p : Program} {l : Launch} {e : Env} {s : State} {m : MethodId} {args : Array Value} {below : List Frame} {meth : Method} {c : Code} (C : dt_Cx 1 G A p s m args meth c cX10_bears 4 RX10) (hr : meth.sig.returnType = (some .int)) {M : dt_M} {res : Int32}  : ∀ (x2 : Int32) (x3 : Int32) (T : dt_Ob), fX10_bears_32 x2 x3 T = some res → dt_At G A p l e (dt_rm 2) s m args below meth c 4 (MQ below (dt_Post G A (some (.int res)) (dt_put M 18 T)) args s 0 0 A) 32 [(2, .int x2), (3, .int x3)] [] (dt_put M 18 T) := by
  intro x2 x3 T h
  unfold fX10_bears_32 at h
  refine dz_iload_n (pc := 32) C dX10_bears_32 rfl 1 rfl ?_
  refine dz_iconst (pc := 33) (v := (2 : Int32)) C dX10_bears_33 (by decide) ?_
  refine dz_iand (pc := 34) C dX10_bears_34 ?_
  refine dz_if_eq (pc := 35) (t := 44) C dX10_bears_35 (by decide) h (fun h => ?_) (fun h => ?_)
  · refine dz_iload_n (pc := 44) C dX10_bears_44 rfl 0 rfl ?_
    cases dt_some h
    exact dz_iret (pc := 45) C hr dX10_bears_45
  · refine dz_iload_n (pc := 38) C dX10_bears_38 rfl 0 rfl ?_
    refine dz_iconst (pc := 39) (v := (3 : Int32)) C dX10_bears_39 (by decide) ?_
    refine dz_idivc (pc := 40) C dX10_bears_40 (by decide) ?_
    refine dz_goto (pc := 41) (t := 45) C dX10_bears_41 (by decide) ?_
    cases dt_some h
    exact dz_iret (pc := 45) C hr dX10_bears_45
def fX10_bears  (x1 : Int32) (T : dt_Ob) : Option (Int32) := ((fX10_own x1 (2 : Int32) T).bind fun q1 => ((fX10_own x1 (3 : Int32) T).bind fun q2 => (if (q2 &&& (4 : Int32)) = 0 then (if (q2 &&& (1 : Int32)) = 0 then (fX10_bears_32 q1 q2 T) else (fX10_bears_32 (q1 / (2 : Int32)) q2 T)) else (some (0 : Int32)))))
set_option maxRecDepth 10000 in
set_option maxHeartbeats 4000000 in
theorem m_X10_bears (l : Launch)  (M : dt_M) (T : dt_Ob)  (x1 : Int32) {res : Int32} (h : fX10_bears x1 T = some res) : dt_Met 1 l yX10_bears cX10_bears 4 (some .int) 2 (fun G => [.ref (G.1 18 0), .int x1]) (dt_put M 18 T) (some (.int res)) (dt_put M 18 T) := by
  refine dz_enter (lv := fun G => [(0, .ref (G.1 18 0)), (1, .int x1)]) (by decide) (fun _ => rfl) (fun _ => Nat.le_of_ble_eq_true rfl) (fun G A p e s m args below meth c C hr => ?_)
  unfold fX10_bears at h
  refine dz_aload_n (pc := 0) C dX10_bears_0 rfl 0 rfl ?_
  refine dz_iload_n (pc := 1) C dX10_bears_1 rfl 1 rfl ?_
  refine dz_iconst (pc := 2) (v := (2 : Int32)) C dX10_bears_2 (by decide) ?_
  obtain ⟨q1, eq1, h⟩ := dt_bind h
  refine dz_callVi (pc := 3) (st := []) (k := 18) (As := [.int x1, .int (2 : Int32)]) (M' := (dt_put M 18 T)) C Fc_X10 hk_18 mf_X10_own rfl ml_X10_94 (m_X10_own l _ _ _ _ eq1) rfl rfl (by omega) (by decide) (Nat.le_of_ble_eq_true rfl) dX10_bears_3 ?_
  refine dz_istore_n (pc := 6) C dX10_bears_6 rfl (by decide) rfl ?_
  refine dz_aload_n (pc := 7) C dX10_bears_7 rfl 1 rfl ?_
  refine dz_iload_n (pc := 8) C dX10_bears_8 rfl 2 rfl ?_
  refine dz_iconst (pc := 9) (v := (3 : Int32)) C dX10_bears_9 (by decide) ?_
  obtain ⟨q2, eq2, h⟩ := dt_bind h
  refine dz_callVi (pc := 10) (st := []) (k := 18) (As := [.int x1, .int (3 : Int32)]) (M' := (dt_put M 18 T)) C Fc_X10 hk_18 mf_X10_own rfl ml_X10_94 (m_X10_own l _ _ _ _ eq2) rfl rfl (by omega) (by decide) (Nat.le_of_ble_eq_true rfl) dX10_bears_10 ?_
  refine dz_istore_n (pc := 13) C dX10_bears_13 rfl (by decide) rfl ?_
  refine dz_iload_n (pc := 14) C dX10_bears_14 rfl 0 rfl ?_
  refine dz_iconst (pc := 15) (v := (4 : Int32)) C dX10_bears_15 (by decide) ?_
  refine dz_iand (pc := 16) C dX10_bears_16 ?_
  refine dz_if_eq (pc := 17) (t := 22) C dX10_bears_17 (by decide) h (fun h => ?_) (fun h => ?_)
  · refine dz_iload_n (pc := 22) C dX10_bears_22 rfl 0 rfl ?_
    refine dz_iconst (pc := 23) (v := (1 : Int32)) C dX10_bears_23 (by decide) ?_
    refine dz_iand (pc := 24) C dX10_bears_24 ?_
    refine dz_if_eq (pc := 25) (t := 32) C dX10_bears_25 (by decide) h (fun h => ?_) (fun h => ?_)
    · refine dz_sub [1, 0] rfl ?_
      exact tX10_bears_32 C hr  q1 q2 T h
    · refine dz_iload_n (pc := 28) C dX10_bears_28 rfl 1 rfl ?_
      refine dz_iconst (pc := 29) (v := (2 : Int32)) C dX10_bears_29 (by decide) ?_
      refine dz_idivc (pc := 30) C dX10_bears_30 (by decide) ?_
      refine dz_istore_n (pc := 31) C dX10_bears_31 rfl (by decide) rfl ?_
      refine dz_sub [0, 1] rfl ?_
      exact tX10_bears_32 C hr  (q1 / (2 : Int32)) q2 T h
  · refine dz_iconst (pc := 20) (v := (0 : Int32)) C dX10_bears_20 (by decide) ?_
    cases dt_some h
    exact dz_iret (pc := 21) C hr dX10_bears_21

def fX10_tooMuch_64 (r8 : Int32 → Int32 → dt_Ob → Option (Int32 × dt_Ob)) (x1 : Int32) (x2 : Int32) (T : dt_Ob) : Option (Int32 × dt_Ob) := (r8 x1 (x2 + (1 : Int32)) T)
set_option maxRecDepth 10000 in
set_option maxHeartbeats 4000000 in
theorem tX10_tooMuch_64 {G : dt_G} {A : Nat → Prop} {p : Program} {l : Launch} {e : Env} {s : State} {m : MethodId} {args : Array Value} {below : List Frame} {meth : Method} {c : Code} (C : dt_Cx 1 G A p s m args meth c cX10_tooMuch 3 RX10) (hr : meth.sig.returnType = (some .int)) {M : dt_M} {res : Int32 × dt_Ob} {r8 : Int32 → Int32 → dt_Ob → Option (Int32 × dt_Ob)} (hr8 : ∀ (x1 : Int32) (x2 : Int32) (T : dt_Ob), r8 x1 x2 T = some res → dt_At G A p l e (dt_rm 4) s m args below meth c 3 (MQ below (dt_Post G A (some (.int res.1)) (dt_put M 18 res.2)) args s 0 0 A) 8 [(0, .ref (G.1 18 0)), (1, .int x1), (2, .int x2)] [] (dt_put M 18 T)) : ∀ (x1 : Int32) (x2 : Int32) (T : dt_Ob), fX10_tooMuch_64 r8 x1 x2 T = some res → dt_At G A p l e (dt_rm 4) s m args below meth c 3 (MQ below (dt_Post G A (some (.int res.1)) (dt_put M 18 res.2)) args s 0 0 A) 64 [(0, .ref (G.1 18 0)), (1, .int x1), (2, .int x2)] [] (dt_put M 18 T) := by
  intro x1 x2 T h
  unfold fX10_tooMuch_64 at h
  refine dz_iinc (pc := 64) (v := (x2 + (1 : Int32))) C dX10_tooMuch_64 2 rfl rfl (by decide) rfl ?_
  refine dz_goto (pc := 67) (t := 8) C dX10_tooMuch_67 (by decide) ?_
  refine dz_sub [1, 2, 0] rfl ?_
  exact hr8 x1 (x2 + (1 : Int32)) T h
def fX10_tooMuch_62 (r8 : Int32 → Int32 → dt_Ob → Option (Int32 × dt_Ob)) (x2 : Int32) (T : dt_Ob) : Option (Int32 × dt_Ob) := (fX10_tooMuch_64 r8 x2 x2 T)
set_option maxRecDepth 10000 in
set_option maxHeartbeats 4000000 in
theorem tX10_tooMuch_62 {G : dt_G} {A : Nat → Prop} {p : Program} {l : Launch} {e : Env} {s : State} {m : MethodId} {args : Array Value} {below : List Frame} {meth : Method} {c : Code} (C : dt_Cx 1 G A p s m args meth c cX10_tooMuch 3 RX10) (hr : meth.sig.returnType = (some .int)) {M : dt_M} {res : Int32 × dt_Ob} {r8 : Int32 → Int32 → dt_Ob → Option (Int32 × dt_Ob)} (hr8 : ∀ (x1 : Int32) (x2 : Int32) (T : dt_Ob), r8 x1 x2 T = some res → dt_At G A p l e (dt_rm 4) s m args below meth c 3 (MQ below (dt_Post G A (some (.int res.1)) (dt_put M 18 res.2)) args s 0 0 A) 8 [(0, .ref (G.1 18 0)), (1, .int x1), (2, .int x2)] [] (dt_put M 18 T)) : ∀ (x2 : Int32) (T : dt_Ob), fX10_tooMuch_62 r8 x2 T = some res → dt_At G A p l e (dt_rm 4) s m args below meth c 3 (MQ below (dt_Post G A (some (.int res.1)) (dt_put M 18 res.2)) args s 0 0 A) 62 [(0, .ref (G.1 18 0)), (2, .int x2)] [] (dt_put M 18 T) := by
  intro x2 T h
  unfold fX10_tooMuch_62 at h
  refine dz_iload_n (pc := 62) C dX10_tooMuch_62 rfl 1 rfl ?_
  refine dz_istore_n (pc := 63) C dX10_tooMuch_63 rfl (by decide) rfl ?_
  refine dz_sub [1, 0, 2] rfl ?_
  exact tX10_tooMuch_64 C hr hr8 x2 x2 T h
def fX10_tooMuch_8  : Nat → Int32 → Int32 → dt_Ob → Option (Int32 × dt_Ob)
  | 0, _, _, _ => none
  | n + 1, x1, x2, T => ((dt_ix (1 : Int32) 1225).bind fun a2 => (if ((T 0) a2) ≤ x2 then (some (x1, T)) else ((dt_ix x2 20).bind fun a3 => (if ((T 7) a3) = (-1 : Int32) then (fX10_tooMuch_64 (fX10_tooMuch_8 n) x1 x2 T) else ((dt_ix x2 20).bind fun a4 => ((fX10_bears x2 T).bind fun q5 => (if ((T 9) a4) ≤ q5 then (fX10_tooMuch_64 (fX10_tooMuch_8 n) x1 x2 T) else (if x1 = (-1 : Int32) then (fX10_tooMuch_62 (fX10_tooMuch_8 n) x2 T) else ((dt_ix x2 20).bind fun a6 => ((dt_ix x1 20).bind fun a7 => (if ((T 8) a6) ≤ ((T 8) a7) then (fX10_tooMuch_64 (fX10_tooMuch_8 n) x1 x2 T) else (fX10_tooMuch_62 (fX10_tooMuch_8 n) x2 T))))))))))))
set_option maxRecDepth 10000 in
set_option maxHeartbeats 4000000 in
theorem tX10_tooMuch_8 {G : dt_G} {A : Nat → Prop} {p : Program} {l : Launch} {e : Env} {s : State} {m : MethodId} {args : Array Value} {below : List Frame} {meth : Method} {c : Code} (C : dt_Cx 1 G A p s m args meth c cX10_tooMuch 3 RX10) (hr : meth.sig.returnType = (some .int)) {M : dt_M} {res : Int32 × dt_Ob}  : ∀ (n : Nat) (x1 : Int32) (x2 : Int32) (T : dt_Ob), fX10_tooMuch_8 n x1 x2 T = some res → dt_At G A p l e (dt_rm 4) s m args below meth c 3 (MQ below (dt_Post G A (some (.int res.1)) (dt_put M 18 res.2)) args s 0 0 A) 8 [(0, .ref (G.1 18 0)), (1, .int x1), (2, .int x2)] [] (dt_put M 18 T) := by
  intro n
  induction n with
  | zero =>
    intro x1 x2 T h
    unfold fX10_tooMuch_8 at h
    cases h
  | succ n ih =>
    intro x1 x2 T h
    unfold fX10_tooMuch_8 at h
    refine dz_iload_n (pc := 8) C dX10_tooMuch_8 rfl 2 rfl ?_
    refine dz_aload_n (pc := 9) C dX10_tooMuch_9 rfl 0 rfl ?_
    refine dz_getR (pc := 10) (k := 18) (j := 0) C Fc_X10 hk_18 (by decide) (by decide) rfl fl_X10_7 dX10_tooMuch_10 ?_
    refine dz_iconst (pc := 13) (v := (1 : Int32)) C dX10_tooMuch_13 (by decide) ?_
    refine dz_iald (pc := 14) (k := 18) (j := 0) (n := 1225) (f := (T 0)) C hk_18 (by decide) rfl (dt_rAf _ _ _ _) dX10_tooMuch_14 h (fun a2 h => ?_)
    refine dz_icmp_ge (pc := 15) (t := 70) C dX10_tooMuch_15 (by decide) h (fun h => ?_) (fun h => ?_)
    · refine dz_iload_n (pc := 70) C dX10_tooMuch_70 rfl 1 rfl ?_
      cases dt_some h
      exact dz_iret (pc := 71) C hr dX10_tooMuch_71
    · refine dz_aload_n (pc := 18) C dX10_tooMuch_18 rfl 0 rfl ?_
      refine dz_getR (pc := 19) (k := 18) (j := 7) C Fc_X10 hk_18 (by decide) (by decide) rfl fl_X10_23 dX10_tooMuch_19 ?_
      refine dz_iload_n (pc := 22) C dX10_tooMuch_22 rfl 2 rfl ?_
      refine dz_iald (pc := 23) (k := 18) (j := 7) (n := 20) (f := (T 7)) C hk_18 (by decide) rfl (dt_rAf _ _ _ _) dX10_tooMuch_23 h (fun a3 h => ?_)
      refine dz_iconst (pc := 24) (v := (-1 : Int32)) C dX10_tooMuch_24 (by decide) ?_
      refine dz_icmp_eq (pc := 25) (t := 64) C dX10_tooMuch_25 (by decide) h (fun h => ?_) (fun h => ?_)
      · exact tX10_tooMuch_64 C hr ih x1 x2 T h
      · refine dz_aload_n (pc := 28) C dX10_tooMuch_28 rfl 0 rfl ?_
        refine dz_getR (pc := 29) (k := 18) (j := 9) C Fc_X10 hk_18 (by decide) (by decide) rfl fl_X10_29 dX10_tooMuch_29 ?_
        refine dz_iload_n (pc := 32) C dX10_tooMuch_32 rfl 2 rfl ?_
        refine dz_iald (pc := 33) (k := 18) (j := 9) (n := 20) (f := (T 9)) C hk_18 (by decide) rfl (dt_rAf _ _ _ _) dX10_tooMuch_33 h (fun a4 h => ?_)
        refine dz_aload_n (pc := 34) C dX10_tooMuch_34 rfl 0 rfl ?_
        refine dz_iload_n (pc := 35) C dX10_tooMuch_35 rfl 2 rfl ?_
        obtain ⟨q5, eq5, h⟩ := dt_bind h
        refine dz_callVi (pc := 36) (st := [.int ((T 9) a4)]) (k := 18) (As := [.int x2]) (M' := (dt_put M 18 T)) C Fc_X10 hk_18 mf_X10_bears rfl ml_X10_114 (m_X10_bears l _ _ _ eq5) rfl rfl (by omega) (by decide) (Nat.le_of_ble_eq_true rfl) dX10_tooMuch_36 ?_
        refine dz_icmp_le (pc := 39) (t := 64) C dX10_tooMuch_39 (by decide) h (fun h => ?_) (fun h => ?_)
        · exact tX10_tooMuch_64 C hr ih x1 x2 T h
        · refine dz_iload_n (pc := 42) C dX10_tooMuch_42 rfl 1 rfl ?_
          refine dz_iconst (pc := 43) (v := (-1 : Int32)) C dX10_tooMuch_43 (by decide) ?_
          refine dz_icmp_eq (pc := 44) (t := 62) C dX10_tooMuch_44 (by decide) h (fun h => ?_) (fun h => ?_)
          · refine dz_sub [0, 2] rfl ?_
            exact tX10_tooMuch_62 C hr ih x2 T h
          · refine dz_aload_n (pc := 47) C dX10_tooMuch_47 rfl 0 rfl ?_
            refine dz_getR (pc := 48) (k := 18) (j := 8) C Fc_X10 hk_18 (by decide) (by decide) rfl fl_X10_26 dX10_tooMuch_48 ?_
            refine dz_iload_n (pc := 51) C dX10_tooMuch_51 rfl 2 rfl ?_
            refine dz_iald (pc := 52) (k := 18) (j := 8) (n := 20) (f := (T 8)) C hk_18 (by decide) rfl (dt_rAf _ _ _ _) dX10_tooMuch_52 h (fun a6 h => ?_)
            refine dz_aload_n (pc := 53) C dX10_tooMuch_53 rfl 0 rfl ?_
            refine dz_getR (pc := 54) (k := 18) (j := 8) C Fc_X10 hk_18 (by decide) (by decide) rfl fl_X10_26 dX10_tooMuch_54 ?_
            refine dz_iload_n (pc := 57) C dX10_tooMuch_57 rfl 1 rfl ?_
            refine dz_iald (pc := 58) (k := 18) (j := 8) (n := 20) (f := (T 8)) C hk_18 (by decide) rfl (dt_rAf _ _ _ _) dX10_tooMuch_58 h (fun a7 h => ?_)
            refine dz_icmp_le (pc := 59) (t := 64) C dX10_tooMuch_59 (by decide) h (fun h => ?_) (fun h => ?_)
            · exact tX10_tooMuch_64 C hr ih x1 x2 T h
            · refine dz_sub [0, 2] rfl ?_
              exact tX10_tooMuch_62 C hr ih x2 T h
def fX10_tooMuch  (T : dt_Ob) : Option (Int32 × dt_Ob) := ((fX10_laysLoads T).bind fun q1 => (fX10_tooMuch_8 dt_F (-1 : Int32) (0 : Int32) q1))
set_option maxRecDepth 10000 in
set_option maxHeartbeats 4000000 in
theorem m_X10_tooMuch (l : Launch)  (M : dt_M) (T : dt_Ob)   {res : Int32 × dt_Ob} (h : fX10_tooMuch T = some res) : dt_Met 1 l yX10_tooMuch cX10_tooMuch 3 (some .int) 4 (fun G => [.ref (G.1 18 0)]) (dt_put M 18 T) (some (.int res.1)) (dt_put M 18 res.2) := by
  refine dz_enter (lv := fun G => [(0, .ref (G.1 18 0))]) (by decide) (fun _ => rfl) (fun _ => Nat.le_of_ble_eq_true rfl) (fun G A p e s m args below meth c C hr => ?_)
  unfold fX10_tooMuch at h
  refine dz_aload_n (pc := 0) C dX10_tooMuch_0 rfl 0 rfl ?_
  obtain ⟨q1, eq1, h⟩ := dt_bind h
  refine dz_callVv (pc := 1) (st := []) (k := 18) (As := []) (M' := (dt_put M 18 q1)) C Fc_X10 hk_18 mf_X10_laysLoads rfl ml_X10_111 (m_X10_laysLoads l _ _ eq1) rfl rfl (by omega) (by decide) (Nat.le_of_ble_eq_true rfl) dX10_tooMuch_1 ?_
  refine dz_iconst (pc := 4) (v := (-1 : Int32)) C dX10_tooMuch_4 (by decide) ?_
  refine dz_istore_n (pc := 5) C dX10_tooMuch_5 rfl (by decide) rfl ?_
  refine dz_iconst (pc := 6) (v := (0 : Int32)) C dX10_tooMuch_6 (by decide) ?_
  refine dz_istore_n (pc := 7) C dX10_tooMuch_7 rfl (by decide) rfl ?_
  refine dz_sub [2, 1, 0] rfl ?_
  exact tX10_tooMuch_8 C hr dt_F (-1 : Int32) (0 : Int32) q1 h

def fX10_isOnTop_90 (r2 : Int32 → Int32 → dt_Ob → Option (Int32)) (x1 : Int32) (x2 : Int32) (T : dt_Ob) : Option (Int32) := (r2 x1 (x2 + (1 : Int32)) T)
set_option maxRecDepth 10000 in
set_option maxHeartbeats 4000000 in
theorem tX10_isOnTop_90 {G : dt_G} {A : Nat → Prop} {p : Program} {l : Launch} {e : Env} {s : State} {m : MethodId} {args : Array Value} {below : List Frame} {meth : Method} {c : Code} (C : dt_Cx 1 G A p s m args meth c cX10_isOnTop 3 RX10) (hr : meth.sig.returnType = (some .boolean)) {M : dt_M} {res : Int32} {r2 : Int32 → Int32 → dt_Ob → Option (Int32)} (hr2 : ∀ (x1 : Int32) (x2 : Int32) (T : dt_Ob), r2 x1 x2 T = some res → dt_At G A p l e (dt_rm 2) s m args below meth c 3 (MQ below (dt_Post G A (some (.int res)) (dt_put M 18 T)) args s 0 0 A) 2 [(0, .ref (G.1 18 0)), (1, .int x1), (2, .int x2)] [] (dt_put M 18 T)) : ∀ (x1 : Int32) (x2 : Int32) (T : dt_Ob), fX10_isOnTop_90 r2 x1 x2 T = some res → dt_At G A p l e (dt_rm 2) s m args below meth c 3 (MQ below (dt_Post G A (some (.int res)) (dt_put M 18 T)) args s 0 0 A) 90 [(0, .ref (G.1 18 0)), (1, .int x1), (2, .int x2)] [] (dt_put M 18 T) := by
  intro x1 x2 T h
  unfold fX10_isOnTop_90 at h
  refine dz_iinc (pc := 90) (v := (x2 + (1 : Int32))) C dX10_isOnTop_90 2 rfl rfl (by decide) rfl ?_
  refine dz_goto (pc := 93) (t := 2) C dX10_isOnTop_93 (by decide) ?_
  refine dz_sub [1, 2, 0] rfl ?_
  exact hr2 x1 (x2 + (1 : Int32)) T h
def fX10_isOnTop_2  : Nat → Int32 → Int32 → dt_Ob → Option (Int32)
  | 0, _, _, _ => none
  | n + 1, x1, x2, T => ((dt_ix (1 : Int32) 1225).bind fun a1 => (if ((T 0) a1) ≤ x2 then (some (1 : Int32)) else ((dt_ix x2 20).bind fun a2 => (if ((T 7) a2) = (-1 : Int32) then (fX10_isOnTop_90 (fX10_isOnTop_2 n) x1 x2 T) else ((dt_ix x2 20).bind fun a3 => ((dt_ix x1 20).bind fun a4 => (if ((T 8) a4) < ((T 8) a3) then ((dt_ix x2 20).bind fun a5 => ((dt_ix x1 20).bind fun a6 => ((fX10_own x1 (0 : Int32) T).bind fun q7 => (if ((((T 7) a6) + q7) - (1 : Int32)) < ((T 7) a5) then (fX10_isOnTop_90 (fX10_isOnTop_2 n) x1 x2 T) else ((dt_ix x1 20).bind fun a8 => ((dt_ix x2 20).bind fun a9 => ((fX10_own x2 (0 : Int32) T).bind fun q10 => (if ((((T 7) a9) + q10) - (1 : Int32)) < ((T 7) a8) then (fX10_isOnTop_90 (fX10_isOnTop_2 n) x1 x2 T) else (some (0 : Int32)))))))))) else (fX10_isOnTop_90 (fX10_isOnTop_2 n) x1 x2 T))))))))
set_option maxRecDepth 10000 in
set_option maxHeartbeats 4000000 in
theorem tX10_isOnTop_2 {G : dt_G} {A : Nat → Prop} {p : Program} {l : Launch} {e : Env} {s : State} {m : MethodId} {args : Array Value} {below : List Frame} {meth : Method} {c : Code} (C : dt_Cx 1 G A p s m args meth c cX10_isOnTop 3 RX10) (hr : meth.sig.returnType = (some .boolean)) {M : dt_M} {res : Int32}  : ∀ (n : Nat) (x1 : Int32) (x2 : Int32) (T : dt_Ob), fX10_isOnTop_2 n x1 x2 T = some res → dt_At G A p l e (dt_rm 2) s m args below meth c 3 (MQ below (dt_Post G A (some (.int res)) (dt_put M 18 T)) args s 0 0 A) 2 [(0, .ref (G.1 18 0)), (1, .int x1), (2, .int x2)] [] (dt_put M 18 T) := by
  intro n
  induction n with
  | zero =>
    intro x1 x2 T h
    unfold fX10_isOnTop_2 at h
    cases h
  | succ n ih =>
    intro x1 x2 T h
    unfold fX10_isOnTop_2 at h
    refine dz_iload_n (pc := 2) C dX10_isOnTop_2 rfl 2 rfl ?_
    refine dz_aload_n (pc := 3) C dX10_isOnTop_3 rfl 0 rfl ?_
    refine dz_getR (pc := 4) (k := 18) (j := 0) C Fc_X10 hk_18 (by decide) (by decide) rfl fl_X10_7 dX10_isOnTop_4 ?_
    refine dz_iconst (pc := 7) (v := (1 : Int32)) C dX10_isOnTop_7 (by decide) ?_
    refine dz_iald (pc := 8) (k := 18) (j := 0) (n := 1225) (f := (T 0)) C hk_18 (by decide) rfl (dt_rAf _ _ _ _) dX10_isOnTop_8 h (fun a1 h => ?_)
    refine dz_icmp_ge (pc := 9) (t := 96) C dX10_isOnTop_9 (by decide) h (fun h => ?_) (fun h => ?_)
    · refine dz_iconst (pc := 96) (v := (1 : Int32)) C dX10_isOnTop_96 (by decide) ?_
      cases dt_some h
      exact dz_zret (pc := 97) C hr (Or.inr rfl) dX10_isOnTop_97
    · refine dz_aload_n (pc := 12) C dX10_isOnTop_12 rfl 0 rfl ?_
      refine dz_getR (pc := 13) (k := 18) (j := 7) C Fc_X10 hk_18 (by decide) (by decide) rfl fl_X10_23 dX10_isOnTop_13 ?_
      refine dz_iload_n (pc := 16) C dX10_isOnTop_16 rfl 2 rfl ?_
      refine dz_iald (pc := 17) (k := 18) (j := 7) (n := 20) (f := (T 7)) C hk_18 (by decide) rfl (dt_rAf _ _ _ _) dX10_isOnTop_17 h (fun a2 h => ?_)
      refine dz_iconst (pc := 18) (v := (-1 : Int32)) C dX10_isOnTop_18 (by decide) ?_
      refine dz_icmp_eq (pc := 19) (t := 90) C dX10_isOnTop_19 (by decide) h (fun h => ?_) (fun h => ?_)
      · exact tX10_isOnTop_90 C hr ih x1 x2 T h
      · refine dz_aload_n (pc := 22) C dX10_isOnTop_22 rfl 0 rfl ?_
        refine dz_getR (pc := 23) (k := 18) (j := 8) C Fc_X10 hk_18 (by decide) (by decide) rfl fl_X10_26 dX10_isOnTop_23 ?_
        refine dz_iload_n (pc := 26) C dX10_isOnTop_26 rfl 2 rfl ?_
        refine dz_iald (pc := 27) (k := 18) (j := 8) (n := 20) (f := (T 8)) C hk_18 (by decide) rfl (dt_rAf _ _ _ _) dX10_isOnTop_27 h (fun a3 h => ?_)
        refine dz_aload_n (pc := 28) C dX10_isOnTop_28 rfl 0 rfl ?_
        refine dz_getR (pc := 29) (k := 18) (j := 8) C Fc_X10 hk_18 (by decide) (by decide) rfl fl_X10_26 dX10_isOnTop_29 ?_
        refine dz_iload_n (pc := 32) C dX10_isOnTop_32 rfl 1 rfl ?_
        refine dz_iald (pc := 33) (k := 18) (j := 8) (n := 20) (f := (T 8)) C hk_18 (by decide) rfl (dt_rAf _ _ _ _) dX10_isOnTop_33 h (fun a4 h => ?_)
        refine dz_icmp_gt (pc := 34) (t := 40) C dX10_isOnTop_34 (by decide) h (fun h => ?_) (fun h => ?_)
        · refine dz_aload_n (pc := 40) C dX10_isOnTop_40 rfl 0 rfl ?_
          refine dz_getR (pc := 41) (k := 18) (j := 7) C Fc_X10 hk_18 (by decide) (by decide) rfl fl_X10_23 dX10_isOnTop_41 ?_
          refine dz_iload_n (pc := 44) C dX10_isOnTop_44 rfl 2 rfl ?_
          refine dz_iald (pc := 45) (k := 18) (j := 7) (n := 20) (f := (T 7)) C hk_18 (by decide) rfl (dt_rAf _ _ _ _) dX10_isOnTop_45 h (fun a5 h => ?_)
          refine dz_aload_n (pc := 46) C dX10_isOnTop_46 rfl 0 rfl ?_
          refine dz_getR (pc := 47) (k := 18) (j := 7) C Fc_X10 hk_18 (by decide) (by decide) rfl fl_X10_23 dX10_isOnTop_47 ?_
          refine dz_iload_n (pc := 50) C dX10_isOnTop_50 rfl 1 rfl ?_
          refine dz_iald (pc := 51) (k := 18) (j := 7) (n := 20) (f := (T 7)) C hk_18 (by decide) rfl (dt_rAf _ _ _ _) dX10_isOnTop_51 h (fun a6 h => ?_)
          refine dz_aload_n (pc := 52) C dX10_isOnTop_52 rfl 0 rfl ?_
          refine dz_iload_n (pc := 53) C dX10_isOnTop_53 rfl 1 rfl ?_
          refine dz_iconst (pc := 54) (v := (0 : Int32)) C dX10_isOnTop_54 (by decide) ?_
          obtain ⟨q7, eq7, h⟩ := dt_bind h
          refine dz_callVi (pc := 55) (st := [.int ((T 7) a6), .int ((T 7) a5)]) (k := 18) (As := [.int x1, .int (0 : Int32)]) (M' := (dt_put M 18 T)) C Fc_X10 hk_18 mf_X10_own rfl ml_X10_94 (m_X10_own l _ _ _ _ eq7) rfl rfl (by omega) (by decide) (Nat.le_of_ble_eq_true rfl) dX10_isOnTop_55 ?_
          refine dz_iadd (pc := 58) C dX10_isOnTop_58 ?_
          refine dz_iconst (pc := 59) (v := (1 : Int32)) C dX10_isOnTop_59 (by decide) ?_
          refine dz_isub (pc := 60) C dX10_isOnTop_60 ?_
          refine dz_icmp_gt (pc := 61) (t := 90) C dX10_isOnTop_61 (by decide) h (fun h => ?_) (fun h => ?_)
          · exact tX10_isOnTop_90 C hr ih x1 x2 T h
          · refine dz_aload_n (pc := 64) C dX10_isOnTop_64 rfl 0 rfl ?_
            refine dz_getR (pc := 65) (k := 18) (j := 7) C Fc_X10 hk_18 (by decide) (by decide) rfl fl_X10_23 dX10_isOnTop_65 ?_
            refine dz_iload_n (pc := 68) C dX10_isOnTop_68 rfl 1 rfl ?_
            refine dz_iald (pc := 69) (k := 18) (j := 7) (n := 20) (f := (T 7)) C hk_18 (by decide) rfl (dt_rAf _ _ _ _) dX10_isOnTop_69 h (fun a8 h => ?_)
            refine dz_aload_n (pc := 70) C dX10_isOnTop_70 rfl 0 rfl ?_
            refine dz_getR (pc := 71) (k := 18) (j := 7) C Fc_X10 hk_18 (by decide) (by decide) rfl fl_X10_23 dX10_isOnTop_71 ?_
            refine dz_iload_n (pc := 74) C dX10_isOnTop_74 rfl 2 rfl ?_
            refine dz_iald (pc := 75) (k := 18) (j := 7) (n := 20) (f := (T 7)) C hk_18 (by decide) rfl (dt_rAf _ _ _ _) dX10_isOnTop_75 h (fun a9 h => ?_)
            refine dz_aload_n (pc := 76) C dX10_isOnTop_76 rfl 0 rfl ?_
            refine dz_iload_n (pc := 77) C dX10_isOnTop_77 rfl 2 rfl ?_
            refine dz_iconst (pc := 78) (v := (0 : Int32)) C dX10_isOnTop_78 (by decide) ?_
            obtain ⟨q10, eq10, h⟩ := dt_bind h
            refine dz_callVi (pc := 79) (st := [.int ((T 7) a9), .int ((T 7) a8)]) (k := 18) (As := [.int x2, .int (0 : Int32)]) (M' := (dt_put M 18 T)) C Fc_X10 hk_18 mf_X10_own rfl ml_X10_94 (m_X10_own l _ _ _ _ eq10) rfl rfl (by omega) (by decide) (Nat.le_of_ble_eq_true rfl) dX10_isOnTop_79 ?_
            refine dz_iadd (pc := 82) C dX10_isOnTop_82 ?_
            refine dz_iconst (pc := 83) (v := (1 : Int32)) C dX10_isOnTop_83 (by decide) ?_
            refine dz_isub (pc := 84) C dX10_isOnTop_84 ?_
            refine dz_icmp_gt (pc := 85) (t := 90) C dX10_isOnTop_85 (by decide) h (fun h => ?_) (fun h => ?_)
            · exact tX10_isOnTop_90 C hr ih x1 x2 T h
            · refine dz_iconst (pc := 88) (v := (0 : Int32)) C dX10_isOnTop_88 (by decide) ?_
              cases dt_some h
              exact dz_zret (pc := 89) C hr (Or.inl rfl) dX10_isOnTop_89
        · refine dz_goto (pc := 37) (t := 90) C dX10_isOnTop_37 (by decide) ?_
          exact tX10_isOnTop_90 C hr ih x1 x2 T h
def fX10_isOnTop  (x1 : Int32) (T : dt_Ob) : Option (Int32) := (fX10_isOnTop_2 dt_F x1 (0 : Int32) T)
set_option maxRecDepth 10000 in
set_option maxHeartbeats 4000000 in
theorem m_X10_isOnTop (l : Launch)  (M : dt_M) (T : dt_Ob)  (x1 : Int32) {res : Int32} (h : fX10_isOnTop x1 T = some res) : dt_Met 1 l yX10_isOnTop cX10_isOnTop 3 (some .boolean) 2 (fun G => [.ref (G.1 18 0), .int x1]) (dt_put M 18 T) (some (.int res)) (dt_put M 18 T) := by
  refine dz_enter (lv := fun G => [(0, .ref (G.1 18 0)), (1, .int x1)]) (by decide) (fun _ => rfl) (fun _ => Nat.le_of_ble_eq_true rfl) (fun G A p e s m args below meth c C hr => ?_)
  unfold fX10_isOnTop at h
  refine dz_iconst (pc := 0) (v := (0 : Int32)) C dX10_isOnTop_0 (by decide) ?_
  refine dz_istore_n (pc := 1) C dX10_isOnTop_1 rfl (by decide) rfl ?_
  refine dz_sub [1, 2, 0] rfl ?_
  exact tX10_isOnTop_2 C hr dt_F x1 (0 : Int32) T h

def fX10_lays  (x1 : Int32) (x2 : Int32) (T : dt_Ob) : Option (Int32 × dt_Ob) := ((fX10_levelAt x1 x2 T).bind fun q1 => ((dt_ix x1 20).bind fun a2 => ((dt_ix x1 20).bind fun a3 => ((fX10_laysGrid (dt_set (dt_set T 7 a2 x2) 8 a3 q1)).bind fun q4 => ((fX10_standsThere x1 q4).bind fun q5 => (if q5 = 0 then (some ((2 : Int32), q4)) else ((fX10_tooMuch q4).bind fun q6 => (if q6.1 = (-1 : Int32) then (some ((0 : Int32), (dt_set q6.2 5 0 q6.1))) else (some ((3 : Int32), (dt_set q6.2 5 0 q6.1)))))))))))
set_option maxRecDepth 10000 in
set_option maxHeartbeats 4000000 in
theorem m_X10_lays (l : Launch)  (M : dt_M) (T : dt_Ob)  (x1 : Int32) (x2 : Int32) {res : Int32 × dt_Ob} (h : fX10_lays x1 x2 T = some res) : dt_Met 1 l yX10_lays cX10_lays 4 (some .int) 5 (fun G => [.ref (G.1 18 0), .int x1, .int x2]) (dt_put M 18 T) (some (.int res.1)) (dt_put M 18 res.2) := by
  refine dz_enter (lv := fun G => [(0, .ref (G.1 18 0)), (1, .int x1), (2, .int x2)]) (by decide) (fun _ => rfl) (fun _ => Nat.le_of_ble_eq_true rfl) (fun G A p e s m args below meth c C hr => ?_)
  unfold fX10_lays at h
  refine dz_aload_n (pc := 0) C dX10_lays_0 rfl 0 rfl ?_
  refine dz_iload_n (pc := 1) C dX10_lays_1 rfl 1 rfl ?_
  refine dz_iload_n (pc := 2) C dX10_lays_2 rfl 2 rfl ?_
  obtain ⟨q1, eq1, h⟩ := dt_bind h
  refine dz_callVi (pc := 3) (st := []) (k := 18) (As := [.int x1, .int x2]) (M' := (dt_put M 18 T)) C Fc_X10 hk_18 mf_X10_levelAt rfl ml_X10_117 (m_X10_levelAt l _ _ _ _ eq1) rfl rfl (by omega) (by decide) (Nat.le_of_ble_eq_true rfl) dX10_lays_3 ?_
  refine dz_istore_n (pc := 6) C dX10_lays_6 rfl (by decide) rfl ?_
  refine dz_aload_n (pc := 7) C dX10_lays_7 rfl 1 rfl ?_
  refine dz_getR (pc := 8) (k := 18) (j := 7) C Fc_X10 hk_18 (by decide) (by decide) rfl fl_X10_23 dX10_lays_8 ?_
  refine dz_iload_n (pc := 11) C dX10_lays_11 rfl 2 rfl ?_
  refine dz_iload_n (pc := 12) C dX10_lays_12 rfl 3 rfl ?_
  refine dz_iast (pc := 13) (k := 18) (j := 7) (n := 20) (M' := fun a2 => (dt_put M 18 (dt_set T 7 a2 x2))) C hk_18 (by decide) rfl (fun a2 => (dt_wA _ _ _ _ _ _)) dX10_lays_13 h (fun a2 h => ?_)
  refine dz_aload_n (pc := 14) C dX10_lays_14 rfl 1 rfl ?_
  refine dz_getR (pc := 15) (k := 18) (j := 8) C Fc_X10 hk_18 (by decide) (by decide) rfl fl_X10_26 dX10_lays_15 ?_
  refine dz_iload_n (pc := 18) C dX10_lays_18 rfl 2 rfl ?_
  refine dz_iload_n (pc := 19) C dX10_lays_19 rfl 0 rfl ?_
  refine dz_iast (pc := 20) (k := 18) (j := 8) (n := 20) (M' := fun a3 => (dt_put M 18 (dt_set (dt_set T 7 a2 x2) 8 a3 q1))) C hk_18 (by decide) rfl (fun a3 => (dt_wA _ _ _ _ _ _)) dX10_lays_20 h (fun a3 h => ?_)
  refine dz_aload_n (pc := 21) C dX10_lays_21 rfl 1 rfl ?_
  obtain ⟨q4, eq4, h⟩ := dt_bind h
  refine dz_callVv (pc := 22) (st := []) (k := 18) (As := []) (M' := (dt_put M 18 q4)) C Fc_X10 hk_18 mf_X10_laysGrid rfl ml_X10_108 (m_X10_laysGrid l _ _ eq4) rfl rfl (by omega) (by decide) (Nat.le_of_ble_eq_true rfl) dX10_lays_22 ?_
  refine dz_aload_n (pc := 25) C dX10_lays_25 rfl 1 rfl ?_
  refine dz_iload_n (pc := 26) C dX10_lays_26 rfl 2 rfl ?_
  obtain ⟨q5, eq5, h⟩ := dt_bind h
  refine dz_callVi (pc := 27) (st := []) (k := 18) (As := [.int x1]) (M' := (dt_put M 18 q4)) C Fc_X10 hk_18 mf_X10_standsThere rfl ml_X10_120 (m_X10_standsThere l _ _ _ eq5) rfl rfl (by omega) (by decide) (Nat.le_of_ble_eq_true rfl) dX10_lays_27 ?_
  refine dz_if_ne (pc := 30) (t := 35) C dX10_lays_30 (by decide) h (fun h => ?_) (fun h => ?_)
  · refine dz_aload_n (pc := 35) C dX10_lays_35 rfl 1 rfl ?_
    refine dz_aload_n (pc := 36) C dX10_lays_36 rfl 1 rfl ?_
    obtain ⟨q6, eq6, h⟩ := dt_bind h
    refine dz_callVi (pc := 37) (st := [.ref (G.1 18 0)]) (k := 18) (As := []) (M' := (dt_put M 18 q6.2)) C Fc_X10 hk_18 mf_X10_tooMuch rfl ml_X10_124 (m_X10_tooMuch l _ _ eq6) rfl rfl (by omega) (by decide) (Nat.le_of_ble_eq_true rfl) dX10_lays_37 ?_
    refine dz_putI (pc := 40) (k := 18) (j := 5) (M' := (dt_put M 18 (dt_set q6.2 5 0 q6.1))) C Fc_X10 hk_18 (by decide) rfl rfl rfl rfl fl_X10_19 (dt_wA _ _ _ _ _ _) dX10_lays_40 ?_
    refine dz_aload_n (pc := 43) C dX10_lays_43 rfl 1 rfl ?_
    refine dz_getI (pc := 44) (k := 18) (j := 5) (v := q6.1) C Fc_X10 hk_18 (by decide) rfl rfl fl_X10_19 (dt_rA _ _ _ _ _) dX10_lays_44 ?_
    refine dz_iconst (pc := 47) (v := (-1 : Int32)) C dX10_lays_47 (by decide) ?_
    refine dz_icmp_ne (pc := 48) (t := 55) C dX10_lays_48 (by decide) h (fun h => ?_) (fun h => ?_)
    · refine dz_iconst (pc := 55) (v := (3 : Int32)) C dX10_lays_55 (by decide) ?_
      cases dt_some h
      exact dz_iret (pc := 56) C hr dX10_lays_56
    · refine dz_iconst (pc := 51) (v := (0 : Int32)) C dX10_lays_51 (by decide) ?_
      refine dz_goto (pc := 52) (t := 56) C dX10_lays_52 (by decide) ?_
      cases dt_some h
      exact dz_iret (pc := 56) C hr dX10_lays_56
  · refine dz_iconst (pc := 33) (v := (2 : Int32)) C dX10_lays_33 (by decide) ?_
    cases dt_some h
    exact dz_iret (pc := 34) C hr dX10_lays_34

def fX10_costOf_21  (x3 : Int32) (s0 : Int32) (T : dt_Ob) : Option (Int32) := (some (s0 + x3))
set_option maxRecDepth 10000 in
set_option maxHeartbeats 4000000 in
theorem tX10_costOf_21 {G : dt_G} {A : Nat → Prop} {p : Program} {l : Launch} {e : Env} {s : State} {m : MethodId} {args : Array Value} {below : List Frame} {meth : Method} {c : Code} (C : dt_Cx 1 G A p s m args meth c cX10_costOf 5 RX10) (hr : meth.sig.returnType = (some .int)) {M : dt_M} {res : Int32}  : ∀ (x3 : Int32) (s0 : Int32) (T : dt_Ob), fX10_costOf_21 x3 s0 T = some res → dt_At G A p l e (dt_rm 1) s m args below meth c 5 (MQ below (dt_Post G A (some (.int res)) (dt_put M 18 T)) args s 0 0 A) 21 [(3, .int x3)] [.int s0] (dt_put M 18 T) := by
  intro x3 s0 T h
  unfold fX10_costOf_21 at h
  refine dz_iload_n (pc := 21) C dX10_costOf_21 rfl 0 rfl ?_
  refine dz_iadd (pc := 22) C dX10_costOf_22 ?_
  cases dt_some h
  exact dz_iret (pc := 23) C hr dX10_costOf_23
def fX10_costOf  (x1 : Int32) (x2 : Int32) (x3 : Int32) (T : dt_Ob) : Option (Int32) := (if 0 ≤ ((x1 - (10 : Int32)) - x2) then (fX10_costOf_21 x3 ((x1 - (10 : Int32)) - x2) T) else (fX10_costOf_21 x3 (-((x1 - (10 : Int32)) - x2)) T))
set_option maxRecDepth 10000 in
set_option maxHeartbeats 4000000 in
theorem m_X10_costOf (l : Launch)  (M : dt_M) (T : dt_Ob)  (x1 : Int32) (x2 : Int32) (x3 : Int32) {res : Int32} (h : fX10_costOf x1 x2 x3 T = some res) : dt_Met 1 l yX10_costOf cX10_costOf 5 (some .int) 1 (fun G => [.ref (G.1 18 0), .int x1, .int x2, .int x3]) (dt_put M 18 T) (some (.int res)) (dt_put M 18 T) := by
  refine dz_enter (lv := fun G => [(0, .ref (G.1 18 0)), (1, .int x1), (2, .int x2), (3, .int x3)]) (by decide) (fun _ => rfl) (fun _ => Nat.le_of_ble_eq_true rfl) (fun G A p e s m args below meth c C hr => ?_)
  unfold fX10_costOf at h
  refine dz_iload_n (pc := 0) C dX10_costOf_0 rfl 1 rfl ?_
  refine dz_bipush (pc := 1) (v := (10 : Int32)) C dX10_costOf_1 (by decide) ?_
  refine dz_isub (pc := 3) C dX10_costOf_3 ?_
  refine dz_iload_n (pc := 4) C dX10_costOf_4 rfl 2 rfl ?_
  refine dz_isub (pc := 5) C dX10_costOf_5 ?_
  refine dz_istore (pc := 6) C dX10_costOf_6 (by decide) rfl ?_
  refine dz_iload (pc := 8) C dX10_costOf_8 0 rfl ?_
  refine dz_if_ge (pc := 10) (t := 19) C dX10_costOf_10 (by decide) h (fun h => ?_) (fun h => ?_)
  · refine dz_iload (pc := 19) C dX10_costOf_19 0 rfl ?_
    refine dz_sub [4] rfl ?_
    exact tX10_costOf_21 C hr  x3 ((x1 - (10 : Int32)) - x2) T h
  · refine dz_iload (pc := 13) C dX10_costOf_13 0 rfl ?_
    refine dz_ineg (pc := 15) C dX10_costOf_15 ?_
    refine dz_goto (pc := 16) (t := 21) C dX10_costOf_16 (by decide) ?_
    refine dz_sub [4] rfl ?_
    exact tX10_costOf_21 C hr  x3 (-((x1 - (10 : Int32)) - x2)) T h

def fX10_keeps_47  (x1 : Int32) (T : dt_Ob) : Option (dt_Ob) := ((dt_ix ((5 : Int32) * (T 3 0)) 60).bind fun a3 => ((fX10_own x1 (4 : Int32) (dt_set T 2 a3 x1)).bind fun q4 => ((dt_ix (((5 : Int32) * (T 3 0)) + (1 : Int32)) 60).bind fun a5 => ((fX10_own x1 (5 : Int32) (dt_set (dt_set T 2 a3 x1) 2 a5 q4)).bind fun q6 => ((dt_ix (((5 : Int32) * (T 3 0)) + (2 : Int32)) 60).bind fun a7 => ((fX10_own x1 (6 : Int32) (dt_set (dt_set (dt_set T 2 a3 x1) 2 a5 q4) 2 a7 q6)).bind fun q8 => ((dt_ix (((5 : Int32) * (T 3 0)) + (3 : Int32)) 60).bind fun a9 => ((dt_ix (4 : Int32) 1225).bind fun a10 => ((dt_ix (((5 : Int32) * (T 3 0)) + (4 : Int32)) 60).bind fun a11 => (some (dt_set (dt_set (dt_set (dt_set (dt_set (dt_set T 2 a3 x1) 2 a5 q4) 2 a7 q6) 2 a9 q8) 2 a11 ((T 0) a10)) 3 0 ((T 3 0) + (1 : Int32)))))))))))))
set_option maxRecDepth 10000 in
set_option maxHeartbeats 4000000 in
theorem tX10_keeps_47 {G : dt_G} {A : Nat → Prop} {p : Program} {l : Launch} {e : Env} {s : State} {m : MethodId} {args : Array Value} {below : List Frame} {meth : Method} {c : Code} (C : dt_Cx 1 G A p s m args meth c cX10_keeps 3 RX10) (hr : meth.sig.returnType = none) {M : dt_M} {res : dt_Ob}  : ∀ (x1 : Int32) (T : dt_Ob), fX10_keeps_47 x1 T = some res → dt_At G A p l e (dt_rm 2) s m args below meth c 3 (MQ below (dt_Post G A none (dt_put M 18 res)) args s 0 0 A) 47 [(0, .ref (G.1 18 0)), (1, .int x1)] [] (dt_put M 18 T) := by
  intro x1 T h
  unfold fX10_keeps_47 at h
  refine dz_iconst (pc := 47) (v := (5 : Int32)) C dX10_keeps_47 (by decide) ?_
  refine dz_aload_n (pc := 48) C dX10_keeps_48 rfl 0 rfl ?_
  refine dz_getI (pc := 49) (k := 18) (j := 3) (v := (T 3 0)) C Fc_X10 hk_18 (by decide) rfl rfl fl_X10_80 (dt_rA _ _ _ _ _) dX10_keeps_49 ?_
  refine dz_imul (pc := 52) C dX10_keeps_52 ?_
  refine dz_istore_n (pc := 53) C dX10_keeps_53 rfl (by decide) rfl ?_
  refine dz_aload_n (pc := 54) C dX10_keeps_54 rfl 1 rfl ?_
  refine dz_getR (pc := 55) (k := 18) (j := 2) C Fc_X10 hk_18 (by decide) (by decide) rfl fl_X10_16 dX10_keeps_55 ?_
  refine dz_iload_n (pc := 58) C dX10_keeps_58 rfl 0 rfl ?_
  refine dz_iload_n (pc := 59) C dX10_keeps_59 rfl 2 rfl ?_
  refine dz_iast (pc := 60) (k := 18) (j := 2) (n := 60) (M' := fun a3 => (dt_put M 18 (dt_set T 2 a3 x1))) C hk_18 (by decide) rfl (fun a3 => (dt_wA _ _ _ _ _ _)) dX10_keeps_60 h (fun a3 h => ?_)
  refine dz_aload_n (pc := 61) C dX10_keeps_61 rfl 1 rfl ?_
  refine dz_getR (pc := 62) (k := 18) (j := 2) C Fc_X10 hk_18 (by decide) (by decide) rfl fl_X10_16 dX10_keeps_62 ?_
  refine dz_iload_n (pc := 65) C dX10_keeps_65 rfl 0 rfl ?_
  refine dz_iconst (pc := 66) (v := (1 : Int32)) C dX10_keeps_66 (by decide) ?_
  refine dz_iadd (pc := 67) C dX10_keeps_67 ?_
  refine dz_aload_n (pc := 68) C dX10_keeps_68 rfl 1 rfl ?_
  refine dz_iload_n (pc := 69) C dX10_keeps_69 rfl 2 rfl ?_
  refine dz_iconst (pc := 70) (v := (4 : Int32)) C dX10_keeps_70 (by decide) ?_
  obtain ⟨q4, eq4, h⟩ := dt_bind h
  refine dz_callVi (pc := 71) (st := [.int (((5 : Int32) * (T 3 0)) + (1 : Int32)), .ref (G.1 18 (2 + 1))]) (k := 18) (As := [.int x1, .int (4 : Int32)]) (M' := (dt_put M 18 (dt_set T 2 a3 x1))) C Fc_X10 hk_18 mf_X10_own rfl ml_X10_94 (m_X10_own l _ _ _ _ eq4) rfl rfl (by omega) (by decide) (Nat.le_of_ble_eq_true rfl) dX10_keeps_71 ?_
  refine dz_iast (pc := 74) (k := 18) (j := 2) (n := 60) (M' := fun a5 => (dt_put M 18 (dt_set (dt_set T 2 a3 x1) 2 a5 q4))) C hk_18 (by decide) rfl (fun a5 => (dt_wA _ _ _ _ _ _)) dX10_keeps_74 h (fun a5 h => ?_)
  refine dz_aload_n (pc := 75) C dX10_keeps_75 rfl 1 rfl ?_
  refine dz_getR (pc := 76) (k := 18) (j := 2) C Fc_X10 hk_18 (by decide) (by decide) rfl fl_X10_16 dX10_keeps_76 ?_
  refine dz_iload_n (pc := 79) C dX10_keeps_79 rfl 0 rfl ?_
  refine dz_iconst (pc := 80) (v := (2 : Int32)) C dX10_keeps_80 (by decide) ?_
  refine dz_iadd (pc := 81) C dX10_keeps_81 ?_
  refine dz_aload_n (pc := 82) C dX10_keeps_82 rfl 1 rfl ?_
  refine dz_iload_n (pc := 83) C dX10_keeps_83 rfl 2 rfl ?_
  refine dz_iconst (pc := 84) (v := (5 : Int32)) C dX10_keeps_84 (by decide) ?_
  obtain ⟨q6, eq6, h⟩ := dt_bind h
  refine dz_callVi (pc := 85) (st := [.int (((5 : Int32) * (T 3 0)) + (2 : Int32)), .ref (G.1 18 (2 + 1))]) (k := 18) (As := [.int x1, .int (5 : Int32)]) (M' := (dt_put M 18 (dt_set (dt_set T 2 a3 x1) 2 a5 q4))) C Fc_X10 hk_18 mf_X10_own rfl ml_X10_94 (m_X10_own l _ _ _ _ eq6) rfl rfl (by omega) (by decide) (Nat.le_of_ble_eq_true rfl) dX10_keeps_85 ?_
  refine dz_iast (pc := 88) (k := 18) (j := 2) (n := 60) (M' := fun a7 => (dt_put M 18 (dt_set (dt_set (dt_set T 2 a3 x1) 2 a5 q4) 2 a7 q6))) C hk_18 (by decide) rfl (fun a7 => (dt_wA _ _ _ _ _ _)) dX10_keeps_88 h (fun a7 h => ?_)
  refine dz_aload_n (pc := 89) C dX10_keeps_89 rfl 1 rfl ?_
  refine dz_getR (pc := 90) (k := 18) (j := 2) C Fc_X10 hk_18 (by decide) (by decide) rfl fl_X10_16 dX10_keeps_90 ?_
  refine dz_iload_n (pc := 93) C dX10_keeps_93 rfl 0 rfl ?_
  refine dz_iconst (pc := 94) (v := (3 : Int32)) C dX10_keeps_94 (by decide) ?_
  refine dz_iadd (pc := 95) C dX10_keeps_95 ?_
  refine dz_aload_n (pc := 96) C dX10_keeps_96 rfl 1 rfl ?_
  refine dz_iload_n (pc := 97) C dX10_keeps_97 rfl 2 rfl ?_
  refine dz_bipush (pc := 98) (v := (6 : Int32)) C dX10_keeps_98 (by decide) ?_
  obtain ⟨q8, eq8, h⟩ := dt_bind h
  refine dz_callVi (pc := 100) (st := [.int (((5 : Int32) * (T 3 0)) + (3 : Int32)), .ref (G.1 18 (2 + 1))]) (k := 18) (As := [.int x1, .int (6 : Int32)]) (M' := (dt_put M 18 (dt_set (dt_set (dt_set T 2 a3 x1) 2 a5 q4) 2 a7 q6))) C Fc_X10 hk_18 mf_X10_own rfl ml_X10_94 (m_X10_own l _ _ _ _ eq8) rfl rfl (by omega) (by decide) (Nat.le_of_ble_eq_true rfl) dX10_keeps_100 ?_
  refine dz_iast (pc := 103) (k := 18) (j := 2) (n := 60) (M' := fun a9 => (dt_put M 18 (dt_set (dt_set (dt_set (dt_set T 2 a3 x1) 2 a5 q4) 2 a7 q6) 2 a9 q8))) C hk_18 (by decide) rfl (fun a9 => (dt_wA _ _ _ _ _ _)) dX10_keeps_103 h (fun a9 h => ?_)
  refine dz_aload_n (pc := 104) C dX10_keeps_104 rfl 1 rfl ?_
  refine dz_getR (pc := 105) (k := 18) (j := 2) C Fc_X10 hk_18 (by decide) (by decide) rfl fl_X10_16 dX10_keeps_105 ?_
  refine dz_iload_n (pc := 108) C dX10_keeps_108 rfl 0 rfl ?_
  refine dz_iconst (pc := 109) (v := (4 : Int32)) C dX10_keeps_109 (by decide) ?_
  refine dz_iadd (pc := 110) C dX10_keeps_110 ?_
  refine dz_aload_n (pc := 111) C dX10_keeps_111 rfl 1 rfl ?_
  refine dz_getR (pc := 112) (k := 18) (j := 0) C Fc_X10 hk_18 (by decide) (by decide) rfl fl_X10_7 dX10_keeps_112 ?_
  refine dz_iconst (pc := 115) (v := (4 : Int32)) C dX10_keeps_115 (by decide) ?_
  refine dz_iald (pc := 116) (k := 18) (j := 0) (n := 1225) (f := (T 0)) C hk_18 (by decide) rfl (dt_rAf _ _ _ _) dX10_keeps_116 h (fun a10 h => ?_)
  refine dz_iast (pc := 117) (k := 18) (j := 2) (n := 60) (M' := fun a11 => (dt_put M 18 (dt_set (dt_set (dt_set (dt_set (dt_set T 2 a3 x1) 2 a5 q4) 2 a7 q6) 2 a9 q8) 2 a11 ((T 0) a10)))) C hk_18 (by decide) rfl (fun a11 => (dt_wA _ _ _ _ _ _)) dX10_keeps_117 h (fun a11 h => ?_)
  refine dz_aload_n (pc := 118) C dX10_keeps_118 rfl 1 rfl ?_
  refine dz_dup (pc := 119) C dX10_keeps_119 rfl ?_
  refine dz_getI (pc := 120) (k := 18) (j := 3) (v := (T 3 0)) C Fc_X10 hk_18 (by decide) rfl rfl fl_X10_80 (dt_rA _ _ _ _ _) dX10_keeps_120 ?_
  refine dz_iconst (pc := 123) (v := (1 : Int32)) C dX10_keeps_123 (by decide) ?_
  refine dz_iadd (pc := 124) C dX10_keeps_124 ?_
  refine dz_putI (pc := 125) (k := 18) (j := 3) (M' := (dt_put M 18 (dt_set (dt_set (dt_set (dt_set (dt_set (dt_set T 2 a3 x1) 2 a5 q4) 2 a7 q6) 2 a9 q8) 2 a11 ((T 0) a10)) 3 0 ((T 3 0) + (1 : Int32))))) C Fc_X10 hk_18 (by decide) rfl rfl rfl rfl fl_X10_80 (dt_wA _ _ _ _ _ _) dX10_keeps_125 ?_
  cases dt_some h
  exact dz_vret (pc := 128) C hr dX10_keeps_128
def fX10_keeps_11  : Nat → Int32 → Int32 → dt_Ob → Option (dt_Ob)
  | 0, _, _, _ => none
  | n + 1, x1, x2, T => (if (55 : Int32) ≤ x2 then (fX10_keeps_47 x1 (dt_set T 3 0 ((T 3 0) - (1 : Int32)))) else ((dt_ix (x2 + (5 : Int32)) 60).bind fun a1 => ((dt_ix x2 60).bind fun a2 => ((fX10_keeps_11 n) x1 (x2 + (1 : Int32)) (dt_set T 2 a2 ((T 2) a1))))))
set_option maxRecDepth 10000 in
set_option maxHeartbeats 4000000 in
theorem tX10_keeps_11 {G : dt_G} {A : Nat → Prop} {p : Program} {l : Launch} {e : Env} {s : State} {m : MethodId} {args : Array Value} {below : List Frame} {meth : Method} {c : Code} (C : dt_Cx 1 G A p s m args meth c cX10_keeps 3 RX10) (hr : meth.sig.returnType = none) {M : dt_M} {res : dt_Ob}  : ∀ (n : Nat) (x1 : Int32) (x2 : Int32) (T : dt_Ob), fX10_keeps_11 n x1 x2 T = some res → dt_At G A p l e (dt_rm 2) s m args below meth c 3 (MQ below (dt_Post G A none (dt_put M 18 res)) args s 0 0 A) 11 [(0, .ref (G.1 18 0)), (1, .int x1), (2, .int x2)] [] (dt_put M 18 T) := by
  intro n
  induction n with
  | zero =>
    intro x1 x2 T h
    unfold fX10_keeps_11 at h
    cases h
  | succ n ih =>
    intro x1 x2 T h
    unfold fX10_keeps_11 at h
    refine dz_iload_n (pc := 11) C dX10_keeps_11 rfl 2 rfl ?_
    refine dz_bipush (pc := 12) (v := (55 : Int32)) C dX10_keeps_12 (by decide) ?_
    refine dz_icmp_ge (pc := 14) (t := 37) C dX10_keeps_14 (by decide) h (fun h => ?_) (fun h => ?_)
    · refine dz_aload_n (pc := 37) C dX10_keeps_37 rfl 0 rfl ?_
      refine dz_dup (pc := 38) C dX10_keeps_38 rfl ?_
      refine dz_getI (pc := 39) (k := 18) (j := 3) (v := (T 3 0)) C Fc_X10 hk_18 (by decide) rfl rfl fl_X10_80 (dt_rA _ _ _ _ _) dX10_keeps_39 ?_
      refine dz_iconst (pc := 42) (v := (1 : Int32)) C dX10_keeps_42 (by decide) ?_
      refine dz_isub (pc := 43) C dX10_keeps_43 ?_
      refine dz_putI (pc := 44) (k := 18) (j := 3) (M' := (dt_put M 18 (dt_set T 3 0 ((T 3 0) - (1 : Int32))))) C Fc_X10 hk_18 (by decide) rfl rfl rfl rfl fl_X10_80 (dt_wA _ _ _ _ _ _) dX10_keeps_44 ?_
      refine dz_sub [0, 1] rfl ?_
      exact tX10_keeps_47 C hr  x1 (dt_set T 3 0 ((T 3 0) - (1 : Int32))) h
    · refine dz_aload_n (pc := 17) C dX10_keeps_17 rfl 0 rfl ?_
      refine dz_getR (pc := 18) (k := 18) (j := 2) C Fc_X10 hk_18 (by decide) (by decide) rfl fl_X10_16 dX10_keeps_18 ?_
      refine dz_iload_n (pc := 21) C dX10_keeps_21 rfl 2 rfl ?_
      refine dz_aload_n (pc := 22) C dX10_keeps_22 rfl 0 rfl ?_
      refine dz_getR (pc := 23) (k := 18) (j := 2) C Fc_X10 hk_18 (by decide) (by decide) rfl fl_X10_16 dX10_keeps_23 ?_
      refine dz_iload_n (pc := 26) C dX10_keeps_26 rfl 2 rfl ?_
      refine dz_iconst (pc := 27) (v := (5 : Int32)) C dX10_keeps_27 (by decide) ?_
      refine dz_iadd (pc := 28) C dX10_keeps_28 ?_
      refine dz_iald (pc := 29) (k := 18) (j := 2) (n := 60) (f := (T 2)) C hk_18 (by decide) rfl (dt_rAf _ _ _ _) dX10_keeps_29 h (fun a1 h => ?_)
      refine dz_iast (pc := 30) (k := 18) (j := 2) (n := 60) (M' := fun a2 => (dt_put M 18 (dt_set T 2 a2 ((T 2) a1)))) C hk_18 (by decide) rfl (fun a2 => (dt_wA _ _ _ _ _ _)) dX10_keeps_30 h (fun a2 h => ?_)
      refine dz_iinc (pc := 31) (v := (x2 + (1 : Int32))) C dX10_keeps_31 2 rfl rfl (by decide) rfl ?_
      refine dz_goto (pc := 34) (t := 11) C dX10_keeps_34 (by decide) ?_
      refine dz_sub [1, 2, 0] rfl ?_
      exact ih x1 (x2 + (1 : Int32)) (dt_set T 2 a2 ((T 2) a1)) h
def fX10_keeps  (x1 : Int32) (T : dt_Ob) : Option (dt_Ob) := (if (T 3 0) = (12 : Int32) then (fX10_keeps_11 dt_F x1 (0 : Int32) T) else (fX10_keeps_47 x1 T))
set_option maxRecDepth 10000 in
set_option maxHeartbeats 4000000 in
theorem m_X10_keeps (l : Launch)  (M : dt_M) (T : dt_Ob)  (x1 : Int32) {res : dt_Ob} (h : fX10_keeps x1 T = some res) : dt_Met 1 l yX10_keeps cX10_keeps 3 none 2 (fun G => [.ref (G.1 18 0), .int x1]) (dt_put M 18 T) none (dt_put M 18 res) := by
  refine dz_enter (lv := fun G => [(0, .ref (G.1 18 0)), (1, .int x1)]) (by decide) (fun _ => rfl) (fun _ => Nat.le_of_ble_eq_true rfl) (fun G A p e s m args below meth c C hr => ?_)
  unfold fX10_keeps at h
  refine dz_aload_n (pc := 0) C dX10_keeps_0 rfl 0 rfl ?_
  refine dz_getI (pc := 1) (k := 18) (j := 3) (v := (T 3 0)) C Fc_X10 hk_18 (by decide) rfl rfl fl_X10_80 (dt_rA _ _ _ _ _) dX10_keeps_1 ?_
  refine dz_bipush (pc := 4) (v := (12 : Int32)) C dX10_keeps_4 (by decide) ?_
  refine dz_icmp_ne (pc := 6) (t := 47) C dX10_keeps_6 (by decide) h (fun h => ?_) (fun h => ?_)
  · exact tX10_keeps_47 C hr  x1 T h
  · refine dz_iconst (pc := 9) (v := (0 : Int32)) C dX10_keeps_9 (by decide) ?_
    refine dz_istore_n (pc := 10) C dX10_keeps_10 rfl (by decide) rfl ?_
    refine dz_sub [1, 2, 0] rfl ?_
    exact tX10_keeps_11 C hr dt_F x1 (0 : Int32) T h

def fX10_carries  (x1 : Int32) (x2 : Int32) (x3 : Int32) (x4 : Int32) (x5 : Int32) (T : dt_Ob) : Option (dt_Ob) := ((fX10_keeps x1 T).bind fun q1 => ((fX10_gives x1 (4 : Int32) x2 q1).bind fun q2 => ((fX10_gives x1 (5 : Int32) x3 q2).bind fun q3 => ((fX10_gives x1 (6 : Int32) x4 q3).bind fun q4 => ((dt_ix (3 : Int32) 1225).bind fun a5 => ((dt_ix (3 : Int32) 1225).bind fun a6 => ((dt_ix (4 : Int32) 1225).bind fun a7 => ((dt_ix (4 : Int32) 1225).bind fun a8 => (some (dt_set (dt_set q4 0 a6 (((q4 0) a5) + (1 : Int32))) 0 a8 ((((dt_set q4 0 a6 (((q4 0) a5) + (1 : Int32))) 0) a7) + x5)))))))))))
set_option maxRecDepth 10000 in
set_option maxHeartbeats 4000000 in
theorem m_X10_carries (l : Launch)  (M : dt_M) (T : dt_Ob)  (x1 : Int32) (x2 : Int32) (x3 : Int32) (x4 : Int32) (x5 : Int32) {res : dt_Ob} (h : fX10_carries x1 x2 x3 x4 x5 T = some res) : dt_Met 1 l yX10_carries cX10_carries 6 none 3 (fun G => [.ref (G.1 18 0), .int x1, .int x2, .int x3, .int x4, .int x5]) (dt_put M 18 T) none (dt_put M 18 res) := by
  refine dz_enter (lv := fun G => [(0, .ref (G.1 18 0)), (1, .int x1), (2, .int x2), (3, .int x3), (4, .int x4), (5, .int x5)]) (by decide) (fun _ => rfl) (fun _ => Nat.le_of_ble_eq_true rfl) (fun G A p e s m args below meth c C hr => ?_)
  unfold fX10_carries at h
  refine dz_aload_n (pc := 0) C dX10_carries_0 rfl 0 rfl ?_
  refine dz_iload_n (pc := 1) C dX10_carries_1 rfl 1 rfl ?_
  obtain ⟨q1, eq1, h⟩ := dt_bind h
  refine dz_callVv (pc := 2) (st := []) (k := 18) (As := [.int x1]) (M' := (dt_put M 18 q1)) C Fc_X10 hk_18 mf_X10_keeps rfl ml_X10_128 (m_X10_keeps l _ _ _ eq1) rfl rfl (by omega) (by decide) (Nat.le_of_ble_eq_true rfl) dX10_carries_2 ?_
  refine dz_aload_n (pc := 5) C dX10_carries_5 rfl 0 rfl ?_
  refine dz_iload_n (pc := 6) C dX10_carries_6 rfl 1 rfl ?_
  refine dz_iconst (pc := 7) (v := (4 : Int32)) C dX10_carries_7 (by decide) ?_
  refine dz_iload_n (pc := 8) C dX10_carries_8 rfl 2 rfl ?_
  obtain ⟨q2, eq2, h⟩ := dt_bind h
  refine dz_callVv (pc := 9) (st := []) (k := 18) (As := [.int x1, .int (4 : Int32), .int x2]) (M' := (dt_put M 18 q2)) C Fc_X10 hk_18 mf_X10_gives rfl ml_X10_90 (m_X10_gives l _ _ _ _ _ eq2) rfl rfl (by omega) (by decide) (Nat.le_of_ble_eq_true rfl) dX10_carries_9 ?_
  refine dz_aload_n (pc := 12) C dX10_carries_12 rfl 0 rfl ?_
  refine dz_iload_n (pc := 13) C dX10_carries_13 rfl 1 rfl ?_
  refine dz_iconst (pc := 14) (v := (5 : Int32)) C dX10_carries_14 (by decide) ?_
  refine dz_iload_n (pc := 15) C dX10_carries_15 rfl 3 rfl ?_
  obtain ⟨q3, eq3, h⟩ := dt_bind h
  refine dz_callVv (pc := 16) (st := []) (k := 18) (As := [.int x1, .int (5 : Int32), .int x3]) (M' := (dt_put M 18 q3)) C Fc_X10 hk_18 mf_X10_gives rfl ml_X10_90 (m_X10_gives l _ _ _ _ _ eq3) rfl rfl (by omega) (by decide) (Nat.le_of_ble_eq_true rfl) dX10_carries_16 ?_
  refine dz_aload_n (pc := 19) C dX10_carries_19 rfl 0 rfl ?_
  refine dz_iload_n (pc := 20) C dX10_carries_20 rfl 1 rfl ?_
  refine dz_bipush (pc := 21) (v := (6 : Int32)) C dX10_carries_21 (by decide) ?_
  refine dz_iload (pc := 23) C dX10_carries_23 4 rfl ?_
  obtain ⟨q4, eq4, h⟩ := dt_bind h
  refine dz_callVv (pc := 25) (st := []) (k := 18) (As := [.int x1, .int (6 : Int32), .int x4]) (M' := (dt_put M 18 q4)) C Fc_X10 hk_18 mf_X10_gives rfl ml_X10_90 (m_X10_gives l _ _ _ _ _ eq4) rfl rfl (by omega) (by decide) (Nat.le_of_ble_eq_true rfl) dX10_carries_25 ?_
  refine dz_aload_n (pc := 28) C dX10_carries_28 rfl 0 rfl ?_
  refine dz_getR (pc := 29) (k := 18) (j := 0) C Fc_X10 hk_18 (by decide) (by decide) rfl fl_X10_7 dX10_carries_29 ?_
  refine dz_iconst (pc := 32) (v := (3 : Int32)) C dX10_carries_32 (by decide) ?_
  refine dz_dup2 (pc := 33) C dX10_carries_33 rfl rfl ?_
  refine dz_iald (pc := 34) (k := 18) (j := 0) (n := 1225) (f := (q4 0)) C hk_18 (by decide) rfl (dt_rAf _ _ _ _) dX10_carries_34 h (fun a5 h => ?_)
  refine dz_iconst (pc := 35) (v := (1 : Int32)) C dX10_carries_35 (by decide) ?_
  refine dz_iadd (pc := 36) C dX10_carries_36 ?_
  refine dz_iast (pc := 37) (k := 18) (j := 0) (n := 1225) (M' := fun a6 => (dt_put M 18 (dt_set q4 0 a6 (((q4 0) a5) + (1 : Int32))))) C hk_18 (by decide) rfl (fun a6 => (dt_wA _ _ _ _ _ _)) dX10_carries_37 h (fun a6 h => ?_)
  refine dz_aload_n (pc := 38) C dX10_carries_38 rfl 0 rfl ?_
  refine dz_getR (pc := 39) (k := 18) (j := 0) C Fc_X10 hk_18 (by decide) (by decide) rfl fl_X10_7 dX10_carries_39 ?_
  refine dz_iconst (pc := 42) (v := (4 : Int32)) C dX10_carries_42 (by decide) ?_
  refine dz_dup2 (pc := 43) C dX10_carries_43 rfl rfl ?_
  refine dz_iald (pc := 44) (k := 18) (j := 0) (n := 1225) (f := ((dt_set q4 0 a6 (((q4 0) a5) + (1 : Int32))) 0)) C hk_18 (by decide) rfl (dt_rAf _ _ _ _) dX10_carries_44 h (fun a7 h => ?_)
  refine dz_iload (pc := 45) C dX10_carries_45 5 rfl ?_
  refine dz_iadd (pc := 47) C dX10_carries_47 ?_
  refine dz_iast (pc := 48) (k := 18) (j := 0) (n := 1225) (M' := fun a8 => (dt_put M 18 (dt_set (dt_set q4 0 a6 (((q4 0) a5) + (1 : Int32))) 0 a8 ((((dt_set q4 0 a6 (((q4 0) a5) + (1 : Int32))) 0) a7) + x5)))) C hk_18 (by decide) rfl (fun a8 => (dt_wA _ _ _ _ _ _)) dX10_carries_48 h (fun a8 h => ?_)
  cases dt_some h
  exact dz_vret (pc := 49) C hr dX10_carries_49

def fX10_put  (x1 : Int32) (x2 : Int32) (T : dt_Ob) : Option (Int32 × dt_Ob) := ((fX10_isBlock x1 (dt_set (dt_set T 4 0 (1 : Int32)) 5 0 (-1 : Int32))).bind fun q1 => (if q1 = 0 then (some ((-1 : Int32), (dt_set (dt_set T 4 0 (1 : Int32)) 5 0 (-1 : Int32)))) else ((fX10_own x1 (5 : Int32) (dt_set (dt_set T 4 0 (1 : Int32)) 5 0 (-1 : Int32))).bind fun q2 => (if q2 = (-1 : Int32) then ((dt_ix (0 : Int32) 1225).bind fun a3 => ((fX10_own x1 (0 : Int32) (dt_set (dt_set T 4 0 (1 : Int32)) 5 0 (-1 : Int32))).bind fun q4 => ((fX10_isIn x2 (0 : Int32) (((T 0) a3) - q4)).bind fun q5 => (if q5 = 0 then (some ((-1 : Int32), (dt_set (dt_set T 4 0 (1 : Int32)) 5 0 (-1 : Int32)))) else ((fX10_laysTower (dt_set (dt_set T 4 0 (1 : Int32)) 5 0 (-1 : Int32))).bind fun q6 => ((fX10_lays x1 x2 q6).bind fun q7 => (if q7.1 = 0 then ((dt_ix x1 20).bind fun a8 => ((fX10_own x1 (4 : Int32) (dt_set q7.2 4 0 q7.1)).bind fun q9 => ((dt_ix x1 20).bind fun a10 => ((fX10_costOf q9 x2 ((q7.2 8) a10) (dt_set q7.2 4 0 q7.1)).bind fun q11 => ((fX10_carries x1 (-1 : Int32) x2 ((q7.2 8) a8) q11 (dt_set q7.2 4 0 q7.1)).bind fun q12 => ((dt_ix x1 20).bind fun a13 => (some (((q12 8) a13), q12)))))))) else (some ((-1 : Int32), (dt_set q7.2 4 0 q7.1)))))))))) else (some ((-1 : Int32), (dt_set (dt_set T 4 0 (1 : Int32)) 5 0 (-1 : Int32))))))))
set_option maxRecDepth 10000 in
set_option maxHeartbeats 4000000 in
theorem m_X10_put (l : Launch)  (M : dt_M) (T : dt_Ob)  (x1 : Int32) (x2 : Int32) {res : Int32 × dt_Ob} (h : fX10_put x1 x2 T = some res) : dt_Met 1 l yX10_put cX10_put 3 (some .int) 6 (fun G => [.ref (G.1 18 0), .int x1, .int x2]) (dt_put M 18 T) (some (.int res.1)) (dt_put M 18 res.2) := by
  refine dz_enter (lv := fun G => [(0, .ref (G.1 18 0)), (1, .int x1), (2, .int x2)]) (by decide) (fun _ => rfl) (fun _ => Nat.le_of_ble_eq_true rfl) (fun G A p e s m args below meth c C hr => ?_)
  unfold fX10_put at h
  refine dz_aload_n (pc := 0) C dX10_put_0 rfl 0 rfl ?_
  refine dz_iconst (pc := 1) (v := (1 : Int32)) C dX10_put_1 (by decide) ?_
  refine dz_putI (pc := 2) (k := 18) (j := 4) (M' := (dt_put M 18 (dt_set T 4 0 (1 : Int32)))) C Fc_X10 hk_18 (by decide) rfl rfl rfl rfl fl_X10_132 (dt_wA _ _ _ _ _ _) dX10_put_2 ?_
  refine dz_aload_n (pc := 5) C dX10_put_5 rfl 0 rfl ?_
  refine dz_iconst (pc := 6) (v := (-1 : Int32)) C dX10_put_6 (by decide) ?_
  refine dz_putI (pc := 7) (k := 18) (j := 5) (M' := (dt_put M 18 (dt_set (dt_set T 4 0 (1 : Int32)) 5 0 (-1 : Int32)))) C Fc_X10 hk_18 (by decide) rfl rfl rfl rfl fl_X10_19 (dt_wA _ _ _ _ _ _) dX10_put_7 ?_
  refine dz_aload_n (pc := 10) C dX10_put_10 rfl 0 rfl ?_
  refine dz_iload_n (pc := 11) C dX10_put_11 rfl 1 rfl ?_
  obtain ⟨q1, eq1, h⟩ := dt_bind h
  refine dz_callVi (pc := 12) (st := []) (k := 18) (As := [.int x1]) (M' := (dt_put M 18 (dt_set (dt_set T 4 0 (1 : Int32)) 5 0 (-1 : Int32)))) C Fc_X10 hk_18 mf_X10_isBlock rfl ml_X10_135 (m_X10_isBlock l _ _ _ eq1) rfl rfl (by omega) (by decide) (Nat.le_of_ble_eq_true rfl) dX10_put_12 ?_
  refine dz_if_eq (pc := 15) (t := 49) C dX10_put_15 (by decide) h (fun h => ?_) (fun h => ?_)
  · refine dz_iconst (pc := 49) (v := (-1 : Int32)) C dX10_put_49 (by decide) ?_
    cases dt_some h
    exact dz_iret (pc := 50) C hr dX10_put_50
  · refine dz_aload_n (pc := 18) C dX10_put_18 rfl 0 rfl ?_
    refine dz_iload_n (pc := 19) C dX10_put_19 rfl 1 rfl ?_
    refine dz_iconst (pc := 20) (v := (5 : Int32)) C dX10_put_20 (by decide) ?_
    obtain ⟨q2, eq2, h⟩ := dt_bind h
    refine dz_callVi (pc := 21) (st := []) (k := 18) (As := [.int x1, .int (5 : Int32)]) (M' := (dt_put M 18 (dt_set (dt_set T 4 0 (1 : Int32)) 5 0 (-1 : Int32)))) C Fc_X10 hk_18 mf_X10_own rfl ml_X10_94 (m_X10_own l _ _ _ _ eq2) rfl rfl (by omega) (by decide) (Nat.le_of_ble_eq_true rfl) dX10_put_21 ?_
    refine dz_iconst (pc := 24) (v := (-1 : Int32)) C dX10_put_24 (by decide) ?_
    refine dz_icmp_ne (pc := 25) (t := 49) C dX10_put_25 (by decide) h (fun h => ?_) (fun h => ?_)
    · refine dz_iconst (pc := 49) (v := (-1 : Int32)) C dX10_put_49 (by decide) ?_
      cases dt_some h
      exact dz_iret (pc := 50) C hr dX10_put_50
    · refine dz_iload_n (pc := 28) C dX10_put_28 rfl 2 rfl ?_
      refine dz_iconst (pc := 29) (v := (0 : Int32)) C dX10_put_29 (by decide) ?_
      refine dz_aload_n (pc := 30) C dX10_put_30 rfl 0 rfl ?_
      refine dz_getR (pc := 31) (k := 18) (j := 0) C Fc_X10 hk_18 (by decide) (by decide) rfl fl_X10_7 dX10_put_31 ?_
      refine dz_iconst (pc := 34) (v := (0 : Int32)) C dX10_put_34 (by decide) ?_
      refine dz_iald (pc := 35) (k := 18) (j := 0) (n := 1225) (f := (T 0)) C hk_18 (by decide) rfl (dt_rAf _ _ _ _) dX10_put_35 h (fun a3 h => ?_)
      refine dz_aload_n (pc := 36) C dX10_put_36 rfl 0 rfl ?_
      refine dz_iload_n (pc := 37) C dX10_put_37 rfl 1 rfl ?_
      refine dz_iconst (pc := 38) (v := (0 : Int32)) C dX10_put_38 (by decide) ?_
      obtain ⟨q4, eq4, h⟩ := dt_bind h
      refine dz_callVi (pc := 39) (st := [.int ((T 0) a3), .int (0 : Int32), .int x2]) (k := 18) (As := [.int x1, .int (0 : Int32)]) (M' := (dt_put M 18 (dt_set (dt_set T 4 0 (1 : Int32)) 5 0 (-1 : Int32)))) C Fc_X10 hk_18 mf_X10_own rfl ml_X10_94 (m_X10_own l _ _ _ _ eq4) rfl rfl (by omega) (by decide) (Nat.le_of_ble_eq_true rfl) dX10_put_39 ?_
      refine dz_isub (pc := 42) C dX10_put_42 ?_
      obtain ⟨q5, eq5, h⟩ := dt_bind h
      refine dz_callSi (pc := 43) (st := []) (As := [.int x2, .int (0 : Int32), .int (((T 0) a3) - q4)]) (M' := (dt_put M 18 (dt_set (dt_set T 4 0 (1 : Int32)) 5 0 (-1 : Int32)))) C ms_X10_isIn ml_X10_76 (m_X10_isIn l _ _ _ _ eq5) rfl rfl (by omega) (by decide) (Nat.le_of_ble_eq_true rfl) dX10_put_43 ?_
      refine dz_if_ne (pc := 46) (t := 51) C dX10_put_46 (by decide) h (fun h => ?_) (fun h => ?_)
      · refine dz_aload_n (pc := 51) C dX10_put_51 rfl 0 rfl ?_
        obtain ⟨q6, eq6, h⟩ := dt_bind h
        refine dz_callVv (pc := 52) (st := []) (k := 18) (As := []) (M' := (dt_put M 18 q6)) C Fc_X10 hk_18 mf_X10_laysTower rfl ml_X10_138 (m_X10_laysTower l _ _ eq6) rfl rfl (by omega) (by decide) (Nat.le_of_ble_eq_true rfl) dX10_put_52 ?_
        refine dz_aload_n (pc := 55) C dX10_put_55 rfl 0 rfl ?_
        refine dz_aload_n (pc := 56) C dX10_put_56 rfl 0 rfl ?_
        refine dz_iload_n (pc := 57) C dX10_put_57 rfl 1 rfl ?_
        refine dz_iload_n (pc := 58) C dX10_put_58 rfl 2 rfl ?_
        obtain ⟨q7, eq7, h⟩ := dt_bind h
        refine dz_callVi (pc := 59) (st := [.ref (G.1 18 0)]) (k := 18) (As := [.int x1, .int x2]) (M' := (dt_put M 18 q7.2)) C Fc_X10 hk_18 mf_X10_lays rfl ml_X10_141 (m_X10_lays l _ _ _ _ eq7) rfl rfl (by omega) (by decide) (Nat.le_of_ble_eq_true rfl) dX10_put_59 ?_
        refine dz_putI (pc := 62) (k := 18) (j := 4) (M' := (dt_put M 18 (dt_set q7.2 4 0 q7.1))) C Fc_X10 hk_18 (by decide) rfl rfl rfl rfl fl_X10_132 (dt_wA _ _ _ _ _ _) dX10_put_62 ?_
        refine dz_aload_n (pc := 65) C dX10_put_65 rfl 0 rfl ?_
        refine dz_getI (pc := 66) (k := 18) (j := 4) (v := q7.1) C Fc_X10 hk_18 (by decide) rfl rfl fl_X10_132 (dt_rA _ _ _ _ _) dX10_put_66 ?_
        refine dz_if_eq (pc := 69) (t := 74) C dX10_put_69 (by decide) h (fun h => ?_) (fun h => ?_)
        · refine dz_aload_n (pc := 74) C dX10_put_74 rfl 0 rfl ?_
          refine dz_iload_n (pc := 75) C dX10_put_75 rfl 1 rfl ?_
          refine dz_iconst (pc := 76) (v := (-1 : Int32)) C dX10_put_76 (by decide) ?_
          refine dz_iload_n (pc := 77) C dX10_put_77 rfl 2 rfl ?_
          refine dz_aload_n (pc := 78) C dX10_put_78 rfl 0 rfl ?_
          refine dz_getR (pc := 79) (k := 18) (j := 8) C Fc_X10 hk_18 (by decide) (by decide) rfl fl_X10_26 dX10_put_79 ?_
          refine dz_iload_n (pc := 82) C dX10_put_82 rfl 1 rfl ?_
          refine dz_iald (pc := 83) (k := 18) (j := 8) (n := 20) (f := (q7.2 8)) C hk_18 (by decide) rfl (dt_rAf _ _ _ _) dX10_put_83 h (fun a8 h => ?_)
          refine dz_aload_n (pc := 84) C dX10_put_84 rfl 0 rfl ?_
          refine dz_aload_n (pc := 85) C dX10_put_85 rfl 0 rfl ?_
          refine dz_iload_n (pc := 86) C dX10_put_86 rfl 1 rfl ?_
          refine dz_iconst (pc := 87) (v := (4 : Int32)) C dX10_put_87 (by decide) ?_
          obtain ⟨q9, eq9, h⟩ := dt_bind h
          refine dz_callVi (pc := 88) (st := [.ref (G.1 18 0), .int ((q7.2 8) a8), .int x2, .int (-1 : Int32), .int x1, .ref (G.1 18 0)]) (k := 18) (As := [.int x1, .int (4 : Int32)]) (M' := (dt_put M 18 (dt_set q7.2 4 0 q7.1))) C Fc_X10 hk_18 mf_X10_own rfl ml_X10_94 (m_X10_own l _ _ _ _ eq9) rfl rfl (by omega) (by decide) (Nat.le_of_ble_eq_true rfl) dX10_put_88 ?_
          refine dz_iload_n (pc := 91) C dX10_put_91 rfl 2 rfl ?_
          refine dz_aload_n (pc := 92) C dX10_put_92 rfl 0 rfl ?_
          refine dz_getR (pc := 93) (k := 18) (j := 8) C Fc_X10 hk_18 (by decide) (by decide) rfl fl_X10_26 dX10_put_93 ?_
          refine dz_iload_n (pc := 96) C dX10_put_96 rfl 1 rfl ?_
          refine dz_iald (pc := 97) (k := 18) (j := 8) (n := 20) (f := (q7.2 8)) C hk_18 (by decide) rfl (dt_rAf _ _ _ _) dX10_put_97 h (fun a10 h => ?_)
          obtain ⟨q11, eq11, h⟩ := dt_bind h
          refine dz_callVi (pc := 98) (st := [.int ((q7.2 8) a8), .int x2, .int (-1 : Int32), .int x1, .ref (G.1 18 0)]) (k := 18) (As := [.int q9, .int x2, .int ((q7.2 8) a10)]) (M' := (dt_put M 18 (dt_set q7.2 4 0 q7.1))) C Fc_X10 hk_18 mf_X10_costOf rfl ml_X10_144 (m_X10_costOf l _ _ _ _ _ eq11) rfl rfl (by omega) (by decide) (Nat.le_of_ble_eq_true rfl) dX10_put_98 ?_
          obtain ⟨q12, eq12, h⟩ := dt_bind h
          refine dz_callVv (pc := 101) (st := []) (k := 18) (As := [.int x1, .int (-1 : Int32), .int x2, .int ((q7.2 8) a8), .int q11]) (M' := (dt_put M 18 q12)) C Fc_X10 hk_18 mf_X10_carries rfl ml_X10_148 (m_X10_carries l _ _ _ _ _ _ _ eq12) rfl rfl (by omega) (by decide) (Nat.le_of_ble_eq_true rfl) dX10_put_101 ?_
          refine dz_aload_n (pc := 104) C dX10_put_104 rfl 0 rfl ?_
          refine dz_getR (pc := 105) (k := 18) (j := 8) C Fc_X10 hk_18 (by decide) (by decide) rfl fl_X10_26 dX10_put_105 ?_
          refine dz_iload_n (pc := 108) C dX10_put_108 rfl 1 rfl ?_
          refine dz_iald (pc := 109) (k := 18) (j := 8) (n := 20) (f := (q12 8)) C hk_18 (by decide) rfl (dt_rAf _ _ _ _) dX10_put_109 h (fun a13 h => ?_)
          cases dt_some h
          exact dz_iret (pc := 110) C hr dX10_put_110
        · refine dz_iconst (pc := 72) (v := (-1 : Int32)) C dX10_put_72 (by decide) ?_
          cases dt_some h
          exact dz_iret (pc := 73) C hr dX10_put_73
      · refine dz_iconst (pc := 49) (v := (-1 : Int32)) C dX10_put_49 (by decide) ?_
        cases dt_some h
        exact dz_iret (pc := 50) C hr dX10_put_50

def fX10_take  (x1 : Int32) (x2 : Int32) (T : dt_Ob) : Option (Int32 × dt_Ob) := ((fX10_laysTower (dt_set (dt_set T 4 0 (1 : Int32)) 5 0 (-1 : Int32))).bind fun q1 => ((fX10_isBlock x1 q1).bind fun q2 => (if q2 = 0 then (some ((0 : Int32), q1)) else ((fX10_own x1 (5 : Int32) q1).bind fun q3 => (if q3 = (-1 : Int32) then (some ((0 : Int32), q1)) else ((fX10_isIn x2 (0 : Int32) (59 : Int32)).bind fun q4 => (if q4 = 0 then (some ((0 : Int32), q1)) else ((fX10_isOnTop x1 q1).bind fun q5 => (if q5 = 0 then (some ((0 : Int32), q1)) else ((dt_ix x1 20).bind fun a6 => ((dt_ix x1 20).bind fun a7 => ((fX10_costOf x2 ((q1 7) a6) ((q1 8) a7) (dt_set q1 4 0 (0 : Int32))).bind fun q8 => ((fX10_carries x1 x2 (-1 : Int32) (-1 : Int32) q8 (dt_set q1 4 0 (0 : Int32))).bind fun q9 => (some ((1 : Int32), q9)))))))))))))))
set_option maxRecDepth 10000 in
set_option maxHeartbeats 4000000 in
theorem m_X10_take (l : Launch)  (M : dt_M) (T : dt_Ob)  (x1 : Int32) (x2 : Int32) {res : Int32 × dt_Ob} (h : fX10_take x1 x2 T = some res) : dt_Met 1 l yX10_take cX10_take 3 (some .boolean) 4 (fun G => [.ref (G.1 18 0), .int x1, .int x2]) (dt_put M 18 T) (some (.int res.1)) (dt_put M 18 res.2) := by
  refine dz_enter (lv := fun G => [(0, .ref (G.1 18 0)), (1, .int x1), (2, .int x2)]) (by decide) (fun _ => rfl) (fun _ => Nat.le_of_ble_eq_true rfl) (fun G A p e s m args below meth c C hr => ?_)
  unfold fX10_take at h
  refine dz_aload_n (pc := 0) C dX10_take_0 rfl 0 rfl ?_
  refine dz_iconst (pc := 1) (v := (1 : Int32)) C dX10_take_1 (by decide) ?_
  refine dz_putI (pc := 2) (k := 18) (j := 4) (M' := (dt_put M 18 (dt_set T 4 0 (1 : Int32)))) C Fc_X10 hk_18 (by decide) rfl rfl rfl rfl fl_X10_132 (dt_wA _ _ _ _ _ _) dX10_take_2 ?_
  refine dz_aload_n (pc := 5) C dX10_take_5 rfl 0 rfl ?_
  refine dz_iconst (pc := 6) (v := (-1 : Int32)) C dX10_take_6 (by decide) ?_
  refine dz_putI (pc := 7) (k := 18) (j := 5) (M' := (dt_put M 18 (dt_set (dt_set T 4 0 (1 : Int32)) 5 0 (-1 : Int32)))) C Fc_X10 hk_18 (by decide) rfl rfl rfl rfl fl_X10_19 (dt_wA _ _ _ _ _ _) dX10_take_7 ?_
  refine dz_aload_n (pc := 10) C dX10_take_10 rfl 0 rfl ?_
  obtain ⟨q1, eq1, h⟩ := dt_bind h
  refine dz_callVv (pc := 11) (st := []) (k := 18) (As := []) (M' := (dt_put M 18 q1)) C Fc_X10 hk_18 mf_X10_laysTower rfl ml_X10_138 (m_X10_laysTower l _ _ eq1) rfl rfl (by omega) (by decide) (Nat.le_of_ble_eq_true rfl) dX10_take_11 ?_
  refine dz_aload_n (pc := 14) C dX10_take_14 rfl 0 rfl ?_
  refine dz_iload_n (pc := 15) C dX10_take_15 rfl 1 rfl ?_
  obtain ⟨q2, eq2, h⟩ := dt_bind h
  refine dz_callVi (pc := 16) (st := []) (k := 18) (As := [.int x1]) (M' := (dt_put M 18 q1)) C Fc_X10 hk_18 mf_X10_isBlock rfl ml_X10_135 (m_X10_isBlock l _ _ _ eq2) rfl rfl (by omega) (by decide) (Nat.le_of_ble_eq_true rfl) dX10_take_16 ?_
  refine dz_if_eq (pc := 19) (t := 50) C dX10_take_19 (by decide) h (fun h => ?_) (fun h => ?_)
  · refine dz_iconst (pc := 50) (v := (0 : Int32)) C dX10_take_50 (by decide) ?_
    cases dt_some h
    exact dz_zret (pc := 51) C hr (Or.inl rfl) dX10_take_51
  · refine dz_aload_n (pc := 22) C dX10_take_22 rfl 0 rfl ?_
    refine dz_iload_n (pc := 23) C dX10_take_23 rfl 1 rfl ?_
    refine dz_iconst (pc := 24) (v := (5 : Int32)) C dX10_take_24 (by decide) ?_
    obtain ⟨q3, eq3, h⟩ := dt_bind h
    refine dz_callVi (pc := 25) (st := []) (k := 18) (As := [.int x1, .int (5 : Int32)]) (M' := (dt_put M 18 q1)) C Fc_X10 hk_18 mf_X10_own rfl ml_X10_94 (m_X10_own l _ _ _ _ eq3) rfl rfl (by omega) (by decide) (Nat.le_of_ble_eq_true rfl) dX10_take_25 ?_
    refine dz_iconst (pc := 28) (v := (-1 : Int32)) C dX10_take_28 (by decide) ?_
    refine dz_icmp_eq (pc := 29) (t := 50) C dX10_take_29 (by decide) h (fun h => ?_) (fun h => ?_)
    · refine dz_iconst (pc := 50) (v := (0 : Int32)) C dX10_take_50 (by decide) ?_
      cases dt_some h
      exact dz_zret (pc := 51) C hr (Or.inl rfl) dX10_take_51
    · refine dz_iload_n (pc := 32) C dX10_take_32 rfl 2 rfl ?_
      refine dz_iconst (pc := 33) (v := (0 : Int32)) C dX10_take_33 (by decide) ?_
      refine dz_bipush (pc := 34) (v := (59 : Int32)) C dX10_take_34 (by decide) ?_
      obtain ⟨q4, eq4, h⟩ := dt_bind h
      refine dz_callSi (pc := 36) (st := []) (As := [.int x2, .int (0 : Int32), .int (59 : Int32)]) (M' := (dt_put M 18 q1)) C ms_X10_isIn ml_X10_76 (m_X10_isIn l _ _ _ _ eq4) rfl rfl (by omega) (by decide) (Nat.le_of_ble_eq_true rfl) dX10_take_36 ?_
      refine dz_if_eq (pc := 39) (t := 50) C dX10_take_39 (by decide) h (fun h => ?_) (fun h => ?_)
      · refine dz_iconst (pc := 50) (v := (0 : Int32)) C dX10_take_50 (by decide) ?_
        cases dt_some h
        exact dz_zret (pc := 51) C hr (Or.inl rfl) dX10_take_51
      · refine dz_aload_n (pc := 42) C dX10_take_42 rfl 0 rfl ?_
        refine dz_iload_n (pc := 43) C dX10_take_43 rfl 1 rfl ?_
        obtain ⟨q5, eq5, h⟩ := dt_bind h
        refine dz_callVi (pc := 44) (st := []) (k := 18) (As := [.int x1]) (M' := (dt_put M 18 q1)) C Fc_X10 hk_18 mf_X10_isOnTop rfl ml_X10_152 (m_X10_isOnTop l _ _ _ eq5) rfl rfl (by omega) (by decide) (Nat.le_of_ble_eq_true rfl) dX10_take_44 ?_
        refine dz_if_ne (pc := 47) (t := 52) C dX10_take_47 (by decide) h (fun h => ?_) (fun h => ?_)
        · refine dz_aload_n (pc := 52) C dX10_take_52 rfl 0 rfl ?_
          refine dz_iconst (pc := 53) (v := (0 : Int32)) C dX10_take_53 (by decide) ?_
          refine dz_putI (pc := 54) (k := 18) (j := 4) (M' := (dt_put M 18 (dt_set q1 4 0 (0 : Int32)))) C Fc_X10 hk_18 (by decide) rfl rfl rfl rfl fl_X10_132 (dt_wA _ _ _ _ _ _) dX10_take_54 ?_
          refine dz_aload_n (pc := 57) C dX10_take_57 rfl 0 rfl ?_
          refine dz_iload_n (pc := 58) C dX10_take_58 rfl 1 rfl ?_
          refine dz_iload_n (pc := 59) C dX10_take_59 rfl 2 rfl ?_
          refine dz_iconst (pc := 60) (v := (-1 : Int32)) C dX10_take_60 (by decide) ?_
          refine dz_iconst (pc := 61) (v := (-1 : Int32)) C dX10_take_61 (by decide) ?_
          refine dz_aload_n (pc := 62) C dX10_take_62 rfl 0 rfl ?_
          refine dz_iload_n (pc := 63) C dX10_take_63 rfl 2 rfl ?_
          refine dz_aload_n (pc := 64) C dX10_take_64 rfl 0 rfl ?_
          refine dz_getR (pc := 65) (k := 18) (j := 7) C Fc_X10 hk_18 (by decide) (by decide) rfl fl_X10_23 dX10_take_65 ?_
          refine dz_iload_n (pc := 68) C dX10_take_68 rfl 1 rfl ?_
          refine dz_iald (pc := 69) (k := 18) (j := 7) (n := 20) (f := (q1 7)) C hk_18 (by decide) rfl (dt_rAf _ _ _ _) dX10_take_69 h (fun a6 h => ?_)
          refine dz_aload_n (pc := 70) C dX10_take_70 rfl 0 rfl ?_
          refine dz_getR (pc := 71) (k := 18) (j := 8) C Fc_X10 hk_18 (by decide) (by decide) rfl fl_X10_26 dX10_take_71 ?_
          refine dz_iload_n (pc := 74) C dX10_take_74 rfl 1 rfl ?_
          refine dz_iald (pc := 75) (k := 18) (j := 8) (n := 20) (f := (q1 8)) C hk_18 (by decide) rfl (dt_rAf _ _ _ _) dX10_take_75 h (fun a7 h => ?_)
          obtain ⟨q8, eq8, h⟩ := dt_bind h
          refine dz_callVi (pc := 76) (st := [.int (-1 : Int32), .int (-1 : Int32), .int x2, .int x1, .ref (G.1 18 0)]) (k := 18) (As := [.int x2, .int ((q1 7) a6), .int ((q1 8) a7)]) (M' := (dt_put M 18 (dt_set q1 4 0 (0 : Int32)))) C Fc_X10 hk_18 mf_X10_costOf rfl ml_X10_144 (m_X10_costOf l _ _ _ _ _ eq8) rfl rfl (by omega) (by decide) (Nat.le_of_ble_eq_true rfl) dX10_take_76 ?_
          obtain ⟨q9, eq9, h⟩ := dt_bind h
          refine dz_callVv (pc := 79) (st := []) (k := 18) (As := [.int x1, .int x2, .int (-1 : Int32), .int (-1 : Int32), .int q8]) (M' := (dt_put M 18 q9)) C Fc_X10 hk_18 mf_X10_carries rfl ml_X10_148 (m_X10_carries l _ _ _ _ _ _ _ eq9) rfl rfl (by omega) (by decide) (Nat.le_of_ble_eq_true rfl) dX10_take_79 ?_
          refine dz_iconst (pc := 82) (v := (1 : Int32)) C dX10_take_82 (by decide) ?_
          cases dt_some h
          exact dz_zret (pc := 83) C hr (Or.inr rfl) dX10_take_83
        · refine dz_iconst (pc := 50) (v := (0 : Int32)) C dX10_take_50 (by decide) ?_
          cases dt_some h
          exact dz_zret (pc := 51) C hr (Or.inl rfl) dX10_take_51

def fX10_refused  (x1 : Int32) (T : dt_Ob) : Option (Int32) := (if x1 = 0 then (some (T 4 0)) else (if x1 = (1 : Int32) then (some (T 5 0)) else (some (-1 : Int32))))
set_option maxRecDepth 10000 in
set_option maxHeartbeats 4000000 in
theorem m_X10_refused (l : Launch)  (M : dt_M) (T : dt_Ob)  (x1 : Int32) {res : Int32} (h : fX10_refused x1 T = some res) : dt_Met 1 l yX10_refused cX10_refused 2 (some .int) 1 (fun G => [.ref (G.1 18 0), .int x1]) (dt_put M 18 T) (some (.int res)) (dt_put M 18 T) := by
  refine dz_enter (lv := fun G => [(0, .ref (G.1 18 0)), (1, .int x1)]) (by decide) (fun _ => rfl) (fun _ => Nat.le_of_ble_eq_true rfl) (fun G A p e s m args below meth c C hr => ?_)
  unfold fX10_refused at h
  refine dz_iload_n (pc := 0) C dX10_refused_0 rfl 1 rfl ?_
  refine dz_if_ne (pc := 1) (t := 11) C dX10_refused_1 (by decide) h (fun h => ?_) (fun h => ?_)
  · refine dz_iload_n (pc := 11) C dX10_refused_11 rfl 1 rfl ?_
    refine dz_iconst (pc := 12) (v := (1 : Int32)) C dX10_refused_12 (by decide) ?_
    refine dz_icmp_ne (pc := 13) (t := 23) C dX10_refused_13 (by decide) h (fun h => ?_) (fun h => ?_)
    · refine dz_iconst (pc := 23) (v := (-1 : Int32)) C dX10_refused_23 (by decide) ?_
      cases dt_some h
      exact dz_iret (pc := 24) C hr dX10_refused_24
    · refine dz_aload_n (pc := 16) C dX10_refused_16 rfl 0 rfl ?_
      refine dz_getI (pc := 17) (k := 18) (j := 5) (v := (T 5 0)) C Fc_X10 hk_18 (by decide) rfl rfl fl_X10_19 (dt_rA _ _ _ _ _) dX10_refused_17 ?_
      refine dz_goto (pc := 20) (t := 24) C dX10_refused_20 (by decide) ?_
      cases dt_some h
      exact dz_iret (pc := 24) C hr dX10_refused_24
  · refine dz_aload_n (pc := 4) C dX10_refused_4 rfl 0 rfl ?_
    refine dz_getI (pc := 5) (k := 18) (j := 4) (v := (T 4 0)) C Fc_X10 hk_18 (by decide) rfl rfl fl_X10_132 (dt_rA _ _ _ _ _) dX10_refused_5 ?_
    refine dz_goto (pc := 8) (t := 24) C dX10_refused_8 (by decide) ?_
    cases dt_some h
    exact dz_iret (pc := 24) C hr dX10_refused_24

def fX10_undo  (T : dt_Ob) : Option (Int32 × dt_Ob) := (if (T 3 0) = 0 then (some ((0 : Int32), T)) else ((dt_ix ((5 : Int32) * ((T 3 0) - (1 : Int32))) 60).bind fun a1 => ((dt_ix (((5 : Int32) * ((T 3 0) - (1 : Int32))) + (1 : Int32)) 60).bind fun a2 => ((fX10_gives ((T 2) a1) (4 : Int32) ((T 2) a2) (dt_set T 3 0 ((T 3 0) - (1 : Int32)))).bind fun q3 => ((dt_ix ((5 : Int32) * ((T 3 0) - (1 : Int32))) 60).bind fun a4 => ((dt_ix (((5 : Int32) * ((T 3 0) - (1 : Int32))) + (2 : Int32)) 60).bind fun a5 => ((fX10_gives ((q3 2) a4) (5 : Int32) ((q3 2) a5) q3).bind fun q6 => ((dt_ix ((5 : Int32) * ((T 3 0) - (1 : Int32))) 60).bind fun a7 => ((dt_ix (((5 : Int32) * ((T 3 0) - (1 : Int32))) + (3 : Int32)) 60).bind fun a8 => ((fX10_gives ((q6 2) a7) (6 : Int32) ((q6 2) a8) q6).bind fun q9 => ((dt_ix (((5 : Int32) * ((T 3 0) - (1 : Int32))) + (4 : Int32)) 60).bind fun a10 => ((dt_ix (4 : Int32) 1225).bind fun a11 => ((dt_ix (3 : Int32) 1225).bind fun a12 => ((dt_ix (3 : Int32) 1225).bind fun a13 => (some ((1 : Int32), (dt_set (dt_set q9 0 a11 ((q9 2) a10)) 0 a13 ((((dt_set q9 0 a11 ((q9 2) a10)) 0) a12) - (1 : Int32)))))))))))))))))))
set_option maxRecDepth 10000 in
set_option maxHeartbeats 4000000 in
theorem m_X10_undo (l : Launch)  (M : dt_M) (T : dt_Ob)   {res : Int32 × dt_Ob} (h : fX10_undo T = some res) : dt_Met 1 l yX10_undo cX10_undo 2 (some .boolean) 2 (fun G => [.ref (G.1 18 0)]) (dt_put M 18 T) (some (.int res.1)) (dt_put M 18 res.2) := by
  refine dz_enter (lv := fun G => [(0, .ref (G.1 18 0))]) (by decide) (fun _ => rfl) (fun _ => Nat.le_of_ble_eq_true rfl) (fun G A p e s m args below meth c C hr => ?_)
  unfold fX10_undo at h
  refine dz_aload_n (pc := 0) C dX10_undo_0 rfl 0 rfl ?_
  refine dz_getI (pc := 1) (k := 18) (j := 3) (v := (T 3 0)) C Fc_X10 hk_18 (by decide) rfl rfl fl_X10_80 (dt_rA _ _ _ _ _) dX10_undo_1 ?_
  refine dz_if_ne (pc := 4) (t := 9) C dX10_undo_4 (by decide) h (fun h => ?_) (fun h => ?_)
  · refine dz_aload_n (pc := 9) C dX10_undo_9 rfl 0 rfl ?_
    refine dz_dup (pc := 10) C dX10_undo_10 rfl ?_
    refine dz_getI (pc := 11) (k := 18) (j := 3) (v := (T 3 0)) C Fc_X10 hk_18 (by decide) rfl rfl fl_X10_80 (dt_rA _ _ _ _ _) dX10_undo_11 ?_
    refine dz_iconst (pc := 14) (v := (1 : Int32)) C dX10_undo_14 (by decide) ?_
    refine dz_isub (pc := 15) C dX10_undo_15 ?_
    refine dz_putI (pc := 16) (k := 18) (j := 3) (M' := (dt_put M 18 (dt_set T 3 0 ((T 3 0) - (1 : Int32))))) C Fc_X10 hk_18 (by decide) rfl rfl rfl rfl fl_X10_80 (dt_wA _ _ _ _ _ _) dX10_undo_16 ?_
    refine dz_iconst (pc := 19) (v := (5 : Int32)) C dX10_undo_19 (by decide) ?_
    refine dz_aload_n (pc := 20) C dX10_undo_20 rfl 0 rfl ?_
    refine dz_getI (pc := 21) (k := 18) (j := 3) (v := ((T 3 0) - (1 : Int32))) C Fc_X10 hk_18 (by decide) rfl rfl fl_X10_80 (dt_rA _ _ _ _ _) dX10_undo_21 ?_
    refine dz_imul (pc := 24) C dX10_undo_24 ?_
    refine dz_istore_n (pc := 25) C dX10_undo_25 rfl (by decide) rfl ?_
    refine dz_aload_n (pc := 26) C dX10_undo_26 rfl 1 rfl ?_
    refine dz_aload_n (pc := 27) C dX10_undo_27 rfl 1 rfl ?_
    refine dz_getR (pc := 28) (k := 18) (j := 2) C Fc_X10 hk_18 (by decide) (by decide) rfl fl_X10_16 dX10_undo_28 ?_
    refine dz_iload_n (pc := 31) C dX10_undo_31 rfl 0 rfl ?_
    refine dz_iald (pc := 32) (k := 18) (j := 2) (n := 60) (f := (T 2)) C hk_18 (by decide) rfl (dt_rAf _ _ _ _) dX10_undo_32 h (fun a1 h => ?_)
    refine dz_iconst (pc := 33) (v := (4 : Int32)) C dX10_undo_33 (by decide) ?_
    refine dz_aload_n (pc := 34) C dX10_undo_34 rfl 1 rfl ?_
    refine dz_getR (pc := 35) (k := 18) (j := 2) C Fc_X10 hk_18 (by decide) (by decide) rfl fl_X10_16 dX10_undo_35 ?_
    refine dz_iload_n (pc := 38) C dX10_undo_38 rfl 0 rfl ?_
    refine dz_iconst (pc := 39) (v := (1 : Int32)) C dX10_undo_39 (by decide) ?_
    refine dz_iadd (pc := 40) C dX10_undo_40 ?_
    refine dz_iald (pc := 41) (k := 18) (j := 2) (n := 60) (f := (T 2)) C hk_18 (by decide) rfl (dt_rAf _ _ _ _) dX10_undo_41 h (fun a2 h => ?_)
    obtain ⟨q3, eq3, h⟩ := dt_bind h
    refine dz_callVv (pc := 42) (st := []) (k := 18) (As := [.int ((T 2) a1), .int (4 : Int32), .int ((T 2) a2)]) (M' := (dt_put M 18 q3)) C Fc_X10 hk_18 mf_X10_gives rfl ml_X10_90 (m_X10_gives l _ _ _ _ _ eq3) rfl rfl (by omega) (by decide) (Nat.le_of_ble_eq_true rfl) dX10_undo_42 ?_
    refine dz_aload_n (pc := 45) C dX10_undo_45 rfl 1 rfl ?_
    refine dz_aload_n (pc := 46) C dX10_undo_46 rfl 1 rfl ?_
    refine dz_getR (pc := 47) (k := 18) (j := 2) C Fc_X10 hk_18 (by decide) (by decide) rfl fl_X10_16 dX10_undo_47 ?_
    refine dz_iload_n (pc := 50) C dX10_undo_50 rfl 0 rfl ?_
    refine dz_iald (pc := 51) (k := 18) (j := 2) (n := 60) (f := (q3 2)) C hk_18 (by decide) rfl (dt_rAf _ _ _ _) dX10_undo_51 h (fun a4 h => ?_)
    refine dz_iconst (pc := 52) (v := (5 : Int32)) C dX10_undo_52 (by decide) ?_
    refine dz_aload_n (pc := 53) C dX10_undo_53 rfl 1 rfl ?_
    refine dz_getR (pc := 54) (k := 18) (j := 2) C Fc_X10 hk_18 (by decide) (by decide) rfl fl_X10_16 dX10_undo_54 ?_
    refine dz_iload_n (pc := 57) C dX10_undo_57 rfl 0 rfl ?_
    refine dz_iconst (pc := 58) (v := (2 : Int32)) C dX10_undo_58 (by decide) ?_
    refine dz_iadd (pc := 59) C dX10_undo_59 ?_
    refine dz_iald (pc := 60) (k := 18) (j := 2) (n := 60) (f := (q3 2)) C hk_18 (by decide) rfl (dt_rAf _ _ _ _) dX10_undo_60 h (fun a5 h => ?_)
    obtain ⟨q6, eq6, h⟩ := dt_bind h
    refine dz_callVv (pc := 61) (st := []) (k := 18) (As := [.int ((q3 2) a4), .int (5 : Int32), .int ((q3 2) a5)]) (M' := (dt_put M 18 q6)) C Fc_X10 hk_18 mf_X10_gives rfl ml_X10_90 (m_X10_gives l _ _ _ _ _ eq6) rfl rfl (by omega) (by decide) (Nat.le_of_ble_eq_true rfl) dX10_undo_61 ?_
    refine dz_aload_n (pc := 64) C dX10_undo_64 rfl 1 rfl ?_
    refine dz_aload_n (pc := 65) C dX10_undo_65 rfl 1 rfl ?_
    refine dz_getR (pc := 66) (k := 18) (j := 2) C Fc_X10 hk_18 (by decide) (by decide) rfl fl_X10_16 dX10_undo_66 ?_
    refine dz_iload_n (pc := 69) C dX10_undo_69 rfl 0 rfl ?_
    refine dz_iald (pc := 70) (k := 18) (j := 2) (n := 60) (f := (q6 2)) C hk_18 (by decide) rfl (dt_rAf _ _ _ _) dX10_undo_70 h (fun a7 h => ?_)
    refine dz_bipush (pc := 71) (v := (6 : Int32)) C dX10_undo_71 (by decide) ?_
    refine dz_aload_n (pc := 73) C dX10_undo_73 rfl 1 rfl ?_
    refine dz_getR (pc := 74) (k := 18) (j := 2) C Fc_X10 hk_18 (by decide) (by decide) rfl fl_X10_16 dX10_undo_74 ?_
    refine dz_iload_n (pc := 77) C dX10_undo_77 rfl 0 rfl ?_
    refine dz_iconst (pc := 78) (v := (3 : Int32)) C dX10_undo_78 (by decide) ?_
    refine dz_iadd (pc := 79) C dX10_undo_79 ?_
    refine dz_iald (pc := 80) (k := 18) (j := 2) (n := 60) (f := (q6 2)) C hk_18 (by decide) rfl (dt_rAf _ _ _ _) dX10_undo_80 h (fun a8 h => ?_)
    obtain ⟨q9, eq9, h⟩ := dt_bind h
    refine dz_callVv (pc := 81) (st := []) (k := 18) (As := [.int ((q6 2) a7), .int (6 : Int32), .int ((q6 2) a8)]) (M' := (dt_put M 18 q9)) C Fc_X10 hk_18 mf_X10_gives rfl ml_X10_90 (m_X10_gives l _ _ _ _ _ eq9) rfl rfl (by omega) (by decide) (Nat.le_of_ble_eq_true rfl) dX10_undo_81 ?_
    refine dz_aload_n (pc := 84) C dX10_undo_84 rfl 1 rfl ?_
    refine dz_getR (pc := 85) (k := 18) (j := 0) C Fc_X10 hk_18 (by decide) (by decide) rfl fl_X10_7 dX10_undo_85 ?_
    refine dz_iconst (pc := 88) (v := (4 : Int32)) C dX10_undo_88 (by decide) ?_
    refine dz_aload_n (pc := 89) C dX10_undo_89 rfl 1 rfl ?_
    refine dz_getR (pc := 90) (k := 18) (j := 2) C Fc_X10 hk_18 (by decide) (by decide) rfl fl_X10_16 dX10_undo_90 ?_
    refine dz_iload_n (pc := 93) C dX10_undo_93 rfl 0 rfl ?_
    refine dz_iconst (pc := 94) (v := (4 : Int32)) C dX10_undo_94 (by decide) ?_
    refine dz_iadd (pc := 95) C dX10_undo_95 ?_
    refine dz_iald (pc := 96) (k := 18) (j := 2) (n := 60) (f := (q9 2)) C hk_18 (by decide) rfl (dt_rAf _ _ _ _) dX10_undo_96 h (fun a10 h => ?_)
    refine dz_iast (pc := 97) (k := 18) (j := 0) (n := 1225) (M' := fun a11 => (dt_put M 18 (dt_set q9 0 a11 ((q9 2) a10)))) C hk_18 (by decide) rfl (fun a11 => (dt_wA _ _ _ _ _ _)) dX10_undo_97 h (fun a11 h => ?_)
    refine dz_aload_n (pc := 98) C dX10_undo_98 rfl 1 rfl ?_
    refine dz_getR (pc := 99) (k := 18) (j := 0) C Fc_X10 hk_18 (by decide) (by decide) rfl fl_X10_7 dX10_undo_99 ?_
    refine dz_iconst (pc := 102) (v := (3 : Int32)) C dX10_undo_102 (by decide) ?_
    refine dz_dup2 (pc := 103) C dX10_undo_103 rfl rfl ?_
    refine dz_iald (pc := 104) (k := 18) (j := 0) (n := 1225) (f := ((dt_set q9 0 a11 ((q9 2) a10)) 0)) C hk_18 (by decide) rfl (dt_rAf _ _ _ _) dX10_undo_104 h (fun a12 h => ?_)
    refine dz_iconst (pc := 105) (v := (1 : Int32)) C dX10_undo_105 (by decide) ?_
    refine dz_isub (pc := 106) C dX10_undo_106 ?_
    refine dz_iast (pc := 107) (k := 18) (j := 0) (n := 1225) (M' := fun a13 => (dt_put M 18 (dt_set (dt_set q9 0 a11 ((q9 2) a10)) 0 a13 ((((dt_set q9 0 a11 ((q9 2) a10)) 0) a12) - (1 : Int32))))) C hk_18 (by decide) rfl (fun a13 => (dt_wA _ _ _ _ _ _)) dX10_undo_107 h (fun a13 h => ?_)
    refine dz_iconst (pc := 108) (v := (1 : Int32)) C dX10_undo_108 (by decide) ?_
    cases dt_some h
    exact dz_zret (pc := 109) C hr (Or.inr rfl) dX10_undo_109
  · refine dz_iconst (pc := 7) (v := (0 : Int32)) C dX10_undo_7 (by decide) ?_
    cases dt_some h
    exact dz_zret (pc := 8) C hr (Or.inl rfl) dX10_undo_8

def fX10_hand  (x1 : Int32) (T : dt_Ob) : Option (Int32 × dt_Ob) := ((fX10_isIn x1 (1 : Int32) (99 : Int32)).bind fun q1 => (if q1 = 0 then (some ((-1 : Int32), T)) else ((dt_ix (8 : Int32) 1225).bind fun a2 => (if ((T 0) a2) = (8 : Int32) then (some ((-1 : Int32), T)) else ((dt_ix (8 : Int32) 1225).bind fun a3 => ((dt_ix ((180 : Int32) + ((T 0) a3)) 1225).bind fun a4 => ((dt_ix (8 : Int32) 1225).bind fun a5 => ((dt_ix (8 : Int32) 1225).bind fun a6 => ((dt_ix (8 : Int32) 1225).bind fun a7 => (some (((((dt_set (dt_set T 0 a4 x1) 0 a6 ((((dt_set T 0 a4 x1) 0) a5) + (1 : Int32))) 0) a7) - (1 : Int32)), (dt_set (dt_set T 0 a4 x1) 0 a6 ((((dt_set T 0 a4 x1) 0) a5) + (1 : Int32))))))))))))))
set_option maxRecDepth 10000 in
set_option maxHeartbeats 4000000 in
theorem m_X10_hand (l : Launch)  (M : dt_M) (T : dt_Ob)  (x1 : Int32) {res : Int32 × dt_Ob} (h : fX10_hand x1 T = some res) : dt_Met 1 l yX10_hand cX10_hand 2 (some .int) 2 (fun G => [.ref (G.1 18 0), .int x1]) (dt_put M 18 T) (some (.int res.1)) (dt_put M 18 res.2) := by
  refine dz_enter (lv := fun G => [(0, .ref (G.1 18 0)), (1, .int x1)]) (by decide) (fun _ => rfl) (fun _ => Nat.le_of_ble_eq_true rfl) (fun G A p e s m args below meth c C hr => ?_)
  unfold fX10_hand at h
  refine dz_iload_n (pc := 0) C dX10_hand_0 rfl 1 rfl ?_
  refine dz_iconst (pc := 1) (v := (1 : Int32)) C dX10_hand_1 (by decide) ?_
  refine dz_bipush (pc := 2) (v := (99 : Int32)) C dX10_hand_2 (by decide) ?_
  obtain ⟨q1, eq1, h⟩ := dt_bind h
  refine dz_callSi (pc := 4) (st := []) (As := [.int x1, .int (1 : Int32), .int (99 : Int32)]) (M' := (dt_put M 18 T)) C ms_X10_isIn ml_X10_76 (m_X10_isIn l _ _ _ _ eq1) rfl rfl (by omega) (by decide) (Nat.le_of_ble_eq_true rfl) dX10_hand_4 ?_
  refine dz_if_eq (pc := 7) (t := 22) C dX10_hand_7 (by decide) h (fun h => ?_) (fun h => ?_)
  · refine dz_iconst (pc := 22) (v := (-1 : Int32)) C dX10_hand_22 (by decide) ?_
    cases dt_some h
    exact dz_iret (pc := 23) C hr dX10_hand_23
  · refine dz_aload_n (pc := 10) C dX10_hand_10 rfl 0 rfl ?_
    refine dz_getR (pc := 11) (k := 18) (j := 0) C Fc_X10 hk_18 (by decide) (by decide) rfl fl_X10_7 dX10_hand_11 ?_
    refine dz_bipush (pc := 14) (v := (8 : Int32)) C dX10_hand_14 (by decide) ?_
    refine dz_iald (pc := 16) (k := 18) (j := 0) (n := 1225) (f := (T 0)) C hk_18 (by decide) rfl (dt_rAf _ _ _ _) dX10_hand_16 h (fun a2 h => ?_)
    refine dz_bipush (pc := 17) (v := (8 : Int32)) C dX10_hand_17 (by decide) ?_
    refine dz_icmp_ne (pc := 19) (t := 24) C dX10_hand_19 (by decide) h (fun h => ?_) (fun h => ?_)
    · refine dz_aload_n (pc := 24) C dX10_hand_24 rfl 0 rfl ?_
      refine dz_getR (pc := 25) (k := 18) (j := 0) C Fc_X10 hk_18 (by decide) (by decide) rfl fl_X10_7 dX10_hand_25 ?_
      refine dz_sipush (pc := 28) (v := (180 : Int32)) C dX10_hand_28 (by decide) ?_
      refine dz_aload_n (pc := 31) C dX10_hand_31 rfl 0 rfl ?_
      refine dz_getR (pc := 32) (k := 18) (j := 0) C Fc_X10 hk_18 (by decide) (by decide) rfl fl_X10_7 dX10_hand_32 ?_
      refine dz_bipush (pc := 35) (v := (8 : Int32)) C dX10_hand_35 (by decide) ?_
      refine dz_iald (pc := 37) (k := 18) (j := 0) (n := 1225) (f := (T 0)) C hk_18 (by decide) rfl (dt_rAf _ _ _ _) dX10_hand_37 h (fun a3 h => ?_)
      refine dz_iadd (pc := 38) C dX10_hand_38 ?_
      refine dz_iload_n (pc := 39) C dX10_hand_39 rfl 1 rfl ?_
      refine dz_iast (pc := 40) (k := 18) (j := 0) (n := 1225) (M' := fun a4 => (dt_put M 18 (dt_set T 0 a4 x1))) C hk_18 (by decide) rfl (fun a4 => (dt_wA _ _ _ _ _ _)) dX10_hand_40 h (fun a4 h => ?_)
      refine dz_aload_n (pc := 41) C dX10_hand_41 rfl 0 rfl ?_
      refine dz_getR (pc := 42) (k := 18) (j := 0) C Fc_X10 hk_18 (by decide) (by decide) rfl fl_X10_7 dX10_hand_42 ?_
      refine dz_bipush (pc := 45) (v := (8 : Int32)) C dX10_hand_45 (by decide) ?_
      refine dz_dup2 (pc := 47) C dX10_hand_47 rfl rfl ?_
      refine dz_iald (pc := 48) (k := 18) (j := 0) (n := 1225) (f := ((dt_set T 0 a4 x1) 0)) C hk_18 (by decide) rfl (dt_rAf _ _ _ _) dX10_hand_48 h (fun a5 h => ?_)
      refine dz_iconst (pc := 49) (v := (1 : Int32)) C dX10_hand_49 (by decide) ?_
      refine dz_iadd (pc := 50) C dX10_hand_50 ?_
      refine dz_iast (pc := 51) (k := 18) (j := 0) (n := 1225) (M' := fun a6 => (dt_put M 18 (dt_set (dt_set T 0 a4 x1) 0 a6 ((((dt_set T 0 a4 x1) 0) a5) + (1 : Int32))))) C hk_18 (by decide) rfl (fun a6 => (dt_wA _ _ _ _ _ _)) dX10_hand_51 h (fun a6 h => ?_)
      refine dz_aload_n (pc := 52) C dX10_hand_52 rfl 0 rfl ?_
      refine dz_getR (pc := 53) (k := 18) (j := 0) C Fc_X10 hk_18 (by decide) (by decide) rfl fl_X10_7 dX10_hand_53 ?_
      refine dz_bipush (pc := 56) (v := (8 : Int32)) C dX10_hand_56 (by decide) ?_
      refine dz_iald (pc := 58) (k := 18) (j := 0) (n := 1225) (f := ((dt_set (dt_set T 0 a4 x1) 0 a6 ((((dt_set T 0 a4 x1) 0) a5) + (1 : Int32))) 0)) C hk_18 (by decide) rfl (dt_rAf _ _ _ _) dX10_hand_58 h (fun a7 h => ?_)
      refine dz_iconst (pc := 59) (v := (1 : Int32)) C dX10_hand_59 (by decide) ?_
      refine dz_isub (pc := 60) C dX10_hand_60 ?_
      cases dt_some h
      exact dz_iret (pc := 61) C hr dX10_hand_61
    · refine dz_iconst (pc := 22) (v := (-1 : Int32)) C dX10_hand_22 (by decide) ?_
      cases dt_some h
      exact dz_iret (pc := 23) C hr dX10_hand_23

def fX10_isHand  (x1 : Int32) (T : dt_Ob) : Option (Int32) := ((dt_ix (8 : Int32) 1225).bind fun a1 => ((fX10_isIn x1 (0 : Int32) (((T 0) a1) - (1 : Int32))).bind fun q2 => (if q2 = 0 ∨ q2 = 1 then (some q2) else none)))
set_option maxRecDepth 10000 in
set_option maxHeartbeats 4000000 in
theorem m_X10_isHand (l : Launch)  (M : dt_M) (T : dt_Ob)  (x1 : Int32) {res : Int32} (h : fX10_isHand x1 T = some res) : dt_Met 1 l yX10_isHand cX10_isHand 2 (some .boolean) 2 (fun G => [.ref (G.1 18 0), .int x1]) (dt_put M 18 T) (some (.int res)) (dt_put M 18 T) := by
  refine dz_enter (lv := fun G => [(0, .ref (G.1 18 0)), (1, .int x1)]) (by decide) (fun _ => rfl) (fun _ => Nat.le_of_ble_eq_true rfl) (fun G A p e s m args below meth c C hr => ?_)
  unfold fX10_isHand at h
  refine dz_iload_n (pc := 0) C dX10_isHand_0 rfl 1 rfl ?_
  refine dz_iconst (pc := 1) (v := (0 : Int32)) C dX10_isHand_1 (by decide) ?_
  refine dz_aload_n (pc := 2) C dX10_isHand_2 rfl 0 rfl ?_
  refine dz_getR (pc := 3) (k := 18) (j := 0) C Fc_X10 hk_18 (by decide) (by decide) rfl fl_X10_7 dX10_isHand_3 ?_
  refine dz_bipush (pc := 6) (v := (8 : Int32)) C dX10_isHand_6 (by decide) ?_
  refine dz_iald (pc := 8) (k := 18) (j := 0) (n := 1225) (f := (T 0)) C hk_18 (by decide) rfl (dt_rAf _ _ _ _) dX10_isHand_8 h (fun a1 h => ?_)
  refine dz_iconst (pc := 9) (v := (1 : Int32)) C dX10_isHand_9 (by decide) ?_
  refine dz_isub (pc := 10) C dX10_isHand_10 ?_
  obtain ⟨q2, eq2, h⟩ := dt_bind h
  refine dz_callSi (pc := 11) (st := []) (As := [.int x1, .int (0 : Int32), .int (((T 0) a1) - (1 : Int32))]) (M' := (dt_put M 18 T)) C ms_X10_isIn ml_X10_76 (m_X10_isIn l _ _ _ _ eq2) rfl rfl (by omega) (by decide) (Nat.le_of_ble_eq_true rfl) dX10_isHand_11 ?_
  obtain ⟨hz3, h⟩ := dt_ifn h
  cases dt_some h
  exact dz_zret (pc := 14) C hr hz3 dX10_isHand_14

def fX10_quarrel_70  (s1 : Int32) (s2 : Int32) (T : dt_Ob) : Option (Int32 × dt_Ob) := ((dt_ix s1 1225).bind fun a4 => (some ((1 : Int32), (dt_set T 0 a4 s2))))
set_option maxRecDepth 10000 in
set_option maxHeartbeats 4000000 in
theorem tX10_quarrel_70 {G : dt_G} {A : Nat → Prop} {p : Program} {l : Launch} {e : Env} {s : State} {m : MethodId} {args : Array Value} {below : List Frame} {meth : Method} {c : Code} (C : dt_Cx 1 G A p s m args meth c cX10_quarrel 4 RX10) (hr : meth.sig.returnType = (some .boolean)) {M : dt_M} {res : Int32 × dt_Ob}  : ∀ (s1 : Int32) (s2 : Int32) (T : dt_Ob), fX10_quarrel_70 s1 s2 T = some res → dt_At G A p l e (dt_rm 3) s m args below meth c 4 (MQ below (dt_Post G A (some (.int res.1)) (dt_put M 18 res.2)) args s 0 0 A) 70 [] [.int s2, .int s1, .ref (G.1 18 (0 + 1))] (dt_put M 18 T) := by
  intro s1 s2 T h
  unfold fX10_quarrel_70 at h
  refine dz_iast (pc := 70) (k := 18) (j := 0) (n := 1225) (M' := fun a4 => (dt_put M 18 (dt_set T 0 a4 s2))) C hk_18 (by decide) rfl (fun a4 => (dt_wA _ _ _ _ _ _)) dX10_quarrel_70 h (fun a4 h => ?_)
  refine dz_iconst (pc := 71) (v := (1 : Int32)) C dX10_quarrel_71 (by decide) ?_
  cases dt_some h
  exact dz_zret (pc := 72) C hr (Or.inr rfl) dX10_quarrel_72
def fX10_quarrel_46  (x1 : Int32) (x2 : Int32) (x3 : Int32) (s1 : Int32) (s2 : Int32) (T : dt_Ob) : Option (Int32 × dt_Ob) := ((dt_ix s1 1225).bind fun a3 => (if x3 = 0 then (fX10_quarrel_70 (((190 : Int32) + ((8 : Int32) * x2)) + x1) (0 : Int32) (dt_set T 0 a3 s2)) else (fX10_quarrel_70 (((190 : Int32) + ((8 : Int32) * x2)) + x1) (1 : Int32) (dt_set T 0 a3 s2))))
set_option maxRecDepth 10000 in
set_option maxHeartbeats 4000000 in
theorem tX10_quarrel_46 {G : dt_G} {A : Nat → Prop} {p : Program} {l : Launch} {e : Env} {s : State} {m : MethodId} {args : Array Value} {below : List Frame} {meth : Method} {c : Code} (C : dt_Cx 1 G A p s m args meth c cX10_quarrel 4 RX10) (hr : meth.sig.returnType = (some .boolean)) {M : dt_M} {res : Int32 × dt_Ob}  : ∀ (x1 : Int32) (x2 : Int32) (x3 : Int32) (s1 : Int32) (s2 : Int32) (T : dt_Ob), fX10_quarrel_46 x1 x2 x3 s1 s2 T = some res → dt_At G A p l e (dt_rm 3) s m args below meth c 4 (MQ below (dt_Post G A (some (.int res.1)) (dt_put M 18 res.2)) args s 0 0 A) 46 [(0, .ref (G.1 18 0)), (1, .int x1), (2, .int x2), (3, .int x3)] [.int s2, .int s1, .ref (G.1 18 (0 + 1))] (dt_put M 18 T) := by
  intro x1 x2 x3 s1 s2 T h
  unfold fX10_quarrel_46 at h
  refine dz_iast (pc := 46) (k := 18) (j := 0) (n := 1225) (M' := fun a3 => (dt_put M 18 (dt_set T 0 a3 s2))) C hk_18 (by decide) rfl (fun a3 => (dt_wA _ _ _ _ _ _)) dX10_quarrel_46 h (fun a3 h => ?_)
  refine dz_aload_n (pc := 47) C dX10_quarrel_47 rfl 0 rfl ?_
  refine dz_getR (pc := 48) (k := 18) (j := 0) C Fc_X10 hk_18 (by decide) (by decide) rfl fl_X10_7 dX10_quarrel_48 ?_
  refine dz_sipush (pc := 51) (v := (190 : Int32)) C dX10_quarrel_51 (by decide) ?_
  refine dz_bipush (pc := 54) (v := (8 : Int32)) C dX10_quarrel_54 (by decide) ?_
  refine dz_iload_n (pc := 56) C dX10_quarrel_56 rfl 2 rfl ?_
  refine dz_imul (pc := 57) C dX10_quarrel_57 ?_
  refine dz_iadd (pc := 58) C dX10_quarrel_58 ?_
  refine dz_iload_n (pc := 59) C dX10_quarrel_59 rfl 1 rfl ?_
  refine dz_iadd (pc := 60) C dX10_quarrel_60 ?_
  refine dz_iload_n (pc := 61) C dX10_quarrel_61 rfl 3 rfl ?_
  refine dz_if_eq (pc := 62) (t := 69) C dX10_quarrel_62 (by decide) h (fun h => ?_) (fun h => ?_)
  · refine dz_iconst (pc := 69) (v := (0 : Int32)) C dX10_quarrel_69 (by decide) ?_
    refine dz_sub [] rfl ?_
    exact tX10_quarrel_70 C hr  (((190 : Int32) + ((8 : Int32) * x2)) + x1) (0 : Int32) (dt_set T 0 a3 s2) h
  · refine dz_iconst (pc := 65) (v := (1 : Int32)) C dX10_quarrel_65 (by decide) ?_
    refine dz_goto (pc := 66) (t := 70) C dX10_quarrel_66 (by decide) ?_
    refine dz_sub [] rfl ?_
    exact tX10_quarrel_70 C hr  (((190 : Int32) + ((8 : Int32) * x2)) + x1) (1 : Int32) (dt_set T 0 a3 s2) h
def fX10_quarrel  (x1 : Int32) (x2 : Int32) (x3 : Int32) (T : dt_Ob) : Option (Int32 × dt_Ob) := ((fX10_isHand x1 T).bind fun q1 => (if q1 = 0 then (some ((0 : Int32), T)) else ((fX10_isHand x2 T).bind fun q2 => (if q2 = 0 then (some ((0 : Int32), T)) else (if x1 = x2 then (some ((0 : Int32), T)) else (if x3 = 0 then (fX10_quarrel_46 x1 x2 x3 (((190 : Int32) + ((8 : Int32) * x1)) + x2) (0 : Int32) T) else (fX10_quarrel_46 x1 x2 x3 (((190 : Int32) + ((8 : Int32) * x1)) + x2) (1 : Int32) T)))))))
set_option maxRecDepth 10000 in
set_option maxHeartbeats 4000000 in
theorem m_X10_quarrel (l : Launch)  (M : dt_M) (T : dt_Ob)  (x1 : Int32) (x2 : Int32) (x3 : Int32) {res : Int32 × dt_Ob} (h : fX10_quarrel x1 x2 x3 T = some res) : dt_Met 1 l yX10_quarrel cX10_quarrel 4 (some .boolean) 3 (fun G => [.ref (G.1 18 0), .int x1, .int x2, .int x3]) (dt_put M 18 T) (some (.int res.1)) (dt_put M 18 res.2) := by
  refine dz_enter (lv := fun G => [(0, .ref (G.1 18 0)), (1, .int x1), (2, .int x2), (3, .int x3)]) (by decide) (fun _ => rfl) (fun _ => Nat.le_of_ble_eq_true rfl) (fun G A p e s m args below meth c C hr => ?_)
  unfold fX10_quarrel at h
  refine dz_aload_n (pc := 0) C dX10_quarrel_0 rfl 0 rfl ?_
  refine dz_iload_n (pc := 1) C dX10_quarrel_1 rfl 1 rfl ?_
  obtain ⟨q1, eq1, h⟩ := dt_bind h
  refine dz_callVi (pc := 2) (st := []) (k := 18) (As := [.int x1]) (M' := (dt_put M 18 T)) C Fc_X10 hk_18 mf_X10_isHand rfl ml_X10_155 (m_X10_isHand l _ _ _ eq1) rfl rfl (by omega) (by decide) (Nat.le_of_ble_eq_true rfl) dX10_quarrel_2 ?_
  refine dz_if_eq (pc := 5) (t := 21) C dX10_quarrel_5 (by decide) h (fun h => ?_) (fun h => ?_)
  · refine dz_iconst (pc := 21) (v := (0 : Int32)) C dX10_quarrel_21 (by decide) ?_
    cases dt_some h
    exact dz_zret (pc := 22) C hr (Or.inl rfl) dX10_quarrel_22
  · refine dz_aload_n (pc := 8) C dX10_quarrel_8 rfl 0 rfl ?_
    refine dz_iload_n (pc := 9) C dX10_quarrel_9 rfl 2 rfl ?_
    obtain ⟨q2, eq2, h⟩ := dt_bind h
    refine dz_callVi (pc := 10) (st := []) (k := 18) (As := [.int x2]) (M' := (dt_put M 18 T)) C Fc_X10 hk_18 mf_X10_isHand rfl ml_X10_155 (m_X10_isHand l _ _ _ eq2) rfl rfl (by omega) (by decide) (Nat.le_of_ble_eq_true rfl) dX10_quarrel_10 ?_
    refine dz_if_eq (pc := 13) (t := 21) C dX10_quarrel_13 (by decide) h (fun h => ?_) (fun h => ?_)
    · refine dz_iconst (pc := 21) (v := (0 : Int32)) C dX10_quarrel_21 (by decide) ?_
      cases dt_some h
      exact dz_zret (pc := 22) C hr (Or.inl rfl) dX10_quarrel_22
    · refine dz_iload_n (pc := 16) C dX10_quarrel_16 rfl 1 rfl ?_
      refine dz_iload_n (pc := 17) C dX10_quarrel_17 rfl 2 rfl ?_
      refine dz_icmp_ne (pc := 18) (t := 23) C dX10_quarrel_18 (by decide) h (fun h => ?_) (fun h => ?_)
      · refine dz_aload_n (pc := 23) C dX10_quarrel_23 rfl 0 rfl ?_
        refine dz_getR (pc := 24) (k := 18) (j := 0) C Fc_X10 hk_18 (by decide) (by decide) rfl fl_X10_7 dX10_quarrel_24 ?_
        refine dz_sipush (pc := 27) (v := (190 : Int32)) C dX10_quarrel_27 (by decide) ?_
        refine dz_bipush (pc := 30) (v := (8 : Int32)) C dX10_quarrel_30 (by decide) ?_
        refine dz_iload_n (pc := 32) C dX10_quarrel_32 rfl 1 rfl ?_
        refine dz_imul (pc := 33) C dX10_quarrel_33 ?_
        refine dz_iadd (pc := 34) C dX10_quarrel_34 ?_
        refine dz_iload_n (pc := 35) C dX10_quarrel_35 rfl 2 rfl ?_
        refine dz_iadd (pc := 36) C dX10_quarrel_36 ?_
        refine dz_iload_n (pc := 37) C dX10_quarrel_37 rfl 3 rfl ?_
        refine dz_if_eq (pc := 38) (t := 45) C dX10_quarrel_38 (by decide) h (fun h => ?_) (fun h => ?_)
        · refine dz_iconst (pc := 45) (v := (0 : Int32)) C dX10_quarrel_45 (by decide) ?_
          exact tX10_quarrel_46 C hr  x1 x2 x3 (((190 : Int32) + ((8 : Int32) * x1)) + x2) (0 : Int32) T h
        · refine dz_iconst (pc := 41) (v := (1 : Int32)) C dX10_quarrel_41 (by decide) ?_
          refine dz_goto (pc := 42) (t := 46) C dX10_quarrel_42 (by decide) ?_
          exact tX10_quarrel_46 C hr  x1 x2 x3 (((190 : Int32) + ((8 : Int32) * x1)) + x2) (1 : Int32) T h
      · refine dz_iconst (pc := 21) (v := (0 : Int32)) C dX10_quarrel_21 (by decide) ?_
        cases dt_some h
        exact dz_zret (pc := 22) C hr (Or.inl rfl) dX10_quarrel_22

def fX10_count_4  : Nat → Int32 → Int32 → Int32 → Option (Int32)
  | 0, _, _, _ => none
  | n + 1, x0, x1, x2 => (if (20 : Int32) ≤ x2 then (some x1) else ((fX10_count_4 n) x0 (x1 + ((x0 >>> (x2 &&& 31)) &&& (1 : Int32))) (x2 + (1 : Int32))))
set_option maxRecDepth 10000 in
set_option maxHeartbeats 4000000 in
theorem tX10_count_4 {G : dt_G} {A : Nat → Prop} {p : Program} {l : Launch} {e : Env} {s : State} {m : MethodId} {args : Array Value} {below : List Frame} {meth : Method} {c : Code} (C : dt_Cx 1 G A p s m args meth c cX10_count 3 RX10) (hr : meth.sig.returnType = (some .int)) {M : dt_M} {res : Int32}  : ∀ (n : Nat) (x0 : Int32) (x1 : Int32) (x2 : Int32), fX10_count_4 n x0 x1 x2 = some res → dt_At G A p l e (dt_rm 1) s m args below meth c 3 (MQ below (dt_Post G A (some (.int res)) M) args s 0 0 A) 4 [(0, .int x0), (1, .int x1), (2, .int x2)] [] M := by
  intro n
  induction n with
  | zero =>
    intro x0 x1 x2 h
    unfold fX10_count_4 at h
    cases h
  | succ n ih =>
    intro x0 x1 x2 h
    unfold fX10_count_4 at h
    refine dz_iload_n (pc := 4) C dX10_count_4 rfl 2 rfl ?_
    refine dz_bipush (pc := 5) (v := (20 : Int32)) C dX10_count_5 (by decide) ?_
    refine dz_icmp_ge (pc := 7) (t := 24) C dX10_count_7 (by decide) h (fun h => ?_) (fun h => ?_)
    · refine dz_iload_n (pc := 24) C dX10_count_24 rfl 1 rfl ?_
      cases dt_some h
      exact dz_iret (pc := 25) C hr dX10_count_25
    · refine dz_iload_n (pc := 10) C dX10_count_10 rfl 1 rfl ?_
      refine dz_iload_n (pc := 11) C dX10_count_11 rfl 0 rfl ?_
      refine dz_iload_n (pc := 12) C dX10_count_12 rfl 2 rfl ?_
      refine dz_ishr (pc := 13) C dX10_count_13 ?_
      refine dz_iconst (pc := 14) (v := (1 : Int32)) C dX10_count_14 (by decide) ?_
      refine dz_iand (pc := 15) C dX10_count_15 ?_
      refine dz_iadd (pc := 16) C dX10_count_16 ?_
      refine dz_istore_n (pc := 17) C dX10_count_17 rfl (by decide) rfl ?_
      refine dz_iinc (pc := 18) (v := (x2 + (1 : Int32))) C dX10_count_18 2 rfl rfl (by decide) rfl ?_
      refine dz_goto (pc := 21) (t := 4) C dX10_count_21 (by decide) ?_
      refine dz_sub [2, 1, 0] rfl ?_
      exact ih x0 (x1 + ((x0 >>> (x2 &&& 31)) &&& (1 : Int32))) (x2 + (1 : Int32)) h
def fX10_count  (x0 : Int32) : Option (Int32) := (fX10_count_4 dt_F x0 (0 : Int32) (0 : Int32))
set_option maxRecDepth 10000 in
set_option maxHeartbeats 4000000 in
theorem m_X10_count (l : Launch)  (M : dt_M)   (x0 : Int32) {res : Int32} (h : fX10_count x0 = some res) : dt_Met 1 l yX10_count cX10_count 3 (some .int) 1 (fun G => [.int x0]) M (some (.int res)) M := by
  refine dz_enter (lv := fun G => [(0, .int x0)]) (by decide) (fun _ => rfl) (fun _ => Nat.le_of_ble_eq_true rfl) (fun G A p e s m args below meth c C hr => ?_)
  unfold fX10_count at h
  refine dz_iconst (pc := 0) (v := (0 : Int32)) C dX10_count_0 (by decide) ?_
  refine dz_istore_n (pc := 1) C dX10_count_1 rfl (by decide) rfl ?_
  refine dz_iconst (pc := 2) (v := (0 : Int32)) C dX10_count_2 (by decide) ?_
  refine dz_istore_n (pc := 3) C dX10_count_3 rfl (by decide) rfl ?_
  refine dz_sub [2, 1, 0] rfl ?_
  exact tX10_count_4 C hr dt_F x0 (0 : Int32) (0 : Int32) h

def fX10_canCarry_92 (r5 : Int32 → Int32 → Int32 → Int32 → dt_Ob → Option (Int32)) (x1 : Int32) (x2 : Int32) (x3 : Int32) (x4 : Int32) (T : dt_Ob) : Option (Int32) := (r5 x1 x2 x3 (x4 + (1 : Int32)) T)
set_option maxRecDepth 10000 in
set_option maxHeartbeats 4000000 in
theorem tX10_canCarry_92 {G : dt_G} {A : Nat → Prop} {p : Program} {l : Launch} {e : Env} {s : State} {m : MethodId} {args : Array Value} {below : List Frame} {meth : Method} {c : Code} (C : dt_Cx 1 G A p s m args meth c cX10_canCarry 6 RX10) (hr : meth.sig.returnType = (some .boolean)) {M : dt_M} {res : Int32} {r5 : Int32 → Int32 → Int32 → Int32 → dt_Ob → Option (Int32)} (hr5 : ∀ (x1 : Int32) (x2 : Int32) (x3 : Int32) (x4 : Int32) (T : dt_Ob), r5 x1 x2 x3 x4 T = some res → dt_At G A p l e (dt_rm 1) s m args below meth c 6 (MQ below (dt_Post G A (some (.int res)) (dt_put M 18 T)) args s 0 0 A) 5 [(0, .ref (G.1 18 0)), (1, .int x1), (2, .int x2), (3, .int x3), (4, .int x4)] [] (dt_put M 18 T)) : ∀ (x1 : Int32) (x2 : Int32) (x3 : Int32) (x4 : Int32) (T : dt_Ob), fX10_canCarry_92 r5 x1 x2 x3 x4 T = some res → dt_At G A p l e (dt_rm 1) s m args below meth c 6 (MQ below (dt_Post G A (some (.int res)) (dt_put M 18 T)) args s 0 0 A) 92 [(0, .ref (G.1 18 0)), (1, .int x1), (2, .int x2), (3, .int x3), (4, .int x4)] [] (dt_put M 18 T) := by
  intro x1 x2 x3 x4 T h
  unfold fX10_canCarry_92 at h
  refine dz_iinc (pc := 92) (v := (x4 + (1 : Int32))) C dX10_canCarry_92 4 rfl rfl (by decide) rfl ?_
  refine dz_goto (pc := 95) (t := 5) C dX10_canCarry_95 (by decide) ?_
  refine dz_sub [1, 2, 3, 4, 0] rfl ?_
  exact hr5 x1 x2 x3 (x4 + (1 : Int32)) T h
def fX10_canCarry_86 (r5 : Int32 → Int32 → Int32 → Int32 → dt_Ob → Option (Int32)) (r46 : Int32 → Int32 → Int32 → Int32 → Int32 → dt_Ob → Option (Int32)) (x1 : Int32) (x2 : Int32) (x3 : Int32) (x4 : Int32) (x5 : Int32) (T : dt_Ob) : Option (Int32) := (r46 x1 x2 x3 x4 (x5 + (1 : Int32)) T)
set_option maxRecDepth 10000 in
set_option maxHeartbeats 4000000 in
theorem tX10_canCarry_86 {G : dt_G} {A : Nat → Prop} {p : Program} {l : Launch} {e : Env} {s : State} {m : MethodId} {args : Array Value} {below : List Frame} {meth : Method} {c : Code} (C : dt_Cx 1 G A p s m args meth c cX10_canCarry 6 RX10) (hr : meth.sig.returnType = (some .boolean)) {M : dt_M} {res : Int32} {r5 : Int32 → Int32 → Int32 → Int32 → dt_Ob → Option (Int32)} (hr5 : ∀ (x1 : Int32) (x2 : Int32) (x3 : Int32) (x4 : Int32) (T : dt_Ob), r5 x1 x2 x3 x4 T = some res → dt_At G A p l e (dt_rm 1) s m args below meth c 6 (MQ below (dt_Post G A (some (.int res)) (dt_put M 18 T)) args s 0 0 A) 5 [(0, .ref (G.1 18 0)), (1, .int x1), (2, .int x2), (3, .int x3), (4, .int x4)] [] (dt_put M 18 T)) {r46 : Int32 → Int32 → Int32 → Int32 → Int32 → dt_Ob → Option (Int32)} (hr46 : ∀ (x1 : Int32) (x2 : Int32) (x3 : Int32) (x4 : Int32) (x5 : Int32) (T : dt_Ob), r46 x1 x2 x3 x4 x5 T = some res → dt_At G A p l e (dt_rm 1) s m args below meth c 6 (MQ below (dt_Post G A (some (.int res)) (dt_put M 18 T)) args s 0 0 A) 46 [(0, .ref (G.1 18 0)), (1, .int x1), (2, .int x2), (3, .int x3), (4, .int x4), (5, .int x5)] [] (dt_put M 18 T)) : ∀ (x1 : Int32) (x2 : Int32) (x3 : Int32) (x4 : Int32) (x5 : Int32) (T : dt_Ob), fX10_canCarry_86 r5 r46 x1 x2 x3 x4 x5 T = some res → dt_At G A p l e (dt_rm 1) s m args below meth c 6 (MQ below (dt_Post G A (some (.int res)) (dt_put M 18 T)) args s 0 0 A) 86 [(0, .ref (G.1 18 0)), (1, .int x1), (2, .int x2), (3, .int x3), (4, .int x4), (5, .int x5)] [] (dt_put M 18 T) := by
  intro x1 x2 x3 x4 x5 T h
  unfold fX10_canCarry_86 at h
  refine dz_iinc (pc := 86) (v := (x5 + (1 : Int32))) C dX10_canCarry_86 5 rfl rfl (by decide) rfl ?_
  refine dz_goto (pc := 89) (t := 46) C dX10_canCarry_89 (by decide) ?_
  refine dz_sub [1, 2, 3, 4, 5, 0] rfl ?_
  exact hr46 x1 x2 x3 x4 (x5 + (1 : Int32)) T h
def fX10_canCarry_46 (r5 : Int32 → Int32 → Int32 → Int32 → dt_Ob → Option (Int32)) : Nat → Int32 → Int32 → Int32 → Int32 → Int32 → dt_Ob → Option (Int32)
  | 0, _, _, _, _, _, _ => none
  | n + 1, x1, x2, x3, x4, x5, T => (if x4 ≤ x5 then (fX10_canCarry_92 r5 x1 x2 x3 x4 T) else (if ((x1 >>> (x5 &&& 31)) &&& (1 : Int32)) = (1 : Int32) then ((dt_ix (((190 : Int32) + ((8 : Int32) * x4)) + x5) 1225).bind fun a3 => (if ((T 0) a3) = (1 : Int32) then (some (0 : Int32)) else (fX10_canCarry_86 r5 (fX10_canCarry_46 r5 n) x1 x2 x3 x4 x5 T))) else (fX10_canCarry_86 r5 (fX10_canCarry_46 r5 n) x1 x2 x3 x4 x5 T)))
set_option maxRecDepth 10000 in
set_option maxHeartbeats 4000000 in
theorem tX10_canCarry_46 {G : dt_G} {A : Nat → Prop} {p : Program} {l : Launch} {e : Env} {s : State} {m : MethodId} {args : Array Value} {below : List Frame} {meth : Method} {c : Code} (C : dt_Cx 1 G A p s m args meth c cX10_canCarry 6 RX10) (hr : meth.sig.returnType = (some .boolean)) {M : dt_M} {res : Int32} {r5 : Int32 → Int32 → Int32 → Int32 → dt_Ob → Option (Int32)} (hr5 : ∀ (x1 : Int32) (x2 : Int32) (x3 : Int32) (x4 : Int32) (T : dt_Ob), r5 x1 x2 x3 x4 T = some res → dt_At G A p l e (dt_rm 1) s m args below meth c 6 (MQ below (dt_Post G A (some (.int res)) (dt_put M 18 T)) args s 0 0 A) 5 [(0, .ref (G.1 18 0)), (1, .int x1), (2, .int x2), (3, .int x3), (4, .int x4)] [] (dt_put M 18 T)) : ∀ (n : Nat) (x1 : Int32) (x2 : Int32) (x3 : Int32) (x4 : Int32) (x5 : Int32) (T : dt_Ob), fX10_canCarry_46 r5 n x1 x2 x3 x4 x5 T = some res → dt_At G A p l e (dt_rm 1) s m args below meth c 6 (MQ below (dt_Post G A (some (.int res)) (dt_put M 18 T)) args s 0 0 A) 46 [(0, .ref (G.1 18 0)), (1, .int x1), (2, .int x2), (3, .int x3), (4, .int x4), (5, .int x5)] [] (dt_put M 18 T) := by
  intro n
  induction n with
  | zero =>
    intro x1 x2 x3 x4 x5 T h
    unfold fX10_canCarry_46 at h
    cases h
  | succ n ih =>
    intro x1 x2 x3 x4 x5 T h
    unfold fX10_canCarry_46 at h
    refine dz_iload (pc := 46) C dX10_canCarry_46 5 rfl ?_
    refine dz_iload (pc := 48) C dX10_canCarry_48 4 rfl ?_
    refine dz_icmp_ge (pc := 50) (t := 92) C dX10_canCarry_50 (by decide) h (fun h => ?_) (fun h => ?_)
    · refine dz_sub [0, 1, 2, 3, 4] rfl ?_
      exact tX10_canCarry_92 C hr hr5 x1 x2 x3 x4 T h
    · refine dz_iload_n (pc := 53) C dX10_canCarry_53 rfl 1 rfl ?_
      refine dz_iload (pc := 54) C dX10_canCarry_54 5 rfl ?_
      refine dz_ishr (pc := 56) C dX10_canCarry_56 ?_
      refine dz_iconst (pc := 57) (v := (1 : Int32)) C dX10_canCarry_57 (by decide) ?_
      refine dz_iand (pc := 58) C dX10_canCarry_58 ?_
      refine dz_iconst (pc := 59) (v := (1 : Int32)) C dX10_canCarry_59 (by decide) ?_
      refine dz_icmp_ne (pc := 60) (t := 86) C dX10_canCarry_60 (by decide) h (fun h => ?_) (fun h => ?_)
      · exact tX10_canCarry_86 C hr hr5 ih x1 x2 x3 x4 x5 T h
      · refine dz_aload_n (pc := 63) C dX10_canCarry_63 rfl 0 rfl ?_
        refine dz_getR (pc := 64) (k := 18) (j := 0) C Fc_X10 hk_18 (by decide) (by decide) rfl fl_X10_7 dX10_canCarry_64 ?_
        refine dz_sipush (pc := 67) (v := (190 : Int32)) C dX10_canCarry_67 (by decide) ?_
        refine dz_bipush (pc := 70) (v := (8 : Int32)) C dX10_canCarry_70 (by decide) ?_
        refine dz_iload (pc := 72) C dX10_canCarry_72 4 rfl ?_
        refine dz_imul (pc := 74) C dX10_canCarry_74 ?_
        refine dz_iadd (pc := 75) C dX10_canCarry_75 ?_
        refine dz_iload (pc := 76) C dX10_canCarry_76 5 rfl ?_
        refine dz_iadd (pc := 78) C dX10_canCarry_78 ?_
        refine dz_iald (pc := 79) (k := 18) (j := 0) (n := 1225) (f := (T 0)) C hk_18 (by decide) rfl (dt_rAf _ _ _ _) dX10_canCarry_79 h (fun a3 h => ?_)
        refine dz_iconst (pc := 80) (v := (1 : Int32)) C dX10_canCarry_80 (by decide) ?_
        refine dz_icmp_ne (pc := 81) (t := 86) C dX10_canCarry_81 (by decide) h (fun h => ?_) (fun h => ?_)
        · exact tX10_canCarry_86 C hr hr5 ih x1 x2 x3 x4 x5 T h
        · refine dz_iconst (pc := 84) (v := (0 : Int32)) C dX10_canCarry_84 (by decide) ?_
          cases dt_some h
          exact dz_zret (pc := 85) C hr (Or.inl rfl) dX10_canCarry_85
def fX10_canCarry_5  : Nat → Int32 → Int32 → Int32 → Int32 → dt_Ob → Option (Int32)
  | 0, _, _, _, _, _ => none
  | n + 1, x1, x2, x3, x4, T => ((dt_ix (8 : Int32) 1225).bind fun a1 => (if ((T 0) a1) ≤ x4 then (if x3 < x2 then (some (0 : Int32)) else (some (1 : Int32))) else (if ((x1 >>> (x4 &&& 31)) &&& (1 : Int32)) = 0 then (fX10_canCarry_92 (fX10_canCarry_5 n) x1 x2 x3 x4 T) else ((dt_ix ((180 : Int32) + x4) 1225).bind fun a2 => (fX10_canCarry_46 (fX10_canCarry_5 n) dt_F x1 x2 (x3 + ((T 0) a2)) x4 (0 : Int32) T)))))
set_option maxRecDepth 10000 in
set_option maxHeartbeats 4000000 in
theorem tX10_canCarry_5 {G : dt_G} {A : Nat → Prop} {p : Program} {l : Launch} {e : Env} {s : State} {m : MethodId} {args : Array Value} {below : List Frame} {meth : Method} {c : Code} (C : dt_Cx 1 G A p s m args meth c cX10_canCarry 6 RX10) (hr : meth.sig.returnType = (some .boolean)) {M : dt_M} {res : Int32}  : ∀ (n : Nat) (x1 : Int32) (x2 : Int32) (x3 : Int32) (x4 : Int32) (T : dt_Ob), fX10_canCarry_5 n x1 x2 x3 x4 T = some res → dt_At G A p l e (dt_rm 1) s m args below meth c 6 (MQ below (dt_Post G A (some (.int res)) (dt_put M 18 T)) args s 0 0 A) 5 [(0, .ref (G.1 18 0)), (1, .int x1), (2, .int x2), (3, .int x3), (4, .int x4)] [] (dt_put M 18 T) := by
  intro n
  induction n with
  | zero =>
    intro x1 x2 x3 x4 T h
    unfold fX10_canCarry_5 at h
    cases h
  | succ n ih =>
    intro x1 x2 x3 x4 T h
    unfold fX10_canCarry_5 at h
    refine dz_iload (pc := 5) C dX10_canCarry_5 4 rfl ?_
    refine dz_aload_n (pc := 7) C dX10_canCarry_7 rfl 0 rfl ?_
    refine dz_getR (pc := 8) (k := 18) (j := 0) C Fc_X10 hk_18 (by decide) (by decide) rfl fl_X10_7 dX10_canCarry_8 ?_
    refine dz_bipush (pc := 11) (v := (8 : Int32)) C dX10_canCarry_11 (by decide) ?_
    refine dz_iald (pc := 13) (k := 18) (j := 0) (n := 1225) (f := (T 0)) C hk_18 (by decide) rfl (dt_rAf _ _ _ _) dX10_canCarry_13 h (fun a1 h => ?_)
    refine dz_icmp_ge (pc := 14) (t := 98) C dX10_canCarry_14 (by decide) h (fun h => ?_) (fun h => ?_)
    · refine dz_iload_n (pc := 98) C dX10_canCarry_98 rfl 3 rfl ?_
      refine dz_iload_n (pc := 99) C dX10_canCarry_99 rfl 2 rfl ?_
      refine dz_icmp_lt (pc := 100) (t := 107) C dX10_canCarry_100 (by decide) h (fun h => ?_) (fun h => ?_)
      · refine dz_iconst (pc := 107) (v := (0 : Int32)) C dX10_canCarry_107 (by decide) ?_
        cases dt_some h
        exact dz_zret (pc := 108) C hr (Or.inl rfl) dX10_canCarry_108
      · refine dz_iconst (pc := 103) (v := (1 : Int32)) C dX10_canCarry_103 (by decide) ?_
        refine dz_goto (pc := 104) (t := 108) C dX10_canCarry_104 (by decide) ?_
        cases dt_some h
        exact dz_zret (pc := 108) C hr (Or.inr rfl) dX10_canCarry_108
    · refine dz_iload_n (pc := 17) C dX10_canCarry_17 rfl 1 rfl ?_
      refine dz_iload (pc := 18) C dX10_canCarry_18 4 rfl ?_
      refine dz_ishr (pc := 20) C dX10_canCarry_20 ?_
      refine dz_iconst (pc := 21) (v := (1 : Int32)) C dX10_canCarry_21 (by decide) ?_
      refine dz_iand (pc := 22) C dX10_canCarry_22 ?_
      refine dz_if_ne (pc := 23) (t := 29) C dX10_canCarry_23 (by decide) h (fun h => ?_) (fun h => ?_)
      · refine dz_iload_n (pc := 29) C dX10_canCarry_29 rfl 3 rfl ?_
        refine dz_aload_n (pc := 30) C dX10_canCarry_30 rfl 0 rfl ?_
        refine dz_getR (pc := 31) (k := 18) (j := 0) C Fc_X10 hk_18 (by decide) (by decide) rfl fl_X10_7 dX10_canCarry_31 ?_
        refine dz_sipush (pc := 34) (v := (180 : Int32)) C dX10_canCarry_34 (by decide) ?_
        refine dz_iload (pc := 37) C dX10_canCarry_37 4 rfl ?_
        refine dz_iadd (pc := 39) C dX10_canCarry_39 ?_
        refine dz_iald (pc := 40) (k := 18) (j := 0) (n := 1225) (f := (T 0)) C hk_18 (by decide) rfl (dt_rAf _ _ _ _) dX10_canCarry_40 h (fun a2 h => ?_)
        refine dz_iadd (pc := 41) C dX10_canCarry_41 ?_
        refine dz_istore_n (pc := 42) C dX10_canCarry_42 rfl (by decide) rfl ?_
        refine dz_iconst (pc := 43) (v := (0 : Int32)) C dX10_canCarry_43 (by decide) ?_
        refine dz_istore (pc := 44) C dX10_canCarry_44 (by decide) rfl ?_
        refine dz_sub [2, 3, 4, 1, 5, 0] rfl ?_
        exact tX10_canCarry_46 C hr ih dt_F x1 x2 (x3 + ((T 0) a2)) x4 (0 : Int32) T h
      · refine dz_goto (pc := 26) (t := 92) C dX10_canCarry_26 (by decide) ?_
        exact tX10_canCarry_92 C hr ih x1 x2 x3 x4 T h
def fX10_canCarry  (x1 : Int32) (x2 : Int32) (T : dt_Ob) : Option (Int32) := (fX10_canCarry_5 dt_F x1 x2 (0 : Int32) (0 : Int32) T)
set_option maxRecDepth 10000 in
set_option maxHeartbeats 4000000 in
theorem m_X10_canCarry (l : Launch)  (M : dt_M) (T : dt_Ob)  (x1 : Int32) (x2 : Int32) {res : Int32} (h : fX10_canCarry x1 x2 T = some res) : dt_Met 1 l yX10_canCarry cX10_canCarry 6 (some .boolean) 1 (fun G => [.ref (G.1 18 0), .int x1, .int x2]) (dt_put M 18 T) (some (.int res)) (dt_put M 18 T) := by
  refine dz_enter (lv := fun G => [(0, .ref (G.1 18 0)), (1, .int x1), (2, .int x2)]) (by decide) (fun _ => rfl) (fun _ => Nat.le_of_ble_eq_true rfl) (fun G A p e s m args below meth c C hr => ?_)
  unfold fX10_canCarry at h
  refine dz_iconst (pc := 0) (v := (0 : Int32)) C dX10_canCarry_0 (by decide) ?_
  refine dz_istore_n (pc := 1) C dX10_canCarry_1 rfl (by decide) rfl ?_
  refine dz_iconst (pc := 2) (v := (0 : Int32)) C dX10_canCarry_2 (by decide) ?_
  refine dz_istore (pc := 3) C dX10_canCarry_3 (by decide) rfl ?_
  refine dz_sub [2, 3, 4, 1, 0] rfl ?_
  exact tX10_canCarry_5 C hr dt_F x1 x2 (0 : Int32) (0 : Int32) T h

def fX10_hands_44 (r4 : Int32 → Int32 → Int32 → dt_Ob → Option (Int32)) (x1 : Int32) (x2 : Int32) (x3 : Int32) (T : dt_Ob) : Option (Int32) := (r4 x1 x2 (x3 + (1 : Int32)) T)
set_option maxRecDepth 10000 in
set_option maxHeartbeats 4000000 in
theorem tX10_hands_44 {G : dt_G} {A : Nat → Prop} {p : Program} {l : Launch} {e : Env} {s : State} {m : MethodId} {args : Array Value} {below : List Frame} {meth : Method} {c : Code} (C : dt_Cx 1 G A p s m args meth c cX10_hands 4 RX10) (hr : meth.sig.returnType = (some .int)) {M : dt_M} {res : Int32} {r4 : Int32 → Int32 → Int32 → dt_Ob → Option (Int32)} (hr4 : ∀ (x1 : Int32) (x2 : Int32) (x3 : Int32) (T : dt_Ob), r4 x1 x2 x3 T = some res → dt_At G A p l e (dt_rm 2) s m args below meth c 4 (MQ below (dt_Post G A (some (.int res)) (dt_put M 18 T)) args s 0 0 A) 4 [(0, .ref (G.1 18 0)), (1, .int x1), (2, .int x2), (3, .int x3)] [] (dt_put M 18 T)) : ∀ (x1 : Int32) (x2 : Int32) (x3 : Int32) (T : dt_Ob), fX10_hands_44 r4 x1 x2 x3 T = some res → dt_At G A p l e (dt_rm 2) s m args below meth c 4 (MQ below (dt_Post G A (some (.int res)) (dt_put M 18 T)) args s 0 0 A) 44 [(0, .ref (G.1 18 0)), (1, .int x1), (2, .int x2), (3, .int x3)] [] (dt_put M 18 T) := by
  intro x1 x2 x3 T h
  unfold fX10_hands_44 at h
  refine dz_iinc (pc := 44) (v := (x3 + (1 : Int32))) C dX10_hands_44 3 rfl rfl (by decide) rfl ?_
  refine dz_goto (pc := 47) (t := 4) C dX10_hands_47 (by decide) ?_
  refine dz_sub [1, 2, 3, 0] rfl ?_
  exact hr4 x1 x2 (x3 + (1 : Int32)) T h
def fX10_hands_33 (r4 : Int32 → Int32 → Int32 → dt_Ob → Option (Int32)) (x1 : Int32) (x2 : Int32) (x3 : Int32) (T : dt_Ob) : Option (Int32) := ((fX10_canCarry x3 x1 T).bind fun q4 => (if q4 = 0 then (fX10_hands_44 r4 x1 x2 x3 T) else (fX10_hands_44 r4 x1 x3 x3 T)))
set_option maxRecDepth 10000 in
set_option maxHeartbeats 4000000 in
theorem tX10_hands_33 {G : dt_G} {A : Nat → Prop} {p : Program} {l : Launch} {e : Env} {s : State} {m : MethodId} {args : Array Value} {below : List Frame} {meth : Method} {c : Code} (C : dt_Cx 1 G A p s m args meth c cX10_hands 4 RX10) (hr : meth.sig.returnType = (some .int)) {M : dt_M} {res : Int32} {r4 : Int32 → Int32 → Int32 → dt_Ob → Option (Int32)} (hr4 : ∀ (x1 : Int32) (x2 : Int32) (x3 : Int32) (T : dt_Ob), r4 x1 x2 x3 T = some res → dt_At G A p l e (dt_rm 2) s m args below meth c 4 (MQ below (dt_Post G A (some (.int res)) (dt_put M 18 T)) args s 0 0 A) 4 [(0, .ref (G.1 18 0)), (1, .int x1), (2, .int x2), (3, .int x3)] [] (dt_put M 18 T)) : ∀ (x1 : Int32) (x2 : Int32) (x3 : Int32) (T : dt_Ob), fX10_hands_33 r4 x1 x2 x3 T = some res → dt_At G A p l e (dt_rm 2) s m args below meth c 4 (MQ below (dt_Post G A (some (.int res)) (dt_put M 18 T)) args s 0 0 A) 33 [(0, .ref (G.1 18 0)), (1, .int x1), (2, .int x2), (3, .int x3)] [] (dt_put M 18 T) := by
  intro x1 x2 x3 T h
  unfold fX10_hands_33 at h
  refine dz_aload_n (pc := 33) C dX10_hands_33 rfl 0 rfl ?_
  refine dz_iload_n (pc := 34) C dX10_hands_34 rfl 3 rfl ?_
  refine dz_iload_n (pc := 35) C dX10_hands_35 rfl 1 rfl ?_
  obtain ⟨q4, eq4, h⟩ := dt_bind h
  refine dz_callVi (pc := 36) (st := []) (k := 18) (As := [.int x3, .int x1]) (M' := (dt_put M 18 T)) C Fc_X10 hk_18 mf_X10_canCarry rfl ml_X10_161 (m_X10_canCarry l _ _ _ _ eq4) rfl rfl (by omega) (by decide) (Nat.le_of_ble_eq_true rfl) dX10_hands_36 ?_
  refine dz_if_eq (pc := 39) (t := 44) C dX10_hands_39 (by decide) h (fun h => ?_) (fun h => ?_)
  · exact tX10_hands_44 C hr hr4 x1 x2 x3 T h
  · refine dz_iload_n (pc := 42) C dX10_hands_42 rfl 3 rfl ?_
    refine dz_istore_n (pc := 43) C dX10_hands_43 rfl (by decide) rfl ?_
    refine dz_sub [1, 2, 0, 3] rfl ?_
    exact tX10_hands_44 C hr hr4 x1 x3 x3 T h
def fX10_hands_4  : Nat → Int32 → Int32 → Int32 → dt_Ob → Option (Int32)
  | 0, _, _, _, _ => none
  | n + 1, x1, x2, x3, T => ((dt_ix (8 : Int32) 1225).bind fun a1 => (if ((1 : Int32) <<< (((T 0) a1) &&& 31)) ≤ x3 then (some x2) else (if x2 = (-1 : Int32) then (fX10_hands_33 (fX10_hands_4 n) x1 x2 x3 T) else ((fX10_count x3).bind fun q2 => ((fX10_count x2).bind fun q3 => (if q3 ≤ q2 then (fX10_hands_44 (fX10_hands_4 n) x1 x2 x3 T) else (fX10_hands_33 (fX10_hands_4 n) x1 x2 x3 T)))))))
set_option maxRecDepth 10000 in
set_option maxHeartbeats 4000000 in
theorem tX10_hands_4 {G : dt_G} {A : Nat → Prop} {p : Program} {l : Launch} {e : Env} {s : State} {m : MethodId} {args : Array Value} {below : List Frame} {meth : Method} {c : Code} (C : dt_Cx 1 G A p s m args meth c cX10_hands 4 RX10) (hr : meth.sig.returnType = (some .int)) {M : dt_M} {res : Int32}  : ∀ (n : Nat) (x1 : Int32) (x2 : Int32) (x3 : Int32) (T : dt_Ob), fX10_hands_4 n x1 x2 x3 T = some res → dt_At G A p l e (dt_rm 2) s m args below meth c 4 (MQ below (dt_Post G A (some (.int res)) (dt_put M 18 T)) args s 0 0 A) 4 [(0, .ref (G.1 18 0)), (1, .int x1), (2, .int x2), (3, .int x3)] [] (dt_put M 18 T) := by
  intro n
  induction n with
  | zero =>
    intro x1 x2 x3 T h
    unfold fX10_hands_4 at h
    cases h
  | succ n ih =>
    intro x1 x2 x3 T h
    unfold fX10_hands_4 at h
    refine dz_iload_n (pc := 4) C dX10_hands_4 rfl 3 rfl ?_
    refine dz_iconst (pc := 5) (v := (1 : Int32)) C dX10_hands_5 (by decide) ?_
    refine dz_aload_n (pc := 6) C dX10_hands_6 rfl 0 rfl ?_
    refine dz_getR (pc := 7) (k := 18) (j := 0) C Fc_X10 hk_18 (by decide) (by decide) rfl fl_X10_7 dX10_hands_7 ?_
    refine dz_bipush (pc := 10) (v := (8 : Int32)) C dX10_hands_10 (by decide) ?_
    refine dz_iald (pc := 12) (k := 18) (j := 0) (n := 1225) (f := (T 0)) C hk_18 (by decide) rfl (dt_rAf _ _ _ _) dX10_hands_12 h (fun a1 h => ?_)
    refine dz_ishl (pc := 13) C dX10_hands_13 ?_
    refine dz_icmp_ge (pc := 14) (t := 50) C dX10_hands_14 (by decide) h (fun h => ?_) (fun h => ?_)
    · refine dz_iload_n (pc := 50) C dX10_hands_50 rfl 2 rfl ?_
      cases dt_some h
      exact dz_iret (pc := 51) C hr dX10_hands_51
    · refine dz_iload_n (pc := 17) C dX10_hands_17 rfl 2 rfl ?_
      refine dz_iconst (pc := 18) (v := (-1 : Int32)) C dX10_hands_18 (by decide) ?_
      refine dz_icmp_eq (pc := 19) (t := 33) C dX10_hands_19 (by decide) h (fun h => ?_) (fun h => ?_)
      · exact tX10_hands_33 C hr ih x1 x2 x3 T h
      · refine dz_iload_n (pc := 22) C dX10_hands_22 rfl 3 rfl ?_
        obtain ⟨q2, eq2, h⟩ := dt_bind h
        refine dz_callSi (pc := 23) (st := []) (As := [.int x3]) (M' := (dt_put M 18 T)) C ms_X10_count ml_X10_158 (m_X10_count l _ _ eq2) rfl rfl (by omega) (by decide) (Nat.le_of_ble_eq_true rfl) dX10_hands_23 ?_
        refine dz_iload_n (pc := 26) C dX10_hands_26 rfl 2 rfl ?_
        obtain ⟨q3, eq3, h⟩ := dt_bind h
        refine dz_callSi (pc := 27) (st := [.int q2]) (As := [.int x2]) (M' := (dt_put M 18 T)) C ms_X10_count ml_X10_158 (m_X10_count l _ _ eq3) rfl rfl (by omega) (by decide) (Nat.le_of_ble_eq_true rfl) dX10_hands_27 ?_
        refine dz_icmp_ge (pc := 30) (t := 44) C dX10_hands_30 (by decide) h (fun h => ?_) (fun h => ?_)
        · exact tX10_hands_44 C hr ih x1 x2 x3 T h
        · exact tX10_hands_33 C hr ih x1 x2 x3 T h
def fX10_hands  (x1 : Int32) (T : dt_Ob) : Option (Int32) := (fX10_hands_4 dt_F x1 (-1 : Int32) (0 : Int32) T)
set_option maxRecDepth 10000 in
set_option maxHeartbeats 4000000 in
theorem m_X10_hands (l : Launch)  (M : dt_M) (T : dt_Ob)  (x1 : Int32) {res : Int32} (h : fX10_hands x1 T = some res) : dt_Met 1 l yX10_hands cX10_hands 4 (some .int) 2 (fun G => [.ref (G.1 18 0), .int x1]) (dt_put M 18 T) (some (.int res)) (dt_put M 18 T) := by
  refine dz_enter (lv := fun G => [(0, .ref (G.1 18 0)), (1, .int x1)]) (by decide) (fun _ => rfl) (fun _ => Nat.le_of_ble_eq_true rfl) (fun G A p e s m args below meth c C hr => ?_)
  unfold fX10_hands at h
  refine dz_iconst (pc := 0) (v := (-1 : Int32)) C dX10_hands_0 (by decide) ?_
  refine dz_istore_n (pc := 1) C dX10_hands_1 rfl (by decide) rfl ?_
  refine dz_iconst (pc := 2) (v := (0 : Int32)) C dX10_hands_2 (by decide) ?_
  refine dz_istore_n (pc := 3) C dX10_hands_3 rfl (by decide) rfl ?_
  refine dz_sub [2, 3, 1, 0] rfl ?_
  exact tX10_hands_4 C hr dt_F x1 (-1 : Int32) (0 : Int32) T h

def fX10_of  (x1 : Int32) (x2 : Int32) (T : dt_Ob) : Option (Int32 × dt_Ob) := ((fX10_isBlock x1 T).bind fun q1 => (if q1 = 0 then (some ((-2 : Int32), T)) else ((fX10_isIn x2 (0 : Int32) (9 : Int32)).bind fun q2 => (if q2 = 0 then (some ((-2 : Int32), T)) else (if (7 : Int32) ≤ x2 then (if x2 = (8 : Int32) then ((fX10_bears x1 T).bind fun q8 => (some (q8, T))) else (if x2 = (9 : Int32) then ((fX10_own x1 (1 : Int32) T).bind fun q6 => ((fX10_hands q6 T).bind fun q7 => (some (q7, T)))) else ((fX10_laysTower T).bind fun q3 => ((fX10_laysLoads q3).bind fun q4 => ((dt_ix x1 20).bind fun a5 => (some (((q4 9) a5), q4))))))) else ((fX10_own x1 x2 T).bind fun q9 => (some (q9, T))))))))
set_option maxRecDepth 10000 in
set_option maxHeartbeats 4000000 in
theorem m_X10_of (l : Launch)  (M : dt_M) (T : dt_Ob)  (x1 : Int32) (x2 : Int32) {res : Int32 × dt_Ob} (h : fX10_of x1 x2 T = some res) : dt_Met 1 l yX10_of cX10_of 3 (some .int) 4 (fun G => [.ref (G.1 18 0), .int x1, .int x2]) (dt_put M 18 T) (some (.int res.1)) (dt_put M 18 res.2) := by
  refine dz_enter (lv := fun G => [(0, .ref (G.1 18 0)), (1, .int x1), (2, .int x2)]) (by decide) (fun _ => rfl) (fun _ => Nat.le_of_ble_eq_true rfl) (fun G A p e s m args below meth c C hr => ?_)
  unfold fX10_of at h
  refine dz_aload_n (pc := 0) C dX10_of_0 rfl 0 rfl ?_
  refine dz_iload_n (pc := 1) C dX10_of_1 rfl 1 rfl ?_
  obtain ⟨q1, eq1, h⟩ := dt_bind h
  refine dz_callVi (pc := 2) (st := []) (k := 18) (As := [.int x1]) (M' := (dt_put M 18 T)) C Fc_X10 hk_18 mf_X10_isBlock rfl ml_X10_135 (m_X10_isBlock l _ _ _ eq1) rfl rfl (by omega) (by decide) (Nat.le_of_ble_eq_true rfl) dX10_of_2 ?_
  refine dz_if_eq (pc := 5) (t := 18) C dX10_of_5 (by decide) h (fun h => ?_) (fun h => ?_)
  · refine dz_bipush (pc := 18) (v := (-2 : Int32)) C dX10_of_18 (by decide) ?_
    cases dt_some h
    exact dz_iret (pc := 20) C hr dX10_of_20
  · refine dz_iload_n (pc := 8) C dX10_of_8 rfl 2 rfl ?_
    refine dz_iconst (pc := 9) (v := (0 : Int32)) C dX10_of_9 (by decide) ?_
    refine dz_bipush (pc := 10) (v := (9 : Int32)) C dX10_of_10 (by decide) ?_
    obtain ⟨q2, eq2, h⟩ := dt_bind h
    refine dz_callSi (pc := 12) (st := []) (As := [.int x2, .int (0 : Int32), .int (9 : Int32)]) (M' := (dt_put M 18 T)) C ms_X10_isIn ml_X10_76 (m_X10_isIn l _ _ _ _ eq2) rfl rfl (by omega) (by decide) (Nat.le_of_ble_eq_true rfl) dX10_of_12 ?_
    refine dz_if_ne (pc := 15) (t := 21) C dX10_of_15 (by decide) h (fun h => ?_) (fun h => ?_)
    · refine dz_iload_n (pc := 21) C dX10_of_21 rfl 2 rfl ?_
      refine dz_bipush (pc := 22) (v := (7 : Int32)) C dX10_of_22 (by decide) ?_
      refine dz_icmp_ge (pc := 24) (t := 34) C dX10_of_24 (by decide) h (fun h => ?_) (fun h => ?_)
      · refine dz_iload_n (pc := 34) C dX10_of_34 rfl 2 rfl ?_
        refine dz_bipush (pc := 35) (v := (8 : Int32)) C dX10_of_35 (by decide) ?_
        refine dz_icmp_ne (pc := 37) (t := 46) C dX10_of_37 (by decide) h (fun h => ?_) (fun h => ?_)
        · refine dz_iload_n (pc := 46) C dX10_of_46 rfl 2 rfl ?_
          refine dz_bipush (pc := 47) (v := (9 : Int32)) C dX10_of_47 (by decide) ?_
          refine dz_icmp_ne (pc := 49) (t := 63) C dX10_of_49 (by decide) h (fun h => ?_) (fun h => ?_)
          · refine dz_aload_n (pc := 63) C dX10_of_63 rfl 0 rfl ?_
            obtain ⟨q3, eq3, h⟩ := dt_bind h
            refine dz_callVv (pc := 64) (st := []) (k := 18) (As := []) (M' := (dt_put M 18 q3)) C Fc_X10 hk_18 mf_X10_laysTower rfl ml_X10_138 (m_X10_laysTower l _ _ eq3) rfl rfl (by omega) (by decide) (Nat.le_of_ble_eq_true rfl) dX10_of_64 ?_
            refine dz_aload_n (pc := 67) C dX10_of_67 rfl 0 rfl ?_
            obtain ⟨q4, eq4, h⟩ := dt_bind h
            refine dz_callVv (pc := 68) (st := []) (k := 18) (As := []) (M' := (dt_put M 18 q4)) C Fc_X10 hk_18 mf_X10_laysLoads rfl ml_X10_111 (m_X10_laysLoads l _ _ eq4) rfl rfl (by omega) (by decide) (Nat.le_of_ble_eq_true rfl) dX10_of_68 ?_
            refine dz_aload_n (pc := 71) C dX10_of_71 rfl 0 rfl ?_
            refine dz_getR (pc := 72) (k := 18) (j := 9) C Fc_X10 hk_18 (by decide) (by decide) rfl fl_X10_29 dX10_of_72 ?_
            refine dz_iload_n (pc := 75) C dX10_of_75 rfl 1 rfl ?_
            refine dz_iald (pc := 76) (k := 18) (j := 9) (n := 20) (f := (q4 9)) C hk_18 (by decide) rfl (dt_rAf _ _ _ _) dX10_of_76 h (fun a5 h => ?_)
            cases dt_some h
            exact dz_iret (pc := 77) C hr dX10_of_77
          · refine dz_aload_n (pc := 52) C dX10_of_52 rfl 0 rfl ?_
            refine dz_aload_n (pc := 53) C dX10_of_53 rfl 0 rfl ?_
            refine dz_iload_n (pc := 54) C dX10_of_54 rfl 1 rfl ?_
            refine dz_iconst (pc := 55) (v := (1 : Int32)) C dX10_of_55 (by decide) ?_
            obtain ⟨q6, eq6, h⟩ := dt_bind h
            refine dz_callVi (pc := 56) (st := [.ref (G.1 18 0)]) (k := 18) (As := [.int x1, .int (1 : Int32)]) (M' := (dt_put M 18 T)) C Fc_X10 hk_18 mf_X10_own rfl ml_X10_94 (m_X10_own l _ _ _ _ eq6) rfl rfl (by omega) (by decide) (Nat.le_of_ble_eq_true rfl) dX10_of_56 ?_
            obtain ⟨q7, eq7, h⟩ := dt_bind h
            refine dz_callVi (pc := 59) (st := []) (k := 18) (As := [.int q6]) (M' := (dt_put M 18 T)) C Fc_X10 hk_18 mf_X10_hands rfl ml_X10_164 (m_X10_hands l _ _ _ eq7) rfl rfl (by omega) (by decide) (Nat.le_of_ble_eq_true rfl) dX10_of_59 ?_
            cases dt_some h
            exact dz_iret (pc := 62) C hr dX10_of_62
        · refine dz_aload_n (pc := 40) C dX10_of_40 rfl 0 rfl ?_
          refine dz_iload_n (pc := 41) C dX10_of_41 rfl 1 rfl ?_
          obtain ⟨q8, eq8, h⟩ := dt_bind h
          refine dz_callVi (pc := 42) (st := []) (k := 18) (As := [.int x1]) (M' := (dt_put M 18 T)) C Fc_X10 hk_18 mf_X10_bears rfl ml_X10_114 (m_X10_bears l _ _ _ eq8) rfl rfl (by omega) (by decide) (Nat.le_of_ble_eq_true rfl) dX10_of_42 ?_
          cases dt_some h
          exact dz_iret (pc := 45) C hr dX10_of_45
      · refine dz_aload_n (pc := 27) C dX10_of_27 rfl 0 rfl ?_
        refine dz_iload_n (pc := 28) C dX10_of_28 rfl 1 rfl ?_
        refine dz_iload_n (pc := 29) C dX10_of_29 rfl 2 rfl ?_
        obtain ⟨q9, eq9, h⟩ := dt_bind h
        refine dz_callVi (pc := 30) (st := []) (k := 18) (As := [.int x1, .int x2]) (M' := (dt_put M 18 T)) C Fc_X10 hk_18 mf_X10_own rfl ml_X10_94 (m_X10_own l _ _ _ _ eq9) rfl rfl (by omega) (by decide) (Nat.le_of_ble_eq_true rfl) dX10_of_30 ?_
        cases dt_some h
        exact dz_iret (pc := 33) C hr dX10_of_33
    · refine dz_bipush (pc := 18) (v := (-2 : Int32)) C dX10_of_18 (by decide) ?_
      cases dt_some h
      exact dz_iret (pc := 20) C hr dX10_of_20

def fX10_height  (x1 : Int32) (T : dt_Ob) : Option (Int32 × dt_Ob) := ((dt_ix (0 : Int32) 1225).bind fun a1 => ((fX10_isIn x1 (-1 : Int32) (((T 0) a1) - (1 : Int32))).bind fun q2 => (if q2 = 0 then (some ((-2 : Int32), T)) else ((fX10_laysTower T).bind fun q3 => (if x1 = (-1 : Int32) then ((fX10_highest q3).bind fun q5 => (some (q5, q3))) else ((fX10_highOf x1 q3).bind fun q4 => (some (q4, q3))))))))
set_option maxRecDepth 10000 in
set_option maxHeartbeats 4000000 in
theorem m_X10_height (l : Launch)  (M : dt_M) (T : dt_Ob)  (x1 : Int32) {res : Int32 × dt_Ob} (h : fX10_height x1 T = some res) : dt_Met 1 l yX10_height cX10_height 2 (some .int) 3 (fun G => [.ref (G.1 18 0), .int x1]) (dt_put M 18 T) (some (.int res.1)) (dt_put M 18 res.2) := by
  refine dz_enter (lv := fun G => [(0, .ref (G.1 18 0)), (1, .int x1)]) (by decide) (fun _ => rfl) (fun _ => Nat.le_of_ble_eq_true rfl) (fun G A p e s m args below meth c C hr => ?_)
  unfold fX10_height at h
  refine dz_iload_n (pc := 0) C dX10_height_0 rfl 1 rfl ?_
  refine dz_iconst (pc := 1) (v := (-1 : Int32)) C dX10_height_1 (by decide) ?_
  refine dz_aload_n (pc := 2) C dX10_height_2 rfl 0 rfl ?_
  refine dz_getR (pc := 3) (k := 18) (j := 0) C Fc_X10 hk_18 (by decide) (by decide) rfl fl_X10_7 dX10_height_3 ?_
  refine dz_iconst (pc := 6) (v := (0 : Int32)) C dX10_height_6 (by decide) ?_
  refine dz_iald (pc := 7) (k := 18) (j := 0) (n := 1225) (f := (T 0)) C hk_18 (by decide) rfl (dt_rAf _ _ _ _) dX10_height_7 h (fun a1 h => ?_)
  refine dz_iconst (pc := 8) (v := (1 : Int32)) C dX10_height_8 (by decide) ?_
  refine dz_isub (pc := 9) C dX10_height_9 ?_
  obtain ⟨q2, eq2, h⟩ := dt_bind h
  refine dz_callSi (pc := 10) (st := []) (As := [.int x1, .int (-1 : Int32), .int (((T 0) a1) - (1 : Int32))]) (M' := (dt_put M 18 T)) C ms_X10_isIn ml_X10_76 (m_X10_isIn l _ _ _ _ eq2) rfl rfl (by omega) (by decide) (Nat.le_of_ble_eq_true rfl) dX10_height_10 ?_
  refine dz_if_ne (pc := 13) (t := 19) C dX10_height_13 (by decide) h (fun h => ?_) (fun h => ?_)
  · refine dz_aload_n (pc := 19) C dX10_height_19 rfl 0 rfl ?_
    obtain ⟨q3, eq3, h⟩ := dt_bind h
    refine dz_callVv (pc := 20) (st := []) (k := 18) (As := []) (M' := (dt_put M 18 q3)) C Fc_X10 hk_18 mf_X10_laysTower rfl ml_X10_138 (m_X10_laysTower l _ _ eq3) rfl rfl (by omega) (by decide) (Nat.le_of_ble_eq_true rfl) dX10_height_20 ?_
    refine dz_iload_n (pc := 23) C dX10_height_23 rfl 1 rfl ?_
    refine dz_iconst (pc := 24) (v := (-1 : Int32)) C dX10_height_24 (by decide) ?_
    refine dz_icmp_ne (pc := 25) (t := 35) C dX10_height_25 (by decide) h (fun h => ?_) (fun h => ?_)
    · refine dz_aload_n (pc := 35) C dX10_height_35 rfl 0 rfl ?_
      refine dz_iload_n (pc := 36) C dX10_height_36 rfl 1 rfl ?_
      obtain ⟨q4, eq4, h⟩ := dt_bind h
      refine dz_callVi (pc := 37) (st := []) (k := 18) (As := [.int x1]) (M' := (dt_put M 18 q3)) C Fc_X10 hk_18 mf_X10_highOf rfl ml_X10_100 (m_X10_highOf l _ _ _ eq4) rfl rfl (by omega) (by decide) (Nat.le_of_ble_eq_true rfl) dX10_height_37 ?_
      cases dt_some h
      exact dz_iret (pc := 40) C hr dX10_height_40
    · refine dz_aload_n (pc := 28) C dX10_height_28 rfl 0 rfl ?_
      obtain ⟨q5, eq5, h⟩ := dt_bind h
      refine dz_callVi (pc := 29) (st := []) (k := 18) (As := []) (M' := (dt_put M 18 q3)) C Fc_X10 hk_18 mf_X10_highest rfl ml_X10_167 (m_X10_highest l _ _ eq5) rfl rfl (by omega) (by decide) (Nat.le_of_ble_eq_true rfl) dX10_height_29 ?_
      refine dz_goto (pc := 32) (t := 40) C dX10_height_32 (by decide) ?_
      cases dt_some h
      exact dz_iret (pc := 40) C hr dX10_height_40
  · refine dz_bipush (pc := 16) (v := (-2 : Int32)) C dX10_height_16 (by decide) ?_
    cases dt_some h
    exact dz_iret (pc := 18) C hr dX10_height_18
