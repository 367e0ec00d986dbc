/-! ===== lifted: 21.model2 ===== -/
def fX10_feed_71 (r18 : Int32 → Int32 → Int32 → Int32 → Int32 → Int32 → dt_Ob → Option (Int32 × dt_Ob)) (x1 : Int32) (x2 : Int32) (x3 : Int32) (x4 : Int32) (x5 : Int32) (x6 : Int32) (s0 : Int32) (T : dt_Ob) : Option (Int32 × dt_Ob) := ((dt_ix (T 18 0) 400).bind fun a1 => (r18 x1 x2 x3 x4 x5 (x6 + (1 : Int32)) (dt_set (dt_set T 13 a1 ((s0 >>> (((24 : Int32) - ((8 : Int32) * (x6 - x6 / (4 : Int32) * (4 : Int32)))) &&& 31)) &&& (255 : Int32))) 18 0 ((T 18 0) + (1 : Int32)))))
set_option maxRecDepth 10000 in
set_option maxHeartbeats 4000000 in
theorem tX10_feed_71 {G : dt_G} {A : Nat → Prop} {p : Program} {l : Launch} {e : Env} {s : State} {m : MethodId} {args : Array Value} {below : List Frame} {meth : Method} {c : Code} (C : dt_Cx 1 G A p s m args meth c cX10_feed 8 RX10) (hr : meth.sig.returnType = (some .int)) {M : dt_M} {res : Int32 × dt_Ob} {r18 : Int32 → Int32 → Int32 → Int32 → Int32 → Int32 → dt_Ob → Option (Int32 × dt_Ob)} (hr18 : ∀ (x1 : Int32) (x2 : Int32) (x3 : Int32) (x4 : Int32) (x5 : Int32) (x6 : Int32) (T : dt_Ob), r18 x1 x2 x3 x4 x5 x6 T = some res → dt_At G A p l e (dt_rm 1) s m args below meth c 8 (MQ below (dt_Post G A (some (.int res.1)) (dt_put M 18 res.2)) args s 0 0 A) 18 [(0, .ref (G.1 18 0)), (1, .int x1), (2, .int x2), (3, .int x3), (4, .int x4), (5, .int x5), (6, .int x6)] [] (dt_put M 18 T)) : ∀ (x1 : Int32) (x2 : Int32) (x3 : Int32) (x4 : Int32) (x5 : Int32) (x6 : Int32) (s0 : Int32) (T : dt_Ob), fX10_feed_71 r18 x1 x2 x3 x4 x5 x6 s0 T = some res → dt_At G A p l e (dt_rm 1) s m args below meth c 8 (MQ below (dt_Post G A (some (.int res.1)) (dt_put M 18 res.2)) args s 0 0 A) 71 [(0, .ref (G.1 18 0)), (1, .int x1), (2, .int x2), (3, .int x3), (4, .int x4), (5, .int x5), (6, .int x6)] [.int s0] (dt_put M 18 T) := by
  intro x1 x2 x3 x4 x5 x6 s0 T h
  unfold fX10_feed_71 at h
  refine dz_istore (pc := 71) C dX10_feed_71 (by decide) rfl ?_
  refine dz_aload_n (pc := 73) C dX10_feed_73 rfl 1 rfl ?_
  refine dz_getR (pc := 74) (k := 18) (j := 13) C Fc_X10 hk_18 (by decide) (by decide) rfl fl_X10_43 dX10_feed_74 ?_
  refine dz_aload_n (pc := 77) C dX10_feed_77 rfl 1 rfl ?_
  refine dz_getI (pc := 78) (k := 18) (j := 18) (v := (T 18 0)) C Fc_X10 hk_18 (by decide) rfl rfl fl_X10_170 (dt_rA _ _ _ _ _) dX10_feed_78 ?_
  refine dz_iload (pc := 81) C dX10_feed_81 0 rfl ?_
  refine dz_bipush (pc := 83) (v := (24 : Int32)) C dX10_feed_83 (by decide) ?_
  refine dz_bipush (pc := 85) (v := (8 : Int32)) C dX10_feed_85 (by decide) ?_
  refine dz_iload (pc := 87) C dX10_feed_87 7 rfl ?_
  refine dz_iconst (pc := 89) (v := (4 : Int32)) C dX10_feed_89 (by decide) ?_
  refine dz_iremc (pc := 90) C dX10_feed_90 (by decide) ?_
  refine dz_imul (pc := 91) C dX10_feed_91 ?_
  refine dz_isub (pc := 92) C dX10_feed_92 ?_
  refine dz_ishr (pc := 93) C dX10_feed_93 ?_
  refine dz_sipush (pc := 94) (v := (255 : Int32)) C dX10_feed_94 (by decide) ?_
  refine dz_iand (pc := 97) C dX10_feed_97 ?_
  refine dz_iast (pc := 98) (k := 18) (j := 13) (n := 400) (M' := fun a1 => (dt_put M 18 (dt_set T 13 a1 ((s0 >>> (((24 : Int32) - ((8 : Int32) * (x6 - x6 / (4 : Int32) * (4 : Int32)))) &&& 31)) &&& (255 : Int32))))) C hk_18 (by decide) rfl (fun a1 => (dt_wA _ _ _ _ _ _)) dX10_feed_98 h (fun a1 h => ?_)
  refine dz_aload_n (pc := 99) C dX10_feed_99 rfl 1 rfl ?_
  refine dz_dup (pc := 100) C dX10_feed_100 rfl ?_
  refine dz_getI (pc := 101) (k := 18) (j := 18) (v := (T 18 0)) C Fc_X10 hk_18 (by decide) rfl rfl fl_X10_170 (dt_rA _ _ _ _ _) dX10_feed_101 ?_
  refine dz_iconst (pc := 104) (v := (1 : Int32)) C dX10_feed_104 (by decide) ?_
  refine dz_iadd (pc := 105) C dX10_feed_105 ?_
  refine dz_putI (pc := 106) (k := 18) (j := 18) (M' := (dt_put M 18 (dt_set (dt_set T 13 a1 ((s0 >>> (((24 : Int32) - ((8 : Int32) * (x6 - x6 / (4 : Int32) * (4 : Int32)))) &&& 31)) &&& (255 : Int32))) 18 0 ((T 18 0) + (1 : Int32))))) C Fc_X10 hk_18 (by decide) rfl rfl rfl rfl fl_X10_170 (dt_wA _ _ _ _ _ _) dX10_feed_106 ?_
  refine dz_iinc (pc := 109) (v := (x6 + (1 : Int32))) C dX10_feed_109 7 rfl rfl (by decide) rfl ?_
  refine dz_goto (pc := 112) (t := 18) C dX10_feed_112 (by decide) ?_
  refine dz_sub [2, 3, 4, 5, 6, 7, 0] rfl ?_
  exact hr18 x1 x2 x3 x4 x5 (x6 + (1 : Int32)) (dt_set (dt_set T 13 a1 ((s0 >>> (((24 : Int32) - ((8 : Int32) * (x6 - x6 / (4 : Int32) * (4 : Int32)))) &&& 31)) &&& (255 : Int32))) 18 0 ((T 18 0) + (1 : Int32))) h
def fX10_feed_18  : Nat → Int32 → Int32 → Int32 → Int32 → Int32 → Int32 → dt_Ob → Option (Int32 × dt_Ob)
  | 0, _, _, _, _, _, _, _ => none
  | n + 1, x1, x2, x3, x4, x5, x6, T => (if (20 : Int32) ≤ x6 then (some ((T 18 0), T)) else (if (4 : Int32) ≤ x6 then (if (8 : Int32) ≤ x6 then (if (12 : Int32) ≤ x6 then (if (16 : Int32) ≤ x6 then (fX10_feed_71 (fX10_feed_18 n) x1 x2 x3 x4 x5 x6 x5 T) else (fX10_feed_71 (fX10_feed_18 n) x1 x2 x3 x4 x5 x6 x4 T)) else (fX10_feed_71 (fX10_feed_18 n) x1 x2 x3 x4 x5 x6 x3 T)) else (fX10_feed_71 (fX10_feed_18 n) x1 x2 x3 x4 x5 x6 x2 T)) else (fX10_feed_71 (fX10_feed_18 n) x1 x2 x3 x4 x5 x6 x1 T)))
set_option maxRecDepth 10000 in
set_option maxHeartbeats 4000000 in
theorem tX10_feed_18 {G : dt_G} {A : Nat → Prop} {p : Program} {l : Launch} {e : Env} {s : State} {m : MethodId} {args : Array Value} {below : List Frame} {meth : Method} {c : Code} (C : dt_Cx 1 G A p s m args meth c cX10_feed 8 RX10) (hr : meth.sig.returnType = (some .int)) {M : dt_M} {res : Int32 × dt_Ob}  : ∀ (n : Nat) (x1 : Int32) (x2 : Int32) (x3 : Int32) (x4 : Int32) (x5 : Int32) (x6 : Int32) (T : dt_Ob), fX10_feed_18 n x1 x2 x3 x4 x5 x6 T = some res → dt_At G A p l e (dt_rm 1) s m args below meth c 8 (MQ below (dt_Post G A (some (.int res.1)) (dt_put M 18 res.2)) args s 0 0 A) 18 [(0, .ref (G.1 18 0)), (1, .int x1), (2, .int x2), (3, .int x3), (4, .int x4), (5, .int x5), (6, .int x6)] [] (dt_put M 18 T) := by
  intro n
  induction n with
  | zero =>
    intro x1 x2 x3 x4 x5 x6 T h
    unfold fX10_feed_18 at h
    cases h
  | succ n ih =>
    intro x1 x2 x3 x4 x5 x6 T h
    unfold fX10_feed_18 at h
    refine dz_iload (pc := 18) C dX10_feed_18 6 rfl ?_
    refine dz_bipush (pc := 20) (v := (20 : Int32)) C dX10_feed_20 (by decide) ?_
    refine dz_icmp_ge (pc := 22) (t := 115) C dX10_feed_22 (by decide) h (fun h => ?_) (fun h => ?_)
    · refine dz_aload_n (pc := 115) C dX10_feed_115 rfl 0 rfl ?_
      refine dz_getI (pc := 116) (k := 18) (j := 18) (v := (T 18 0)) C Fc_X10 hk_18 (by decide) rfl rfl fl_X10_170 (dt_rA _ _ _ _ _) dX10_feed_116 ?_
      cases dt_some h
      exact dz_iret (pc := 119) C hr dX10_feed_119
    · refine dz_iload (pc := 25) C dX10_feed_25 6 rfl ?_
      refine dz_iconst (pc := 27) (v := (4 : Int32)) C dX10_feed_27 (by decide) ?_
      refine dz_icmp_ge (pc := 28) (t := 35) C dX10_feed_28 (by decide) h (fun h => ?_) (fun h => ?_)
      · refine dz_iload (pc := 35) C dX10_feed_35 6 rfl ?_
        refine dz_bipush (pc := 37) (v := (8 : Int32)) C dX10_feed_37 (by decide) ?_
        refine dz_icmp_ge (pc := 39) (t := 46) C dX10_feed_39 (by decide) h (fun h => ?_) (fun h => ?_)
        · refine dz_iload (pc := 46) C dX10_feed_46 6 rfl ?_
          refine dz_bipush (pc := 48) (v := (12 : Int32)) C dX10_feed_48 (by decide) ?_
          refine dz_icmp_ge (pc := 50) (t := 57) C dX10_feed_50 (by decide) h (fun h => ?_) (fun h => ?_)
          · refine dz_iload (pc := 57) C dX10_feed_57 6 rfl ?_
            refine dz_bipush (pc := 59) (v := (16 : Int32)) C dX10_feed_59 (by decide) ?_
            refine dz_icmp_ge (pc := 61) (t := 69) C dX10_feed_61 (by decide) h (fun h => ?_) (fun h => ?_)
            · refine dz_iload (pc := 69) C dX10_feed_69 5 rfl ?_
              exact tX10_feed_71 C hr ih x1 x2 x3 x4 x5 x6 x5 T h
            · refine dz_iload (pc := 64) C dX10_feed_64 4 rfl ?_
              refine dz_goto (pc := 66) (t := 71) C dX10_feed_66 (by decide) ?_
              exact tX10_feed_71 C hr ih x1 x2 x3 x4 x5 x6 x4 T h
          · refine dz_iload_n (pc := 53) C dX10_feed_53 rfl 3 rfl ?_
            refine dz_goto (pc := 54) (t := 71) C dX10_feed_54 (by decide) ?_
            exact tX10_feed_71 C hr ih x1 x2 x3 x4 x5 x6 x3 T h
        · refine dz_iload_n (pc := 42) C dX10_feed_42 rfl 2 rfl ?_
          refine dz_goto (pc := 43) (t := 71) C dX10_feed_43 (by decide) ?_
          exact tX10_feed_71 C hr ih x1 x2 x3 x4 x5 x6 x2 T h
      · refine dz_iload_n (pc := 31) C dX10_feed_31 rfl 1 rfl ?_
        refine dz_goto (pc := 32) (t := 71) C dX10_feed_32 (by decide) ?_
        exact tX10_feed_71 C hr ih x1 x2 x3 x4 x5 x6 x1 T h
def fX10_feed  (x1 : Int32) (x2 : Int32) (x3 : Int32) (x4 : Int32) (x5 : Int32) (T : dt_Ob) : Option (Int32 × dt_Ob) := (if ((T 18 0) + (20 : Int32)) ≤ (400 : Int32) then (fX10_feed_18 dt_F x1 x2 x3 x4 x5 (0 : Int32) T) else (some ((-1 : Int32), T)))
set_option maxRecDepth 10000 in
set_option maxHeartbeats 4000000 in
theorem m_X10_feed (l : Launch)  (M : dt_M) (T : dt_Ob)  (x1 : Int32) (x2 : Int32) (x3 : Int32) (x4 : Int32) (x5 : Int32) {res : Int32 × dt_Ob} (h : fX10_feed x1 x2 x3 x4 x5 T = some res) : dt_Met 1 l yX10_feed cX10_feed 8 (some .int) 1 (fun G => [.ref (G.1 18 0), .int x1, .int x2, .int x3, .int x4, .int x5]) (dt_put M 18 T) (some (.int res.1)) (dt_put M 18 res.2) := by
  refine dz_enter (lv := fun G => [(0, .ref (G.1 18 0)), (1, .int x1), (2, .int x2), (3, .int x3), (4, .int x4), (5, .int x5)]) (by decide) (fun _ => rfl) (fun _ => Nat.le_of_ble_eq_true rfl) (fun G A p e s m args below meth c C hr => ?_)
  unfold fX10_feed at h
  refine dz_aload_n (pc := 0) C dX10_feed_0 rfl 0 rfl ?_
  refine dz_getI (pc := 1) (k := 18) (j := 18) (v := (T 18 0)) C Fc_X10 hk_18 (by decide) rfl rfl fl_X10_170 (dt_rA _ _ _ _ _) dX10_feed_1 ?_
  refine dz_bipush (pc := 4) (v := (20 : Int32)) C dX10_feed_4 (by decide) ?_
  refine dz_iadd (pc := 6) C dX10_feed_6 ?_
  refine dz_sipush (pc := 7) (v := (400 : Int32)) C dX10_feed_7 (by decide) ?_
  refine dz_icmp_le (pc := 10) (t := 15) C dX10_feed_10 (by decide) h (fun h => ?_) (fun h => ?_)
  · refine dz_iconst (pc := 15) (v := (0 : Int32)) C dX10_feed_15 (by decide) ?_
    refine dz_istore (pc := 16) C dX10_feed_16 (by decide) rfl ?_
    refine dz_sub [1, 2, 3, 4, 5, 6, 0] rfl ?_
    exact tX10_feed_18 C hr dt_F x1 x2 x3 x4 x5 (0 : Int32) T h
  · refine dz_iconst (pc := 13) (v := (-1 : Int32)) C dX10_feed_13 (by decide) ?_
    cases dt_some h
    exact dz_iret (pc := 14) C hr dX10_feed_14

def fX10_end  (x1 : Int32) (T : dt_Ob) : Option (Int32 × dt_Ob) := ((fX10_isIn x1 (0 : Int32) (T 18 0)).bind fun q1 => (if q1 = 0 then (some ((0 : Int32), T)) else (some ((1 : Int32), (dt_set T 18 0 x1)))))
set_option maxRecDepth 10000 in
set_option maxHeartbeats 4000000 in
theorem m_X10_end (l : Launch)  (M : dt_M) (T : dt_Ob)  (x1 : Int32) {res : Int32 × dt_Ob} (h : fX10_end x1 T = some res) : dt_Met 1 l yX10_end cX10_end 2 (some .boolean) 2 (fun G => [.ref (G.1 18 0), .int x1]) (dt_put M 18 T) (some (.int res.1)) (dt_put M 18 res.2) := by
  refine dz_enter (lv := fun G => [(0, .ref (G.1 18 0)), (1, .int x1)]) (by decide) (fun _ => rfl) (fun _ => Nat.le_of_ble_eq_true rfl) (fun G A p e s m args below meth c C hr => ?_)
  unfold fX10_end at h
  refine dz_iload_n (pc := 0) C dX10_end_0 rfl 1 rfl ?_
  refine dz_iconst (pc := 1) (v := (0 : Int32)) C dX10_end_1 (by decide) ?_
  refine dz_aload_n (pc := 2) C dX10_end_2 rfl 0 rfl ?_
  refine dz_getI (pc := 3) (k := 18) (j := 18) (v := (T 18 0)) C Fc_X10 hk_18 (by decide) rfl rfl fl_X10_170 (dt_rA _ _ _ _ _) dX10_end_3 ?_
  obtain ⟨q1, eq1, h⟩ := dt_bind h
  refine dz_callSi (pc := 6) (st := []) (As := [.int x1, .int (0 : Int32), .int (T 18 0)]) (M' := (dt_put M 18 T)) C ms_X10_isIn ml_X10_76 (m_X10_isIn l _ _ _ _ eq1) rfl rfl (by omega) (by decide) (Nat.le_of_ble_eq_true rfl) dX10_end_6 ?_
  refine dz_if_ne (pc := 9) (t := 14) C dX10_end_9 (by decide) h (fun h => ?_) (fun h => ?_)
  · refine dz_aload_n (pc := 14) C dX10_end_14 rfl 0 rfl ?_
    refine dz_iload_n (pc := 15) C dX10_end_15 rfl 1 rfl ?_
    refine dz_putI (pc := 16) (k := 18) (j := 18) (M' := (dt_put M 18 (dt_set T 18 0 x1))) C Fc_X10 hk_18 (by decide) rfl rfl rfl rfl fl_X10_170 (dt_wA _ _ _ _ _ _) dX10_end_16 ?_
    refine dz_iconst (pc := 19) (v := (1 : Int32)) C dX10_end_19 (by decide) ?_
    cases dt_some h
    exact dz_zret (pc := 20) C hr (Or.inr rfl) dX10_end_20
  · refine dz_iconst (pc := 12) (v := (0 : Int32)) C dX10_end_12 (by decide) ?_
    cases dt_some h
    exact dz_zret (pc := 13) C hr (Or.inl rfl) dX10_end_13

def fX10_see  (x1 : Int32) (T : dt_Ob) : Option (Int32) := (if (T 18 0) ≤ x1 then (some (-1 : Int32)) else ((dt_ix x1 400).bind fun a1 => (some ((T 13) a1))))
set_option maxRecDepth 10000 in
set_option maxHeartbeats 4000000 in
theorem m_X10_see (l : Launch)  (M : dt_M) (T : dt_Ob)  (x1 : Int32) {res : Int32} (h : fX10_see x1 T = some res) : dt_Met 1 l yX10_see cX10_see 2 (some .int) 1 (fun G => [.ref (G.1 18 0), .int x1]) (dt_put M 18 T) (some (.int res)) (dt_put M 18 T) := by
  refine dz_enter (lv := fun G => [(0, .ref (G.1 18 0)), (1, .int x1)]) (by decide) (fun _ => rfl) (fun _ => Nat.le_of_ble_eq_true rfl) (fun G A p e s m args below meth c C hr => ?_)
  unfold fX10_see at h
  refine dz_iload_n (pc := 0) C dX10_see_0 rfl 1 rfl ?_
  refine dz_aload_n (pc := 1) C dX10_see_1 rfl 0 rfl ?_
  refine dz_getI (pc := 2) (k := 18) (j := 18) (v := (T 18 0)) C Fc_X10 hk_18 (by decide) rfl rfl fl_X10_170 (dt_rA _ _ _ _ _) dX10_see_2 ?_
  refine dz_icmp_ge (pc := 5) (t := 17) C dX10_see_5 (by decide) h (fun h => ?_) (fun h => ?_)
  · refine dz_iconst (pc := 17) (v := (-1 : Int32)) C dX10_see_17 (by decide) ?_
    cases dt_some h
    exact dz_iret (pc := 18) C hr dX10_see_18
  · refine dz_aload_n (pc := 8) C dX10_see_8 rfl 0 rfl ?_
    refine dz_getR (pc := 9) (k := 18) (j := 13) C Fc_X10 hk_18 (by decide) (by decide) rfl fl_X10_43 dX10_see_9 ?_
    refine dz_iload_n (pc := 12) C dX10_see_12 rfl 1 rfl ?_
    refine dz_iald (pc := 13) (k := 18) (j := 13) (n := 400) (f := (T 13)) C hk_18 (by decide) rfl (dt_rAf _ _ _ _) dX10_see_13 h (fun a1 h => ?_)
    refine dz_goto (pc := 14) (t := 18) C dX10_see_14 (by decide) ?_
    cases dt_some h
    exact dz_iret (pc := 18) C hr dX10_see_18

def fX10_isLetter_22   : Option (Int32) := (some (1 : Int32))
set_option maxRecDepth 10000 in
set_option maxHeartbeats 4000000 in
theorem tX10_isLetter_22 {G : dt_G} {A : Nat → Prop} {p : Program} {l : Launch} {e : Env} {s : State} {m : MethodId} {args : Array Value} {below : List Frame} {meth : Method} {c : Code} (C : dt_Cx 1 G A p s m args meth c cX10_isLetter 1 RX10) (hr : meth.sig.returnType = (some .boolean)) {M : dt_M} {res : Int32}  : fX10_isLetter_22 = some res → dt_At G A p l e (dt_rm 2) s m args below meth c 1 (MQ below (dt_Post G A (some (.int res)) M) args s 0 0 A) 22 [] [] M := by
  intro  h
  unfold fX10_isLetter_22 at h
  refine dz_iconst (pc := 22) (v := (1 : Int32)) C dX10_isLetter_22 (by decide) ?_
  refine dz_goto (pc := 23) (t := 27) C dX10_isLetter_23 (by decide) ?_
  cases dt_some h
  exact dz_zret (pc := 27) C hr (Or.inr rfl) dX10_isLetter_27
def fX10_isLetter  (x0 : Int32) : Option (Int32) := ((fX10_isIn x0 (97 : Int32) (122 : Int32)).bind fun q1 => (if q1 = 0 then ((fX10_isIn x0 (65 : Int32) (90 : Int32)).bind fun q2 => (if q2 = 0 then (some (0 : Int32)) else (fX10_isLetter_22 ))) else (fX10_isLetter_22 )))
set_option maxRecDepth 10000 in
set_option maxHeartbeats 4000000 in
theorem m_X10_isLetter (l : Launch)  (M : dt_M)   (x0 : Int32) {res : Int32} (h : fX10_isLetter x0 = some res) : dt_Met 1 l yX10_isLetter cX10_isLetter 1 (some .boolean) 2 (fun G => [.int x0]) M (some (.int res)) M := by
  refine dz_enter (lv := fun G => [(0, .int x0)]) (by decide) (fun _ => rfl) (fun _ => Nat.le_of_ble_eq_true rfl) (fun G A p e s m args below meth c C hr => ?_)
  unfold fX10_isLetter at h
  refine dz_iload_n (pc := 0) C dX10_isLetter_0 rfl 0 rfl ?_
  refine dz_bipush (pc := 1) (v := (97 : Int32)) C dX10_isLetter_1 (by decide) ?_
  refine dz_bipush (pc := 3) (v := (122 : Int32)) C dX10_isLetter_3 (by decide) ?_
  obtain ⟨q1, eq1, h⟩ := dt_bind h
  refine dz_callSi (pc := 5) (st := []) (As := [.int x0, .int (97 : Int32), .int (122 : Int32)]) (M' := M) C ms_X10_isIn ml_X10_76 (m_X10_isIn l _ _ _ _ eq1) rfl rfl (by omega) (by decide) (Nat.le_of_ble_eq_true rfl) dX10_isLetter_5 ?_
  refine dz_if_ne (pc := 8) (t := 22) C dX10_isLetter_8 (by decide) h (fun h => ?_) (fun h => ?_)
  · refine dz_sub [] rfl ?_
    exact tX10_isLetter_22 C hr   h
  · refine dz_iload_n (pc := 11) C dX10_isLetter_11 rfl 0 rfl ?_
    refine dz_bipush (pc := 12) (v := (65 : Int32)) C dX10_isLetter_12 (by decide) ?_
    refine dz_bipush (pc := 14) (v := (90 : Int32)) C dX10_isLetter_14 (by decide) ?_
    obtain ⟨q2, eq2, h⟩ := dt_bind h
    refine dz_callSi (pc := 16) (st := []) (As := [.int x0, .int (65 : Int32), .int (90 : Int32)]) (M' := M) C ms_X10_isIn ml_X10_76 (m_X10_isIn l _ _ _ _ eq2) rfl rfl (by omega) (by decide) (Nat.le_of_ble_eq_true rfl) dX10_isLetter_16 ?_
    refine dz_if_eq (pc := 19) (t := 26) C dX10_isLetter_19 (by decide) h (fun h => ?_) (fun h => ?_)
    · refine dz_iconst (pc := 26) (v := (0 : Int32)) C dX10_isLetter_26 (by decide) ?_
      cases dt_some h
      exact dz_zret (pc := 27) C hr (Or.inl rfl) dX10_isLetter_27
    · refine dz_sub [] rfl ?_
      exact tX10_isLetter_22 C hr   h

def fX10_isDigit  (x0 : Int32) : Option (Int32) := ((fX10_isIn x0 (48 : Int32) (57 : Int32)).bind fun q1 => (if q1 = 0 ∨ q1 = 1 then (some q1) else none))
set_option maxRecDepth 10000 in
set_option maxHeartbeats 4000000 in
theorem m_X10_isDigit (l : Launch)  (M : dt_M)   (x0 : Int32) {res : Int32} (h : fX10_isDigit x0 = some res) : dt_Met 1 l yX10_isDigit cX10_isDigit 1 (some .boolean) 2 (fun G => [.int x0]) M (some (.int res)) M := by
  refine dz_enter (lv := fun G => [(0, .int x0)]) (by decide) (fun _ => rfl) (fun _ => Nat.le_of_ble_eq_true rfl) (fun G A p e s m args below meth c C hr => ?_)
  unfold fX10_isDigit at h
  refine dz_iload_n (pc := 0) C dX10_isDigit_0 rfl 0 rfl ?_
  refine dz_bipush (pc := 1) (v := (48 : Int32)) C dX10_isDigit_1 (by decide) ?_
  refine dz_bipush (pc := 3) (v := (57 : Int32)) C dX10_isDigit_3 (by decide) ?_
  obtain ⟨q1, eq1, h⟩ := dt_bind h
  refine dz_callSi (pc := 5) (st := []) (As := [.int x0, .int (48 : Int32), .int (57 : Int32)]) (M' := M) C ms_X10_isIn ml_X10_76 (m_X10_isIn l _ _ _ _ eq1) rfl rfl (by omega) (by decide) (Nat.le_of_ble_eq_true rfl) dX10_isDigit_5 ?_
  obtain ⟨hz2, h⟩ := dt_ifn h
  cases dt_some h
  exact dz_zret (pc := 8) C hr hz2 dX10_isDigit_8

def fX10_is_60 (r24 : Int32 → Int32 → dt_Ob → Option (Int32)) (sn : Nat) (x3 : Int32) (s0 : Int32) (T : dt_Ob) : Option (Int32) := (r24 s0 (x3 + (1 : Int32)) T)
set_option maxRecDepth 10000 in
set_option maxHeartbeats 4000000 in
theorem tX10_is_60 {G : dt_G} {A : Nat → Prop} {p : Program} {l : Launch} {e : Env} {s : State} {m : MethodId} {args : Array Value} {below : List Frame} {meth : Method} {c : Code} (C : dt_Cx 1 G A p s m args meth c cX10_is 4 RX10) (hr : meth.sig.returnType = (some .boolean)) {M : dt_M} {sn : Nat} (hsn : sn < 14) {res : Int32} {r24 : Int32 → Int32 → dt_Ob → Option (Int32)} (hr24 : ∀ (x2 : Int32) (x3 : Int32) (T : dt_Ob), r24 x2 x3 T = some res → dt_At G A p l e (dt_rm 13) s m args below meth c 4 (MQ below (dt_Post G A (some (.int res)) (dt_put M 18 T)) args s 0 0 A) 24 [(0, .ref (G.1 18 0)), (1, .ref (G.2.2.2.1 sn)), (2, .int x2), (3, .int x3)] [] (dt_put M 18 T)) : ∀ (x3 : Int32) (s0 : Int32) (T : dt_Ob), fX10_is_60 r24 sn x3 s0 T = some res → dt_At G A p l e (dt_rm 13) s m args below meth c 4 (MQ below (dt_Post G A (some (.int res)) (dt_put M 18 T)) args s 0 0 A) 60 [(0, .ref (G.1 18 0)), (1, .ref (G.2.2.2.1 sn)), (3, .int x3)] [.int s0] (dt_put M 18 T) := by
  intro x3 s0 T h
  unfold fX10_is_60 at h
  refine dz_istore_n (pc := 60) C dX10_is_60 rfl (by decide) rfl ?_
  refine dz_iinc (pc := 61) (v := (x3 + (1 : Int32))) C dX10_is_61 3 rfl rfl (by decide) rfl ?_
  refine dz_goto (pc := 64) (t := 24) C dX10_is_64 (by decide) ?_
  refine dz_sub [2, 3, 1, 0] rfl ?_
  exact hr24 s0 (x3 + (1 : Int32)) T h
def fX10_is_24  (sn : Nat) : Nat → Int32 → Int32 → dt_Ob → Option (Int32)
  | 0, _, _, _ => none
  | n + 1, x2, x3, T => (if (dt_slen sn) ≤ x3 then (if x2 = 0 ∨ x2 = 1 then (some x2) else none) else (if x2 = 0 then (if x2 = 0 ∨ x2 = 1 then (some x2) else none) else ((dt_ix ((T 21 0) + x3) 400).bind fun a3 => ((dt_ix x3 (dt_sln sn)).bind fun a4 => (if ((T 13) a3) = (dt_sch sn a4) then (fX10_is_60 (fX10_is_24 sn n) sn x3 (1 : Int32) T) else (fX10_is_60 (fX10_is_24 sn n) sn x3 (0 : Int32) T))))))
set_option maxRecDepth 10000 in
set_option maxHeartbeats 4000000 in
theorem tX10_is_24 {G : dt_G} {A : Nat → Prop} {p : Program} {l : Launch} {e : Env} {s : State} {m : MethodId} {args : Array Value} {below : List Frame} {meth : Method} {c : Code} (C : dt_Cx 1 G A p s m args meth c cX10_is 4 RX10) (hr : meth.sig.returnType = (some .boolean)) {M : dt_M} {sn : Nat} (hsn : sn < 14) {res : Int32}  : ∀ (n : Nat) (x2 : Int32) (x3 : Int32) (T : dt_Ob), fX10_is_24 sn n x2 x3 T = some res → dt_At G A p l e (dt_rm 13) s m args below meth c 4 (MQ below (dt_Post G A (some (.int res)) (dt_put M 18 T)) args s 0 0 A) 24 [(0, .ref (G.1 18 0)), (1, .ref (G.2.2.2.1 sn)), (2, .int x2), (3, .int x3)] [] (dt_put M 18 T) := by
  intro n
  induction n with
  | zero =>
    intro x2 x3 T h
    unfold fX10_is_24 at h
    cases h
  | succ n ih =>
    intro x2 x3 T h
    unfold fX10_is_24 at h
    refine dz_iload_n (pc := 24) C dX10_is_24 rfl 3 rfl ?_
    refine dz_aload_n (pc := 25) C dX10_is_25 rfl 1 rfl ?_
    refine dz_slen (pc := 26) (st := [.int x3]) (n := sn) C hsn ml_X10_179 (by omega) (Nat.le_of_ble_eq_true rfl) dX10_is_26 ?_
    refine dz_icmp_ge (pc := 29) (t := 67) C dX10_is_29 (by decide) h (fun h => ?_) (fun h => ?_)
    · refine dz_iload_n (pc := 67) C dX10_is_67 rfl 2 rfl ?_
      obtain ⟨hz1, h⟩ := dt_ifn h
      cases dt_some h
      exact dz_zret (pc := 68) C hr hz1 dX10_is_68
    · refine dz_iload_n (pc := 32) C dX10_is_32 rfl 2 rfl ?_
      refine dz_if_eq (pc := 33) (t := 67) C dX10_is_33 (by decide) h (fun h => ?_) (fun h => ?_)
      · refine dz_iload_n (pc := 67) C dX10_is_67 rfl 2 rfl ?_
        obtain ⟨hz2, h⟩ := dt_ifn h
        cases dt_some h
        exact dz_zret (pc := 68) C hr hz2 dX10_is_68
      · refine dz_aload_n (pc := 36) C dX10_is_36 rfl 0 rfl ?_
        refine dz_getR (pc := 37) (k := 18) (j := 13) C Fc_X10 hk_18 (by decide) (by decide) rfl fl_X10_43 dX10_is_37 ?_
        refine dz_aload_n (pc := 40) C dX10_is_40 rfl 0 rfl ?_
        refine dz_getI (pc := 41) (k := 18) (j := 21) (v := (T 21 0)) C Fc_X10 hk_18 (by decide) rfl rfl fl_X10_176 (dt_rA _ _ _ _ _) dX10_is_41 ?_
        refine dz_iload_n (pc := 44) C dX10_is_44 rfl 3 rfl ?_
        refine dz_iadd (pc := 45) C dX10_is_45 ?_
        refine dz_iald (pc := 46) (k := 18) (j := 13) (n := 400) (f := (T 13)) C hk_18 (by decide) rfl (dt_rAf _ _ _ _) dX10_is_46 h (fun a3 h => ?_)
        refine dz_aload_n (pc := 47) C dX10_is_47 rfl 1 rfl ?_
        refine dz_iload_n (pc := 48) C dX10_is_48 rfl 3 rfl ?_
        refine dz_schar (pc := 49) (st := [.int ((T 13) a3)]) (n := sn) C hsn ml_X10_184 (by omega) (Nat.le_of_ble_eq_true rfl) dX10_is_49 h (fun a4 h => ?_)
        refine dz_icmp_ne (pc := 52) (t := 59) C dX10_is_52 (by decide) h (fun h => ?_) (fun h => ?_)
        · refine dz_iconst (pc := 59) (v := (0 : Int32)) C dX10_is_59 (by decide) ?_
          refine dz_sub [0, 1, 3] rfl ?_
          exact tX10_is_60 C hr hsn ih x3 (0 : Int32) T h
        · refine dz_iconst (pc := 55) (v := (1 : Int32)) C dX10_is_55 (by decide) ?_
          refine dz_goto (pc := 56) (t := 60) C dX10_is_56 (by decide) ?_
          refine dz_sub [0, 1, 3] rfl ?_
          exact tX10_is_60 C hr hsn ih x3 (1 : Int32) T h
def fX10_is_21  (sn : Nat) (s0 : Int32) (T : dt_Ob) : Option (Int32) := (fX10_is_24 sn dt_F s0 (0 : Int32) T)
set_option maxRecDepth 10000 in
set_option maxHeartbeats 4000000 in
theorem tX10_is_21 {G : dt_G} {A : Nat → Prop} {p : Program} {l : Launch} {e : Env} {s : State} {m : MethodId} {args : Array Value} {below : List Frame} {meth : Method} {c : Code} (C : dt_Cx 1 G A p s m args meth c cX10_is 4 RX10) (hr : meth.sig.returnType = (some .boolean)) {M : dt_M} {sn : Nat} (hsn : sn < 14) {res : Int32}  : ∀ (s0 : Int32) (T : dt_Ob), fX10_is_21 sn s0 T = some res → dt_At G A p l e (dt_rm 13) s m args below meth c 4 (MQ below (dt_Post G A (some (.int res)) (dt_put M 18 T)) args s 0 0 A) 21 [(0, .ref (G.1 18 0)), (1, .ref (G.2.2.2.1 sn))] [.int s0] (dt_put M 18 T) := by
  intro s0 T h
  unfold fX10_is_21 at h
  refine dz_istore_n (pc := 21) C dX10_is_21 rfl (by decide) rfl ?_
  refine dz_iconst (pc := 22) (v := (0 : Int32)) C dX10_is_22 (by decide) ?_
  refine dz_istore_n (pc := 23) C dX10_is_23 rfl (by decide) rfl ?_
  refine dz_sub [2, 3, 1, 0] rfl ?_
  exact tX10_is_24 C hr hsn dt_F s0 (0 : Int32) T h
def fX10_is (sn : Nat) (T : dt_Ob) : Option (Int32) := (if ((T 19 0) - (T 21 0)) = (dt_slen sn) then (fX10_is_21 sn (1 : Int32) T) else (fX10_is_21 sn (0 : Int32) T))
set_option maxRecDepth 10000 in
set_option maxHeartbeats 4000000 in
theorem m_X10_is (l : Launch) {sn : Nat} (hsn : sn < 14)  (M : dt_M) (T : dt_Ob)   {res : Int32} (h : fX10_is sn T = some res) : dt_Met 1 l yX10_is cX10_is 4 (some .boolean) 13 (fun G => [.ref (G.1 18 0), .ref (G.2.2.2.1 sn)]) (dt_put M 18 T) (some (.int res)) (dt_put M 18 T) := by
  refine dz_enter (lv := fun G => [(0, .ref (G.1 18 0)), (1, .ref (G.2.2.2.1 sn))]) (by decide) (fun _ => rfl) (fun _ => Nat.le_of_ble_eq_true rfl) (fun G A p e s m args below meth c C hr => ?_)
  unfold fX10_is at h
  refine dz_aload_n (pc := 0) C dX10_is_0 rfl 0 rfl ?_
  refine dz_getI (pc := 1) (k := 18) (j := 19) (v := (T 19 0)) C Fc_X10 hk_18 (by decide) rfl rfl fl_X10_173 (dt_rA _ _ _ _ _) dX10_is_1 ?_
  refine dz_aload_n (pc := 4) C dX10_is_4 rfl 0 rfl ?_
  refine dz_getI (pc := 5) (k := 18) (j := 21) (v := (T 21 0)) C Fc_X10 hk_18 (by decide) rfl rfl fl_X10_176 (dt_rA _ _ _ _ _) dX10_is_5 ?_
  refine dz_isub (pc := 8) C dX10_is_8 ?_
  refine dz_aload_n (pc := 9) C dX10_is_9 rfl 1 rfl ?_
  refine dz_slen (pc := 10) (st := [.int ((T 19 0) - (T 21 0))]) (n := sn) C hsn ml_X10_179 (by omega) (Nat.le_of_ble_eq_true rfl) dX10_is_10 ?_
  refine dz_icmp_ne (pc := 13) (t := 20) C dX10_is_13 (by decide) h (fun h => ?_) (fun h => ?_)
  · refine dz_iconst (pc := 20) (v := (0 : Int32)) C dX10_is_20 (by decide) ?_
    exact tX10_is_21 C hr hsn  (0 : Int32) T h
  · refine dz_iconst (pc := 16) (v := (1 : Int32)) C dX10_is_16 (by decide) ?_
    refine dz_goto (pc := 17) (t := 21) C dX10_is_17 (by decide) ?_
    exact tX10_is_21 C hr hsn  (1 : Int32) T h

def fX10_nameWord  (T : dt_Ob) : Option (Int32) := ((fX10_is 2 T).bind fun q1 => (if q1 = 0 then ((fX10_is 3 T).bind fun q2 => (if q2 = 0 then ((fX10_is 4 T).bind fun q3 => (if q3 = 0 then ((fX10_is 5 T).bind fun q4 => (if q4 = 0 then ((fX10_is 6 T).bind fun q5 => (if q5 = 0 then ((fX10_is 7 T).bind fun q6 => (if q6 = 0 then ((fX10_is 8 T).bind fun q7 => (if q7 = 0 then (some (1 : Int32)) else (some (47 : Int32)))) else (some (46 : Int32)))) else (some (45 : Int32)))) else (some (44 : Int32)))) else (some (43 : Int32)))) else (some (42 : Int32)))) else (some (41 : Int32))))
set_option maxRecDepth 10000 in
set_option maxHeartbeats 4000000 in
theorem m_X10_nameWord (l : Launch)  (M : dt_M) (T : dt_Ob)   {res : Int32} (h : fX10_nameWord T = some res) : dt_Met 1 l yX10_nameWord cX10_nameWord 1 (some .int) 14 (fun G => [.ref (G.1 18 0)]) (dt_put M 18 T) (some (.int res)) (dt_put M 18 T) := by
  refine dz_enter (lv := fun G => [(0, .ref (G.1 18 0))]) (by decide) (fun _ => rfl) (fun _ => Nat.le_of_ble_eq_true rfl) (fun G A p e s m args below meth c C hr => ?_)
  unfold fX10_nameWord at h
  refine dz_aload_n (pc := 0) C dX10_nameWord_0 rfl 0 rfl ?_
  refine dz_ldcS (pc := 1) (n := 2) C rfl dX10_nameWord_1 ?_
  obtain ⟨q1, eq1, h⟩ := dt_bind h
  refine dz_callVi (pc := 3) (st := []) (k := 18) (As := [.ref (G.2.2.2.1 2)]) (M' := (dt_put M 18 T)) C Fc_X10 hk_18 mf_X10_is rfl ml_X10_190 (m_X10_is l (sn := 2) (by decide) _ _ eq1) rfl rfl (by omega) (by decide) (Nat.le_of_ble_eq_true rfl) dX10_nameWord_3 ?_
  refine dz_if_eq (pc := 6) (t := 12) C dX10_nameWord_6 (by decide) h (fun h => ?_) (fun h => ?_)
  · refine dz_aload_n (pc := 12) C dX10_nameWord_12 rfl 0 rfl ?_
    refine dz_ldcS (pc := 13) (n := 3) C rfl dX10_nameWord_13 ?_
    obtain ⟨q2, eq2, h⟩ := dt_bind h
    refine dz_callVi (pc := 15) (st := []) (k := 18) (As := [.ref (G.2.2.2.1 3)]) (M' := (dt_put M 18 T)) C Fc_X10 hk_18 mf_X10_is rfl ml_X10_190 (m_X10_is l (sn := 3) (by decide) _ _ eq2) rfl rfl (by omega) (by decide) (Nat.le_of_ble_eq_true rfl) dX10_nameWord_15 ?_
    refine dz_if_eq (pc := 18) (t := 24) C dX10_nameWord_18 (by decide) h (fun h => ?_) (fun h => ?_)
    · refine dz_aload_n (pc := 24) C dX10_nameWord_24 rfl 0 rfl ?_
      refine dz_ldcS (pc := 25) (n := 4) C rfl dX10_nameWord_25 ?_
      obtain ⟨q3, eq3, h⟩ := dt_bind h
      refine dz_callVi (pc := 27) (st := []) (k := 18) (As := [.ref (G.2.2.2.1 4)]) (M' := (dt_put M 18 T)) C Fc_X10 hk_18 mf_X10_is rfl ml_X10_190 (m_X10_is l (sn := 4) (by decide) _ _ eq3) rfl rfl (by omega) (by decide) (Nat.le_of_ble_eq_true rfl) dX10_nameWord_27 ?_
      refine dz_if_eq (pc := 30) (t := 36) C dX10_nameWord_30 (by decide) h (fun h => ?_) (fun h => ?_)
      · refine dz_aload_n (pc := 36) C dX10_nameWord_36 rfl 0 rfl ?_
        refine dz_ldcS (pc := 37) (n := 5) C rfl dX10_nameWord_37 ?_
        obtain ⟨q4, eq4, h⟩ := dt_bind h
        refine dz_callVi (pc := 39) (st := []) (k := 18) (As := [.ref (G.2.2.2.1 5)]) (M' := (dt_put M 18 T)) C Fc_X10 hk_18 mf_X10_is rfl ml_X10_190 (m_X10_is l (sn := 5) (by decide) _ _ eq4) rfl rfl (by omega) (by decide) (Nat.le_of_ble_eq_true rfl) dX10_nameWord_39 ?_
        refine dz_if_eq (pc := 42) (t := 48) C dX10_nameWord_42 (by decide) h (fun h => ?_) (fun h => ?_)
        · refine dz_aload_n (pc := 48) C dX10_nameWord_48 rfl 0 rfl ?_
          refine dz_ldcS (pc := 49) (n := 6) C rfl dX10_nameWord_49 ?_
          obtain ⟨q5, eq5, h⟩ := dt_bind h
          refine dz_callVi (pc := 51) (st := []) (k := 18) (As := [.ref (G.2.2.2.1 6)]) (M' := (dt_put M 18 T)) C Fc_X10 hk_18 mf_X10_is rfl ml_X10_190 (m_X10_is l (sn := 6) (by decide) _ _ eq5) rfl rfl (by omega) (by decide) (Nat.le_of_ble_eq_true rfl) dX10_nameWord_51 ?_
          refine dz_if_eq (pc := 54) (t := 60) C dX10_nameWord_54 (by decide) h (fun h => ?_) (fun h => ?_)
          · refine dz_aload_n (pc := 60) C dX10_nameWord_60 rfl 0 rfl ?_
            refine dz_ldcS (pc := 61) (n := 7) C rfl dX10_nameWord_61 ?_
            obtain ⟨q6, eq6, h⟩ := dt_bind h
            refine dz_callVi (pc := 63) (st := []) (k := 18) (As := [.ref (G.2.2.2.1 7)]) (M' := (dt_put M 18 T)) C Fc_X10 hk_18 mf_X10_is rfl ml_X10_190 (m_X10_is l (sn := 7) (by decide) _ _ eq6) rfl rfl (by omega) (by decide) (Nat.le_of_ble_eq_true rfl) dX10_nameWord_63 ?_
            refine dz_if_eq (pc := 66) (t := 72) C dX10_nameWord_66 (by decide) h (fun h => ?_) (fun h => ?_)
            · refine dz_aload_n (pc := 72) C dX10_nameWord_72 rfl 0 rfl ?_
              refine dz_ldcS (pc := 73) (n := 8) C rfl dX10_nameWord_73 ?_
              obtain ⟨q7, eq7, h⟩ := dt_bind h
              refine dz_callVi (pc := 75) (st := []) (k := 18) (As := [.ref (G.2.2.2.1 8)]) (M' := (dt_put M 18 T)) C Fc_X10 hk_18 mf_X10_is rfl ml_X10_190 (m_X10_is l (sn := 8) (by decide) _ _ eq7) rfl rfl (by omega) (by decide) (Nat.le_of_ble_eq_true rfl) dX10_nameWord_75 ?_
              refine dz_if_eq (pc := 78) (t := 86) C dX10_nameWord_78 (by decide) h (fun h => ?_) (fun h => ?_)
              · refine dz_iconst (pc := 86) (v := (1 : Int32)) C dX10_nameWord_86 (by decide) ?_
                cases dt_some h
                exact dz_iret (pc := 87) C hr dX10_nameWord_87
              · refine dz_bipush (pc := 81) (v := (47 : Int32)) C dX10_nameWord_81 (by decide) ?_
                refine dz_goto (pc := 83) (t := 87) C dX10_nameWord_83 (by decide) ?_
                cases dt_some h
                exact dz_iret (pc := 87) C hr dX10_nameWord_87
            · refine dz_bipush (pc := 69) (v := (46 : Int32)) C dX10_nameWord_69 (by decide) ?_
              cases dt_some h
              exact dz_iret (pc := 71) C hr dX10_nameWord_71
          · refine dz_bipush (pc := 57) (v := (45 : Int32)) C dX10_nameWord_57 (by decide) ?_
            cases dt_some h
            exact dz_iret (pc := 59) C hr dX10_nameWord_59
        · refine dz_bipush (pc := 45) (v := (44 : Int32)) C dX10_nameWord_45 (by decide) ?_
          cases dt_some h
          exact dz_iret (pc := 47) C hr dX10_nameWord_47
      · refine dz_bipush (pc := 33) (v := (43 : Int32)) C dX10_nameWord_33 (by decide) ?_
        cases dt_some h
        exact dz_iret (pc := 35) C hr dX10_nameWord_35
    · refine dz_bipush (pc := 21) (v := (42 : Int32)) C dX10_nameWord_21 (by decide) ?_
      cases dt_some h
      exact dz_iret (pc := 23) C hr dX10_nameWord_23
  · refine dz_bipush (pc := 9) (v := (41 : Int32)) C dX10_nameWord_9 (by decide) ?_
    cases dt_some h
    exact dz_iret (pc := 11) C hr dX10_nameWord_11

def fX10_word  (T : dt_Ob) : Option (Int32) := ((fX10_is 9 T).bind fun q1 => (if q1 = 0 then ((fX10_is 10 T).bind fun q2 => (if q2 = 0 then ((fX10_is 11 T).bind fun q3 => (if q3 = 0 then ((fX10_is 12 T).bind fun q4 => (if q4 = 0 then ((fX10_is 13 T).bind fun q5 => (if q5 = 0 then ((fX10_nameWord T).bind fun q6 => (some q6)) else (some (21 : Int32)))) else (some (20 : Int32)))) else (some (6 : Int32)))) else (some (5 : Int32)))) else (some (4 : Int32))))
set_option maxRecDepth 10000 in
set_option maxHeartbeats 4000000 in
theorem m_X10_word (l : Launch)  (M : dt_M) (T : dt_Ob)   {res : Int32} (h : fX10_word T = some res) : dt_Met 1 l yX10_word cX10_word 1 (some .int) 15 (fun G => [.ref (G.1 18 0)]) (dt_put M 18 T) (some (.int res)) (dt_put M 18 T) := by
  refine dz_enter (lv := fun G => [(0, .ref (G.1 18 0))]) (by decide) (fun _ => rfl) (fun _ => Nat.le_of_ble_eq_true rfl) (fun G A p e s m args below meth c C hr => ?_)
  unfold fX10_word at h
  refine dz_aload_n (pc := 0) C dX10_word_0 rfl 0 rfl ?_
  refine dz_ldcS (pc := 1) (n := 9) C rfl dX10_word_1 ?_
  obtain ⟨q1, eq1, h⟩ := dt_bind h
  refine dz_callVi (pc := 3) (st := []) (k := 18) (As := [.ref (G.2.2.2.1 9)]) (M' := (dt_put M 18 T)) C Fc_X10 hk_18 mf_X10_is rfl ml_X10_190 (m_X10_is l (sn := 9) (by decide) _ _ eq1) rfl rfl (by omega) (by decide) (Nat.le_of_ble_eq_true rfl) dX10_word_3 ?_
  refine dz_if_eq (pc := 6) (t := 11) C dX10_word_6 (by decide) h (fun h => ?_) (fun h => ?_)
  · refine dz_aload_n (pc := 11) C dX10_word_11 rfl 0 rfl ?_
    refine dz_ldcS (pc := 12) (n := 10) C rfl dX10_word_12 ?_
    obtain ⟨q2, eq2, h⟩ := dt_bind h
    refine dz_callVi (pc := 14) (st := []) (k := 18) (As := [.ref (G.2.2.2.1 10)]) (M' := (dt_put M 18 T)) C Fc_X10 hk_18 mf_X10_is rfl ml_X10_190 (m_X10_is l (sn := 10) (by decide) _ _ eq2) rfl rfl (by omega) (by decide) (Nat.le_of_ble_eq_true rfl) dX10_word_14 ?_
    refine dz_if_eq (pc := 17) (t := 22) C dX10_word_17 (by decide) h (fun h => ?_) (fun h => ?_)
    · refine dz_aload_n (pc := 22) C dX10_word_22 rfl 0 rfl ?_
      refine dz_ldcS (pc := 23) (n := 11) C rfl dX10_word_23 ?_
      obtain ⟨q3, eq3, h⟩ := dt_bind h
      refine dz_callVi (pc := 25) (st := []) (k := 18) (As := [.ref (G.2.2.2.1 11)]) (M' := (dt_put M 18 T)) C Fc_X10 hk_18 mf_X10_is rfl ml_X10_190 (m_X10_is l (sn := 11) (by decide) _ _ eq3) rfl rfl (by omega) (by decide) (Nat.le_of_ble_eq_true rfl) dX10_word_25 ?_
      refine dz_if_eq (pc := 28) (t := 34) C dX10_word_28 (by decide) h (fun h => ?_) (fun h => ?_)
      · refine dz_aload_n (pc := 34) C dX10_word_34 rfl 0 rfl ?_
        refine dz_ldcS (pc := 35) (n := 12) C rfl dX10_word_35 ?_
        obtain ⟨q4, eq4, h⟩ := dt_bind h
        refine dz_callVi (pc := 37) (st := []) (k := 18) (As := [.ref (G.2.2.2.1 12)]) (M' := (dt_put M 18 T)) C Fc_X10 hk_18 mf_X10_is rfl ml_X10_190 (m_X10_is l (sn := 12) (by decide) _ _ eq4) rfl rfl (by omega) (by decide) (Nat.le_of_ble_eq_true rfl) dX10_word_37 ?_
        refine dz_if_eq (pc := 40) (t := 46) C dX10_word_40 (by decide) h (fun h => ?_) (fun h => ?_)
        · refine dz_aload_n (pc := 46) C dX10_word_46 rfl 0 rfl ?_
          refine dz_ldcS (pc := 47) (n := 13) C rfl dX10_word_47 ?_
          obtain ⟨q5, eq5, h⟩ := dt_bind h
          refine dz_callVi (pc := 49) (st := []) (k := 18) (As := [.ref (G.2.2.2.1 13)]) (M' := (dt_put M 18 T)) C Fc_X10 hk_18 mf_X10_is rfl ml_X10_190 (m_X10_is l (sn := 13) (by decide) _ _ eq5) rfl rfl (by omega) (by decide) (Nat.le_of_ble_eq_true rfl) dX10_word_49 ?_
          refine dz_if_eq (pc := 52) (t := 60) C dX10_word_52 (by decide) h (fun h => ?_) (fun h => ?_)
          · refine dz_aload_n (pc := 60) C dX10_word_60 rfl 0 rfl ?_
            obtain ⟨q6, eq6, h⟩ := dt_bind h
            refine dz_callVi (pc := 61) (st := []) (k := 18) (As := []) (M' := (dt_put M 18 T)) C Fc_X10 hk_18 mf_X10_nameWord rfl ml_X10_215 (m_X10_nameWord l _ _ eq6) rfl rfl (by omega) (by decide) (Nat.le_of_ble_eq_true rfl) dX10_word_61 ?_
            cases dt_some h
            exact dz_iret (pc := 64) C hr dX10_word_64
          · refine dz_bipush (pc := 55) (v := (21 : Int32)) C dX10_word_55 (by decide) ?_
            refine dz_goto (pc := 57) (t := 64) C dX10_word_57 (by decide) ?_
            cases dt_some h
            exact dz_iret (pc := 64) C hr dX10_word_64
        · refine dz_bipush (pc := 43) (v := (20 : Int32)) C dX10_word_43 (by decide) ?_
          cases dt_some h
          exact dz_iret (pc := 45) C hr dX10_word_45
      · refine dz_bipush (pc := 31) (v := (6 : Int32)) C dX10_word_31 (by decide) ?_
        cases dt_some h
        exact dz_iret (pc := 33) C hr dX10_word_33
    · refine dz_iconst (pc := 20) (v := (5 : Int32)) C dX10_word_20 (by decide) ?_
      cases dt_some h
      exact dz_iret (pc := 21) C hr dX10_word_21
  · refine dz_iconst (pc := 9) (v := (4 : Int32)) C dX10_word_9 (by decide) ?_
    cases dt_some h
    exact dz_iret (pc := 10) C hr dX10_word_10

def fX10_next0_26 (r0 : dt_Ob → Option (dt_Ob)) (T : dt_Ob) : Option (dt_Ob) := (r0 (dt_set T 19 0 ((T 19 0) + (1 : Int32))))
set_option maxRecDepth 10000 in
set_option maxHeartbeats 4000000 in
theorem tX10_next0_26 {G : dt_G} {A : Nat → Prop} {p : Program} {l : Launch} {e : Env} {s : State} {m : MethodId} {args : Array Value} {below : List Frame} {meth : Method} {c : Code} (C : dt_Cx 1 G A p s m args meth c cX10_next0 3 RX10) (hr : meth.sig.returnType = none) {M : dt_M} {res : dt_Ob} {r0 : dt_Ob → Option (dt_Ob)} (hr0 : ∀ (T : dt_Ob), r0 T = some res → dt_At G A p l e (dt_rm 16) s m args below meth c 3 (MQ below (dt_Post G A none (dt_put M 18 res)) args s 0 0 A) 0 [(0, .ref (G.1 18 0))] [] (dt_put M 18 T)) : ∀ (T : dt_Ob), fX10_next0_26 r0 T = some res → dt_At G A p l e (dt_rm 16) s m args below meth c 3 (MQ below (dt_Post G A none (dt_put M 18 res)) args s 0 0 A) 26 [(0, .ref (G.1 18 0))] [] (dt_put M 18 T) := by
  intro T h
  unfold fX10_next0_26 at h
  refine dz_aload_n (pc := 26) C dX10_next0_26 rfl 0 rfl ?_
  refine dz_dup (pc := 27) C dX10_next0_27 rfl ?_
  refine dz_getI (pc := 28) (k := 18) (j := 19) (v := (T 19 0)) C Fc_X10 hk_18 (by decide) rfl rfl fl_X10_173 (dt_rA _ _ _ _ _) dX10_next0_28 ?_
  refine dz_iconst (pc := 31) (v := (1 : Int32)) C dX10_next0_31 (by decide) ?_
  refine dz_iadd (pc := 32) C dX10_next0_32 ?_
  refine dz_putI (pc := 33) (k := 18) (j := 19) (M' := (dt_put M 18 (dt_set T 19 0 ((T 19 0) + (1 : Int32))))) C Fc_X10 hk_18 (by decide) rfl rfl rfl rfl fl_X10_173 (dt_wA _ _ _ _ _ _) dX10_next0_33 ?_
  refine dz_goto (pc := 36) (t := 0) C dX10_next0_36 (by decide) ?_
  exact hr0 (dt_set T 19 0 ((T 19 0) + (1 : Int32))) h
def fX10_next0_303  (s1 : Int32) (T : dt_Ob) : Option (dt_Ob) := (some (dt_set T 20 0 s1))
set_option maxRecDepth 10000 in
set_option maxHeartbeats 4000000 in
theorem tX10_next0_303 {G : dt_G} {A : Nat → Prop} {p : Program} {l : Launch} {e : Env} {s : State} {m : MethodId} {args : Array Value} {below : List Frame} {meth : Method} {c : Code} (C : dt_Cx 1 G A p s m args meth c cX10_next0 3 RX10) (hr : meth.sig.returnType = none) {M : dt_M} {res : dt_Ob}  : ∀ (s1 : Int32) (T : dt_Ob), fX10_next0_303 s1 T = some res → dt_At G A p l e (dt_rm 16) s m args below meth c 3 (MQ below (dt_Post G A none (dt_put M 18 res)) args s 0 0 A) 303 [] [.int s1, .ref (G.1 18 0)] (dt_put M 18 T) := by
  intro s1 T h
  unfold fX10_next0_303 at h
  refine dz_putI (pc := 303) (k := 18) (j := 20) (M' := (dt_put M 18 (dt_set T 20 0 s1))) C Fc_X10 hk_18 (by decide) rfl rfl rfl rfl fl_X10_221 (dt_wA _ _ _ _ _ _) dX10_next0_303 ?_
  cases dt_some h
  exact dz_vret (pc := 306) C hr dX10_next0_306
def fX10_next0_289  (x1 : Int32) (s0 : Int32) (T : dt_Ob) : Option (dt_Ob) := (if s0 = 0 then (fX10_next0_303 (1 : Int32) T) else (fX10_next0_303 ((100 : Int32) + x1) T))
set_option maxRecDepth 10000 in
set_option maxHeartbeats 4000000 in
theorem tX10_next0_289 {G : dt_G} {A : Nat → Prop} {p : Program} {l : Launch} {e : Env} {s : State} {m : MethodId} {args : Array Value} {below : List Frame} {meth : Method} {c : Code} (C : dt_Cx 1 G A p s m args meth c cX10_next0 3 RX10) (hr : meth.sig.returnType = none) {M : dt_M} {res : dt_Ob}  : ∀ (x1 : Int32) (s0 : Int32) (T : dt_Ob), fX10_next0_289 x1 s0 T = some res → dt_At G A p l e (dt_rm 16) s m args below meth c 3 (MQ below (dt_Post G A none (dt_put M 18 res)) args s 0 0 A) 289 [(0, .ref (G.1 18 0)), (1, .int x1)] [.int s0] (dt_put M 18 T) := by
  intro x1 s0 T h
  unfold fX10_next0_289 at h
  refine dz_istore_n (pc := 289) C dX10_next0_289 rfl (by decide) rfl ?_
  refine dz_aload_n (pc := 290) C dX10_next0_290 rfl 1 rfl ?_
  refine dz_iload_n (pc := 291) C dX10_next0_291 rfl 0 rfl ?_
  refine dz_if_eq (pc := 292) (t := 302) C dX10_next0_292 (by decide) h (fun h => ?_) (fun h => ?_)
  · refine dz_iconst (pc := 302) (v := (1 : Int32)) C dX10_next0_302 (by decide) ?_
    refine dz_sub [] rfl ?_
    exact tX10_next0_303 C hr  (1 : Int32) T h
  · refine dz_bipush (pc := 295) (v := (100 : Int32)) C dX10_next0_295 (by decide) ?_
    refine dz_iload_n (pc := 297) C dX10_next0_297 rfl 2 rfl ?_
    refine dz_iadd (pc := 298) C dX10_next0_298 ?_
    refine dz_goto (pc := 299) (t := 303) C dX10_next0_299 (by decide) ?_
    refine dz_sub [] rfl ?_
    exact tX10_next0_303 C hr  ((100 : Int32) + x1) T h
def fX10_next0_284  (x1 : Int32) (T : dt_Ob) : Option (dt_Ob) := (fX10_next0_289 x1 (1 : Int32) T)
set_option maxRecDepth 10000 in
set_option maxHeartbeats 4000000 in
theorem tX10_next0_284 {G : dt_G} {A : Nat → Prop} {p : Program} {l : Launch} {e : Env} {s : State} {m : MethodId} {args : Array Value} {below : List Frame} {meth : Method} {c : Code} (C : dt_Cx 1 G A p s m args meth c cX10_next0 3 RX10) (hr : meth.sig.returnType = none) {M : dt_M} {res : dt_Ob}  : ∀ (x1 : Int32) (T : dt_Ob), fX10_next0_284 x1 T = some res → dt_At G A p l e (dt_rm 16) s m args below meth c 3 (MQ below (dt_Post G A none (dt_put M 18 res)) args s 0 0 A) 284 [(0, .ref (G.1 18 0)), (1, .int x1)] [] (dt_put M 18 T) := by
  intro x1 T h
  unfold fX10_next0_284 at h
  refine dz_iconst (pc := 284) (v := (1 : Int32)) C dX10_next0_284 (by decide) ?_
  refine dz_goto (pc := 285) (t := 289) C dX10_next0_285 (by decide) ?_
  exact tX10_next0_289 C hr  x1 (1 : Int32) T h
def fX10_next0_208  (s1 : Int32) (T : dt_Ob) : Option (dt_Ob) := (some (dt_set T 20 0 s1))
set_option maxRecDepth 10000 in
set_option maxHeartbeats 4000000 in
theorem tX10_next0_208 {G : dt_G} {A : Nat → Prop} {p : Program} {l : Launch} {e : Env} {s : State} {m : MethodId} {args : Array Value} {below : List Frame} {meth : Method} {c : Code} (C : dt_Cx 1 G A p s m args meth c cX10_next0 3 RX10) (hr : meth.sig.returnType = none) {M : dt_M} {res : dt_Ob}  : ∀ (s1 : Int32) (T : dt_Ob), fX10_next0_208 s1 T = some res → dt_At G A p l e (dt_rm 16) s m args below meth c 3 (MQ below (dt_Post G A none (dt_put M 18 res)) args s 0 0 A) 208 [] [.int s1, .ref (G.1 18 0)] (dt_put M 18 T) := by
  intro s1 T h
  unfold fX10_next0_208 at h
  refine dz_putI (pc := 208) (k := 18) (j := 20) (M' := (dt_put M 18 (dt_set T 20 0 s1))) C Fc_X10 hk_18 (by decide) rfl rfl rfl rfl fl_X10_221 (dt_wA _ _ _ _ _ _) dX10_next0_208 ?_
  refine dz_goto (pc := 211) (t := 306) C dX10_next0_211 (by decide) ?_
  cases dt_some h
  exact dz_vret (pc := 306) C hr dX10_next0_306
def fX10_next0_176 (r126 : dt_Ob → Option (dt_Ob)) (T : dt_Ob) : Option (dt_Ob) := (r126 (dt_set T 19 0 ((T 19 0) + (1 : Int32))))
set_option maxRecDepth 10000 in
set_option maxHeartbeats 4000000 in
theorem tX10_next0_176 {G : dt_G} {A : Nat → Prop} {p : Program} {l : Launch} {e : Env} {s : State} {m : MethodId} {args : Array Value} {below : List Frame} {meth : Method} {c : Code} (C : dt_Cx 1 G A p s m args meth c cX10_next0 3 RX10) (hr : meth.sig.returnType = none) {M : dt_M} {res : dt_Ob} {r126 : dt_Ob → Option (dt_Ob)} (hr126 : ∀ (T : dt_Ob), r126 T = some res → dt_At G A p l e (dt_rm 16) s m args below meth c 3 (MQ below (dt_Post G A none (dt_put M 18 res)) args s 0 0 A) 126 [(0, .ref (G.1 18 0))] [] (dt_put M 18 T)) : ∀ (T : dt_Ob), fX10_next0_176 r126 T = some res → dt_At G A p l e (dt_rm 16) s m args below meth c 3 (MQ below (dt_Post G A none (dt_put M 18 res)) args s 0 0 A) 176 [(0, .ref (G.1 18 0))] [] (dt_put M 18 T) := by
  intro T h
  unfold fX10_next0_176 at h
  refine dz_aload_n (pc := 176) C dX10_next0_176 rfl 0 rfl ?_
  refine dz_dup (pc := 177) C dX10_next0_177 rfl ?_
  refine dz_getI (pc := 178) (k := 18) (j := 19) (v := (T 19 0)) C Fc_X10 hk_18 (by decide) rfl rfl fl_X10_173 (dt_rA _ _ _ _ _) dX10_next0_178 ?_
  refine dz_iconst (pc := 181) (v := (1 : Int32)) C dX10_next0_181 (by decide) ?_
  refine dz_iadd (pc := 182) C dX10_next0_182 ?_
  refine dz_putI (pc := 183) (k := 18) (j := 19) (M' := (dt_put M 18 (dt_set T 19 0 ((T 19 0) + (1 : Int32))))) C Fc_X10 hk_18 (by decide) rfl rfl rfl rfl fl_X10_173 (dt_wA _ _ _ _ _ _) dX10_next0_183 ?_
  refine dz_goto (pc := 186) (t := 126) C dX10_next0_186 (by decide) ?_
  exact hr126 (dt_set T 19 0 ((T 19 0) + (1 : Int32))) h
def fX10_next0_126  : Nat → dt_Ob → Option (dt_Ob)
  | 0, _ => none
  | n + 1, T => ((fX10_see (T 19 0) T).bind fun q9 => ((fX10_isDigit q9).bind fun q10 => (if q10 = 0 then (if (5 : Int32) ≤ ((T 19 0) - (T 21 0)) then (fX10_next0_208 (1 : Int32) T) else (fX10_next0_208 (2 : Int32) T)) else (if ((T 21 0) + (4 : Int32)) ≤ (T 19 0) then (fX10_next0_176 (fX10_next0_126 n) T) else ((fX10_see (T 19 0) T).bind fun q11 => (fX10_next0_176 (fX10_next0_126 n) (dt_set T 22 0 ((((10 : Int32) * (T 22 0)) + q11) - (48 : Int32)))))))))
set_option maxRecDepth 10000 in
set_option maxHeartbeats 4000000 in
theorem tX10_next0_126 {G : dt_G} {A : Nat → Prop} {p : Program} {l : Launch} {e : Env} {s : State} {m : MethodId} {args : Array Value} {below : List Frame} {meth : Method} {c : Code} (C : dt_Cx 1 G A p s m args meth c cX10_next0 3 RX10) (hr : meth.sig.returnType = none) {M : dt_M} {res : dt_Ob}  : ∀ (n : Nat) (T : dt_Ob), fX10_next0_126 n T = some res → dt_At G A p l e (dt_rm 16) s m args below meth c 3 (MQ below (dt_Post G A none (dt_put M 18 res)) args s 0 0 A) 126 [(0, .ref (G.1 18 0))] [] (dt_put M 18 T) := by
  intro n
  induction n with
  | zero =>
    intro T h
    unfold fX10_next0_126 at h
    cases h
  | succ n ih =>
    intro T h
    unfold fX10_next0_126 at h
    refine dz_aload_n (pc := 126) C dX10_next0_126 rfl 0 rfl ?_
    refine dz_aload_n (pc := 127) C dX10_next0_127 rfl 0 rfl ?_
    refine dz_getI (pc := 128) (k := 18) (j := 19) (v := (T 19 0)) C Fc_X10 hk_18 (by decide) rfl rfl fl_X10_173 (dt_rA _ _ _ _ _) dX10_next0_128 ?_
    obtain ⟨q9, eq9, h⟩ := dt_bind h
    refine dz_callVi (pc := 131) (st := []) (k := 18) (As := [.int (T 19 0)]) (M' := (dt_put M 18 T)) C Fc_X10 hk_18 mf_X10_see rfl ml_X10_218 (m_X10_see l _ _ _ eq9) rfl rfl (by omega) (by decide) (Nat.le_of_ble_eq_true rfl) dX10_next0_131 ?_
    obtain ⟨q10, eq10, h⟩ := dt_bind h
    refine dz_callSi (pc := 134) (st := []) (As := [.int q9]) (M' := (dt_put M 18 T)) C ms_X10_isDigit ml_X10_230 (m_X10_isDigit l _ _ eq10) rfl rfl (by omega) (by decide) (Nat.le_of_ble_eq_true rfl) dX10_next0_134 ?_
    refine dz_if_eq (pc := 137) (t := 189) C dX10_next0_137 (by decide) h (fun h => ?_) (fun h => ?_)
    · refine dz_aload_n (pc := 189) C dX10_next0_189 rfl 0 rfl ?_
      refine dz_aload_n (pc := 190) C dX10_next0_190 rfl 0 rfl ?_
      refine dz_getI (pc := 191) (k := 18) (j := 19) (v := (T 19 0)) C Fc_X10 hk_18 (by decide) rfl rfl fl_X10_173 (dt_rA _ _ _ _ _) dX10_next0_191 ?_
      refine dz_aload_n (pc := 194) C dX10_next0_194 rfl 0 rfl ?_
      refine dz_getI (pc := 195) (k := 18) (j := 21) (v := (T 21 0)) C Fc_X10 hk_18 (by decide) rfl rfl fl_X10_176 (dt_rA _ _ _ _ _) dX10_next0_195 ?_
      refine dz_isub (pc := 198) C dX10_next0_198 ?_
      refine dz_iconst (pc := 199) (v := (5 : Int32)) C dX10_next0_199 (by decide) ?_
      refine dz_icmp_ge (pc := 200) (t := 207) C dX10_next0_200 (by decide) h (fun h => ?_) (fun h => ?_)
      · refine dz_iconst (pc := 207) (v := (1 : Int32)) C dX10_next0_207 (by decide) ?_
        refine dz_sub [] rfl ?_
        exact tX10_next0_208 C hr  (1 : Int32) T h
      · refine dz_iconst (pc := 203) (v := (2 : Int32)) C dX10_next0_203 (by decide) ?_
        refine dz_goto (pc := 204) (t := 208) C dX10_next0_204 (by decide) ?_
        refine dz_sub [] rfl ?_
        exact tX10_next0_208 C hr  (2 : Int32) T h
    · refine dz_aload_n (pc := 140) C dX10_next0_140 rfl 0 rfl ?_
      refine dz_getI (pc := 141) (k := 18) (j := 19) (v := (T 19 0)) C Fc_X10 hk_18 (by decide) rfl rfl fl_X10_173 (dt_rA _ _ _ _ _) dX10_next0_141 ?_
      refine dz_aload_n (pc := 144) C dX10_next0_144 rfl 0 rfl ?_
      refine dz_getI (pc := 145) (k := 18) (j := 21) (v := (T 21 0)) C Fc_X10 hk_18 (by decide) rfl rfl fl_X10_176 (dt_rA _ _ _ _ _) dX10_next0_145 ?_
      refine dz_iconst (pc := 148) (v := (4 : Int32)) C dX10_next0_148 (by decide) ?_
      refine dz_iadd (pc := 149) C dX10_next0_149 ?_
      refine dz_icmp_ge (pc := 150) (t := 176) C dX10_next0_150 (by decide) h (fun h => ?_) (fun h => ?_)
      · exact tX10_next0_176 C hr ih T h
      · refine dz_aload_n (pc := 153) C dX10_next0_153 rfl 0 rfl ?_
        refine dz_bipush (pc := 154) (v := (10 : Int32)) C dX10_next0_154 (by decide) ?_
        refine dz_aload_n (pc := 156) C dX10_next0_156 rfl 0 rfl ?_
        refine dz_getI (pc := 157) (k := 18) (j := 22) (v := (T 22 0)) C Fc_X10 hk_18 (by decide) rfl rfl fl_X10_233 (dt_rA _ _ _ _ _) dX10_next0_157 ?_
        refine dz_imul (pc := 160) C dX10_next0_160 ?_
        refine dz_aload_n (pc := 161) C dX10_next0_161 rfl 0 rfl ?_
        refine dz_aload_n (pc := 162) C dX10_next0_162 rfl 0 rfl ?_
        refine dz_getI (pc := 163) (k := 18) (j := 19) (v := (T 19 0)) C Fc_X10 hk_18 (by decide) rfl rfl fl_X10_173 (dt_rA _ _ _ _ _) dX10_next0_163 ?_
        obtain ⟨q11, eq11, h⟩ := dt_bind h
        refine dz_callVi (pc := 166) (st := [.int ((10 : Int32) * (T 22 0)), .ref (G.1 18 0)]) (k := 18) (As := [.int (T 19 0)]) (M' := (dt_put M 18 T)) C Fc_X10 hk_18 mf_X10_see rfl ml_X10_218 (m_X10_see l _ _ _ eq11) rfl rfl (by omega) (by decide) (Nat.le_of_ble_eq_true rfl) dX10_next0_166 ?_
        refine dz_iadd (pc := 169) C dX10_next0_169 ?_
        refine dz_bipush (pc := 170) (v := (48 : Int32)) C dX10_next0_170 (by decide) ?_
        refine dz_isub (pc := 172) C dX10_next0_172 ?_
        refine dz_putI (pc := 173) (k := 18) (j := 22) (M' := (dt_put M 18 (dt_set T 22 0 ((((10 : Int32) * (T 22 0)) + q11) - (48 : Int32))))) C Fc_X10 hk_18 (by decide) rfl rfl rfl rfl fl_X10_233 (dt_wA _ _ _ _ _ _) dX10_next0_173 ?_
        exact tX10_next0_176 C hr ih (dt_set T 22 0 ((((10 : Int32) * (T 22 0)) + q11) - (48 : Int32))) h
def fX10_next0_76  : Nat → dt_Ob → Option (dt_Ob)
  | 0, _ => none
  | n + 1, T => ((fX10_see (T 19 0) T).bind fun q6 => ((fX10_isLetter q6).bind fun q7 => (if q7 = 0 then ((fX10_word T).bind fun q8 => (some (dt_set T 20 0 q8))) else ((fX10_next0_76 n) (dt_set T 19 0 ((T 19 0) + (1 : Int32)))))))
set_option maxRecDepth 10000 in
set_option maxHeartbeats 4000000 in
theorem tX10_next0_76 {G : dt_G} {A : Nat → Prop} {p : Program} {l : Launch} {e : Env} {s : State} {m : MethodId} {args : Array Value} {below : List Frame} {meth : Method} {c : Code} (C : dt_Cx 1 G A p s m args meth c cX10_next0 3 RX10) (hr : meth.sig.returnType = none) {M : dt_M} {res : dt_Ob}  : ∀ (n : Nat) (T : dt_Ob), fX10_next0_76 n T = some res → dt_At G A p l e (dt_rm 16) s m args below meth c 3 (MQ below (dt_Post G A none (dt_put M 18 res)) args s 0 0 A) 76 [(0, .ref (G.1 18 0))] [] (dt_put M 18 T) := by
  intro n
  induction n with
  | zero =>
    intro T h
    unfold fX10_next0_76 at h
    cases h
  | succ n ih =>
    intro T h
    unfold fX10_next0_76 at h
    refine dz_aload_n (pc := 76) C dX10_next0_76 rfl 0 rfl ?_
    refine dz_aload_n (pc := 77) C dX10_next0_77 rfl 0 rfl ?_
    refine dz_getI (pc := 78) (k := 18) (j := 19) (v := (T 19 0)) C Fc_X10 hk_18 (by decide) rfl rfl fl_X10_173 (dt_rA _ _ _ _ _) dX10_next0_78 ?_
    obtain ⟨q6, eq6, h⟩ := dt_bind h
    refine dz_callVi (pc := 81) (st := []) (k := 18) (As := [.int (T 19 0)]) (M' := (dt_put M 18 T)) C Fc_X10 hk_18 mf_X10_see rfl ml_X10_218 (m_X10_see l _ _ _ eq6) rfl rfl (by omega) (by decide) (Nat.le_of_ble_eq_true rfl) dX10_next0_81 ?_
    obtain ⟨q7, eq7, h⟩ := dt_bind h
    refine dz_callSi (pc := 84) (st := []) (As := [.int q6]) (M' := (dt_put M 18 T)) C ms_X10_isLetter ml_X10_224 (m_X10_isLetter l _ _ eq7) rfl rfl (by omega) (by decide) (Nat.le_of_ble_eq_true rfl) dX10_next0_84 ?_
    refine dz_if_eq (pc := 87) (t := 103) C dX10_next0_87 (by decide) h (fun h => ?_) (fun h => ?_)
    · refine dz_aload_n (pc := 103) C dX10_next0_103 rfl 0 rfl ?_
      refine dz_aload_n (pc := 104) C dX10_next0_104 rfl 0 rfl ?_
      obtain ⟨q8, eq8, h⟩ := dt_bind h
      refine dz_callVi (pc := 105) (st := [.ref (G.1 18 0)]) (k := 18) (As := []) (M' := (dt_put M 18 T)) C Fc_X10 hk_18 mf_X10_word rfl ml_X10_227 (m_X10_word l _ _ eq8) rfl rfl (by omega) (by decide) (Nat.le_of_ble_eq_true rfl) dX10_next0_105 ?_
      refine dz_putI (pc := 108) (k := 18) (j := 20) (M' := (dt_put M 18 (dt_set T 20 0 q8))) C Fc_X10 hk_18 (by decide) rfl rfl rfl rfl fl_X10_221 (dt_wA _ _ _ _ _ _) dX10_next0_108 ?_
      refine dz_goto (pc := 111) (t := 306) C dX10_next0_111 (by decide) ?_
      cases dt_some h
      exact dz_vret (pc := 306) C hr dX10_next0_306
    · refine dz_aload_n (pc := 90) C dX10_next0_90 rfl 0 rfl ?_
      refine dz_dup (pc := 91) C dX10_next0_91 rfl ?_
      refine dz_getI (pc := 92) (k := 18) (j := 19) (v := (T 19 0)) C Fc_X10 hk_18 (by decide) rfl rfl fl_X10_173 (dt_rA _ _ _ _ _) dX10_next0_92 ?_
      refine dz_iconst (pc := 95) (v := (1 : Int32)) C dX10_next0_95 (by decide) ?_
      refine dz_iadd (pc := 96) C dX10_next0_96 ?_
      refine dz_putI (pc := 97) (k := 18) (j := 19) (M' := (dt_put M 18 (dt_set T 19 0 ((T 19 0) + (1 : Int32))))) C Fc_X10 hk_18 (by decide) rfl rfl rfl rfl fl_X10_173 (dt_wA _ _ _ _ _ _) dX10_next0_97 ?_
      refine dz_goto (pc := 100) (t := 76) C dX10_next0_100 (by decide) ?_
      exact ih (dt_set T 19 0 ((T 19 0) + (1 : Int32))) h
def fX10_next0_0  : Nat → dt_Ob → Option (dt_Ob)
  | 0, _ => none
  | n + 1, T => ((fX10_see (T 19 0) T).bind fun q1 => (if q1 = (32 : Int32) then (fX10_next0_26 (fX10_next0_0 n) T) else ((fX10_see (T 19 0) T).bind fun q2 => (if q2 = (10 : Int32) then (fX10_next0_26 (fX10_next0_0 n) T) else ((fX10_see (T 19 0) (dt_set T 21 0 (T 19 0))).bind fun q3 => (if q3 = (-1 : Int32) then (some (dt_set (dt_set T 21 0 (T 19 0)) 20 0 (0 : Int32))) else ((fX10_isLetter q3).bind fun q4 => (if q4 = 0 then ((fX10_isDigit q3).bind fun q5 => (if q5 = 0 then (if q3 = (59 : Int32) then (fX10_next0_284 q3 (dt_set (dt_set T 21 0 (T 19 0)) 19 0 ((T 19 0) + (1 : Int32)))) else (if q3 = (43 : Int32) then (fX10_next0_284 q3 (dt_set (dt_set T 21 0 (T 19 0)) 19 0 ((T 19 0) + (1 : Int32)))) else (if q3 = (45 : Int32) then (fX10_next0_284 q3 (dt_set (dt_set T 21 0 (T 19 0)) 19 0 ((T 19 0) + (1 : Int32)))) else (if q3 = (42 : Int32) then (fX10_next0_284 q3 (dt_set (dt_set T 21 0 (T 19 0)) 19 0 ((T 19 0) + (1 : Int32)))) else (if q3 = (47 : Int32) then (fX10_next0_284 q3 (dt_set (dt_set T 21 0 (T 19 0)) 19 0 ((T 19 0) + (1 : Int32)))) else (if q3 = (40 : Int32) then (fX10_next0_284 q3 (dt_set (dt_set T 21 0 (T 19 0)) 19 0 ((T 19 0) + (1 : Int32)))) else (if q3 = (41 : Int32) then (fX10_next0_284 q3 (dt_set (dt_set T 21 0 (T 19 0)) 19 0 ((T 19 0) + (1 : Int32)))) else (if q3 = (60 : Int32) then (fX10_next0_284 q3 (dt_set (dt_set T 21 0 (T 19 0)) 19 0 ((T 19 0) + (1 : Int32)))) else (if q3 = (61 : Int32) then (fX10_next0_284 q3 (dt_set (dt_set T 21 0 (T 19 0)) 19 0 ((T 19 0) + (1 : Int32)))) else (if q3 = (62 : Int32) then (fX10_next0_284 q3 (dt_set (dt_set T 21 0 (T 19 0)) 19 0 ((T 19 0) + (1 : Int32)))) else (fX10_next0_289 q3 (0 : Int32) (dt_set (dt_set T 21 0 (T 19 0)) 19 0 ((T 19 0) + (1 : Int32)))))))))))))) else (fX10_next0_126 dt_F (dt_set (dt_set T 21 0 (T 19 0)) 22 0 (0 : Int32))))) else (fX10_next0_76 dt_F (dt_set T 21 0 (T 19 0)))))))))))
set_option maxRecDepth 10000 in
set_option maxHeartbeats 4000000 in
theorem tX10_next0_0 {G : dt_G} {A : Nat → Prop} {p : Program} {l : Launch} {e : Env} {s : State} {m : MethodId} {args : Array Value} {below : List Frame} {meth : Method} {c : Code} (C : dt_Cx 1 G A p s m args meth c cX10_next0 3 RX10) (hr : meth.sig.returnType = none) {M : dt_M} {res : dt_Ob}  : ∀ (n : Nat) (T : dt_Ob), fX10_next0_0 n T = some res → dt_At G A p l e (dt_rm 16) s m args below meth c 3 (MQ below (dt_Post G A none (dt_put M 18 res)) args s 0 0 A) 0 [(0, .ref (G.1 18 0))] [] (dt_put M 18 T) := by
  intro n
  induction n with
  | zero =>
    intro T h
    unfold fX10_next0_0 at h
    cases h
  | succ n ih =>
    intro T h
    unfold fX10_next0_0 at h
    refine dz_aload_n (pc := 0) C dX10_next0_0 rfl 0 rfl ?_
    refine dz_aload_n (pc := 1) C dX10_next0_1 rfl 0 rfl ?_
    refine dz_getI (pc := 2) (k := 18) (j := 19) (v := (T 19 0)) C Fc_X10 hk_18 (by decide) rfl rfl fl_X10_173 (dt_rA _ _ _ _ _) dX10_next0_2 ?_
    obtain ⟨q1, eq1, h⟩ := dt_bind h
    refine dz_callVi (pc := 5) (st := []) (k := 18) (As := [.int (T 19 0)]) (M' := (dt_put M 18 T)) C Fc_X10 hk_18 mf_X10_see rfl ml_X10_218 (m_X10_see l _ _ _ eq1) rfl rfl (by omega) (by decide) (Nat.le_of_ble_eq_true rfl) dX10_next0_5 ?_
    refine dz_bipush (pc := 8) (v := (32 : Int32)) C dX10_next0_8 (by decide) ?_
    refine dz_icmp_eq (pc := 10) (t := 26) C dX10_next0_10 (by decide) h (fun h => ?_) (fun h => ?_)
    · exact tX10_next0_26 C hr ih T h
    · refine dz_aload_n (pc := 13) C dX10_next0_13 rfl 0 rfl ?_
      refine dz_aload_n (pc := 14) C dX10_next0_14 rfl 0 rfl ?_
      refine dz_getI (pc := 15) (k := 18) (j := 19) (v := (T 19 0)) C Fc_X10 hk_18 (by decide) rfl rfl fl_X10_173 (dt_rA _ _ _ _ _) dX10_next0_15 ?_
      obtain ⟨q2, eq2, h⟩ := dt_bind h
      refine dz_callVi (pc := 18) (st := []) (k := 18) (As := [.int (T 19 0)]) (M' := (dt_put M 18 T)) C Fc_X10 hk_18 mf_X10_see rfl ml_X10_218 (m_X10_see l _ _ _ eq2) rfl rfl (by omega) (by decide) (Nat.le_of_ble_eq_true rfl) dX10_next0_18 ?_
      refine dz_bipush (pc := 21) (v := (10 : Int32)) C dX10_next0_21 (by decide) ?_
      refine dz_icmp_ne (pc := 23) (t := 39) C dX10_next0_23 (by decide) h (fun h => ?_) (fun h => ?_)
      · refine dz_aload_n (pc := 39) C dX10_next0_39 rfl 0 rfl ?_
        refine dz_aload_n (pc := 40) C dX10_next0_40 rfl 0 rfl ?_
        refine dz_getI (pc := 41) (k := 18) (j := 19) (v := (T 19 0)) C Fc_X10 hk_18 (by decide) rfl rfl fl_X10_173 (dt_rA _ _ _ _ _) dX10_next0_41 ?_
        refine dz_putI (pc := 44) (k := 18) (j := 21) (M' := (dt_put M 18 (dt_set T 21 0 (T 19 0)))) C Fc_X10 hk_18 (by decide) rfl rfl rfl rfl fl_X10_176 (dt_wA _ _ _ _ _ _) dX10_next0_44 ?_
        refine dz_aload_n (pc := 47) C dX10_next0_47 rfl 0 rfl ?_
        refine dz_aload_n (pc := 48) C dX10_next0_48 rfl 0 rfl ?_
        refine dz_getI (pc := 49) (k := 18) (j := 19) (v := (T 19 0)) C Fc_X10 hk_18 (by decide) rfl rfl fl_X10_173 (dt_rA _ _ _ _ _) dX10_next0_49 ?_
        obtain ⟨q3, eq3, h⟩ := dt_bind h
        refine dz_callVi (pc := 52) (st := []) (k := 18) (As := [.int (T 19 0)]) (M' := (dt_put M 18 (dt_set T 21 0 (T 19 0)))) C Fc_X10 hk_18 mf_X10_see rfl ml_X10_218 (m_X10_see l _ _ _ eq3) rfl rfl (by omega) (by decide) (Nat.le_of_ble_eq_true rfl) dX10_next0_52 ?_
        refine dz_istore_n (pc := 55) C dX10_next0_55 rfl (by decide) rfl ?_
        refine dz_iload_n (pc := 56) C dX10_next0_56 rfl 0 rfl ?_
        refine dz_iconst (pc := 57) (v := (-1 : Int32)) C dX10_next0_57 (by decide) ?_
        refine dz_icmp_ne (pc := 58) (t := 69) C dX10_next0_58 (by decide) h (fun h => ?_) (fun h => ?_)
        · refine dz_iload_n (pc := 69) C dX10_next0_69 rfl 0 rfl ?_
          obtain ⟨q4, eq4, h⟩ := dt_bind h
          refine dz_callSi (pc := 70) (st := []) (As := [.int q3]) (M' := (dt_put M 18 (dt_set T 21 0 (T 19 0)))) C ms_X10_isLetter ml_X10_224 (m_X10_isLetter l _ _ eq4) rfl rfl (by omega) (by decide) (Nat.le_of_ble_eq_true rfl) dX10_next0_70 ?_
          refine dz_if_eq (pc := 73) (t := 114) C dX10_next0_73 (by decide) h (fun h => ?_) (fun h => ?_)
          · refine dz_iload_n (pc := 114) C dX10_next0_114 rfl 0 rfl ?_
            obtain ⟨q5, eq5, h⟩ := dt_bind h
            refine dz_callSi (pc := 115) (st := []) (As := [.int q3]) (M' := (dt_put M 18 (dt_set T 21 0 (T 19 0)))) C ms_X10_isDigit ml_X10_230 (m_X10_isDigit l _ _ eq5) rfl rfl (by omega) (by decide) (Nat.le_of_ble_eq_true rfl) dX10_next0_115 ?_
            refine dz_if_eq (pc := 118) (t := 214) C dX10_next0_118 (by decide) h (fun h => ?_) (fun h => ?_)
            · refine dz_aload_n (pc := 214) C dX10_next0_214 rfl 1 rfl ?_
              refine dz_dup (pc := 215) C dX10_next0_215 rfl ?_
              refine dz_getI (pc := 216) (k := 18) (j := 19) (v := (T 19 0)) C Fc_X10 hk_18 (by decide) rfl rfl fl_X10_173 (dt_rA _ _ _ _ _) dX10_next0_216 ?_
              refine dz_iconst (pc := 219) (v := (1 : Int32)) C dX10_next0_219 (by decide) ?_
              refine dz_iadd (pc := 220) C dX10_next0_220 ?_
              refine dz_putI (pc := 221) (k := 18) (j := 19) (M' := (dt_put M 18 (dt_set (dt_set T 21 0 (T 19 0)) 19 0 ((T 19 0) + (1 : Int32))))) C Fc_X10 hk_18 (by decide) rfl rfl rfl rfl fl_X10_173 (dt_wA _ _ _ _ _ _) dX10_next0_221 ?_
              refine dz_iload_n (pc := 224) C dX10_next0_224 rfl 0 rfl ?_
              refine dz_bipush (pc := 225) (v := (59 : Int32)) C dX10_next0_225 (by decide) ?_
              refine dz_icmp_eq (pc := 227) (t := 284) C dX10_next0_227 (by decide) h (fun h => ?_) (fun h => ?_)
              · refine dz_sub [1, 0] rfl ?_
                exact tX10_next0_284 C hr  q3 (dt_set (dt_set T 21 0 (T 19 0)) 19 0 ((T 19 0) + (1 : Int32))) h
              · refine dz_iload_n (pc := 230) C dX10_next0_230 rfl 0 rfl ?_
                refine dz_bipush (pc := 231) (v := (43 : Int32)) C dX10_next0_231 (by decide) ?_
                refine dz_icmp_eq (pc := 233) (t := 284) C dX10_next0_233 (by decide) h (fun h => ?_) (fun h => ?_)
                · refine dz_sub [1, 0] rfl ?_
                  exact tX10_next0_284 C hr  q3 (dt_set (dt_set T 21 0 (T 19 0)) 19 0 ((T 19 0) + (1 : Int32))) h
                · refine dz_iload_n (pc := 236) C dX10_next0_236 rfl 0 rfl ?_
                  refine dz_bipush (pc := 237) (v := (45 : Int32)) C dX10_next0_237 (by decide) ?_
                  refine dz_icmp_eq (pc := 239) (t := 284) C dX10_next0_239 (by decide) h (fun h => ?_) (fun h => ?_)
                  · refine dz_sub [1, 0] rfl ?_
                    exact tX10_next0_284 C hr  q3 (dt_set (dt_set T 21 0 (T 19 0)) 19 0 ((T 19 0) + (1 : Int32))) h
                  · refine dz_iload_n (pc := 242) C dX10_next0_242 rfl 0 rfl ?_
                    refine dz_bipush (pc := 243) (v := (42 : Int32)) C dX10_next0_243 (by decide) ?_
                    refine dz_icmp_eq (pc := 245) (t := 284) C dX10_next0_245 (by decide) h (fun h => ?_) (fun h => ?_)
                    · refine dz_sub [1, 0] rfl ?_
                      exact tX10_next0_284 C hr  q3 (dt_set (dt_set T 21 0 (T 19 0)) 19 0 ((T 19 0) + (1 : Int32))) h
                    · refine dz_iload_n (pc := 248) C dX10_next0_248 rfl 0 rfl ?_
                      refine dz_bipush (pc := 249) (v := (47 : Int32)) C dX10_next0_249 (by decide) ?_
                      refine dz_icmp_eq (pc := 251) (t := 284) C dX10_next0_251 (by decide) h (fun h => ?_) (fun h => ?_)
                      · refine dz_sub [1, 0] rfl ?_
                        exact tX10_next0_284 C hr  q3 (dt_set (dt_set T 21 0 (T 19 0)) 19 0 ((T 19 0) + (1 : Int32))) h
                      · refine dz_iload_n (pc := 254) C dX10_next0_254 rfl 0 rfl ?_
                        refine dz_bipush (pc := 255) (v := (40 : Int32)) C dX10_next0_255 (by decide) ?_
                        refine dz_icmp_eq (pc := 257) (t := 284) C dX10_next0_257 (by decide) h (fun h => ?_) (fun h => ?_)
                        · refine dz_sub [1, 0] rfl ?_
                          exact tX10_next0_284 C hr  q3 (dt_set (dt_set T 21 0 (T 19 0)) 19 0 ((T 19 0) + (1 : Int32))) h
                        · refine dz_iload_n (pc := 260) C dX10_next0_260 rfl 0 rfl ?_
                          refine dz_bipush (pc := 261) (v := (41 : Int32)) C dX10_next0_261 (by decide) ?_
                          refine dz_icmp_eq (pc := 263) (t := 284) C dX10_next0_263 (by decide) h (fun h => ?_) (fun h => ?_)
                          · refine dz_sub [1, 0] rfl ?_
                            exact tX10_next0_284 C hr  q3 (dt_set (dt_set T 21 0 (T 19 0)) 19 0 ((T 19 0) + (1 : Int32))) h
                          · refine dz_iload_n (pc := 266) C dX10_next0_266 rfl 0 rfl ?_
                            refine dz_bipush (pc := 267) (v := (60 : Int32)) C dX10_next0_267 (by decide) ?_
                            refine dz_icmp_eq (pc := 269) (t := 284) C dX10_next0_269 (by decide) h (fun h => ?_) (fun h => ?_)
                            · refine dz_sub [1, 0] rfl ?_
                              exact tX10_next0_284 C hr  q3 (dt_set (dt_set T 21 0 (T 19 0)) 19 0 ((T 19 0) + (1 : Int32))) h
                            · refine dz_iload_n (pc := 272) C dX10_next0_272 rfl 0 rfl ?_
                              refine dz_bipush (pc := 273) (v := (61 : Int32)) C dX10_next0_273 (by decide) ?_
                              refine dz_icmp_eq (pc := 275) (t := 284) C dX10_next0_275 (by decide) h (fun h => ?_) (fun h => ?_)
                              · refine dz_sub [1, 0] rfl ?_
                                exact tX10_next0_284 C hr  q3 (dt_set (dt_set T 21 0 (T 19 0)) 19 0 ((T 19 0) + (1 : Int32))) h
                              · refine dz_iload_n (pc := 278) C dX10_next0_278 rfl 0 rfl ?_
                                refine dz_bipush (pc := 279) (v := (62 : Int32)) C dX10_next0_279 (by decide) ?_
                                refine dz_icmp_ne (pc := 281) (t := 288) C dX10_next0_281 (by decide) h (fun h => ?_) (fun h => ?_)
                                · refine dz_iconst (pc := 288) (v := (0 : Int32)) C dX10_next0_288 (by decide) ?_
                                  refine dz_sub [1, 0] rfl ?_
                                  exact tX10_next0_289 C hr  q3 (0 : Int32) (dt_set (dt_set T 21 0 (T 19 0)) 19 0 ((T 19 0) + (1 : Int32))) h
                                · refine dz_sub [1, 0] rfl ?_
                                  exact tX10_next0_284 C hr  q3 (dt_set (dt_set T 21 0 (T 19 0)) 19 0 ((T 19 0) + (1 : Int32))) h
            · refine dz_aload_n (pc := 121) C dX10_next0_121 rfl 1 rfl ?_
              refine dz_iconst (pc := 122) (v := (0 : Int32)) C dX10_next0_122 (by decide) ?_
              refine dz_putI (pc := 123) (k := 18) (j := 22) (M' := (dt_put M 18 (dt_set (dt_set T 21 0 (T 19 0)) 22 0 (0 : Int32)))) C Fc_X10 hk_18 (by decide) rfl rfl rfl rfl fl_X10_233 (dt_wA _ _ _ _ _ _) dX10_next0_123 ?_
              refine dz_sub [1] rfl ?_
              exact tX10_next0_126 C hr dt_F (dt_set (dt_set T 21 0 (T 19 0)) 22 0 (0 : Int32)) h
          · refine dz_sub [1] rfl ?_
            exact tX10_next0_76 C hr dt_F (dt_set T 21 0 (T 19 0)) h
        · refine dz_aload_n (pc := 61) C dX10_next0_61 rfl 1 rfl ?_
          refine dz_iconst (pc := 62) (v := (0 : Int32)) C dX10_next0_62 (by decide) ?_
          refine dz_putI (pc := 63) (k := 18) (j := 20) (M' := (dt_put M 18 (dt_set (dt_set T 21 0 (T 19 0)) 20 0 (0 : Int32)))) C Fc_X10 hk_18 (by decide) rfl rfl rfl rfl fl_X10_221 (dt_wA _ _ _ _ _ _) dX10_next0_63 ?_
          refine dz_goto (pc := 66) (t := 306) C dX10_next0_66 (by decide) ?_
          cases dt_some h
          exact dz_vret (pc := 306) C hr dX10_next0_306
      · exact tX10_next0_26 C hr ih T h
def fX10_next0  (T : dt_Ob) : Option (dt_Ob) := (fX10_next0_0 dt_F T)
set_option maxRecDepth 10000 in
set_option maxHeartbeats 4000000 in
theorem m_X10_next0 (l : Launch)  (M : dt_M) (T : dt_Ob)   {res : dt_Ob} (h : fX10_next0 T = some res) : dt_Met 1 l yX10_next0 cX10_next0 3 none 16 (fun G => [.ref (G.1 18 0)]) (dt_put M 18 T) none (dt_put M 18 res) := by
  refine dz_enter (lv := fun G => [(0, .ref (G.1 18 0))]) (by decide) (fun _ => rfl) (fun _ => Nat.le_of_ble_eq_true rfl) (fun G A p e s m args below meth c C hr => ?_)
  unfold fX10_next0 at h
  exact tX10_next0_0 C hr dt_F T h

def fX10_bad  (x1 : Int32) (T : dt_Ob) : Option (Int32 × dt_Ob) := (some ((0 : Int32), (dt_set (dt_set T 23 0 x1) 24 0 (T 21 0))))
set_option maxRecDepth 10000 in
set_option maxHeartbeats 4000000 in
theorem m_X10_bad (l : Launch)  (M : dt_M) (T : dt_Ob)  (x1 : Int32) {res : Int32 × dt_Ob} (h : fX10_bad x1 T = some res) : dt_Met 1 l yX10_bad cX10_bad 2 (some .boolean) 1 (fun G => [.ref (G.1 18 0), .int x1]) (dt_put M 18 T) (some (.int res.1)) (dt_put M 18 res.2) := by
  refine dz_enter (lv := fun G => [(0, .ref (G.1 18 0)), (1, .int x1)]) (by decide) (fun _ => rfl) (fun _ => Nat.le_of_ble_eq_true rfl) (fun G A p e s m args below meth c C hr => ?_)
  unfold fX10_bad at h
  refine dz_aload_n (pc := 0) C dX10_bad_0 rfl 0 rfl ?_
  refine dz_iload_n (pc := 1) C dX10_bad_1 rfl 1 rfl ?_
  refine dz_putI (pc := 2) (k := 18) (j := 23) (M' := (dt_put M 18 (dt_set T 23 0 x1))) C Fc_X10 hk_18 (by decide) rfl rfl rfl rfl fl_X10_236 (dt_wA _ _ _ _ _ _) dX10_bad_2 ?_
  refine dz_aload_n (pc := 5) C dX10_bad_5 rfl 0 rfl ?_
  refine dz_aload_n (pc := 6) C dX10_bad_6 rfl 0 rfl ?_
  refine dz_getI (pc := 7) (k := 18) (j := 21) (v := (T 21 0)) C Fc_X10 hk_18 (by decide) rfl rfl fl_X10_176 (dt_rA _ _ _ _ _) dX10_bad_7 ?_
  refine dz_putI (pc := 10) (k := 18) (j := 24) (M' := (dt_put M 18 (dt_set (dt_set T 23 0 x1) 24 0 (T 21 0)))) C Fc_X10 hk_18 (by decide) rfl rfl rfl rfl fl_X10_239 (dt_wA _ _ _ _ _ _) dX10_bad_10 ?_
  refine dz_iconst (pc := 13) (v := (0 : Int32)) C dX10_bad_13 (by decide) ?_
  cases dt_some h
  exact dz_zret (pc := 14) C hr (Or.inl rfl) dX10_bad_14

def fX10_need  (x1 : Int32) (T : dt_Ob) : Option (Int32 × dt_Ob) := (if (T 20 0) = x1 then ((fX10_next0 T).bind fun q1 => (some ((1 : Int32), q1))) else ((fX10_bad (1 : Int32) T).bind fun q2 => (if q2.1 = 0 ∨ q2.1 = 1 then (some (q2.1, q2.2)) else none)))
set_option maxRecDepth 10000 in
set_option maxHeartbeats 4000000 in
theorem m_X10_need (l : Launch)  (M : dt_M) (T : dt_Ob)  (x1 : Int32) {res : Int32 × dt_Ob} (h : fX10_need x1 T = some res) : dt_Met 1 l yX10_need cX10_need 2 (some .boolean) 17 (fun G => [.ref (G.1 18 0), .int x1]) (dt_put M 18 T) (some (.int res.1)) (dt_put M 18 res.2) := by
  refine dz_enter (lv := fun G => [(0, .ref (G.1 18 0)), (1, .int x1)]) (by decide) (fun _ => rfl) (fun _ => Nat.le_of_ble_eq_true rfl) (fun G A p e s m args below meth c C hr => ?_)
  unfold fX10_need at h
  refine dz_aload_n (pc := 0) C dX10_need_0 rfl 0 rfl ?_
  refine dz_getI (pc := 1) (k := 18) (j := 20) (v := (T 20 0)) C Fc_X10 hk_18 (by decide) rfl rfl fl_X10_221 (dt_rA _ _ _ _ _) dX10_need_1 ?_
  refine dz_iload_n (pc := 4) C dX10_need_4 rfl 1 rfl ?_
  refine dz_icmp_eq (pc := 5) (t := 14) C dX10_need_5 (by decide) h (fun h => ?_) (fun h => ?_)
  · refine dz_aload_n (pc := 14) C dX10_need_14 rfl 0 rfl ?_
    obtain ⟨q1, eq1, h⟩ := dt_bind h
    refine dz_callVv (pc := 15) (st := []) (k := 18) (As := []) (M' := (dt_put M 18 q1)) C Fc_X10 hk_18 mf_X10_next0 rfl ml_X10_245 (m_X10_next0 l _ _ eq1) rfl rfl (by omega) (by decide) (Nat.le_of_ble_eq_true rfl) dX10_need_15 ?_
    refine dz_iconst (pc := 18) (v := (1 : Int32)) C dX10_need_18 (by decide) ?_
    cases dt_some h
    exact dz_zret (pc := 19) C hr (Or.inr rfl) dX10_need_19
  · refine dz_aload_n (pc := 8) C dX10_need_8 rfl 0 rfl ?_
    refine dz_iconst (pc := 9) (v := (1 : Int32)) C dX10_need_9 (by decide) ?_
    obtain ⟨q2, eq2, h⟩ := dt_bind h
    refine dz_callVi (pc := 10) (st := []) (k := 18) (As := [.int (1 : Int32)]) (M' := (dt_put M 18 q2.2)) C Fc_X10 hk_18 mf_X10_bad rfl ml_X10_242 (m_X10_bad l _ _ _ eq2) rfl rfl (by omega) (by decide) (Nat.le_of_ble_eq_true rfl) dX10_need_10 ?_
    obtain ⟨hz3, h⟩ := dt_ifn h
    cases dt_some h
    exact dz_zret (pc := 13) C hr hz3 dX10_need_13

def fX10_lay  (x1 : Int32) (x2 : Int32) (T : dt_Ob) : Option (dt_Ob) := ((dt_ix ((2 : Int32) * (T 17 0)) 820).bind fun a1 => ((dt_ix (((2 : Int32) * (T 17 0)) + (1 : Int32)) 820).bind fun a2 => (some (dt_set (dt_set (dt_set T 12 a1 x1) 12 a2 x2) 17 0 ((T 17 0) + (1 : Int32))))))
set_option maxRecDepth 10000 in
set_option maxHeartbeats 4000000 in
theorem m_X10_lay (l : Launch)  (M : dt_M) (T : dt_Ob)  (x1 : Int32) (x2 : Int32) {res : dt_Ob} (h : fX10_lay x1 x2 T = some res) : dt_Met 1 l yX10_lay cX10_lay 3 none 1 (fun G => [.ref (G.1 18 0), .int x1, .int x2]) (dt_put M 18 T) none (dt_put M 18 res) := by
  refine dz_enter (lv := fun G => [(0, .ref (G.1 18 0)), (1, .int x1), (2, .int x2)]) (by decide) (fun _ => rfl) (fun _ => Nat.le_of_ble_eq_true rfl) (fun G A p e s m args below meth c C hr => ?_)
  unfold fX10_lay at h
  refine dz_aload_n (pc := 0) C dX10_lay_0 rfl 0 rfl ?_
  refine dz_getR (pc := 1) (k := 18) (j := 12) C Fc_X10 hk_18 (by decide) (by decide) rfl fl_X10_40 dX10_lay_1 ?_
  refine dz_iconst (pc := 4) (v := (2 : Int32)) C dX10_lay_4 (by decide) ?_
  refine dz_aload_n (pc := 5) C dX10_lay_5 rfl 0 rfl ?_
  refine dz_getI (pc := 6) (k := 18) (j := 17) (v := (T 17 0)) C Fc_X10 hk_18 (by decide) rfl rfl fl_X10_248 (dt_rA _ _ _ _ _) dX10_lay_6 ?_
  refine dz_imul (pc := 9) C dX10_lay_9 ?_
  refine dz_iload_n (pc := 10) C dX10_lay_10 rfl 1 rfl ?_
  refine dz_iast (pc := 11) (k := 18) (j := 12) (n := 820) (M' := fun a1 => (dt_put M 18 (dt_set T 12 a1 x1))) C hk_18 (by decide) rfl (fun a1 => (dt_wA _ _ _ _ _ _)) dX10_lay_11 h (fun a1 h => ?_)
  refine dz_aload_n (pc := 12) C dX10_lay_12 rfl 0 rfl ?_
  refine dz_getR (pc := 13) (k := 18) (j := 12) C Fc_X10 hk_18 (by decide) (by decide) rfl fl_X10_40 dX10_lay_13 ?_
  refine dz_iconst (pc := 16) (v := (2 : Int32)) C dX10_lay_16 (by decide) ?_
  refine dz_aload_n (pc := 17) C dX10_lay_17 rfl 0 rfl ?_
  refine dz_getI (pc := 18) (k := 18) (j := 17) (v := (T 17 0)) C Fc_X10 hk_18 (by decide) rfl rfl fl_X10_248 (dt_rA _ _ _ _ _) dX10_lay_18 ?_
  refine dz_imul (pc := 21) C dX10_lay_21 ?_
  refine dz_iconst (pc := 22) (v := (1 : Int32)) C dX10_lay_22 (by decide) ?_
  refine dz_iadd (pc := 23) C dX10_lay_23 ?_
  refine dz_iload_n (pc := 24) C dX10_lay_24 rfl 2 rfl ?_
  refine dz_iast (pc := 25) (k := 18) (j := 12) (n := 820) (M' := fun a2 => (dt_put M 18 (dt_set (dt_set T 12 a1 x1) 12 a2 x2))) C hk_18 (by decide) rfl (fun a2 => (dt_wA _ _ _ _ _ _)) dX10_lay_25 h (fun a2 h => ?_)
  refine dz_aload_n (pc := 26) C dX10_lay_26 rfl 0 rfl ?_
  refine dz_dup (pc := 27) C dX10_lay_27 rfl ?_
  refine dz_getI (pc := 28) (k := 18) (j := 17) (v := (T 17 0)) C Fc_X10 hk_18 (by decide) rfl rfl fl_X10_248 (dt_rA _ _ _ _ _) dX10_lay_28 ?_
  refine dz_iconst (pc := 31) (v := (1 : Int32)) C dX10_lay_31 (by decide) ?_
  refine dz_iadd (pc := 32) C dX10_lay_32 ?_
  refine dz_putI (pc := 33) (k := 18) (j := 17) (M' := (dt_put M 18 (dt_set (dt_set (dt_set T 12 a1 x1) 12 a2 x2) 17 0 ((T 17 0) + (1 : Int32))))) C Fc_X10 hk_18 (by decide) rfl rfl rfl rfl fl_X10_248 (dt_wA _ _ _ _ _ _) dX10_lay_33 ?_
  cases dt_some h
  exact dz_vret (pc := 36) C hr dX10_lay_36

def fX10_opens  (T : dt_Ob) : Option (Int32 × dt_Ob) := (if (T 26 0) = (8 : Int32) then ((fX10_bad (3 : Int32) T).bind fun q2 => (if q2.1 = 0 ∨ q2.1 = 1 then (some (q2.1, q2.2)) else none)) else ((fX10_next0 (dt_set T 26 0 ((T 26 0) + (1 : Int32)))).bind fun q1 => (some ((1 : Int32), q1))))
set_option maxRecDepth 10000 in
set_option maxHeartbeats 4000000 in
theorem m_X10_opens (l : Launch)  (M : dt_M) (T : dt_Ob)   {res : Int32 × dt_Ob} (h : fX10_opens T = some res) : dt_Met 1 l yX10_opens cX10_opens 1 (some .boolean) 17 (fun G => [.ref (G.1 18 0)]) (dt_put M 18 T) (some (.int res.1)) (dt_put M 18 res.2) := by
  refine dz_enter (lv := fun G => [(0, .ref (G.1 18 0))]) (by decide) (fun _ => rfl) (fun _ => Nat.le_of_ble_eq_true rfl) (fun G A p e s m args below meth c C hr => ?_)
  unfold fX10_opens at h
  refine dz_aload_n (pc := 0) C dX10_opens_0 rfl 0 rfl ?_
  refine dz_getI (pc := 1) (k := 18) (j := 26) (v := (T 26 0)) C Fc_X10 hk_18 (by decide) rfl rfl fl_X10_251 (dt_rA _ _ _ _ _) dX10_opens_1 ?_
  refine dz_bipush (pc := 4) (v := (8 : Int32)) C dX10_opens_4 (by decide) ?_
  refine dz_icmp_ne (pc := 6) (t := 15) C dX10_opens_6 (by decide) h (fun h => ?_) (fun h => ?_)
  · refine dz_aload_n (pc := 15) C dX10_opens_15 rfl 0 rfl ?_
    refine dz_dup (pc := 16) C dX10_opens_16 rfl ?_
    refine dz_getI (pc := 17) (k := 18) (j := 26) (v := (T 26 0)) C Fc_X10 hk_18 (by decide) rfl rfl fl_X10_251 (dt_rA _ _ _ _ _) dX10_opens_17 ?_
    refine dz_iconst (pc := 20) (v := (1 : Int32)) C dX10_opens_20 (by decide) ?_
    refine dz_iadd (pc := 21) C dX10_opens_21 ?_
    refine dz_putI (pc := 22) (k := 18) (j := 26) (M' := (dt_put M 18 (dt_set T 26 0 ((T 26 0) + (1 : Int32))))) C Fc_X10 hk_18 (by decide) rfl rfl rfl rfl fl_X10_251 (dt_wA _ _ _ _ _ _) dX10_opens_22 ?_
    refine dz_aload_n (pc := 25) C dX10_opens_25 rfl 0 rfl ?_
    obtain ⟨q1, eq1, h⟩ := dt_bind h
    refine dz_callVv (pc := 26) (st := []) (k := 18) (As := []) (M' := (dt_put M 18 q1)) C Fc_X10 hk_18 mf_X10_next0 rfl ml_X10_245 (m_X10_next0 l _ _ eq1) rfl rfl (by omega) (by decide) (Nat.le_of_ble_eq_true rfl) dX10_opens_26 ?_
    refine dz_iconst (pc := 29) (v := (1 : Int32)) C dX10_opens_29 (by decide) ?_
    cases dt_some h
    exact dz_zret (pc := 30) C hr (Or.inr rfl) dX10_opens_30
  · refine dz_aload_n (pc := 9) C dX10_opens_9 rfl 0 rfl ?_
    refine dz_iconst (pc := 10) (v := (3 : Int32)) C dX10_opens_10 (by decide) ?_
    obtain ⟨q2, eq2, h⟩ := dt_bind h
    refine dz_callVi (pc := 11) (st := []) (k := 18) (As := [.int (3 : Int32)]) (M' := (dt_put M 18 q2.2)) C Fc_X10 hk_18 mf_X10_bad rfl ml_X10_242 (m_X10_bad l _ _ _ eq2) rfl rfl (by omega) (by decide) (Nat.le_of_ble_eq_true rfl) dX10_opens_11 ?_
    obtain ⟨hz3, h⟩ := dt_ifn h
    cases dt_some h
    exact dz_zret (pc := 14) C hr hz3 dX10_opens_14

def fX10_unit_46  (s1 : Int32) (T : dt_Ob) : Option (Int32 × dt_Ob) := ((fX10_lay s1 (T 22 0) T).bind fun q4 => ((fX10_next0 q4).bind fun q5 => (some ((1 : Int32), q5))))
set_option maxRecDepth 10000 in
set_option maxHeartbeats 4000000 in
theorem tX10_unit_46 {G : dt_G} {A : Nat → Prop} {p : Program} {l : Launch} {e : Env} {s : State} {m : MethodId} {args : Array Value} {below : List Frame} {meth : Method} {c : Code} (C : dt_Cx 1 G A p s m args meth c cX10_unit 2 RX10) (hr : meth.sig.returnType = (some .boolean)) {M : dt_M} {res : Int32 × dt_Ob}  : ∀ (s1 : Int32) (T : dt_Ob), fX10_unit_46 s1 T = some res → dt_At G A p l e (dt_rm 17) s m args below meth c 2 (MQ below (dt_Post G A (some (.int res.1)) (dt_put M 18 res.2)) args s 0 0 A) 46 [(0, .ref (G.1 18 0))] [.int s1, .ref (G.1 18 0)] (dt_put M 18 T) := by
  intro s1 T h
  unfold fX10_unit_46 at h
  refine dz_aload_n (pc := 46) C dX10_unit_46 rfl 0 rfl ?_
  refine dz_getI (pc := 47) (k := 18) (j := 22) (v := (T 22 0)) C Fc_X10 hk_18 (by decide) rfl rfl fl_X10_233 (dt_rA _ _ _ _ _) dX10_unit_47 ?_
  obtain ⟨q4, eq4, h⟩ := dt_bind h
  refine dz_callVv (pc := 50) (st := []) (k := 18) (As := [.int s1, .int (T 22 0)]) (M' := (dt_put M 18 q4)) C Fc_X10 hk_18 mf_X10_lay rfl ml_X10_258 (m_X10_lay l _ _ _ _ eq4) rfl rfl (by omega) (by decide) (Nat.le_of_ble_eq_true rfl) dX10_unit_50 ?_
  refine dz_aload_n (pc := 53) C dX10_unit_53 rfl 0 rfl ?_
  obtain ⟨q5, eq5, h⟩ := dt_bind h
  refine dz_callVv (pc := 54) (st := []) (k := 18) (As := []) (M' := (dt_put M 18 q5)) C Fc_X10 hk_18 mf_X10_next0 rfl ml_X10_245 (m_X10_next0 l _ _ eq5) rfl rfl (by omega) (by decide) (Nat.le_of_ble_eq_true rfl) dX10_unit_54 ?_
  refine dz_iconst (pc := 57) (v := (1 : Int32)) C dX10_unit_57 (by decide) ?_
  cases dt_some h
  exact dz_zret (pc := 58) C hr (Or.inr rfl) dX10_unit_58
def fX10_unit_30  (x1 : Int32) (T : dt_Ob) : Option (Int32 × dt_Ob) := (if x1 = 0 then (fX10_unit_46 (0 : Int32) T) else (fX10_unit_46 ((T 20 0) - (40 : Int32)) T))
set_option maxRecDepth 10000 in
set_option maxHeartbeats 4000000 in
theorem tX10_unit_30 {G : dt_G} {A : Nat → Prop} {p : Program} {l : Launch} {e : Env} {s : State} {m : MethodId} {args : Array Value} {below : List Frame} {meth : Method} {c : Code} (C : dt_Cx 1 G A p s m args meth c cX10_unit 2 RX10) (hr : meth.sig.returnType = (some .boolean)) {M : dt_M} {res : Int32 × dt_Ob}  : ∀ (x1 : Int32) (T : dt_Ob), fX10_unit_30 x1 T = some res → dt_At G A p l e (dt_rm 17) s m args below meth c 2 (MQ below (dt_Post G A (some (.int res.1)) (dt_put M 18 res.2)) args s 0 0 A) 30 [(0, .ref (G.1 18 0)), (1, .int x1)] [] (dt_put M 18 T) := by
  intro x1 T h
  unfold fX10_unit_30 at h
  refine dz_aload_n (pc := 30) C dX10_unit_30 rfl 0 rfl ?_
  refine dz_iload_n (pc := 31) C dX10_unit_31 rfl 1 rfl ?_
  refine dz_if_eq (pc := 32) (t := 45) C dX10_unit_32 (by decide) h (fun h => ?_) (fun h => ?_)
  · refine dz_iconst (pc := 45) (v := (0 : Int32)) C dX10_unit_45 (by decide) ?_
    refine dz_sub [0] rfl ?_
    exact tX10_unit_46 C hr  (0 : Int32) T h
  · refine dz_aload_n (pc := 35) C dX10_unit_35 rfl 0 rfl ?_
    refine dz_getI (pc := 36) (k := 18) (j := 20) (v := (T 20 0)) C Fc_X10 hk_18 (by decide) rfl rfl fl_X10_221 (dt_rA _ _ _ _ _) dX10_unit_36 ?_
    refine dz_bipush (pc := 39) (v := (40 : Int32)) C dX10_unit_39 (by decide) ?_
    refine dz_isub (pc := 41) C dX10_unit_41 ?_
    refine dz_goto (pc := 42) (t := 46) C dX10_unit_42 (by decide) ?_
    refine dz_sub [0] rfl ?_
    exact tX10_unit_46 C hr  ((T 20 0) - (40 : Int32)) T h
def fX10_unit  (T : dt_Ob) : Option (Int32 × dt_Ob) := ((fX10_isIn (T 20 0) (41 : Int32) (47 : Int32)).bind fun q1 => (if (T 20 0) = (2 : Int32) then (fX10_unit_30 q1 T) else (if q1 = 0 then ((fX10_bad (1 : Int32) T).bind fun q2 => (if q2.1 = 0 ∨ q2.1 = 1 then (some (q2.1, q2.2)) else none)) else (fX10_unit_30 q1 T))))
set_option maxRecDepth 10000 in
set_option maxHeartbeats 4000000 in
theorem m_X10_unit (l : Launch)  (M : dt_M) (T : dt_Ob)   {res : Int32 × dt_Ob} (h : fX10_unit T = some res) : dt_Met 1 l yX10_unit cX10_unit 2 (some .boolean) 17 (fun G => [.ref (G.1 18 0)]) (dt_put M 18 T) (some (.int res.1)) (dt_put M 18 res.2) := by
  refine dz_enter (lv := fun G => [(0, .ref (G.1 18 0))]) (by decide) (fun _ => rfl) (fun _ => Nat.le_of_ble_eq_true rfl) (fun G A p e s m args below meth c C hr => ?_)
  unfold fX10_unit at h
  refine dz_aload_n (pc := 0) C dX10_unit_0 rfl 0 rfl ?_
  refine dz_getI (pc := 1) (k := 18) (j := 20) (v := (T 20 0)) C Fc_X10 hk_18 (by decide) rfl rfl fl_X10_221 (dt_rA _ _ _ _ _) dX10_unit_1 ?_
  refine dz_bipush (pc := 4) (v := (41 : Int32)) C dX10_unit_4 (by decide) ?_
  refine dz_bipush (pc := 6) (v := (47 : Int32)) C dX10_unit_6 (by decide) ?_
  obtain ⟨q1, eq1, h⟩ := dt_bind h
  refine dz_callSi (pc := 8) (st := []) (As := [.int (T 20 0), .int (41 : Int32), .int (47 : Int32)]) (M' := (dt_put M 18 T)) C ms_X10_isIn ml_X10_76 (m_X10_isIn l _ _ _ _ eq1) rfl rfl (by omega) (by decide) (Nat.le_of_ble_eq_true rfl) dX10_unit_8 ?_
  refine dz_istore_n (pc := 11) C dX10_unit_11 rfl (by decide) rfl ?_
  refine dz_aload_n (pc := 12) C dX10_unit_12 rfl 1 rfl ?_
  refine dz_getI (pc := 13) (k := 18) (j := 20) (v := (T 20 0)) C Fc_X10 hk_18 (by decide) rfl rfl fl_X10_221 (dt_rA _ _ _ _ _) dX10_unit_13 ?_
  refine dz_iconst (pc := 16) (v := (2 : Int32)) C dX10_unit_16 (by decide) ?_
  refine dz_icmp_eq (pc := 17) (t := 30) C dX10_unit_17 (by decide) h (fun h => ?_) (fun h => ?_)
  · refine dz_sub [1, 0] rfl ?_
    exact tX10_unit_30 C hr  q1 T h
  · refine dz_iload_n (pc := 20) C dX10_unit_20 rfl 0 rfl ?_
    refine dz_if_ne (pc := 21) (t := 30) C dX10_unit_21 (by decide) h (fun h => ?_) (fun h => ?_)
    · refine dz_sub [1, 0] rfl ?_
      exact tX10_unit_30 C hr  q1 T h
    · refine dz_aload_n (pc := 24) C dX10_unit_24 rfl 1 rfl ?_
      refine dz_iconst (pc := 25) (v := (1 : Int32)) C dX10_unit_25 (by decide) ?_
      obtain ⟨q2, eq2, h⟩ := dt_bind h
      refine dz_callVi (pc := 26) (st := []) (k := 18) (As := [.int (1 : Int32)]) (M' := (dt_put M 18 q2.2)) C Fc_X10 hk_18 mf_X10_bad rfl ml_X10_242 (m_X10_bad l _ _ _ eq2) rfl rfl (by omega) (by decide) (Nat.le_of_ble_eq_true rfl) dX10_unit_26 ?_
      obtain ⟨hz3, h⟩ := dt_ifn h
      cases dt_some h
      exact dz_zret (pc := 29) C hr hz3 dX10_unit_29

def fX10_product_44 (r9 : dt_Ob → Option (Int32 × dt_Ob)) (s0 : Int32) (T : dt_Ob) : Option (Int32 × dt_Ob) := ((fX10_next0 T).bind fun q2 => (if s0 = 0 then ((fX10_unit q2).bind fun q3 => (if q3.1 = 0 then (some ((0 : Int32), q3.2)) else ((fX10_lay (15 : Int32) (0 : Int32) q3.2).bind fun q4 => (r9 q4)))) else (if (q2 20 0) = (2 : Int32) then (if (q2 22 0) = 0 then ((fX10_bad (2 : Int32) q2).bind fun q7 => (if q7.1 = 0 ∨ q7.1 = 1 then (some (q7.1, q7.2)) else none)) else ((fX10_next0 q2).bind fun q5 => ((fX10_lay (16 : Int32) (q2 22 0) q5).bind fun q6 => (r9 q6)))) else ((fX10_bad (1 : Int32) q2).bind fun q9 => (if q9.1 = 0 ∨ q9.1 = 1 then (some (q9.1, q9.2)) else none)))))
set_option maxRecDepth 10000 in
set_option maxHeartbeats 4000000 in
theorem tX10_product_44 {G : dt_G} {A : Nat → Prop} {p : Program} {l : Launch} {e : Env} {s : State} {m : MethodId} {args : Array Value} {below : List Frame} {meth : Method} {c : Code} (C : dt_Cx 1 G A p s m args meth c cX10_product 3 RX10) (hr : meth.sig.returnType = (some .boolean)) {M : dt_M} {res : Int32 × dt_Ob} {r9 : dt_Ob → Option (Int32 × dt_Ob)} (hr9 : ∀ (T : dt_Ob), r9 T = some res → dt_At G A p l e (dt_rm 18) s m args below meth c 3 (MQ below (dt_Post G A (some (.int res.1)) (dt_put M 18 res.2)) args s 0 0 A) 9 [(0, .ref (G.1 18 0))] [] (dt_put M 18 T)) : ∀ (s0 : Int32) (T : dt_Ob), fX10_product_44 r9 s0 T = some res → dt_At G A p l e (dt_rm 18) s m args below meth c 3 (MQ below (dt_Post G A (some (.int res.1)) (dt_put M 18 res.2)) args s 0 0 A) 44 [(0, .ref (G.1 18 0))] [.int s0] (dt_put M 18 T) := by
  intro s0 T h
  unfold fX10_product_44 at h
  refine dz_istore_n (pc := 44) C dX10_product_44 rfl (by decide) rfl ?_
  refine dz_aload_n (pc := 45) C dX10_product_45 rfl 1 rfl ?_
  obtain ⟨q2, eq2, h⟩ := dt_bind h
  refine dz_callVv (pc := 46) (st := []) (k := 18) (As := []) (M' := (dt_put M 18 q2)) C Fc_X10 hk_18 mf_X10_next0 rfl ml_X10_245 (m_X10_next0 l _ _ eq2) rfl rfl (by omega) (by decide) (Nat.le_of_ble_eq_true rfl) dX10_product_46 ?_
  refine dz_iload_n (pc := 49) C dX10_product_49 rfl 0 rfl ?_
  refine dz_if_eq (pc := 50) (t := 96) C dX10_product_50 (by decide) h (fun h => ?_) (fun h => ?_)
  · refine dz_aload_n (pc := 96) C dX10_product_96 rfl 1 rfl ?_
    obtain ⟨q3, eq3, h⟩ := dt_bind h
    refine dz_callVi (pc := 97) (st := []) (k := 18) (As := []) (M' := (dt_put M 18 q3.2)) C Fc_X10 hk_18 mf_X10_unit rfl ml_X10_262 (m_X10_unit l _ _ eq3) rfl rfl (by omega) (by decide) (Nat.le_of_ble_eq_true rfl) dX10_product_97 ?_
    refine dz_if_ne (pc := 100) (t := 105) C dX10_product_100 (by decide) h (fun h => ?_) (fun h => ?_)
    · refine dz_aload_n (pc := 105) C dX10_product_105 rfl 1 rfl ?_
      refine dz_bipush (pc := 106) (v := (15 : Int32)) C dX10_product_106 (by decide) ?_
      refine dz_iconst (pc := 108) (v := (0 : Int32)) C dX10_product_108 (by decide) ?_
      obtain ⟨q4, eq4, h⟩ := dt_bind h
      refine dz_callVv (pc := 109) (st := []) (k := 18) (As := [.int (15 : Int32), .int (0 : Int32)]) (M' := (dt_put M 18 q4)) C Fc_X10 hk_18 mf_X10_lay rfl ml_X10_258 (m_X10_lay l _ _ _ _ eq4) rfl rfl (by omega) (by decide) (Nat.le_of_ble_eq_true rfl) dX10_product_109 ?_
      refine dz_goto (pc := 112) (t := 9) C dX10_product_112 (by decide) ?_
      refine dz_sub [1] rfl ?_
      exact hr9 q4 h
    · refine dz_iconst (pc := 103) (v := (0 : Int32)) C dX10_product_103 (by decide) ?_
      cases dt_some h
      exact dz_zret (pc := 104) C hr (Or.inl rfl) dX10_product_104
  · refine dz_aload_n (pc := 53) C dX10_product_53 rfl 1 rfl ?_
    refine dz_getI (pc := 54) (k := 18) (j := 22) (v := (q2 22 0)) C Fc_X10 hk_18 (by decide) rfl rfl fl_X10_233 (dt_rA _ _ _ _ _) dX10_product_54 ?_
    refine dz_istore_n (pc := 57) C dX10_product_57 rfl (by decide) rfl ?_
    refine dz_aload_n (pc := 58) C dX10_product_58 rfl 2 rfl ?_
    refine dz_getI (pc := 59) (k := 18) (j := 20) (v := (q2 20 0)) C Fc_X10 hk_18 (by decide) rfl rfl fl_X10_221 (dt_rA _ _ _ _ _) dX10_product_59 ?_
    refine dz_iconst (pc := 62) (v := (2 : Int32)) C dX10_product_62 (by decide) ?_
    refine dz_icmp_eq (pc := 63) (t := 72) C dX10_product_63 (by decide) h (fun h => ?_) (fun h => ?_)
    · refine dz_iload_n (pc := 72) C dX10_product_72 rfl 0 rfl ?_
      refine dz_if_ne (pc := 73) (t := 82) C dX10_product_73 (by decide) h (fun h => ?_) (fun h => ?_)
      · refine dz_aload_n (pc := 82) C dX10_product_82 rfl 2 rfl ?_
        obtain ⟨q5, eq5, h⟩ := dt_bind h
        refine dz_callVv (pc := 83) (st := []) (k := 18) (As := []) (M' := (dt_put M 18 q5)) C Fc_X10 hk_18 mf_X10_next0 rfl ml_X10_245 (m_X10_next0 l _ _ eq5) rfl rfl (by omega) (by decide) (Nat.le_of_ble_eq_true rfl) dX10_product_83 ?_
        refine dz_aload_n (pc := 86) C dX10_product_86 rfl 2 rfl ?_
        refine dz_bipush (pc := 87) (v := (16 : Int32)) C dX10_product_87 (by decide) ?_
        refine dz_iload_n (pc := 89) C dX10_product_89 rfl 0 rfl ?_
        obtain ⟨q6, eq6, h⟩ := dt_bind h
        refine dz_callVv (pc := 90) (st := []) (k := 18) (As := [.int (16 : Int32), .int (q2 22 0)]) (M' := (dt_put M 18 q6)) C Fc_X10 hk_18 mf_X10_lay rfl ml_X10_258 (m_X10_lay l _ _ _ _ eq6) rfl rfl (by omega) (by decide) (Nat.le_of_ble_eq_true rfl) dX10_product_90 ?_
        refine dz_goto (pc := 93) (t := 112) C dX10_product_93 (by decide) ?_
        refine dz_goto (pc := 112) (t := 9) C dX10_product_112 (by decide) ?_
        refine dz_sub [2] rfl ?_
        exact hr9 q6 h
      · refine dz_aload_n (pc := 76) C dX10_product_76 rfl 2 rfl ?_
        refine dz_iconst (pc := 77) (v := (2 : Int32)) C dX10_product_77 (by decide) ?_
        obtain ⟨q7, eq7, h⟩ := dt_bind h
        refine dz_callVi (pc := 78) (st := []) (k := 18) (As := [.int (2 : Int32)]) (M' := (dt_put M 18 q7.2)) C Fc_X10 hk_18 mf_X10_bad rfl ml_X10_242 (m_X10_bad l _ _ _ eq7) rfl rfl (by omega) (by decide) (Nat.le_of_ble_eq_true rfl) dX10_product_78 ?_
        obtain ⟨hz8, h⟩ := dt_ifn h
        cases dt_some h
        exact dz_zret (pc := 81) C hr hz8 dX10_product_81
    · refine dz_aload_n (pc := 66) C dX10_product_66 rfl 2 rfl ?_
      refine dz_iconst (pc := 67) (v := (1 : Int32)) C dX10_product_67 (by decide) ?_
      obtain ⟨q9, eq9, h⟩ := dt_bind h
      refine dz_callVi (pc := 68) (st := []) (k := 18) (As := [.int (1 : Int32)]) (M' := (dt_put M 18 q9.2)) C Fc_X10 hk_18 mf_X10_bad rfl ml_X10_242 (m_X10_bad l _ _ _ eq9) rfl rfl (by omega) (by decide) (Nat.le_of_ble_eq_true rfl) dX10_product_68 ?_
      obtain ⟨hz10, h⟩ := dt_ifn h
      cases dt_some h
      exact dz_zret (pc := 71) C hr hz10 dX10_product_71
def fX10_product_29 (r9 : dt_Ob → Option (Int32 × dt_Ob)) (T : dt_Ob) : Option (Int32 × dt_Ob) := (if (T 20 0) = (147 : Int32) then (fX10_product_44 r9 (1 : Int32) T) else (fX10_product_44 r9 (0 : Int32) T))
set_option maxRecDepth 10000 in
set_option maxHeartbeats 4000000 in
theorem tX10_product_29 {G : dt_G} {A : Nat → Prop} {p : Program} {l : Launch} {e : Env} {s : State} {m : MethodId} {args : Array Value} {below : List Frame} {meth : Method} {c : Code} (C : dt_Cx 1 G A p s m args meth c cX10_product 3 RX10) (hr : meth.sig.returnType = (some .boolean)) {M : dt_M} {res : Int32 × dt_Ob} {r9 : dt_Ob → Option (Int32 × dt_Ob)} (hr9 : ∀ (T : dt_Ob), r9 T = some res → dt_At G A p l e (dt_rm 18) s m args below meth c 3 (MQ below (dt_Post G A (some (.int res.1)) (dt_put M 18 res.2)) args s 0 0 A) 9 [(0, .ref (G.1 18 0))] [] (dt_put M 18 T)) : ∀ (T : dt_Ob), fX10_product_29 r9 T = some res → dt_At G A p l e (dt_rm 18) s m args below meth c 3 (MQ below (dt_Post G A (some (.int res.1)) (dt_put M 18 res.2)) args s 0 0 A) 29 [(0, .ref (G.1 18 0))] [] (dt_put M 18 T) := by
  intro T h
  unfold fX10_product_29 at h
  refine dz_aload_n (pc := 29) C dX10_product_29 rfl 0 rfl ?_
  refine dz_getI (pc := 30) (k := 18) (j := 20) (v := (T 20 0)) C Fc_X10 hk_18 (by decide) rfl rfl fl_X10_221 (dt_rA _ _ _ _ _) dX10_product_30 ?_
  refine dz_sipush (pc := 33) (v := (147 : Int32)) C dX10_product_33 (by decide) ?_
  refine dz_icmp_ne (pc := 36) (t := 43) C dX10_product_36 (by decide) h (fun h => ?_) (fun h => ?_)
  · refine dz_iconst (pc := 43) (v := (0 : Int32)) C dX10_product_43 (by decide) ?_
    exact tX10_product_44 C hr hr9 (0 : Int32) T h
  · refine dz_iconst (pc := 39) (v := (1 : Int32)) C dX10_product_39 (by decide) ?_
    refine dz_goto (pc := 40) (t := 44) C dX10_product_40 (by decide) ?_
    exact tX10_product_44 C hr hr9 (1 : Int32) T h
def fX10_product_9  : Nat → dt_Ob → Option (Int32 × dt_Ob)
  | 0, _ => none
  | n + 1, T => (if (T 20 0) = (142 : Int32) then (fX10_product_29 (fX10_product_9 n) T) else (if (T 20 0) = (147 : Int32) then (fX10_product_29 (fX10_product_9 n) T) else (some ((1 : Int32), T))))
set_option maxRecDepth 10000 in
set_option maxHeartbeats 4000000 in
theorem tX10_product_9 {G : dt_G} {A : Nat → Prop} {p : Program} {l : Launch} {e : Env} {s : State} {m : MethodId} {args : Array Value} {below : List Frame} {meth : Method} {c : Code} (C : dt_Cx 1 G A p s m args meth c cX10_product 3 RX10) (hr : meth.sig.returnType = (some .boolean)) {M : dt_M} {res : Int32 × dt_Ob}  : ∀ (n : Nat) (T : dt_Ob), fX10_product_9 n T = some res → dt_At G A p l e (dt_rm 18) s m args below meth c 3 (MQ below (dt_Post G A (some (.int res.1)) (dt_put M 18 res.2)) args s 0 0 A) 9 [(0, .ref (G.1 18 0))] [] (dt_put M 18 T) := by
  intro n
  induction n with
  | zero =>
    intro T h
    unfold fX10_product_9 at h
    cases h
  | succ n ih =>
    intro T h
    unfold fX10_product_9 at h
    refine dz_aload_n (pc := 9) C dX10_product_9 rfl 0 rfl ?_
    refine dz_getI (pc := 10) (k := 18) (j := 20) (v := (T 20 0)) C Fc_X10 hk_18 (by decide) rfl rfl fl_X10_221 (dt_rA _ _ _ _ _) dX10_product_10 ?_
    refine dz_sipush (pc := 13) (v := (142 : Int32)) C dX10_product_13 (by decide) ?_
    refine dz_icmp_eq (pc := 16) (t := 29) C dX10_product_16 (by decide) h (fun h => ?_) (fun h => ?_)
    · exact tX10_product_29 C hr ih T h
    · refine dz_aload_n (pc := 19) C dX10_product_19 rfl 0 rfl ?_
      refine dz_getI (pc := 20) (k := 18) (j := 20) (v := (T 20 0)) C Fc_X10 hk_18 (by decide) rfl rfl fl_X10_221 (dt_rA _ _ _ _ _) dX10_product_20 ?_
      refine dz_sipush (pc := 23) (v := (147 : Int32)) C dX10_product_23 (by decide) ?_
      refine dz_icmp_ne (pc := 26) (t := 115) C dX10_product_26 (by decide) h (fun h => ?_) (fun h => ?_)
      · refine dz_iconst (pc := 115) (v := (1 : Int32)) C dX10_product_115 (by decide) ?_
        cases dt_some h
        exact dz_zret (pc := 116) C hr (Or.inr rfl) dX10_product_116
      · exact tX10_product_29 C hr ih T h
def fX10_product  (T : dt_Ob) : Option (Int32 × dt_Ob) := ((fX10_unit T).bind fun q1 => (if q1.1 = 0 then (some ((0 : Int32), q1.2)) else (fX10_product_9 dt_F q1.2)))
set_option maxRecDepth 10000 in
set_option maxHeartbeats 4000000 in
theorem m_X10_product (l : Launch)  (M : dt_M) (T : dt_Ob)   {res : Int32 × dt_Ob} (h : fX10_product T = some res) : dt_Met 1 l yX10_product cX10_product 3 (some .boolean) 18 (fun G => [.ref (G.1 18 0)]) (dt_put M 18 T) (some (.int res.1)) (dt_put M 18 res.2) := by
  refine dz_enter (lv := fun G => [(0, .ref (G.1 18 0))]) (by decide) (fun _ => rfl) (fun _ => Nat.le_of_ble_eq_true rfl) (fun G A p e s m args below meth c C hr => ?_)
  unfold fX10_product at h
  refine dz_aload_n (pc := 0) C dX10_product_0 rfl 0 rfl ?_
  obtain ⟨q1, eq1, h⟩ := dt_bind h
  refine dz_callVi (pc := 1) (st := []) (k := 18) (As := []) (M' := (dt_put M 18 q1.2)) C Fc_X10 hk_18 mf_X10_unit rfl ml_X10_262 (m_X10_unit l _ _ eq1) rfl rfl (by omega) (by decide) (Nat.le_of_ble_eq_true rfl) dX10_product_1 ?_
  refine dz_if_ne (pc := 4) (t := 9) C dX10_product_4 (by decide) h (fun h => ?_) (fun h => ?_)
  · exact tX10_product_9 C hr dt_F q1.2 h
  · refine dz_iconst (pc := 7) (v := (0 : Int32)) C dX10_product_7 (by decide) ?_
    cases dt_some h
    exact dz_zret (pc := 8) C hr (Or.inl rfl) dX10_product_8

def fX10_sumUp_46 (r9 : dt_Ob → Option (Int32 × dt_Ob)) (s0 : Int32) (T : dt_Ob) : Option (Int32 × dt_Ob) := ((fX10_next0 T).bind fun q2 => ((fX10_product q2).bind fun q3 => (if q3.1 = 0 then (some ((0 : Int32), q3.2)) else ((fX10_lay s0 (0 : Int32) q3.2).bind fun q4 => (r9 q4)))))
set_option maxRecDepth 10000 in
set_option maxHeartbeats 4000000 in
theorem tX10_sumUp_46 {G : dt_G} {A : Nat → Prop} {p : Program} {l : Launch} {e : Env} {s : State} {m : MethodId} {args : Array Value} {below : List Frame} {meth : Method} {c : Code} (C : dt_Cx 1 G A p s m args meth c cX10_sumUp 2 RX10) (hr : meth.sig.returnType = (some .boolean)) {M : dt_M} {res : Int32 × dt_Ob} {r9 : dt_Ob → Option (Int32 × dt_Ob)} (hr9 : ∀ (T : dt_Ob), r9 T = some res → dt_At G A p l e (dt_rm 19) s m args below meth c 2 (MQ below (dt_Post G A (some (.int res.1)) (dt_put M 18 res.2)) args s 0 0 A) 9 [(0, .ref (G.1 18 0))] [] (dt_put M 18 T)) : ∀ (s0 : Int32) (T : dt_Ob), fX10_sumUp_46 r9 s0 T = some res → dt_At G A p l e (dt_rm 19) s m args below meth c 2 (MQ below (dt_Post G A (some (.int res.1)) (dt_put M 18 res.2)) args s 0 0 A) 46 [(0, .ref (G.1 18 0))] [.int s0] (dt_put M 18 T) := by
  intro s0 T h
  unfold fX10_sumUp_46 at h
  refine dz_istore_n (pc := 46) C dX10_sumUp_46 rfl (by decide) rfl ?_
  refine dz_aload_n (pc := 47) C dX10_sumUp_47 rfl 1 rfl ?_
  obtain ⟨q2, eq2, h⟩ := dt_bind h
  refine dz_callVv (pc := 48) (st := []) (k := 18) (As := []) (M' := (dt_put M 18 q2)) C Fc_X10 hk_18 mf_X10_next0 rfl ml_X10_245 (m_X10_next0 l _ _ eq2) rfl rfl (by omega) (by decide) (Nat.le_of_ble_eq_true rfl) dX10_sumUp_48 ?_
  refine dz_aload_n (pc := 51) C dX10_sumUp_51 rfl 1 rfl ?_
  obtain ⟨q3, eq3, h⟩ := dt_bind h
  refine dz_callVi (pc := 52) (st := []) (k := 18) (As := []) (M' := (dt_put M 18 q3.2)) C Fc_X10 hk_18 mf_X10_product rfl ml_X10_254 (m_X10_product l _ _ eq3) rfl rfl (by omega) (by decide) (Nat.le_of_ble_eq_true rfl) dX10_sumUp_52 ?_
  refine dz_if_ne (pc := 55) (t := 60) C dX10_sumUp_55 (by decide) h (fun h => ?_) (fun h => ?_)
  · refine dz_aload_n (pc := 60) C dX10_sumUp_60 rfl 1 rfl ?_
    refine dz_iload_n (pc := 61) C dX10_sumUp_61 rfl 0 rfl ?_
    refine dz_iconst (pc := 62) (v := (0 : Int32)) C dX10_sumUp_62 (by decide) ?_
    obtain ⟨q4, eq4, h⟩ := dt_bind h
    refine dz_callVv (pc := 63) (st := []) (k := 18) (As := [.int s0, .int (0 : Int32)]) (M' := (dt_put M 18 q4)) C Fc_X10 hk_18 mf_X10_lay rfl ml_X10_258 (m_X10_lay l _ _ _ _ eq4) rfl rfl (by omega) (by decide) (Nat.le_of_ble_eq_true rfl) dX10_sumUp_63 ?_
    refine dz_goto (pc := 66) (t := 9) C dX10_sumUp_66 (by decide) ?_
    refine dz_sub [1] rfl ?_
    exact hr9 q4 h
  · refine dz_iconst (pc := 58) (v := (0 : Int32)) C dX10_sumUp_58 (by decide) ?_
    cases dt_some h
    exact dz_zret (pc := 59) C hr (Or.inl rfl) dX10_sumUp_59
def fX10_sumUp_29 (r9 : dt_Ob → Option (Int32 × dt_Ob)) (T : dt_Ob) : Option (Int32 × dt_Ob) := (if (T 20 0) = (143 : Int32) then (fX10_sumUp_46 r9 (13 : Int32) T) else (fX10_sumUp_46 r9 (14 : Int32) T))
set_option maxRecDepth 10000 in
set_option maxHeartbeats 4000000 in
theorem tX10_sumUp_29 {G : dt_G} {A : Nat → Prop} {p : Program} {l : Launch} {e : Env} {s : State} {m : MethodId} {args : Array Value} {below : List Frame} {meth : Method} {c : Code} (C : dt_Cx 1 G A p s m args meth c cX10_sumUp 2 RX10) (hr : meth.sig.returnType = (some .boolean)) {M : dt_M} {res : Int32 × dt_Ob} {r9 : dt_Ob → Option (Int32 × dt_Ob)} (hr9 : ∀ (T : dt_Ob), r9 T = some res → dt_At G A p l e (dt_rm 19) s m args below meth c 2 (MQ below (dt_Post G A (some (.int res.1)) (dt_put M 18 res.2)) args s 0 0 A) 9 [(0, .ref (G.1 18 0))] [] (dt_put M 18 T)) : ∀ (T : dt_Ob), fX10_sumUp_29 r9 T = some res → dt_At G A p l e (dt_rm 19) s m args below meth c 2 (MQ below (dt_Post G A (some (.int res.1)) (dt_put M 18 res.2)) args s 0 0 A) 29 [(0, .ref (G.1 18 0))] [] (dt_put M 18 T) := by
  intro T h
  unfold fX10_sumUp_29 at h
  refine dz_aload_n (pc := 29) C dX10_sumUp_29 rfl 0 rfl ?_
  refine dz_getI (pc := 30) (k := 18) (j := 20) (v := (T 20 0)) C Fc_X10 hk_18 (by decide) rfl rfl fl_X10_221 (dt_rA _ _ _ _ _) dX10_sumUp_30 ?_
  refine dz_sipush (pc := 33) (v := (143 : Int32)) C dX10_sumUp_33 (by decide) ?_
  refine dz_icmp_ne (pc := 36) (t := 44) C dX10_sumUp_36 (by decide) h (fun h => ?_) (fun h => ?_)
  · refine dz_bipush (pc := 44) (v := (14 : Int32)) C dX10_sumUp_44 (by decide) ?_
    exact tX10_sumUp_46 C hr hr9 (14 : Int32) T h
  · refine dz_bipush (pc := 39) (v := (13 : Int32)) C dX10_sumUp_39 (by decide) ?_
    refine dz_goto (pc := 41) (t := 46) C dX10_sumUp_41 (by decide) ?_
    exact tX10_sumUp_46 C hr hr9 (13 : Int32) T h
def fX10_sumUp_9  : Nat → dt_Ob → Option (Int32 × dt_Ob)
  | 0, _ => none
  | n + 1, T => (if (T 20 0) = (143 : Int32) then (fX10_sumUp_29 (fX10_sumUp_9 n) T) else (if (T 20 0) = (145 : Int32) then (fX10_sumUp_29 (fX10_sumUp_9 n) T) else (some ((1 : Int32), T))))
set_option maxRecDepth 10000 in
set_option maxHeartbeats 4000000 in
theorem tX10_sumUp_9 {G : dt_G} {A : Nat → Prop} {p : Program} {l : Launch} {e : Env} {s : State} {m : MethodId} {args : Array Value} {below : List Frame} {meth : Method} {c : Code} (C : dt_Cx 1 G A p s m args meth c cX10_sumUp 2 RX10) (hr : meth.sig.returnType = (some .boolean)) {M : dt_M} {res : Int32 × dt_Ob}  : ∀ (n : Nat) (T : dt_Ob), fX10_sumUp_9 n T = some res → dt_At G A p l e (dt_rm 19) s m args below meth c 2 (MQ below (dt_Post G A (some (.int res.1)) (dt_put M 18 res.2)) args s 0 0 A) 9 [(0, .ref (G.1 18 0))] [] (dt_put M 18 T) := by
  intro n
  induction n with
  | zero =>
    intro T h
    unfold fX10_sumUp_9 at h
    cases h
  | succ n ih =>
    intro T h
    unfold fX10_sumUp_9 at h
    refine dz_aload_n (pc := 9) C dX10_sumUp_9 rfl 0 rfl ?_
    refine dz_getI (pc := 10) (k := 18) (j := 20) (v := (T 20 0)) C Fc_X10 hk_18 (by decide) rfl rfl fl_X10_221 (dt_rA _ _ _ _ _) dX10_sumUp_10 ?_
    refine dz_sipush (pc := 13) (v := (143 : Int32)) C dX10_sumUp_13 (by decide) ?_
    refine dz_icmp_eq (pc := 16) (t := 29) C dX10_sumUp_16 (by decide) h (fun h => ?_) (fun h => ?_)
    · exact tX10_sumUp_29 C hr ih T h
    · refine dz_aload_n (pc := 19) C dX10_sumUp_19 rfl 0 rfl ?_
      refine dz_getI (pc := 20) (k := 18) (j := 20) (v := (T 20 0)) C Fc_X10 hk_18 (by decide) rfl rfl fl_X10_221 (dt_rA _ _ _ _ _) dX10_sumUp_20 ?_
      refine dz_sipush (pc := 23) (v := (145 : Int32)) C dX10_sumUp_23 (by decide) ?_
      refine dz_icmp_ne (pc := 26) (t := 69) C dX10_sumUp_26 (by decide) h (fun h => ?_) (fun h => ?_)
      · refine dz_iconst (pc := 69) (v := (1 : Int32)) C dX10_sumUp_69 (by decide) ?_
        cases dt_some h
        exact dz_zret (pc := 70) C hr (Or.inr rfl) dX10_sumUp_70
      · exact tX10_sumUp_29 C hr ih T h
def fX10_sumUp  (T : dt_Ob) : Option (Int32 × dt_Ob) := ((fX10_product T).bind fun q1 => (if q1.1 = 0 then (some ((0 : Int32), q1.2)) else (fX10_sumUp_9 dt_F q1.2)))
set_option maxRecDepth 10000 in
set_option maxHeartbeats 4000000 in
theorem m_X10_sumUp (l : Launch)  (M : dt_M) (T : dt_Ob)   {res : Int32 × dt_Ob} (h : fX10_sumUp T = some res) : dt_Met 1 l yX10_sumUp cX10_sumUp 2 (some .boolean) 19 (fun G => [.ref (G.1 18 0)]) (dt_put M 18 T) (some (.int res.1)) (dt_put M 18 res.2) := by
  refine dz_enter (lv := fun G => [(0, .ref (G.1 18 0))]) (by decide) (fun _ => rfl) (fun _ => Nat.le_of_ble_eq_true rfl) (fun G A p e s m args below meth c C hr => ?_)
  unfold fX10_sumUp at h
  refine dz_aload_n (pc := 0) C dX10_sumUp_0 rfl 0 rfl ?_
  obtain ⟨q1, eq1, h⟩ := dt_bind h
  refine dz_callVi (pc := 1) (st := []) (k := 18) (As := []) (M' := (dt_put M 18 q1.2)) C Fc_X10 hk_18 mf_X10_product rfl ml_X10_254 (m_X10_product l _ _ eq1) rfl rfl (by omega) (by decide) (Nat.le_of_ble_eq_true rfl) dX10_sumUp_1 ?_
  refine dz_if_ne (pc := 4) (t := 9) C dX10_sumUp_4 (by decide) h (fun h => ?_) (fun h => ?_)
  · exact tX10_sumUp_9 C hr dt_F q1.2 h
  · refine dz_iconst (pc := 7) (v := (0 : Int32)) C dX10_sumUp_7 (by decide) ?_
    cases dt_some h
    exact dz_zret (pc := 8) C hr (Or.inl rfl) dX10_sumUp_8

def fX10_every_9 (rc : dt_Ob → Option (Int32 × dt_Ob))  : Nat → dt_Ob → Option (Int32 × dt_Ob)
  | 0, _ => none
  | n + 1, T => (if (T 20 0) = (5 : Int32) then ((fX10_next0 T).bind fun q2 => ((rc q2).bind fun q3 => (if q3.1 = 0 then (some ((0 : Int32), q3.2)) else ((fX10_lay (21 : Int32) (0 : Int32) q3.2).bind fun q4 => ((fX10_every_9 rc n) q4))))) else (some ((1 : Int32), T)))
set_option maxRecDepth 10000 in
set_option maxHeartbeats 4000000 in
theorem tX10_every_9 {G : dt_G} {A : Nat → Prop} {p : Program} {l : Launch} {e : Env} {s : State} {m : MethodId} {args : Array Value} {below : List Frame} {meth : Method} {c : Code} (C : dt_Cx 1 G A p s m args meth c cX10_every 1 RX10) (hr : meth.sig.returnType = (some .boolean)) {M : dt_M} {hN : Nat} (hGB : 19 ≤ hN) {rc : dt_Ob → Option (Int32 × dt_Ob)} (hrc : ∀ (M : dt_M) (T : dt_Ob) {res : Int32 × dt_Ob}, rc T = some res → dt_Met 1 l yX10_oneTest cX10_oneTest 2 (some .boolean) hN (fun G => [.ref (G.1 18 0)]) (dt_put M 18 T) (some (.int res.1)) (dt_put M 18 res.2)) {res : Int32 × dt_Ob}  : ∀ (n : Nat) (T : dt_Ob), fX10_every_9 rc n T = some res → dt_At G A p l e (dt_rm (hN + 1)) s m args below meth c 1 (MQ below (dt_Post G A (some (.int res.1)) (dt_put M 18 res.2)) args s 0 0 A) 9 [(0, .ref (G.1 18 0))] [] (dt_put M 18 T) := by
  intro n
  induction n with
  | zero =>
    intro T h
    unfold fX10_every_9 at h
    cases h
  | succ n ih =>
    intro T h
    unfold fX10_every_9 at h
    refine dz_aload_n (pc := 9) C dX10_every_9 rfl 0 rfl ?_
    refine dz_getI (pc := 10) (k := 18) (j := 20) (v := (T 20 0)) C Fc_X10 hk_18 (by decide) rfl rfl fl_X10_221 (dt_rA _ _ _ _ _) dX10_every_10 ?_
    refine dz_iconst (pc := 13) (v := (5 : Int32)) C dX10_every_13 (by decide) ?_
    refine dz_icmp_ne (pc := 14) (t := 40) C dX10_every_14 (by decide) h (fun h => ?_) (fun h => ?_)
    · refine dz_iconst (pc := 40) (v := (1 : Int32)) C dX10_every_40 (by decide) ?_
      cases dt_some h
      exact dz_zret (pc := 41) C hr (Or.inr rfl) dX10_every_41
    · refine dz_aload_n (pc := 17) C dX10_every_17 rfl 0 rfl ?_
      obtain ⟨q2, eq2, h⟩ := dt_bind h
      refine dz_callVv (pc := 18) (st := []) (k := 18) (As := []) (M' := (dt_put M 18 q2)) C Fc_X10 hk_18 mf_X10_next0 rfl ml_X10_245 (m_X10_next0 l _ _ eq2) rfl rfl (by omega) (by decide) (Nat.le_of_ble_eq_true rfl) dX10_every_18 ?_
      refine dz_aload_n (pc := 21) C dX10_every_21 rfl 0 rfl ?_
      obtain ⟨q3, eq3, h⟩ := dt_bind h
      refine dz_callVi (pc := 22) (st := []) (k := 18) (As := []) (M' := (dt_put M 18 q3.2)) C Fc_X10 hk_18 mf_X10_oneTest rfl ml_X10_268 (hrc _ _ eq3) rfl rfl (by omega) (by decide) (Nat.le_of_ble_eq_true rfl) dX10_every_22 ?_
      refine dz_if_ne (pc := 25) (t := 30) C dX10_every_25 (by decide) h (fun h => ?_) (fun h => ?_)
      · refine dz_aload_n (pc := 30) C dX10_every_30 rfl 0 rfl ?_
        refine dz_bipush (pc := 31) (v := (21 : Int32)) C dX10_every_31 (by decide) ?_
        refine dz_iconst (pc := 33) (v := (0 : Int32)) C dX10_every_33 (by decide) ?_
        obtain ⟨q4, eq4, h⟩ := dt_bind h
        refine dz_callVv (pc := 34) (st := []) (k := 18) (As := [.int (21 : Int32), .int (0 : Int32)]) (M' := (dt_put M 18 q4)) C Fc_X10 hk_18 mf_X10_lay rfl ml_X10_258 (m_X10_lay l _ _ _ _ eq4) rfl rfl (by omega) (by decide) (Nat.le_of_ble_eq_true rfl) dX10_every_34 ?_
        refine dz_goto (pc := 37) (t := 9) C dX10_every_37 (by decide) ?_
        exact ih q4 h
      · refine dz_iconst (pc := 28) (v := (0 : Int32)) C dX10_every_28 (by decide) ?_
        cases dt_some h
        exact dz_zret (pc := 29) C hr (Or.inl rfl) dX10_every_29
def fX10_every (rc : dt_Ob → Option (Int32 × dt_Ob))  (T : dt_Ob) : Option (Int32 × dt_Ob) := ((rc T).bind fun q1 => (if q1.1 = 0 then (some ((0 : Int32), q1.2)) else (fX10_every_9 rc dt_F q1.2)))
set_option maxRecDepth 10000 in
set_option maxHeartbeats 4000000 in
theorem m_X10_every (l : Launch) {hN : Nat} (hGB : 19 ≤ hN) {rc : dt_Ob → Option (Int32 × dt_Ob)} (hrc : ∀ (M : dt_M) (T : dt_Ob) {res : Int32 × dt_Ob}, rc T = some res → dt_Met 1 l yX10_oneTest cX10_oneTest 2 (some .boolean) hN (fun G => [.ref (G.1 18 0)]) (dt_put M 18 T) (some (.int res.1)) (dt_put M 18 res.2)) (M : dt_M) (T : dt_Ob)   {res : Int32 × dt_Ob} (h : fX10_every rc T = some res) : dt_Met 1 l yX10_every cX10_every 1 (some .boolean) (hN + 1) (fun G => [.ref (G.1 18 0)]) (dt_put M 18 T) (some (.int res.1)) (dt_put M 18 res.2) := by
  refine dz_enter (lv := fun G => [(0, .ref (G.1 18 0))]) (by decide) (fun _ => rfl) (fun _ => Nat.le_of_ble_eq_true rfl) (fun G A p e s m args below meth c C hr => ?_)
  unfold fX10_every at h
  refine dz_aload_n (pc := 0) C dX10_every_0 rfl 0 rfl ?_
  obtain ⟨q1, eq1, h⟩ := dt_bind h
  refine dz_callVi (pc := 1) (st := []) (k := 18) (As := []) (M' := (dt_put M 18 q1.2)) C Fc_X10 hk_18 mf_X10_oneTest rfl ml_X10_268 (hrc _ _ eq1) rfl rfl (by omega) (by decide) (Nat.le_of_ble_eq_true rfl) dX10_every_1 ?_
  refine dz_if_ne (pc := 4) (t := 9) C dX10_every_4 (by decide) h (fun h => ?_) (fun h => ?_)
  · exact tX10_every_9 C hr hGB hrc dt_F q1.2 h
  · refine dz_iconst (pc := 7) (v := (0 : Int32)) C dX10_every_7 (by decide) ?_
    cases dt_some h
    exact dz_zret (pc := 8) C hr (Or.inl rfl) dX10_every_8

def fX10_any_9 (rc : dt_Ob → Option (Int32 × dt_Ob))  : Nat → dt_Ob → Option (Int32 × dt_Ob)
  | 0, _ => none
  | n + 1, T => (if (T 20 0) = (4 : Int32) then ((fX10_next0 T).bind fun q2 => ((fX10_every rc q2).bind fun q3 => (if q3.1 = 0 then (some ((0 : Int32), q3.2)) else ((fX10_lay (22 : Int32) (0 : Int32) q3.2).bind fun q4 => ((fX10_any_9 rc n) q4))))) else (some ((1 : Int32), T)))
set_option maxRecDepth 10000 in
set_option maxHeartbeats 4000000 in
theorem tX10_any_9 {G : dt_G} {A : Nat → Prop} {p : Program} {l : Launch} {e : Env} {s : State} {m : MethodId} {args : Array Value} {below : List Frame} {meth : Method} {c : Code} (C : dt_Cx 1 G A p s m args meth c cX10_any 1 RX10) (hr : meth.sig.returnType = (some .boolean)) {M : dt_M} {hN : Nat} (hGB : 19 ≤ hN) {rc : dt_Ob → Option (Int32 × dt_Ob)} (hrc : ∀ (M : dt_M) (T : dt_Ob) {res : Int32 × dt_Ob}, rc T = some res → dt_Met 1 l yX10_oneTest cX10_oneTest 2 (some .boolean) hN (fun G => [.ref (G.1 18 0)]) (dt_put M 18 T) (some (.int res.1)) (dt_put M 18 res.2)) {res : Int32 × dt_Ob}  : ∀ (n : Nat) (T : dt_Ob), fX10_any_9 rc n T = some res → dt_At G A p l e (dt_rm (hN + 2)) s m args below meth c 1 (MQ below (dt_Post G A (some (.int res.1)) (dt_put M 18 res.2)) args s 0 0 A) 9 [(0, .ref (G.1 18 0))] [] (dt_put M 18 T) := by
  intro n
  induction n with
  | zero =>
    intro T h
    unfold fX10_any_9 at h
    cases h
  | succ n ih =>
    intro T h
    unfold fX10_any_9 at h
    refine dz_aload_n (pc := 9) C dX10_any_9 rfl 0 rfl ?_
    refine dz_getI (pc := 10) (k := 18) (j := 20) (v := (T 20 0)) C Fc_X10 hk_18 (by decide) rfl rfl fl_X10_221 (dt_rA _ _ _ _ _) dX10_any_10 ?_
    refine dz_iconst (pc := 13) (v := (4 : Int32)) C dX10_any_13 (by decide) ?_
    refine dz_icmp_ne (pc := 14) (t := 40) C dX10_any_14 (by decide) h (fun h => ?_) (fun h => ?_)
    · refine dz_iconst (pc := 40) (v := (1 : Int32)) C dX10_any_40 (by decide) ?_
      cases dt_some h
      exact dz_zret (pc := 41) C hr (Or.inr rfl) dX10_any_41
    · refine dz_aload_n (pc := 17) C dX10_any_17 rfl 0 rfl ?_
      obtain ⟨q2, eq2, h⟩ := dt_bind h
      refine dz_callVv (pc := 18) (st := []) (k := 18) (As := []) (M' := (dt_put M 18 q2)) C Fc_X10 hk_18 mf_X10_next0 rfl ml_X10_245 (m_X10_next0 l _ _ eq2) rfl rfl (by omega) (by decide) (Nat.le_of_ble_eq_true rfl) dX10_any_18 ?_
      refine dz_aload_n (pc := 21) C dX10_any_21 rfl 0 rfl ?_
      obtain ⟨q3, eq3, h⟩ := dt_bind h
      refine dz_callVi (pc := 22) (st := []) (k := 18) (As := []) (M' := (dt_put M 18 q3.2)) C Fc_X10 hk_18 mf_X10_every rfl ml_X10_265 (m_X10_every l hGB hrc _ _ eq3) rfl rfl (by omega) (by decide) (Nat.le_of_ble_eq_true rfl) dX10_any_22 ?_
      refine dz_if_ne (pc := 25) (t := 30) C dX10_any_25 (by decide) h (fun h => ?_) (fun h => ?_)
      · refine dz_aload_n (pc := 30) C dX10_any_30 rfl 0 rfl ?_
        refine dz_bipush (pc := 31) (v := (22 : Int32)) C dX10_any_31 (by decide) ?_
        refine dz_iconst (pc := 33) (v := (0 : Int32)) C dX10_any_33 (by decide) ?_
        obtain ⟨q4, eq4, h⟩ := dt_bind h
        refine dz_callVv (pc := 34) (st := []) (k := 18) (As := [.int (22 : Int32), .int (0 : Int32)]) (M' := (dt_put M 18 q4)) C Fc_X10 hk_18 mf_X10_lay rfl ml_X10_258 (m_X10_lay l _ _ _ _ eq4) rfl rfl (by omega) (by decide) (Nat.le_of_ble_eq_true rfl) dX10_any_34 ?_
        refine dz_goto (pc := 37) (t := 9) C dX10_any_37 (by decide) ?_
        exact ih q4 h
      · refine dz_iconst (pc := 28) (v := (0 : Int32)) C dX10_any_28 (by decide) ?_
        cases dt_some h
        exact dz_zret (pc := 29) C hr (Or.inl rfl) dX10_any_29
def fX10_any (rc : dt_Ob → Option (Int32 × dt_Ob))  (T : dt_Ob) : Option (Int32 × dt_Ob) := ((fX10_every rc T).bind fun q1 => (if q1.1 = 0 then (some ((0 : Int32), q1.2)) else (fX10_any_9 rc dt_F q1.2)))
set_option maxRecDepth 10000 in
set_option maxHeartbeats 4000000 in
theorem m_X10_any (l : Launch) {hN : Nat} (hGB : 19 ≤ hN) {rc : dt_Ob → Option (Int32 × dt_Ob)} (hrc : ∀ (M : dt_M) (T : dt_Ob) {res : Int32 × dt_Ob}, rc T = some res → dt_Met 1 l yX10_oneTest cX10_oneTest 2 (some .boolean) hN (fun G => [.ref (G.1 18 0)]) (dt_put M 18 T) (some (.int res.1)) (dt_put M 18 res.2)) (M : dt_M) (T : dt_Ob)   {res : Int32 × dt_Ob} (h : fX10_any rc T = some res) : dt_Met 1 l yX10_any cX10_any 1 (some .boolean) (hN + 2) (fun G => [.ref (G.1 18 0)]) (dt_put M 18 T) (some (.int res.1)) (dt_put M 18 res.2) := by
  refine dz_enter (lv := fun G => [(0, .ref (G.1 18 0))]) (by decide) (fun _ => rfl) (fun _ => Nat.le_of_ble_eq_true rfl) (fun G A p e s m args below meth c C hr => ?_)
  unfold fX10_any at h
  refine dz_aload_n (pc := 0) C dX10_any_0 rfl 0 rfl ?_
  obtain ⟨q1, eq1, h⟩ := dt_bind h
  refine dz_callVi (pc := 1) (st := []) (k := 18) (As := []) (M' := (dt_put M 18 q1.2)) C Fc_X10 hk_18 mf_X10_every rfl ml_X10_265 (m_X10_every l hGB hrc _ _ eq1) rfl rfl (by omega) (by decide) (Nat.le_of_ble_eq_true rfl) dX10_any_1 ?_
  refine dz_if_ne (pc := 4) (t := 9) C dX10_any_4 (by decide) h (fun h => ?_) (fun h => ?_)
  · exact tX10_any_9 C hr hGB hrc dt_F q1.2 h
  · refine dz_iconst (pc := 7) (v := (0 : Int32)) C dX10_any_7 (by decide) ?_
    cases dt_some h
    exact dz_zret (pc := 8) C hr (Or.inl rfl) dX10_any_8

def fX10_oneTest_147 (rc : dt_Ob → Option (Int32 × dt_Ob))  (s0 : Int32) (T : dt_Ob) : Option (Int32 × dt_Ob) := (if s0 = (-1 : Int32) then ((fX10_bad (1 : Int32) T).bind fun q11 => (if q11.1 = 0 ∨ q11.1 = 1 then (some (q11.1, q11.2)) else none)) else ((fX10_next0 T).bind fun q8 => ((fX10_sumUp q8).bind fun q9 => (if q9.1 = 0 then (some ((0 : Int32), q9.2)) else ((fX10_lay s0 (0 : Int32) q9.2).bind fun q10 => (some ((1 : Int32), q10)))))))
set_option maxRecDepth 10000 in
set_option maxHeartbeats 4000000 in
theorem tX10_oneTest_147 {G : dt_G} {A : Nat → Prop} {p : Program} {l : Launch} {e : Env} {s : State} {m : MethodId} {args : Array Value} {below : List Frame} {meth : Method} {c : Code} (C : dt_Cx 1 G A p s m args meth c cX10_oneTest 2 RX10) (hr : meth.sig.returnType = (some .boolean)) {M : dt_M} {hN : Nat} (hGB : 19 ≤ hN) {rc : dt_Ob → Option (Int32 × dt_Ob)} (hrc : ∀ (M : dt_M) (T : dt_Ob) {res : Int32 × dt_Ob}, rc T = some res → dt_Met 1 l yX10_oneTest cX10_oneTest 2 (some .boolean) hN (fun G => [.ref (G.1 18 0)]) (dt_put M 18 T) (some (.int res.1)) (dt_put M 18 res.2)) {res : Int32 × dt_Ob}  : ∀ (s0 : Int32) (T : dt_Ob), fX10_oneTest_147 rc s0 T = some res → dt_At G A p l e (dt_rm (hN + 3)) s m args below meth c 2 (MQ below (dt_Post G A (some (.int res.1)) (dt_put M 18 res.2)) args s 0 0 A) 147 [(0, .ref (G.1 18 0))] [.int s0] (dt_put M 18 T) := by
  intro s0 T h
  unfold fX10_oneTest_147 at h
  refine dz_istore_n (pc := 147) C dX10_oneTest_147 rfl (by decide) rfl ?_
  refine dz_iload_n (pc := 148) C dX10_oneTest_148 rfl 0 rfl ?_
  refine dz_iconst (pc := 149) (v := (-1 : Int32)) C dX10_oneTest_149 (by decide) ?_
  refine dz_icmp_ne (pc := 150) (t := 159) C dX10_oneTest_150 (by decide) h (fun h => ?_) (fun h => ?_)
  · refine dz_aload_n (pc := 159) C dX10_oneTest_159 rfl 1 rfl ?_
    obtain ⟨q8, eq8, h⟩ := dt_bind h
    refine dz_callVv (pc := 160) (st := []) (k := 18) (As := []) (M' := (dt_put M 18 q8)) C Fc_X10 hk_18 mf_X10_next0 rfl ml_X10_245 (m_X10_next0 l _ _ eq8) rfl rfl (by omega) (by decide) (Nat.le_of_ble_eq_true rfl) dX10_oneTest_160 ?_
    refine dz_aload_n (pc := 163) C dX10_oneTest_163 rfl 1 rfl ?_
    obtain ⟨q9, eq9, h⟩ := dt_bind h
    refine dz_callVi (pc := 164) (st := []) (k := 18) (As := []) (M' := (dt_put M 18 q9.2)) C Fc_X10 hk_18 mf_X10_sumUp rfl ml_X10_280 (m_X10_sumUp l _ _ eq9) rfl rfl (by omega) (by decide) (Nat.le_of_ble_eq_true rfl) dX10_oneTest_164 ?_
    refine dz_if_ne (pc := 167) (t := 172) C dX10_oneTest_167 (by decide) h (fun h => ?_) (fun h => ?_)
    · refine dz_aload_n (pc := 172) C dX10_oneTest_172 rfl 1 rfl ?_
      refine dz_iload_n (pc := 173) C dX10_oneTest_173 rfl 0 rfl ?_
      refine dz_iconst (pc := 174) (v := (0 : Int32)) C dX10_oneTest_174 (by decide) ?_
      obtain ⟨q10, eq10, h⟩ := dt_bind h
      refine dz_callVv (pc := 175) (st := []) (k := 18) (As := [.int s0, .int (0 : Int32)]) (M' := (dt_put M 18 q10)) C Fc_X10 hk_18 mf_X10_lay rfl ml_X10_258 (m_X10_lay l _ _ _ _ eq10) rfl rfl (by omega) (by decide) (Nat.le_of_ble_eq_true rfl) dX10_oneTest_175 ?_
      refine dz_iconst (pc := 178) (v := (1 : Int32)) C dX10_oneTest_178 (by decide) ?_
      cases dt_some h
      exact dz_zret (pc := 179) C hr (Or.inr rfl) dX10_oneTest_179
    · refine dz_iconst (pc := 170) (v := (0 : Int32)) C dX10_oneTest_170 (by decide) ?_
      cases dt_some h
      exact dz_zret (pc := 171) C hr (Or.inl rfl) dX10_oneTest_171
  · refine dz_aload_n (pc := 153) C dX10_oneTest_153 rfl 1 rfl ?_
    refine dz_iconst (pc := 154) (v := (1 : Int32)) C dX10_oneTest_154 (by decide) ?_
    obtain ⟨q11, eq11, h⟩ := dt_bind h
    refine dz_callVi (pc := 155) (st := []) (k := 18) (As := [.int (1 : Int32)]) (M' := (dt_put M 18 q11.2)) C Fc_X10 hk_18 mf_X10_bad rfl ml_X10_242 (m_X10_bad l _ _ _ eq11) rfl rfl (by omega) (by decide) (Nat.le_of_ble_eq_true rfl) dX10_oneTest_155 ?_
    obtain ⟨hz12, h⟩ := dt_ifn h
    cases dt_some h
    exact dz_zret (pc := 158) C hr hz12 dX10_oneTest_158
def fX10_oneTest_b (rc : dt_Ob → Option (Int32 × dt_Ob))  (T : dt_Ob) : Option (Int32 × dt_Ob) := (if (T 20 0) = (6 : Int32) then ((fX10_opens T).bind fun q5 => (if q5.1 = 0 then (some ((0 : Int32), q5.2)) else ((rc q5.2).bind fun q6 => (if q6.1 = 0 then (some ((0 : Int32), q6.2)) else ((fX10_lay (20 : Int32) (0 : Int32) (dt_set q6.2 26 0 ((q6.2 26 0) - (1 : Int32)))).bind fun q7 => (some ((1 : Int32), q7))))))) else (if (T 20 0) = (140 : Int32) then ((fX10_opens T).bind fun q2 => (if q2.1 = 0 then (some ((0 : Int32), q2.2)) else ((fX10_any rc q2.2).bind fun q3 => (if q3.1 = 0 then (some ((0 : Int32), q3.2)) else ((fX10_need (141 : Int32) q3.2).bind fun q4 => (if q4.1 = 0 then (some ((0 : Int32), q4.2)) else (some ((1 : Int32), (dt_set q4.2 26 0 ((q4.2 26 0) - (1 : Int32))))))))))) else ((fX10_sumUp T).bind fun q1 => (if q1.1 = 0 then (some ((0 : Int32), q1.2)) else (if (q1.2 20 0) = (160 : Int32) then (fX10_oneTest_147 rc (17 : Int32) q1.2) else (if (q1.2 20 0) = (161 : Int32) then (fX10_oneTest_147 rc (18 : Int32) q1.2) else (if (q1.2 20 0) = (162 : Int32) then (fX10_oneTest_147 rc (19 : Int32) q1.2) else (fX10_oneTest_147 rc (-1 : Int32) q1.2))))))))
def fX10_oneTest  : Nat → dt_Ob → Option (Int32 × dt_Ob)
  | 0, _ => none
  | n + 1, T => fX10_oneTest_b (fX10_oneTest n) T
set_option maxRecDepth 10000 in
set_option maxHeartbeats 4000000 in
theorem m_X10_oneTest_b (l : Launch) {hN : Nat} (hGB : 19 ≤ hN) {rc : dt_Ob → Option (Int32 × dt_Ob)} (hrc : ∀ (M : dt_M) (T : dt_Ob) {res : Int32 × dt_Ob}, rc T = some res → dt_Met 1 l yX10_oneTest cX10_oneTest 2 (some .boolean) hN (fun G => [.ref (G.1 18 0)]) (dt_put M 18 T) (some (.int res.1)) (dt_put M 18 res.2)) (M : dt_M) (T : dt_Ob)  {res : Int32 × dt_Ob} (h : fX10_oneTest_b rc T = some res) : dt_Met 1 l yX10_oneTest cX10_oneTest 2 (some .boolean) (hN + 3) (fun G => [.ref (G.1 18 0)]) (dt_put M 18 T) (some (.int res.1)) (dt_put M 18 res.2) := by
  refine dz_enter (lv := fun G => [(0, .ref (G.1 18 0))]) (by decide) (fun _ => rfl) (fun _ => Nat.le_of_ble_eq_true rfl) (fun G A p e s m args below meth c C hr => ?_)
  unfold fX10_oneTest_b at h
  refine dz_aload_n (pc := 0) C dX10_oneTest_0 rfl 0 rfl ?_
  refine dz_getI (pc := 1) (k := 18) (j := 20) (v := (T 20 0)) C Fc_X10 hk_18 (by decide) rfl rfl fl_X10_221 (dt_rA _ _ _ _ _) dX10_oneTest_1 ?_
  refine dz_bipush (pc := 4) (v := (6 : Int32)) C dX10_oneTest_4 (by decide) ?_
  refine dz_icmp_ne (pc := 6) (t := 44) C dX10_oneTest_6 (by decide) h (fun h => ?_) (fun h => ?_)
  · refine dz_aload_n (pc := 44) C dX10_oneTest_44 rfl 0 rfl ?_
    refine dz_getI (pc := 45) (k := 18) (j := 20) (v := (T 20 0)) C Fc_X10 hk_18 (by decide) rfl rfl fl_X10_221 (dt_rA _ _ _ _ _) dX10_oneTest_45 ?_
    refine dz_sipush (pc := 48) (v := (140 : Int32)) C dX10_oneTest_48 (by decide) ?_
    refine dz_icmp_ne (pc := 51) (t := 92) C dX10_oneTest_51 (by decide) h (fun h => ?_) (fun h => ?_)
    · refine dz_aload_n (pc := 92) C dX10_oneTest_92 rfl 0 rfl ?_
      obtain ⟨q1, eq1, h⟩ := dt_bind h
      refine dz_callVi (pc := 93) (st := []) (k := 18) (As := []) (M' := (dt_put M 18 q1.2)) C Fc_X10 hk_18 mf_X10_sumUp rfl ml_X10_280 (m_X10_sumUp l _ _ eq1) rfl rfl (by omega) (by decide) (Nat.le_of_ble_eq_true rfl) dX10_oneTest_93 ?_
      refine dz_if_ne (pc := 96) (t := 101) C dX10_oneTest_96 (by decide) h (fun h => ?_) (fun h => ?_)
      · refine dz_aload_n (pc := 101) C dX10_oneTest_101 rfl 0 rfl ?_
        refine dz_getI (pc := 102) (k := 18) (j := 20) (v := (q1.2 20 0)) C Fc_X10 hk_18 (by decide) rfl rfl fl_X10_221 (dt_rA _ _ _ _ _) dX10_oneTest_102 ?_
        refine dz_sipush (pc := 105) (v := (160 : Int32)) C dX10_oneTest_105 (by decide) ?_
        refine dz_icmp_ne (pc := 108) (t := 116) C dX10_oneTest_108 (by decide) h (fun h => ?_) (fun h => ?_)
        · refine dz_aload_n (pc := 116) C dX10_oneTest_116 rfl 0 rfl ?_
          refine dz_getI (pc := 117) (k := 18) (j := 20) (v := (q1.2 20 0)) C Fc_X10 hk_18 (by decide) rfl rfl fl_X10_221 (dt_rA _ _ _ _ _) dX10_oneTest_117 ?_
          refine dz_sipush (pc := 120) (v := (161 : Int32)) C dX10_oneTest_120 (by decide) ?_
          refine dz_icmp_ne (pc := 123) (t := 131) C dX10_oneTest_123 (by decide) h (fun h => ?_) (fun h => ?_)
          · refine dz_aload_n (pc := 131) C dX10_oneTest_131 rfl 0 rfl ?_
            refine dz_getI (pc := 132) (k := 18) (j := 20) (v := (q1.2 20 0)) C Fc_X10 hk_18 (by decide) rfl rfl fl_X10_221 (dt_rA _ _ _ _ _) dX10_oneTest_132 ?_
            refine dz_sipush (pc := 135) (v := (162 : Int32)) C dX10_oneTest_135 (by decide) ?_
            refine dz_icmp_ne (pc := 138) (t := 146) C dX10_oneTest_138 (by decide) h (fun h => ?_) (fun h => ?_)
            · refine dz_iconst (pc := 146) (v := (-1 : Int32)) C dX10_oneTest_146 (by decide) ?_
              exact tX10_oneTest_147 C hr hGB hrc  (-1 : Int32) q1.2 h
            · refine dz_bipush (pc := 141) (v := (19 : Int32)) C dX10_oneTest_141 (by decide) ?_
              refine dz_goto (pc := 143) (t := 147) C dX10_oneTest_143 (by decide) ?_
              exact tX10_oneTest_147 C hr hGB hrc  (19 : Int32) q1.2 h
          · refine dz_bipush (pc := 126) (v := (18 : Int32)) C dX10_oneTest_126 (by decide) ?_
            refine dz_goto (pc := 128) (t := 147) C dX10_oneTest_128 (by decide) ?_
            exact tX10_oneTest_147 C hr hGB hrc  (18 : Int32) q1.2 h
        · refine dz_bipush (pc := 111) (v := (17 : Int32)) C dX10_oneTest_111 (by decide) ?_
          refine dz_goto (pc := 113) (t := 147) C dX10_oneTest_113 (by decide) ?_
          exact tX10_oneTest_147 C hr hGB hrc  (17 : Int32) q1.2 h
      · refine dz_iconst (pc := 99) (v := (0 : Int32)) C dX10_oneTest_99 (by decide) ?_
        cases dt_some h
        exact dz_zret (pc := 100) C hr (Or.inl rfl) dX10_oneTest_100
    · refine dz_aload_n (pc := 54) C dX10_oneTest_54 rfl 0 rfl ?_
      obtain ⟨q2, eq2, h⟩ := dt_bind h
      refine dz_callVi (pc := 55) (st := []) (k := 18) (As := []) (M' := (dt_put M 18 q2.2)) C Fc_X10 hk_18 mf_X10_opens rfl ml_X10_271 (m_X10_opens l _ _ eq2) rfl rfl (by omega) (by decide) (Nat.le_of_ble_eq_true rfl) dX10_oneTest_55 ?_
      refine dz_if_eq (pc := 58) (t := 78) C dX10_oneTest_58 (by decide) h (fun h => ?_) (fun h => ?_)
      · refine dz_iconst (pc := 78) (v := (0 : Int32)) C dX10_oneTest_78 (by decide) ?_
        cases dt_some h
        exact dz_zret (pc := 79) C hr (Or.inl rfl) dX10_oneTest_79
      · refine dz_aload_n (pc := 61) C dX10_oneTest_61 rfl 0 rfl ?_
        obtain ⟨q3, eq3, h⟩ := dt_bind h
        refine dz_callVi (pc := 62) (st := []) (k := 18) (As := []) (M' := (dt_put M 18 q3.2)) C Fc_X10 hk_18 mf_X10_any rfl ml_X10_274 (m_X10_any l hGB hrc _ _ eq3) rfl rfl (by omega) (by decide) (Nat.le_of_ble_eq_true rfl) dX10_oneTest_62 ?_
        refine dz_if_eq (pc := 65) (t := 78) C dX10_oneTest_65 (by decide) h (fun h => ?_) (fun h => ?_)
        · refine dz_iconst (pc := 78) (v := (0 : Int32)) C dX10_oneTest_78 (by decide) ?_
          cases dt_some h
          exact dz_zret (pc := 79) C hr (Or.inl rfl) dX10_oneTest_79
        · refine dz_aload_n (pc := 68) C dX10_oneTest_68 rfl 0 rfl ?_
          refine dz_sipush (pc := 69) (v := (141 : Int32)) C dX10_oneTest_69 (by decide) ?_
          obtain ⟨q4, eq4, h⟩ := dt_bind h
          refine dz_callVi (pc := 72) (st := []) (k := 18) (As := [.int (141 : Int32)]) (M' := (dt_put M 18 q4.2)) C Fc_X10 hk_18 mf_X10_need rfl ml_X10_277 (m_X10_need l _ _ _ eq4) rfl rfl (by omega) (by decide) (Nat.le_of_ble_eq_true rfl) dX10_oneTest_72 ?_
          refine dz_if_ne (pc := 75) (t := 80) C dX10_oneTest_75 (by decide) h (fun h => ?_) (fun h => ?_)
          · refine dz_aload_n (pc := 80) C dX10_oneTest_80 rfl 0 rfl ?_
            refine dz_dup (pc := 81) C dX10_oneTest_81 rfl ?_
            refine dz_getI (pc := 82) (k := 18) (j := 26) (v := (q4.2 26 0)) C Fc_X10 hk_18 (by decide) rfl rfl fl_X10_251 (dt_rA _ _ _ _ _) dX10_oneTest_82 ?_
            refine dz_iconst (pc := 85) (v := (1 : Int32)) C dX10_oneTest_85 (by decide) ?_
            refine dz_isub (pc := 86) C dX10_oneTest_86 ?_
            refine dz_putI (pc := 87) (k := 18) (j := 26) (M' := (dt_put M 18 (dt_set q4.2 26 0 ((q4.2 26 0) - (1 : Int32))))) C Fc_X10 hk_18 (by decide) rfl rfl rfl rfl fl_X10_251 (dt_wA _ _ _ _ _ _) dX10_oneTest_87 ?_
            refine dz_iconst (pc := 90) (v := (1 : Int32)) C dX10_oneTest_90 (by decide) ?_
            cases dt_some h
            exact dz_zret (pc := 91) C hr (Or.inr rfl) dX10_oneTest_91
          · refine dz_iconst (pc := 78) (v := (0 : Int32)) C dX10_oneTest_78 (by decide) ?_
            cases dt_some h
            exact dz_zret (pc := 79) C hr (Or.inl rfl) dX10_oneTest_79
  · refine dz_aload_n (pc := 9) C dX10_oneTest_9 rfl 0 rfl ?_
    obtain ⟨q5, eq5, h⟩ := dt_bind h
    refine dz_callVi (pc := 10) (st := []) (k := 18) (As := []) (M' := (dt_put M 18 q5.2)) C Fc_X10 hk_18 mf_X10_opens rfl ml_X10_271 (m_X10_opens l _ _ eq5) rfl rfl (by omega) (by decide) (Nat.le_of_ble_eq_true rfl) dX10_oneTest_10 ?_
    refine dz_if_eq (pc := 13) (t := 23) C dX10_oneTest_13 (by decide) h (fun h => ?_) (fun h => ?_)
    · refine dz_iconst (pc := 23) (v := (0 : Int32)) C dX10_oneTest_23 (by decide) ?_
      cases dt_some h
      exact dz_zret (pc := 24) C hr (Or.inl rfl) dX10_oneTest_24
    · refine dz_aload_n (pc := 16) C dX10_oneTest_16 rfl 0 rfl ?_
      obtain ⟨q6, eq6, h⟩ := dt_bind h
      refine dz_callVi (pc := 17) (st := []) (k := 18) (As := []) (M' := (dt_put M 18 q6.2)) C Fc_X10 hk_18 mf_X10_oneTest rfl ml_X10_268 (hrc _ _ eq6) rfl rfl (by omega) (by decide) (Nat.le_of_ble_eq_true rfl) dX10_oneTest_17 ?_
      refine dz_if_ne (pc := 20) (t := 25) C dX10_oneTest_20 (by decide) h (fun h => ?_) (fun h => ?_)
      · refine dz_aload_n (pc := 25) C dX10_oneTest_25 rfl 0 rfl ?_
        refine dz_dup (pc := 26) C dX10_oneTest_26 rfl ?_
        refine dz_getI (pc := 27) (k := 18) (j := 26) (v := (q6.2 26 0)) C Fc_X10 hk_18 (by decide) rfl rfl fl_X10_251 (dt_rA _ _ _ _ _) dX10_oneTest_27 ?_
        refine dz_iconst (pc := 30) (v := (1 : Int32)) C dX10_oneTest_30 (by decide) ?_
        refine dz_isub (pc := 31) C dX10_oneTest_31 ?_
        refine dz_putI (pc := 32) (k := 18) (j := 26) (M' := (dt_put M 18 (dt_set q6.2 26 0 ((q6.2 26 0) - (1 : Int32))))) C Fc_X10 hk_18 (by decide) rfl rfl rfl rfl fl_X10_251 (dt_wA _ _ _ _ _ _) dX10_oneTest_32 ?_
        refine dz_aload_n (pc := 35) C dX10_oneTest_35 rfl 0 rfl ?_
        refine dz_bipush (pc := 36) (v := (20 : Int32)) C dX10_oneTest_36 (by decide) ?_
        refine dz_iconst (pc := 38) (v := (0 : Int32)) C dX10_oneTest_38 (by decide) ?_
        obtain ⟨q7, eq7, h⟩ := dt_bind h
        refine dz_callVv (pc := 39) (st := []) (k := 18) (As := [.int (20 : Int32), .int (0 : Int32)]) (M' := (dt_put M 18 q7)) C Fc_X10 hk_18 mf_X10_lay rfl ml_X10_258 (m_X10_lay l _ _ _ _ eq7) rfl rfl (by omega) (by decide) (Nat.le_of_ble_eq_true rfl) dX10_oneTest_39 ?_
        refine dz_iconst (pc := 42) (v := (1 : Int32)) C dX10_oneTest_42 (by decide) ?_
        cases dt_some h
        exact dz_zret (pc := 43) C hr (Or.inr rfl) dX10_oneTest_43
      · refine dz_iconst (pc := 23) (v := (0 : Int32)) C dX10_oneTest_23 (by decide) ?_
        cases dt_some h
        exact dz_zret (pc := 24) C hr (Or.inl rfl) dX10_oneTest_24
theorem m_X10_oneTest_n (l : Launch) : ∀ (n : Nat) (M : dt_M) (T : dt_Ob)  {res : Int32 × dt_Ob}, fX10_oneTest n T = some res → dt_Met 1 l yX10_oneTest cX10_oneTest 2 (some .boolean) (19 + 3 * n) (fun G => [.ref (G.1 18 0)]) (dt_put M 18 T) (some (.int res.1)) (dt_put M 18 res.2) := by
  intro n
  induction n with
  | zero =>
    intro M T res h
    unfold fX10_oneTest at h
    cases h
  | succ n ih =>
    intro M T res h
    unfold fX10_oneTest at h
    have e0 : 19 + 3 * (n + 1) = 19 + 3 * n + 3 := by omega
    rw [e0]
    exact m_X10_oneTest_b l  (by omega) (fun M T _ h => ih M T h) M T h
theorem m_X10_oneTest (l : Launch) (M : dt_M) (n : Nat) (T : dt_Ob)  {res : Int32 × dt_Ob} (h : fX10_oneTest n T = some res) : dt_Met 1 l yX10_oneTest cX10_oneTest 2 (some .boolean) (19 + 3 * n) (fun G => [.ref (G.1 18 0)]) (dt_put M 18 T) (some (.int res.1)) (dt_put M 18 res.2) := m_X10_oneTest_n l  n M T h

def fX10_aLine  (T : dt_Ob) : Option (Int32 × dt_Ob) := ((fX10_isIn (T 20 0) (20 : Int32) (21 : Int32)).bind fun q1 => (if q1 = 0 then ((fX10_bad (1 : Int32) T).bind fun q11 => (if q11.1 = 0 ∨ q11.1 = 1 then (some (q11.1, q11.2)) else none)) else (if (T 16 0) = (16 : Int32) then ((fX10_bad (3 : Int32) T).bind fun q9 => (if q9.1 = 0 ∨ q9.1 = 1 then (some (q9.1, q9.2)) else none)) else ((dt_ix ((3 : Int32) * (T 16 0)) 48).bind fun a2 => ((fX10_next0 (dt_set (dt_set T 11 a2 ((T 20 0) - (20 : Int32))) 26 0 (0 : Int32))).bind fun q3 => ((dt_ix (((3 : Int32) * (q3 16 0)) + (1 : Int32)) 48).bind fun a4 => ((fX10_any (fX10_oneTest 24) (dt_set q3 11 a4 (q3 17 0))).bind fun q5 => (if q5.1 = 0 then (some ((0 : Int32), q5.2)) else ((dt_ix (((3 : Int32) * (q5.2 16 0)) + (2 : Int32)) 48).bind fun a6 => ((fX10_need (159 : Int32) (dt_set q5.2 11 a6 (q5.2 17 0))).bind fun q7 => (if q7.1 = 0 ∨ q7.1 = 1 then (some (q7.1, q7.2)) else none)))))))))))
set_option maxRecDepth 10000 in
set_option maxHeartbeats 4000000 in
theorem m_X10_aLine (l : Launch)  (M : dt_M) (T : dt_Ob)   {res : Int32 × dt_Ob} (h : fX10_aLine T = some res) : dt_Met 1 l yX10_aLine cX10_aLine 1 (some .boolean) 94 (fun G => [.ref (G.1 18 0)]) (dt_put M 18 T) (some (.int res.1)) (dt_put M 18 res.2) := by
  refine dz_enter (lv := fun G => [(0, .ref (G.1 18 0))]) (by decide) (fun _ => rfl) (fun _ => Nat.le_of_ble_eq_true rfl) (fun G A p e s m args below meth c C hr => ?_)
  unfold fX10_aLine at h
  refine dz_aload_n (pc := 0) C dX10_aLine_0 rfl 0 rfl ?_
  refine dz_getI (pc := 1) (k := 18) (j := 20) (v := (T 20 0)) C Fc_X10 hk_18 (by decide) rfl rfl fl_X10_221 (dt_rA _ _ _ _ _) dX10_aLine_1 ?_
  refine dz_bipush (pc := 4) (v := (20 : Int32)) C dX10_aLine_4 (by decide) ?_
  refine dz_bipush (pc := 6) (v := (21 : Int32)) C dX10_aLine_6 (by decide) ?_
  obtain ⟨q1, eq1, h⟩ := dt_bind h
  refine dz_callSi (pc := 8) (st := []) (As := [.int (T 20 0), .int (20 : Int32), .int (21 : Int32)]) (M' := (dt_put M 18 T)) C ms_X10_isIn ml_X10_76 (m_X10_isIn l _ _ _ _ eq1) rfl rfl (by omega) (by decide) (Nat.le_of_ble_eq_true rfl) dX10_aLine_8 ?_
  refine dz_if_ne (pc := 11) (t := 20) C dX10_aLine_11 (by decide) h (fun h => ?_) (fun h => ?_)
  · refine dz_aload_n (pc := 20) C dX10_aLine_20 rfl 0 rfl ?_
    refine dz_getI (pc := 21) (k := 18) (j := 16) (v := (T 16 0)) C Fc_X10 hk_18 (by decide) rfl rfl fl_X10_283 (dt_rA _ _ _ _ _) dX10_aLine_21 ?_
    refine dz_bipush (pc := 24) (v := (16 : Int32)) C dX10_aLine_24 (by decide) ?_
    refine dz_icmp_ne (pc := 26) (t := 35) C dX10_aLine_26 (by decide) h (fun h => ?_) (fun h => ?_)
    · refine dz_aload_n (pc := 35) C dX10_aLine_35 rfl 0 rfl ?_
      refine dz_getR (pc := 36) (k := 18) (j := 11) C Fc_X10 hk_18 (by decide) (by decide) rfl fl_X10_37 dX10_aLine_36 ?_
      refine dz_iconst (pc := 39) (v := (3 : Int32)) C dX10_aLine_39 (by decide) ?_
      refine dz_aload_n (pc := 40) C dX10_aLine_40 rfl 0 rfl ?_
      refine dz_getI (pc := 41) (k := 18) (j := 16) (v := (T 16 0)) C Fc_X10 hk_18 (by decide) rfl rfl fl_X10_283 (dt_rA _ _ _ _ _) dX10_aLine_41 ?_
      refine dz_imul (pc := 44) C dX10_aLine_44 ?_
      refine dz_aload_n (pc := 45) C dX10_aLine_45 rfl 0 rfl ?_
      refine dz_getI (pc := 46) (k := 18) (j := 20) (v := (T 20 0)) C Fc_X10 hk_18 (by decide) rfl rfl fl_X10_221 (dt_rA _ _ _ _ _) dX10_aLine_46 ?_
      refine dz_bipush (pc := 49) (v := (20 : Int32)) C dX10_aLine_49 (by decide) ?_
      refine dz_isub (pc := 51) C dX10_aLine_51 ?_
      refine dz_iast (pc := 52) (k := 18) (j := 11) (n := 48) (M' := fun a2 => (dt_put M 18 (dt_set T 11 a2 ((T 20 0) - (20 : Int32))))) C hk_18 (by decide) rfl (fun a2 => (dt_wA _ _ _ _ _ _)) dX10_aLine_52 h (fun a2 h => ?_)
      refine dz_aload_n (pc := 53) C dX10_aLine_53 rfl 0 rfl ?_
      refine dz_iconst (pc := 54) (v := (0 : Int32)) C dX10_aLine_54 (by decide) ?_
      refine dz_putI (pc := 55) (k := 18) (j := 26) (M' := (dt_put M 18 (dt_set (dt_set T 11 a2 ((T 20 0) - (20 : Int32))) 26 0 (0 : Int32)))) C Fc_X10 hk_18 (by decide) rfl rfl rfl rfl fl_X10_251 (dt_wA _ _ _ _ _ _) dX10_aLine_55 ?_
      refine dz_aload_n (pc := 58) C dX10_aLine_58 rfl 0 rfl ?_
      obtain ⟨q3, eq3, h⟩ := dt_bind h
      refine dz_callVv (pc := 59) (st := []) (k := 18) (As := []) (M' := (dt_put M 18 q3)) C Fc_X10 hk_18 mf_X10_next0 rfl ml_X10_245 (m_X10_next0 l _ _ eq3) rfl rfl (by omega) (by decide) (Nat.le_of_ble_eq_true rfl) dX10_aLine_59 ?_
      refine dz_aload_n (pc := 62) C dX10_aLine_62 rfl 0 rfl ?_
      refine dz_getR (pc := 63) (k := 18) (j := 11) C Fc_X10 hk_18 (by decide) (by decide) rfl fl_X10_37 dX10_aLine_63 ?_
      refine dz_iconst (pc := 66) (v := (3 : Int32)) C dX10_aLine_66 (by decide) ?_
      refine dz_aload_n (pc := 67) C dX10_aLine_67 rfl 0 rfl ?_
      refine dz_getI (pc := 68) (k := 18) (j := 16) (v := (q3 16 0)) C Fc_X10 hk_18 (by decide) rfl rfl fl_X10_283 (dt_rA _ _ _ _ _) dX10_aLine_68 ?_
      refine dz_imul (pc := 71) C dX10_aLine_71 ?_
      refine dz_iconst (pc := 72) (v := (1 : Int32)) C dX10_aLine_72 (by decide) ?_
      refine dz_iadd (pc := 73) C dX10_aLine_73 ?_
      refine dz_aload_n (pc := 74) C dX10_aLine_74 rfl 0 rfl ?_
      refine dz_getI (pc := 75) (k := 18) (j := 17) (v := (q3 17 0)) C Fc_X10 hk_18 (by decide) rfl rfl fl_X10_248 (dt_rA _ _ _ _ _) dX10_aLine_75 ?_
      refine dz_iast (pc := 78) (k := 18) (j := 11) (n := 48) (M' := fun a4 => (dt_put M 18 (dt_set q3 11 a4 (q3 17 0)))) C hk_18 (by decide) rfl (fun a4 => (dt_wA _ _ _ _ _ _)) dX10_aLine_78 h (fun a4 h => ?_)
      refine dz_aload_n (pc := 79) C dX10_aLine_79 rfl 0 rfl ?_
      obtain ⟨q5, eq5, h⟩ := dt_bind h
      refine dz_callVi (pc := 80) (st := []) (k := 18) (As := []) (M' := (dt_put M 18 q5.2)) C Fc_X10 hk_18 mf_X10_any rfl ml_X10_274 (m_X10_any l (hN := 19 + 3 * 24) (by omega) (fun M T _ h => m_X10_oneTest l  M 24 T h) _ _ eq5) rfl rfl (by omega) (by decide) (Nat.le_of_ble_eq_true rfl) dX10_aLine_80 ?_
      refine dz_if_ne (pc := 83) (t := 88) C dX10_aLine_83 (by decide) h (fun h => ?_) (fun h => ?_)
      · refine dz_aload_n (pc := 88) C dX10_aLine_88 rfl 0 rfl ?_
        refine dz_getR (pc := 89) (k := 18) (j := 11) C Fc_X10 hk_18 (by decide) (by decide) rfl fl_X10_37 dX10_aLine_89 ?_
        refine dz_iconst (pc := 92) (v := (3 : Int32)) C dX10_aLine_92 (by decide) ?_
        refine dz_aload_n (pc := 93) C dX10_aLine_93 rfl 0 rfl ?_
        refine dz_getI (pc := 94) (k := 18) (j := 16) (v := (q5.2 16 0)) C Fc_X10 hk_18 (by decide) rfl rfl fl_X10_283 (dt_rA _ _ _ _ _) dX10_aLine_94 ?_
        refine dz_imul (pc := 97) C dX10_aLine_97 ?_
        refine dz_iconst (pc := 98) (v := (2 : Int32)) C dX10_aLine_98 (by decide) ?_
        refine dz_iadd (pc := 99) C dX10_aLine_99 ?_
        refine dz_aload_n (pc := 100) C dX10_aLine_100 rfl 0 rfl ?_
        refine dz_getI (pc := 101) (k := 18) (j := 17) (v := (q5.2 17 0)) C Fc_X10 hk_18 (by decide) rfl rfl fl_X10_248 (dt_rA _ _ _ _ _) dX10_aLine_101 ?_
        refine dz_iast (pc := 104) (k := 18) (j := 11) (n := 48) (M' := fun a6 => (dt_put M 18 (dt_set q5.2 11 a6 (q5.2 17 0)))) C hk_18 (by decide) rfl (fun a6 => (dt_wA _ _ _ _ _ _)) dX10_aLine_104 h (fun a6 h => ?_)
        refine dz_aload_n (pc := 105) C dX10_aLine_105 rfl 0 rfl ?_
        refine dz_sipush (pc := 106) (v := (159 : Int32)) C dX10_aLine_106 (by decide) ?_
        obtain ⟨q7, eq7, h⟩ := dt_bind h
        refine dz_callVi (pc := 109) (st := []) (k := 18) (As := [.int (159 : Int32)]) (M' := (dt_put M 18 q7.2)) C Fc_X10 hk_18 mf_X10_need rfl ml_X10_277 (m_X10_need l _ _ _ eq7) rfl rfl (by omega) (by decide) (Nat.le_of_ble_eq_true rfl) dX10_aLine_109 ?_
        obtain ⟨hz8, h⟩ := dt_ifn h
        cases dt_some h
        exact dz_zret (pc := 112) C hr hz8 dX10_aLine_112
      · refine dz_iconst (pc := 86) (v := (0 : Int32)) C dX10_aLine_86 (by decide) ?_
        cases dt_some h
        exact dz_zret (pc := 87) C hr (Or.inl rfl) dX10_aLine_87
    · refine dz_aload_n (pc := 29) C dX10_aLine_29 rfl 0 rfl ?_
      refine dz_iconst (pc := 30) (v := (3 : Int32)) C dX10_aLine_30 (by decide) ?_
      obtain ⟨q9, eq9, h⟩ := dt_bind h
      refine dz_callVi (pc := 31) (st := []) (k := 18) (As := [.int (3 : Int32)]) (M' := (dt_put M 18 q9.2)) C Fc_X10 hk_18 mf_X10_bad rfl ml_X10_242 (m_X10_bad l _ _ _ eq9) rfl rfl (by omega) (by decide) (Nat.le_of_ble_eq_true rfl) dX10_aLine_31 ?_
      obtain ⟨hz10, h⟩ := dt_ifn h
      cases dt_some h
      exact dz_zret (pc := 34) C hr hz10 dX10_aLine_34
  · refine dz_aload_n (pc := 14) C dX10_aLine_14 rfl 0 rfl ?_
    refine dz_iconst (pc := 15) (v := (1 : Int32)) C dX10_aLine_15 (by decide) ?_
    obtain ⟨q11, eq11, h⟩ := dt_bind h
    refine dz_callVi (pc := 16) (st := []) (k := 18) (As := [.int (1 : Int32)]) (M' := (dt_put M 18 q11.2)) C Fc_X10 hk_18 mf_X10_bad rfl ml_X10_242 (m_X10_bad l _ _ _ eq11) rfl rfl (by omega) (by decide) (Nat.le_of_ble_eq_true rfl) dX10_aLine_16 ?_
    obtain ⟨hz12, h⟩ := dt_ifn h
    cases dt_some h
    exact dz_zret (pc := 19) C hr hz12 dX10_aLine_19

def fX10_text_186  : Nat → Int32 → dt_Ob → Option (Int32 × dt_Ob)
  | 0, _, _ => none
  | n + 1, x2, T => (if ((2 : Int32) * (T 17 0)) ≤ x2 then (some ((T 16 0), T)) else ((dt_ix x2 820).bind fun a10 => ((dt_ix ((405 : Int32) + x2) 1225).bind fun a11 => ((fX10_text_186 n) (x2 + (1 : Int32)) (dt_set T 0 a11 ((T 12) a10))))))
set_option maxRecDepth 10000 in
set_option maxHeartbeats 4000000 in
theorem tX10_text_186 {G : dt_G} {A : Nat → Prop} {p : Program} {l : Launch} {e : Env} {s : State} {m : MethodId} {args : Array Value} {below : List Frame} {meth : Method} {c : Code} (C : dt_Cx 1 G A p s m args meth c cX10_text 3 RX10) (hr : meth.sig.returnType = (some .int)) {M : dt_M} {res : Int32 × dt_Ob}  : ∀ (n : Nat) (x2 : Int32) (T : dt_Ob), fX10_text_186 n x2 T = some res → dt_At G A p l e (dt_rm 95) s m args below meth c 3 (MQ below (dt_Post G A (some (.int res.1)) (dt_put M 18 res.2)) args s 0 0 A) 186 [(0, .ref (G.1 18 0)), (2, .int x2)] [] (dt_put M 18 T) := by
  intro n
  induction n with
  | zero =>
    intro x2 T h
    unfold fX10_text_186 at h
    cases h
  | succ n ih =>
    intro x2 T h
    unfold fX10_text_186 at h
    refine dz_iload_n (pc := 186) C dX10_text_186 rfl 1 rfl ?_
    refine dz_iconst (pc := 187) (v := (2 : Int32)) C dX10_text_187 (by decide) ?_
    refine dz_aload_n (pc := 188) C dX10_text_188 rfl 0 rfl ?_
    refine dz_getI (pc := 189) (k := 18) (j := 17) (v := (T 17 0)) C Fc_X10 hk_18 (by decide) rfl rfl fl_X10_248 (dt_rA _ _ _ _ _) dX10_text_189 ?_
    refine dz_imul (pc := 192) C dX10_text_192 ?_
    refine dz_icmp_ge (pc := 193) (t := 218) C dX10_text_193 (by decide) h (fun h => ?_) (fun h => ?_)
    · refine dz_aload_n (pc := 218) C dX10_text_218 rfl 0 rfl ?_
      refine dz_getI (pc := 219) (k := 18) (j := 16) (v := (T 16 0)) C Fc_X10 hk_18 (by decide) rfl rfl fl_X10_283 (dt_rA _ _ _ _ _) dX10_text_219 ?_
      cases dt_some h
      exact dz_iret (pc := 222) C hr dX10_text_222
    · refine dz_aload_n (pc := 196) C dX10_text_196 rfl 0 rfl ?_
      refine dz_getR (pc := 197) (k := 18) (j := 0) C Fc_X10 hk_18 (by decide) (by decide) rfl fl_X10_7 dX10_text_197 ?_
      refine dz_sipush (pc := 200) (v := (405 : Int32)) C dX10_text_200 (by decide) ?_
      refine dz_iload_n (pc := 203) C dX10_text_203 rfl 1 rfl ?_
      refine dz_iadd (pc := 204) C dX10_text_204 ?_
      refine dz_aload_n (pc := 205) C dX10_text_205 rfl 0 rfl ?_
      refine dz_getR (pc := 206) (k := 18) (j := 12) C Fc_X10 hk_18 (by decide) (by decide) rfl fl_X10_40 dX10_text_206 ?_
      refine dz_iload_n (pc := 209) C dX10_text_209 rfl 1 rfl ?_
      refine dz_iald (pc := 210) (k := 18) (j := 12) (n := 820) (f := (T 12)) C hk_18 (by decide) rfl (dt_rAf _ _ _ _) dX10_text_210 h (fun a10 h => ?_)
      refine dz_iast (pc := 211) (k := 18) (j := 0) (n := 1225) (M' := fun a11 => (dt_put M 18 (dt_set T 0 a11 ((T 12) a10)))) C hk_18 (by decide) rfl (fun a11 => (dt_wA _ _ _ _ _ _)) dX10_text_211 h (fun a11 h => ?_)
      refine dz_iinc (pc := 212) (v := (x2 + (1 : Int32))) C dX10_text_212 1 rfl rfl (by decide) rfl ?_
      refine dz_goto (pc := 215) (t := 186) C dX10_text_215 (by decide) ?_
      refine dz_sub [1, 0] rfl ?_
      exact ih (x2 + (1 : Int32)) (dt_set T 0 a11 ((T 12) a10)) h
def fX10_text_112  : Nat → Int32 → dt_Ob → Option (Int32 × dt_Ob)
  | 0, _, _ => none
  | n + 1, x2, T => (if (T 16 0) ≤ x2 then (fX10_text_186 dt_F (0 : Int32) T) else ((dt_ix ((3 : Int32) * x2) 48).bind fun a4 => ((dt_ix ((345 : Int32) + x2) 1225).bind fun a5 => ((dt_ix (((3 : Int32) * x2) + (1 : Int32)) 48).bind fun a6 => ((dt_ix ((365 : Int32) + x2) 1225).bind fun a7 => ((dt_ix (((3 : Int32) * x2) + (2 : Int32)) 48).bind fun a8 => ((dt_ix ((385 : Int32) + x2) 1225).bind fun a9 => ((fX10_text_112 n) (x2 + (1 : Int32)) (dt_set (dt_set (dt_set T 0 a5 ((T 11) a4)) 0 a7 ((T 11) a6)) 0 a9 ((T 11) a8))))))))))
set_option maxRecDepth 10000 in
set_option maxHeartbeats 4000000 in
theorem tX10_text_112 {G : dt_G} {A : Nat → Prop} {p : Program} {l : Launch} {e : Env} {s : State} {m : MethodId} {args : Array Value} {below : List Frame} {meth : Method} {c : Code} (C : dt_Cx 1 G A p s m args meth c cX10_text 3 RX10) (hr : meth.sig.returnType = (some .int)) {M : dt_M} {res : Int32 × dt_Ob}  : ∀ (n : Nat) (x2 : Int32) (T : dt_Ob), fX10_text_112 n x2 T = some res → dt_At G A p l e (dt_rm 95) s m args below meth c 3 (MQ below (dt_Post G A (some (.int res.1)) (dt_put M 18 res.2)) args s 0 0 A) 112 [(0, .ref (G.1 18 0)), (2, .int x2)] [] (dt_put M 18 T) := by
  intro n
  induction n with
  | zero =>
    intro x2 T h
    unfold fX10_text_112 at h
    cases h
  | succ n ih =>
    intro x2 T h
    unfold fX10_text_112 at h
    refine dz_iload_n (pc := 112) C dX10_text_112 rfl 1 rfl ?_
    refine dz_aload_n (pc := 113) C dX10_text_113 rfl 0 rfl ?_
    refine dz_getI (pc := 114) (k := 18) (j := 16) (v := (T 16 0)) C Fc_X10 hk_18 (by decide) rfl rfl fl_X10_283 (dt_rA _ _ _ _ _) dX10_text_114 ?_
    refine dz_icmp_ge (pc := 117) (t := 184) C dX10_text_117 (by decide) h (fun h => ?_) (fun h => ?_)
    · refine dz_iconst (pc := 184) (v := (0 : Int32)) C dX10_text_184 (by decide) ?_
      refine dz_istore_n (pc := 185) C dX10_text_185 rfl (by decide) rfl ?_
      refine dz_sub [1, 0] rfl ?_
      exact tX10_text_186 C hr dt_F (0 : Int32) T h
    · refine dz_aload_n (pc := 120) C dX10_text_120 rfl 0 rfl ?_
      refine dz_getR (pc := 121) (k := 18) (j := 0) C Fc_X10 hk_18 (by decide) (by decide) rfl fl_X10_7 dX10_text_121 ?_
      refine dz_sipush (pc := 124) (v := (345 : Int32)) C dX10_text_124 (by decide) ?_
      refine dz_iload_n (pc := 127) C dX10_text_127 rfl 1 rfl ?_
      refine dz_iadd (pc := 128) C dX10_text_128 ?_
      refine dz_aload_n (pc := 129) C dX10_text_129 rfl 0 rfl ?_
      refine dz_getR (pc := 130) (k := 18) (j := 11) C Fc_X10 hk_18 (by decide) (by decide) rfl fl_X10_37 dX10_text_130 ?_
      refine dz_iconst (pc := 133) (v := (3 : Int32)) C dX10_text_133 (by decide) ?_
      refine dz_iload_n (pc := 134) C dX10_text_134 rfl 1 rfl ?_
      refine dz_imul (pc := 135) C dX10_text_135 ?_
      refine dz_iald (pc := 136) (k := 18) (j := 11) (n := 48) (f := (T 11)) C hk_18 (by decide) rfl (dt_rAf _ _ _ _) dX10_text_136 h (fun a4 h => ?_)
      refine dz_iast (pc := 137) (k := 18) (j := 0) (n := 1225) (M' := fun a5 => (dt_put M 18 (dt_set T 0 a5 ((T 11) a4)))) C hk_18 (by decide) rfl (fun a5 => (dt_wA _ _ _ _ _ _)) dX10_text_137 h (fun a5 h => ?_)
      refine dz_aload_n (pc := 138) C dX10_text_138 rfl 0 rfl ?_
      refine dz_getR (pc := 139) (k := 18) (j := 0) C Fc_X10 hk_18 (by decide) (by decide) rfl fl_X10_7 dX10_text_139 ?_
      refine dz_sipush (pc := 142) (v := (365 : Int32)) C dX10_text_142 (by decide) ?_
      refine dz_iload_n (pc := 145) C dX10_text_145 rfl 1 rfl ?_
      refine dz_iadd (pc := 146) C dX10_text_146 ?_
      refine dz_aload_n (pc := 147) C dX10_text_147 rfl 0 rfl ?_
      refine dz_getR (pc := 148) (k := 18) (j := 11) C Fc_X10 hk_18 (by decide) (by decide) rfl fl_X10_37 dX10_text_148 ?_
      refine dz_iconst (pc := 151) (v := (3 : Int32)) C dX10_text_151 (by decide) ?_
      refine dz_iload_n (pc := 152) C dX10_text_152 rfl 1 rfl ?_
      refine dz_imul (pc := 153) C dX10_text_153 ?_
      refine dz_iconst (pc := 154) (v := (1 : Int32)) C dX10_text_154 (by decide) ?_
      refine dz_iadd (pc := 155) C dX10_text_155 ?_
      refine dz_iald (pc := 156) (k := 18) (j := 11) (n := 48) (f := (T 11)) C hk_18 (by decide) rfl (dt_rAf _ _ _ _) dX10_text_156 h (fun a6 h => ?_)
      refine dz_iast (pc := 157) (k := 18) (j := 0) (n := 1225) (M' := fun a7 => (dt_put M 18 (dt_set (dt_set T 0 a5 ((T 11) a4)) 0 a7 ((T 11) a6)))) C hk_18 (by decide) rfl (fun a7 => (dt_wA _ _ _ _ _ _)) dX10_text_157 h (fun a7 h => ?_)
      refine dz_aload_n (pc := 158) C dX10_text_158 rfl 0 rfl ?_
      refine dz_getR (pc := 159) (k := 18) (j := 0) C Fc_X10 hk_18 (by decide) (by decide) rfl fl_X10_7 dX10_text_159 ?_
      refine dz_sipush (pc := 162) (v := (385 : Int32)) C dX10_text_162 (by decide) ?_
      refine dz_iload_n (pc := 165) C dX10_text_165 rfl 1 rfl ?_
      refine dz_iadd (pc := 166) C dX10_text_166 ?_
      refine dz_aload_n (pc := 167) C dX10_text_167 rfl 0 rfl ?_
      refine dz_getR (pc := 168) (k := 18) (j := 11) C Fc_X10 hk_18 (by decide) (by decide) rfl fl_X10_37 dX10_text_168 ?_
      refine dz_iconst (pc := 171) (v := (3 : Int32)) C dX10_text_171 (by decide) ?_
      refine dz_iload_n (pc := 172) C dX10_text_172 rfl 1 rfl ?_
      refine dz_imul (pc := 173) C dX10_text_173 ?_
      refine dz_iconst (pc := 174) (v := (2 : Int32)) C dX10_text_174 (by decide) ?_
      refine dz_iadd (pc := 175) C dX10_text_175 ?_
      refine dz_iald (pc := 176) (k := 18) (j := 11) (n := 48) (f := (T 11)) C hk_18 (by decide) rfl (dt_rAf _ _ _ _) dX10_text_176 h (fun a8 h => ?_)
      refine dz_iast (pc := 177) (k := 18) (j := 0) (n := 1225) (M' := fun a9 => (dt_put M 18 (dt_set (dt_set (dt_set T 0 a5 ((T 11) a4)) 0 a7 ((T 11) a6)) 0 a9 ((T 11) a8)))) C hk_18 (by decide) rfl (fun a9 => (dt_wA _ _ _ _ _ _)) dX10_text_177 h (fun a9 h => ?_)
      refine dz_iinc (pc := 178) (v := (x2 + (1 : Int32))) C dX10_text_178 1 rfl rfl (by decide) rfl ?_
      refine dz_goto (pc := 181) (t := 112) C dX10_text_181 (by decide) ?_
      refine dz_sub [1, 0] rfl ?_
      exact ih (x2 + (1 : Int32)) (dt_set (dt_set (dt_set T 0 a5 ((T 11) a4)) 0 a7 ((T 11) a6)) 0 a9 ((T 11) a8)) h
def fX10_text_89  (x1 : Int32) (s1 : Int32) (T : dt_Ob) : Option (Int32 × dt_Ob) := (if x1 = 0 then (some ((-1 : Int32), (dt_set T 27 0 s1))) else ((dt_ix (340 : Int32) 1225).bind fun a3 => (fX10_text_112 dt_F (0 : Int32) (dt_set (dt_set T 27 0 s1) 0 a3 (T 16 0)))))
set_option maxRecDepth 10000 in
set_option maxHeartbeats 4000000 in
theorem tX10_text_89 {G : dt_G} {A : Nat → Prop} {p : Program} {l : Launch} {e : Env} {s : State} {m : MethodId} {args : Array Value} {below : List Frame} {meth : Method} {c : Code} (C : dt_Cx 1 G A p s m args meth c cX10_text 3 RX10) (hr : meth.sig.returnType = (some .int)) {M : dt_M} {res : Int32 × dt_Ob}  : ∀ (x1 : Int32) (s1 : Int32) (T : dt_Ob), fX10_text_89 x1 s1 T = some res → dt_At G A p l e (dt_rm 95) s m args below meth c 3 (MQ below (dt_Post G A (some (.int res.1)) (dt_put M 18 res.2)) args s 0 0 A) 89 [(0, .ref (G.1 18 0)), (1, .int x1)] [.int s1, .ref (G.1 18 0)] (dt_put M 18 T) := by
  intro x1 s1 T h
  unfold fX10_text_89 at h
  refine dz_putI (pc := 89) (k := 18) (j := 27) (M' := (dt_put M 18 (dt_set T 27 0 s1))) C Fc_X10 hk_18 (by decide) rfl rfl rfl rfl fl_X10_52 (dt_wA _ _ _ _ _ _) dX10_text_89 ?_
  refine dz_iload_n (pc := 92) C dX10_text_92 rfl 1 rfl ?_
  refine dz_if_ne (pc := 93) (t := 98) C dX10_text_93 (by decide) h (fun h => ?_) (fun h => ?_)
  · refine dz_aload_n (pc := 98) C dX10_text_98 rfl 0 rfl ?_
    refine dz_getR (pc := 99) (k := 18) (j := 0) C Fc_X10 hk_18 (by decide) (by decide) rfl fl_X10_7 dX10_text_99 ?_
    refine dz_sipush (pc := 102) (v := (340 : Int32)) C dX10_text_102 (by decide) ?_
    refine dz_aload_n (pc := 105) C dX10_text_105 rfl 0 rfl ?_
    refine dz_getI (pc := 106) (k := 18) (j := 16) (v := (T 16 0)) C Fc_X10 hk_18 (by decide) rfl rfl fl_X10_283 (dt_rA _ _ _ _ _) dX10_text_106 ?_
    refine dz_iast (pc := 109) (k := 18) (j := 0) (n := 1225) (M' := fun a3 => (dt_put M 18 (dt_set (dt_set T 27 0 s1) 0 a3 (T 16 0)))) C hk_18 (by decide) rfl (fun a3 => (dt_wA _ _ _ _ _ _)) dX10_text_109 h (fun a3 h => ?_)
    refine dz_iconst (pc := 110) (v := (0 : Int32)) C dX10_text_110 (by decide) ?_
    refine dz_istore_n (pc := 111) C dX10_text_111 rfl (by decide) rfl ?_
    refine dz_sub [1, 0] rfl ?_
    exact tX10_text_112 C hr dt_F (0 : Int32) (dt_set (dt_set T 27 0 s1) 0 a3 (T 16 0)) h
  · refine dz_iconst (pc := 96) (v := (-1 : Int32)) C dX10_text_96 (by decide) ?_
    cases dt_some h
    exact dz_iret (pc := 97) C hr dX10_text_97
def fX10_text_63  (x1 : Int32) (T : dt_Ob) : Option (Int32 × dt_Ob) := (if x1 = 0 then (fX10_text_89 x1 (T 24 0) (dt_set (dt_set T 18 0 (0 : Int32)) 25 0 (T 23 0))) else (fX10_text_89 x1 (-1 : Int32) (dt_set (dt_set T 18 0 (0 : Int32)) 25 0 (T 23 0))))
set_option maxRecDepth 10000 in
set_option maxHeartbeats 4000000 in
theorem tX10_text_63 {G : dt_G} {A : Nat → Prop} {p : Program} {l : Launch} {e : Env} {s : State} {m : MethodId} {args : Array Value} {below : List Frame} {meth : Method} {c : Code} (C : dt_Cx 1 G A p s m args meth c cX10_text 3 RX10) (hr : meth.sig.returnType = (some .int)) {M : dt_M} {res : Int32 × dt_Ob}  : ∀ (x1 : Int32) (T : dt_Ob), fX10_text_63 x1 T = some res → dt_At G A p l e (dt_rm 95) s m args below meth c 3 (MQ below (dt_Post G A (some (.int res.1)) (dt_put M 18 res.2)) args s 0 0 A) 63 [(0, .ref (G.1 18 0)), (1, .int x1)] [] (dt_put M 18 T) := by
  intro x1 T h
  unfold fX10_text_63 at h
  refine dz_aload_n (pc := 63) C dX10_text_63 rfl 0 rfl ?_
  refine dz_iconst (pc := 64) (v := (0 : Int32)) C dX10_text_64 (by decide) ?_
  refine dz_putI (pc := 65) (k := 18) (j := 18) (M' := (dt_put M 18 (dt_set T 18 0 (0 : Int32)))) C Fc_X10 hk_18 (by decide) rfl rfl rfl rfl fl_X10_170 (dt_wA _ _ _ _ _ _) dX10_text_65 ?_
  refine dz_aload_n (pc := 68) C dX10_text_68 rfl 0 rfl ?_
  refine dz_aload_n (pc := 69) C dX10_text_69 rfl 0 rfl ?_
  refine dz_getI (pc := 70) (k := 18) (j := 23) (v := (T 23 0)) C Fc_X10 hk_18 (by decide) rfl rfl fl_X10_236 (dt_rA _ _ _ _ _) dX10_text_70 ?_
  refine dz_putI (pc := 73) (k := 18) (j := 25) (M' := (dt_put M 18 (dt_set (dt_set T 18 0 (0 : Int32)) 25 0 (T 23 0)))) C Fc_X10 hk_18 (by decide) rfl rfl rfl rfl fl_X10_289 (dt_wA _ _ _ _ _ _) dX10_text_73 ?_
  refine dz_aload_n (pc := 76) C dX10_text_76 rfl 0 rfl ?_
  refine dz_iload_n (pc := 77) C dX10_text_77 rfl 1 rfl ?_
  refine dz_if_eq (pc := 78) (t := 85) C dX10_text_78 (by decide) h (fun h => ?_) (fun h => ?_)
  · refine dz_aload_n (pc := 85) C dX10_text_85 rfl 0 rfl ?_
    refine dz_getI (pc := 86) (k := 18) (j := 24) (v := (T 24 0)) C Fc_X10 hk_18 (by decide) rfl rfl fl_X10_239 (dt_rA _ _ _ _ _) dX10_text_86 ?_
    exact tX10_text_89 C hr  x1 (T 24 0) (dt_set (dt_set T 18 0 (0 : Int32)) 25 0 (T 23 0)) h
  · refine dz_iconst (pc := 81) (v := (-1 : Int32)) C dX10_text_81 (by decide) ?_
    refine dz_goto (pc := 82) (t := 89) C dX10_text_82 (by decide) ?_
    exact tX10_text_89 C hr  x1 (-1 : Int32) (dt_set (dt_set T 18 0 (0 : Int32)) 25 0 (T 23 0)) h
def fX10_text_56 (r26 : Int32 → dt_Ob → Option (Int32 × dt_Ob)) (x1 : Int32) (s1 : Int32) (s2 : Int32) (T : dt_Ob) : Option (Int32 × dt_Ob) := (r26 x1 (dt_set T 16 0 (s1 + s2)))
set_option maxRecDepth 10000 in
set_option maxHeartbeats 4000000 in
theorem tX10_text_56 {G : dt_G} {A : Nat → Prop} {p : Program} {l : Launch} {e : Env} {s : State} {m : MethodId} {args : Array Value} {below : List Frame} {meth : Method} {c : Code} (C : dt_Cx 1 G A p s m args meth c cX10_text 3 RX10) (hr : meth.sig.returnType = (some .int)) {M : dt_M} {res : Int32 × dt_Ob} {r26 : Int32 → dt_Ob → Option (Int32 × dt_Ob)} (hr26 : ∀ (x1 : Int32) (T : dt_Ob), r26 x1 T = some res → dt_At G A p l e (dt_rm 95) s m args below meth c 3 (MQ below (dt_Post G A (some (.int res.1)) (dt_put M 18 res.2)) args s 0 0 A) 26 [(0, .ref (G.1 18 0)), (1, .int x1)] [] (dt_put M 18 T)) : ∀ (x1 : Int32) (s1 : Int32) (s2 : Int32) (T : dt_Ob), fX10_text_56 r26 x1 s1 s2 T = some res → dt_At G A p l e (dt_rm 95) s m args below meth c 3 (MQ below (dt_Post G A (some (.int res.1)) (dt_put M 18 res.2)) args s 0 0 A) 56 [(0, .ref (G.1 18 0)), (1, .int x1)] [.int s2, .int s1, .ref (G.1 18 0)] (dt_put M 18 T) := by
  intro x1 s1 s2 T h
  unfold fX10_text_56 at h
  refine dz_iadd (pc := 56) C dX10_text_56 ?_
  refine dz_putI (pc := 57) (k := 18) (j := 16) (M' := (dt_put M 18 (dt_set T 16 0 (s1 + s2)))) C Fc_X10 hk_18 (by decide) rfl rfl rfl rfl fl_X10_283 (dt_wA _ _ _ _ _ _) dX10_text_57 ?_
  refine dz_goto (pc := 60) (t := 26) C dX10_text_60 (by decide) ?_
  exact hr26 x1 (dt_set T 16 0 (s1 + s2)) h
def fX10_text_26  : Nat → Int32 → dt_Ob → Option (Int32 × dt_Ob)
  | 0, _, _ => none
  | n + 1, x1, T => (if x1 = 0 then (fX10_text_63 x1 T) else (if (T 20 0) = 0 then (fX10_text_63 x1 T) else ((fX10_aLine T).bind fun q2 => (if q2.1 = 0 then (fX10_text_56 (fX10_text_26 n) q2.1 (q2.2 16 0) (0 : Int32) q2.2) else (fX10_text_56 (fX10_text_26 n) q2.1 (q2.2 16 0) (1 : Int32) q2.2)))))
set_option maxRecDepth 10000 in
set_option maxHeartbeats 4000000 in
theorem tX10_text_26 {G : dt_G} {A : Nat → Prop} {p : Program} {l : Launch} {e : Env} {s : State} {m : MethodId} {args : Array Value} {below : List Frame} {meth : Method} {c : Code} (C : dt_Cx 1 G A p s m args meth c cX10_text 3 RX10) (hr : meth.sig.returnType = (some .int)) {M : dt_M} {res : Int32 × dt_Ob}  : ∀ (n : Nat) (x1 : Int32) (T : dt_Ob), fX10_text_26 n x1 T = some res → dt_At G A p l e (dt_rm 95) s m args below meth c 3 (MQ below (dt_Post G A (some (.int res.1)) (dt_put M 18 res.2)) args s 0 0 A) 26 [(0, .ref (G.1 18 0)), (1, .int x1)] [] (dt_put M 18 T) := by
  intro n
  induction n with
  | zero =>
    intro x1 T h
    unfold fX10_text_26 at h
    cases h
  | succ n ih =>
    intro x1 T h
    unfold fX10_text_26 at h
    refine dz_iload_n (pc := 26) C dX10_text_26 rfl 1 rfl ?_
    refine dz_if_eq (pc := 27) (t := 63) C dX10_text_27 (by decide) h (fun h => ?_) (fun h => ?_)
    · exact tX10_text_63 C hr  x1 T h
    · refine dz_aload_n (pc := 30) C dX10_text_30 rfl 0 rfl ?_
      refine dz_getI (pc := 31) (k := 18) (j := 20) (v := (T 20 0)) C Fc_X10 hk_18 (by decide) rfl rfl fl_X10_221 (dt_rA _ _ _ _ _) dX10_text_31 ?_
      refine dz_if_eq (pc := 34) (t := 63) C dX10_text_34 (by decide) h (fun h => ?_) (fun h => ?_)
      · exact tX10_text_63 C hr  x1 T h
      · refine dz_aload_n (pc := 37) C dX10_text_37 rfl 0 rfl ?_
        obtain ⟨q2, eq2, h⟩ := dt_bind h
        refine dz_callVi (pc := 38) (st := []) (k := 18) (As := []) (M' := (dt_put M 18 q2.2)) C Fc_X10 hk_18 mf_X10_aLine rfl ml_X10_286 (m_X10_aLine l _ _ eq2) rfl rfl (by omega) (by decide) (Nat.le_of_ble_eq_true rfl) dX10_text_38 ?_
        refine dz_istore_n (pc := 41) C dX10_text_41 rfl (by decide) rfl ?_
        refine dz_aload_n (pc := 42) C dX10_text_42 rfl 1 rfl ?_
        refine dz_dup (pc := 43) C dX10_text_43 rfl ?_
        refine dz_getI (pc := 44) (k := 18) (j := 16) (v := (q2.2 16 0)) C Fc_X10 hk_18 (by decide) rfl rfl fl_X10_283 (dt_rA _ _ _ _ _) dX10_text_44 ?_
        refine dz_iload_n (pc := 47) C dX10_text_47 rfl 0 rfl ?_
        refine dz_if_eq (pc := 48) (t := 55) C dX10_text_48 (by decide) h (fun h => ?_) (fun h => ?_)
        · refine dz_iconst (pc := 55) (v := (0 : Int32)) C dX10_text_55 (by decide) ?_
          refine dz_sub [1, 0] rfl ?_
          exact tX10_text_56 C hr ih q2.1 (q2.2 16 0) (0 : Int32) q2.2 h
        · refine dz_iconst (pc := 51) (v := (1 : Int32)) C dX10_text_51 (by decide) ?_
          refine dz_goto (pc := 52) (t := 56) C dX10_text_52 (by decide) ?_
          refine dz_sub [1, 0] rfl ?_
          exact tX10_text_56 C hr ih q2.1 (q2.2 16 0) (1 : Int32) q2.2 h
def fX10_text  (T : dt_Ob) : Option (Int32 × dt_Ob) := ((fX10_next0 (dt_set (dt_set (dt_set (dt_set T 23 0 (0 : Int32)) 19 0 (0 : Int32)) 16 0 (0 : Int32)) 17 0 (0 : Int32))).bind fun q1 => (fX10_text_26 dt_F (1 : Int32) q1))
set_option maxRecDepth 10000 in
set_option maxHeartbeats 4000000 in
theorem m_X10_text (l : Launch)  (M : dt_M) (T : dt_Ob)   {res : Int32 × dt_Ob} (h : fX10_text T = some res) : dt_Met 1 l yX10_text cX10_text 3 (some .int) 95 (fun G => [.ref (G.1 18 0)]) (dt_put M 18 T) (some (.int res.1)) (dt_put M 18 res.2) := by
  refine dz_enter (lv := fun G => [(0, .ref (G.1 18 0))]) (by decide) (fun _ => rfl) (fun _ => Nat.le_of_ble_eq_true rfl) (fun G A p e s m args below meth c C hr => ?_)
  unfold fX10_text at h
  refine dz_aload_n (pc := 0) C dX10_text_0 rfl 0 rfl ?_
  refine dz_iconst (pc := 1) (v := (0 : Int32)) C dX10_text_1 (by decide) ?_
  refine dz_putI (pc := 2) (k := 18) (j := 23) (M' := (dt_put M 18 (dt_set T 23 0 (0 : Int32)))) C Fc_X10 hk_18 (by decide) rfl rfl rfl rfl fl_X10_236 (dt_wA _ _ _ _ _ _) dX10_text_2 ?_
  refine dz_aload_n (pc := 5) C dX10_text_5 rfl 0 rfl ?_
  refine dz_iconst (pc := 6) (v := (0 : Int32)) C dX10_text_6 (by decide) ?_
  refine dz_putI (pc := 7) (k := 18) (j := 19) (M' := (dt_put M 18 (dt_set (dt_set T 23 0 (0 : Int32)) 19 0 (0 : Int32)))) C Fc_X10 hk_18 (by decide) rfl rfl rfl rfl fl_X10_173 (dt_wA _ _ _ _ _ _) dX10_text_7 ?_
  refine dz_aload_n (pc := 10) C dX10_text_10 rfl 0 rfl ?_
  refine dz_iconst (pc := 11) (v := (0 : Int32)) C dX10_text_11 (by decide) ?_
  refine dz_putI (pc := 12) (k := 18) (j := 16) (M' := (dt_put M 18 (dt_set (dt_set (dt_set T 23 0 (0 : Int32)) 19 0 (0 : Int32)) 16 0 (0 : Int32)))) C Fc_X10 hk_18 (by decide) rfl rfl rfl rfl fl_X10_283 (dt_wA _ _ _ _ _ _) dX10_text_12 ?_
  refine dz_aload_n (pc := 15) C dX10_text_15 rfl 0 rfl ?_
  refine dz_iconst (pc := 16) (v := (0 : Int32)) C dX10_text_16 (by decide) ?_
  refine dz_putI (pc := 17) (k := 18) (j := 17) (M' := (dt_put M 18 (dt_set (dt_set (dt_set (dt_set T 23 0 (0 : Int32)) 19 0 (0 : Int32)) 16 0 (0 : Int32)) 17 0 (0 : Int32)))) C Fc_X10 hk_18 (by decide) rfl rfl rfl rfl fl_X10_248 (dt_wA _ _ _ _ _ _) dX10_text_17 ?_
  refine dz_aload_n (pc := 20) C dX10_text_20 rfl 0 rfl ?_
  obtain ⟨q1, eq1, h⟩ := dt_bind h
  refine dz_callVv (pc := 21) (st := []) (k := 18) (As := []) (M' := (dt_put M 18 q1)) C Fc_X10 hk_18 mf_X10_next0 rfl ml_X10_245 (m_X10_next0 l _ _ eq1) rfl rfl (by omega) (by decide) (Nat.le_of_ble_eq_true rfl) dX10_text_21 ?_
  refine dz_iconst (pc := 24) (v := (1 : Int32)) C dX10_text_24 (by decide) ?_
  refine dz_istore_n (pc := 25) C dX10_text_25 rfl (by decide) rfl ?_
  refine dz_sub [1, 0] rfl ?_
  exact tX10_text_26 C hr dt_F (1 : Int32) q1 h

def fX10_fault  (x1 : Int32) (T : dt_Ob) : Option (Int32) := (if x1 = 0 then (some (T 25 0)) else (if x1 = (1 : Int32) then (some (T 27 0)) else (some (-1 : Int32))))
set_option maxRecDepth 10000 in
set_option maxHeartbeats 4000000 in
theorem m_X10_fault (l : Launch)  (M : dt_M) (T : dt_Ob)  (x1 : Int32) {res : Int32} (h : fX10_fault x1 T = some res) : dt_Met 1 l yX10_fault cX10_fault 2 (some .int) 1 (fun G => [.ref (G.1 18 0), .int x1]) (dt_put M 18 T) (some (.int res)) (dt_put M 18 T) := by
  refine dz_enter (lv := fun G => [(0, .ref (G.1 18 0)), (1, .int x1)]) (by decide) (fun _ => rfl) (fun _ => Nat.le_of_ble_eq_true rfl) (fun G A p e s m args below meth c C hr => ?_)
  unfold fX10_fault at h
  refine dz_iload_n (pc := 0) C dX10_fault_0 rfl 1 rfl ?_
  refine dz_if_ne (pc := 1) (t := 11) C dX10_fault_1 (by decide) h (fun h => ?_) (fun h => ?_)
  · refine dz_iload_n (pc := 11) C dX10_fault_11 rfl 1 rfl ?_
    refine dz_iconst (pc := 12) (v := (1 : Int32)) C dX10_fault_12 (by decide) ?_
    refine dz_icmp_ne (pc := 13) (t := 23) C dX10_fault_13 (by decide) h (fun h => ?_) (fun h => ?_)
    · refine dz_iconst (pc := 23) (v := (-1 : Int32)) C dX10_fault_23 (by decide) ?_
      cases dt_some h
      exact dz_iret (pc := 24) C hr dX10_fault_24
    · refine dz_aload_n (pc := 16) C dX10_fault_16 rfl 0 rfl ?_
      refine dz_getI (pc := 17) (k := 18) (j := 27) (v := (T 27 0)) C Fc_X10 hk_18 (by decide) rfl rfl fl_X10_52 (dt_rA _ _ _ _ _) dX10_fault_17 ?_
      refine dz_goto (pc := 20) (t := 24) C dX10_fault_20 (by decide) ?_
      cases dt_some h
      exact dz_iret (pc := 24) C hr dX10_fault_24
  · refine dz_aload_n (pc := 4) C dX10_fault_4 rfl 0 rfl ?_
    refine dz_getI (pc := 5) (k := 18) (j := 25) (v := (T 25 0)) C Fc_X10 hk_18 (by decide) rfl rfl fl_X10_289 (dt_rA _ _ _ _ _) dX10_fault_5 ?_
    refine dz_goto (pc := 8) (t := 24) C dX10_fault_8 (by decide) ?_
    cases dt_some h
    exact dz_iret (pc := 24) C hr dX10_fault_24
