/-! ===== lifted: 18.finder ===== -/
def fX2_blockOf  (x0 : Int32) : Option (Int32) := (if x0 < (10 : Int32) then (some (-1 : Int32)) else (if x0 < (50 : Int32) then (if (30 : Int32) ≤ x0 then (some (x0 - (30 : Int32))) else (some (x0 - (10 : Int32)))) else (some (-1 : Int32))))
set_option maxRecDepth 10000 in
set_option maxHeartbeats 4000000 in
theorem m_X2_blockOf {nb : Nat} (l : Launch)  (M : dt_M)   (x0 : Int32) {res : Int32} (h : fX2_blockOf x0 = some res) : dt_Met nb l yX2_blockOf cX2_blockOf 1 (some .int) 1 (fun G => [.int x0]) M (some (.int res)) M := by
  refine dz_enter (lv := fun G => [(0, .int x0)]) (by decide) (fun _ => rfl) (fun _ => Nat.le_of_ble_eq_true rfl) (fun G A p e s m args below meth c C hr => ?_)
  unfold fX2_blockOf at h
  refine dz_iload_n (pc := 0) C dX2_blockOf_0 rfl 0 rfl ?_
  refine dz_bipush (pc := 1) (v := (10 : Int32)) C dX2_blockOf_1 (by decide) ?_
  refine dz_icmp_lt (pc := 3) (t := 12) C dX2_blockOf_3 (by decide) h (fun h => ?_) (fun h => ?_)
  · refine dz_iconst (pc := 12) (v := (-1 : Int32)) C dX2_blockOf_12 (by decide) ?_
    cases dt_some h
    exact dz_iret (pc := 13) C hr dX2_blockOf_13
  · refine dz_iload_n (pc := 6) C dX2_blockOf_6 rfl 0 rfl ?_
    refine dz_bipush (pc := 7) (v := (50 : Int32)) C dX2_blockOf_7 (by decide) ?_
    refine dz_icmp_lt (pc := 9) (t := 14) C dX2_blockOf_9 (by decide) h (fun h => ?_) (fun h => ?_)
    · refine dz_iload_n (pc := 14) C dX2_blockOf_14 rfl 0 rfl ?_
      refine dz_bipush (pc := 15) (v := (30 : Int32)) C dX2_blockOf_15 (by decide) ?_
      refine dz_icmp_ge (pc := 17) (t := 27) C dX2_blockOf_17 (by decide) h (fun h => ?_) (fun h => ?_)
      · refine dz_iload_n (pc := 27) C dX2_blockOf_27 rfl 0 rfl ?_
        refine dz_bipush (pc := 28) (v := (30 : Int32)) C dX2_blockOf_28 (by decide) ?_
        refine dz_isub (pc := 30) C dX2_blockOf_30 ?_
        cases dt_some h
        exact dz_iret (pc := 31) C hr dX2_blockOf_31
      · refine dz_iload_n (pc := 20) C dX2_blockOf_20 rfl 0 rfl ?_
        refine dz_bipush (pc := 21) (v := (10 : Int32)) C dX2_blockOf_21 (by decide) ?_
        refine dz_isub (pc := 23) C dX2_blockOf_23 ?_
        refine dz_goto (pc := 24) (t := 31) C dX2_blockOf_24 (by decide) ?_
        cases dt_some h
        exact dz_iret (pc := 31) C hr dX2_blockOf_31
    · refine dz_iconst (pc := 12) (v := (-1 : Int32)) C dX2_blockOf_12 (by decide) ?_
      cases dt_some h
      exact dz_iret (pc := 13) C hr dX2_blockOf_13

def fX2_isAsked_22   : Option (Int32) := (some (1 : Int32))
set_option maxRecDepth 10000 in
set_option maxHeartbeats 4000000 in
theorem tX2_isAsked_22 {nb : Nat} {G : dt_G} {A : Nat → Prop} {p : Program} {l : Launch} {e : Env} {s : State} {m : MethodId} {args : Array Value} {below : List Frame} {meth : Method} {c : Code} (C : dt_Cx nb G A p s m args meth c cX2_isAsked 3 RX2) (hr : meth.sig.returnType = (some .boolean)) {M : dt_M} {res : Int32}  : fX2_isAsked_22 = some res → dt_At G A p l e (dt_rm 2) s m args below meth c 3 (MQ below (dt_Post G A (some (.int res)) M) args s 0 0 A) 22 [] [] M := by
  intro  h
  unfold fX2_isAsked_22 at h
  refine dz_iconst (pc := 22) (v := (1 : Int32)) C dX2_isAsked_22 (by decide) ?_
  refine dz_goto (pc := 23) (t := 27) C dX2_isAsked_23 (by decide) ?_
  cases dt_some h
  exact dz_zret (pc := 27) C hr (Or.inr rfl) dX2_isAsked_27
def fX2_isAsked  (x0 : Int32) (x1 : Int32) : Option (Int32) := ((fX2_blockOf x1).bind fun q1 => (if x1 = 0 then (fX2_isAsked_22 ) else (if q1 = (-1 : Int32) then (some (0 : Int32)) else (if (x0 &&& ((1 : Int32) <<< (q1 &&& 31))) = 0 then (some (0 : Int32)) else (fX2_isAsked_22 )))))
set_option maxRecDepth 10000 in
set_option maxHeartbeats 4000000 in
theorem m_X2_isAsked {nb : Nat} (l : Launch)  (M : dt_M)   (x0 : Int32) (x1 : Int32) {res : Int32} (h : fX2_isAsked x0 x1 = some res) : dt_Met nb l yX2_isAsked cX2_isAsked 3 (some .boolean) 2 (fun G => [.int x0, .int x1]) M (some (.int res)) M := by
  refine dz_enter (lv := fun G => [(0, .int x0), (1, .int x1)]) (by decide) (fun _ => rfl) (fun _ => Nat.le_of_ble_eq_true rfl) (fun G A p e s m args below meth c C hr => ?_)
  unfold fX2_isAsked at h
  refine dz_iload_n (pc := 0) C dX2_isAsked_0 rfl 1 rfl ?_
  obtain ⟨q1, eq1, h⟩ := dt_bind h
  refine dz_callSi (pc := 1) (st := []) (As := [.int x1]) (M' := M) C ms_X2_blockOf ml_X2_47 (m_X2_blockOf l _ _ eq1) rfl rfl (by omega) (by decide) (Nat.le_of_ble_eq_true rfl) dX2_isAsked_1 ?_
  refine dz_istore_n (pc := 4) C dX2_isAsked_4 rfl (by decide) rfl ?_
  refine dz_iload_n (pc := 5) C dX2_isAsked_5 rfl 2 rfl ?_
  refine dz_if_eq (pc := 6) (t := 22) C dX2_isAsked_6 (by decide) h (fun h => ?_) (fun h => ?_)
  · refine dz_sub [] rfl ?_
    exact tX2_isAsked_22 C hr   h
  · refine dz_iload_n (pc := 9) C dX2_isAsked_9 rfl 0 rfl ?_
    refine dz_iconst (pc := 10) (v := (-1 : Int32)) C dX2_isAsked_10 (by decide) ?_
    refine dz_icmp_eq (pc := 11) (t := 26) C dX2_isAsked_11 (by decide) h (fun h => ?_) (fun h => ?_)
    · refine dz_iconst (pc := 26) (v := (0 : Int32)) C dX2_isAsked_26 (by decide) ?_
      cases dt_some h
      exact dz_zret (pc := 27) C hr (Or.inl rfl) dX2_isAsked_27
    · refine dz_iload_n (pc := 14) C dX2_isAsked_14 rfl 1 rfl ?_
      refine dz_iconst (pc := 15) (v := (1 : Int32)) C dX2_isAsked_15 (by decide) ?_
      refine dz_iload_n (pc := 16) C dX2_isAsked_16 rfl 0 rfl ?_
      refine dz_ishl (pc := 17) C dX2_isAsked_17 ?_
      refine dz_iand (pc := 18) C dX2_isAsked_18 ?_
      refine dz_if_eq (pc := 19) (t := 26) C dX2_isAsked_19 (by decide) h (fun h => ?_) (fun h => ?_)
      · refine dz_iconst (pc := 26) (v := (0 : Int32)) C dX2_isAsked_26 (by decide) ?_
        cases dt_some h
        exact dz_zret (pc := 27) C hr (Or.inl rfl) dX2_isAsked_27
      · refine dz_sub [] rfl ?_
        exact tX2_isAsked_22 C hr   h

def fX2_answer  (x1 : Int32) (P : dt_Ob) (T : dt_Ob) : Option (Int32) := (if x1 = 0 then (some (P 7 0)) else ((fX2_blockOf x1).bind fun q1 => (if (P 7 0) = 0 then (some (-1 : Int32)) else (if q1 = (-1 : Int32) then (some (-1 : Int32)) else (if (30 : Int32) ≤ x1 then ((dt_ix q1 20).bind fun a2 => (some ((P 5) a2))) else ((dt_ix q1 20).bind fun a3 => (some ((P 4) a3))))))))
set_option maxRecDepth 10000 in
set_option maxHeartbeats 4000000 in
theorem m_X2_answer {nb : Nat} (l : Launch)  (M : dt_M) (P : dt_Ob) (T : dt_Ob)  (x1 : Int32) {res : Int32} (h : fX2_answer x1 P T = some res) : dt_Met nb l yX2_answer cX2_answer 3 (some .int) 2 (fun G => [.ref (G.1 15 0), .int x1]) (dt_put (dt_put M 15 P) 13 T) (some (.int res)) (dt_put (dt_put M 15 P) 13 T) := by
  refine dz_enter (lv := fun G => [(0, .ref (G.1 15 0)), (1, .int x1)]) (by decide) (fun _ => rfl) (fun _ => Nat.le_of_ble_eq_true rfl) (fun G A p e s m args below meth c C hr => ?_)
  unfold fX2_answer at h
  refine dz_iload_n (pc := 0) C dX2_answer_0 rfl 1 rfl ?_
  refine dz_if_ne (pc := 1) (t := 9) C dX2_answer_1 (by decide) h (fun h => ?_) (fun h => ?_)
  · refine dz_iload_n (pc := 9) C dX2_answer_9 rfl 1 rfl ?_
    obtain ⟨q1, eq1, h⟩ := dt_bind h
    refine dz_callSi (pc := 10) (st := []) (As := [.int x1]) (M' := (dt_put (dt_put M 15 P) 13 T)) C ms_X2_blockOf ml_X2_47 (m_X2_blockOf l _ _ eq1) rfl rfl (by omega) (by decide) (Nat.le_of_ble_eq_true rfl) dX2_answer_10 ?_
    refine dz_istore_n (pc := 13) C dX2_answer_13 rfl (by decide) rfl ?_
    refine dz_aload_n (pc := 14) C dX2_answer_14 rfl 1 rfl ?_
    refine dz_getI (pc := 15) (k := 15) (j := 7) (v := (P 7 0)) C Fc_X2 hk_15 (by decide) rfl rfl fl_X2_34 rfl dX2_answer_15 ?_
    refine dz_if_eq (pc := 18) (t := 26) C dX2_answer_18 (by decide) h (fun h => ?_) (fun h => ?_)
    · refine dz_iconst (pc := 26) (v := (-1 : Int32)) C dX2_answer_26 (by decide) ?_
      cases dt_some h
      exact dz_iret (pc := 27) C hr dX2_answer_27
    · refine dz_iload_n (pc := 21) C dX2_answer_21 rfl 0 rfl ?_
      refine dz_iconst (pc := 22) (v := (-1 : Int32)) C dX2_answer_22 (by decide) ?_
      refine dz_icmp_ne (pc := 23) (t := 28) C dX2_answer_23 (by decide) h (fun h => ?_) (fun h => ?_)
      · refine dz_iload_n (pc := 28) C dX2_answer_28 rfl 2 rfl ?_
        refine dz_bipush (pc := 29) (v := (30 : Int32)) C dX2_answer_29 (by decide) ?_
        refine dz_icmp_ge (pc := 31) (t := 43) C dX2_answer_31 (by decide) h (fun h => ?_) (fun h => ?_)
        · refine dz_aload_n (pc := 43) C dX2_answer_43 rfl 1 rfl ?_
          refine dz_getR (pc := 44) (k := 15) (j := 5) C Fc_X2 hk_15 (by decide) (by decide) rfl fl_X2_27 dX2_answer_44 ?_
          refine dz_iload_n (pc := 47) C dX2_answer_47 rfl 0 rfl ?_
          refine dz_iald (pc := 48) (k := 15) (j := 5) (n := 20) (f := (P 5)) C hk_15 (by decide) rfl rfl dX2_answer_48 h (fun a2 h => ?_)
          cases dt_some h
          exact dz_iret (pc := 49) C hr dX2_answer_49
        · refine dz_aload_n (pc := 34) C dX2_answer_34 rfl 1 rfl ?_
          refine dz_getR (pc := 35) (k := 15) (j := 4) C Fc_X2 hk_15 (by decide) (by decide) rfl fl_X2_24 dX2_answer_35 ?_
          refine dz_iload_n (pc := 38) C dX2_answer_38 rfl 0 rfl ?_
          refine dz_iald (pc := 39) (k := 15) (j := 4) (n := 20) (f := (P 4)) C hk_15 (by decide) rfl rfl dX2_answer_39 h (fun a3 h => ?_)
          refine dz_goto (pc := 40) (t := 49) C dX2_answer_40 (by decide) ?_
          cases dt_some h
          exact dz_iret (pc := 49) C hr dX2_answer_49
      · refine dz_iconst (pc := 26) (v := (-1 : Int32)) C dX2_answer_26 (by decide) ?_
        cases dt_some h
        exact dz_iret (pc := 27) C hr dX2_answer_27
  · refine dz_aload_n (pc := 4) C dX2_answer_4 rfl 0 rfl ?_
    refine dz_getI (pc := 5) (k := 15) (j := 7) (v := (P 7 0)) C Fc_X2 hk_15 (by decide) rfl rfl fl_X2_34 rfl dX2_answer_5 ?_
    cases dt_some h
    exact dz_iret (pc := 8) C hr dX2_answer_8

def fX2_isTaken_90 (r2 : Int32 → Int32 → dt_Ob → dt_Ob → Option (Int32)) (x2 : Int32) (x3 : Int32) (P : dt_Ob) (T : dt_Ob) : Option (Int32) := (r2 x2 (x3 + (1 : Int32)) P T)
set_option maxRecDepth 10000 in
set_option maxHeartbeats 4000000 in
theorem tX2_isTaken_90 {nb : Nat} {G : dt_G} {A : Nat → Prop} {p : Program} {l : Launch} {e : Env} {s : State} {m : MethodId} {args : Array Value} {below : List Frame} {meth : Method} {c : Code} (C : dt_Cx nb G A p s m args meth c cX2_isTaken 5 RX2) (hr : meth.sig.returnType = (some .boolean)) {M : dt_M} {res : Int32} {r2 : Int32 → Int32 → dt_Ob → dt_Ob → Option (Int32)} (hr2 : ∀ (x2 : Int32) (x3 : Int32) (P : dt_Ob) (T : dt_Ob), r2 x2 x3 P T = some res → dt_At G A p l e (dt_rm 1) s m args below meth c 5 (MQ below (dt_Post G A (some (.int res)) (dt_put (dt_put M 15 P) 13 T)) args s 0 0 A) 2 [(0, .ref (G.1 15 0)), (1, .ref (G.1 13 0)), (2, .int x2), (3, .int x3)] [] (dt_put (dt_put M 15 P) 13 T)) : ∀ (x2 : Int32) (x3 : Int32) (P : dt_Ob) (T : dt_Ob), fX2_isTaken_90 r2 x2 x3 P T = some res → dt_At G A p l e (dt_rm 1) s m args below meth c 5 (MQ below (dt_Post G A (some (.int res)) (dt_put (dt_put M 15 P) 13 T)) args s 0 0 A) 90 [(0, .ref (G.1 15 0)), (1, .ref (G.1 13 0)), (2, .int x2), (3, .int x3)] [] (dt_put (dt_put M 15 P) 13 T) := by
  intro x2 x3 P T h
  unfold fX2_isTaken_90 at h
  refine dz_iinc (pc := 90) (v := (x3 + (1 : Int32))) C dX2_isTaken_90 3 rfl rfl (by decide) rfl ?_
  refine dz_goto (pc := 93) (t := 2) C dX2_isTaken_93 (by decide) ?_
  refine dz_sub [1, 2, 3, 0] rfl ?_
  exact hr2 x2 (x3 + (1 : Int32)) P T h
def fX2_isTaken_66 (r2 : Int32 → Int32 → dt_Ob → dt_Ob → Option (Int32)) (x2 : Int32) (x3 : Int32) (s0 : Int32) (P : dt_Ob) (T : dt_Ob) : Option (Int32) := ((dt_ix x2 6).bind fun a9 => ((dt_ix x3 6).bind fun a10 => (if ((P 2) a9) = ((P 2) a10) then (if s0 = 0 then (some (1 : Int32)) else (fX2_isTaken_90 r2 x2 x3 P T)) else (fX2_isTaken_90 r2 x2 x3 P T))))
set_option maxRecDepth 10000 in
set_option maxHeartbeats 4000000 in
theorem tX2_isTaken_66 {nb : Nat} {G : dt_G} {A : Nat → Prop} {p : Program} {l : Launch} {e : Env} {s : State} {m : MethodId} {args : Array Value} {below : List Frame} {meth : Method} {c : Code} (C : dt_Cx nb G A p s m args meth c cX2_isTaken 5 RX2) (hr : meth.sig.returnType = (some .boolean)) {M : dt_M} {res : Int32} {r2 : Int32 → Int32 → dt_Ob → dt_Ob → Option (Int32)} (hr2 : ∀ (x2 : Int32) (x3 : Int32) (P : dt_Ob) (T : dt_Ob), r2 x2 x3 P T = some res → dt_At G A p l e (dt_rm 1) s m args below meth c 5 (MQ below (dt_Post G A (some (.int res)) (dt_put (dt_put M 15 P) 13 T)) args s 0 0 A) 2 [(0, .ref (G.1 15 0)), (1, .ref (G.1 13 0)), (2, .int x2), (3, .int x3)] [] (dt_put (dt_put M 15 P) 13 T)) : ∀ (x2 : Int32) (x3 : Int32) (s0 : Int32) (P : dt_Ob) (T : dt_Ob), fX2_isTaken_66 r2 x2 x3 s0 P T = some res → dt_At G A p l e (dt_rm 1) s m args below meth c 5 (MQ below (dt_Post G A (some (.int res)) (dt_put (dt_put M 15 P) 13 T)) args s 0 0 A) 66 [(0, .ref (G.1 15 0)), (1, .ref (G.1 13 0)), (2, .int x2), (3, .int x3)] [.int s0] (dt_put (dt_put M 15 P) 13 T) := by
  intro x2 x3 s0 P T h
  unfold fX2_isTaken_66 at h
  refine dz_istore (pc := 66) C dX2_isTaken_66 (by decide) rfl ?_
  refine dz_aload_n (pc := 68) C dX2_isTaken_68 rfl 1 rfl ?_
  refine dz_getR (pc := 69) (k := 15) (j := 2) C Fc_X2 hk_15 (by decide) (by decide) rfl fl_X2_18 dX2_isTaken_69 ?_
  refine dz_iload_n (pc := 72) C dX2_isTaken_72 rfl 3 rfl ?_
  refine dz_iald (pc := 73) (k := 15) (j := 2) (n := 6) (f := (P 2)) C hk_15 (by decide) rfl rfl dX2_isTaken_73 h (fun a9 h => ?_)
  refine dz_aload_n (pc := 74) C dX2_isTaken_74 rfl 1 rfl ?_
  refine dz_getR (pc := 75) (k := 15) (j := 2) C Fc_X2 hk_15 (by decide) (by decide) rfl fl_X2_18 dX2_isTaken_75 ?_
  refine dz_iload_n (pc := 78) C dX2_isTaken_78 rfl 4 rfl ?_
  refine dz_iald (pc := 79) (k := 15) (j := 2) (n := 6) (f := (P 2)) C hk_15 (by decide) rfl rfl dX2_isTaken_79 h (fun a10 h => ?_)
  refine dz_icmp_ne (pc := 80) (t := 90) C dX2_isTaken_80 (by decide) h (fun h => ?_) (fun h => ?_)
  · refine dz_sub [1, 2, 3, 4] rfl ?_
    exact tX2_isTaken_90 C hr hr2 x2 x3 P T h
  · refine dz_iload (pc := 83) C dX2_isTaken_83 0 rfl ?_
    refine dz_if_ne (pc := 85) (t := 90) C dX2_isTaken_85 (by decide) h (fun h => ?_) (fun h => ?_)
    · refine dz_sub [1, 2, 3, 4] rfl ?_
      exact tX2_isTaken_90 C hr hr2 x2 x3 P T h
    · refine dz_iconst (pc := 88) (v := (1 : Int32)) C dX2_isTaken_88 (by decide) ?_
      cases dt_some h
      exact dz_zret (pc := 89) C hr (Or.inr rfl) dX2_isTaken_89
def fX2_isTaken_61 (r2 : Int32 → Int32 → dt_Ob → dt_Ob → Option (Int32)) (x2 : Int32) (x3 : Int32) (P : dt_Ob) (T : dt_Ob) : Option (Int32) := (fX2_isTaken_66 r2 x2 x3 (1 : Int32) P T)
set_option maxRecDepth 10000 in
set_option maxHeartbeats 4000000 in
theorem tX2_isTaken_61 {nb : Nat} {G : dt_G} {A : Nat → Prop} {p : Program} {l : Launch} {e : Env} {s : State} {m : MethodId} {args : Array Value} {below : List Frame} {meth : Method} {c : Code} (C : dt_Cx nb G A p s m args meth c cX2_isTaken 5 RX2) (hr : meth.sig.returnType = (some .boolean)) {M : dt_M} {res : Int32} {r2 : Int32 → Int32 → dt_Ob → dt_Ob → Option (Int32)} (hr2 : ∀ (x2 : Int32) (x3 : Int32) (P : dt_Ob) (T : dt_Ob), r2 x2 x3 P T = some res → dt_At G A p l e (dt_rm 1) s m args below meth c 5 (MQ below (dt_Post G A (some (.int res)) (dt_put (dt_put M 15 P) 13 T)) args s 0 0 A) 2 [(0, .ref (G.1 15 0)), (1, .ref (G.1 13 0)), (2, .int x2), (3, .int x3)] [] (dt_put (dt_put M 15 P) 13 T)) : ∀ (x2 : Int32) (x3 : Int32) (P : dt_Ob) (T : dt_Ob), fX2_isTaken_61 r2 x2 x3 P T = some res → dt_At G A p l e (dt_rm 1) s m args below meth c 5 (MQ below (dt_Post G A (some (.int res)) (dt_put (dt_put M 15 P) 13 T)) args s 0 0 A) 61 [(0, .ref (G.1 15 0)), (1, .ref (G.1 13 0)), (2, .int x2), (3, .int x3)] [] (dt_put (dt_put M 15 P) 13 T) := by
  intro x2 x3 P T h
  unfold fX2_isTaken_61 at h
  refine dz_iconst (pc := 61) (v := (1 : Int32)) C dX2_isTaken_61 (by decide) ?_
  refine dz_goto (pc := 62) (t := 66) C dX2_isTaken_62 (by decide) ?_
  exact tX2_isTaken_66 C hr hr2 x2 x3 (1 : Int32) P T h
def fX2_isTaken_2  : Nat → Int32 → Int32 → dt_Ob → dt_Ob → Option (Int32)
  | 0, _, _, _, _ => none
  | n + 1, x2, x3, P, T => (if x2 ≤ x3 then (some (0 : Int32)) else ((dt_ix x2 6).bind fun a1 => ((dt_ix x2 6).bind fun a2 => ((dt_ix ((P 0) a2) 20).bind fun a3 => ((dt_ix x3 6).bind fun a4 => (if (((P 1) a1) + ((T 2) a3)) ≤ ((P 1) a4) then (fX2_isTaken_61 (fX2_isTaken_2 n) x2 x3 P T) else ((dt_ix x3 6).bind fun a5 => ((dt_ix x3 6).bind fun a6 => ((dt_ix ((P 0) a6) 20).bind fun a7 => ((dt_ix x2 6).bind fun a8 => (if ((P 1) a8) < (((P 1) a5) + ((T 2) a7)) then (fX2_isTaken_66 (fX2_isTaken_2 n) x2 x3 (0 : Int32) P T) else (fX2_isTaken_61 (fX2_isTaken_2 n) x2 x3 P T))))))))))))
set_option maxRecDepth 10000 in
set_option maxHeartbeats 4000000 in
theorem tX2_isTaken_2 {nb : Nat} {G : dt_G} {A : Nat → Prop} {p : Program} {l : Launch} {e : Env} {s : State} {m : MethodId} {args : Array Value} {below : List Frame} {meth : Method} {c : Code} (C : dt_Cx nb G A p s m args meth c cX2_isTaken 5 RX2) (hr : meth.sig.returnType = (some .boolean)) {M : dt_M} {res : Int32}  : ∀ (n : Nat) (x2 : Int32) (x3 : Int32) (P : dt_Ob) (T : dt_Ob), fX2_isTaken_2 n x2 x3 P T = some res → dt_At G A p l e (dt_rm 1) s m args below meth c 5 (MQ below (dt_Post G A (some (.int res)) (dt_put (dt_put M 15 P) 13 T)) args s 0 0 A) 2 [(0, .ref (G.1 15 0)), (1, .ref (G.1 13 0)), (2, .int x2), (3, .int x3)] [] (dt_put (dt_put M 15 P) 13 T) := by
  intro n
  induction n with
  | zero =>
    intro x2 x3 P T h
    unfold fX2_isTaken_2 at h
    cases h
  | succ n ih =>
    intro x2 x3 P T h
    unfold fX2_isTaken_2 at h
    refine dz_iload_n (pc := 2) C dX2_isTaken_2 rfl 3 rfl ?_
    refine dz_iload_n (pc := 3) C dX2_isTaken_3 rfl 2 rfl ?_
    refine dz_icmp_ge (pc := 4) (t := 96) C dX2_isTaken_4 (by decide) h (fun h => ?_) (fun h => ?_)
    · refine dz_iconst (pc := 96) (v := (0 : Int32)) C dX2_isTaken_96 (by decide) ?_
      cases dt_some h
      exact dz_zret (pc := 97) C hr (Or.inl rfl) dX2_isTaken_97
    · refine dz_aload_n (pc := 7) C dX2_isTaken_7 rfl 0 rfl ?_
      refine dz_getR (pc := 8) (k := 15) (j := 1) C Fc_X2 hk_15 (by decide) (by decide) rfl fl_X2_15 dX2_isTaken_8 ?_
      refine dz_iload_n (pc := 11) C dX2_isTaken_11 rfl 2 rfl ?_
      refine dz_iald (pc := 12) (k := 15) (j := 1) (n := 6) (f := (P 1)) C hk_15 (by decide) rfl rfl dX2_isTaken_12 h (fun a1 h => ?_)
      refine dz_aload_n (pc := 13) C dX2_isTaken_13 rfl 1 rfl ?_
      refine dz_getR (pc := 14) (k := 13) (j := 2) C Fc_X5 hk_13 (by decide) (by decide) rfl fl_X2_57 dX2_isTaken_14 ?_
      refine dz_aload_n (pc := 17) C dX2_isTaken_17 rfl 0 rfl ?_
      refine dz_getR (pc := 18) (k := 15) (j := 0) C Fc_X2 hk_15 (by decide) (by decide) rfl fl_X2_9 dX2_isTaken_18 ?_
      refine dz_iload_n (pc := 21) C dX2_isTaken_21 rfl 2 rfl ?_
      refine dz_iald (pc := 22) (k := 15) (j := 0) (n := 6) (f := (P 0)) C hk_15 (by decide) rfl rfl dX2_isTaken_22 h (fun a2 h => ?_)
      refine dz_iald (pc := 23) (k := 13) (j := 2) (n := 20) (f := (T 2)) C hk_13 (by decide) rfl rfl dX2_isTaken_23 h (fun a3 h => ?_)
      refine dz_iadd (pc := 24) C dX2_isTaken_24 ?_
      refine dz_aload_n (pc := 25) C dX2_isTaken_25 rfl 0 rfl ?_
      refine dz_getR (pc := 26) (k := 15) (j := 1) C Fc_X2 hk_15 (by decide) (by decide) rfl fl_X2_15 dX2_isTaken_26 ?_
      refine dz_iload_n (pc := 29) C dX2_isTaken_29 rfl 3 rfl ?_
      refine dz_iald (pc := 30) (k := 15) (j := 1) (n := 6) (f := (P 1)) C hk_15 (by decide) rfl rfl dX2_isTaken_30 h (fun a4 h => ?_)
      refine dz_icmp_le (pc := 31) (t := 61) C dX2_isTaken_31 (by decide) h (fun h => ?_) (fun h => ?_)
      · exact tX2_isTaken_61 C hr ih x2 x3 P T h
      · refine dz_aload_n (pc := 34) C dX2_isTaken_34 rfl 0 rfl ?_
        refine dz_getR (pc := 35) (k := 15) (j := 1) C Fc_X2 hk_15 (by decide) (by decide) rfl fl_X2_15 dX2_isTaken_35 ?_
        refine dz_iload_n (pc := 38) C dX2_isTaken_38 rfl 3 rfl ?_
        refine dz_iald (pc := 39) (k := 15) (j := 1) (n := 6) (f := (P 1)) C hk_15 (by decide) rfl rfl dX2_isTaken_39 h (fun a5 h => ?_)
        refine dz_aload_n (pc := 40) C dX2_isTaken_40 rfl 1 rfl ?_
        refine dz_getR (pc := 41) (k := 13) (j := 2) C Fc_X5 hk_13 (by decide) (by decide) rfl fl_X2_57 dX2_isTaken_41 ?_
        refine dz_aload_n (pc := 44) C dX2_isTaken_44 rfl 0 rfl ?_
        refine dz_getR (pc := 45) (k := 15) (j := 0) C Fc_X2 hk_15 (by decide) (by decide) rfl fl_X2_9 dX2_isTaken_45 ?_
        refine dz_iload_n (pc := 48) C dX2_isTaken_48 rfl 3 rfl ?_
        refine dz_iald (pc := 49) (k := 15) (j := 0) (n := 6) (f := (P 0)) C hk_15 (by decide) rfl rfl dX2_isTaken_49 h (fun a6 h => ?_)
        refine dz_iald (pc := 50) (k := 13) (j := 2) (n := 20) (f := (T 2)) C hk_13 (by decide) rfl rfl dX2_isTaken_50 h (fun a7 h => ?_)
        refine dz_iadd (pc := 51) C dX2_isTaken_51 ?_
        refine dz_aload_n (pc := 52) C dX2_isTaken_52 rfl 0 rfl ?_
        refine dz_getR (pc := 53) (k := 15) (j := 1) C Fc_X2 hk_15 (by decide) (by decide) rfl fl_X2_15 dX2_isTaken_53 ?_
        refine dz_iload_n (pc := 56) C dX2_isTaken_56 rfl 2 rfl ?_
        refine dz_iald (pc := 57) (k := 15) (j := 1) (n := 6) (f := (P 1)) C hk_15 (by decide) rfl rfl dX2_isTaken_57 h (fun a8 h => ?_)
        refine dz_icmp_gt (pc := 58) (t := 65) C dX2_isTaken_58 (by decide) h (fun h => ?_) (fun h => ?_)
        · refine dz_iconst (pc := 65) (v := (0 : Int32)) C dX2_isTaken_65 (by decide) ?_
          exact tX2_isTaken_66 C hr ih x2 x3 (0 : Int32) P T h
        · exact tX2_isTaken_61 C hr ih x2 x3 P T h
def fX2_isTaken  (x2 : Int32) (P : dt_Ob) (T : dt_Ob) : Option (Int32) := (fX2_isTaken_2 dt_F x2 (0 : Int32) P T)
set_option maxRecDepth 10000 in
set_option maxHeartbeats 4000000 in
theorem m_X2_isTaken {nb : Nat} (l : Launch)  (M : dt_M) (P : dt_Ob) (T : dt_Ob)  (x2 : Int32) {res : Int32} (h : fX2_isTaken x2 P T = some res) : dt_Met nb l yX2_isTaken cX2_isTaken 5 (some .boolean) 1 (fun G => [.ref (G.1 15 0), .ref (G.1 13 0), .int x2]) (dt_put (dt_put M 15 P) 13 T) (some (.int res)) (dt_put (dt_put M 15 P) 13 T) := by
  refine dz_enter (lv := fun G => [(0, .ref (G.1 15 0)), (1, .ref (G.1 13 0)), (2, .int x2)]) (by decide) (fun _ => rfl) (fun _ => Nat.le_of_ble_eq_true rfl) (fun G A p e s m args below meth c C hr => ?_)
  unfold fX2_isTaken at h
  refine dz_iconst (pc := 0) (v := (0 : Int32)) C dX2_isTaken_0 (by decide) ?_
  refine dz_istore_n (pc := 1) C dX2_isTaken_1 rfl (by decide) rfl ?_
  refine dz_sub [1, 2, 3, 0] rfl ?_
  exact tX2_isTaken_2 C hr dt_F x2 (0 : Int32) P T h

def fX2_build_99 (r2 : Int32 → dt_Ob → dt_Ob → Option (Int32 × dt_Ob × dt_Ob)) (r12 : Int32 → Int32 → dt_Ob → dt_Ob → Option (Int32 × dt_Ob × dt_Ob)) (x2 : Int32) (x3 : Int32) (P : dt_Ob) (T : dt_Ob) : Option (Int32 × dt_Ob × dt_Ob) := (r12 x2 (x3 + (1 : Int32)) P T)
set_option maxRecDepth 10000 in
set_option maxHeartbeats 4000000 in
theorem tX2_build_99 {nb : Nat} {G : dt_G} {A : Nat → Prop} {p : Program} {l : Launch} {e : Env} {s : State} {m : MethodId} {args : Array Value} {below : List Frame} {meth : Method} {c : Code} (C : dt_Cx nb G A p s m args meth c cX2_build 5 RX2) (hr : meth.sig.returnType = (some .boolean)) {M : dt_M} {res : Int32 × dt_Ob × dt_Ob} {r2 : Int32 → dt_Ob → dt_Ob → Option (Int32 × dt_Ob × dt_Ob)} (hr2 : ∀ (x2 : Int32) (P : dt_Ob) (T : dt_Ob), r2 x2 P T = some res → dt_At G A p l e (dt_rm 4) s m args below meth c 5 (MQ below (dt_Post G A (some (.int res.1)) (dt_put (dt_put M 15 res.2.1) 13 res.2.2)) args s 0 0 A) 2 [(0, .ref (G.1 15 0)), (1, .ref (G.1 13 0)), (2, .int x2)] [] (dt_put (dt_put M 15 P) 13 T)) {r12 : Int32 → Int32 → dt_Ob → dt_Ob → Option (Int32 × dt_Ob × dt_Ob)} (hr12 : ∀ (x2 : Int32) (x3 : Int32) (P : dt_Ob) (T : dt_Ob), r12 x2 x3 P T = some res → dt_At G A p l e (dt_rm 4) s m args below meth c 5 (MQ below (dt_Post G A (some (.int res.1)) (dt_put (dt_put M 15 res.2.1) 13 res.2.2)) args s 0 0 A) 12 [(0, .ref (G.1 15 0)), (1, .ref (G.1 13 0)), (2, .int x2), (3, .int x3)] [] (dt_put (dt_put M 15 P) 13 T)) : ∀ (x2 : Int32) (x3 : Int32) (P : dt_Ob) (T : dt_Ob), fX2_build_99 r2 r12 x2 x3 P T = some res → dt_At G A p l e (dt_rm 4) s m args below meth c 5 (MQ below (dt_Post G A (some (.int res.1)) (dt_put (dt_put M 15 res.2.1) 13 res.2.2)) args s 0 0 A) 99 [(0, .ref (G.1 15 0)), (1, .ref (G.1 13 0)), (2, .int x2), (3, .int x3)] [] (dt_put (dt_put M 15 P) 13 T) := by
  intro x2 x3 P T h
  unfold fX2_build_99 at h
  refine dz_iinc (pc := 99) (v := (x3 + (1 : Int32))) C dX2_build_99 3 rfl rfl (by decide) rfl ?_
  refine dz_goto (pc := 102) (t := 12) C dX2_build_102 (by decide) ?_
  refine dz_sub [1, 2, 3, 0] rfl ?_
  exact hr12 x2 (x3 + (1 : Int32)) P T h
def fX2_build_55 (r2 : Int32 → dt_Ob → dt_Ob → Option (Int32 × dt_Ob × dt_Ob)) (r12 : Int32 → Int32 → dt_Ob → dt_Ob → Option (Int32 × dt_Ob × dt_Ob)) (x2 : Int32) (x3 : Int32) (s0 : Int32) (P : dt_Ob) (T : dt_Ob) : Option (Int32 × dt_Ob × dt_Ob) := (if s0 = 0 then (some ((0 : Int32), P, T)) else ((dt_ix x3 6).bind fun a5 => ((dt_ix x3 6).bind fun a6 => ((fX5_wouldStand ((P 0) a5) ((P 1) a6) T).bind fun q7 => (if q7 = 0 then (some ((0 : Int32), P, T)) else ((dt_ix x3 6).bind fun a8 => ((dt_ix x3 6).bind fun a9 => ((fX5_drop ((P 0) a8) ((P 1) a9) T).bind fun q10 => (fX2_build_99 r2 r12 x2 x3 P q10)))))))))
set_option maxRecDepth 10000 in
set_option maxHeartbeats 4000000 in
theorem tX2_build_55 {nb : Nat} {G : dt_G} {A : Nat → Prop} {p : Program} {l : Launch} {e : Env} {s : State} {m : MethodId} {args : Array Value} {below : List Frame} {meth : Method} {c : Code} (C : dt_Cx nb G A p s m args meth c cX2_build 5 RX2) (hr : meth.sig.returnType = (some .boolean)) {M : dt_M} {res : Int32 × dt_Ob × dt_Ob} {r2 : Int32 → dt_Ob → dt_Ob → Option (Int32 × dt_Ob × dt_Ob)} (hr2 : ∀ (x2 : Int32) (P : dt_Ob) (T : dt_Ob), r2 x2 P T = some res → dt_At G A p l e (dt_rm 4) s m args below meth c 5 (MQ below (dt_Post G A (some (.int res.1)) (dt_put (dt_put M 15 res.2.1) 13 res.2.2)) args s 0 0 A) 2 [(0, .ref (G.1 15 0)), (1, .ref (G.1 13 0)), (2, .int x2)] [] (dt_put (dt_put M 15 P) 13 T)) {r12 : Int32 → Int32 → dt_Ob → dt_Ob → Option (Int32 × dt_Ob × dt_Ob)} (hr12 : ∀ (x2 : Int32) (x3 : Int32) (P : dt_Ob) (T : dt_Ob), r12 x2 x3 P T = some res → dt_At G A p l e (dt_rm 4) s m args below meth c 5 (MQ below (dt_Post G A (some (.int res.1)) (dt_put (dt_put M 15 res.2.1) 13 res.2.2)) args s 0 0 A) 12 [(0, .ref (G.1 15 0)), (1, .ref (G.1 13 0)), (2, .int x2), (3, .int x3)] [] (dt_put (dt_put M 15 P) 13 T)) : ∀ (x2 : Int32) (x3 : Int32) (s0 : Int32) (P : dt_Ob) (T : dt_Ob), fX2_build_55 r2 r12 x2 x3 s0 P T = some res → dt_At G A p l e (dt_rm 4) s m args below meth c 5 (MQ below (dt_Post G A (some (.int res.1)) (dt_put (dt_put M 15 res.2.1) 13 res.2.2)) args s 0 0 A) 55 [(0, .ref (G.1 15 0)), (1, .ref (G.1 13 0)), (2, .int x2), (3, .int x3)] [.int s0] (dt_put (dt_put M 15 P) 13 T) := by
  intro x2 x3 s0 P T h
  unfold fX2_build_55 at h
  refine dz_istore (pc := 55) C dX2_build_55 (by decide) rfl ?_
  refine dz_iload (pc := 57) C dX2_build_57 0 rfl ?_
  refine dz_if_eq (pc := 59) (t := 81) C dX2_build_59 (by decide) h (fun h => ?_) (fun h => ?_)
  · refine dz_iconst (pc := 81) (v := (0 : Int32)) C dX2_build_81 (by decide) ?_
    cases dt_some h
    exact dz_zret (pc := 82) C hr (Or.inl rfl) dX2_build_82
  · refine dz_aload_n (pc := 62) C dX2_build_62 rfl 2 rfl ?_
    refine dz_aload_n (pc := 63) C dX2_build_63 rfl 1 rfl ?_
    refine dz_getR (pc := 64) (k := 15) (j := 0) C Fc_X2 hk_15 (by decide) (by decide) rfl fl_X2_9 dX2_build_64 ?_
    refine dz_iload_n (pc := 67) C dX2_build_67 rfl 4 rfl ?_
    refine dz_iald (pc := 68) (k := 15) (j := 0) (n := 6) (f := (P 0)) C hk_15 (by decide) rfl rfl dX2_build_68 h (fun a5 h => ?_)
    refine dz_aload_n (pc := 69) C dX2_build_69 rfl 1 rfl ?_
    refine dz_getR (pc := 70) (k := 15) (j := 1) C Fc_X2 hk_15 (by decide) (by decide) rfl fl_X2_15 dX2_build_70 ?_
    refine dz_iload_n (pc := 73) C dX2_build_73 rfl 4 rfl ?_
    refine dz_iald (pc := 74) (k := 15) (j := 1) (n := 6) (f := (P 1)) C hk_15 (by decide) rfl rfl dX2_build_74 h (fun a6 h => ?_)
    obtain ⟨q7, eq7, h⟩ := dt_bind h
    refine dz_callVi (pc := 75) (st := []) (k := 13) (As := [.int ((P 0) a5), .int ((P 1) a6)]) (M' := (dt_put (dt_put M 15 P) 13 T)) C Fc_X5 hk_13 mf_X5_wouldStand rfl ml_X2_83 (m_X5_wouldStand l hk_13 _ _ _ _ eq7) rfl rfl (by omega) (by decide) (Nat.le_of_ble_eq_true rfl) dX2_build_75 ?_
    refine dz_if_ne (pc := 78) (t := 83) C dX2_build_78 (by decide) h (fun h => ?_) (fun h => ?_)
    · refine dz_aload_n (pc := 83) C dX2_build_83 rfl 2 rfl ?_
      refine dz_aload_n (pc := 84) C dX2_build_84 rfl 1 rfl ?_
      refine dz_getR (pc := 85) (k := 15) (j := 0) C Fc_X2 hk_15 (by decide) (by decide) rfl fl_X2_9 dX2_build_85 ?_
      refine dz_iload_n (pc := 88) C dX2_build_88 rfl 4 rfl ?_
      refine dz_iald (pc := 89) (k := 15) (j := 0) (n := 6) (f := (P 0)) C hk_15 (by decide) rfl rfl dX2_build_89 h (fun a8 h => ?_)
      refine dz_aload_n (pc := 90) C dX2_build_90 rfl 1 rfl ?_
      refine dz_getR (pc := 91) (k := 15) (j := 1) C Fc_X2 hk_15 (by decide) (by decide) rfl fl_X2_15 dX2_build_91 ?_
      refine dz_iload_n (pc := 94) C dX2_build_94 rfl 4 rfl ?_
      refine dz_iald (pc := 95) (k := 15) (j := 1) (n := 6) (f := (P 1)) C hk_15 (by decide) rfl rfl dX2_build_95 h (fun a9 h => ?_)
      obtain ⟨q10, eq10, h⟩ := dt_bind h
      refine dz_callVv (pc := 96) (st := []) (k := 13) (As := [.int ((P 0) a8), .int ((P 1) a9)]) (M' := (dt_put (dt_put M 15 P) 13 q10)) C Fc_X5 hk_13 mf_X5_drop rfl ml_X2_87 (m_X5_drop l hk_13 _ _ _ _ eq10) rfl rfl (by omega) (by decide) (Nat.le_of_ble_eq_true rfl) dX2_build_96 ?_
      refine dz_sub [1, 2, 3, 4] rfl ?_
      exact tX2_build_99 C hr hr2 hr12 x2 x3 P q10 h
    · refine dz_iconst (pc := 81) (v := (0 : Int32)) C dX2_build_81 (by decide) ?_
      cases dt_some h
      exact dz_zret (pc := 82) C hr (Or.inl rfl) dX2_build_82
def fX2_build_12 (r2 : Int32 → dt_Ob → dt_Ob → Option (Int32 × dt_Ob × dt_Ob)) : Nat → Int32 → Int32 → dt_Ob → dt_Ob → Option (Int32 × dt_Ob × dt_Ob)
  | 0, _, _, _, _ => none
  | n + 1, x2, x3, P, T => (if (P 6 0) ≤ x3 then (r2 (x2 + (1 : Int32)) P T) else ((dt_ix x3 6).bind fun a1 => (if ((P 2) a1) = x2 then ((dt_ix x3 6).bind fun a2 => ((dt_ix x3 6).bind fun a3 => ((fX5_levelFor ((P 0) a2) ((P 1) a3) T).bind fun q4 => (if q4 = x2 then (fX2_build_55 r2 (fX2_build_12 r2 n) x2 x3 (1 : Int32) P T) else (fX2_build_55 r2 (fX2_build_12 r2 n) x2 x3 (0 : Int32) P T))))) else (fX2_build_99 r2 (fX2_build_12 r2 n) x2 x3 P T))))
set_option maxRecDepth 10000 in
set_option maxHeartbeats 4000000 in
theorem tX2_build_12 {nb : Nat} {G : dt_G} {A : Nat → Prop} {p : Program} {l : Launch} {e : Env} {s : State} {m : MethodId} {args : Array Value} {below : List Frame} {meth : Method} {c : Code} (C : dt_Cx nb G A p s m args meth c cX2_build 5 RX2) (hr : meth.sig.returnType = (some .boolean)) {M : dt_M} {res : Int32 × dt_Ob × dt_Ob} {r2 : Int32 → dt_Ob → dt_Ob → Option (Int32 × dt_Ob × dt_Ob)} (hr2 : ∀ (x2 : Int32) (P : dt_Ob) (T : dt_Ob), r2 x2 P T = some res → dt_At G A p l e (dt_rm 4) s m args below meth c 5 (MQ below (dt_Post G A (some (.int res.1)) (dt_put (dt_put M 15 res.2.1) 13 res.2.2)) args s 0 0 A) 2 [(0, .ref (G.1 15 0)), (1, .ref (G.1 13 0)), (2, .int x2)] [] (dt_put (dt_put M 15 P) 13 T)) : ∀ (n : Nat) (x2 : Int32) (x3 : Int32) (P : dt_Ob) (T : dt_Ob), fX2_build_12 r2 n x2 x3 P T = some res → dt_At G A p l e (dt_rm 4) s m args below meth c 5 (MQ below (dt_Post G A (some (.int res.1)) (dt_put (dt_put M 15 res.2.1) 13 res.2.2)) args s 0 0 A) 12 [(0, .ref (G.1 15 0)), (1, .ref (G.1 13 0)), (2, .int x2), (3, .int x3)] [] (dt_put (dt_put M 15 P) 13 T) := by
  intro n
  induction n with
  | zero =>
    intro x2 x3 P T h
    unfold fX2_build_12 at h
    cases h
  | succ n ih =>
    intro x2 x3 P T h
    unfold fX2_build_12 at h
    refine dz_iload_n (pc := 12) C dX2_build_12 rfl 3 rfl ?_
    refine dz_aload_n (pc := 13) C dX2_build_13 rfl 0 rfl ?_
    refine dz_getI (pc := 14) (k := 15) (j := 6) (v := (P 6 0)) C Fc_X2 hk_15 (by decide) rfl rfl fl_X2_30 rfl dX2_build_14 ?_
    refine dz_icmp_ge (pc := 17) (t := 105) C dX2_build_17 (by decide) h (fun h => ?_) (fun h => ?_)
    · refine dz_iinc (pc := 105) (v := (x2 + (1 : Int32))) C dX2_build_105 2 rfl rfl (by decide) rfl ?_
      refine dz_goto (pc := 108) (t := 2) C dX2_build_108 (by decide) ?_
      refine dz_sub [1, 2, 0] rfl ?_
      exact hr2 (x2 + (1 : Int32)) P T h
    · refine dz_aload_n (pc := 20) C dX2_build_20 rfl 0 rfl ?_
      refine dz_getR (pc := 21) (k := 15) (j := 2) C Fc_X2 hk_15 (by decide) (by decide) rfl fl_X2_18 dX2_build_21 ?_
      refine dz_iload_n (pc := 24) C dX2_build_24 rfl 3 rfl ?_
      refine dz_iald (pc := 25) (k := 15) (j := 2) (n := 6) (f := (P 2)) C hk_15 (by decide) rfl rfl dX2_build_25 h (fun a1 h => ?_)
      refine dz_iload_n (pc := 26) C dX2_build_26 rfl 2 rfl ?_
      refine dz_icmp_ne (pc := 27) (t := 99) C dX2_build_27 (by decide) h (fun h => ?_) (fun h => ?_)
      · exact tX2_build_99 C hr hr2 ih x2 x3 P T h
      · refine dz_aload_n (pc := 30) C dX2_build_30 rfl 1 rfl ?_
        refine dz_aload_n (pc := 31) C dX2_build_31 rfl 0 rfl ?_
        refine dz_getR (pc := 32) (k := 15) (j := 0) C Fc_X2 hk_15 (by decide) (by decide) rfl fl_X2_9 dX2_build_32 ?_
        refine dz_iload_n (pc := 35) C dX2_build_35 rfl 3 rfl ?_
        refine dz_iald (pc := 36) (k := 15) (j := 0) (n := 6) (f := (P 0)) C hk_15 (by decide) rfl rfl dX2_build_36 h (fun a2 h => ?_)
        refine dz_aload_n (pc := 37) C dX2_build_37 rfl 0 rfl ?_
        refine dz_getR (pc := 38) (k := 15) (j := 1) C Fc_X2 hk_15 (by decide) (by decide) rfl fl_X2_15 dX2_build_38 ?_
        refine dz_iload_n (pc := 41) C dX2_build_41 rfl 3 rfl ?_
        refine dz_iald (pc := 42) (k := 15) (j := 1) (n := 6) (f := (P 1)) C hk_15 (by decide) rfl rfl dX2_build_42 h (fun a3 h => ?_)
        obtain ⟨q4, eq4, h⟩ := dt_bind h
        refine dz_callVi (pc := 43) (st := []) (k := 13) (As := [.int ((P 0) a2), .int ((P 1) a3)]) (M' := (dt_put (dt_put M 15 P) 13 T)) C Fc_X5 hk_13 mf_X5_levelFor rfl ml_X2_79 (m_X5_levelFor l hk_13 _ _ _ _ eq4) rfl rfl (by omega) (by decide) (Nat.le_of_ble_eq_true rfl) dX2_build_43 ?_
        refine dz_iload_n (pc := 46) C dX2_build_46 rfl 2 rfl ?_
        refine dz_icmp_ne (pc := 47) (t := 54) C dX2_build_47 (by decide) h (fun h => ?_) (fun h => ?_)
        · refine dz_iconst (pc := 54) (v := (0 : Int32)) C dX2_build_54 (by decide) ?_
          exact tX2_build_55 C hr hr2 ih x2 x3 (0 : Int32) P T h
        · refine dz_iconst (pc := 50) (v := (1 : Int32)) C dX2_build_50 (by decide) ?_
          refine dz_goto (pc := 51) (t := 55) C dX2_build_51 (by decide) ?_
          exact tX2_build_55 C hr hr2 ih x2 x3 (1 : Int32) P T h
def fX2_build_2  : Nat → Int32 → dt_Ob → dt_Ob → Option (Int32 × dt_Ob × dt_Ob)
  | 0, _, _, _ => none
  | n + 1, x2, P, T => (if (P 6 0) ≤ x2 then (some ((1 : Int32), P, T)) else (fX2_build_12 (fX2_build_2 n) dt_F x2 (0 : Int32) P T))
set_option maxRecDepth 10000 in
set_option maxHeartbeats 4000000 in
theorem tX2_build_2 {nb : Nat} {G : dt_G} {A : Nat → Prop} {p : Program} {l : Launch} {e : Env} {s : State} {m : MethodId} {args : Array Value} {below : List Frame} {meth : Method} {c : Code} (C : dt_Cx nb G A p s m args meth c cX2_build 5 RX2) (hr : meth.sig.returnType = (some .boolean)) {M : dt_M} {res : Int32 × dt_Ob × dt_Ob}  : ∀ (n : Nat) (x2 : Int32) (P : dt_Ob) (T : dt_Ob), fX2_build_2 n x2 P T = some res → dt_At G A p l e (dt_rm 4) s m args below meth c 5 (MQ below (dt_Post G A (some (.int res.1)) (dt_put (dt_put M 15 res.2.1) 13 res.2.2)) args s 0 0 A) 2 [(0, .ref (G.1 15 0)), (1, .ref (G.1 13 0)), (2, .int x2)] [] (dt_put (dt_put M 15 P) 13 T) := by
  intro n
  induction n with
  | zero =>
    intro x2 P T h
    unfold fX2_build_2 at h
    cases h
  | succ n ih =>
    intro x2 P T h
    unfold fX2_build_2 at h
    refine dz_iload_n (pc := 2) C dX2_build_2 rfl 2 rfl ?_
    refine dz_aload_n (pc := 3) C dX2_build_3 rfl 0 rfl ?_
    refine dz_getI (pc := 4) (k := 15) (j := 6) (v := (P 6 0)) C Fc_X2 hk_15 (by decide) rfl rfl fl_X2_30 rfl dX2_build_4 ?_
    refine dz_icmp_ge (pc := 7) (t := 111) C dX2_build_7 (by decide) h (fun h => ?_) (fun h => ?_)
    · refine dz_iconst (pc := 111) (v := (1 : Int32)) C dX2_build_111 (by decide) ?_
      cases dt_some h
      exact dz_zret (pc := 112) C hr (Or.inr rfl) dX2_build_112
    · refine dz_iconst (pc := 10) (v := (0 : Int32)) C dX2_build_10 (by decide) ?_
      refine dz_istore_n (pc := 11) C dX2_build_11 rfl (by decide) rfl ?_
      refine dz_sub [1, 2, 3, 0] rfl ?_
      exact tX2_build_12 C hr ih dt_F x2 (0 : Int32) P T h
def fX2_build  (P : dt_Ob) (T : dt_Ob) : Option (Int32 × dt_Ob × dt_Ob) := (fX2_build_2 dt_F (0 : Int32) P T)
set_option maxRecDepth 10000 in
set_option maxHeartbeats 4000000 in
theorem m_X2_build {nb : Nat} (l : Launch)  (M : dt_M) (P : dt_Ob) (T : dt_Ob)   {res : Int32 × dt_Ob × dt_Ob} (h : fX2_build P T = some res) : dt_Met nb l yX2_build cX2_build 5 (some .boolean) 4 (fun G => [.ref (G.1 15 0), .ref (G.1 13 0)]) (dt_put (dt_put M 15 P) 13 T) (some (.int res.1)) (dt_put (dt_put M 15 res.2.1) 13 res.2.2) := by
  refine dz_enter (lv := fun G => [(0, .ref (G.1 15 0)), (1, .ref (G.1 13 0))]) (by decide) (fun _ => rfl) (fun _ => Nat.le_of_ble_eq_true rfl) (fun G A p e s m args below meth c C hr => ?_)
  unfold fX2_build at h
  refine dz_iconst (pc := 0) (v := (0 : Int32)) C dX2_build_0 (by decide) ?_
  refine dz_istore_n (pc := 1) C dX2_build_1 rfl (by decide) rfl ?_
  refine dz_sub [1, 2, 0] rfl ?_
  exact tX2_build_2 C hr dt_F (0 : Int32) P T h

def fX2_count_77  : Nat → Int32 → dt_Ob → dt_Ob → Option (dt_Ob × dt_Ob)
  | 0, _, _, _ => none
  | n + 1, x3, P, T => (if (P 6 0) ≤ x3 then (some (P, T)) else (if (P 7 0) = (1 : Int32) then ((dt_ix x3 6).bind fun a7 => ((dt_ix x3 6).bind fun a8 => ((dt_ix ((P 0) a7) 20).bind fun a9 => ((dt_ix x3 6).bind fun a10 => ((dt_ix x3 6).bind fun a11 => ((dt_ix ((P 0) a10) 20).bind fun a12 => ((fX2_count_77 n) (x3 + (1 : Int32)) (dt_set (dt_set P 4 a9 ((P 1) a8)) 5 a12 ((P 2) a11)) T))))))) else (some (P, T))))
set_option maxRecDepth 10000 in
set_option maxHeartbeats 4000000 in
theorem tX2_count_77 {nb : Nat} {G : dt_G} {A : Nat → Prop} {p : Program} {l : Launch} {e : Env} {s : State} {m : MethodId} {args : Array Value} {below : List Frame} {meth : Method} {c : Code} (C : dt_Cx nb G A p s m args meth c cX2_count 4 RX2) (hr : meth.sig.returnType = none) {M : dt_M} {res : dt_Ob × dt_Ob}  : ∀ (n : Nat) (x3 : Int32) (P : dt_Ob) (T : dt_Ob), fX2_count_77 n x3 P T = some res → dt_At G A p l e (dt_rm 5) s m args below meth c 4 (MQ below (dt_Post G A none (dt_put (dt_put M 15 res.1) 13 res.2)) args s 0 0 A) 77 [(0, .ref (G.1 15 0)), (3, .int x3)] [] (dt_put (dt_put M 15 P) 13 T) := by
  intro n
  induction n with
  | zero =>
    intro x3 P T h
    unfold fX2_count_77 at h
    cases h
  | succ n ih =>
    intro x3 P T h
    unfold fX2_count_77 at h
    refine dz_iload_n (pc := 77) C dX2_count_77 rfl 1 rfl ?_
    refine dz_aload_n (pc := 78) C dX2_count_78 rfl 0 rfl ?_
    refine dz_getI (pc := 79) (k := 15) (j := 6) (v := (P 6 0)) C Fc_X2 hk_15 (by decide) rfl rfl fl_X2_30 rfl dX2_count_79 ?_
    refine dz_icmp_ge (pc := 82) (t := 133) C dX2_count_82 (by decide) h (fun h => ?_) (fun h => ?_)
    · cases dt_some h
      exact dz_vret (pc := 133) C hr dX2_count_133
    · refine dz_aload_n (pc := 85) C dX2_count_85 rfl 0 rfl ?_
      refine dz_getI (pc := 86) (k := 15) (j := 7) (v := (P 7 0)) C Fc_X2 hk_15 (by decide) rfl rfl fl_X2_34 rfl dX2_count_86 ?_
      refine dz_iconst (pc := 89) (v := (1 : Int32)) C dX2_count_89 (by decide) ?_
      refine dz_icmp_ne (pc := 90) (t := 133) C dX2_count_90 (by decide) h (fun h => ?_) (fun h => ?_)
      · cases dt_some h
        exact dz_vret (pc := 133) C hr dX2_count_133
      · refine dz_aload_n (pc := 93) C dX2_count_93 rfl 0 rfl ?_
        refine dz_getR (pc := 94) (k := 15) (j := 4) C Fc_X2 hk_15 (by decide) (by decide) rfl fl_X2_24 dX2_count_94 ?_
        refine dz_aload_n (pc := 97) C dX2_count_97 rfl 0 rfl ?_
        refine dz_getR (pc := 98) (k := 15) (j := 0) C Fc_X2 hk_15 (by decide) (by decide) rfl fl_X2_9 dX2_count_98 ?_
        refine dz_iload_n (pc := 101) C dX2_count_101 rfl 1 rfl ?_
        refine dz_iald (pc := 102) (k := 15) (j := 0) (n := 6) (f := (P 0)) C hk_15 (by decide) rfl rfl dX2_count_102 h (fun a7 h => ?_)
        refine dz_aload_n (pc := 103) C dX2_count_103 rfl 0 rfl ?_
        refine dz_getR (pc := 104) (k := 15) (j := 1) C Fc_X2 hk_15 (by decide) (by decide) rfl fl_X2_15 dX2_count_104 ?_
        refine dz_iload_n (pc := 107) C dX2_count_107 rfl 1 rfl ?_
        refine dz_iald (pc := 108) (k := 15) (j := 1) (n := 6) (f := (P 1)) C hk_15 (by decide) rfl rfl dX2_count_108 h (fun a8 h => ?_)
        refine dz_iast (pc := 109) (k := 15) (j := 4) (n := 20) (M' := fun a9 => (dt_put (dt_put M 15 (dt_set P 4 a9 ((P 1) a8))) 13 T)) C hk_15 (by decide) rfl (fun a9 => (dt_wB _ (by decide) _ _ _ _ _)) dX2_count_109 h (fun a9 h => ?_)
        refine dz_aload_n (pc := 110) C dX2_count_110 rfl 0 rfl ?_
        refine dz_getR (pc := 111) (k := 15) (j := 5) C Fc_X2 hk_15 (by decide) (by decide) rfl fl_X2_27 dX2_count_111 ?_
        refine dz_aload_n (pc := 114) C dX2_count_114 rfl 0 rfl ?_
        refine dz_getR (pc := 115) (k := 15) (j := 0) C Fc_X2 hk_15 (by decide) (by decide) rfl fl_X2_9 dX2_count_115 ?_
        refine dz_iload_n (pc := 118) C dX2_count_118 rfl 1 rfl ?_
        refine dz_iald (pc := 119) (k := 15) (j := 0) (n := 6) (f := (P 0)) C hk_15 (by decide) rfl rfl dX2_count_119 h (fun a10 h => ?_)
        refine dz_aload_n (pc := 120) C dX2_count_120 rfl 0 rfl ?_
        refine dz_getR (pc := 121) (k := 15) (j := 2) C Fc_X2 hk_15 (by decide) (by decide) rfl fl_X2_18 dX2_count_121 ?_
        refine dz_iload_n (pc := 124) C dX2_count_124 rfl 1 rfl ?_
        refine dz_iald (pc := 125) (k := 15) (j := 2) (n := 6) (f := (P 2)) C hk_15 (by decide) rfl rfl dX2_count_125 h (fun a11 h => ?_)
        refine dz_iast (pc := 126) (k := 15) (j := 5) (n := 20) (M' := fun a12 => (dt_put (dt_put M 15 (dt_set (dt_set P 4 a9 ((P 1) a8)) 5 a12 ((P 2) a11))) 13 T)) C hk_15 (by decide) rfl (fun a12 => (dt_wB _ (by decide) _ _ _ _ _)) dX2_count_126 h (fun a12 h => ?_)
        refine dz_iinc (pc := 127) (v := (x3 + (1 : Int32))) C dX2_count_127 1 rfl rfl (by decide) rfl ?_
        refine dz_goto (pc := 130) (t := 77) C dX2_count_130 (by decide) ?_
        refine dz_sub [1, 0] rfl ?_
        exact ih (x3 + (1 : Int32)) (dt_set (dt_set P 4 a9 ((P 1) a8)) 5 a12 ((P 2) a11)) T h
def fX2_count_30  : Nat → Int32 → Int32 → dt_Ob → dt_Ob → Option (dt_Ob × dt_Ob)
  | 0, _, _, _, _ => none
  | n + 1, x2, x3, P, T => (if (P 6 0) ≤ x3 then (if x2 = 0 then (some (P, T)) else (fX2_count_77 dt_F (0 : Int32) (dt_set P 7 0 ((P 7 0) + (1 : Int32))) T)) else ((dt_ix x3 6).bind fun a4 => ((dt_ix x3 6).bind fun a5 => ((fX5_lift ((P 0) a4) ((P 3) a5) T).bind fun q6 => ((fX2_count_30 n) x2 (x3 + (1 : Int32)) P q6)))))
set_option maxRecDepth 10000 in
set_option maxHeartbeats 4000000 in
theorem tX2_count_30 {nb : Nat} {G : dt_G} {A : Nat → Prop} {p : Program} {l : Launch} {e : Env} {s : State} {m : MethodId} {args : Array Value} {below : List Frame} {meth : Method} {c : Code} (C : dt_Cx nb G A p s m args meth c cX2_count 4 RX2) (hr : meth.sig.returnType = none) {M : dt_M} {res : dt_Ob × dt_Ob}  : ∀ (n : Nat) (x2 : Int32) (x3 : Int32) (P : dt_Ob) (T : dt_Ob), fX2_count_30 n x2 x3 P T = some res → dt_At G A p l e (dt_rm 5) s m args below meth c 4 (MQ below (dt_Post G A none (dt_put (dt_put M 15 res.1) 13 res.2)) args s 0 0 A) 30 [(0, .ref (G.1 15 0)), (1, .ref (G.1 13 0)), (2, .int x2), (3, .int x3)] [] (dt_put (dt_put M 15 P) 13 T) := by
  intro n
  induction n with
  | zero =>
    intro x2 x3 P T h
    unfold fX2_count_30 at h
    cases h
  | succ n ih =>
    intro x2 x3 P T h
    unfold fX2_count_30 at h
    refine dz_iload_n (pc := 30) C dX2_count_30 rfl 3 rfl ?_
    refine dz_aload_n (pc := 31) C dX2_count_31 rfl 0 rfl ?_
    refine dz_getI (pc := 32) (k := 15) (j := 6) (v := (P 6 0)) C Fc_X2 hk_15 (by decide) rfl rfl fl_X2_30 rfl dX2_count_32 ?_
    refine dz_icmp_ge (pc := 35) (t := 60) C dX2_count_35 (by decide) h (fun h => ?_) (fun h => ?_)
    · refine dz_iload_n (pc := 60) C dX2_count_60 rfl 2 rfl ?_
      refine dz_if_ne (pc := 61) (t := 65) C dX2_count_61 (by decide) h (fun h => ?_) (fun h => ?_)
      · refine dz_aload_n (pc := 65) C dX2_count_65 rfl 0 rfl ?_
        refine dz_dup (pc := 66) C dX2_count_66 rfl ?_
        refine dz_getI (pc := 67) (k := 15) (j := 7) (v := (P 7 0)) C Fc_X2 hk_15 (by decide) rfl rfl fl_X2_34 rfl dX2_count_67 ?_
        refine dz_iconst (pc := 70) (v := (1 : Int32)) C dX2_count_70 (by decide) ?_
        refine dz_iadd (pc := 71) C dX2_count_71 ?_
        refine dz_putI (pc := 72) (k := 15) (j := 7) (M' := (dt_put (dt_put M 15 (dt_set P 7 0 ((P 7 0) + (1 : Int32)))) 13 T)) C Fc_X2 hk_15 (by decide) rfl rfl rfl rfl fl_X2_34 (dt_wB _ (by decide) _ _ _ _ _) dX2_count_72 ?_
        refine dz_iconst (pc := 75) (v := (0 : Int32)) C dX2_count_75 (by decide) ?_
        refine dz_istore_n (pc := 76) C dX2_count_76 rfl (by decide) rfl ?_
        refine dz_sub [1, 0] rfl ?_
        exact tX2_count_77 C hr dt_F (0 : Int32) (dt_set P 7 0 ((P 7 0) + (1 : Int32))) T h
      · cases dt_some h
        exact dz_vret (pc := 64) C hr dX2_count_64
    · refine dz_aload_n (pc := 38) C dX2_count_38 rfl 1 rfl ?_
      refine dz_aload_n (pc := 39) C dX2_count_39 rfl 0 rfl ?_
      refine dz_getR (pc := 40) (k := 15) (j := 0) C Fc_X2 hk_15 (by decide) (by decide) rfl fl_X2_9 dX2_count_40 ?_
      refine dz_iload_n (pc := 43) C dX2_count_43 rfl 3 rfl ?_
      refine dz_iald (pc := 44) (k := 15) (j := 0) (n := 6) (f := (P 0)) C hk_15 (by decide) rfl rfl dX2_count_44 h (fun a4 h => ?_)
      refine dz_aload_n (pc := 45) C dX2_count_45 rfl 0 rfl ?_
      refine dz_getR (pc := 46) (k := 15) (j := 3) C Fc_X2 hk_15 (by decide) (by decide) rfl fl_X2_21 dX2_count_46 ?_
      refine dz_iload_n (pc := 49) C dX2_count_49 rfl 3 rfl ?_
      refine dz_iald (pc := 50) (k := 15) (j := 3) (n := 6) (f := (P 3)) C hk_15 (by decide) rfl rfl dX2_count_50 h (fun a5 h => ?_)
      obtain ⟨q6, eq6, h⟩ := dt_bind h
      refine dz_callVv (pc := 51) (st := []) (k := 13) (As := [.int ((P 0) a4), .int ((P 3) a5)]) (M' := (dt_put (dt_put M 15 P) 13 q6)) C Fc_X5 hk_13 mf_X5_lift rfl ml_X2_75 (m_X5_lift l hk_13 _ _ _ _ eq6) rfl rfl (by omega) (by decide) (Nat.le_of_ble_eq_true rfl) dX2_count_51 ?_
      refine dz_iinc (pc := 54) (v := (x3 + (1 : Int32))) C dX2_count_54 3 rfl rfl (by decide) rfl ?_
      refine dz_goto (pc := 57) (t := 30) C dX2_count_57 (by decide) ?_
      refine dz_sub [1, 2, 3, 0] rfl ?_
      exact ih x2 (x3 + (1 : Int32)) P q6 h
def fX2_count_28  (x2 : Int32) (P : dt_Ob) (T : dt_Ob) : Option (dt_Ob × dt_Ob) := (fX2_count_30 dt_F x2 (0 : Int32) P T)
set_option maxRecDepth 10000 in
set_option maxHeartbeats 4000000 in
theorem tX2_count_28 {nb : Nat} {G : dt_G} {A : Nat → Prop} {p : Program} {l : Launch} {e : Env} {s : State} {m : MethodId} {args : Array Value} {below : List Frame} {meth : Method} {c : Code} (C : dt_Cx nb G A p s m args meth c cX2_count 4 RX2) (hr : meth.sig.returnType = none) {M : dt_M} {res : dt_Ob × dt_Ob}  : ∀ (x2 : Int32) (P : dt_Ob) (T : dt_Ob), fX2_count_28 x2 P T = some res → dt_At G A p l e (dt_rm 5) s m args below meth c 4 (MQ below (dt_Post G A none (dt_put (dt_put M 15 res.1) 13 res.2)) args s 0 0 A) 28 [(0, .ref (G.1 15 0)), (1, .ref (G.1 13 0)), (2, .int x2)] [] (dt_put (dt_put M 15 P) 13 T) := by
  intro x2 P T h
  unfold fX2_count_28 at h
  refine dz_iconst (pc := 28) (v := (0 : Int32)) C dX2_count_28 (by decide) ?_
  refine dz_istore_n (pc := 29) C dX2_count_29 rfl (by decide) rfl ?_
  refine dz_sub [1, 2, 3, 0] rfl ?_
  exact tX2_count_30 C hr dt_F x2 (0 : Int32) P T h
def fX2_count_27  (s0 : Int32) (P : dt_Ob) (T : dt_Ob) : Option (dt_Ob × dt_Ob) := (fX2_count_28 s0 P T)
set_option maxRecDepth 10000 in
set_option maxHeartbeats 4000000 in
theorem tX2_count_27 {nb : Nat} {G : dt_G} {A : Nat → Prop} {p : Program} {l : Launch} {e : Env} {s : State} {m : MethodId} {args : Array Value} {below : List Frame} {meth : Method} {c : Code} (C : dt_Cx nb G A p s m args meth c cX2_count 4 RX2) (hr : meth.sig.returnType = none) {M : dt_M} {res : dt_Ob × dt_Ob}  : ∀ (s0 : Int32) (P : dt_Ob) (T : dt_Ob), fX2_count_27 s0 P T = some res → dt_At G A p l e (dt_rm 5) s m args below meth c 4 (MQ below (dt_Post G A none (dt_put (dt_put M 15 res.1) 13 res.2)) args s 0 0 A) 27 [(0, .ref (G.1 15 0)), (1, .ref (G.1 13 0))] [.int s0] (dt_put (dt_put M 15 P) 13 T) := by
  intro s0 P T h
  unfold fX2_count_27 at h
  refine dz_istore_n (pc := 27) C dX2_count_27 rfl (by decide) rfl ?_
  refine dz_sub [1, 2, 0] rfl ?_
  exact tX2_count_28 C hr  s0 P T h
def fX2_count  (P : dt_Ob) (T : dt_Ob) : Option (dt_Ob × dt_Ob) := ((fX2_build P T).bind fun q1 => (if q1.1 = 0 then (fX2_count_28 q1.1 q1.2.1 q1.2.2) else ((fX5_weigh q1.2.2).bind fun q2 => ((fX5_overloaded q2).bind fun q3 => (if q3 = (-1 : Int32) then (fX2_count_27 (1 : Int32) q1.2.1 q2) else (fX2_count_27 (0 : Int32) q1.2.1 q2))))))
set_option maxRecDepth 10000 in
set_option maxHeartbeats 4000000 in
theorem m_X2_count {nb : Nat} (l : Launch)  (M : dt_M) (P : dt_Ob) (T : dt_Ob)   {res : dt_Ob × dt_Ob} (h : fX2_count P T = some res) : dt_Met nb l yX2_count cX2_count 4 none 5 (fun G => [.ref (G.1 15 0), .ref (G.1 13 0)]) (dt_put (dt_put M 15 P) 13 T) none (dt_put (dt_put M 15 res.1) 13 res.2) := by
  refine dz_enter (lv := fun G => [(0, .ref (G.1 15 0)), (1, .ref (G.1 13 0))]) (by decide) (fun _ => rfl) (fun _ => Nat.le_of_ble_eq_true rfl) (fun G A p e s m args below meth c C hr => ?_)
  unfold fX2_count at h
  refine dz_aload_n (pc := 0) C dX2_count_0 rfl 0 rfl ?_
  refine dz_aload_n (pc := 1) C dX2_count_1 rfl 1 rfl ?_
  obtain ⟨q1, eq1, h⟩ := dt_bind h
  refine dz_callVi (pc := 2) (st := []) (k := 15) (As := [.ref (G.1 13 0)]) (M' := (dt_put (dt_put M 15 q1.2.1) 13 q1.2.2)) C Fc_X2 hk_15 mf_X2_build rfl ml_X2_64 (m_X2_build l _ _ _ eq1) rfl rfl (by omega) (by decide) (Nat.le_of_ble_eq_true rfl) dX2_count_2 ?_
  refine dz_istore_n (pc := 5) C dX2_count_5 rfl (by decide) rfl ?_
  refine dz_iload_n (pc := 6) C dX2_count_6 rfl 0 rfl ?_
  refine dz_if_eq (pc := 7) (t := 28) C dX2_count_7 (by decide) h (fun h => ?_) (fun h => ?_)
  · refine dz_sub [1, 2, 0] rfl ?_
    exact tX2_count_28 C hr  q1.1 q1.2.1 q1.2.2 h
  · refine dz_aload_n (pc := 10) C dX2_count_10 rfl 2 rfl ?_
    obtain ⟨q2, eq2, h⟩ := dt_bind h
    refine dz_callVv (pc := 11) (st := []) (k := 13) (As := []) (M' := (dt_put (dt_put M 15 q1.2.1) 13 q2)) C Fc_X5 hk_13 mf_X5_weigh rfl ml_X2_68 (m_X5_weigh l hk_13 _ _ eq2) rfl rfl (by omega) (by decide) (Nat.le_of_ble_eq_true rfl) dX2_count_11 ?_
    refine dz_aload_n (pc := 14) C dX2_count_14 rfl 2 rfl ?_
    obtain ⟨q3, eq3, h⟩ := dt_bind h
    refine dz_callVi (pc := 15) (st := []) (k := 13) (As := []) (M' := (dt_put (dt_put M 15 q1.2.1) 13 q2)) C Fc_X5 hk_13 mf_X5_overloaded rfl ml_X2_71 (m_X5_overloaded l hk_13 _ _ eq3) rfl rfl (by omega) (by decide) (Nat.le_of_ble_eq_true rfl) dX2_count_15 ?_
    refine dz_iconst (pc := 18) (v := (-1 : Int32)) C dX2_count_18 (by decide) ?_
    refine dz_icmp_ne (pc := 19) (t := 26) C dX2_count_19 (by decide) h (fun h => ?_) (fun h => ?_)
    · refine dz_iconst (pc := 26) (v := (0 : Int32)) C dX2_count_26 (by decide) ?_
      refine dz_sub [1, 2] rfl ?_
      exact tX2_count_27 C hr  (0 : Int32) q1.2.1 q2 h
    · refine dz_iconst (pc := 22) (v := (1 : Int32)) C dX2_count_22 (by decide) ?_
      refine dz_goto (pc := 23) (t := 27) C dX2_count_23 (by decide) ?_
      refine dz_sub [1, 2] rfl ?_
      exact tX2_count_27 C hr  (1 : Int32) q1.2.1 q2 h

def fX2_search_14 (rc : Int32 → dt_Ob → dt_Ob → Option (dt_Ob × dt_Ob))  (P : dt_Ob) (T : dt_Ob) : Option (dt_Ob × dt_Ob) := ((fX2_count P T).bind fun q8 => (some (q8.1, q8.2)))
set_option maxRecDepth 10000 in
set_option maxHeartbeats 4000000 in
theorem tX2_search_14 {nb : Nat} {G : dt_G} {A : Nat → Prop} {p : Program} {l : Launch} {e : Env} {s : State} {m : MethodId} {args : Array Value} {below : List Frame} {meth : Method} {c : Code} (C : dt_Cx nb G A p s m args meth c cX2_search 5 RX2) (hr : meth.sig.returnType = none) {M : dt_M} {hN : Nat} (hGB : 5 ≤ hN) {rc : Int32 → dt_Ob → dt_Ob → Option (dt_Ob × dt_Ob)} (hrc : ∀ (M : dt_M) (P : dt_Ob) (T : dt_Ob) (x2 : Int32) {res : dt_Ob × dt_Ob}, rc x2 P T = some res → dt_Met nb l yX2_search cX2_search 5 none hN (fun G => [.ref (G.1 15 0), .ref (G.1 13 0), .int x2]) (dt_put (dt_put M 15 P) 13 T) none (dt_put (dt_put M 15 res.1) 13 res.2)) {res : dt_Ob × dt_Ob}  : ∀ (P : dt_Ob) (T : dt_Ob), fX2_search_14 rc P T = some res → dt_At G A p l e (dt_rm (hN + 1)) s m args below meth c 5 (MQ below (dt_Post G A none (dt_put (dt_put M 15 res.1) 13 res.2)) args s 0 0 A) 14 [(0, .ref (G.1 15 0)), (1, .ref (G.1 13 0))] [] (dt_put (dt_put M 15 P) 13 T) := by
  intro P T h
  unfold fX2_search_14 at h
  refine dz_aload_n (pc := 14) C dX2_search_14 rfl 0 rfl ?_
  refine dz_aload_n (pc := 15) C dX2_search_15 rfl 1 rfl ?_
  obtain ⟨q8, eq8, h⟩ := dt_bind h
  refine dz_callVv (pc := 16) (st := []) (k := 15) (As := [.ref (G.1 13 0)]) (M' := (dt_put (dt_put M 15 q8.1) 13 q8.2)) C Fc_X2 hk_15 mf_X2_count rfl ml_X2_51 (m_X2_count l _ _ _ eq8) rfl rfl (by omega) (by decide) (Nat.le_of_ble_eq_true rfl) dX2_search_16 ?_
  cases dt_some h
  exact dz_vret (pc := 19) C hr dX2_search_19
def fX2_search_112 (rc : Int32 → dt_Ob → dt_Ob → Option (dt_Ob × dt_Ob)) (r22 : Int32 → Int32 → dt_Ob → dt_Ob → Option (dt_Ob × dt_Ob)) (x2 : Int32) (x3 : Int32) (P : dt_Ob) (T : dt_Ob) : Option (dt_Ob × dt_Ob) := (r22 x2 (x3 + (1 : Int32)) P T)
set_option maxRecDepth 10000 in
set_option maxHeartbeats 4000000 in
theorem tX2_search_112 {nb : Nat} {G : dt_G} {A : Nat → Prop} {p : Program} {l : Launch} {e : Env} {s : State} {m : MethodId} {args : Array Value} {below : List Frame} {meth : Method} {c : Code} (C : dt_Cx nb G A p s m args meth c cX2_search 5 RX2) (hr : meth.sig.returnType = none) {M : dt_M} {hN : Nat} (hGB : 5 ≤ hN) {rc : Int32 → dt_Ob → dt_Ob → Option (dt_Ob × dt_Ob)} (hrc : ∀ (M : dt_M) (P : dt_Ob) (T : dt_Ob) (x2 : Int32) {res : dt_Ob × dt_Ob}, rc x2 P T = some res → dt_Met nb l yX2_search cX2_search 5 none hN (fun G => [.ref (G.1 15 0), .ref (G.1 13 0), .int x2]) (dt_put (dt_put M 15 P) 13 T) none (dt_put (dt_put M 15 res.1) 13 res.2)) {res : dt_Ob × dt_Ob} {r22 : Int32 → Int32 → dt_Ob → dt_Ob → Option (dt_Ob × dt_Ob)} (hr22 : ∀ (x2 : Int32) (x3 : Int32) (P : dt_Ob) (T : dt_Ob), r22 x2 x3 P T = some res → dt_At G A p l e (dt_rm (hN + 1)) s m args below meth c 5 (MQ below (dt_Post G A none (dt_put (dt_put M 15 res.1) 13 res.2)) args s 0 0 A) 22 [(0, .ref (G.1 15 0)), (1, .ref (G.1 13 0)), (2, .int x2), (3, .int x3)] [] (dt_put (dt_put M 15 P) 13 T)) : ∀ (x2 : Int32) (x3 : Int32) (P : dt_Ob) (T : dt_Ob), fX2_search_112 rc r22 x2 x3 P T = some res → dt_At G A p l e (dt_rm (hN + 1)) s m args below meth c 5 (MQ below (dt_Post G A none (dt_put (dt_put M 15 res.1) 13 res.2)) args s 0 0 A) 112 [(0, .ref (G.1 15 0)), (1, .ref (G.1 13 0)), (2, .int x2), (3, .int x3)] [] (dt_put (dt_put M 15 P) 13 T) := by
  intro x2 x3 P T h
  unfold fX2_search_112 at h
  refine dz_iinc (pc := 112) (v := (x3 + (1 : Int32))) C dX2_search_112 3 rfl rfl (by decide) rfl ?_
  refine dz_goto (pc := 115) (t := 22) C dX2_search_115 (by decide) ?_
  refine dz_sub [1, 2, 3, 0] rfl ?_
  exact hr22 x2 (x3 + (1 : Int32)) P T h
def fX2_search_22 (rc : Int32 → dt_Ob → dt_Ob → Option (dt_Ob × dt_Ob))  : Nat → Int32 → Int32 → dt_Ob → dt_Ob → Option (dt_Ob × dt_Ob)
  | 0, _, _, _, _ => none
  | n + 1, x2, x3, P, T => ((dt_ix x2 6).bind fun a1 => ((dt_ix ((P 0) a1) 20).bind fun a2 => (if ((T 0 0) - ((T 2) a2)) < x3 then (some (P, T)) else ((dt_ix x2 6).bind fun a3 => (if ((((P 3) a3) - (10 : Int32)) - x3) < 0 then (fX2_search_112 rc (fX2_search_22 rc n) x2 x3 P T) else (if (((((P 3) a3) - (10 : Int32)) - x3) - ((((P 3) a3) - (10 : Int32)) - x3) / (2 : Int32) * (2 : Int32)) = 0 then (if (P 6 0) ≤ (((((P 3) a3) - (10 : Int32)) - x3) / (2 : Int32)) then (fX2_search_112 rc (fX2_search_22 rc n) x2 x3 P T) else ((dt_ix x2 6).bind fun a4 => ((dt_ix x2 6).bind fun a5 => ((fX2_isTaken x2 (dt_set (dt_set P 1 a4 x3) 2 a5 (((((P 3) a3) - (10 : Int32)) - x3) / (2 : Int32))) T).bind fun q6 => (if q6 = 0 then ((rc (x2 + (1 : Int32)) (dt_set (dt_set P 1 a4 x3) 2 a5 (((((P 3) a3) - (10 : Int32)) - x3) / (2 : Int32))) T).bind fun q7 => (fX2_search_112 rc (fX2_search_22 rc n) x2 x3 q7.1 q7.2)) else (fX2_search_112 rc (fX2_search_22 rc n) x2 x3 (dt_set (dt_set P 1 a4 x3) 2 a5 (((((P 3) a3) - (10 : Int32)) - x3) / (2 : Int32))) T)))))) else (fX2_search_112 rc (fX2_search_22 rc n) x2 x3 P T)))))))
set_option maxRecDepth 10000 in
set_option maxHeartbeats 4000000 in
theorem tX2_search_22 {nb : Nat} {G : dt_G} {A : Nat → Prop} {p : Program} {l : Launch} {e : Env} {s : State} {m : MethodId} {args : Array Value} {below : List Frame} {meth : Method} {c : Code} (C : dt_Cx nb G A p s m args meth c cX2_search 5 RX2) (hr : meth.sig.returnType = none) {M : dt_M} {hN : Nat} (hGB : 5 ≤ hN) {rc : Int32 → dt_Ob → dt_Ob → Option (dt_Ob × dt_Ob)} (hrc : ∀ (M : dt_M) (P : dt_Ob) (T : dt_Ob) (x2 : Int32) {res : dt_Ob × dt_Ob}, rc x2 P T = some res → dt_Met nb l yX2_search cX2_search 5 none hN (fun G => [.ref (G.1 15 0), .ref (G.1 13 0), .int x2]) (dt_put (dt_put M 15 P) 13 T) none (dt_put (dt_put M 15 res.1) 13 res.2)) {res : dt_Ob × dt_Ob}  : ∀ (n : Nat) (x2 : Int32) (x3 : Int32) (P : dt_Ob) (T : dt_Ob), fX2_search_22 rc n x2 x3 P T = some res → dt_At G A p l e (dt_rm (hN + 1)) s m args below meth c 5 (MQ below (dt_Post G A none (dt_put (dt_put M 15 res.1) 13 res.2)) args s 0 0 A) 22 [(0, .ref (G.1 15 0)), (1, .ref (G.1 13 0)), (2, .int x2), (3, .int x3)] [] (dt_put (dt_put M 15 P) 13 T) := by
  intro n
  induction n with
  | zero =>
    intro x2 x3 P T h
    unfold fX2_search_22 at h
    cases h
  | succ n ih =>
    intro x2 x3 P T h
    unfold fX2_search_22 at h
    refine dz_iload_n (pc := 22) C dX2_search_22 rfl 3 rfl ?_
    refine dz_aload_n (pc := 23) C dX2_search_23 rfl 1 rfl ?_
    refine dz_getI (pc := 24) (k := 13) (j := 0) (v := (T 0 0)) C Fc_X5 hk_13 (by decide) rfl rfl fl_X2_54 rfl dX2_search_24 ?_
    refine dz_aload_n (pc := 27) C dX2_search_27 rfl 1 rfl ?_
    refine dz_getR (pc := 28) (k := 13) (j := 2) C Fc_X5 hk_13 (by decide) (by decide) rfl fl_X2_57 dX2_search_28 ?_
    refine dz_aload_n (pc := 31) C dX2_search_31 rfl 0 rfl ?_
    refine dz_getR (pc := 32) (k := 15) (j := 0) C Fc_X2 hk_15 (by decide) (by decide) rfl fl_X2_9 dX2_search_32 ?_
    refine dz_iload_n (pc := 35) C dX2_search_35 rfl 2 rfl ?_
    refine dz_iald (pc := 36) (k := 15) (j := 0) (n := 6) (f := (P 0)) C hk_15 (by decide) rfl rfl dX2_search_36 h (fun a1 h => ?_)
    refine dz_iald (pc := 37) (k := 13) (j := 2) (n := 20) (f := (T 2)) C hk_13 (by decide) rfl rfl dX2_search_37 h (fun a2 h => ?_)
    refine dz_isub (pc := 38) C dX2_search_38 ?_
    refine dz_icmp_gt (pc := 39) (t := 118) C dX2_search_39 (by decide) h (fun h => ?_) (fun h => ?_)
    · cases dt_some h
      exact dz_vret (pc := 118) C hr dX2_search_118
    · refine dz_aload_n (pc := 42) C dX2_search_42 rfl 0 rfl ?_
      refine dz_getR (pc := 43) (k := 15) (j := 3) C Fc_X2 hk_15 (by decide) (by decide) rfl fl_X2_21 dX2_search_43 ?_
      refine dz_iload_n (pc := 46) C dX2_search_46 rfl 2 rfl ?_
      refine dz_iald (pc := 47) (k := 15) (j := 3) (n := 6) (f := (P 3)) C hk_15 (by decide) rfl rfl dX2_search_47 h (fun a3 h => ?_)
      refine dz_bipush (pc := 48) (v := (10 : Int32)) C dX2_search_48 (by decide) ?_
      refine dz_isub (pc := 50) C dX2_search_50 ?_
      refine dz_iload_n (pc := 51) C dX2_search_51 rfl 3 rfl ?_
      refine dz_isub (pc := 52) C dX2_search_52 ?_
      refine dz_istore (pc := 53) C dX2_search_53 (by decide) rfl ?_
      refine dz_iload (pc := 55) C dX2_search_55 0 rfl ?_
      refine dz_if_lt (pc := 57) (t := 112) C dX2_search_57 (by decide) h (fun h => ?_) (fun h => ?_)
      · refine dz_sub [1, 2, 3, 4] rfl ?_
        exact tX2_search_112 C hr hGB hrc ih x2 x3 P T h
      · refine dz_iload (pc := 60) C dX2_search_60 0 rfl ?_
        refine dz_iconst (pc := 62) (v := (2 : Int32)) C dX2_search_62 (by decide) ?_
        refine dz_iremc (pc := 63) C dX2_search_63 (by decide) ?_
        refine dz_if_ne (pc := 64) (t := 112) C dX2_search_64 (by decide) h (fun h => ?_) (fun h => ?_)
        · refine dz_sub [1, 2, 3, 4] rfl ?_
          exact tX2_search_112 C hr hGB hrc ih x2 x3 P T h
        · refine dz_iload (pc := 67) C dX2_search_67 0 rfl ?_
          refine dz_iconst (pc := 69) (v := (2 : Int32)) C dX2_search_69 (by decide) ?_
          refine dz_idivc (pc := 70) C dX2_search_70 (by decide) ?_
          refine dz_aload_n (pc := 71) C dX2_search_71 rfl 1 rfl ?_
          refine dz_getI (pc := 72) (k := 15) (j := 6) (v := (P 6 0)) C Fc_X2 hk_15 (by decide) rfl rfl fl_X2_30 rfl dX2_search_72 ?_
          refine dz_icmp_ge (pc := 75) (t := 112) C dX2_search_75 (by decide) h (fun h => ?_) (fun h => ?_)
          · refine dz_sub [1, 2, 3, 4] rfl ?_
            exact tX2_search_112 C hr hGB hrc ih x2 x3 P T h
          · refine dz_aload_n (pc := 78) C dX2_search_78 rfl 1 rfl ?_
            refine dz_getR (pc := 79) (k := 15) (j := 1) C Fc_X2 hk_15 (by decide) (by decide) rfl fl_X2_15 dX2_search_79 ?_
            refine dz_iload_n (pc := 82) C dX2_search_82 rfl 3 rfl ?_
            refine dz_iload_n (pc := 83) C dX2_search_83 rfl 4 rfl ?_
            refine dz_iast (pc := 84) (k := 15) (j := 1) (n := 6) (M' := fun a4 => (dt_put (dt_put M 15 (dt_set P 1 a4 x3)) 13 T)) C hk_15 (by decide) rfl (fun a4 => (dt_wB _ (by decide) _ _ _ _ _)) dX2_search_84 h (fun a4 h => ?_)
            refine dz_aload_n (pc := 85) C dX2_search_85 rfl 1 rfl ?_
            refine dz_getR (pc := 86) (k := 15) (j := 2) C Fc_X2 hk_15 (by decide) (by decide) rfl fl_X2_18 dX2_search_86 ?_
            refine dz_iload_n (pc := 89) C dX2_search_89 rfl 3 rfl ?_
            refine dz_iload (pc := 90) C dX2_search_90 0 rfl ?_
            refine dz_iconst (pc := 92) (v := (2 : Int32)) C dX2_search_92 (by decide) ?_
            refine dz_idivc (pc := 93) C dX2_search_93 (by decide) ?_
            refine dz_iast (pc := 94) (k := 15) (j := 2) (n := 6) (M' := fun a5 => (dt_put (dt_put M 15 (dt_set (dt_set P 1 a4 x3) 2 a5 (((((P 3) a3) - (10 : Int32)) - x3) / (2 : Int32)))) 13 T)) C hk_15 (by decide) rfl (fun a5 => (dt_wB _ (by decide) _ _ _ _ _)) dX2_search_94 h (fun a5 h => ?_)
            refine dz_aload_n (pc := 95) C dX2_search_95 rfl 1 rfl ?_
            refine dz_aload_n (pc := 96) C dX2_search_96 rfl 2 rfl ?_
            refine dz_iload_n (pc := 97) C dX2_search_97 rfl 3 rfl ?_
            obtain ⟨q6, eq6, h⟩ := dt_bind h
            refine dz_callVi (pc := 98) (st := []) (k := 15) (As := [.ref (G.1 13 0), .int x2]) (M' := (dt_put (dt_put M 15 (dt_set (dt_set P 1 a4 x3) 2 a5 (((((P 3) a3) - (10 : Int32)) - x3) / (2 : Int32)))) 13 T)) C Fc_X2 hk_15 mf_X2_isTaken rfl ml_X2_60 (m_X2_isTaken l _ _ _ _ eq6) rfl rfl (by omega) (by decide) (Nat.le_of_ble_eq_true rfl) dX2_search_98 ?_
            refine dz_if_ne (pc := 101) (t := 112) C dX2_search_101 (by decide) h (fun h => ?_) (fun h => ?_)
            · refine dz_sub [1, 2, 3, 4] rfl ?_
              exact tX2_search_112 C hr hGB hrc ih x2 x3 (dt_set (dt_set P 1 a4 x3) 2 a5 (((((P 3) a3) - (10 : Int32)) - x3) / (2 : Int32))) T h
            · refine dz_aload_n (pc := 104) C dX2_search_104 rfl 1 rfl ?_
              refine dz_aload_n (pc := 105) C dX2_search_105 rfl 2 rfl ?_
              refine dz_iload_n (pc := 106) C dX2_search_106 rfl 3 rfl ?_
              refine dz_iconst (pc := 107) (v := (1 : Int32)) C dX2_search_107 (by decide) ?_
              refine dz_iadd (pc := 108) C dX2_search_108 ?_
              obtain ⟨q7, eq7, h⟩ := dt_bind h
              refine dz_callVv (pc := 109) (st := []) (k := 15) (As := [.ref (G.1 13 0), .int (x2 + (1 : Int32))]) (M' := (dt_put (dt_put M 15 q7.1) 13 q7.2)) C Fc_X2 hk_15 mf_X2_search rfl ml_X2_43 (hrc _ _ _ _ eq7) rfl rfl (by omega) (by decide) (Nat.le_of_ble_eq_true rfl) dX2_search_109 ?_
              refine dz_sub [1, 2, 3, 4] rfl ?_
              exact tX2_search_112 C hr hGB hrc ih x2 x3 q7.1 q7.2 h
def fX2_search_b (rc : Int32 → dt_Ob → dt_Ob → Option (dt_Ob × dt_Ob))  (x2 : Int32) (P : dt_Ob) (T : dt_Ob) : Option (dt_Ob × dt_Ob) := (if (P 6 0) ≤ x2 then (fX2_search_14 rc P T) else (if x2 < (6 : Int32) then (fX2_search_22 rc dt_F x2 (0 : Int32) P T) else (fX2_search_14 rc P T)))
def fX2_search  : Nat → Int32 → dt_Ob → dt_Ob → Option (dt_Ob × dt_Ob)
  | 0, _, _, _ => none
  | n + 1, x2, P, T => fX2_search_b (fX2_search n) x2 P T
set_option maxRecDepth 10000 in
set_option maxHeartbeats 4000000 in
theorem m_X2_search_b {nb : Nat} (l : Launch) {hN : Nat} (hGB : 5 ≤ hN) {rc : Int32 → dt_Ob → dt_Ob → Option (dt_Ob × dt_Ob)} (hrc : ∀ (M : dt_M) (P : dt_Ob) (T : dt_Ob) (x2 : Int32) {res : dt_Ob × dt_Ob}, rc x2 P T = some res → dt_Met nb l yX2_search cX2_search 5 none hN (fun G => [.ref (G.1 15 0), .ref (G.1 13 0), .int x2]) (dt_put (dt_put M 15 P) 13 T) none (dt_put (dt_put M 15 res.1) 13 res.2)) (M : dt_M) (P : dt_Ob) (T : dt_Ob) (x2 : Int32) {res : dt_Ob × dt_Ob} (h : fX2_search_b rc x2 P T = some res) : dt_Met nb l yX2_search cX2_search 5 none (hN + 1) (fun G => [.ref (G.1 15 0), .ref (G.1 13 0), .int x2]) (dt_put (dt_put M 15 P) 13 T) none (dt_put (dt_put M 15 res.1) 13 res.2) := by
  refine dz_enter (lv := fun G => [(0, .ref (G.1 15 0)), (1, .ref (G.1 13 0)), (2, .int x2)]) (by decide) (fun _ => rfl) (fun _ => Nat.le_of_ble_eq_true rfl) (fun G A p e s m args below meth c C hr => ?_)
  unfold fX2_search_b at h
  refine dz_iload_n (pc := 0) C dX2_search_0 rfl 2 rfl ?_
  refine dz_aload_n (pc := 1) C dX2_search_1 rfl 0 rfl ?_
  refine dz_getI (pc := 2) (k := 15) (j := 6) (v := (P 6 0)) C Fc_X2 hk_15 (by decide) rfl rfl fl_X2_30 rfl dX2_search_2 ?_
  refine dz_icmp_ge (pc := 5) (t := 14) C dX2_search_5 (by decide) h (fun h => ?_) (fun h => ?_)
  · refine dz_sub [0, 1] rfl ?_
    exact tX2_search_14 C hr hGB hrc  P T h
  · refine dz_iload_n (pc := 8) C dX2_search_8 rfl 2 rfl ?_
    refine dz_bipush (pc := 9) (v := (6 : Int32)) C dX2_search_9 (by decide) ?_
    refine dz_icmp_lt (pc := 11) (t := 20) C dX2_search_11 (by decide) h (fun h => ?_) (fun h => ?_)
    · refine dz_iconst (pc := 20) (v := (0 : Int32)) C dX2_search_20 (by decide) ?_
      refine dz_istore_n (pc := 21) C dX2_search_21 rfl (by decide) rfl ?_
      refine dz_sub [1, 2, 3, 0] rfl ?_
      exact tX2_search_22 C hr hGB hrc dt_F x2 (0 : Int32) P T h
    · refine dz_sub [0, 1] rfl ?_
      exact tX2_search_14 C hr hGB hrc  P T h
theorem m_X2_search_n {nb : Nat} (l : Launch) : ∀ (n : Nat) (M : dt_M) (P : dt_Ob) (T : dt_Ob) (x2 : Int32) {res : dt_Ob × dt_Ob}, fX2_search n x2 P T = some res → dt_Met nb l yX2_search cX2_search 5 none (5 + 1 * n) (fun G => [.ref (G.1 15 0), .ref (G.1 13 0), .int x2]) (dt_put (dt_put M 15 P) 13 T) none (dt_put (dt_put M 15 res.1) 13 res.2) := by
  intro n
  induction n with
  | zero =>
    intro M P T x2 res h
    unfold fX2_search at h
    cases h
  | succ n ih =>
    intro M P T x2 res h
    unfold fX2_search at h
    have e0 : 5 + 1 * (n + 1) = 5 + 1 * n + 1 := by omega
    rw [e0]
    exact m_X2_search_b l  (by omega) (fun M P T x2 _ h => ih M P T x2 h) M P T x2 h
theorem m_X2_search {nb : Nat} (l : Launch) (M : dt_M) (n : Nat) (P : dt_Ob) (T : dt_Ob) (x2 : Int32) {res : dt_Ob × dt_Ob} (h : fX2_search n x2 P T = some res) : dt_Met nb l yX2_search cX2_search 5 none (5 + 1 * n) (fun G => [.ref (G.1 15 0), .ref (G.1 13 0), .int x2]) (dt_put (dt_put M 15 P) 13 T) none (dt_put (dt_put M 15 res.1) 13 res.2) := m_X2_search_n l  n M P T x2 h

def fX2_seek_72 (r12 : Int32 → Int32 → dt_Ob → dt_Ob → Option (dt_Ob × dt_Ob)) (x2 : Int32) (x3 : Int32) (P : dt_Ob) (T : dt_Ob) : Option (dt_Ob × dt_Ob) := (r12 x2 (x3 + (1 : Int32)) P T)
set_option maxRecDepth 10000 in
set_option maxHeartbeats 4000000 in
theorem tX2_seek_72 {nb : Nat} {G : dt_G} {A : Nat → Prop} {p : Program} {l : Launch} {e : Env} {s : State} {m : MethodId} {args : Array Value} {below : List Frame} {meth : Method} {c : Code} (C : dt_Cx nb G A p s m args meth c cX2_seek 4 RX2) (hr : meth.sig.returnType = none) {M : dt_M} {res : dt_Ob × dt_Ob} {r12 : Int32 → Int32 → dt_Ob → dt_Ob → Option (dt_Ob × dt_Ob)} (hr12 : ∀ (x2 : Int32) (x3 : Int32) (P : dt_Ob) (T : dt_Ob), r12 x2 x3 P T = some res → dt_At G A p l e (dt_rm 30) s m args below meth c 4 (MQ below (dt_Post G A none (dt_put (dt_put M 15 res.1) 13 res.2)) args s 0 0 A) 12 [(0, .ref (G.1 15 0)), (1, .ref (G.1 13 0)), (2, .int x2), (3, .int x3)] [] (dt_put (dt_put M 15 P) 13 T)) : ∀ (x2 : Int32) (x3 : Int32) (P : dt_Ob) (T : dt_Ob), fX2_seek_72 r12 x2 x3 P T = some res → dt_At G A p l e (dt_rm 30) s m args below meth c 4 (MQ below (dt_Post G A none (dt_put (dt_put M 15 res.1) 13 res.2)) args s 0 0 A) 72 [(0, .ref (G.1 15 0)), (1, .ref (G.1 13 0)), (2, .int x2), (3, .int x3)] [] (dt_put (dt_put M 15 P) 13 T) := by
  intro x2 x3 P T h
  unfold fX2_seek_72 at h
  refine dz_iinc (pc := 72) (v := (x3 + (1 : Int32))) C dX2_seek_72 3 rfl rfl (by decide) rfl ?_
  refine dz_goto (pc := 75) (t := 12) C dX2_seek_75 (by decide) ?_
  refine dz_sub [1, 2, 3, 0] rfl ?_
  exact hr12 x2 (x3 + (1 : Int32)) P T h
def fX2_seek_12  : Nat → Int32 → Int32 → dt_Ob → dt_Ob → Option (dt_Ob × dt_Ob)
  | 0, _, _, _, _ => none
  | n + 1, x2, x3, P, T => (if (T 1 0) ≤ x3 then ((fX2_search 24 (0 : Int32) P T).bind fun q1 => (some (q1.1, q1.2))) else (if (x2 &&& ((1 : Int32) <<< (x3 &&& 31))) = 0 then (fX2_seek_72 (fX2_seek_12 n) x2 x3 P T) else (if (6 : Int32) ≤ (P 6 0) then (fX2_seek_72 (fX2_seek_12 n) x2 x3 P T) else ((dt_ix (P 6 0) 6).bind fun a2 => ((dt_ix x3 20).bind fun a3 => ((dt_ix (P 6 0) 6).bind fun a4 => (fX2_seek_72 (fX2_seek_12 n) x2 x3 (dt_set (dt_set (dt_set P 0 a2 x3) 3 a4 ((T 6) a3)) 6 0 ((P 6 0) + (1 : Int32))) T)))))))
set_option maxRecDepth 10000 in
set_option maxHeartbeats 4000000 in
theorem tX2_seek_12 {nb : Nat} {G : dt_G} {A : Nat → Prop} {p : Program} {l : Launch} {e : Env} {s : State} {m : MethodId} {args : Array Value} {below : List Frame} {meth : Method} {c : Code} (C : dt_Cx nb G A p s m args meth c cX2_seek 4 RX2) (hr : meth.sig.returnType = none) {M : dt_M} {res : dt_Ob × dt_Ob}  : ∀ (n : Nat) (x2 : Int32) (x3 : Int32) (P : dt_Ob) (T : dt_Ob), fX2_seek_12 n x2 x3 P T = some res → dt_At G A p l e (dt_rm 30) s m args below meth c 4 (MQ below (dt_Post G A none (dt_put (dt_put M 15 res.1) 13 res.2)) args s 0 0 A) 12 [(0, .ref (G.1 15 0)), (1, .ref (G.1 13 0)), (2, .int x2), (3, .int x3)] [] (dt_put (dt_put M 15 P) 13 T) := by
  intro n
  induction n with
  | zero =>
    intro x2 x3 P T h
    unfold fX2_seek_12 at h
    cases h
  | succ n ih =>
    intro x2 x3 P T h
    unfold fX2_seek_12 at h
    refine dz_iload_n (pc := 12) C dX2_seek_12 rfl 3 rfl ?_
    refine dz_aload_n (pc := 13) C dX2_seek_13 rfl 1 rfl ?_
    refine dz_getI (pc := 14) (k := 13) (j := 1) (v := (T 1 0)) C Fc_X5 hk_13 (by decide) rfl rfl fl_X2_37 rfl dX2_seek_14 ?_
    refine dz_icmp_ge (pc := 17) (t := 78) C dX2_seek_17 (by decide) h (fun h => ?_) (fun h => ?_)
    · refine dz_aload_n (pc := 78) C dX2_seek_78 rfl 0 rfl ?_
      refine dz_aload_n (pc := 79) C dX2_seek_79 rfl 1 rfl ?_
      refine dz_iconst (pc := 80) (v := (0 : Int32)) C dX2_seek_80 (by decide) ?_
      obtain ⟨q1, eq1, h⟩ := dt_bind h
      refine dz_callVv (pc := 81) (st := []) (k := 15) (As := [.ref (G.1 13 0), .int (0 : Int32)]) (M' := (dt_put (dt_put M 15 q1.1) 13 q1.2)) C Fc_X2 hk_15 mf_X2_search rfl ml_X2_43 (m_X2_search l _ 24 _ _ _ eq1) rfl rfl (by omega) (by decide) (Nat.le_of_ble_eq_true rfl) dX2_seek_81 ?_
      cases dt_some h
      exact dz_vret (pc := 84) C hr dX2_seek_84
    · refine dz_iload_n (pc := 20) C dX2_seek_20 rfl 2 rfl ?_
      refine dz_iconst (pc := 21) (v := (1 : Int32)) C dX2_seek_21 (by decide) ?_
      refine dz_iload_n (pc := 22) C dX2_seek_22 rfl 3 rfl ?_
      refine dz_ishl (pc := 23) C dX2_seek_23 ?_
      refine dz_iand (pc := 24) C dX2_seek_24 ?_
      refine dz_if_eq (pc := 25) (t := 72) C dX2_seek_25 (by decide) h (fun h => ?_) (fun h => ?_)
      · exact tX2_seek_72 C hr ih x2 x3 P T h
      · refine dz_aload_n (pc := 28) C dX2_seek_28 rfl 0 rfl ?_
        refine dz_getI (pc := 29) (k := 15) (j := 6) (v := (P 6 0)) C Fc_X2 hk_15 (by decide) rfl rfl fl_X2_30 rfl dX2_seek_29 ?_
        refine dz_bipush (pc := 32) (v := (6 : Int32)) C dX2_seek_32 (by decide) ?_
        refine dz_icmp_ge (pc := 34) (t := 72) C dX2_seek_34 (by decide) h (fun h => ?_) (fun h => ?_)
        · exact tX2_seek_72 C hr ih x2 x3 P T h
        · refine dz_aload_n (pc := 37) C dX2_seek_37 rfl 0 rfl ?_
          refine dz_getR (pc := 38) (k := 15) (j := 0) C Fc_X2 hk_15 (by decide) (by decide) rfl fl_X2_9 dX2_seek_38 ?_
          refine dz_aload_n (pc := 41) C dX2_seek_41 rfl 0 rfl ?_
          refine dz_getI (pc := 42) (k := 15) (j := 6) (v := (P 6 0)) C Fc_X2 hk_15 (by decide) rfl rfl fl_X2_30 rfl dX2_seek_42 ?_
          refine dz_iload_n (pc := 45) C dX2_seek_45 rfl 3 rfl ?_
          refine dz_iast (pc := 46) (k := 15) (j := 0) (n := 6) (M' := fun a2 => (dt_put (dt_put M 15 (dt_set P 0 a2 x3)) 13 T)) C hk_15 (by decide) rfl (fun a2 => (dt_wB _ (by decide) _ _ _ _ _)) dX2_seek_46 h (fun a2 h => ?_)
          refine dz_aload_n (pc := 47) C dX2_seek_47 rfl 0 rfl ?_
          refine dz_getR (pc := 48) (k := 15) (j := 3) C Fc_X2 hk_15 (by decide) (by decide) rfl fl_X2_21 dX2_seek_48 ?_
          refine dz_aload_n (pc := 51) C dX2_seek_51 rfl 0 rfl ?_
          refine dz_getI (pc := 52) (k := 15) (j := 6) (v := (P 6 0)) C Fc_X2 hk_15 (by decide) rfl rfl fl_X2_30 rfl dX2_seek_52 ?_
          refine dz_aload_n (pc := 55) C dX2_seek_55 rfl 1 rfl ?_
          refine dz_getR (pc := 56) (k := 13) (j := 6) C Fc_X5 hk_13 (by decide) (by decide) rfl fl_X2_42 dX2_seek_56 ?_
          refine dz_iload_n (pc := 59) C dX2_seek_59 rfl 3 rfl ?_
          refine dz_iald (pc := 60) (k := 13) (j := 6) (n := 20) (f := (T 6)) C hk_13 (by decide) rfl rfl dX2_seek_60 h (fun a3 h => ?_)
          refine dz_iast (pc := 61) (k := 15) (j := 3) (n := 6) (M' := fun a4 => (dt_put (dt_put M 15 (dt_set (dt_set P 0 a2 x3) 3 a4 ((T 6) a3))) 13 T)) C hk_15 (by decide) rfl (fun a4 => (dt_wB _ (by decide) _ _ _ _ _)) dX2_seek_61 h (fun a4 h => ?_)
          refine dz_aload_n (pc := 62) C dX2_seek_62 rfl 0 rfl ?_
          refine dz_dup (pc := 63) C dX2_seek_63 rfl ?_
          refine dz_getI (pc := 64) (k := 15) (j := 6) (v := (P 6 0)) C Fc_X2 hk_15 (by decide) rfl rfl fl_X2_30 rfl dX2_seek_64 ?_
          refine dz_iconst (pc := 67) (v := (1 : Int32)) C dX2_seek_67 (by decide) ?_
          refine dz_iadd (pc := 68) C dX2_seek_68 ?_
          refine dz_putI (pc := 69) (k := 15) (j := 6) (M' := (dt_put (dt_put M 15 (dt_set (dt_set (dt_set P 0 a2 x3) 3 a4 ((T 6) a3)) 6 0 ((P 6 0) + (1 : Int32)))) 13 T)) C Fc_X2 hk_15 (by decide) rfl rfl rfl rfl fl_X2_30 (dt_wB _ (by decide) _ _ _ _ _) dX2_seek_69 ?_
          exact tX2_seek_72 C hr ih x2 x3 (dt_set (dt_set (dt_set P 0 a2 x3) 3 a4 ((T 6) a3)) 6 0 ((P 6 0) + (1 : Int32))) T h
def fX2_seek  (x2 : Int32) (P : dt_Ob) (T : dt_Ob) : Option (dt_Ob × dt_Ob) := (fX2_seek_12 dt_F x2 (0 : Int32) (dt_set (dt_set P 6 0 (0 : Int32)) 7 0 (0 : Int32)) T)
set_option maxRecDepth 10000 in
set_option maxHeartbeats 4000000 in
theorem m_X2_seek {nb : Nat} (l : Launch)  (M : dt_M) (P : dt_Ob) (T : dt_Ob)  (x2 : Int32) {res : dt_Ob × dt_Ob} (h : fX2_seek x2 P T = some res) : dt_Met nb l yX2_seek cX2_seek 4 none 30 (fun G => [.ref (G.1 15 0), .ref (G.1 13 0), .int x2]) (dt_put (dt_put M 15 P) 13 T) none (dt_put (dt_put M 15 res.1) 13 res.2) := by
  refine dz_enter (lv := fun G => [(0, .ref (G.1 15 0)), (1, .ref (G.1 13 0)), (2, .int x2)]) (by decide) (fun _ => rfl) (fun _ => Nat.le_of_ble_eq_true rfl) (fun G A p e s m args below meth c C hr => ?_)
  unfold fX2_seek at h
  refine dz_aload_n (pc := 0) C dX2_seek_0 rfl 0 rfl ?_
  refine dz_iconst (pc := 1) (v := (0 : Int32)) C dX2_seek_1 (by decide) ?_
  refine dz_putI (pc := 2) (k := 15) (j := 6) (M' := (dt_put (dt_put M 15 (dt_set P 6 0 (0 : Int32))) 13 T)) C Fc_X2 hk_15 (by decide) rfl rfl rfl rfl fl_X2_30 (dt_wB _ (by decide) _ _ _ _ _) dX2_seek_2 ?_
  refine dz_aload_n (pc := 5) C dX2_seek_5 rfl 0 rfl ?_
  refine dz_iconst (pc := 6) (v := (0 : Int32)) C dX2_seek_6 (by decide) ?_
  refine dz_putI (pc := 7) (k := 15) (j := 7) (M' := (dt_put (dt_put M 15 (dt_set (dt_set P 6 0 (0 : Int32)) 7 0 (0 : Int32))) 13 T)) C Fc_X2 hk_15 (by decide) rfl rfl rfl rfl fl_X2_34 (dt_wB _ (by decide) _ _ _ _ _) dX2_seek_7 ?_
  refine dz_iconst (pc := 10) (v := (0 : Int32)) C dX2_seek_10 (by decide) ?_
  refine dz_istore_n (pc := 11) C dX2_seek_11 rfl (by decide) rfl ?_
  refine dz_sub [1, 2, 3, 0] rfl ?_
  exact tX2_seek_12 C hr dt_F x2 (0 : Int32) (dt_set (dt_set P 6 0 (0 : Int32)) 7 0 (0 : Int32)) T h
