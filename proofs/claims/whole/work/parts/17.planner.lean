/-! ===== lifted: 17.planner ===== -/
def fX9_costOf  (x0 : Int32) (x1 : Int32) (x2 : Int32) : Option (Int32) := (some ((if 0 ≤ ((x0 - (10 : Int32)) - x1) then ((x0 - (10 : Int32)) - x1) else 0 - ((x0 - (10 : Int32)) - x1)) + x2))
set_option maxRecDepth 10000 in
set_option maxHeartbeats 4000000 in
theorem m_X9_costOf {nb : Nat} (l : Launch)  (M : dt_M)   (x0 : Int32) (x1 : Int32) (x2 : Int32) {res : Int32} (h : fX9_costOf x0 x1 x2 = some res) : dt_Met nb l yX9_costOf cX9_costOf 3 (some .int) 1 (fun G => [.int x0, .int x1, .int x2]) M (some (.int res)) M := by
  refine dz_enter (lv := fun G => [(0, .int x0), (1, .int x1), (2, .int x2)]) (by decide) (fun _ => rfl) (fun _ => Nat.le_of_ble_eq_true rfl) (fun G A p e s m args below meth c C hr => ?_)
  unfold fX9_costOf at h
  refine dz_iload_n (pc := 0) C dX9_costOf_0 rfl 0 rfl ?_
  refine dz_bipush (pc := 1) (v := (10 : Int32)) C dX9_costOf_1 (by decide) ?_
  refine dz_isub (pc := 3) C dX9_costOf_3 ?_
  refine dz_iload_n (pc := 4) C dX9_costOf_4 rfl 1 rfl ?_
  refine dz_isub (pc := 5) C dX9_costOf_5 ?_
  refine dz_abs (pc := 6) C ml_X9_336 (by omega) (Nat.le_of_ble_eq_true rfl) dX9_costOf_6 ?_
  refine dz_iload_n (pc := 9) C dX9_costOf_9 rfl 2 rfl ?_
  refine dz_iadd (pc := 10) C dX9_costOf_10 ?_
  cases dt_some h
  exact dz_iret (pc := 11) C hr dX9_costOf_11

def fX9_isPlace  (x0 : Int32) : Option (Int32) := (if x0 < 0 then (some (0 : Int32)) else (if (60 : Int32) ≤ x0 then (some (0 : Int32)) else (some (1 : Int32))))
set_option maxRecDepth 10000 in
set_option maxHeartbeats 4000000 in
theorem m_X9_isPlace {nb : Nat} (l : Launch)  (M : dt_M)   (x0 : Int32) {res : Int32} (h : fX9_isPlace x0 = some res) : dt_Met nb l yX9_isPlace cX9_isPlace 1 (some .boolean) 1 (fun G => [.int x0]) M (some (.int res)) M := by
  refine dz_enter (lv := fun G => [(0, .int x0)]) (by decide) (fun _ => rfl) (fun _ => Nat.le_of_ble_eq_true rfl) (fun G A p e s m args below meth c C hr => ?_)
  unfold fX9_isPlace at h
  refine dz_iload_n (pc := 0) C dX9_isPlace_0 rfl 0 rfl ?_
  refine dz_if_lt (pc := 1) (t := 14) C dX9_isPlace_1 (by decide) h (fun h => ?_) (fun h => ?_)
  · refine dz_iconst (pc := 14) (v := (0 : Int32)) C dX9_isPlace_14 (by decide) ?_
    cases dt_some h
    exact dz_zret (pc := 15) C hr (Or.inl rfl) dX9_isPlace_15
  · refine dz_iload_n (pc := 4) C dX9_isPlace_4 rfl 0 rfl ?_
    refine dz_bipush (pc := 5) (v := (60 : Int32)) C dX9_isPlace_5 (by decide) ?_
    refine dz_icmp_ge (pc := 7) (t := 14) C dX9_isPlace_7 (by decide) h (fun h => ?_) (fun h => ?_)
    · refine dz_iconst (pc := 14) (v := (0 : Int32)) C dX9_isPlace_14 (by decide) ?_
      cases dt_some h
      exact dz_zret (pc := 15) C hr (Or.inl rfl) dX9_isPlace_15
    · refine dz_iconst (pc := 10) (v := (1 : Int32)) C dX9_isPlace_10 (by decide) ?_
      refine dz_goto (pc := 11) (t := 15) C dX9_isPlace_11 (by decide) ?_
      cases dt_some h
      exact dz_zret (pc := 15) C hr (Or.inr rfl) dX9_isPlace_15

def fX3_longestInYard_33 (r4 : Int32 → Int32 → dt_Ob → dt_Ob → Option (Int32)) (x1 : Int32) (x2 : Int32) (P : dt_Ob) (T : dt_Ob) : Option (Int32) := (r4 x1 (x2 + (1 : Int32)) P T)
set_option maxRecDepth 10000 in
set_option maxHeartbeats 4000000 in
theorem tX3_longestInYard_33 {nb : Nat} {G : dt_G} {A : Nat → Prop} {p : Program} {l : Launch} {e : Env} {s : State} {m : MethodId} {args : Array Value} {below : List Frame} {meth : Method} {c : Code} (C : dt_Cx nb G A p s m args meth c cX3_longestInYard 3 RX3) (hr : meth.sig.returnType = (some .int)) {M : dt_M} {res : Int32} {r4 : Int32 → Int32 → dt_Ob → dt_Ob → Option (Int32)} (hr4 : ∀ (x1 : Int32) (x2 : Int32) (P : dt_Ob) (T : dt_Ob), r4 x1 x2 P T = some res → dt_At G A p l e (dt_rm 1) s m args below meth c 3 (MQ below (dt_Post G A (some (.int res)) (dt_put (dt_put M 14 P) 13 T)) args s 0 0 A) 4 [(0, .ref (G.1 13 0)), (1, .int x1), (2, .int x2)] [] (dt_put (dt_put M 14 P) 13 T)) : ∀ (x1 : Int32) (x2 : Int32) (P : dt_Ob) (T : dt_Ob), fX3_longestInYard_33 r4 x1 x2 P T = some res → dt_At G A p l e (dt_rm 1) s m args below meth c 3 (MQ below (dt_Post G A (some (.int res)) (dt_put (dt_put M 14 P) 13 T)) args s 0 0 A) 33 [(0, .ref (G.1 13 0)), (1, .int x1), (2, .int x2)] [] (dt_put (dt_put M 14 P) 13 T) := by
  intro x1 x2 P T h
  unfold fX3_longestInYard_33 at h
  refine dz_iinc (pc := 33) (v := (x2 + (1 : Int32))) C dX3_longestInYard_33 2 rfl rfl (by decide) rfl ?_
  refine dz_goto (pc := 36) (t := 4) C dX3_longestInYard_36 (by decide) ?_
  refine dz_sub [1, 2, 0] rfl ?_
  exact hr4 x1 (x2 + (1 : Int32)) P T h
def fX3_longestInYard_4  : Nat → Int32 → Int32 → dt_Ob → dt_Ob → Option (Int32)
  | 0, _, _, _, _ => none
  | n + 1, x1, x2, P, T => (if (T 1 0) ≤ x2 then (some x1) else ((dt_ix x2 20).bind fun a1 => (if ((T 6) a1) = (-1 : Int32) then (fX3_longestInYard_33 (fX3_longestInYard_4 n) x1 x2 P T) else ((dt_ix x2 20).bind fun a2 => (fX3_longestInYard_33 (fX3_longestInYard_4 n) (if x1 < ((T 2) a2) then ((T 2) a2) else x1) x2 P T)))))
set_option maxRecDepth 10000 in
set_option maxHeartbeats 4000000 in
theorem tX3_longestInYard_4 {nb : Nat} {G : dt_G} {A : Nat → Prop} {p : Program} {l : Launch} {e : Env} {s : State} {m : MethodId} {args : Array Value} {below : List Frame} {meth : Method} {c : Code} (C : dt_Cx nb G A p s m args meth c cX3_longestInYard 3 RX3) (hr : meth.sig.returnType = (some .int)) {M : dt_M} {res : Int32}  : ∀ (n : Nat) (x1 : Int32) (x2 : Int32) (P : dt_Ob) (T : dt_Ob), fX3_longestInYard_4 n x1 x2 P T = some res → dt_At G A p l e (dt_rm 1) s m args below meth c 3 (MQ below (dt_Post G A (some (.int res)) (dt_put (dt_put M 14 P) 13 T)) args s 0 0 A) 4 [(0, .ref (G.1 13 0)), (1, .int x1), (2, .int x2)] [] (dt_put (dt_put M 14 P) 13 T) := by
  intro n
  induction n with
  | zero =>
    intro x1 x2 P T h
    unfold fX3_longestInYard_4 at h
    cases h
  | succ n ih =>
    intro x1 x2 P T h
    unfold fX3_longestInYard_4 at h
    refine dz_iload_n (pc := 4) C dX3_longestInYard_4 rfl 2 rfl ?_
    refine dz_aload_n (pc := 5) C dX3_longestInYard_5 rfl 0 rfl ?_
    refine dz_getI (pc := 6) (k := 13) (j := 1) (v := (T 1 0)) C Fc_X5 hk_13 (by decide) rfl rfl fl_X3_45 rfl dX3_longestInYard_6 ?_
    refine dz_icmp_ge (pc := 9) (t := 39) C dX3_longestInYard_9 (by decide) h (fun h => ?_) (fun h => ?_)
    · refine dz_iload_n (pc := 39) C dX3_longestInYard_39 rfl 1 rfl ?_
      cases dt_some h
      exact dz_iret (pc := 40) C hr dX3_longestInYard_40
    · refine dz_aload_n (pc := 12) C dX3_longestInYard_12 rfl 0 rfl ?_
      refine dz_getR (pc := 13) (k := 13) (j := 6) C Fc_X5 hk_13 (by decide) (by decide) rfl fl_X3_48 dX3_longestInYard_13 ?_
      refine dz_iload_n (pc := 16) C dX3_longestInYard_16 rfl 2 rfl ?_
      refine dz_iald (pc := 17) (k := 13) (j := 6) (n := 20) (f := (T 6)) C hk_13 (by decide) rfl rfl dX3_longestInYard_17 h (fun a1 h => ?_)
      refine dz_iconst (pc := 18) (v := (-1 : Int32)) C dX3_longestInYard_18 (by decide) ?_
      refine dz_icmp_eq (pc := 19) (t := 33) C dX3_longestInYard_19 (by decide) h (fun h => ?_) (fun h => ?_)
      · exact tX3_longestInYard_33 C hr ih x1 x2 P T h
      · refine dz_iload_n (pc := 22) C dX3_longestInYard_22 rfl 1 rfl ?_
        refine dz_aload_n (pc := 23) C dX3_longestInYard_23 rfl 0 rfl ?_
        refine dz_getR (pc := 24) (k := 13) (j := 2) C Fc_X5 hk_13 (by decide) (by decide) rfl fl_X3_54 dX3_longestInYard_24 ?_
        refine dz_iload_n (pc := 27) C dX3_longestInYard_27 rfl 2 rfl ?_
        refine dz_iald (pc := 28) (k := 13) (j := 2) (n := 20) (f := (T 2)) C hk_13 (by decide) rfl rfl dX3_longestInYard_28 h (fun a2 h => ?_)
        refine dz_max (pc := 29) C ml_X3_102 (by omega) (Nat.le_of_ble_eq_true rfl) dX3_longestInYard_29 ?_
        refine dz_istore_n (pc := 32) C dX3_longestInYard_32 rfl (by decide) rfl ?_
        refine dz_sub [1, 0, 2] rfl ?_
        exact tX3_longestInYard_33 C hr ih (if x1 < ((T 2) a2) then ((T 2) a2) else x1) x2 P T h
def fX3_longestInYard  (P : dt_Ob) (T : dt_Ob) : Option (Int32) := (fX3_longestInYard_4 dt_F (1 : Int32) (0 : Int32) P T)
set_option maxRecDepth 10000 in
set_option maxHeartbeats 4000000 in
theorem m_X3_longestInYard {nb : Nat} (l : Launch)  (M : dt_M) (P : dt_Ob) (T : dt_Ob)   {res : Int32} (h : fX3_longestInYard P T = some res) : dt_Met nb l yX3_longestInYard cX3_longestInYard 3 (some .int) 1 (fun G => [.ref (G.1 13 0)]) (dt_put (dt_put M 14 P) 13 T) (some (.int res)) (dt_put (dt_put M 14 P) 13 T) := by
  refine dz_enter (lv := fun G => [(0, .ref (G.1 13 0))]) (by decide) (fun _ => rfl) (fun _ => Nat.le_of_ble_eq_true rfl) (fun G A p e s m args below meth c C hr => ?_)
  unfold fX3_longestInYard at h
  refine dz_iconst (pc := 0) (v := (1 : Int32)) C dX3_longestInYard_0 (by decide) ?_
  refine dz_istore_n (pc := 1) C dX3_longestInYard_1 rfl (by decide) rfl ?_
  refine dz_iconst (pc := 2) (v := (0 : Int32)) C dX3_longestInYard_2 (by decide) ?_
  refine dz_istore_n (pc := 3) C dX3_longestInYard_3 rfl (by decide) rfl ?_
  refine dz_sub [2, 1, 0] rfl ?_
  exact tX3_longestInYard_4 C hr dt_F (1 : Int32) (0 : Int32) P T h

def fX3_isAsked_33   : Option (Int32) := (some (1 : Int32))
set_option maxRecDepth 10000 in
set_option maxHeartbeats 4000000 in
theorem tX3_isAsked_33 {nb : Nat} {G : dt_G} {A : Nat → Prop} {p : Program} {l : Launch} {e : Env} {s : State} {m : MethodId} {args : Array Value} {below : List Frame} {meth : Method} {c : Code} (C : dt_Cx nb G A p s m args meth c cX3_isAsked 1 RX3) (hr : meth.sig.returnType = (some .boolean)) {M : dt_M} {res : Int32}  : fX3_isAsked_33 = some res → dt_At G A p l e (dt_rm 1) s m args below meth c 1 (MQ below (dt_Post G A (some (.int res)) M) args s 0 0 A) 33 [] [] M := by
  intro  h
  unfold fX3_isAsked_33 at h
  refine dz_iconst (pc := 33) (v := (1 : Int32)) C dX3_isAsked_33 (by decide) ?_
  refine dz_goto (pc := 34) (t := 38) C dX3_isAsked_34 (by decide) ?_
  cases dt_some h
  exact dz_zret (pc := 38) C hr (Or.inr rfl) dX3_isAsked_38
def fX3_isAsked_21  (x0 : Int32) : Option (Int32) := (if x0 < (20 : Int32) then (some (0 : Int32)) else (if (25 : Int32) ≤ x0 then (some (0 : Int32)) else (fX3_isAsked_33 )))
set_option maxRecDepth 10000 in
set_option maxHeartbeats 4000000 in
theorem tX3_isAsked_21 {nb : Nat} {G : dt_G} {A : Nat → Prop} {p : Program} {l : Launch} {e : Env} {s : State} {m : MethodId} {args : Array Value} {below : List Frame} {meth : Method} {c : Code} (C : dt_Cx nb G A p s m args meth c cX3_isAsked 1 RX3) (hr : meth.sig.returnType = (some .boolean)) {M : dt_M} {res : Int32}  : ∀ (x0 : Int32), fX3_isAsked_21 x0 = some res → dt_At G A p l e (dt_rm 1) s m args below meth c 1 (MQ below (dt_Post G A (some (.int res)) M) args s 0 0 A) 21 [(0, .int x0)] [] M := by
  intro x0 h
  unfold fX3_isAsked_21 at h
  refine dz_iload_n (pc := 21) C dX3_isAsked_21 rfl 0 rfl ?_
  refine dz_bipush (pc := 22) (v := (20 : Int32)) C dX3_isAsked_22 (by decide) ?_
  refine dz_icmp_lt (pc := 24) (t := 37) C dX3_isAsked_24 (by decide) h (fun h => ?_) (fun h => ?_)
  · refine dz_iconst (pc := 37) (v := (0 : Int32)) C dX3_isAsked_37 (by decide) ?_
    cases dt_some h
    exact dz_zret (pc := 38) C hr (Or.inl rfl) dX3_isAsked_38
  · refine dz_iload_n (pc := 27) C dX3_isAsked_27 rfl 0 rfl ?_
    refine dz_bipush (pc := 28) (v := (25 : Int32)) C dX3_isAsked_28 (by decide) ?_
    refine dz_icmp_ge (pc := 30) (t := 37) C dX3_isAsked_30 (by decide) h (fun h => ?_) (fun h => ?_)
    · refine dz_iconst (pc := 37) (v := (0 : Int32)) C dX3_isAsked_37 (by decide) ?_
      cases dt_some h
      exact dz_zret (pc := 38) C hr (Or.inl rfl) dX3_isAsked_38
    · refine dz_sub [] rfl ?_
      exact tX3_isAsked_33 C hr   h
def fX3_isAsked  (x0 : Int32) : Option (Int32) := (if x0 = 0 then (fX3_isAsked_33 ) else (if x0 = (1 : Int32) then (fX3_isAsked_33 ) else (if x0 < (10 : Int32) then (fX3_isAsked_21 x0) else (if x0 < (15 : Int32) then (fX3_isAsked_33 ) else (fX3_isAsked_21 x0)))))
set_option maxRecDepth 10000 in
set_option maxHeartbeats 4000000 in
theorem m_X3_isAsked {nb : Nat} (l : Launch)  (M : dt_M)   (x0 : Int32) {res : Int32} (h : fX3_isAsked x0 = some res) : dt_Met nb l yX3_isAsked cX3_isAsked 1 (some .boolean) 1 (fun G => [.int x0]) M (some (.int res)) M := by
  refine dz_enter (lv := fun G => [(0, .int x0)]) (by decide) (fun _ => rfl) (fun _ => Nat.le_of_ble_eq_true rfl) (fun G A p e s m args below meth c C hr => ?_)
  unfold fX3_isAsked at h
  refine dz_iload_n (pc := 0) C dX3_isAsked_0 rfl 0 rfl ?_
  refine dz_if_eq (pc := 1) (t := 33) C dX3_isAsked_1 (by decide) h (fun h => ?_) (fun h => ?_)
  · refine dz_sub [] rfl ?_
    exact tX3_isAsked_33 C hr   h
  · refine dz_iload_n (pc := 4) C dX3_isAsked_4 rfl 0 rfl ?_
    refine dz_iconst (pc := 5) (v := (1 : Int32)) C dX3_isAsked_5 (by decide) ?_
    refine dz_icmp_eq (pc := 6) (t := 33) C dX3_isAsked_6 (by decide) h (fun h => ?_) (fun h => ?_)
    · refine dz_sub [] rfl ?_
      exact tX3_isAsked_33 C hr   h
    · refine dz_iload_n (pc := 9) C dX3_isAsked_9 rfl 0 rfl ?_
      refine dz_bipush (pc := 10) (v := (10 : Int32)) C dX3_isAsked_10 (by decide) ?_
      refine dz_icmp_lt (pc := 12) (t := 21) C dX3_isAsked_12 (by decide) h (fun h => ?_) (fun h => ?_)
      · exact tX3_isAsked_21 C hr  x0 h
      · refine dz_iload_n (pc := 15) C dX3_isAsked_15 rfl 0 rfl ?_
        refine dz_bipush (pc := 16) (v := (15 : Int32)) C dX3_isAsked_16 (by decide) ?_
        refine dz_icmp_lt (pc := 18) (t := 33) C dX3_isAsked_18 (by decide) h (fun h => ?_) (fun h => ?_)
        · refine dz_sub [] rfl ?_
          exact tX3_isAsked_33 C hr   h
        · exact tX3_isAsked_21 C hr  x0 h

def fX3_answer_12  (P : dt_Ob) (T : dt_Ob) : Option (Int32) := (some (P 5 0))
set_option maxRecDepth 10000 in
set_option maxHeartbeats 4000000 in
theorem tX3_answer_12 {nb : Nat} {G : dt_G} {A : Nat → Prop} {p : Program} {l : Launch} {e : Env} {s : State} {m : MethodId} {args : Array Value} {below : List Frame} {meth : Method} {c : Code} (C : dt_Cx nb G A p s m args meth c cX3_answer 3 RX3) (hr : meth.sig.returnType = (some .int)) {M : dt_M} {res : Int32}  : ∀ (P : dt_Ob) (T : dt_Ob), fX3_answer_12 P T = some res → dt_At G A p l e (dt_rm 1) s m args below meth c 3 (MQ below (dt_Post G A (some (.int res)) (dt_put (dt_put M 14 P) 13 T)) args s 0 0 A) 12 [(0, .ref (G.1 14 0))] [] (dt_put (dt_put M 14 P) 13 T) := by
  intro P T h
  unfold fX3_answer_12 at h
  refine dz_aload_n (pc := 12) C dX3_answer_12 rfl 0 rfl ?_
  refine dz_getI (pc := 13) (k := 14) (j := 5) (v := (P 5 0)) C Fc_X3 hk_14 (by decide) rfl rfl fl_X3_28 rfl dX3_answer_13 ?_
  cases dt_some h
  exact dz_iret (pc := 16) C hr dX3_answer_16
def fX3_answer_44  (x1 : Int32) (s0 : Int32) (P : dt_Ob) (T : dt_Ob) : Option (Int32) := (if s0 < 0 then (some (-1 : Int32)) else (if (P 5 0) ≤ s0 then (some (-1 : Int32)) else (if s0 < (5 : Int32) then (if (20 : Int32) ≤ x1 then ((dt_ix s0 5).bind fun a1 => (some ((P 3) a1))) else ((dt_ix s0 5).bind fun a2 => (some ((P 2) a2)))) else (some (-1 : Int32)))))
set_option maxRecDepth 10000 in
set_option maxHeartbeats 4000000 in
theorem tX3_answer_44 {nb : Nat} {G : dt_G} {A : Nat → Prop} {p : Program} {l : Launch} {e : Env} {s : State} {m : MethodId} {args : Array Value} {below : List Frame} {meth : Method} {c : Code} (C : dt_Cx nb G A p s m args meth c cX3_answer 3 RX3) (hr : meth.sig.returnType = (some .int)) {M : dt_M} {res : Int32}  : ∀ (x1 : Int32) (s0 : Int32) (P : dt_Ob) (T : dt_Ob), fX3_answer_44 x1 s0 P T = some res → dt_At G A p l e (dt_rm 1) s m args below meth c 3 (MQ below (dt_Post G A (some (.int res)) (dt_put (dt_put M 14 P) 13 T)) args s 0 0 A) 44 [(0, .ref (G.1 14 0)), (1, .int x1)] [.int s0] (dt_put (dt_put M 14 P) 13 T) := by
  intro x1 s0 P T h
  unfold fX3_answer_44 at h
  refine dz_istore_n (pc := 44) C dX3_answer_44 rfl (by decide) rfl ?_
  refine dz_iload_n (pc := 45) C dX3_answer_45 rfl 0 rfl ?_
  refine dz_if_lt (pc := 46) (t := 62) C dX3_answer_46 (by decide) h (fun h => ?_) (fun h => ?_)
  · refine dz_iconst (pc := 62) (v := (-1 : Int32)) C dX3_answer_62 (by decide) ?_
    cases dt_some h
    exact dz_iret (pc := 63) C hr dX3_answer_63
  · refine dz_iload_n (pc := 49) C dX3_answer_49 rfl 0 rfl ?_
    refine dz_aload_n (pc := 50) C dX3_answer_50 rfl 1 rfl ?_
    refine dz_getI (pc := 51) (k := 14) (j := 5) (v := (P 5 0)) C Fc_X3 hk_14 (by decide) rfl rfl fl_X3_28 rfl dX3_answer_51 ?_
    refine dz_icmp_ge (pc := 54) (t := 62) C dX3_answer_54 (by decide) h (fun h => ?_) (fun h => ?_)
    · refine dz_iconst (pc := 62) (v := (-1 : Int32)) C dX3_answer_62 (by decide) ?_
      cases dt_some h
      exact dz_iret (pc := 63) C hr dX3_answer_63
    · refine dz_iload_n (pc := 57) C dX3_answer_57 rfl 0 rfl ?_
      refine dz_iconst (pc := 58) (v := (5 : Int32)) C dX3_answer_58 (by decide) ?_
      refine dz_icmp_lt (pc := 59) (t := 64) C dX3_answer_59 (by decide) h (fun h => ?_) (fun h => ?_)
      · refine dz_iload_n (pc := 64) C dX3_answer_64 rfl 2 rfl ?_
        refine dz_bipush (pc := 65) (v := (20 : Int32)) C dX3_answer_65 (by decide) ?_
        refine dz_icmp_ge (pc := 67) (t := 79) C dX3_answer_67 (by decide) h (fun h => ?_) (fun h => ?_)
        · refine dz_aload_n (pc := 79) C dX3_answer_79 rfl 1 rfl ?_
          refine dz_getR (pc := 80) (k := 14) (j := 3) C Fc_X3 hk_14 (by decide) (by decide) rfl fl_X3_21 dX3_answer_80 ?_
          refine dz_iload_n (pc := 83) C dX3_answer_83 rfl 0 rfl ?_
          refine dz_iald (pc := 84) (k := 14) (j := 3) (n := 5) (f := (P 3)) C hk_14 (by decide) rfl rfl dX3_answer_84 h (fun a1 h => ?_)
          cases dt_some h
          exact dz_iret (pc := 85) C hr dX3_answer_85
        · refine dz_aload_n (pc := 70) C dX3_answer_70 rfl 1 rfl ?_
          refine dz_getR (pc := 71) (k := 14) (j := 2) C Fc_X3 hk_14 (by decide) (by decide) rfl fl_X3_18 dX3_answer_71 ?_
          refine dz_iload_n (pc := 74) C dX3_answer_74 rfl 0 rfl ?_
          refine dz_iald (pc := 75) (k := 14) (j := 2) (n := 5) (f := (P 2)) C hk_14 (by decide) rfl rfl dX3_answer_75 h (fun a2 h => ?_)
          refine dz_goto (pc := 76) (t := 85) C dX3_answer_76 (by decide) ?_
          cases dt_some h
          exact dz_iret (pc := 85) C hr dX3_answer_85
      · refine dz_iconst (pc := 62) (v := (-1 : Int32)) C dX3_answer_62 (by decide) ?_
        cases dt_some h
        exact dz_iret (pc := 63) C hr dX3_answer_63
def fX3_answer  (x1 : Int32) (P : dt_Ob) (T : dt_Ob) : Option (Int32) := (if x1 = 0 then (fX3_answer_12 P T) else (if (P 5 0) = (-1 : Int32) then (fX3_answer_12 P T) else (if x1 = (1 : Int32) then (some (P 6 0)) else (if (20 : Int32) ≤ x1 then (fX3_answer_44 x1 (x1 - (20 : Int32)) P T) else (fX3_answer_44 x1 (x1 - (10 : Int32)) P T)))))
set_option maxRecDepth 10000 in
set_option maxHeartbeats 4000000 in
theorem m_X3_answer {nb : Nat} (l : Launch)  (M : dt_M) (P : dt_Ob) (T : dt_Ob)  (x1 : Int32) {res : Int32} (h : fX3_answer x1 P T = some res) : dt_Met nb l yX3_answer cX3_answer 3 (some .int) 1 (fun G => [.ref (G.1 14 0), .int x1]) (dt_put (dt_put M 14 P) 13 T) (some (.int res)) (dt_put (dt_put M 14 P) 13 T) := by
  refine dz_enter (lv := fun G => [(0, .ref (G.1 14 0)), (1, .int x1)]) (by decide) (fun _ => rfl) (fun _ => Nat.le_of_ble_eq_true rfl) (fun G A p e s m args below meth c C hr => ?_)
  unfold fX3_answer at h
  refine dz_iload_n (pc := 0) C dX3_answer_0 rfl 1 rfl ?_
  refine dz_if_eq (pc := 1) (t := 12) C dX3_answer_1 (by decide) h (fun h => ?_) (fun h => ?_)
  · refine dz_sub [0] rfl ?_
    exact tX3_answer_12 C hr  P T h
  · refine dz_aload_n (pc := 4) C dX3_answer_4 rfl 0 rfl ?_
    refine dz_getI (pc := 5) (k := 14) (j := 5) (v := (P 5 0)) C Fc_X3 hk_14 (by decide) rfl rfl fl_X3_28 rfl dX3_answer_5 ?_
    refine dz_iconst (pc := 8) (v := (-1 : Int32)) C dX3_answer_8 (by decide) ?_
    refine dz_icmp_ne (pc := 9) (t := 17) C dX3_answer_9 (by decide) h (fun h => ?_) (fun h => ?_)
    · refine dz_iload_n (pc := 17) C dX3_answer_17 rfl 1 rfl ?_
      refine dz_iconst (pc := 18) (v := (1 : Int32)) C dX3_answer_18 (by decide) ?_
      refine dz_icmp_ne (pc := 19) (t := 27) C dX3_answer_19 (by decide) h (fun h => ?_) (fun h => ?_)
      · refine dz_iload_n (pc := 27) C dX3_answer_27 rfl 1 rfl ?_
        refine dz_bipush (pc := 28) (v := (20 : Int32)) C dX3_answer_28 (by decide) ?_
        refine dz_icmp_ge (pc := 30) (t := 40) C dX3_answer_30 (by decide) h (fun h => ?_) (fun h => ?_)
        · refine dz_iload_n (pc := 40) C dX3_answer_40 rfl 1 rfl ?_
          refine dz_bipush (pc := 41) (v := (20 : Int32)) C dX3_answer_41 (by decide) ?_
          refine dz_isub (pc := 43) C dX3_answer_43 ?_
          exact tX3_answer_44 C hr  x1 (x1 - (20 : Int32)) P T h
        · refine dz_iload_n (pc := 33) C dX3_answer_33 rfl 1 rfl ?_
          refine dz_bipush (pc := 34) (v := (10 : Int32)) C dX3_answer_34 (by decide) ?_
          refine dz_isub (pc := 36) C dX3_answer_36 ?_
          refine dz_goto (pc := 37) (t := 44) C dX3_answer_37 (by decide) ?_
          exact tX3_answer_44 C hr  x1 (x1 - (10 : Int32)) P T h
      · refine dz_aload_n (pc := 22) C dX3_answer_22 rfl 0 rfl ?_
        refine dz_getI (pc := 23) (k := 14) (j := 6) (v := (P 6 0)) C Fc_X3 hk_14 (by decide) rfl rfl fl_X3_31 rfl dX3_answer_23 ?_
        cases dt_some h
        exact dz_iret (pc := 26) C hr dX3_answer_26
    · refine dz_sub [0] rfl ?_
      exact tX3_answer_12 C hr  P T h

def fX3_keep  (x1 : Int32) (P : dt_Ob) (T : dt_Ob) : Option (dt_Ob × dt_Ob) := (some ((dt_setA (dt_setA (dt_set P 6 0 x1) 2 (va_cpy (P 0) (P 2) (Int32.toNatClampNeg (0 : Int32)) (Int32.toNatClampNeg (0 : Int32)) (Int32.toNatClampNeg (5 : Int32)))) 3 (va_cpy (P 1) (P 3) (Int32.toNatClampNeg (0 : Int32)) (Int32.toNatClampNeg (0 : Int32)) (Int32.toNatClampNeg (5 : Int32)))), T))
set_option maxRecDepth 10000 in
set_option maxHeartbeats 4000000 in
theorem m_X3_keep {nb : Nat} (l : Launch)  (M : dt_M) (P : dt_Ob) (T : dt_Ob)  (x1 : Int32) {res : dt_Ob × dt_Ob} (h : fX3_keep x1 P T = some res) : dt_Met nb l yX3_keep cX3_keep 2 none 2 (fun G => [.ref (G.1 14 0), .int x1]) (dt_put (dt_put M 14 P) 13 T) none (dt_put (dt_put M 14 res.1) 13 res.2) := by
  refine dz_enter (lv := fun G => [(0, .ref (G.1 14 0)), (1, .int x1)]) (by decide) (fun _ => rfl) (fun _ => Nat.le_of_ble_eq_true rfl) (fun G A p e s m args below meth c C hr => ?_)
  unfold fX3_keep at h
  refine dz_aload_n (pc := 0) C dX3_keep_0 rfl 0 rfl ?_
  refine dz_iload_n (pc := 1) C dX3_keep_1 rfl 1 rfl ?_
  refine dz_putI (pc := 2) (k := 14) (j := 6) (M' := (dt_put (dt_put M 14 (dt_set P 6 0 x1)) 13 T)) C Fc_X3 hk_14 (by decide) rfl rfl rfl rfl fl_X3_31 (dt_wB _ (by decide) _ _ _ _ _) dX3_keep_2 ?_
  refine dz_aload_n (pc := 5) C dX3_keep_5 rfl 0 rfl ?_
  refine dz_getR (pc := 6) (k := 14) (j := 0) C Fc_X3 hk_14 (by decide) (by decide) rfl fl_X3_11 dX3_keep_6 ?_
  refine dz_iconst (pc := 9) (v := (0 : Int32)) C dX3_keep_9 (by decide) ?_
  refine dz_aload_n (pc := 10) C dX3_keep_10 rfl 0 rfl ?_
  refine dz_getR (pc := 11) (k := 14) (j := 2) C Fc_X3 hk_14 (by decide) (by decide) rfl fl_X3_18 dX3_keep_11 ?_
  refine dz_iconst (pc := 14) (v := (0 : Int32)) C dX3_keep_14 (by decide) ?_
  refine dz_iconst (pc := 15) (v := (5 : Int32)) C dX3_keep_15 (by decide) ?_
  refine dz_copy (pc := 16) (k0 := 14) (j0 := 0) (n0 := 5) (k1 := 14) (j1 := 2) (n1 := 5) (f := (P 0)) (g := (P 2)) (M' := (dt_put (dt_put M 14 (dt_setA (dt_set P 6 0 x1) 2 (va_cpy (P 0) (P 2) (Int32.toNatClampNeg (0 : Int32)) (Int32.toNatClampNeg (0 : Int32)) (Int32.toNatClampNeg (5 : Int32))))) 13 T)) C ml_X3_88 hk_14 (by decide) rfl rfl hk_14 (by decide) rfl rfl (by decide) (by omega) (Nat.le_of_ble_eq_true rfl) (dt_wBA _ (by decide) _ _ _ _) dX3_keep_16 ?_
  refine dz_aload_n (pc := 19) C dX3_keep_19 rfl 0 rfl ?_
  refine dz_getR (pc := 20) (k := 14) (j := 1) C Fc_X3 hk_14 (by decide) (by decide) rfl fl_X3_15 dX3_keep_20 ?_
  refine dz_iconst (pc := 23) (v := (0 : Int32)) C dX3_keep_23 (by decide) ?_
  refine dz_aload_n (pc := 24) C dX3_keep_24 rfl 0 rfl ?_
  refine dz_getR (pc := 25) (k := 14) (j := 3) C Fc_X3 hk_14 (by decide) (by decide) rfl fl_X3_21 dX3_keep_25 ?_
  refine dz_iconst (pc := 28) (v := (0 : Int32)) C dX3_keep_28 (by decide) ?_
  refine dz_iconst (pc := 29) (v := (5 : Int32)) C dX3_keep_29 (by decide) ?_
  refine dz_copy (pc := 30) (k0 := 14) (j0 := 1) (n0 := 5) (k1 := 14) (j1 := 3) (n1 := 5) (f := (P 1)) (g := (P 3)) (M' := (dt_put (dt_put M 14 (dt_setA (dt_setA (dt_set P 6 0 x1) 2 (va_cpy (P 0) (P 2) (Int32.toNatClampNeg (0 : Int32)) (Int32.toNatClampNeg (0 : Int32)) (Int32.toNatClampNeg (5 : Int32)))) 3 (va_cpy (P 1) (P 3) (Int32.toNatClampNeg (0 : Int32)) (Int32.toNatClampNeg (0 : Int32)) (Int32.toNatClampNeg (5 : Int32))))) 13 T)) C ml_X3_88 hk_14 (by decide) rfl rfl hk_14 (by decide) rfl rfl (by decide) (by omega) (Nat.le_of_ble_eq_true rfl) (dt_wBA _ (by decide) _ _ _ _) dX3_keep_30 ?_
  cases dt_some h
  exact dz_vret (pc := 33) C hr dX3_keep_33

def fX3_cameLate_63 (r5 : Int32 → Int32 → Int32 → dt_Ob → dt_Ob → Option (Int32)) (x3 : Int32) (x4 : Int32) (x5 : Int32) (x6 : Int32) (s0 : Int32) (P : dt_Ob) (T : dt_Ob) : Option (Int32) := (if s0 = 0 then (some (0 : Int32)) else (if x6 ≤ x3 then (r5 x3 x4 (x5 + (-1 : Int32)) P T) else (some (1 : Int32))))
set_option maxRecDepth 10000 in
set_option maxHeartbeats 4000000 in
theorem tX3_cameLate_63 {nb : Nat} {G : dt_G} {A : Nat → Prop} {p : Program} {l : Launch} {e : Env} {s : State} {m : MethodId} {args : Array Value} {below : List Frame} {meth : Method} {c : Code} (C : dt_Cx nb G A p s m args meth c cX3_cameLate 8 RX3) (hr : meth.sig.returnType = (some .boolean)) {M : dt_M} {res : Int32} {r5 : Int32 → Int32 → Int32 → dt_Ob → dt_Ob → Option (Int32)} (hr5 : ∀ (x3 : Int32) (x4 : Int32) (x5 : Int32) (P : dt_Ob) (T : dt_Ob), r5 x3 x4 x5 P T = some res → dt_At G A p l e (dt_rm 1) s m args below meth c 8 (MQ below (dt_Post G A (some (.int res)) (dt_put (dt_put M 14 P) 13 T)) args s 0 0 A) 5 [(0, .ref (G.1 14 0)), (1, .ref (G.1 13 0)), (3, .int x3), (4, .int x4), (5, .int x5)] [] (dt_put (dt_put M 14 P) 13 T)) : ∀ (x3 : Int32) (x4 : Int32) (x5 : Int32) (x6 : Int32) (s0 : Int32) (P : dt_Ob) (T : dt_Ob), fX3_cameLate_63 r5 x3 x4 x5 x6 s0 P T = some res → dt_At G A p l e (dt_rm 1) s m args below meth c 8 (MQ below (dt_Post G A (some (.int res)) (dt_put (dt_put M 14 P) 13 T)) args s 0 0 A) 63 [(0, .ref (G.1 14 0)), (1, .ref (G.1 13 0)), (3, .int x3), (4, .int x4), (5, .int x5), (6, .int x6)] [.int s0] (dt_put (dt_put M 14 P) 13 T) := by
  intro x3 x4 x5 x6 s0 P T h
  unfold fX3_cameLate_63 at h
  refine dz_istore (pc := 63) C dX3_cameLate_63 (by decide) rfl ?_
  refine dz_iload (pc := 65) C dX3_cameLate_65 0 rfl ?_
  refine dz_if_ne (pc := 67) (t := 72) C dX3_cameLate_67 (by decide) h (fun h => ?_) (fun h => ?_)
  · refine dz_iload (pc := 72) C dX3_cameLate_72 6 rfl ?_
    refine dz_iload_n (pc := 74) C dX3_cameLate_74 rfl 3 rfl ?_
    refine dz_icmp_le (pc := 75) (t := 80) C dX3_cameLate_75 (by decide) h (fun h => ?_) (fun h => ?_)
    · refine dz_iinc (pc := 80) (v := (x5 + (-1 : Int32))) C dX3_cameLate_80 5 rfl rfl (by decide) rfl ?_
      refine dz_goto (pc := 83) (t := 5) C dX3_cameLate_83 (by decide) ?_
      refine dz_sub [2, 3, 4, 5, 0] rfl ?_
      exact hr5 x3 x4 (x5 + (-1 : Int32)) P T h
    · refine dz_iconst (pc := 78) (v := (1 : Int32)) C dX3_cameLate_78 (by decide) ?_
      cases dt_some h
      exact dz_zret (pc := 79) C hr (Or.inr rfl) dX3_cameLate_79
  · refine dz_iconst (pc := 70) (v := (0 : Int32)) C dX3_cameLate_70 (by decide) ?_
    cases dt_some h
    exact dz_zret (pc := 71) C hr (Or.inl rfl) dX3_cameLate_71
def fX3_cameLate_58 (r5 : Int32 → Int32 → Int32 → dt_Ob → dt_Ob → Option (Int32)) (x3 : Int32) (x4 : Int32) (x5 : Int32) (x6 : Int32) (P : dt_Ob) (T : dt_Ob) : Option (Int32) := (fX3_cameLate_63 r5 x3 x4 x5 x6 (1 : Int32) P T)
set_option maxRecDepth 10000 in
set_option maxHeartbeats 4000000 in
theorem tX3_cameLate_58 {nb : Nat} {G : dt_G} {A : Nat → Prop} {p : Program} {l : Launch} {e : Env} {s : State} {m : MethodId} {args : Array Value} {below : List Frame} {meth : Method} {c : Code} (C : dt_Cx nb G A p s m args meth c cX3_cameLate 8 RX3) (hr : meth.sig.returnType = (some .boolean)) {M : dt_M} {res : Int32} {r5 : Int32 → Int32 → Int32 → dt_Ob → dt_Ob → Option (Int32)} (hr5 : ∀ (x3 : Int32) (x4 : Int32) (x5 : Int32) (P : dt_Ob) (T : dt_Ob), r5 x3 x4 x5 P T = some res → dt_At G A p l e (dt_rm 1) s m args below meth c 8 (MQ below (dt_Post G A (some (.int res)) (dt_put (dt_put M 14 P) 13 T)) args s 0 0 A) 5 [(0, .ref (G.1 14 0)), (1, .ref (G.1 13 0)), (3, .int x3), (4, .int x4), (5, .int x5)] [] (dt_put (dt_put M 14 P) 13 T)) : ∀ (x3 : Int32) (x4 : Int32) (x5 : Int32) (x6 : Int32) (P : dt_Ob) (T : dt_Ob), fX3_cameLate_58 r5 x3 x4 x5 x6 P T = some res → dt_At G A p l e (dt_rm 1) s m args below meth c 8 (MQ below (dt_Post G A (some (.int res)) (dt_put (dt_put M 14 P) 13 T)) args s 0 0 A) 58 [(0, .ref (G.1 14 0)), (1, .ref (G.1 13 0)), (3, .int x3), (4, .int x4), (5, .int x5), (6, .int x6)] [] (dt_put (dt_put M 14 P) 13 T) := by
  intro x3 x4 x5 x6 P T h
  unfold fX3_cameLate_58 at h
  refine dz_iconst (pc := 58) (v := (1 : Int32)) C dX3_cameLate_58 (by decide) ?_
  refine dz_goto (pc := 59) (t := 63) C dX3_cameLate_59 (by decide) ?_
  exact tX3_cameLate_63 C hr hr5 x3 x4 x5 x6 (1 : Int32) P T h
def fX3_cameLate_5  : Nat → Int32 → Int32 → Int32 → dt_Ob → dt_Ob → Option (Int32)
  | 0, _, _, _, _, _ => none
  | n + 1, x3, x4, x5, P, T => (if x5 < 0 then (some (0 : Int32)) else ((dt_ix x5 5).bind fun a1 => ((dt_ix x3 20).bind fun a2 => ((dt_ix x5 5).bind fun a3 => (if (x4 + ((T 2) a2)) ≤ ((P 1) a3) then (fX3_cameLate_58 (fX3_cameLate_5 n) x3 x4 x5 ((P 0) a1) P T) else ((dt_ix x5 5).bind fun a4 => ((dt_ix ((P 0) a1) 20).bind fun a5 => (if x4 < (((P 1) a4) + ((T 2) a5)) then (fX3_cameLate_63 (fX3_cameLate_5 n) x3 x4 x5 ((P 0) a1) (0 : Int32) P T) else (fX3_cameLate_58 (fX3_cameLate_5 n) x3 x4 x5 ((P 0) a1) P T)))))))))
set_option maxRecDepth 10000 in
set_option maxHeartbeats 4000000 in
theorem tX3_cameLate_5 {nb : Nat} {G : dt_G} {A : Nat → Prop} {p : Program} {l : Launch} {e : Env} {s : State} {m : MethodId} {args : Array Value} {below : List Frame} {meth : Method} {c : Code} (C : dt_Cx nb G A p s m args meth c cX3_cameLate 8 RX3) (hr : meth.sig.returnType = (some .boolean)) {M : dt_M} {res : Int32}  : ∀ (n : Nat) (x3 : Int32) (x4 : Int32) (x5 : Int32) (P : dt_Ob) (T : dt_Ob), fX3_cameLate_5 n x3 x4 x5 P T = some res → dt_At G A p l e (dt_rm 1) s m args below meth c 8 (MQ below (dt_Post G A (some (.int res)) (dt_put (dt_put M 14 P) 13 T)) args s 0 0 A) 5 [(0, .ref (G.1 14 0)), (1, .ref (G.1 13 0)), (3, .int x3), (4, .int x4), (5, .int x5)] [] (dt_put (dt_put M 14 P) 13 T) := by
  intro n
  induction n with
  | zero =>
    intro x3 x4 x5 P T h
    unfold fX3_cameLate_5 at h
    cases h
  | succ n ih =>
    intro x3 x4 x5 P T h
    unfold fX3_cameLate_5 at h
    refine dz_iload (pc := 5) C dX3_cameLate_5 4 rfl ?_
    refine dz_if_lt (pc := 7) (t := 86) C dX3_cameLate_7 (by decide) h (fun h => ?_) (fun h => ?_)
    · refine dz_iconst (pc := 86) (v := (0 : Int32)) C dX3_cameLate_86 (by decide) ?_
      cases dt_some h
      exact dz_zret (pc := 87) C hr (Or.inl rfl) dX3_cameLate_87
    · refine dz_aload_n (pc := 10) C dX3_cameLate_10 rfl 0 rfl ?_
      refine dz_getR (pc := 11) (k := 14) (j := 0) C Fc_X3 hk_14 (by decide) (by decide) rfl fl_X3_11 dX3_cameLate_11 ?_
      refine dz_iload (pc := 14) C dX3_cameLate_14 4 rfl ?_
      refine dz_iald (pc := 16) (k := 14) (j := 0) (n := 5) (f := (P 0)) C hk_14 (by decide) rfl rfl dX3_cameLate_16 h (fun a1 h => ?_)
      refine dz_istore (pc := 17) C dX3_cameLate_17 (by decide) rfl ?_
      refine dz_iload (pc := 19) C dX3_cameLate_19 4 rfl ?_
      refine dz_aload_n (pc := 21) C dX3_cameLate_21 rfl 2 rfl ?_
      refine dz_getR (pc := 22) (k := 13) (j := 2) C Fc_X5 hk_13 (by decide) (by decide) rfl fl_X3_54 dX3_cameLate_22 ?_
      refine dz_iload_n (pc := 25) C dX3_cameLate_25 rfl 3 rfl ?_
      refine dz_iald (pc := 26) (k := 13) (j := 2) (n := 20) (f := (T 2)) C hk_13 (by decide) rfl rfl dX3_cameLate_26 h (fun a2 h => ?_)
      refine dz_iadd (pc := 27) C dX3_cameLate_27 ?_
      refine dz_aload_n (pc := 28) C dX3_cameLate_28 rfl 1 rfl ?_
      refine dz_getR (pc := 29) (k := 14) (j := 1) C Fc_X3 hk_14 (by decide) (by decide) rfl fl_X3_15 dX3_cameLate_29 ?_
      refine dz_iload (pc := 32) C dX3_cameLate_32 5 rfl ?_
      refine dz_iald (pc := 34) (k := 14) (j := 1) (n := 5) (f := (P 1)) C hk_14 (by decide) rfl rfl dX3_cameLate_34 h (fun a3 h => ?_)
      refine dz_icmp_le (pc := 35) (t := 58) C dX3_cameLate_35 (by decide) h (fun h => ?_) (fun h => ?_)
      · refine dz_sub [1, 2, 3, 4, 5, 0] rfl ?_
        exact tX3_cameLate_58 C hr ih x3 x4 x5 ((P 0) a1) P T h
      · refine dz_aload_n (pc := 38) C dX3_cameLate_38 rfl 1 rfl ?_
        refine dz_getR (pc := 39) (k := 14) (j := 1) C Fc_X3 hk_14 (by decide) (by decide) rfl fl_X3_15 dX3_cameLate_39 ?_
        refine dz_iload (pc := 42) C dX3_cameLate_42 5 rfl ?_
        refine dz_iald (pc := 44) (k := 14) (j := 1) (n := 5) (f := (P 1)) C hk_14 (by decide) rfl rfl dX3_cameLate_44 h (fun a4 h => ?_)
        refine dz_aload_n (pc := 45) C dX3_cameLate_45 rfl 2 rfl ?_
        refine dz_getR (pc := 46) (k := 13) (j := 2) C Fc_X5 hk_13 (by decide) (by decide) rfl fl_X3_54 dX3_cameLate_46 ?_
        refine dz_iload (pc := 49) C dX3_cameLate_49 0 rfl ?_
        refine dz_iald (pc := 51) (k := 13) (j := 2) (n := 20) (f := (T 2)) C hk_13 (by decide) rfl rfl dX3_cameLate_51 h (fun a5 h => ?_)
        refine dz_iadd (pc := 52) C dX3_cameLate_52 ?_
        refine dz_iload (pc := 53) C dX3_cameLate_53 4 rfl ?_
        refine dz_icmp_gt (pc := 55) (t := 62) C dX3_cameLate_55 (by decide) h (fun h => ?_) (fun h => ?_)
        · refine dz_iconst (pc := 62) (v := (0 : Int32)) C dX3_cameLate_62 (by decide) ?_
          refine dz_sub [1, 2, 3, 4, 5, 0] rfl ?_
          exact tX3_cameLate_63 C hr ih x3 x4 x5 ((P 0) a1) (0 : Int32) P T h
        · refine dz_sub [1, 2, 3, 4, 5, 0] rfl ?_
          exact tX3_cameLate_58 C hr ih x3 x4 x5 ((P 0) a1) P T h
def fX3_cameLate  (x2 : Int32) (x3 : Int32) (x4 : Int32) (P : dt_Ob) (T : dt_Ob) : Option (Int32) := (fX3_cameLate_5 dt_F x3 x4 (x2 - (1 : Int32)) P T)
set_option maxRecDepth 10000 in
set_option maxHeartbeats 4000000 in
theorem m_X3_cameLate {nb : Nat} (l : Launch)  (M : dt_M) (P : dt_Ob) (T : dt_Ob)  (x2 : Int32) (x3 : Int32) (x4 : Int32) {res : Int32} (h : fX3_cameLate x2 x3 x4 P T = some res) : dt_Met nb l yX3_cameLate cX3_cameLate 8 (some .boolean) 1 (fun G => [.ref (G.1 14 0), .ref (G.1 13 0), .int x2, .int x3, .int x4]) (dt_put (dt_put M 14 P) 13 T) (some (.int res)) (dt_put (dt_put M 14 P) 13 T) := by
  refine dz_enter (lv := fun G => [(0, .ref (G.1 14 0)), (1, .ref (G.1 13 0)), (2, .int x2), (3, .int x3), (4, .int x4)]) (by decide) (fun _ => rfl) (fun _ => Nat.le_of_ble_eq_true rfl) (fun G A p e s m args below meth c C hr => ?_)
  unfold fX3_cameLate at h
  refine dz_iload_n (pc := 0) C dX3_cameLate_0 rfl 2 rfl ?_
  refine dz_iconst (pc := 1) (v := (1 : Int32)) C dX3_cameLate_1 (by decide) ?_
  refine dz_isub (pc := 2) C dX3_cameLate_2 ?_
  refine dz_istore (pc := 3) C dX3_cameLate_3 (by decide) rfl ?_
  refine dz_sub [1, 2, 4, 5, 0] rfl ?_
  exact tX3_cameLate_5 C hr dt_F x3 x4 (x2 - (1 : Int32)) P T h

def fX3_isHopeful_63  (x3 : Int32) (x4 : Int32) (P : dt_Ob) (T : dt_Ob) : Option (Int32) := ((fX3_longestInYard P T).bind fun q4 => (if (x3 * (q4 - (1 : Int32))) < (x4 - (1 : Int32)) then (some (0 : Int32)) else (some (1 : Int32))))
set_option maxRecDepth 10000 in
set_option maxHeartbeats 4000000 in
theorem tX3_isHopeful_63 {nb : Nat} {G : dt_G} {A : Nat → Prop} {p : Program} {l : Launch} {e : Env} {s : State} {m : MethodId} {args : Array Value} {below : List Frame} {meth : Method} {c : Code} (C : dt_Cx nb G A p s m args meth c cX3_isHopeful 6 RX3) (hr : meth.sig.returnType = (some .boolean)) {M : dt_M} {res : Int32}  : ∀ (x3 : Int32) (x4 : Int32) (P : dt_Ob) (T : dt_Ob), fX3_isHopeful_63 x3 x4 P T = some res → dt_At G A p l e (dt_rm 3) s m args below meth c 6 (MQ below (dt_Post G A (some (.int res)) (dt_put (dt_put M 14 P) 13 T)) args s 0 0 A) 63 [(1, .ref (G.1 13 0)), (3, .int x3), (4, .int x4)] [] (dt_put (dt_put M 14 P) 13 T) := by
  intro x3 x4 P T h
  unfold fX3_isHopeful_63 at h
  refine dz_iload (pc := 63) C dX3_isHopeful_63 2 rfl ?_
  refine dz_iconst (pc := 65) (v := (1 : Int32)) C dX3_isHopeful_65 (by decide) ?_
  refine dz_isub (pc := 66) C dX3_isHopeful_66 ?_
  refine dz_iload_n (pc := 67) C dX3_isHopeful_67 rfl 1 rfl ?_
  refine dz_aload_n (pc := 68) C dX3_isHopeful_68 rfl 0 rfl ?_
  obtain ⟨q4, eq4, h⟩ := dt_bind h
  refine dz_callSi (pc := 69) (st := [.int x3, .int (x4 - (1 : Int32))]) (As := [.ref (G.1 13 0)]) (M' := (dt_put (dt_put M 14 P) 13 T)) C ms_X3_longestInYard ml_X3_98 (m_X3_longestInYard l _ _ _ eq4) rfl rfl (by omega) (by decide) (Nat.le_of_ble_eq_true rfl) dX3_isHopeful_69 ?_
  refine dz_iconst (pc := 72) (v := (1 : Int32)) C dX3_isHopeful_72 (by decide) ?_
  refine dz_isub (pc := 73) C dX3_isHopeful_73 ?_
  refine dz_imul (pc := 74) C dX3_isHopeful_74 ?_
  refine dz_icmp_gt (pc := 75) (t := 82) C dX3_isHopeful_75 (by decide) h (fun h => ?_) (fun h => ?_)
  · refine dz_iconst (pc := 82) (v := (0 : Int32)) C dX3_isHopeful_82 (by decide) ?_
    cases dt_some h
    exact dz_zret (pc := 83) C hr (Or.inl rfl) dX3_isHopeful_83
  · refine dz_iconst (pc := 78) (v := (1 : Int32)) C dX3_isHopeful_78 (by decide) ?_
    refine dz_goto (pc := 79) (t := 83) C dX3_isHopeful_79 (by decide) ?_
    cases dt_some h
    exact dz_zret (pc := 83) C hr (Or.inr rfl) dX3_isHopeful_83
def fX3_isHopeful_57 (r28 : Int32 → Int32 → Int32 → Int32 → dt_Ob → dt_Ob → Option (Int32)) (x2 : Int32) (x3 : Int32) (x4 : Int32) (x5 : Int32) (P : dt_Ob) (T : dt_Ob) : Option (Int32) := (r28 x2 x3 x4 (x5 + (1 : Int32)) P T)
set_option maxRecDepth 10000 in
set_option maxHeartbeats 4000000 in
theorem tX3_isHopeful_57 {nb : Nat} {G : dt_G} {A : Nat → Prop} {p : Program} {l : Launch} {e : Env} {s : State} {m : MethodId} {args : Array Value} {below : List Frame} {meth : Method} {c : Code} (C : dt_Cx nb G A p s m args meth c cX3_isHopeful 6 RX3) (hr : meth.sig.returnType = (some .boolean)) {M : dt_M} {res : Int32} {r28 : Int32 → Int32 → Int32 → Int32 → dt_Ob → dt_Ob → Option (Int32)} (hr28 : ∀ (x2 : Int32) (x3 : Int32) (x4 : Int32) (x5 : Int32) (P : dt_Ob) (T : dt_Ob), r28 x2 x3 x4 x5 P T = some res → dt_At G A p l e (dt_rm 3) s m args below meth c 6 (MQ below (dt_Post G A (some (.int res)) (dt_put (dt_put M 14 P) 13 T)) args s 0 0 A) 28 [(0, .ref (G.1 14 0)), (1, .ref (G.1 13 0)), (2, .int x2), (3, .int x3), (4, .int x4), (5, .int x5)] [] (dt_put (dt_put M 14 P) 13 T)) : ∀ (x2 : Int32) (x3 : Int32) (x4 : Int32) (x5 : Int32) (P : dt_Ob) (T : dt_Ob), fX3_isHopeful_57 r28 x2 x3 x4 x5 P T = some res → dt_At G A p l e (dt_rm 3) s m args below meth c 6 (MQ below (dt_Post G A (some (.int res)) (dt_put (dt_put M 14 P) 13 T)) args s 0 0 A) 57 [(0, .ref (G.1 14 0)), (1, .ref (G.1 13 0)), (2, .int x2), (3, .int x3), (4, .int x4), (5, .int x5)] [] (dt_put (dt_put M 14 P) 13 T) := by
  intro x2 x3 x4 x5 P T h
  unfold fX3_isHopeful_57 at h
  refine dz_iinc (pc := 57) (v := (x5 + (1 : Int32))) C dX3_isHopeful_57 5 rfl rfl (by decide) rfl ?_
  refine dz_goto (pc := 60) (t := 28) C dX3_isHopeful_60 (by decide) ?_
  refine dz_sub [1, 2, 3, 4, 5, 0] rfl ?_
  exact hr28 x2 x3 x4 (x5 + (1 : Int32)) P T h
def fX3_isHopeful_28  : Nat → Int32 → Int32 → Int32 → Int32 → dt_Ob → dt_Ob → Option (Int32)
  | 0, _, _, _, _, _, _ => none
  | n + 1, x2, x3, x4, x5, P, T => (if x2 ≤ x5 then (fX3_isHopeful_63 x3 x4 P T) else (if (5 : Int32) ≤ x5 then (fX3_isHopeful_63 x3 x4 P T) else ((dt_ix x5 5).bind fun a2 => ((fX5_isBare ((P 0) a2) T).bind fun q3 => (if q3 = 0 then (fX3_isHopeful_57 (fX3_isHopeful_28 n) x2 x3 x4 x5 P T) else (fX3_isHopeful_57 (fX3_isHopeful_28 n) x2 x3 (x4 + (1 : Int32)) x5 P T))))))
set_option maxRecDepth 10000 in
set_option maxHeartbeats 4000000 in
theorem tX3_isHopeful_28 {nb : Nat} {G : dt_G} {A : Nat → Prop} {p : Program} {l : Launch} {e : Env} {s : State} {m : MethodId} {args : Array Value} {below : List Frame} {meth : Method} {c : Code} (C : dt_Cx nb G A p s m args meth c cX3_isHopeful 6 RX3) (hr : meth.sig.returnType = (some .boolean)) {M : dt_M} {res : Int32}  : ∀ (n : Nat) (x2 : Int32) (x3 : Int32) (x4 : Int32) (x5 : Int32) (P : dt_Ob) (T : dt_Ob), fX3_isHopeful_28 n x2 x3 x4 x5 P T = some res → dt_At G A p l e (dt_rm 3) s m args below meth c 6 (MQ below (dt_Post G A (some (.int res)) (dt_put (dt_put M 14 P) 13 T)) args s 0 0 A) 28 [(0, .ref (G.1 14 0)), (1, .ref (G.1 13 0)), (2, .int x2), (3, .int x3), (4, .int x4), (5, .int x5)] [] (dt_put (dt_put M 14 P) 13 T) := by
  intro n
  induction n with
  | zero =>
    intro x2 x3 x4 x5 P T h
    unfold fX3_isHopeful_28 at h
    cases h
  | succ n ih =>
    intro x2 x3 x4 x5 P T h
    unfold fX3_isHopeful_28 at h
    refine dz_iload (pc := 28) C dX3_isHopeful_28 5 rfl ?_
    refine dz_iload_n (pc := 30) C dX3_isHopeful_30 rfl 2 rfl ?_
    refine dz_icmp_ge (pc := 31) (t := 63) C dX3_isHopeful_31 (by decide) h (fun h => ?_) (fun h => ?_)
    · refine dz_sub [1, 3, 4] rfl ?_
      exact tX3_isHopeful_63 C hr  x3 x4 P T h
    · refine dz_iload (pc := 34) C dX3_isHopeful_34 5 rfl ?_
      refine dz_iconst (pc := 36) (v := (5 : Int32)) C dX3_isHopeful_36 (by decide) ?_
      refine dz_icmp_ge (pc := 37) (t := 63) C dX3_isHopeful_37 (by decide) h (fun h => ?_) (fun h => ?_)
      · refine dz_sub [1, 3, 4] rfl ?_
        exact tX3_isHopeful_63 C hr  x3 x4 P T h
      · refine dz_aload_n (pc := 40) C dX3_isHopeful_40 rfl 1 rfl ?_
        refine dz_aload_n (pc := 41) C dX3_isHopeful_41 rfl 0 rfl ?_
        refine dz_getR (pc := 42) (k := 14) (j := 0) C Fc_X3 hk_14 (by decide) (by decide) rfl fl_X3_11 dX3_isHopeful_42 ?_
        refine dz_iload (pc := 45) C dX3_isHopeful_45 5 rfl ?_
        refine dz_iald (pc := 47) (k := 14) (j := 0) (n := 5) (f := (P 0)) C hk_14 (by decide) rfl rfl dX3_isHopeful_47 h (fun a2 h => ?_)
        obtain ⟨q3, eq3, h⟩ := dt_bind h
        refine dz_callVi (pc := 48) (st := []) (k := 13) (As := [.int ((P 0) a2)]) (M' := (dt_put (dt_put M 14 P) 13 T)) C Fc_X5 hk_13 mf_X5_isBare rfl ml_X3_94 (m_X5_isBare l hk_13 _ _ _ eq3) rfl rfl (by omega) (by decide) (Nat.le_of_ble_eq_true rfl) dX3_isHopeful_48 ?_
        refine dz_if_eq (pc := 51) (t := 57) C dX3_isHopeful_51 (by decide) h (fun h => ?_) (fun h => ?_)
        · exact tX3_isHopeful_57 C hr ih x2 x3 x4 x5 P T h
        · refine dz_iinc (pc := 54) (v := (x4 + (1 : Int32))) C dX3_isHopeful_54 4 rfl rfl (by decide) rfl ?_
          refine dz_sub [1, 2, 3, 4, 0, 5] rfl ?_
          exact tX3_isHopeful_57 C hr ih x2 x3 (x4 + (1 : Int32)) x5 P T h
def fX3_isHopeful  (x2 : Int32) (P : dt_Ob) (T : dt_Ob) : Option (Int32) := ((fX5_tallest T).bind fun q1 => (if ((P 4 0) - q1) ≤ ((P 5 0) - x2) then (fX3_isHopeful_28 dt_F x2 ((P 5 0) - x2) (0 : Int32) (0 : Int32) P T) else (some (0 : Int32))))
set_option maxRecDepth 10000 in
set_option maxHeartbeats 4000000 in
theorem m_X3_isHopeful {nb : Nat} (l : Launch)  (M : dt_M) (P : dt_Ob) (T : dt_Ob)  (x2 : Int32) {res : Int32} (h : fX3_isHopeful x2 P T = some res) : dt_Met nb l yX3_isHopeful cX3_isHopeful 6 (some .boolean) 3 (fun G => [.ref (G.1 14 0), .ref (G.1 13 0), .int x2]) (dt_put (dt_put M 14 P) 13 T) (some (.int res)) (dt_put (dt_put M 14 P) 13 T) := by
  refine dz_enter (lv := fun G => [(0, .ref (G.1 14 0)), (1, .ref (G.1 13 0)), (2, .int x2)]) (by decide) (fun _ => rfl) (fun _ => Nat.le_of_ble_eq_true rfl) (fun G A p e s m args below meth c C hr => ?_)
  unfold fX3_isHopeful at h
  refine dz_aload_n (pc := 0) C dX3_isHopeful_0 rfl 0 rfl ?_
  refine dz_getI (pc := 1) (k := 14) (j := 5) (v := (P 5 0)) C Fc_X3 hk_14 (by decide) rfl rfl fl_X3_28 rfl dX3_isHopeful_1 ?_
  refine dz_iload_n (pc := 4) C dX3_isHopeful_4 rfl 2 rfl ?_
  refine dz_isub (pc := 5) C dX3_isHopeful_5 ?_
  refine dz_istore_n (pc := 6) C dX3_isHopeful_6 rfl (by decide) rfl ?_
  refine dz_aload_n (pc := 7) C dX3_isHopeful_7 rfl 1 rfl ?_
  refine dz_getI (pc := 8) (k := 14) (j := 4) (v := (P 4 0)) C Fc_X3 hk_14 (by decide) rfl rfl fl_X3_24 rfl dX3_isHopeful_8 ?_
  refine dz_aload_n (pc := 11) C dX3_isHopeful_11 rfl 2 rfl ?_
  obtain ⟨q1, eq1, h⟩ := dt_bind h
  refine dz_callVi (pc := 12) (st := [.int (P 4 0)]) (k := 13) (As := []) (M' := (dt_put (dt_put M 14 P) 13 T)) C Fc_X5 hk_13 mf_X5_tallest rfl ml_X3_34 (m_X5_tallest l hk_13 _ _ eq1) rfl rfl (by omega) (by decide) (Nat.le_of_ble_eq_true rfl) dX3_isHopeful_12 ?_
  refine dz_isub (pc := 15) C dX3_isHopeful_15 ?_
  refine dz_iload_n (pc := 16) C dX3_isHopeful_16 rfl 0 rfl ?_
  refine dz_icmp_le (pc := 17) (t := 22) C dX3_isHopeful_17 (by decide) h (fun h => ?_) (fun h => ?_)
  · refine dz_iconst (pc := 22) (v := (0 : Int32)) C dX3_isHopeful_22 (by decide) ?_
    refine dz_istore (pc := 23) C dX3_isHopeful_23 (by decide) rfl ?_
    refine dz_iconst (pc := 25) (v := (0 : Int32)) C dX3_isHopeful_25 (by decide) ?_
    refine dz_istore (pc := 26) C dX3_isHopeful_26 (by decide) rfl ?_
    refine dz_sub [3, 4, 5, 2, 1, 0] rfl ?_
    exact tX3_isHopeful_28 C hr dt_F x2 ((P 5 0) - x2) (0 : Int32) (0 : Int32) P T h
  · refine dz_iconst (pc := 20) (v := (0 : Int32)) C dX3_isHopeful_20 (by decide) ?_
    cases dt_some h
    exact dz_zret (pc := 21) C hr (Or.inl rfl) dX3_isHopeful_21

def fX3_step_151 (rc : Int32 → Int32 → dt_Ob → dt_Ob → Option (dt_Ob × dt_Ob))  (x4 : Int32) (x6 : Int32) (P : dt_Ob) (T : dt_Ob) : Option (dt_Ob × dt_Ob) := ((fX5_lift x4 x6 T).bind fun q11 => (some (P, q11)))
set_option maxRecDepth 10000 in
set_option maxHeartbeats 4000000 in
theorem tX3_step_151 {nb : Nat} {G : dt_G} {A : Nat → Prop} {p : Program} {l : Launch} {e : Env} {s : State} {m : MethodId} {args : Array Value} {below : List Frame} {meth : Method} {c : Code} (C : dt_Cx nb G A p s m args meth c cX3_step 10 RX3) (hr : meth.sig.returnType = none) {M : dt_M} {hN : Nat} (hGB : 4 ≤ hN) {rc : Int32 → Int32 → dt_Ob → dt_Ob → Option (dt_Ob × dt_Ob)} (hrc : ∀ (M : dt_M) (P : dt_Ob) (T : dt_Ob) (x2 : Int32) (x3 : Int32) {res : dt_Ob × dt_Ob}, rc x2 x3 P T = some res → dt_Met nb l yX3_search cX3_search 6 none hN (fun G => [.ref (G.1 14 0), .ref (G.1 13 0), .int x2, .int x3]) (dt_put (dt_put M 14 P) 13 T) none (dt_put (dt_put M 14 res.1) 13 res.2)) {res : dt_Ob × dt_Ob}  : ∀ (x4 : Int32) (x6 : Int32) (P : dt_Ob) (T : dt_Ob), fX3_step_151 rc x4 x6 P T = some res → dt_At G A p l e (dt_rm (hN + 1)) s m args below meth c 10 (MQ below (dt_Post G A none (dt_put (dt_put M 14 res.1) 13 res.2)) args s 0 0 A) 151 [(1, .ref (G.1 13 0)), (4, .int x4), (6, .int x6)] [] (dt_put (dt_put M 14 P) 13 T) := by
  intro x4 x6 P T h
  unfold fX3_step_151 at h
  refine dz_aload_n (pc := 151) C dX3_step_151 rfl 0 rfl ?_
  refine dz_iload (pc := 152) C dX3_step_152 1 rfl ?_
  refine dz_iload (pc := 154) C dX3_step_154 2 rfl ?_
  obtain ⟨q11, eq11, h⟩ := dt_bind h
  refine dz_callVv (pc := 156) (st := []) (k := 13) (As := [.int x4, .int x6]) (M' := (dt_put (dt_put M 14 P) 13 q11)) C Fc_X5 hk_13 mf_X5_lift rfl ml_X3_84 (m_X5_lift l hk_13 _ _ _ _ eq11) rfl rfl (by omega) (by decide) (Nat.le_of_ble_eq_true rfl) dX3_step_156 ?_
  cases dt_some h
  exact dz_vret (pc := 159) C hr dX3_step_159
def fX3_step_74 (rc : Int32 → Int32 → dt_Ob → dt_Ob → Option (dt_Ob × dt_Ob))  (x2 : Int32) (x4 : Int32) (x5 : Int32) (x6 : Int32) (x8 : Int32) (x9 : Int32) (P : dt_Ob) (T : dt_Ob) : Option (dt_Ob × dt_Ob) := ((fX3_cameLate x2 x4 x5 P T).bind fun q4 => (if q4 = 0 then ((fX5_raise x4 x5 T).bind fun q5 => (if q5.1 = 0 then ((dt_ix x2 5).bind fun a6 => ((dt_ix x2 5).bind fun a7 => (if x9 = 0 then ((fX3_isHopeful (x2 + (1 : Int32)) (dt_set (dt_set P 0 a6 x4) 1 a7 x5) q5.2).bind fun q8 => (if q8 = 0 then (fX3_step_151 rc x4 x6 (dt_set (dt_set P 0 a6 x4) 1 a7 x5) q5.2) else ((rc (x2 + (1 : Int32)) x8 (dt_set (dt_set P 0 a6 x4) 1 a7 x5) q5.2).bind fun q9 => (fX3_step_151 rc x4 x6 q9.1 q9.2)))) else ((fX3_keep x8 (dt_set (dt_set P 0 a6 x4) 1 a7 x5) q5.2).bind fun q10 => (fX3_step_151 rc x4 x6 q10.1 q10.2))))) else (some (P, q5.2)))) else (some (P, T))))
set_option maxRecDepth 10000 in
set_option maxHeartbeats 4000000 in
theorem tX3_step_74 {nb : Nat} {G : dt_G} {A : Nat → Prop} {p : Program} {l : Launch} {e : Env} {s : State} {m : MethodId} {args : Array Value} {below : List Frame} {meth : Method} {c : Code} (C : dt_Cx nb G A p s m args meth c cX3_step 10 RX3) (hr : meth.sig.returnType = none) {M : dt_M} {hN : Nat} (hGB : 4 ≤ hN) {rc : Int32 → Int32 → dt_Ob → dt_Ob → Option (dt_Ob × dt_Ob)} (hrc : ∀ (M : dt_M) (P : dt_Ob) (T : dt_Ob) (x2 : Int32) (x3 : Int32) {res : dt_Ob × dt_Ob}, rc x2 x3 P T = some res → dt_Met nb l yX3_search cX3_search 6 none hN (fun G => [.ref (G.1 14 0), .ref (G.1 13 0), .int x2, .int x3]) (dt_put (dt_put M 14 P) 13 T) none (dt_put (dt_put M 14 res.1) 13 res.2)) {res : dt_Ob × dt_Ob}  : ∀ (x2 : Int32) (x4 : Int32) (x5 : Int32) (x6 : Int32) (x8 : Int32) (x9 : Int32) (P : dt_Ob) (T : dt_Ob), fX3_step_74 rc x2 x4 x5 x6 x8 x9 P T = some res → dt_At G A p l e (dt_rm (hN + 1)) s m args below meth c 10 (MQ below (dt_Post G A none (dt_put (dt_put M 14 res.1) 13 res.2)) args s 0 0 A) 74 [(0, .ref (G.1 14 0)), (1, .ref (G.1 13 0)), (2, .int x2), (4, .int x4), (5, .int x5), (6, .int x6), (8, .int x8), (9, .int x9)] [] (dt_put (dt_put M 14 P) 13 T) := by
  intro x2 x4 x5 x6 x8 x9 P T h
  unfold fX3_step_74 at h
  refine dz_aload_n (pc := 74) C dX3_step_74 rfl 0 rfl ?_
  refine dz_aload_n (pc := 75) C dX3_step_75 rfl 1 rfl ?_
  refine dz_iload_n (pc := 76) C dX3_step_76 rfl 2 rfl ?_
  refine dz_iload (pc := 77) C dX3_step_77 3 rfl ?_
  refine dz_iload (pc := 79) C dX3_step_79 4 rfl ?_
  obtain ⟨q4, eq4, h⟩ := dt_bind h
  refine dz_callVi (pc := 81) (st := []) (k := 14) (As := [.ref (G.1 13 0), .int x2, .int x4, .int x5]) (M' := (dt_put (dt_put M 14 P) 13 T)) C Fc_X3 hk_14 mf_X3_cameLate rfl ml_X3_69 (m_X3_cameLate l _ _ _ _ _ _ eq4) rfl rfl (by omega) (by decide) (Nat.le_of_ble_eq_true rfl) dX3_step_81 ?_
  refine dz_if_eq (pc := 84) (t := 88) C dX3_step_84 (by decide) h (fun h => ?_) (fun h => ?_)
  · refine dz_aload_n (pc := 88) C dX3_step_88 rfl 1 rfl ?_
    refine dz_iload (pc := 89) C dX3_step_89 3 rfl ?_
    refine dz_iload (pc := 91) C dX3_step_91 4 rfl ?_
    obtain ⟨q5, eq5, h⟩ := dt_bind h
    refine dz_callVi (pc := 93) (st := []) (k := 13) (As := [.int x4, .int x5]) (M' := (dt_put (dt_put M 14 P) 13 q5.2)) C Fc_X5 hk_13 mf_X5_raise rfl ml_X3_73 (m_X5_raise l hk_13 _ _ _ _ eq5) rfl rfl (by omega) (by decide) (Nat.le_of_ble_eq_true rfl) dX3_step_93 ?_
    refine dz_if_eq (pc := 96) (t := 100) C dX3_step_96 (by decide) h (fun h => ?_) (fun h => ?_)
    · refine dz_aload_n (pc := 100) C dX3_step_100 rfl 0 rfl ?_
      refine dz_getR (pc := 101) (k := 14) (j := 0) C Fc_X3 hk_14 (by decide) (by decide) rfl fl_X3_11 dX3_step_101 ?_
      refine dz_iload_n (pc := 104) C dX3_step_104 rfl 2 rfl ?_
      refine dz_iload (pc := 105) C dX3_step_105 3 rfl ?_
      refine dz_iast (pc := 107) (k := 14) (j := 0) (n := 5) (M' := fun a6 => (dt_put (dt_put M 14 (dt_set P 0 a6 x4)) 13 q5.2)) C hk_14 (by decide) rfl (fun a6 => (dt_wB _ (by decide) _ _ _ _ _)) dX3_step_107 h (fun a6 h => ?_)
      refine dz_aload_n (pc := 108) C dX3_step_108 rfl 0 rfl ?_
      refine dz_getR (pc := 109) (k := 14) (j := 1) C Fc_X3 hk_14 (by decide) (by decide) rfl fl_X3_15 dX3_step_109 ?_
      refine dz_iload_n (pc := 112) C dX3_step_112 rfl 2 rfl ?_
      refine dz_iload (pc := 113) C dX3_step_113 4 rfl ?_
      refine dz_iast (pc := 115) (k := 14) (j := 1) (n := 5) (M' := fun a7 => (dt_put (dt_put M 14 (dt_set (dt_set P 0 a6 x4) 1 a7 x5)) 13 q5.2)) C hk_14 (by decide) rfl (fun a7 => (dt_wB _ (by decide) _ _ _ _ _)) dX3_step_115 h (fun a7 h => ?_)
      refine dz_iload (pc := 116) C dX3_step_116 7 rfl ?_
      refine dz_if_eq (pc := 118) (t := 130) C dX3_step_118 (by decide) h (fun h => ?_) (fun h => ?_)
      · refine dz_aload_n (pc := 130) C dX3_step_130 rfl 0 rfl ?_
        refine dz_aload_n (pc := 131) C dX3_step_131 rfl 1 rfl ?_
        refine dz_iload_n (pc := 132) C dX3_step_132 rfl 2 rfl ?_
        refine dz_iconst (pc := 133) (v := (1 : Int32)) C dX3_step_133 (by decide) ?_
        refine dz_iadd (pc := 134) C dX3_step_134 ?_
        obtain ⟨q8, eq8, h⟩ := dt_bind h
        refine dz_callVi (pc := 135) (st := []) (k := 14) (As := [.ref (G.1 13 0), .int (x2 + (1 : Int32))]) (M' := (dt_put (dt_put M 14 (dt_set (dt_set P 0 a6 x4) 1 a7 x5)) 13 q5.2)) C Fc_X3 hk_14 mf_X3_isHopeful rfl ml_X3_80 (m_X3_isHopeful l _ _ _ _ eq8) rfl rfl (by omega) (by decide) (Nat.le_of_ble_eq_true rfl) dX3_step_135 ?_
        refine dz_if_eq (pc := 138) (t := 151) C dX3_step_138 (by decide) h (fun h => ?_) (fun h => ?_)
        · refine dz_sub [1, 3, 5] rfl ?_
          exact tX3_step_151 C hr hGB hrc  x4 x6 (dt_set (dt_set P 0 a6 x4) 1 a7 x5) q5.2 h
        · refine dz_aload_n (pc := 141) C dX3_step_141 rfl 0 rfl ?_
          refine dz_aload_n (pc := 142) C dX3_step_142 rfl 1 rfl ?_
          refine dz_iload_n (pc := 143) C dX3_step_143 rfl 2 rfl ?_
          refine dz_iconst (pc := 144) (v := (1 : Int32)) C dX3_step_144 (by decide) ?_
          refine dz_iadd (pc := 145) C dX3_step_145 ?_
          refine dz_iload (pc := 146) C dX3_step_146 6 rfl ?_
          obtain ⟨q9, eq9, h⟩ := dt_bind h
          refine dz_callVv (pc := 148) (st := []) (k := 14) (As := [.ref (G.1 13 0), .int (x2 + (1 : Int32)), .int x8]) (M' := (dt_put (dt_put M 14 q9.1) 13 q9.2)) C Fc_X3 hk_14 mf_X3_search rfl ml_X3_41 (hrc _ _ _ _ _ eq9) rfl rfl (by omega) (by decide) (Nat.le_of_ble_eq_true rfl) dX3_step_148 ?_
          refine dz_sub [1, 3, 5] rfl ?_
          exact tX3_step_151 C hr hGB hrc  x4 x6 q9.1 q9.2 h
      · refine dz_aload_n (pc := 121) C dX3_step_121 rfl 0 rfl ?_
        refine dz_iload (pc := 122) C dX3_step_122 6 rfl ?_
        obtain ⟨q10, eq10, h⟩ := dt_bind h
        refine dz_callVv (pc := 124) (st := []) (k := 14) (As := [.int x8]) (M' := (dt_put (dt_put M 14 q10.1) 13 q10.2)) C Fc_X3 hk_14 mf_X3_keep rfl ml_X3_76 (m_X3_keep l _ _ _ _ eq10) rfl rfl (by omega) (by decide) (Nat.le_of_ble_eq_true rfl) dX3_step_124 ?_
        refine dz_goto (pc := 127) (t := 151) C dX3_step_127 (by decide) ?_
        refine dz_sub [1, 3, 5] rfl ?_
        exact tX3_step_151 C hr hGB hrc  x4 x6 q10.1 q10.2 h
    · cases dt_some h
      exact dz_vret (pc := 99) C hr dX3_step_99
  · cases dt_some h
    exact dz_vret (pc := 87) C hr dX3_step_87
def fX3_step_47 (rc : Int32 → Int32 → dt_Ob → dt_Ob → Option (dt_Ob × dt_Ob))  (x2 : Int32) (x4 : Int32) (x5 : Int32) (x6 : Int32) (x7 : Int32) (x8 : Int32) (s0 : Int32) (P : dt_Ob) (T : dt_Ob) : Option (dt_Ob × dt_Ob) := (if (P 6 0) ≤ x8 then (some (P, T)) else (if s0 = 0 then (fX3_step_74 rc x2 x4 x5 x6 x8 s0 P T) else (if (x7 + (1 : Int32)) < (P 4 0) then (some (P, T)) else (fX3_step_74 rc x2 x4 x5 x6 x8 s0 P T))))
set_option maxRecDepth 10000 in
set_option maxHeartbeats 4000000 in
theorem tX3_step_47 {nb : Nat} {G : dt_G} {A : Nat → Prop} {p : Program} {l : Launch} {e : Env} {s : State} {m : MethodId} {args : Array Value} {below : List Frame} {meth : Method} {c : Code} (C : dt_Cx nb G A p s m args meth c cX3_step 10 RX3) (hr : meth.sig.returnType = none) {M : dt_M} {hN : Nat} (hGB : 4 ≤ hN) {rc : Int32 → Int32 → dt_Ob → dt_Ob → Option (dt_Ob × dt_Ob)} (hrc : ∀ (M : dt_M) (P : dt_Ob) (T : dt_Ob) (x2 : Int32) (x3 : Int32) {res : dt_Ob × dt_Ob}, rc x2 x3 P T = some res → dt_Met nb l yX3_search cX3_search 6 none hN (fun G => [.ref (G.1 14 0), .ref (G.1 13 0), .int x2, .int x3]) (dt_put (dt_put M 14 P) 13 T) none (dt_put (dt_put M 14 res.1) 13 res.2)) {res : dt_Ob × dt_Ob}  : ∀ (x2 : Int32) (x4 : Int32) (x5 : Int32) (x6 : Int32) (x7 : Int32) (x8 : Int32) (s0 : Int32) (P : dt_Ob) (T : dt_Ob), fX3_step_47 rc x2 x4 x5 x6 x7 x8 s0 P T = some res → dt_At G A p l e (dt_rm (hN + 1)) s m args below meth c 10 (MQ below (dt_Post G A none (dt_put (dt_put M 14 res.1) 13 res.2)) args s 0 0 A) 47 [(0, .ref (G.1 14 0)), (1, .ref (G.1 13 0)), (2, .int x2), (4, .int x4), (5, .int x5), (6, .int x6), (7, .int x7), (8, .int x8)] [.int s0] (dt_put (dt_put M 14 P) 13 T) := by
  intro x2 x4 x5 x6 x7 x8 s0 P T h
  unfold fX3_step_47 at h
  refine dz_istore (pc := 47) C dX3_step_47 (by decide) rfl ?_
  refine dz_iload (pc := 49) C dX3_step_49 8 rfl ?_
  refine dz_aload_n (pc := 51) C dX3_step_51 rfl 1 rfl ?_
  refine dz_getI (pc := 52) (k := 14) (j := 6) (v := (P 6 0)) C Fc_X3 hk_14 (by decide) rfl rfl fl_X3_31 rfl dX3_step_52 ?_
  refine dz_icmp_ge (pc := 55) (t := 87) C dX3_step_55 (by decide) h (fun h => ?_) (fun h => ?_)
  · cases dt_some h
    exact dz_vret (pc := 87) C hr dX3_step_87
  · refine dz_iload (pc := 58) C dX3_step_58 0 rfl ?_
    refine dz_if_eq (pc := 60) (t := 74) C dX3_step_60 (by decide) h (fun h => ?_) (fun h => ?_)
    · refine dz_sub [1, 2, 3, 4, 5, 6, 8, 0] rfl ?_
      exact tX3_step_74 C hr hGB hrc  x2 x4 x5 x6 x8 s0 P T h
    · refine dz_iload (pc := 63) C dX3_step_63 7 rfl ?_
      refine dz_iconst (pc := 65) (v := (1 : Int32)) C dX3_step_65 (by decide) ?_
      refine dz_iadd (pc := 66) C dX3_step_66 ?_
      refine dz_aload_n (pc := 67) C dX3_step_67 rfl 1 rfl ?_
      refine dz_getI (pc := 68) (k := 14) (j := 4) (v := (P 4 0)) C Fc_X3 hk_14 (by decide) rfl rfl fl_X3_24 rfl dX3_step_68 ?_
      refine dz_icmp_lt (pc := 71) (t := 87) C dX3_step_71 (by decide) h (fun h => ?_) (fun h => ?_)
      · cases dt_some h
        exact dz_vret (pc := 87) C hr dX3_step_87
      · refine dz_sub [1, 2, 3, 4, 5, 6, 8, 0] rfl ?_
        exact tX3_step_74 C hr hGB hrc  x2 x4 x5 x6 x8 s0 P T h
def fX3_step (rc : Int32 → Int32 → dt_Ob → dt_Ob → Option (dt_Ob × dt_Ob))  (x2 : Int32) (x3 : Int32) (x4 : Int32) (x5 : Int32) (P : dt_Ob) (T : dt_Ob) : Option (dt_Ob × dt_Ob) := ((dt_ix x4 20).bind fun a1 => ((fX5_levelFor x4 x5 T).bind fun q2 => ((fX9_costOf ((T 6) a1) x5 q2).bind fun q3 => (if x2 = ((P 5 0) - (1 : Int32)) then (fX3_step_47 rc x2 x4 x5 ((T 6) a1) q2 (x3 + q3) (1 : Int32) P T) else (fX3_step_47 rc x2 x4 x5 ((T 6) a1) q2 (x3 + q3) (0 : Int32) P T)))))
set_option maxRecDepth 10000 in
set_option maxHeartbeats 4000000 in
theorem m_X3_step {nb : Nat} (l : Launch) {hN : Nat} (hGB : 4 ≤ hN) {rc : Int32 → Int32 → dt_Ob → dt_Ob → Option (dt_Ob × dt_Ob)} (hrc : ∀ (M : dt_M) (P : dt_Ob) (T : dt_Ob) (x2 : Int32) (x3 : Int32) {res : dt_Ob × dt_Ob}, rc x2 x3 P T = some res → dt_Met nb l yX3_search cX3_search 6 none hN (fun G => [.ref (G.1 14 0), .ref (G.1 13 0), .int x2, .int x3]) (dt_put (dt_put M 14 P) 13 T) none (dt_put (dt_put M 14 res.1) 13 res.2)) (M : dt_M) (P : dt_Ob) (T : dt_Ob)  (x2 : Int32) (x3 : Int32) (x4 : Int32) (x5 : Int32) {res : dt_Ob × dt_Ob} (h : fX3_step rc x2 x3 x4 x5 P T = some res) : dt_Met nb l yX3_step cX3_step 10 none (hN + 1) (fun G => [.ref (G.1 14 0), .ref (G.1 13 0), .int x2, .int x3, .int x4, .int x5]) (dt_put (dt_put M 14 P) 13 T) none (dt_put (dt_put M 14 res.1) 13 res.2) := by
  refine dz_enter (lv := fun G => [(0, .ref (G.1 14 0)), (1, .ref (G.1 13 0)), (2, .int x2), (3, .int x3), (4, .int x4), (5, .int x5)]) (by decide) (fun _ => rfl) (fun _ => Nat.le_of_ble_eq_true rfl) (fun G A p e s m args below meth c C hr => ?_)
  unfold fX3_step at h
  refine dz_aload_n (pc := 0) C dX3_step_0 rfl 1 rfl ?_
  refine dz_getR (pc := 1) (k := 13) (j := 6) C Fc_X5 hk_13 (by decide) (by decide) rfl fl_X3_48 dX3_step_1 ?_
  refine dz_iload (pc := 4) C dX3_step_4 4 rfl ?_
  refine dz_iald (pc := 6) (k := 13) (j := 6) (n := 20) (f := (T 6)) C hk_13 (by decide) rfl rfl dX3_step_6 h (fun a1 h => ?_)
  refine dz_istore (pc := 7) C dX3_step_7 (by decide) rfl ?_
  refine dz_aload_n (pc := 9) C dX3_step_9 rfl 2 rfl ?_
  refine dz_iload (pc := 10) C dX3_step_10 5 rfl ?_
  refine dz_iload (pc := 12) C dX3_step_12 6 rfl ?_
  obtain ⟨q2, eq2, h⟩ := dt_bind h
  refine dz_callVi (pc := 14) (st := []) (k := 13) (As := [.int x4, .int x5]) (M' := (dt_put (dt_put M 14 P) 13 T)) C Fc_X5 hk_13 mf_X5_levelFor rfl ml_X3_61 (m_X5_levelFor l hk_13 _ _ _ _ eq2) rfl rfl (by omega) (by decide) (Nat.le_of_ble_eq_true rfl) dX3_step_14 ?_
  refine dz_istore (pc := 17) C dX3_step_17 (by decide) rfl ?_
  refine dz_iload_n (pc := 19) C dX3_step_19 rfl 5 rfl ?_
  refine dz_iload (pc := 20) C dX3_step_20 1 rfl ?_
  refine dz_iload (pc := 22) C dX3_step_22 7 rfl ?_
  refine dz_iload (pc := 24) C dX3_step_24 0 rfl ?_
  obtain ⟨q3, eq3, h⟩ := dt_bind h
  refine dz_callSNi (pc := 26) (st := [.int x3]) (As := [.int ((T 6) a1), .int x5, .int q2]) (M' := (dt_put (dt_put M 14 P) 13 T)) C ms_X9_costOf C.2.1.2.2.2.1 (m_X9_costOf l _ _ _ _ eq3) rfl rfl (by omega) (by decide) (Nat.le_of_ble_eq_true rfl) dX3_step_26 ?_
  refine dz_iadd (pc := 29) C dX3_step_29 ?_
  refine dz_istore (pc := 30) C dX3_step_30 (by decide) rfl ?_
  refine dz_iload_n (pc := 32) C dX3_step_32 rfl 5 rfl ?_
  refine dz_aload_n (pc := 33) C dX3_step_33 rfl 3 rfl ?_
  refine dz_getI (pc := 34) (k := 14) (j := 5) (v := (P 5 0)) C Fc_X3 hk_14 (by decide) rfl rfl fl_X3_28 rfl dX3_step_34 ?_
  refine dz_iconst (pc := 37) (v := (1 : Int32)) C dX3_step_37 (by decide) ?_
  refine dz_isub (pc := 38) C dX3_step_38 ?_
  refine dz_icmp_ne (pc := 39) (t := 46) C dX3_step_39 (by decide) h (fun h => ?_) (fun h => ?_)
  · refine dz_iconst (pc := 46) (v := (0 : Int32)) C dX3_step_46 (by decide) ?_
    refine dz_sub [3, 4, 5, 7, 8, 2, 1, 0] rfl ?_
    exact tX3_step_47 C hr hGB hrc  x2 x4 x5 ((T 6) a1) q2 (x3 + q3) (0 : Int32) P T h
  · refine dz_iconst (pc := 42) (v := (1 : Int32)) C dX3_step_42 (by decide) ?_
    refine dz_goto (pc := 43) (t := 47) C dX3_step_43 (by decide) ?_
    refine dz_sub [3, 4, 5, 7, 8, 2, 1, 0] rfl ?_
    exact tX3_step_47 C hr hGB hrc  x2 x4 x5 ((T 6) a1) q2 (x3 + q3) (1 : Int32) P T h

def fX3_search_66 (rc : Int32 → Int32 → dt_Ob → dt_Ob → Option (dt_Ob × dt_Ob)) (r9 : Int32 → Int32 → Int32 → dt_Ob → dt_Ob → Option (dt_Ob × dt_Ob)) (x2 : Int32) (x3 : Int32) (x4 : Int32) (P : dt_Ob) (T : dt_Ob) : Option (dt_Ob × dt_Ob) := (r9 x2 x3 (x4 + (1 : Int32)) P T)
set_option maxRecDepth 10000 in
set_option maxHeartbeats 4000000 in
theorem tX3_search_66 {nb : Nat} {G : dt_G} {A : Nat → Prop} {p : Program} {l : Launch} {e : Env} {s : State} {m : MethodId} {args : Array Value} {below : List Frame} {meth : Method} {c : Code} (C : dt_Cx nb G A p s m args meth c cX3_search 6 RX3) (hr : meth.sig.returnType = none) {M : dt_M} {hN : Nat} (hGB : 4 ≤ hN) {rc : Int32 → Int32 → dt_Ob → dt_Ob → Option (dt_Ob × dt_Ob)} (hrc : ∀ (M : dt_M) (P : dt_Ob) (T : dt_Ob) (x2 : Int32) (x3 : Int32) {res : dt_Ob × dt_Ob}, rc x2 x3 P T = some res → dt_Met nb l yX3_search cX3_search 6 none hN (fun G => [.ref (G.1 14 0), .ref (G.1 13 0), .int x2, .int x3]) (dt_put (dt_put M 14 P) 13 T) none (dt_put (dt_put M 14 res.1) 13 res.2)) {res : dt_Ob × dt_Ob} {r9 : Int32 → Int32 → Int32 → dt_Ob → dt_Ob → Option (dt_Ob × dt_Ob)} (hr9 : ∀ (x2 : Int32) (x3 : Int32) (x4 : Int32) (P : dt_Ob) (T : dt_Ob), r9 x2 x3 x4 P T = some res → dt_At G A p l e (dt_rm (hN + 2)) s m args below meth c 6 (MQ below (dt_Post G A none (dt_put (dt_put M 14 res.1) 13 res.2)) args s 0 0 A) 9 [(0, .ref (G.1 14 0)), (1, .ref (G.1 13 0)), (2, .int x2), (3, .int x3), (4, .int x4)] [] (dt_put (dt_put M 14 P) 13 T)) : ∀ (x2 : Int32) (x3 : Int32) (x4 : Int32) (P : dt_Ob) (T : dt_Ob), fX3_search_66 rc r9 x2 x3 x4 P T = some res → dt_At G A p l e (dt_rm (hN + 2)) s m args below meth c 6 (MQ below (dt_Post G A none (dt_put (dt_put M 14 res.1) 13 res.2)) args s 0 0 A) 66 [(0, .ref (G.1 14 0)), (1, .ref (G.1 13 0)), (2, .int x2), (3, .int x3), (4, .int x4)] [] (dt_put (dt_put M 14 P) 13 T) := by
  intro x2 x3 x4 P T h
  unfold fX3_search_66 at h
  refine dz_iinc (pc := 66) (v := (x4 + (1 : Int32))) C dX3_search_66 4 rfl rfl (by decide) rfl ?_
  refine dz_goto (pc := 69) (t := 9) C dX3_search_69 (by decide) ?_
  refine dz_sub [1, 2, 3, 4, 0] rfl ?_
  exact hr9 x2 x3 (x4 + (1 : Int32)) P T h
def fX3_search_32 (rc : Int32 → Int32 → dt_Ob → dt_Ob → Option (dt_Ob × dt_Ob)) (r9 : Int32 → Int32 → Int32 → dt_Ob → dt_Ob → Option (dt_Ob × dt_Ob)) : Nat → Int32 → Int32 → Int32 → Int32 → dt_Ob → dt_Ob → Option (dt_Ob × dt_Ob)
  | 0, _, _, _, _, _, _ => none
  | n + 1, x2, x3, x4, x5, P, T => ((dt_ix x4 20).bind fun a2 => (if ((T 0 0) - ((T 2) a2)) < x5 then (fX3_search_66 rc r9 x2 x3 x4 P T) else ((fX3_step rc x2 x3 x4 x5 P T).bind fun q3 => ((fX3_search_32 rc r9 n) x2 x3 x4 (x5 + (1 : Int32)) q3.1 q3.2))))
set_option maxRecDepth 10000 in
set_option maxHeartbeats 4000000 in
theorem tX3_search_32 {nb : Nat} {G : dt_G} {A : Nat → Prop} {p : Program} {l : Launch} {e : Env} {s : State} {m : MethodId} {args : Array Value} {below : List Frame} {meth : Method} {c : Code} (C : dt_Cx nb G A p s m args meth c cX3_search 6 RX3) (hr : meth.sig.returnType = none) {M : dt_M} {hN : Nat} (hGB : 4 ≤ hN) {rc : Int32 → Int32 → dt_Ob → dt_Ob → Option (dt_Ob × dt_Ob)} (hrc : ∀ (M : dt_M) (P : dt_Ob) (T : dt_Ob) (x2 : Int32) (x3 : Int32) {res : dt_Ob × dt_Ob}, rc x2 x3 P T = some res → dt_Met nb l yX3_search cX3_search 6 none hN (fun G => [.ref (G.1 14 0), .ref (G.1 13 0), .int x2, .int x3]) (dt_put (dt_put M 14 P) 13 T) none (dt_put (dt_put M 14 res.1) 13 res.2)) {res : dt_Ob × dt_Ob} {r9 : Int32 → Int32 → Int32 → dt_Ob → dt_Ob → Option (dt_Ob × dt_Ob)} (hr9 : ∀ (x2 : Int32) (x3 : Int32) (x4 : Int32) (P : dt_Ob) (T : dt_Ob), r9 x2 x3 x4 P T = some res → dt_At G A p l e (dt_rm (hN + 2)) s m args below meth c 6 (MQ below (dt_Post G A none (dt_put (dt_put M 14 res.1) 13 res.2)) args s 0 0 A) 9 [(0, .ref (G.1 14 0)), (1, .ref (G.1 13 0)), (2, .int x2), (3, .int x3), (4, .int x4)] [] (dt_put (dt_put M 14 P) 13 T)) : ∀ (n : Nat) (x2 : Int32) (x3 : Int32) (x4 : Int32) (x5 : Int32) (P : dt_Ob) (T : dt_Ob), fX3_search_32 rc r9 n x2 x3 x4 x5 P T = some res → dt_At G A p l e (dt_rm (hN + 2)) s m args below meth c 6 (MQ below (dt_Post G A none (dt_put (dt_put M 14 res.1) 13 res.2)) args s 0 0 A) 32 [(0, .ref (G.1 14 0)), (1, .ref (G.1 13 0)), (2, .int x2), (3, .int x3), (4, .int x4), (5, .int x5)] [] (dt_put (dt_put M 14 P) 13 T) := by
  intro n
  induction n with
  | zero =>
    intro x2 x3 x4 x5 P T h
    unfold fX3_search_32 at h
    cases h
  | succ n ih =>
    intro x2 x3 x4 x5 P T h
    unfold fX3_search_32 at h
    refine dz_iload (pc := 32) C dX3_search_32 5 rfl ?_
    refine dz_aload_n (pc := 34) C dX3_search_34 rfl 1 rfl ?_
    refine dz_getI (pc := 35) (k := 13) (j := 0) (v := (T 0 0)) C Fc_X5 hk_13 (by decide) rfl rfl fl_X3_51 rfl dX3_search_35 ?_
    refine dz_aload_n (pc := 38) C dX3_search_38 rfl 1 rfl ?_
    refine dz_getR (pc := 39) (k := 13) (j := 2) C Fc_X5 hk_13 (by decide) (by decide) rfl fl_X3_54 dX3_search_39 ?_
    refine dz_iload (pc := 42) C dX3_search_42 4 rfl ?_
    refine dz_iald (pc := 44) (k := 13) (j := 2) (n := 20) (f := (T 2)) C hk_13 (by decide) rfl rfl dX3_search_44 h (fun a2 h => ?_)
    refine dz_isub (pc := 45) C dX3_search_45 ?_
    refine dz_icmp_gt (pc := 46) (t := 66) C dX3_search_46 (by decide) h (fun h => ?_) (fun h => ?_)
    · refine dz_sub [0, 1, 2, 3, 4] rfl ?_
      exact tX3_search_66 C hr hGB hrc hr9 x2 x3 x4 P T h
    · refine dz_aload_n (pc := 49) C dX3_search_49 rfl 0 rfl ?_
      refine dz_aload_n (pc := 50) C dX3_search_50 rfl 1 rfl ?_
      refine dz_iload_n (pc := 51) C dX3_search_51 rfl 2 rfl ?_
      refine dz_iload_n (pc := 52) C dX3_search_52 rfl 3 rfl ?_
      refine dz_iload (pc := 53) C dX3_search_53 4 rfl ?_
      refine dz_iload (pc := 55) C dX3_search_55 5 rfl ?_
      obtain ⟨q3, eq3, h⟩ := dt_bind h
      refine dz_callVv (pc := 57) (st := []) (k := 14) (As := [.ref (G.1 13 0), .int x2, .int x3, .int x4, .int x5]) (M' := (dt_put (dt_put M 14 q3.1) 13 q3.2)) C Fc_X3 hk_14 mf_X3_step rfl ml_X3_57 (m_X3_step l hGB hrc _ _ _ _ _ _ _ eq3) rfl rfl (by omega) (by decide) (Nat.le_of_ble_eq_true rfl) dX3_search_57 ?_
      refine dz_iinc (pc := 60) (v := (x5 + (1 : Int32))) C dX3_search_60 5 rfl rfl (by decide) rfl ?_
      refine dz_goto (pc := 63) (t := 32) C dX3_search_63 (by decide) ?_
      refine dz_sub [1, 2, 3, 4, 5, 0] rfl ?_
      exact ih x2 x3 x4 (x5 + (1 : Int32)) q3.1 q3.2 h
def fX3_search_9 (rc : Int32 → Int32 → dt_Ob → dt_Ob → Option (dt_Ob × dt_Ob))  : Nat → Int32 → Int32 → Int32 → dt_Ob → dt_Ob → Option (dt_Ob × dt_Ob)
  | 0, _, _, _, _, _ => none
  | n + 1, x2, x3, x4, P, T => (if (T 1 0) ≤ x4 then (some (P, T)) else ((dt_ix x4 20).bind fun a1 => (if ((T 6) a1) = (-1 : Int32) then (fX3_search_66 rc (fX3_search_9 rc n) x2 x3 x4 P T) else (fX3_search_32 rc (fX3_search_9 rc n) dt_F x2 x3 x4 (0 : Int32) P T))))
set_option maxRecDepth 10000 in
set_option maxHeartbeats 4000000 in
theorem tX3_search_9 {nb : Nat} {G : dt_G} {A : Nat → Prop} {p : Program} {l : Launch} {e : Env} {s : State} {m : MethodId} {args : Array Value} {below : List Frame} {meth : Method} {c : Code} (C : dt_Cx nb G A p s m args meth c cX3_search 6 RX3) (hr : meth.sig.returnType = none) {M : dt_M} {hN : Nat} (hGB : 4 ≤ hN) {rc : Int32 → Int32 → dt_Ob → dt_Ob → Option (dt_Ob × dt_Ob)} (hrc : ∀ (M : dt_M) (P : dt_Ob) (T : dt_Ob) (x2 : Int32) (x3 : Int32) {res : dt_Ob × dt_Ob}, rc x2 x3 P T = some res → dt_Met nb l yX3_search cX3_search 6 none hN (fun G => [.ref (G.1 14 0), .ref (G.1 13 0), .int x2, .int x3]) (dt_put (dt_put M 14 P) 13 T) none (dt_put (dt_put M 14 res.1) 13 res.2)) {res : dt_Ob × dt_Ob}  : ∀ (n : Nat) (x2 : Int32) (x3 : Int32) (x4 : Int32) (P : dt_Ob) (T : dt_Ob), fX3_search_9 rc n x2 x3 x4 P T = some res → dt_At G A p l e (dt_rm (hN + 2)) s m args below meth c 6 (MQ below (dt_Post G A none (dt_put (dt_put M 14 res.1) 13 res.2)) args s 0 0 A) 9 [(0, .ref (G.1 14 0)), (1, .ref (G.1 13 0)), (2, .int x2), (3, .int x3), (4, .int x4)] [] (dt_put (dt_put M 14 P) 13 T) := by
  intro n
  induction n with
  | zero =>
    intro x2 x3 x4 P T h
    unfold fX3_search_9 at h
    cases h
  | succ n ih =>
    intro x2 x3 x4 P T h
    unfold fX3_search_9 at h
    refine dz_iload (pc := 9) C dX3_search_9 4 rfl ?_
    refine dz_aload_n (pc := 11) C dX3_search_11 rfl 1 rfl ?_
    refine dz_getI (pc := 12) (k := 13) (j := 1) (v := (T 1 0)) C Fc_X5 hk_13 (by decide) rfl rfl fl_X3_45 rfl dX3_search_12 ?_
    refine dz_icmp_ge (pc := 15) (t := 72) C dX3_search_15 (by decide) h (fun h => ?_) (fun h => ?_)
    · cases dt_some h
      exact dz_vret (pc := 72) C hr dX3_search_72
    · refine dz_aload_n (pc := 18) C dX3_search_18 rfl 1 rfl ?_
      refine dz_getR (pc := 19) (k := 13) (j := 6) C Fc_X5 hk_13 (by decide) (by decide) rfl fl_X3_48 dX3_search_19 ?_
      refine dz_iload (pc := 22) C dX3_search_22 4 rfl ?_
      refine dz_iald (pc := 24) (k := 13) (j := 6) (n := 20) (f := (T 6)) C hk_13 (by decide) rfl rfl dX3_search_24 h (fun a1 h => ?_)
      refine dz_iconst (pc := 25) (v := (-1 : Int32)) C dX3_search_25 (by decide) ?_
      refine dz_icmp_eq (pc := 26) (t := 66) C dX3_search_26 (by decide) h (fun h => ?_) (fun h => ?_)
      · exact tX3_search_66 C hr hGB hrc ih x2 x3 x4 P T h
      · refine dz_iconst (pc := 29) (v := (0 : Int32)) C dX3_search_29 (by decide) ?_
        refine dz_istore (pc := 30) C dX3_search_30 (by decide) rfl ?_
        refine dz_sub [1, 2, 3, 4, 5, 0] rfl ?_
        exact tX3_search_32 C hr hGB hrc ih dt_F x2 x3 x4 (0 : Int32) P T h
def fX3_search_b (rc : Int32 → Int32 → dt_Ob → dt_Ob → Option (dt_Ob × dt_Ob))  (x2 : Int32) (x3 : Int32) (P : dt_Ob) (T : dt_Ob) : Option (dt_Ob × dt_Ob) := (if x2 < (5 : Int32) then (fX3_search_9 rc dt_F x2 x3 (0 : Int32) P T) else (some (P, T)))
def fX3_search  : Nat → Int32 → Int32 → dt_Ob → dt_Ob → Option (dt_Ob × dt_Ob)
  | 0, _, _, _, _ => none
  | n + 1, x2, x3, P, T => fX3_search_b (fX3_search n) x2 x3 P T
set_option maxRecDepth 10000 in
set_option maxHeartbeats 4000000 in
theorem m_X3_search_b {nb : Nat} (l : Launch) {hN : Nat} (hGB : 4 ≤ hN) {rc : Int32 → Int32 → dt_Ob → dt_Ob → Option (dt_Ob × dt_Ob)} (hrc : ∀ (M : dt_M) (P : dt_Ob) (T : dt_Ob) (x2 : Int32) (x3 : Int32) {res : dt_Ob × dt_Ob}, rc x2 x3 P T = some res → dt_Met nb l yX3_search cX3_search 6 none hN (fun G => [.ref (G.1 14 0), .ref (G.1 13 0), .int x2, .int x3]) (dt_put (dt_put M 14 P) 13 T) none (dt_put (dt_put M 14 res.1) 13 res.2)) (M : dt_M) (P : dt_Ob) (T : dt_Ob) (x2 : Int32) (x3 : Int32) {res : dt_Ob × dt_Ob} (h : fX3_search_b rc x2 x3 P T = some res) : dt_Met nb l yX3_search cX3_search 6 none (hN + 2) (fun G => [.ref (G.1 14 0), .ref (G.1 13 0), .int x2, .int x3]) (dt_put (dt_put M 14 P) 13 T) none (dt_put (dt_put M 14 res.1) 13 res.2) := by
  refine dz_enter (lv := fun G => [(0, .ref (G.1 14 0)), (1, .ref (G.1 13 0)), (2, .int x2), (3, .int x3)]) (by decide) (fun _ => rfl) (fun _ => Nat.le_of_ble_eq_true rfl) (fun G A p e s m args below meth c C hr => ?_)
  unfold fX3_search_b at h
  refine dz_iload_n (pc := 0) C dX3_search_0 rfl 2 rfl ?_
  refine dz_iconst (pc := 1) (v := (5 : Int32)) C dX3_search_1 (by decide) ?_
  refine dz_icmp_lt (pc := 2) (t := 6) C dX3_search_2 (by decide) h (fun h => ?_) (fun h => ?_)
  · refine dz_iconst (pc := 6) (v := (0 : Int32)) C dX3_search_6 (by decide) ?_
    refine dz_istore (pc := 7) C dX3_search_7 (by decide) rfl ?_
    refine dz_sub [1, 2, 3, 4, 0] rfl ?_
    exact tX3_search_9 C hr hGB hrc dt_F x2 x3 (0 : Int32) P T h
  · cases dt_some h
    exact dz_vret (pc := 5) C hr dX3_search_5
theorem m_X3_search_n {nb : Nat} (l : Launch) : ∀ (n : Nat) (M : dt_M) (P : dt_Ob) (T : dt_Ob) (x2 : Int32) (x3 : Int32) {res : dt_Ob × dt_Ob}, fX3_search n x2 x3 P T = some res → dt_Met nb l yX3_search cX3_search 6 none (4 + 2 * n) (fun G => [.ref (G.1 14 0), .ref (G.1 13 0), .int x2, .int x3]) (dt_put (dt_put M 14 P) 13 T) none (dt_put (dt_put M 14 res.1) 13 res.2) := by
  intro n
  induction n with
  | zero =>
    intro M P T x2 x3 res h
    unfold fX3_search at h
    cases h
  | succ n ih =>
    intro M P T x2 x3 res h
    unfold fX3_search at h
    have e0 : 4 + 2 * (n + 1) = 4 + 2 * n + 2 := by omega
    rw [e0]
    exact m_X3_search_b l  (by omega) (fun M P T x2 x3 _ h => ih M P T x2 x3 h) M P T x2 x3 h
theorem m_X3_search {nb : Nat} (l : Launch) (M : dt_M) (n : Nat) (P : dt_Ob) (T : dt_Ob) (x2 : Int32) (x3 : Int32) {res : dt_Ob × dt_Ob} (h : fX3_search n x2 x3 P T = some res) : dt_Met nb l yX3_search cX3_search 6 none (4 + 2 * n) (fun G => [.ref (G.1 14 0), .ref (G.1 13 0), .int x2, .int x3]) (dt_put (dt_put M 14 P) 13 T) none (dt_put (dt_put M 14 res.1) 13 res.2) := m_X3_search_n l  n M P T x2 x3 h

def fX3_seek_39  : Nat → Int32 → dt_Ob → dt_Ob → Option (dt_Ob × dt_Ob)
  | 0, _, _, _ => none
  | n + 1, x4, P, T => (if (5 : Int32) < x4 then (some ((dt_set P 5 0 (-1 : Int32)), T)) else ((fX3_search 24 (0 : Int32) (0 : Int32) (dt_set P 5 0 x4) T).bind fun q2 => (if (1000000 : Int32) ≤ (q2.1 6 0) then ((fX3_seek_39 n) (x4 + (1 : Int32)) q2.1 q2.2) else (some (q2.1, q2.2)))))
set_option maxRecDepth 10000 in
set_option maxHeartbeats 4000000 in
theorem tX3_seek_39 {nb : Nat} {G : dt_G} {A : Nat → Prop} {p : Program} {l : Launch} {e : Env} {s : State} {m : MethodId} {args : Array Value} {below : List Frame} {meth : Method} {c : Code} (C : dt_Cx nb G A p s m args meth c cX3_seek 5 RX3) (hr : meth.sig.returnType = none) {M : dt_M} {res : dt_Ob × dt_Ob}  : ∀ (n : Nat) (x4 : Int32) (P : dt_Ob) (T : dt_Ob), fX3_seek_39 n x4 P T = some res → dt_At G A p l e (dt_rm 53) s m args below meth c 5 (MQ below (dt_Post G A none (dt_put (dt_put M 14 res.1) 13 res.2)) args s 0 0 A) 39 [(0, .ref (G.1 14 0)), (1, .ref (G.1 13 0)), (4, .int x4)] [] (dt_put (dt_put M 14 P) 13 T) := by
  intro n
  induction n with
  | zero =>
    intro x4 P T h
    unfold fX3_seek_39 at h
    cases h
  | succ n ih =>
    intro x4 P T h
    unfold fX3_seek_39 at h
    refine dz_iload (pc := 39) C dX3_seek_39 2 rfl ?_
    refine dz_iconst (pc := 41) (v := (5 : Int32)) C dX3_seek_41 (by decide) ?_
    refine dz_icmp_gt (pc := 42) (t := 74) C dX3_seek_42 (by decide) h (fun h => ?_) (fun h => ?_)
    · refine dz_aload_n (pc := 74) C dX3_seek_74 rfl 0 rfl ?_
      refine dz_iconst (pc := 75) (v := (-1 : Int32)) C dX3_seek_75 (by decide) ?_
      refine dz_putI (pc := 76) (k := 14) (j := 5) (M' := (dt_put (dt_put M 14 (dt_set P 5 0 (-1 : Int32))) 13 T)) C Fc_X3 hk_14 (by decide) rfl rfl rfl rfl fl_X3_28 (dt_wB _ (by decide) _ _ _ _ _) dX3_seek_76 ?_
      cases dt_some h
      exact dz_vret (pc := 79) C hr dX3_seek_79
    · refine dz_aload_n (pc := 45) C dX3_seek_45 rfl 0 rfl ?_
      refine dz_iload (pc := 46) C dX3_seek_46 2 rfl ?_
      refine dz_putI (pc := 48) (k := 14) (j := 5) (M' := (dt_put (dt_put M 14 (dt_set P 5 0 x4)) 13 T)) C Fc_X3 hk_14 (by decide) rfl rfl rfl rfl fl_X3_28 (dt_wB _ (by decide) _ _ _ _ _) dX3_seek_48 ?_
      refine dz_aload_n (pc := 51) C dX3_seek_51 rfl 0 rfl ?_
      refine dz_aload_n (pc := 52) C dX3_seek_52 rfl 1 rfl ?_
      refine dz_iconst (pc := 53) (v := (0 : Int32)) C dX3_seek_53 (by decide) ?_
      refine dz_iconst (pc := 54) (v := (0 : Int32)) C dX3_seek_54 (by decide) ?_
      obtain ⟨q2, eq2, h⟩ := dt_bind h
      refine dz_callVv (pc := 55) (st := []) (k := 14) (As := [.ref (G.1 13 0), .int (0 : Int32), .int (0 : Int32)]) (M' := (dt_put (dt_put M 14 q2.1) 13 q2.2)) C Fc_X3 hk_14 mf_X3_search rfl ml_X3_41 (m_X3_search l _ 24 _ _ _ _ eq2) rfl rfl (by omega) (by decide) (Nat.le_of_ble_eq_true rfl) dX3_seek_55 ?_
      refine dz_aload_n (pc := 58) C dX3_seek_58 rfl 0 rfl ?_
      refine dz_getI (pc := 59) (k := 14) (j := 6) (v := (q2.1 6 0)) C Fc_X3 hk_14 (by decide) rfl rfl fl_X3_31 rfl dX3_seek_59 ?_
      refine dz_ldc (pc := 62) C cn_X3_40 dX3_seek_62 ?_
      refine dz_icmp_ge (pc := 64) (t := 68) C dX3_seek_64 (by decide) h (fun h => ?_) (fun h => ?_)
      · refine dz_iinc (pc := 68) (v := (x4 + (1 : Int32))) C dX3_seek_68 2 rfl rfl (by decide) rfl ?_
        refine dz_goto (pc := 71) (t := 39) C dX3_seek_71 (by decide) ?_
        refine dz_sub [1, 2, 0] rfl ?_
        exact ih (x4 + (1 : Int32)) q2.1 q2.2 h
      · cases dt_some h
        exact dz_vret (pc := 67) C hr dX3_seek_67
def fX3_seek  (x2 : Int32) (P : dt_Ob) (T : dt_Ob) : Option (dt_Ob × dt_Ob) := ((fX5_tallest T).bind fun q1 => (if 0 < (x2 - q1) then (fX3_seek_39 dt_F (x2 - q1) (dt_set (dt_set (dt_set (dt_set P 4 0 x2) 5 0 (0 : Int32)) 6 0 (0 : Int32)) 6 0 (1000000 : Int32)) T) else (some ((dt_set (dt_set (dt_set P 4 0 x2) 5 0 (0 : Int32)) 6 0 (0 : Int32)), T))))
set_option maxRecDepth 10000 in
set_option maxHeartbeats 4000000 in
theorem m_X3_seek {nb : Nat} (l : Launch)  (M : dt_M) (P : dt_Ob) (T : dt_Ob)  (x2 : Int32) {res : dt_Ob × dt_Ob} (h : fX3_seek x2 P T = some res) : dt_Met nb l yX3_seek cX3_seek 5 none 53 (fun G => [.ref (G.1 14 0), .ref (G.1 13 0), .int x2]) (dt_put (dt_put M 14 P) 13 T) none (dt_put (dt_put M 14 res.1) 13 res.2) := by
  refine dz_enter (lv := fun G => [(0, .ref (G.1 14 0)), (1, .ref (G.1 13 0)), (2, .int x2)]) (by decide) (fun _ => rfl) (fun _ => Nat.le_of_ble_eq_true rfl) (fun G A p e s m args below meth c C hr => ?_)
  unfold fX3_seek at h
  refine dz_aload_n (pc := 0) C dX3_seek_0 rfl 0 rfl ?_
  refine dz_iload_n (pc := 1) C dX3_seek_1 rfl 2 rfl ?_
  refine dz_putI (pc := 2) (k := 14) (j := 4) (M' := (dt_put (dt_put M 14 (dt_set P 4 0 x2)) 13 T)) C Fc_X3 hk_14 (by decide) rfl rfl rfl rfl fl_X3_24 (dt_wB _ (by decide) _ _ _ _ _) dX3_seek_2 ?_
  refine dz_aload_n (pc := 5) C dX3_seek_5 rfl 0 rfl ?_
  refine dz_iconst (pc := 6) (v := (0 : Int32)) C dX3_seek_6 (by decide) ?_
  refine dz_putI (pc := 7) (k := 14) (j := 5) (M' := (dt_put (dt_put M 14 (dt_set (dt_set P 4 0 x2) 5 0 (0 : Int32))) 13 T)) C Fc_X3 hk_14 (by decide) rfl rfl rfl rfl fl_X3_28 (dt_wB _ (by decide) _ _ _ _ _) dX3_seek_7 ?_
  refine dz_aload_n (pc := 10) C dX3_seek_10 rfl 0 rfl ?_
  refine dz_iconst (pc := 11) (v := (0 : Int32)) C dX3_seek_11 (by decide) ?_
  refine dz_putI (pc := 12) (k := 14) (j := 6) (M' := (dt_put (dt_put M 14 (dt_set (dt_set (dt_set P 4 0 x2) 5 0 (0 : Int32)) 6 0 (0 : Int32))) 13 T)) C Fc_X3 hk_14 (by decide) rfl rfl rfl rfl fl_X3_31 (dt_wB _ (by decide) _ _ _ _ _) dX3_seek_12 ?_
  refine dz_aload_n (pc := 15) C dX3_seek_15 rfl 0 rfl ?_
  refine dz_getI (pc := 16) (k := 14) (j := 4) (v := x2) C Fc_X3 hk_14 (by decide) rfl rfl fl_X3_24 rfl dX3_seek_16 ?_
  refine dz_aload_n (pc := 19) C dX3_seek_19 rfl 1 rfl ?_
  obtain ⟨q1, eq1, h⟩ := dt_bind h
  refine dz_callVi (pc := 20) (st := [.int x2]) (k := 13) (As := []) (M' := (dt_put (dt_put M 14 (dt_set (dt_set (dt_set P 4 0 x2) 5 0 (0 : Int32)) 6 0 (0 : Int32))) 13 T)) C Fc_X5 hk_13 mf_X5_tallest rfl ml_X3_34 (m_X5_tallest l hk_13 _ _ eq1) rfl rfl (by omega) (by decide) (Nat.le_of_ble_eq_true rfl) dX3_seek_20 ?_
  refine dz_isub (pc := 23) C dX3_seek_23 ?_
  refine dz_istore_n (pc := 24) C dX3_seek_24 rfl (by decide) rfl ?_
  refine dz_iload_n (pc := 25) C dX3_seek_25 rfl 0 rfl ?_
  refine dz_if_gt (pc := 26) (t := 30) C dX3_seek_26 (by decide) h (fun h => ?_) (fun h => ?_)
  · refine dz_aload_n (pc := 30) C dX3_seek_30 rfl 1 rfl ?_
    refine dz_ldc (pc := 31) C cn_X3_40 dX3_seek_31 ?_
    refine dz_putI (pc := 33) (k := 14) (j := 6) (M' := (dt_put (dt_put M 14 (dt_set (dt_set (dt_set (dt_set P 4 0 x2) 5 0 (0 : Int32)) 6 0 (0 : Int32)) 6 0 (1000000 : Int32))) 13 T)) C Fc_X3 hk_14 (by decide) rfl rfl rfl rfl fl_X3_31 (dt_wB _ (by decide) _ _ _ _ _) dX3_seek_33 ?_
    refine dz_iload_n (pc := 36) C dX3_seek_36 rfl 0 rfl ?_
    refine dz_istore (pc := 37) C dX3_seek_37 (by decide) rfl ?_
    refine dz_sub [2, 3, 0] rfl ?_
    exact tX3_seek_39 C hr dt_F (x2 - q1) (dt_set (dt_set (dt_set (dt_set P 4 0 x2) 5 0 (0 : Int32)) 6 0 (0 : Int32)) 6 0 (1000000 : Int32)) T h
  · cases dt_some h
    exact dz_vret (pc := 29) C hr dX3_seek_29
