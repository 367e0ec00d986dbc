/-! ===== lifted: 16.vow ===== -/
def fX7_begin  (T : dt_Ob) : Option (dt_Ob) := (some (dt_set (dt_set T 2 0 (0 : Int32)) 5 0 (0 : Int32)))
set_option maxRecDepth 10000 in
set_option maxHeartbeats 4000000 in
theorem m_X7_begin {nb : Nat} (l : Launch) {k : Nat} (hk : k < 18 + nb ∧ dt_c k = 7)  (M : dt_M) (T : dt_Ob)   {res : dt_Ob} (h : fX7_begin T = some res) : dt_Met nb l yX7_begin cX7_begin 1 none 1 (fun G => [.ref (G.1 k 0)]) (dt_put M k T) none (dt_put M k res) := by
  refine dz_enter (lv := fun G => [(0, .ref (G.1 k 0))]) (by decide) (fun _ => rfl) (fun _ => Nat.le_of_ble_eq_true rfl) (fun G A p e s m args below meth c C hr => ?_)
  unfold fX7_begin at h
  refine dz_aload_n (pc := 0) C dX7_begin_0 rfl 0 rfl ?_
  refine dz_iconst (pc := 1) (v := (0 : Int32)) C dX7_begin_1 (by decide) ?_
  refine dz_putI (pc := 2) (k := k) (j := 2) (M' := (dt_put M k (dt_set T 2 0 (0 : Int32)))) C Fc_X7 hk (by decide) rfl rfl rfl rfl fl_X7_18 (dt_wA _ _ _ _ _ _) dX7_begin_2 ?_
  refine dz_aload_n (pc := 5) C dX7_begin_5 rfl 0 rfl ?_
  refine dz_iconst (pc := 6) (v := (0 : Int32)) C dX7_begin_6 (by decide) ?_
  refine dz_putI (pc := 7) (k := k) (j := 5) (M' := (dt_put M k (dt_set (dt_set T 2 0 (0 : Int32)) 5 0 (0 : Int32)))) C Fc_X7 hk (by decide) rfl rfl rfl rfl fl_X7_28 (dt_wA _ _ _ _ _ _) dX7_begin_7 ?_
  cases dt_some h
  exact dz_vret (pc := 10) C hr dX7_begin_10

def fX7_become (O : dt_Ob) (T : dt_Ob) : Option (dt_Ob) := (some (dt_setA (dt_set (dt_set T 2 0 (O 2 0)) 5 0 (O 5 0)) 0 (va_cpy (O 0) (T 0) (Int32.toNatClampNeg (0 : Int32)) (Int32.toNatClampNeg (0 : Int32)) (Int32.toNatClampNeg (401 : Int32)))))
set_option maxRecDepth 10000 in
set_option maxHeartbeats 4000000 in
theorem m_X7_become {nb : Nat} (l : Launch) {k : Nat} (hk : k < 18 + nb ∧ dt_c k = 7) {o : Nat} (ho : o < 18 + nb ∧ dt_c o = 7) (hne : o ≠ k)  (M : dt_M) (T : dt_Ob) (O : dt_Ob) (hO : M o = O)  {res : dt_Ob} (h : fX7_become O T = some res) : dt_Met nb l yX7_become cX7_become 2 none 2 (fun G => [.ref (G.1 k 0), .ref (G.1 o 0)]) (dt_put M k T) none (dt_put M k res) := by
  refine dz_enter (lv := fun G => [(0, .ref (G.1 k 0)), (1, .ref (G.1 o 0))]) (by decide) (fun _ => rfl) (fun _ => Nat.le_of_ble_eq_true rfl) (fun G A p e s m args below meth c C hr => ?_)
  unfold fX7_become at h
  refine dz_aload_n (pc := 0) C dX7_become_0 rfl 0 rfl ?_
  refine dz_aload_n (pc := 1) C dX7_become_1 rfl 1 rfl ?_
  refine dz_getI (pc := 2) (k := o) (j := 2) (v := (O 2 0)) C Fc_X7 ho (by decide) rfl rfl fl_X7_18 (dt_rO _ hne hO _ _) dX7_become_2 ?_
  refine dz_putI (pc := 5) (k := k) (j := 2) (M' := (dt_put M k (dt_set T 2 0 (O 2 0)))) C Fc_X7 hk (by decide) rfl rfl rfl rfl fl_X7_18 (dt_wA _ _ _ _ _ _) dX7_become_5 ?_
  refine dz_aload_n (pc := 8) C dX7_become_8 rfl 0 rfl ?_
  refine dz_aload_n (pc := 9) C dX7_become_9 rfl 1 rfl ?_
  refine dz_getI (pc := 10) (k := o) (j := 5) (v := (O 5 0)) C Fc_X7 ho (by decide) rfl rfl fl_X7_28 (dt_rO _ hne hO _ _) dX7_become_10 ?_
  refine dz_putI (pc := 13) (k := k) (j := 5) (M' := (dt_put M k (dt_set (dt_set T 2 0 (O 2 0)) 5 0 (O 5 0)))) C Fc_X7 hk (by decide) rfl rfl rfl rfl fl_X7_28 (dt_wA _ _ _ _ _ _) dX7_become_13 ?_
  refine dz_aload_n (pc := 16) C dX7_become_16 rfl 1 rfl ?_
  refine dz_getR (pc := 17) (k := o) (j := 0) C Fc_X7 ho (by decide) (by decide) rfl fl_X7_11 dX7_become_17 ?_
  refine dz_iconst (pc := 20) (v := (0 : Int32)) C dX7_become_20 (by decide) ?_
  refine dz_aload_n (pc := 21) C dX7_become_21 rfl 0 rfl ?_
  refine dz_getR (pc := 22) (k := k) (j := 0) C Fc_X7 hk (by decide) (by decide) rfl fl_X7_11 dX7_become_22 ?_
  refine dz_iconst (pc := 25) (v := (0 : Int32)) C dX7_become_25 (by decide) ?_
  refine dz_aload_n (pc := 26) C dX7_become_26 rfl 0 rfl ?_
  refine dz_getR (pc := 27) (k := k) (j := 0) C Fc_X7 hk (by decide) (by decide) rfl fl_X7_11 dX7_become_27 ?_
  refine dz_alen (pc := 30) (k := k) (j := 0) (n := 401) (v := (401 : Int32)) C hk (by decide) rfl rfl (by decide) dX7_become_30 ?_
  refine dz_copy (pc := 31) (k0 := o) (j0 := 0) (n0 := 401) (k1 := k) (j1 := 0) (n1 := 401) (f := (O 0)) (g := (T 0)) (M' := (dt_put M k (dt_setA (dt_set (dt_set T 2 0 (O 2 0)) 5 0 (O 5 0)) 0 (va_cpy (O 0) (T 0) (Int32.toNatClampNeg (0 : Int32)) (Int32.toNatClampNeg (0 : Int32)) (Int32.toNatClampNeg (401 : Int32)))))) C ml_X7_37 ho (by decide) rfl (dt_rOf _ hne hO _) hk (by decide) rfl (dt_rAf _ _ _ _) (by decide) (by omega) (Nat.le_of_ble_eq_true rfl) (dt_wAA _ _ _ _ _) dX7_become_31 ?_
  cases dt_some h
  exact dz_vret (pc := 34) C hr dX7_become_34

def fX7_isLetter_24   : Option (Int32) := (some (1 : Int32))
set_option maxRecDepth 10000 in
set_option maxHeartbeats 4000000 in
theorem tX7_isLetter_24 {nb : Nat} {G : dt_G} {A : Nat → Prop} {p : Program} {l : Launch} {e : Env} {s : State} {m : MethodId} {args : Array Value} {below : List Frame} {meth : Method} {c : Code} (C : dt_Cx nb G A p s m args meth c cX7_isLetter 1 RX7) (hr : meth.sig.returnType = (some .boolean)) {M : dt_M} {res : Int32}  : fX7_isLetter_24 = some res → dt_At G A p l e (dt_rm 1) s m args below meth c 1 (MQ below (dt_Post G A (some (.int res)) M) args s 0 0 A) 24 [] [] M := by
  intro  h
  unfold fX7_isLetter_24 at h
  refine dz_iconst (pc := 24) (v := (1 : Int32)) C dX7_isLetter_24 (by decide) ?_
  refine dz_goto (pc := 25) (t := 29) C dX7_isLetter_25 (by decide) ?_
  cases dt_some h
  exact dz_zret (pc := 29) C hr (Or.inr rfl) dX7_isLetter_29
def fX7_isLetter_12  (x0 : Int32) : Option (Int32) := (if x0 < (65 : Int32) then (some (0 : Int32)) else (if (90 : Int32) < x0 then (some (0 : Int32)) else (fX7_isLetter_24 )))
set_option maxRecDepth 10000 in
set_option maxHeartbeats 4000000 in
theorem tX7_isLetter_12 {nb : Nat} {G : dt_G} {A : Nat → Prop} {p : Program} {l : Launch} {e : Env} {s : State} {m : MethodId} {args : Array Value} {below : List Frame} {meth : Method} {c : Code} (C : dt_Cx nb G A p s m args meth c cX7_isLetter 1 RX7) (hr : meth.sig.returnType = (some .boolean)) {M : dt_M} {res : Int32}  : ∀ (x0 : Int32), fX7_isLetter_12 x0 = some res → dt_At G A p l e (dt_rm 1) s m args below meth c 1 (MQ below (dt_Post G A (some (.int res)) M) args s 0 0 A) 12 [(0, .int x0)] [] M := by
  intro x0 h
  unfold fX7_isLetter_12 at h
  refine dz_iload_n (pc := 12) C dX7_isLetter_12 rfl 0 rfl ?_
  refine dz_bipush (pc := 13) (v := (65 : Int32)) C dX7_isLetter_13 (by decide) ?_
  refine dz_icmp_lt (pc := 15) (t := 28) C dX7_isLetter_15 (by decide) h (fun h => ?_) (fun h => ?_)
  · refine dz_iconst (pc := 28) (v := (0 : Int32)) C dX7_isLetter_28 (by decide) ?_
    cases dt_some h
    exact dz_zret (pc := 29) C hr (Or.inl rfl) dX7_isLetter_29
  · refine dz_iload_n (pc := 18) C dX7_isLetter_18 rfl 0 rfl ?_
    refine dz_bipush (pc := 19) (v := (90 : Int32)) C dX7_isLetter_19 (by decide) ?_
    refine dz_icmp_gt (pc := 21) (t := 28) C dX7_isLetter_21 (by decide) h (fun h => ?_) (fun h => ?_)
    · refine dz_iconst (pc := 28) (v := (0 : Int32)) C dX7_isLetter_28 (by decide) ?_
      cases dt_some h
      exact dz_zret (pc := 29) C hr (Or.inl rfl) dX7_isLetter_29
    · refine dz_sub [] rfl ?_
      exact tX7_isLetter_24 C hr   h
def fX7_isLetter  (x0 : Int32) : Option (Int32) := (if x0 < (97 : Int32) then (fX7_isLetter_12 x0) else (if x0 ≤ (122 : Int32) then (fX7_isLetter_24 ) else (fX7_isLetter_12 x0)))
set_option maxRecDepth 10000 in
set_option maxHeartbeats 4000000 in
theorem m_X7_isLetter {nb : Nat} (l : Launch)  (M : dt_M)   (x0 : Int32) {res : Int32} (h : fX7_isLetter x0 = some res) : dt_Met nb l yX7_isLetter cX7_isLetter 1 (some .boolean) 1 (fun G => [.int x0]) M (some (.int res)) M := by
  refine dz_enter (lv := fun G => [(0, .int x0)]) (by decide) (fun _ => rfl) (fun _ => Nat.le_of_ble_eq_true rfl) (fun G A p e s m args below meth c C hr => ?_)
  unfold fX7_isLetter at h
  refine dz_iload_n (pc := 0) C dX7_isLetter_0 rfl 0 rfl ?_
  refine dz_bipush (pc := 1) (v := (97 : Int32)) C dX7_isLetter_1 (by decide) ?_
  refine dz_icmp_lt (pc := 3) (t := 12) C dX7_isLetter_3 (by decide) h (fun h => ?_) (fun h => ?_)
  · exact tX7_isLetter_12 C hr  x0 h
  · refine dz_iload_n (pc := 6) C dX7_isLetter_6 rfl 0 rfl ?_
    refine dz_bipush (pc := 7) (v := (122 : Int32)) C dX7_isLetter_7 (by decide) ?_
    refine dz_icmp_le (pc := 9) (t := 24) C dX7_isLetter_9 (by decide) h (fun h => ?_) (fun h => ?_)
    · refine dz_sub [] rfl ?_
      exact tX7_isLetter_24 C hr   h
    · exact tX7_isLetter_12 C hr  x0 h

def fX7_isDigit  (x0 : Int32) : Option (Int32) := (if x0 < (48 : Int32) then (some (0 : Int32)) else (if (57 : Int32) < x0 then (some (0 : Int32)) else (some (1 : Int32))))
set_option maxRecDepth 10000 in
set_option maxHeartbeats 4000000 in
theorem m_X7_isDigit {nb : Nat} (l : Launch)  (M : dt_M)   (x0 : Int32) {res : Int32} (h : fX7_isDigit x0 = some res) : dt_Met nb l yX7_isDigit cX7_isDigit 1 (some .boolean) 1 (fun G => [.int x0]) M (some (.int res)) M := by
  refine dz_enter (lv := fun G => [(0, .int x0)]) (by decide) (fun _ => rfl) (fun _ => Nat.le_of_ble_eq_true rfl) (fun G A p e s m args below meth c C hr => ?_)
  unfold fX7_isDigit at h
  refine dz_iload_n (pc := 0) C dX7_isDigit_0 rfl 0 rfl ?_
  refine dz_bipush (pc := 1) (v := (48 : Int32)) C dX7_isDigit_1 (by decide) ?_
  refine dz_icmp_lt (pc := 3) (t := 16) C dX7_isDigit_3 (by decide) h (fun h => ?_) (fun h => ?_)
  · refine dz_iconst (pc := 16) (v := (0 : Int32)) C dX7_isDigit_16 (by decide) ?_
    cases dt_some h
    exact dz_zret (pc := 17) C hr (Or.inl rfl) dX7_isDigit_17
  · refine dz_iload_n (pc := 6) C dX7_isDigit_6 rfl 0 rfl ?_
    refine dz_bipush (pc := 7) (v := (57 : Int32)) C dX7_isDigit_7 (by decide) ?_
    refine dz_icmp_gt (pc := 9) (t := 16) C dX7_isDigit_9 (by decide) h (fun h => ?_) (fun h => ?_)
    · refine dz_iconst (pc := 16) (v := (0 : Int32)) C dX7_isDigit_16 (by decide) ?_
      cases dt_some h
      exact dz_zret (pc := 17) C hr (Or.inl rfl) dX7_isDigit_17
    · refine dz_iconst (pc := 12) (v := (1 : Int32)) C dX7_isDigit_12 (by decide) ?_
      refine dz_goto (pc := 13) (t := 17) C dX7_isDigit_13 (by decide) ?_
      cases dt_some h
      exact dz_zret (pc := 17) C hr (Or.inr rfl) dX7_isDigit_17

def fX7_tokenEnd_55 (r20 : Int32 → Int32 → Int32 → Int32 → Option (Int32)) (B : Nat → Int32) (x2 : Int32) (x3 : Int32) (x4 : Int32) (x5 : Int32) : Option (Int32) := (r20 x2 x3 x4 (x5 + (1 : Int32)))
set_option maxRecDepth 10000 in
set_option maxHeartbeats 4000000 in
theorem tX7_tokenEnd_55 {nb : Nat} {G : dt_G} {A : Nat → Prop} {p : Program} {l : Launch} {e : Env} {s : State} {m : MethodId} {args : Array Value} {below : List Frame} {meth : Method} {c : Code} (C : dt_Cx nb G A p s m args meth c cX7_tokenEnd 6 RX7) (hr : meth.sig.returnType = (some .int)) {M : dt_M} {B : Nat → Int32} (hB : M 0 4 = B) {res : Int32} {r20 : Int32 → Int32 → Int32 → Int32 → Option (Int32)} (hr20 : ∀ (x2 : Int32) (x3 : Int32) (x4 : Int32) (x5 : Int32), r20 x2 x3 x4 x5 = some res → dt_At G A p l e (dt_rm 2) s m args below meth c 6 (MQ below (dt_Post G A (some (.int res)) M) args s 0 0 A) 20 [(0, .ref (G.1 0 (4 + 1))), (2, .int x2), (3, .int x3), (4, .int x4), (5, .int x5)] [] M) : ∀ (x2 : Int32) (x3 : Int32) (x4 : Int32) (x5 : Int32), fX7_tokenEnd_55 r20 B x2 x3 x4 x5 = some res → dt_At G A p l e (dt_rm 2) s m args below meth c 6 (MQ below (dt_Post G A (some (.int res)) M) args s 0 0 A) 55 [(0, .ref (G.1 0 (4 + 1))), (2, .int x2), (3, .int x3), (4, .int x4), (5, .int x5)] [] M := by
  intro x2 x3 x4 x5 h
  unfold fX7_tokenEnd_55 at h
  refine dz_iinc (pc := 55) (v := (x5 + (1 : Int32))) C dX7_tokenEnd_55 4 rfl rfl (by decide) rfl ?_
  refine dz_goto (pc := 58) (t := 20) C dX7_tokenEnd_58 (by decide) ?_
  refine dz_sub [1, 2, 3, 4, 0] rfl ?_
  exact hr20 x2 x3 x4 (x5 + (1 : Int32)) h
def fX7_tokenEnd_40 (r20 : Int32 → Int32 → Int32 → Int32 → Option (Int32)) (B : Nat → Int32) (x2 : Int32) (x3 : Int32) (x4 : Int32) (x5 : Int32) : Option (Int32) := (if x4 = 0 then (some x5) else ((dt_ix x5 400).bind fun a7 => ((fX7_isDigit (B a7)).bind fun q8 => (if q8 = 0 then (some x5) else (fX7_tokenEnd_55 r20 B x2 x3 x4 x5)))))
set_option maxRecDepth 10000 in
set_option maxHeartbeats 4000000 in
theorem tX7_tokenEnd_40 {nb : Nat} {G : dt_G} {A : Nat → Prop} {p : Program} {l : Launch} {e : Env} {s : State} {m : MethodId} {args : Array Value} {below : List Frame} {meth : Method} {c : Code} (C : dt_Cx nb G A p s m args meth c cX7_tokenEnd 6 RX7) (hr : meth.sig.returnType = (some .int)) {M : dt_M} {B : Nat → Int32} (hB : M 0 4 = B) {res : Int32} {r20 : Int32 → Int32 → Int32 → Int32 → Option (Int32)} (hr20 : ∀ (x2 : Int32) (x3 : Int32) (x4 : Int32) (x5 : Int32), r20 x2 x3 x4 x5 = some res → dt_At G A p l e (dt_rm 2) s m args below meth c 6 (MQ below (dt_Post G A (some (.int res)) M) args s 0 0 A) 20 [(0, .ref (G.1 0 (4 + 1))), (2, .int x2), (3, .int x3), (4, .int x4), (5, .int x5)] [] M) : ∀ (x2 : Int32) (x3 : Int32) (x4 : Int32) (x5 : Int32), fX7_tokenEnd_40 r20 B x2 x3 x4 x5 = some res → dt_At G A p l e (dt_rm 2) s m args below meth c 6 (MQ below (dt_Post G A (some (.int res)) M) args s 0 0 A) 40 [(0, .ref (G.1 0 (4 + 1))), (2, .int x2), (3, .int x3), (4, .int x4), (5, .int x5)] [] M := by
  intro x2 x3 x4 x5 h
  unfold fX7_tokenEnd_40 at h
  refine dz_iload (pc := 40) C dX7_tokenEnd_40 3 rfl ?_
  refine dz_if_eq (pc := 42) (t := 61) C dX7_tokenEnd_42 (by decide) h (fun h => ?_) (fun h => ?_)
  · refine dz_iload (pc := 61) C dX7_tokenEnd_61 4 rfl ?_
    cases dt_some h
    exact dz_iret (pc := 63) C hr dX7_tokenEnd_63
  · refine dz_aload_n (pc := 45) C dX7_tokenEnd_45 rfl 0 rfl ?_
    refine dz_iload (pc := 46) C dX7_tokenEnd_46 4 rfl ?_
    refine dz_bald (pc := 48) (k := 0) (j := 4) (n := 400) (f := B) C hk_0 (by decide) rfl hB dX7_tokenEnd_48 h (fun a7 h => ?_)
    obtain ⟨q8, eq8, h⟩ := dt_bind h
    refine dz_callSi (pc := 49) (st := []) (As := [.int (B a7)]) (M' := M) C ms_X7_isDigit ml_X7_69 (m_X7_isDigit l _ _ eq8) rfl rfl (by omega) (by decide) (Nat.le_of_ble_eq_true rfl) dX7_tokenEnd_49 ?_
    refine dz_if_eq (pc := 52) (t := 61) C dX7_tokenEnd_52 (by decide) h (fun h => ?_) (fun h => ?_)
    · refine dz_iload (pc := 61) C dX7_tokenEnd_61 4 rfl ?_
      cases dt_some h
      exact dz_iret (pc := 63) C hr dX7_tokenEnd_63
    · exact tX7_tokenEnd_55 C hr hB hr20 x2 x3 x4 x5 h
def fX7_tokenEnd_20  (B : Nat → Int32) : Nat → Int32 → Int32 → Int32 → Int32 → Option (Int32)
  | 0, _, _, _, _ => none
  | n + 1, x2, x3, x4, x5 => (if x2 ≤ x5 then (some x5) else (if x3 = 0 then (fX7_tokenEnd_40 (fX7_tokenEnd_20 B n) B x2 x3 x4 x5) else ((dt_ix x5 400).bind fun a5 => ((fX7_isLetter (B a5)).bind fun q6 => (if q6 = 0 then (fX7_tokenEnd_40 (fX7_tokenEnd_20 B n) B x2 x3 x4 x5) else (fX7_tokenEnd_55 (fX7_tokenEnd_20 B n) B x2 x3 x4 x5))))))
set_option maxRecDepth 10000 in
set_option maxHeartbeats 4000000 in
theorem tX7_tokenEnd_20 {nb : Nat} {G : dt_G} {A : Nat → Prop} {p : Program} {l : Launch} {e : Env} {s : State} {m : MethodId} {args : Array Value} {below : List Frame} {meth : Method} {c : Code} (C : dt_Cx nb G A p s m args meth c cX7_tokenEnd 6 RX7) (hr : meth.sig.returnType = (some .int)) {M : dt_M} {B : Nat → Int32} (hB : M 0 4 = B) {res : Int32}  : ∀ (n : Nat) (x2 : Int32) (x3 : Int32) (x4 : Int32) (x5 : Int32), fX7_tokenEnd_20 B n x2 x3 x4 x5 = some res → dt_At G A p l e (dt_rm 2) s m args below meth c 6 (MQ below (dt_Post G A (some (.int res)) M) args s 0 0 A) 20 [(0, .ref (G.1 0 (4 + 1))), (2, .int x2), (3, .int x3), (4, .int x4), (5, .int x5)] [] M := by
  intro n
  induction n with
  | zero =>
    intro x2 x3 x4 x5 h
    unfold fX7_tokenEnd_20 at h
    cases h
  | succ n ih =>
    intro x2 x3 x4 x5 h
    unfold fX7_tokenEnd_20 at h
    refine dz_iload (pc := 20) C dX7_tokenEnd_20 4 rfl ?_
    refine dz_iload_n (pc := 22) C dX7_tokenEnd_22 rfl 1 rfl ?_
    refine dz_icmp_ge (pc := 23) (t := 61) C dX7_tokenEnd_23 (by decide) h (fun h => ?_) (fun h => ?_)
    · refine dz_iload (pc := 61) C dX7_tokenEnd_61 4 rfl ?_
      cases dt_some h
      exact dz_iret (pc := 63) C hr dX7_tokenEnd_63
    · refine dz_iload_n (pc := 26) C dX7_tokenEnd_26 rfl 2 rfl ?_
      refine dz_if_eq (pc := 27) (t := 40) C dX7_tokenEnd_27 (by decide) h (fun h => ?_) (fun h => ?_)
      · exact tX7_tokenEnd_40 C hr hB ih x2 x3 x4 x5 h
      · refine dz_aload_n (pc := 30) C dX7_tokenEnd_30 rfl 0 rfl ?_
        refine dz_iload (pc := 31) C dX7_tokenEnd_31 4 rfl ?_
        refine dz_bald (pc := 33) (k := 0) (j := 4) (n := 400) (f := B) C hk_0 (by decide) rfl hB dX7_tokenEnd_33 h (fun a5 h => ?_)
        obtain ⟨q6, eq6, h⟩ := dt_bind h
        refine dz_callSi (pc := 34) (st := []) (As := [.int (B a5)]) (M' := M) C ms_X7_isLetter ml_X7_65 (m_X7_isLetter l _ _ eq6) rfl rfl (by omega) (by decide) (Nat.le_of_ble_eq_true rfl) dX7_tokenEnd_34 ?_
        refine dz_if_ne (pc := 37) (t := 55) C dX7_tokenEnd_37 (by decide) h (fun h => ?_) (fun h => ?_)
        · exact tX7_tokenEnd_55 C hr hB ih x2 x3 x4 x5 h
        · exact tX7_tokenEnd_40 C hr hB ih x2 x3 x4 x5 h
def fX7_tokenEnd (B : Nat → Int32) (x1 : Int32) (x2 : Int32) : Option (Int32) := ((dt_ix x1 400).bind fun a1 => ((fX7_isLetter (B a1)).bind fun q2 => ((dt_ix x1 400).bind fun a3 => ((fX7_isDigit (B a3)).bind fun q4 => (fX7_tokenEnd_20 B dt_F x2 q2 q4 (x1 + (1 : Int32)))))))
set_option maxRecDepth 10000 in
set_option maxHeartbeats 4000000 in
theorem m_X7_tokenEnd {nb : Nat} (l : Launch)  (M : dt_M)  (B : Nat → Int32) (hB : M 0 4 = B) (x1 : Int32) (x2 : Int32) {res : Int32} (h : fX7_tokenEnd B x1 x2 = some res) : dt_Met nb l yX7_tokenEnd cX7_tokenEnd 6 (some .int) 2 (fun G => [.ref (G.1 0 (4 + 1)), .int x1, .int x2]) M (some (.int res)) M := by
  refine dz_enter (lv := fun G => [(0, .ref (G.1 0 (4 + 1))), (1, .int x1), (2, .int x2)]) (by decide) (fun _ => rfl) (fun _ => Nat.le_of_ble_eq_true rfl) (fun G A p e s m args below meth c C hr => ?_)
  unfold fX7_tokenEnd at h
  refine dz_aload_n (pc := 0) C dX7_tokenEnd_0 rfl 0 rfl ?_
  refine dz_iload_n (pc := 1) C dX7_tokenEnd_1 rfl 1 rfl ?_
  refine dz_bald (pc := 2) (k := 0) (j := 4) (n := 400) (f := B) C hk_0 (by decide) rfl hB dX7_tokenEnd_2 h (fun a1 h => ?_)
  obtain ⟨q2, eq2, h⟩ := dt_bind h
  refine dz_callSi (pc := 3) (st := []) (As := [.int (B a1)]) (M' := M) C ms_X7_isLetter ml_X7_65 (m_X7_isLetter l _ _ eq2) rfl rfl (by omega) (by decide) (Nat.le_of_ble_eq_true rfl) dX7_tokenEnd_3 ?_
  refine dz_istore_n (pc := 6) C dX7_tokenEnd_6 rfl (by decide) rfl ?_
  refine dz_aload_n (pc := 7) C dX7_tokenEnd_7 rfl 1 rfl ?_
  refine dz_iload_n (pc := 8) C dX7_tokenEnd_8 rfl 2 rfl ?_
  refine dz_bald (pc := 9) (k := 0) (j := 4) (n := 400) (f := B) C hk_0 (by decide) rfl hB dX7_tokenEnd_9 h (fun a3 h => ?_)
  obtain ⟨q4, eq4, h⟩ := dt_bind h
  refine dz_callSi (pc := 10) (st := []) (As := [.int (B a3)]) (M' := M) C ms_X7_isDigit ml_X7_69 (m_X7_isDigit l _ _ eq4) rfl rfl (by omega) (by decide) (Nat.le_of_ble_eq_true rfl) dX7_tokenEnd_10 ?_
  refine dz_istore (pc := 13) C dX7_tokenEnd_13 (by decide) rfl ?_
  refine dz_iload_n (pc := 15) C dX7_tokenEnd_15 rfl 3 rfl ?_
  refine dz_iconst (pc := 16) (v := (1 : Int32)) C dX7_tokenEnd_16 (by decide) ?_
  refine dz_iadd (pc := 17) C dX7_tokenEnd_17 ?_
  refine dz_istore (pc := 18) C dX7_tokenEnd_18 (by decide) rfl ?_
  refine dz_sub [3, 5, 2, 1, 0] rfl ?_
  exact tX7_tokenEnd_20 C hr hB dt_F x2 q2 q4 (x1 + (1 : Int32)) h

def fX7_numberOf_16  (B : Nat → Int32) : Nat → Int32 → Int32 → Int32 → Option (Int32)
  | 0, _, _, _ => none
  | n + 1, x2, x3, x4 => (if x2 ≤ x4 then (some x3) else ((dt_ix x4 400).bind fun a1 => ((fX7_numberOf_16 B n) x2 (((x3 * (10 : Int32)) + (B a1)) - (48 : Int32)) (x4 + (1 : Int32)))))
set_option maxRecDepth 10000 in
set_option maxHeartbeats 4000000 in
theorem tX7_numberOf_16 {nb : Nat} {G : dt_G} {A : Nat → Prop} {p : Program} {l : Launch} {e : Env} {s : State} {m : MethodId} {args : Array Value} {below : List Frame} {meth : Method} {c : Code} (C : dt_Cx nb G A p s m args meth c cX7_numberOf 5 RX7) (hr : meth.sig.returnType = (some .int)) {M : dt_M} {B : Nat → Int32} (hB : M 0 4 = B) {res : Int32}  : ∀ (n : Nat) (x2 : Int32) (x3 : Int32) (x4 : Int32), fX7_numberOf_16 B n x2 x3 x4 = some res → dt_At G A p l e (dt_rm 1) s m args below meth c 5 (MQ below (dt_Post G A (some (.int res)) M) args s 0 0 A) 16 [(0, .ref (G.1 0 (4 + 1))), (2, .int x2), (3, .int x3), (4, .int x4)] [] M := by
  intro n
  induction n with
  | zero =>
    intro x2 x3 x4 h
    unfold fX7_numberOf_16 at h
    cases h
  | succ n ih =>
    intro x2 x3 x4 h
    unfold fX7_numberOf_16 at h
    refine dz_iload (pc := 16) C dX7_numberOf_16 3 rfl ?_
    refine dz_iload_n (pc := 18) C dX7_numberOf_18 rfl 1 rfl ?_
    refine dz_icmp_ge (pc := 19) (t := 41) C dX7_numberOf_19 (by decide) h (fun h => ?_) (fun h => ?_)
    · refine dz_iload_n (pc := 41) C dX7_numberOf_41 rfl 2 rfl ?_
      cases dt_some h
      exact dz_iret (pc := 42) C hr dX7_numberOf_42
    · refine dz_iload_n (pc := 22) C dX7_numberOf_22 rfl 2 rfl ?_
      refine dz_bipush (pc := 23) (v := (10 : Int32)) C dX7_numberOf_23 (by decide) ?_
      refine dz_imul (pc := 25) C dX7_numberOf_25 ?_
      refine dz_aload_n (pc := 26) C dX7_numberOf_26 rfl 0 rfl ?_
      refine dz_iload (pc := 27) C dX7_numberOf_27 3 rfl ?_
      refine dz_bald (pc := 29) (k := 0) (j := 4) (n := 400) (f := B) C hk_0 (by decide) rfl hB dX7_numberOf_29 h (fun a1 h => ?_)
      refine dz_iadd (pc := 30) C dX7_numberOf_30 ?_
      refine dz_bipush (pc := 31) (v := (48 : Int32)) C dX7_numberOf_31 (by decide) ?_
      refine dz_isub (pc := 33) C dX7_numberOf_33 ?_
      refine dz_istore_n (pc := 34) C dX7_numberOf_34 rfl (by decide) rfl ?_
      refine dz_iinc (pc := 35) (v := (x4 + (1 : Int32))) C dX7_numberOf_35 3 rfl rfl (by decide) rfl ?_
      refine dz_goto (pc := 38) (t := 16) C dX7_numberOf_38 (by decide) ?_
      refine dz_sub [2, 3, 1, 0] rfl ?_
      exact ih x2 (((x3 * (10 : Int32)) + (B a1)) - (48 : Int32)) (x4 + (1 : Int32)) h
def fX7_numberOf (B : Nat → Int32) (x1 : Int32) (x2 : Int32) : Option (Int32) := (if (x2 - x1) ≤ (4 : Int32) then (fX7_numberOf_16 B dt_F x2 (0 : Int32) x1) else (some (30001 : Int32)))
set_option maxRecDepth 10000 in
set_option maxHeartbeats 4000000 in
theorem m_X7_numberOf {nb : Nat} (l : Launch)  (M : dt_M)  (B : Nat → Int32) (hB : M 0 4 = B) (x1 : Int32) (x2 : Int32) {res : Int32} (h : fX7_numberOf B x1 x2 = some res) : dt_Met nb l yX7_numberOf cX7_numberOf 5 (some .int) 1 (fun G => [.ref (G.1 0 (4 + 1)), .int x1, .int x2]) M (some (.int res)) M := by
  refine dz_enter (lv := fun G => [(0, .ref (G.1 0 (4 + 1))), (1, .int x1), (2, .int x2)]) (by decide) (fun _ => rfl) (fun _ => Nat.le_of_ble_eq_true rfl) (fun G A p e s m args below meth c C hr => ?_)
  unfold fX7_numberOf at h
  refine dz_iload_n (pc := 0) C dX7_numberOf_0 rfl 2 rfl ?_
  refine dz_iload_n (pc := 1) C dX7_numberOf_1 rfl 1 rfl ?_
  refine dz_isub (pc := 2) C dX7_numberOf_2 ?_
  refine dz_iconst (pc := 3) (v := (4 : Int32)) C dX7_numberOf_3 (by decide) ?_
  refine dz_icmp_le (pc := 4) (t := 11) C dX7_numberOf_4 (by decide) h (fun h => ?_) (fun h => ?_)
  · refine dz_iconst (pc := 11) (v := (0 : Int32)) C dX7_numberOf_11 (by decide) ?_
    refine dz_istore_n (pc := 12) C dX7_numberOf_12 rfl (by decide) rfl ?_
    refine dz_iload_n (pc := 13) C dX7_numberOf_13 rfl 2 rfl ?_
    refine dz_istore (pc := 14) C dX7_numberOf_14 (by decide) rfl ?_
    refine dz_sub [2, 4, 1, 0] rfl ?_
    exact tX7_numberOf_16 C hr hB dt_F x2 (0 : Int32) x1 h
  · refine dz_sipush (pc := 7) (v := (30001 : Int32)) C dX7_numberOf_7 (by decide) ?_
    cases dt_some h
    exact dz_iret (pc := 10) C hr dX7_numberOf_10

def fX7_isSame_3  (B : Nat → Int32) : Nat → Int32 → Int32 → Int32 → Int32 → Option (Int32)
  | 0, _, _, _, _ => none
  | n + 1, x1, x2, x3, x4 => (if x3 ≤ x4 then (some (1 : Int32)) else ((dt_ix ((x1 + x4) - x2) 400).bind fun a1 => ((dt_ix x4 (dt_sln 1)).bind fun a2 => (if (B a1) = (dt_sch 1 a2) then ((fX7_isSame_3 B n) x1 x2 x3 (x4 + (1 : Int32))) else (some (0 : Int32))))))
set_option maxRecDepth 10000 in
set_option maxHeartbeats 4000000 in
theorem tX7_isSame_3 {nb : Nat} {G : dt_G} {A : Nat → Prop} {p : Program} {l : Launch} {e : Env} {s : State} {m : MethodId} {args : Array Value} {below : List Frame} {meth : Method} {c : Code} (C : dt_Cx nb G A p s m args meth c cX7_isSame 5 RX7) (hr : meth.sig.returnType = (some .boolean)) {M : dt_M} {B : Nat → Int32} (hB : M 0 4 = B) {res : Int32}  : ∀ (n : Nat) (x1 : Int32) (x2 : Int32) (x3 : Int32) (x4 : Int32), fX7_isSame_3 B n x1 x2 x3 x4 = some res → dt_At G A p l e (dt_rm 13) s m args below meth c 5 (MQ below (dt_Post G A (some (.int res)) M) args s 0 0 A) 3 [(0, .ref (G.1 0 (4 + 1))), (1, .int x1), (2, .int x2), (3, .int x3), (4, .int x4)] [] M := by
  intro n
  induction n with
  | zero =>
    intro x1 x2 x3 x4 h
    unfold fX7_isSame_3 at h
    cases h
  | succ n ih =>
    intro x1 x2 x3 x4 h
    unfold fX7_isSame_3 at h
    refine dz_iload (pc := 3) C dX7_isSame_3 4 rfl ?_
    refine dz_iload_n (pc := 5) C dX7_isSame_5 rfl 3 rfl ?_
    refine dz_icmp_ge (pc := 6) (t := 35) C dX7_isSame_6 (by decide) h (fun h => ?_) (fun h => ?_)
    · refine dz_iconst (pc := 35) (v := (1 : Int32)) C dX7_isSame_35 (by decide) ?_
      cases dt_some h
      exact dz_zret (pc := 36) C hr (Or.inr rfl) dX7_isSame_36
    · refine dz_aload_n (pc := 9) C dX7_isSame_9 rfl 0 rfl ?_
      refine dz_iload_n (pc := 10) C dX7_isSame_10 rfl 1 rfl ?_
      refine dz_iload (pc := 11) C dX7_isSame_11 4 rfl ?_
      refine dz_iadd (pc := 13) C dX7_isSame_13 ?_
      refine dz_iload_n (pc := 14) C dX7_isSame_14 rfl 2 rfl ?_
      refine dz_isub (pc := 15) C dX7_isSame_15 ?_
      refine dz_bald (pc := 16) (k := 0) (j := 4) (n := 400) (f := B) C hk_0 (by decide) rfl hB dX7_isSame_16 h (fun a1 h => ?_)
      refine dz_ldcS (pc := 17) (n := 1) C rfl dX7_isSame_17 ?_
      refine dz_iload (pc := 19) C dX7_isSame_19 4 rfl ?_
      refine dz_schar (pc := 21) (st := [.int (B a1)]) (n := 1) C (by decide) ml_X7_91 (by omega) (Nat.le_of_ble_eq_true rfl) dX7_isSame_21 h (fun a2 h => ?_)
      refine dz_icmp_eq (pc := 24) (t := 29) C dX7_isSame_24 (by decide) h (fun h => ?_) (fun h => ?_)
      · refine dz_iinc (pc := 29) (v := (x4 + (1 : Int32))) C dX7_isSame_29 4 rfl rfl (by decide) rfl ?_
        refine dz_goto (pc := 32) (t := 3) C dX7_isSame_32 (by decide) ?_
        refine dz_sub [1, 2, 3, 4, 0] rfl ?_
        exact ih x1 x2 x3 (x4 + (1 : Int32)) h
      · refine dz_iconst (pc := 27) (v := (0 : Int32)) C dX7_isSame_27 (by decide) ?_
        cases dt_some h
        exact dz_zret (pc := 28) C hr (Or.inl rfl) dX7_isSame_28
def fX7_isSame (B : Nat → Int32) (x1 : Int32) (x2 : Int32) (x3 : Int32) : Option (Int32) := (fX7_isSame_3 B dt_F x1 x2 x3 x2)
set_option maxRecDepth 10000 in
set_option maxHeartbeats 4000000 in
theorem m_X7_isSame {nb : Nat} (l : Launch)  (M : dt_M)  (B : Nat → Int32) (hB : M 0 4 = B) (x1 : Int32) (x2 : Int32) (x3 : Int32) {res : Int32} (h : fX7_isSame B x1 x2 x3 = some res) : dt_Met nb l yX7_isSame cX7_isSame 5 (some .boolean) 13 (fun G => [.ref (G.1 0 (4 + 1)), .int x1, .int x2, .int x3]) M (some (.int res)) M := by
  refine dz_enter (lv := fun G => [(0, .ref (G.1 0 (4 + 1))), (1, .int x1), (2, .int x2), (3, .int x3)]) (by decide) (fun _ => rfl) (fun _ => Nat.le_of_ble_eq_true rfl) (fun G A p e s m args below meth c C hr => ?_)
  unfold fX7_isSame at h
  refine dz_iload_n (pc := 0) C dX7_isSame_0 rfl 2 rfl ?_
  refine dz_istore (pc := 1) C dX7_isSame_1 (by decide) rfl ?_
  refine dz_sub [1, 2, 3, 4, 0] rfl ?_
  exact tX7_isSame_3 C hr hB dt_F x1 x2 x3 x2 h

def fX7_wordOf_66 (r10 : Int32 → Int32 → Int32 → Int32 → Int32 → Option (Int32)) (B : Nat → Int32) (x1 : Int32) (x2 : Int32) (x3 : Int32) (x4 : Int32) (x5 : Int32) : Option (Int32) := (r10 x1 x2 x3 x4 (x5 + (1 : Int32)))
set_option maxRecDepth 10000 in
set_option maxHeartbeats 4000000 in
theorem tX7_wordOf_66 {nb : Nat} {G : dt_G} {A : Nat → Prop} {p : Program} {l : Launch} {e : Env} {s : State} {m : MethodId} {args : Array Value} {below : List Frame} {meth : Method} {c : Code} (C : dt_Cx nb G A p s m args meth c cX7_wordOf 6 RX7) (hr : meth.sig.returnType = (some .int)) {M : dt_M} {B : Nat → Int32} (hB : M 0 4 = B) {res : Int32} {r10 : Int32 → Int32 → Int32 → Int32 → Int32 → Option (Int32)} (hr10 : ∀ (x1 : Int32) (x2 : Int32) (x3 : Int32) (x4 : Int32) (x5 : Int32), r10 x1 x2 x3 x4 x5 = some res → dt_At G A p l e (dt_rm 14) s m args below meth c 6 (MQ below (dt_Post G A (some (.int res)) M) args s 0 0 A) 10 [(0, .ref (G.1 0 (4 + 1))), (1, .int x1), (2, .int x2), (3, .int x3), (4, .int x4), (5, .int x5)] [] M) : ∀ (x1 : Int32) (x2 : Int32) (x3 : Int32) (x4 : Int32) (x5 : Int32), fX7_wordOf_66 r10 B x1 x2 x3 x4 x5 = some res → dt_At G A p l e (dt_rm 14) s m args below meth c 6 (MQ below (dt_Post G A (some (.int res)) M) args s 0 0 A) 66 [(0, .ref (G.1 0 (4 + 1))), (1, .int x1), (2, .int x2), (3, .int x3), (4, .int x4), (5, .int x5)] [] M := by
  intro x1 x2 x3 x4 x5 h
  unfold fX7_wordOf_66 at h
  refine dz_iinc (pc := 66) (v := (x5 + (1 : Int32))) C dX7_wordOf_66 5 rfl rfl (by decide) rfl ?_
  refine dz_goto (pc := 69) (t := 10) C dX7_wordOf_69 (by decide) ?_
  refine dz_sub [1, 2, 3, 4, 5, 0] rfl ?_
  exact hr10 x1 x2 x3 x4 (x5 + (1 : Int32)) h
def fX7_wordOf_57 (r10 : Int32 → Int32 → Int32 → Int32 → Int32 → Option (Int32)) (B : Nat → Int32) (x1 : Int32) (x2 : Int32) (x3 : Int32) (x5 : Int32) : Option (Int32) := (fX7_wordOf_66 r10 B x1 x2 (x3 + (1 : Int32)) (x5 + (1 : Int32)) x5)
set_option maxRecDepth 10000 in
set_option maxHeartbeats 4000000 in
theorem tX7_wordOf_57 {nb : Nat} {G : dt_G} {A : Nat → Prop} {p : Program} {l : Launch} {e : Env} {s : State} {m : MethodId} {args : Array Value} {below : List Frame} {meth : Method} {c : Code} (C : dt_Cx nb G A p s m args meth c cX7_wordOf 6 RX7) (hr : meth.sig.returnType = (some .int)) {M : dt_M} {B : Nat → Int32} (hB : M 0 4 = B) {res : Int32} {r10 : Int32 → Int32 → Int32 → Int32 → Int32 → Option (Int32)} (hr10 : ∀ (x1 : Int32) (x2 : Int32) (x3 : Int32) (x4 : Int32) (x5 : Int32), r10 x1 x2 x3 x4 x5 = some res → dt_At G A p l e (dt_rm 14) s m args below meth c 6 (MQ below (dt_Post G A (some (.int res)) M) args s 0 0 A) 10 [(0, .ref (G.1 0 (4 + 1))), (1, .int x1), (2, .int x2), (3, .int x3), (4, .int x4), (5, .int x5)] [] M) : ∀ (x1 : Int32) (x2 : Int32) (x3 : Int32) (x5 : Int32), fX7_wordOf_57 r10 B x1 x2 x3 x5 = some res → dt_At G A p l e (dt_rm 14) s m args below meth c 6 (MQ below (dt_Post G A (some (.int res)) M) args s 0 0 A) 57 [(0, .ref (G.1 0 (4 + 1))), (1, .int x1), (2, .int x2), (3, .int x3), (5, .int x5)] [] M := by
  intro x1 x2 x3 x5 h
  unfold fX7_wordOf_57 at h
  refine dz_iinc (pc := 57) (v := (x3 + (1 : Int32))) C dX7_wordOf_57 3 rfl rfl (by decide) rfl ?_
  refine dz_iload (pc := 60) C dX7_wordOf_60 4 rfl ?_
  refine dz_iconst (pc := 62) (v := (1 : Int32)) C dX7_wordOf_62 (by decide) ?_
  refine dz_iadd (pc := 63) C dX7_wordOf_63 ?_
  refine dz_istore (pc := 64) C dX7_wordOf_64 (by decide) rfl ?_
  refine dz_sub [2, 3, 4, 1, 0, 5] rfl ?_
  exact tX7_wordOf_66 C hr hB hr10 x1 x2 (x3 + (1 : Int32)) (x5 + (1 : Int32)) x5 h
def fX7_wordOf_10  (B : Nat → Int32) : Nat → Int32 → Int32 → Int32 → Int32 → Int32 → Option (Int32)
  | 0, _, _, _, _, _ => none
  | n + 1, x1, x2, x3, x4, x5 => (if (dt_slen 1) ≤ x5 then (some (30001 : Int32)) else ((dt_ix x5 (dt_sln 1)).bind fun a1 => (if (dt_sch 1 a1) = (32 : Int32) then (if (x5 - x4) = (x2 - x1) then ((fX7_isSame B x1 x4 x5).bind fun q2 => (if q2 = 0 then (fX7_wordOf_57 (fX7_wordOf_10 B n) B x1 x2 x3 x5) else (some x3))) else (fX7_wordOf_57 (fX7_wordOf_10 B n) B x1 x2 x3 x5)) else (fX7_wordOf_66 (fX7_wordOf_10 B n) B x1 x2 x3 x4 x5))))
set_option maxRecDepth 10000 in
set_option maxHeartbeats 4000000 in
theorem tX7_wordOf_10 {nb : Nat} {G : dt_G} {A : Nat → Prop} {p : Program} {l : Launch} {e : Env} {s : State} {m : MethodId} {args : Array Value} {below : List Frame} {meth : Method} {c : Code} (C : dt_Cx nb G A p s m args meth c cX7_wordOf 6 RX7) (hr : meth.sig.returnType = (some .int)) {M : dt_M} {B : Nat → Int32} (hB : M 0 4 = B) {res : Int32}  : ∀ (n : Nat) (x1 : Int32) (x2 : Int32) (x3 : Int32) (x4 : Int32) (x5 : Int32), fX7_wordOf_10 B n x1 x2 x3 x4 x5 = some res → dt_At G A p l e (dt_rm 14) s m args below meth c 6 (MQ below (dt_Post G A (some (.int res)) M) args s 0 0 A) 10 [(0, .ref (G.1 0 (4 + 1))), (1, .int x1), (2, .int x2), (3, .int x3), (4, .int x4), (5, .int x5)] [] M := by
  intro n
  induction n with
  | zero =>
    intro x1 x2 x3 x4 x5 h
    unfold fX7_wordOf_10 at h
    cases h
  | succ n ih =>
    intro x1 x2 x3 x4 x5 h
    unfold fX7_wordOf_10 at h
    refine dz_iload (pc := 10) C dX7_wordOf_10 5 rfl ?_
    refine dz_ldcS (pc := 12) (n := 1) C rfl dX7_wordOf_12 ?_
    refine dz_slen (pc := 14) (st := [.int x5]) (n := 1) C (by decide) ml_X7_88 (by omega) (Nat.le_of_ble_eq_true rfl) dX7_wordOf_14 ?_
    refine dz_icmp_ge (pc := 17) (t := 72) C dX7_wordOf_17 (by decide) h (fun h => ?_) (fun h => ?_)
    · refine dz_sipush (pc := 72) (v := (30001 : Int32)) C dX7_wordOf_72 (by decide) ?_
      cases dt_some h
      exact dz_iret (pc := 75) C hr dX7_wordOf_75
    · refine dz_ldcS (pc := 20) (n := 1) C rfl dX7_wordOf_20 ?_
      refine dz_iload (pc := 22) C dX7_wordOf_22 5 rfl ?_
      refine dz_schar (pc := 24) (st := []) (n := 1) C (by decide) ml_X7_91 (by omega) (Nat.le_of_ble_eq_true rfl) dX7_wordOf_24 h (fun a1 h => ?_)
      refine dz_bipush (pc := 27) (v := (32 : Int32)) C dX7_wordOf_27 (by decide) ?_
      refine dz_icmp_ne (pc := 29) (t := 66) C dX7_wordOf_29 (by decide) h (fun h => ?_) (fun h => ?_)
      · exact tX7_wordOf_66 C hr hB ih x1 x2 x3 x4 x5 h
      · refine dz_iload (pc := 32) C dX7_wordOf_32 5 rfl ?_
        refine dz_iload (pc := 34) C dX7_wordOf_34 4 rfl ?_
        refine dz_isub (pc := 36) C dX7_wordOf_36 ?_
        refine dz_iload_n (pc := 37) C dX7_wordOf_37 rfl 2 rfl ?_
        refine dz_iload_n (pc := 38) C dX7_wordOf_38 rfl 1 rfl ?_
        refine dz_isub (pc := 39) C dX7_wordOf_39 ?_
        refine dz_icmp_ne (pc := 40) (t := 57) C dX7_wordOf_40 (by decide) h (fun h => ?_) (fun h => ?_)
        · refine dz_sub [0, 1, 2, 3, 5] rfl ?_
          exact tX7_wordOf_57 C hr hB ih x1 x2 x3 x5 h
        · refine dz_aload_n (pc := 43) C dX7_wordOf_43 rfl 0 rfl ?_
          refine dz_iload_n (pc := 44) C dX7_wordOf_44 rfl 1 rfl ?_
          refine dz_iload (pc := 45) C dX7_wordOf_45 4 rfl ?_
          refine dz_iload (pc := 47) C dX7_wordOf_47 5 rfl ?_
          obtain ⟨q2, eq2, h⟩ := dt_bind h
          refine dz_callSi (pc := 49) (st := []) (As := [.ref (G.1 0 (4 + 1)), .int x1, .int x4, .int x5]) (M' := M) C ms_X7_isSame ml_X7_95 (m_X7_isSame l _ B hB _ _ _ eq2) rfl rfl (by omega) (by decide) (Nat.le_of_ble_eq_true rfl) dX7_wordOf_49 ?_
          refine dz_if_eq (pc := 52) (t := 57) C dX7_wordOf_52 (by decide) h (fun h => ?_) (fun h => ?_)
          · refine dz_sub [0, 1, 2, 3, 5] rfl ?_
            exact tX7_wordOf_57 C hr hB ih x1 x2 x3 x5 h
          · refine dz_iload_n (pc := 55) C dX7_wordOf_55 rfl 3 rfl ?_
            cases dt_some h
            exact dz_iret (pc := 56) C hr dX7_wordOf_56
def fX7_wordOf (B : Nat → Int32) (x1 : Int32) (x2 : Int32) : Option (Int32) := (fX7_wordOf_10 B dt_F x1 x2 (20000 : Int32) (0 : Int32) (0 : Int32))
set_option maxRecDepth 10000 in
set_option maxHeartbeats 4000000 in
theorem m_X7_wordOf {nb : Nat} (l : Launch)  (M : dt_M)  (B : Nat → Int32) (hB : M 0 4 = B) (x1 : Int32) (x2 : Int32) {res : Int32} (h : fX7_wordOf B x1 x2 = some res) : dt_Met nb l yX7_wordOf cX7_wordOf 6 (some .int) 14 (fun G => [.ref (G.1 0 (4 + 1)), .int x1, .int x2]) M (some (.int res)) M := by
  refine dz_enter (lv := fun G => [(0, .ref (G.1 0 (4 + 1))), (1, .int x1), (2, .int x2)]) (by decide) (fun _ => rfl) (fun _ => Nat.le_of_ble_eq_true rfl) (fun G A p e s m args below meth c C hr => ?_)
  unfold fX7_wordOf at h
  refine dz_sipush (pc := 0) (v := (20000 : Int32)) C dX7_wordOf_0 (by decide) ?_
  refine dz_istore_n (pc := 3) C dX7_wordOf_3 rfl (by decide) rfl ?_
  refine dz_iconst (pc := 4) (v := (0 : Int32)) C dX7_wordOf_4 (by decide) ?_
  refine dz_istore (pc := 5) C dX7_wordOf_5 (by decide) rfl ?_
  refine dz_iconst (pc := 7) (v := (0 : Int32)) C dX7_wordOf_7 (by decide) ?_
  refine dz_istore (pc := 8) C dX7_wordOf_8 (by decide) rfl ?_
  refine dz_sub [3, 4, 5, 2, 1, 0] rfl ?_
  exact tX7_wordOf_10 C hr hB dt_F x1 x2 (20000 : Int32) (0 : Int32) (0 : Int32) h

def fX7_codeOf (B : Nat → Int32) (x1 : Int32) (x2 : Int32) : Option (Int32) := ((dt_ix x1 400).bind fun a1 => ((fX7_isLetter (B a1)).bind fun q2 => (if q2 = 0 then ((dt_ix x1 400).bind fun a3 => ((fX7_isDigit (B a3)).bind fun q4 => (if q4 = 0 then ((dt_ix x1 400).bind fun a5 => (if (dt_six 0 (Int32.toUInt32 ((B a5) &&& (255 : Int32)) % 65536).toInt32) < 0 then (some (30001 : Int32)) else (some ((10000 : Int32) + ((B a5) &&& (255 : Int32)))))) else ((fX7_numberOf B x1 x2).bind fun q6 => (some q6))))) else ((fX7_wordOf B x1 x2).bind fun q7 => (some q7)))))
set_option maxRecDepth 10000 in
set_option maxHeartbeats 4000000 in
theorem m_X7_codeOf {nb : Nat} (l : Launch)  (M : dt_M)  (B : Nat → Int32) (hB : M 0 4 = B) (x1 : Int32) (x2 : Int32) {res : Int32} (h : fX7_codeOf B x1 x2 = some res) : dt_Met nb l yX7_codeOf cX7_codeOf 4 (some .int) 15 (fun G => [.ref (G.1 0 (4 + 1)), .int x1, .int x2]) M (some (.int res)) M := by
  refine dz_enter (lv := fun G => [(0, .ref (G.1 0 (4 + 1))), (1, .int x1), (2, .int x2)]) (by decide) (fun _ => rfl) (fun _ => Nat.le_of_ble_eq_true rfl) (fun G A p e s m args below meth c C hr => ?_)
  unfold fX7_codeOf at h
  refine dz_aload_n (pc := 0) C dX7_codeOf_0 rfl 0 rfl ?_
  refine dz_iload_n (pc := 1) C dX7_codeOf_1 rfl 1 rfl ?_
  refine dz_bald (pc := 2) (k := 0) (j := 4) (n := 400) (f := B) C hk_0 (by decide) rfl hB dX7_codeOf_2 h (fun a1 h => ?_)
  obtain ⟨q2, eq2, h⟩ := dt_bind h
  refine dz_callSi (pc := 3) (st := []) (As := [.int (B a1)]) (M' := M) C ms_X7_isLetter ml_X7_65 (m_X7_isLetter l _ _ eq2) rfl rfl (by omega) (by decide) (Nat.le_of_ble_eq_true rfl) dX7_codeOf_3 ?_
  refine dz_if_eq (pc := 6) (t := 16) C dX7_codeOf_6 (by decide) h (fun h => ?_) (fun h => ?_)
  · refine dz_aload_n (pc := 16) C dX7_codeOf_16 rfl 0 rfl ?_
    refine dz_iload_n (pc := 17) C dX7_codeOf_17 rfl 1 rfl ?_
    refine dz_bald (pc := 18) (k := 0) (j := 4) (n := 400) (f := B) C hk_0 (by decide) rfl hB dX7_codeOf_18 h (fun a3 h => ?_)
    obtain ⟨q4, eq4, h⟩ := dt_bind h
    refine dz_callSi (pc := 19) (st := []) (As := [.int (B a3)]) (M' := M) C ms_X7_isDigit ml_X7_69 (m_X7_isDigit l _ _ eq4) rfl rfl (by omega) (by decide) (Nat.le_of_ble_eq_true rfl) dX7_codeOf_19 ?_
    refine dz_if_eq (pc := 22) (t := 32) C dX7_codeOf_22 (by decide) h (fun h => ?_) (fun h => ?_)
    · refine dz_aload_n (pc := 32) C dX7_codeOf_32 rfl 0 rfl ?_
      refine dz_iload_n (pc := 33) C dX7_codeOf_33 rfl 1 rfl ?_
      refine dz_bald (pc := 34) (k := 0) (j := 4) (n := 400) (f := B) C hk_0 (by decide) rfl hB dX7_codeOf_34 h (fun a5 h => ?_)
      refine dz_sipush (pc := 35) (v := (255 : Int32)) C dX7_codeOf_35 (by decide) ?_
      refine dz_iand (pc := 38) C dX7_codeOf_38 ?_
      refine dz_istore_n (pc := 39) C dX7_codeOf_39 rfl (by decide) rfl ?_
      refine dz_ldcS (pc := 40) (n := 0) C rfl dX7_codeOf_40 ?_
      refine dz_iload_n (pc := 42) C dX7_codeOf_42 rfl 0 rfl ?_
      refine dz_i2c (pc := 43) C dX7_codeOf_43 ?_
      refine dz_sidx (pc := 44) (st := []) (n := 0) C (by decide) ml_X7_80 (by omega) (Nat.le_of_ble_eq_true rfl) dX7_codeOf_44 ?_
      refine dz_if_lt (pc := 47) (t := 58) C dX7_codeOf_47 (by decide) h (fun h => ?_) (fun h => ?_)
      · refine dz_sipush (pc := 58) (v := (30001 : Int32)) C dX7_codeOf_58 (by decide) ?_
        cases dt_some h
        exact dz_iret (pc := 61) C hr dX7_codeOf_61
      · refine dz_sipush (pc := 50) (v := (10000 : Int32)) C dX7_codeOf_50 (by decide) ?_
        refine dz_iload_n (pc := 53) C dX7_codeOf_53 rfl 0 rfl ?_
        refine dz_iadd (pc := 54) C dX7_codeOf_54 ?_
        refine dz_goto (pc := 55) (t := 61) C dX7_codeOf_55 (by decide) ?_
        cases dt_some h
        exact dz_iret (pc := 61) C hr dX7_codeOf_61
    · refine dz_aload_n (pc := 25) C dX7_codeOf_25 rfl 0 rfl ?_
      refine dz_iload_n (pc := 26) C dX7_codeOf_26 rfl 1 rfl ?_
      refine dz_iload_n (pc := 27) C dX7_codeOf_27 rfl 2 rfl ?_
      obtain ⟨q6, eq6, h⟩ := dt_bind h
      refine dz_callSi (pc := 28) (st := []) (As := [.ref (G.1 0 (4 + 1)), .int x1, .int x2]) (M' := M) C ms_X7_numberOf ml_X7_75 (m_X7_numberOf l _ B hB _ _ eq6) rfl rfl (by omega) (by decide) (Nat.le_of_ble_eq_true rfl) dX7_codeOf_28 ?_
      cases dt_some h
      exact dz_iret (pc := 31) C hr dX7_codeOf_31
  · refine dz_aload_n (pc := 9) C dX7_codeOf_9 rfl 0 rfl ?_
    refine dz_iload_n (pc := 10) C dX7_codeOf_10 rfl 1 rfl ?_
    refine dz_iload_n (pc := 11) C dX7_codeOf_11 rfl 2 rfl ?_
    obtain ⟨q7, eq7, h⟩ := dt_bind h
    refine dz_callSi (pc := 12) (st := []) (As := [.ref (G.1 0 (4 + 1)), .int x1, .int x2]) (M' := M) C ms_X7_wordOf ml_X7_72 (m_X7_wordOf l _ B hB _ _ eq7) rfl rfl (by omega) (by decide) (Nat.le_of_ble_eq_true rfl) dX7_codeOf_12 ?_
    cases dt_some h
    exact dz_iret (pc := 15) C hr dX7_codeOf_15

def fX7_scan_104  (B : Nat → Int32) (x2 : Int32) (T : dt_Ob) : Option (dt_Ob) := ((dt_ix (T 2 0) 401).bind fun a7 => (some (dt_set T 1 a7 x2)))
set_option maxRecDepth 10000 in
set_option maxHeartbeats 4000000 in
theorem tX7_scan_104 {nb : Nat} {G : dt_G} {A : Nat → Prop} {p : Program} {l : Launch} {e : Env} {s : State} {m : MethodId} {args : Array Value} {below : List Frame} {meth : Method} {c : Code} (C : dt_Cx nb G A p s m args meth c cX7_scan 5 RX7) (hr : meth.sig.returnType = none) {k : Nat} (hk : k < 18 + nb ∧ dt_c k = 7) (hne0 : 0 ≠ k) {M : dt_M} {B : Nat → Int32} (hB : M 0 4 = B) {res : dt_Ob}  : ∀ (x2 : Int32) (T : dt_Ob), fX7_scan_104 B x2 T = some res → dt_At G A p l e (dt_rm 16) s m args below meth c 5 (MQ below (dt_Post G A none (dt_put M k res)) args s 0 0 A) 104 [(0, .ref (G.1 k 0)), (2, .int x2)] [] (dt_put M k T) := by
  intro x2 T h
  unfold fX7_scan_104 at h
  refine dz_aload_n (pc := 104) C dX7_scan_104 rfl 0 rfl ?_
  refine dz_getR (pc := 105) (k := k) (j := 1) C Fc_X7 hk (by decide) (by decide) rfl fl_X7_15 dX7_scan_105 ?_
  refine dz_aload_n (pc := 108) C dX7_scan_108 rfl 0 rfl ?_
  refine dz_getI (pc := 109) (k := k) (j := 2) (v := (T 2 0)) C Fc_X7 hk (by decide) rfl rfl fl_X7_18 (dt_rA _ _ _ _ _) dX7_scan_109 ?_
  refine dz_iload_n (pc := 112) C dX7_scan_112 rfl 1 rfl ?_
  refine dz_iast (pc := 113) (k := k) (j := 1) (n := 401) (M' := fun a7 => (dt_put M k (dt_set T 1 a7 x2))) C hk (by decide) rfl (fun a7 => (dt_wA _ _ _ _ _ _)) dX7_scan_113 h (fun a7 h => ?_)
  cases dt_some h
  exact dz_vret (pc := 114) C hr dX7_scan_114
def fX7_scan_98 (r10 : Int32 → Int32 → Int32 → dt_Ob → Option (dt_Ob)) (B : Nat → Int32) (x2 : Int32) (x3 : Int32) (x4 : Int32) (T : dt_Ob) : Option (dt_Ob) := (r10 x2 x3 (x4 + (1 : Int32)) T)
set_option maxRecDepth 10000 in
set_option maxHeartbeats 4000000 in
theorem tX7_scan_98 {nb : Nat} {G : dt_G} {A : Nat → Prop} {p : Program} {l : Launch} {e : Env} {s : State} {m : MethodId} {args : Array Value} {below : List Frame} {meth : Method} {c : Code} (C : dt_Cx nb G A p s m args meth c cX7_scan 5 RX7) (hr : meth.sig.returnType = none) {k : Nat} (hk : k < 18 + nb ∧ dt_c k = 7) (hne0 : 0 ≠ k) {M : dt_M} {B : Nat → Int32} (hB : M 0 4 = B) {res : dt_Ob} {r10 : Int32 → Int32 → Int32 → dt_Ob → Option (dt_Ob)} (hr10 : ∀ (x2 : Int32) (x3 : Int32) (x4 : Int32) (T : dt_Ob), r10 x2 x3 x4 T = some res → dt_At G A p l e (dt_rm 16) s m args below meth c 5 (MQ below (dt_Post G A none (dt_put M k res)) args s 0 0 A) 10 [(0, .ref (G.1 k 0)), (1, .ref (G.1 0 (4 + 1))), (2, .int x2), (3, .int x3), (4, .int x4)] [] (dt_put M k T)) : ∀ (x2 : Int32) (x3 : Int32) (x4 : Int32) (T : dt_Ob), fX7_scan_98 r10 B x2 x3 x4 T = some res → dt_At G A p l e (dt_rm 16) s m args below meth c 5 (MQ below (dt_Post G A none (dt_put M k res)) args s 0 0 A) 98 [(0, .ref (G.1 k 0)), (1, .ref (G.1 0 (4 + 1))), (2, .int x2), (3, .int x3), (4, .int x4)] [] (dt_put M k T) := by
  intro x2 x3 x4 T h
  unfold fX7_scan_98 at h
  refine dz_iinc (pc := 98) (v := (x4 + (1 : Int32))) C dX7_scan_98 4 rfl rfl (by decide) rfl ?_
  refine dz_goto (pc := 101) (t := 10) C dX7_scan_101 (by decide) ?_
  refine dz_sub [1, 2, 3, 4, 0] rfl ?_
  exact hr10 x2 x3 (x4 + (1 : Int32)) T h
def fX7_scan_10  (B : Nat → Int32) : Nat → Int32 → Int32 → Int32 → dt_Ob → Option (dt_Ob)
  | 0, _, _, _, _ => none
  | n + 1, x2, x3, x4, T => (if x2 ≤ x4 then (fX7_scan_104 B x2 T) else (if (400 : Int32) ≤ (T 2 0) then (fX7_scan_104 B x2 T) else (if x4 < x3 then (fX7_scan_98 (fX7_scan_10 B n) B x2 x3 x4 T) else ((dt_ix x4 400).bind fun a1 => (if (B a1) = (32 : Int32) then (fX7_scan_98 (fX7_scan_10 B n) B x2 x3 x4 T) else ((dt_ix x4 400).bind fun a2 => (if (B a2) = (10 : Int32) then (fX7_scan_98 (fX7_scan_10 B n) B x2 x3 x4 T) else ((fX7_tokenEnd B x4 x2).bind fun q3 => ((fX7_codeOf B x4 q3).bind fun q4 => ((dt_ix (T 2 0) 401).bind fun a5 => ((dt_ix (T 2 0) 401).bind fun a6 => (fX7_scan_98 (fX7_scan_10 B n) B x2 q3 x4 (dt_set (dt_set (dt_set T 0 a5 q4) 1 a6 x4) 2 0 ((T 2 0) + (1 : Int32)))))))))))))))
set_option maxRecDepth 10000 in
set_option maxHeartbeats 4000000 in
theorem tX7_scan_10 {nb : Nat} {G : dt_G} {A : Nat → Prop} {p : Program} {l : Launch} {e : Env} {s : State} {m : MethodId} {args : Array Value} {below : List Frame} {meth : Method} {c : Code} (C : dt_Cx nb G A p s m args meth c cX7_scan 5 RX7) (hr : meth.sig.returnType = none) {k : Nat} (hk : k < 18 + nb ∧ dt_c k = 7) (hne0 : 0 ≠ k) {M : dt_M} {B : Nat → Int32} (hB : M 0 4 = B) {res : dt_Ob}  : ∀ (n : Nat) (x2 : Int32) (x3 : Int32) (x4 : Int32) (T : dt_Ob), fX7_scan_10 B n x2 x3 x4 T = some res → dt_At G A p l e (dt_rm 16) s m args below meth c 5 (MQ below (dt_Post G A none (dt_put M k res)) args s 0 0 A) 10 [(0, .ref (G.1 k 0)), (1, .ref (G.1 0 (4 + 1))), (2, .int x2), (3, .int x3), (4, .int x4)] [] (dt_put M k T) := by
  intro n
  induction n with
  | zero =>
    intro x2 x3 x4 T h
    unfold fX7_scan_10 at h
    cases h
  | succ n ih =>
    intro x2 x3 x4 T h
    unfold fX7_scan_10 at h
    refine dz_iload (pc := 10) C dX7_scan_10 4 rfl ?_
    refine dz_iload_n (pc := 12) C dX7_scan_12 rfl 2 rfl ?_
    refine dz_icmp_ge (pc := 13) (t := 104) C dX7_scan_13 (by decide) h (fun h => ?_) (fun h => ?_)
    · refine dz_sub [0, 2] rfl ?_
      exact tX7_scan_104 C hr hk hne0 hB  x2 T h
    · refine dz_aload_n (pc := 16) C dX7_scan_16 rfl 0 rfl ?_
      refine dz_getI (pc := 17) (k := k) (j := 2) (v := (T 2 0)) C Fc_X7 hk (by decide) rfl rfl fl_X7_18 (dt_rA _ _ _ _ _) dX7_scan_17 ?_
      refine dz_sipush (pc := 20) (v := (400 : Int32)) C dX7_scan_20 (by decide) ?_
      refine dz_icmp_ge (pc := 23) (t := 104) C dX7_scan_23 (by decide) h (fun h => ?_) (fun h => ?_)
      · refine dz_sub [0, 2] rfl ?_
        exact tX7_scan_104 C hr hk hne0 hB  x2 T h
      · refine dz_iload (pc := 26) C dX7_scan_26 4 rfl ?_
        refine dz_iload_n (pc := 28) C dX7_scan_28 rfl 3 rfl ?_
        refine dz_icmp_lt (pc := 29) (t := 98) C dX7_scan_29 (by decide) h (fun h => ?_) (fun h => ?_)
        · exact tX7_scan_98 C hr hk hne0 hB ih x2 x3 x4 T h
        · refine dz_aload_n (pc := 32) C dX7_scan_32 rfl 1 rfl ?_
          refine dz_iload (pc := 33) C dX7_scan_33 4 rfl ?_
          refine dz_bald (pc := 35) (k := 0) (j := 4) (n := 400) (f := B) C hk_0 (by decide) rfl (dt_rBf _ hne0 hB) dX7_scan_35 h (fun a1 h => ?_)
          refine dz_bipush (pc := 36) (v := (32 : Int32)) C dX7_scan_36 (by decide) ?_
          refine dz_icmp_eq (pc := 38) (t := 98) C dX7_scan_38 (by decide) h (fun h => ?_) (fun h => ?_)
          · exact tX7_scan_98 C hr hk hne0 hB ih x2 x3 x4 T h
          · refine dz_aload_n (pc := 41) C dX7_scan_41 rfl 1 rfl ?_
            refine dz_iload (pc := 42) C dX7_scan_42 4 rfl ?_
            refine dz_bald (pc := 44) (k := 0) (j := 4) (n := 400) (f := B) C hk_0 (by decide) rfl (dt_rBf _ hne0 hB) dX7_scan_44 h (fun a2 h => ?_)
            refine dz_bipush (pc := 45) (v := (10 : Int32)) C dX7_scan_45 (by decide) ?_
            refine dz_icmp_ne (pc := 47) (t := 53) C dX7_scan_47 (by decide) h (fun h => ?_) (fun h => ?_)
            · refine dz_aload_n (pc := 53) C dX7_scan_53 rfl 1 rfl ?_
              refine dz_iload (pc := 54) C dX7_scan_54 4 rfl ?_
              refine dz_iload_n (pc := 56) C dX7_scan_56 rfl 2 rfl ?_
              obtain ⟨q3, eq3, h⟩ := dt_bind h
              refine dz_callSi (pc := 57) (st := []) (As := [.ref (G.1 0 (4 + 1)), .int x4, .int x2]) (M' := (dt_put M k T)) C ms_X7_tokenEnd ml_X7_43 (m_X7_tokenEnd l _ B (dt_rBf _ hne0 hB) _ _ eq3) rfl rfl (by omega) (by decide) (Nat.le_of_ble_eq_true rfl) dX7_scan_57 ?_
              refine dz_istore_n (pc := 60) C dX7_scan_60 rfl (by decide) rfl ?_
              refine dz_aload_n (pc := 61) C dX7_scan_61 rfl 1 rfl ?_
              refine dz_getR (pc := 62) (k := k) (j := 0) C Fc_X7 hk (by decide) (by decide) rfl fl_X7_11 dX7_scan_62 ?_
              refine dz_aload_n (pc := 65) C dX7_scan_65 rfl 1 rfl ?_
              refine dz_getI (pc := 66) (k := k) (j := 2) (v := (T 2 0)) C Fc_X7 hk (by decide) rfl rfl fl_X7_18 (dt_rA _ _ _ _ _) dX7_scan_66 ?_
              refine dz_aload_n (pc := 69) C dX7_scan_69 rfl 2 rfl ?_
              refine dz_iload (pc := 70) C dX7_scan_70 4 rfl ?_
              refine dz_iload_n (pc := 72) C dX7_scan_72 rfl 0 rfl ?_
              obtain ⟨q4, eq4, h⟩ := dt_bind h
              refine dz_callSi (pc := 73) (st := [.int (T 2 0), .ref (G.1 k (0 + 1))]) (As := [.ref (G.1 0 (4 + 1)), .int x4, .int q3]) (M' := (dt_put M k T)) C ms_X7_codeOf ml_X7_47 (m_X7_codeOf l _ B (dt_rBf _ hne0 hB) _ _ eq4) rfl rfl (by omega) (by decide) (Nat.le_of_ble_eq_true rfl) dX7_scan_73 ?_
              refine dz_iast (pc := 76) (k := k) (j := 0) (n := 401) (M' := fun a5 => (dt_put M k (dt_set T 0 a5 q4))) C hk (by decide) rfl (fun a5 => (dt_wA _ _ _ _ _ _)) dX7_scan_76 h (fun a5 h => ?_)
              refine dz_aload_n (pc := 77) C dX7_scan_77 rfl 1 rfl ?_
              refine dz_getR (pc := 78) (k := k) (j := 1) C Fc_X7 hk (by decide) (by decide) rfl fl_X7_15 dX7_scan_78 ?_
              refine dz_aload_n (pc := 81) C dX7_scan_81 rfl 1 rfl ?_
              refine dz_getI (pc := 82) (k := k) (j := 2) (v := (T 2 0)) C Fc_X7 hk (by decide) rfl rfl fl_X7_18 (dt_rA _ _ _ _ _) dX7_scan_82 ?_
              refine dz_iload (pc := 85) C dX7_scan_85 4 rfl ?_
              refine dz_iast (pc := 87) (k := k) (j := 1) (n := 401) (M' := fun a6 => (dt_put M k (dt_set (dt_set T 0 a5 q4) 1 a6 x4))) C hk (by decide) rfl (fun a6 => (dt_wA _ _ _ _ _ _)) dX7_scan_87 h (fun a6 h => ?_)
              refine dz_aload_n (pc := 88) C dX7_scan_88 rfl 1 rfl ?_
              refine dz_dup (pc := 89) C dX7_scan_89 rfl ?_
              refine dz_getI (pc := 90) (k := k) (j := 2) (v := (T 2 0)) C Fc_X7 hk (by decide) rfl rfl fl_X7_18 (dt_rA _ _ _ _ _) dX7_scan_90 ?_
              refine dz_iconst (pc := 93) (v := (1 : Int32)) C dX7_scan_93 (by decide) ?_
              refine dz_iadd (pc := 94) C dX7_scan_94 ?_
              refine dz_putI (pc := 95) (k := k) (j := 2) (M' := (dt_put M k (dt_set (dt_set (dt_set T 0 a5 q4) 1 a6 x4) 2 0 ((T 2 0) + (1 : Int32))))) C Fc_X7 hk (by decide) rfl rfl rfl rfl fl_X7_18 (dt_wA _ _ _ _ _ _) dX7_scan_95 ?_
              refine dz_sub [1, 2, 3, 0, 4] rfl ?_
              exact tX7_scan_98 C hr hk hne0 hB ih x2 q3 x4 (dt_set (dt_set (dt_set T 0 a5 q4) 1 a6 x4) 2 0 ((T 2 0) + (1 : Int32))) h
            · refine dz_goto (pc := 50) (t := 98) C dX7_scan_50 (by decide) ?_
              exact tX7_scan_98 C hr hk hne0 hB ih x2 x3 x4 T h
def fX7_scan (B : Nat → Int32) (x2 : Int32) (T : dt_Ob) : Option (dt_Ob) := (fX7_scan_10 B dt_F x2 (0 : Int32) (0 : Int32) (dt_set T 2 0 (0 : Int32)))
set_option maxRecDepth 10000 in
set_option maxHeartbeats 4000000 in
theorem m_X7_scan {nb : Nat} (l : Launch) {k : Nat} (hk : k < 18 + nb ∧ dt_c k = 7) (hne0 : 0 ≠ k)  (M : dt_M) (T : dt_Ob) (B : Nat → Int32) (hB : M 0 4 = B) (x2 : Int32) {res : dt_Ob} (h : fX7_scan B x2 T = some res) : dt_Met nb l yX7_scan cX7_scan 5 none 16 (fun G => [.ref (G.1 k 0), .ref (G.1 0 (4 + 1)), .int x2]) (dt_put M k T) none (dt_put M k res) := by
  refine dz_enter (lv := fun G => [(0, .ref (G.1 k 0)), (1, .ref (G.1 0 (4 + 1))), (2, .int x2)]) (by decide) (fun _ => rfl) (fun _ => Nat.le_of_ble_eq_true rfl) (fun G A p e s m args below meth c C hr => ?_)
  unfold fX7_scan at h
  refine dz_aload_n (pc := 0) C dX7_scan_0 rfl 0 rfl ?_
  refine dz_iconst (pc := 1) (v := (0 : Int32)) C dX7_scan_1 (by decide) ?_
  refine dz_putI (pc := 2) (k := k) (j := 2) (M' := (dt_put M k (dt_set T 2 0 (0 : Int32)))) C Fc_X7 hk (by decide) rfl rfl rfl rfl fl_X7_18 (dt_wA _ _ _ _ _ _) dX7_scan_2 ?_
  refine dz_iconst (pc := 5) (v := (0 : Int32)) C dX7_scan_5 (by decide) ?_
  refine dz_istore_n (pc := 6) C dX7_scan_6 rfl (by decide) rfl ?_
  refine dz_iconst (pc := 7) (v := (0 : Int32)) C dX7_scan_7 (by decide) ?_
  refine dz_istore (pc := 8) C dX7_scan_8 (by decide) rfl ?_
  refine dz_sub [2, 3, 4, 1, 0] rfl ?_
  exact tX7_scan_10 C hr hk hne0 hB dt_F x2 (0 : Int32) (0 : Int32) (dt_set T 2 0 (0 : Int32)) h

def fX7_tell  (x1 : Int32) (x2 : Int32) (T : dt_Ob) : Option (dt_Ob) := (if x1 < (20005 : Int32) then (some T) else (if (20012 : Int32) ≤ x1 then (some T) else ((dt_ix (x1 - (20005 : Int32)) 7).bind fun a1 => (some (dt_set T 4 a1 x2)))))
set_option maxRecDepth 10000 in
set_option maxHeartbeats 4000000 in
theorem m_X7_tell {nb : Nat} (l : Launch) {k : Nat} (hk : k < 18 + nb ∧ dt_c k = 7)  (M : dt_M) (T : dt_Ob)  (x1 : Int32) (x2 : Int32) {res : dt_Ob} (h : fX7_tell x1 x2 T = some res) : dt_Met nb l yX7_tell cX7_tell 3 none 1 (fun G => [.ref (G.1 k 0), .int x1, .int x2]) (dt_put M k T) none (dt_put M k res) := by
  refine dz_enter (lv := fun G => [(0, .ref (G.1 k 0)), (1, .int x1), (2, .int x2)]) (by decide) (fun _ => rfl) (fun _ => Nat.le_of_ble_eq_true rfl) (fun G A p e s m args below meth c C hr => ?_)
  unfold fX7_tell at h
  refine dz_iload_n (pc := 0) C dX7_tell_0 rfl 1 rfl ?_
  refine dz_sipush (pc := 1) (v := (20005 : Int32)) C dX7_tell_1 (by decide) ?_
  refine dz_icmp_lt (pc := 4) (t := 25) C dX7_tell_4 (by decide) h (fun h => ?_) (fun h => ?_)
  · cases dt_some h
    exact dz_vret (pc := 25) C hr dX7_tell_25
  · refine dz_iload_n (pc := 7) C dX7_tell_7 rfl 1 rfl ?_
    refine dz_sipush (pc := 8) (v := (20012 : Int32)) C dX7_tell_8 (by decide) ?_
    refine dz_icmp_ge (pc := 11) (t := 25) C dX7_tell_11 (by decide) h (fun h => ?_) (fun h => ?_)
    · cases dt_some h
      exact dz_vret (pc := 25) C hr dX7_tell_25
    · refine dz_aload_n (pc := 14) C dX7_tell_14 rfl 0 rfl ?_
      refine dz_getR (pc := 15) (k := k) (j := 4) C Fc_X7 hk (by decide) (by decide) rfl fl_X7_25 dX7_tell_15 ?_
      refine dz_iload_n (pc := 18) C dX7_tell_18 rfl 1 rfl ?_
      refine dz_sipush (pc := 19) (v := (20005 : Int32)) C dX7_tell_19 (by decide) ?_
      refine dz_isub (pc := 22) C dX7_tell_22 ?_
      refine dz_iload_n (pc := 23) C dX7_tell_23 rfl 2 rfl ?_
      refine dz_iast (pc := 24) (k := k) (j := 4) (n := 7) (M' := fun a1 => (dt_put M k (dt_set T 4 a1 x2))) C hk (by decide) rfl (fun a1 => (dt_wA _ _ _ _ _ _)) dX7_tell_24 h (fun a1 h => ?_)
      cases dt_some h
      exact dz_vret (pc := 25) C hr dX7_tell_25

def fX7_peek_30  (T : dt_Ob) : Option (Int32) := (some (30000 : Int32))
set_option maxRecDepth 10000 in
set_option maxHeartbeats 4000000 in
theorem tX7_peek_30 {nb : Nat} {G : dt_G} {A : Nat → Prop} {p : Program} {l : Launch} {e : Env} {s : State} {m : MethodId} {args : Array Value} {below : List Frame} {meth : Method} {c : Code} (C : dt_Cx nb G A p s m args meth c cX7_peek 1 RX7) (hr : meth.sig.returnType = (some .int)) {k : Nat} (hk : k < 18 + nb ∧ dt_c k = 7) {M : dt_M} {res : Int32}  : ∀ (T : dt_Ob), fX7_peek_30 T = some res → dt_At G A p l e (dt_rm 1) s m args below meth c 1 (MQ below (dt_Post G A (some (.int res)) (dt_put M k T)) args s 0 0 A) 30 [] [] (dt_put M k T) := by
  intro T h
  unfold fX7_peek_30 at h
  refine dz_sipush (pc := 30) (v := (30000 : Int32)) C dX7_peek_30 (by decide) ?_
  cases dt_some h
  exact dz_iret (pc := 33) C hr dX7_peek_33
def fX7_peek  (T : dt_Ob) : Option (Int32) := (if (T 3 0) < 0 then (fX7_peek_30 T) else (if (T 2 0) ≤ (T 3 0) then (fX7_peek_30 T) else ((dt_ix (T 3 0) 401).bind fun a1 => (some ((T 0) a1)))))
set_option maxRecDepth 10000 in
set_option maxHeartbeats 4000000 in
theorem m_X7_peek {nb : Nat} (l : Launch) {k : Nat} (hk : k < 18 + nb ∧ dt_c k = 7)  (M : dt_M) (T : dt_Ob)   {res : Int32} (h : fX7_peek T = some res) : dt_Met nb l yX7_peek cX7_peek 1 (some .int) 1 (fun G => [.ref (G.1 k 0)]) (dt_put M k T) (some (.int res)) (dt_put M k T) := by
  refine dz_enter (lv := fun G => [(0, .ref (G.1 k 0))]) (by decide) (fun _ => rfl) (fun _ => Nat.le_of_ble_eq_true rfl) (fun G A p e s m args below meth c C hr => ?_)
  unfold fX7_peek at h
  refine dz_aload_n (pc := 0) C dX7_peek_0 rfl 0 rfl ?_
  refine dz_getI (pc := 1) (k := k) (j := 3) (v := (T 3 0)) C Fc_X7 hk (by decide) rfl rfl fl_X7_22 (dt_rA _ _ _ _ _) dX7_peek_1 ?_
  refine dz_if_lt (pc := 4) (t := 30) C dX7_peek_4 (by decide) h (fun h => ?_) (fun h => ?_)
  · refine dz_sub [] rfl ?_
    exact tX7_peek_30 C hr hk  T h
  · refine dz_aload_n (pc := 7) C dX7_peek_7 rfl 0 rfl ?_
    refine dz_getI (pc := 8) (k := k) (j := 3) (v := (T 3 0)) C Fc_X7 hk (by decide) rfl rfl fl_X7_22 (dt_rA _ _ _ _ _) dX7_peek_8 ?_
    refine dz_aload_n (pc := 11) C dX7_peek_11 rfl 0 rfl ?_
    refine dz_getI (pc := 12) (k := k) (j := 2) (v := (T 2 0)) C Fc_X7 hk (by decide) rfl rfl fl_X7_18 (dt_rA _ _ _ _ _) dX7_peek_12 ?_
    refine dz_icmp_ge (pc := 15) (t := 30) C dX7_peek_15 (by decide) h (fun h => ?_) (fun h => ?_)
    · refine dz_sub [] rfl ?_
      exact tX7_peek_30 C hr hk  T h
    · refine dz_aload_n (pc := 18) C dX7_peek_18 rfl 0 rfl ?_
      refine dz_getR (pc := 19) (k := k) (j := 0) C Fc_X7 hk (by decide) (by decide) rfl fl_X7_11 dX7_peek_19 ?_
      refine dz_aload_n (pc := 22) C dX7_peek_22 rfl 0 rfl ?_
      refine dz_getI (pc := 23) (k := k) (j := 3) (v := (T 3 0)) C Fc_X7 hk (by decide) rfl rfl fl_X7_22 (dt_rA _ _ _ _ _) dX7_peek_23 ?_
      refine dz_iald (pc := 26) (k := k) (j := 0) (n := 401) (f := (T 0)) C hk (by decide) rfl (dt_rAf _ _ _ _) dX7_peek_26 h (fun a1 h => ?_)
      refine dz_goto (pc := 27) (t := 33) C dX7_peek_27 (by decide) ?_
      cases dt_some h
      exact dz_iret (pc := 33) C hr dX7_peek_33

def fX7_fail_47  (T : dt_Ob) : Option (dt_Ob) := (some (dt_set T 3 0 (T 2 0)))
set_option maxRecDepth 10000 in
set_option maxHeartbeats 4000000 in
theorem tX7_fail_47 {nb : Nat} {G : dt_G} {A : Nat → Prop} {p : Program} {l : Launch} {e : Env} {s : State} {m : MethodId} {args : Array Value} {below : List Frame} {meth : Method} {c : Code} (C : dt_Cx nb G A p s m args meth c cX7_fail 2 RX7) (hr : meth.sig.returnType = none) {k : Nat} (hk : k < 18 + nb ∧ dt_c k = 7) {M : dt_M} {res : dt_Ob}  : ∀ (T : dt_Ob), fX7_fail_47 T = some res → dt_At G A p l e (dt_rm 1) s m args below meth c 2 (MQ below (dt_Post G A none (dt_put M k res)) args s 0 0 A) 47 [(0, .ref (G.1 k 0))] [] (dt_put M k T) := by
  intro T h
  unfold fX7_fail_47 at h
  refine dz_aload_n (pc := 47) C dX7_fail_47 rfl 0 rfl ?_
  refine dz_aload_n (pc := 48) C dX7_fail_48 rfl 0 rfl ?_
  refine dz_getI (pc := 49) (k := k) (j := 2) (v := (T 2 0)) C Fc_X7 hk (by decide) rfl rfl fl_X7_18 (dt_rA _ _ _ _ _) dX7_fail_49 ?_
  refine dz_putI (pc := 52) (k := k) (j := 3) (M' := (dt_put M k (dt_set T 3 0 (T 2 0)))) C Fc_X7 hk (by decide) rfl rfl rfl rfl fl_X7_22 (dt_wA _ _ _ _ _ _) dX7_fail_52 ?_
  cases dt_some h
  exact dz_vret (pc := 55) C hr dX7_fail_55
def fX7_fail_44  (s1 : Int32) (T : dt_Ob) : Option (dt_Ob) := (fX7_fail_47 (dt_set T 7 0 s1))
set_option maxRecDepth 10000 in
set_option maxHeartbeats 4000000 in
theorem tX7_fail_44 {nb : Nat} {G : dt_G} {A : Nat → Prop} {p : Program} {l : Launch} {e : Env} {s : State} {m : MethodId} {args : Array Value} {below : List Frame} {meth : Method} {c : Code} (C : dt_Cx nb G A p s m args meth c cX7_fail 2 RX7) (hr : meth.sig.returnType = none) {k : Nat} (hk : k < 18 + nb ∧ dt_c k = 7) {M : dt_M} {res : dt_Ob}  : ∀ (s1 : Int32) (T : dt_Ob), fX7_fail_44 s1 T = some res → dt_At G A p l e (dt_rm 1) s m args below meth c 2 (MQ below (dt_Post G A none (dt_put M k res)) args s 0 0 A) 44 [(0, .ref (G.1 k 0))] [.int s1, .ref (G.1 k 0)] (dt_put M k T) := by
  intro s1 T h
  unfold fX7_fail_44 at h
  refine dz_putI (pc := 44) (k := k) (j := 7) (M' := (dt_put M k (dt_set T 7 0 s1))) C Fc_X7 hk (by decide) rfl rfl rfl rfl fl_X7_34 (dt_wA _ _ _ _ _ _) dX7_fail_44 ?_
  exact tX7_fail_47 C hr hk  (dt_set T 7 0 s1) h
def fX7_fail_43  (T : dt_Ob) : Option (dt_Ob) := (fX7_fail_44 (-1 : Int32) T)
set_option maxRecDepth 10000 in
set_option maxHeartbeats 4000000 in
theorem tX7_fail_43 {nb : Nat} {G : dt_G} {A : Nat → Prop} {p : Program} {l : Launch} {e : Env} {s : State} {m : MethodId} {args : Array Value} {below : List Frame} {meth : Method} {c : Code} (C : dt_Cx nb G A p s m args meth c cX7_fail 2 RX7) (hr : meth.sig.returnType = none) {k : Nat} (hk : k < 18 + nb ∧ dt_c k = 7) {M : dt_M} {res : dt_Ob}  : ∀ (T : dt_Ob), fX7_fail_43 T = some res → dt_At G A p l e (dt_rm 1) s m args below meth c 2 (MQ below (dt_Post G A none (dt_put M k res)) args s 0 0 A) 43 [(0, .ref (G.1 k 0))] [.ref (G.1 k 0)] (dt_put M k T) := by
  intro T h
  unfold fX7_fail_43 at h
  refine dz_iconst (pc := 43) (v := (-1 : Int32)) C dX7_fail_43 (by decide) ?_
  exact tX7_fail_44 C hr hk  (-1 : Int32) T h
def fX7_fail  (x1 : Int32) (T : dt_Ob) : Option (dt_Ob) := (if (T 6 0) = 0 then (if (T 3 0) < 0 then (fX7_fail_43 (dt_set T 6 0 x1)) else (if (T 2 0) < (T 3 0) then (fX7_fail_43 (dt_set T 6 0 x1)) else ((dt_ix (T 3 0) 401).bind fun a1 => (fX7_fail_44 ((T 1) a1) (dt_set T 6 0 x1))))) else (fX7_fail_47 T))
set_option maxRecDepth 10000 in
set_option maxHeartbeats 4000000 in
theorem m_X7_fail {nb : Nat} (l : Launch) {k : Nat} (hk : k < 18 + nb ∧ dt_c k = 7)  (M : dt_M) (T : dt_Ob)  (x1 : Int32) {res : dt_Ob} (h : fX7_fail x1 T = some res) : dt_Met nb l yX7_fail cX7_fail 2 none 1 (fun G => [.ref (G.1 k 0), .int x1]) (dt_put M k T) none (dt_put M k res) := by
  refine dz_enter (lv := fun G => [(0, .ref (G.1 k 0)), (1, .int x1)]) (by decide) (fun _ => rfl) (fun _ => Nat.le_of_ble_eq_true rfl) (fun G A p e s m args below meth c C hr => ?_)
  unfold fX7_fail at h
  refine dz_aload_n (pc := 0) C dX7_fail_0 rfl 0 rfl ?_
  refine dz_getI (pc := 1) (k := k) (j := 6) (v := (T 6 0)) C Fc_X7 hk (by decide) rfl rfl fl_X7_31 (dt_rA _ _ _ _ _) dX7_fail_1 ?_
  refine dz_if_ne (pc := 4) (t := 47) C dX7_fail_4 (by decide) h (fun h => ?_) (fun h => ?_)
  · refine dz_sub [0] rfl ?_
    exact tX7_fail_47 C hr hk  T h
  · refine dz_aload_n (pc := 7) C dX7_fail_7 rfl 0 rfl ?_
    refine dz_iload_n (pc := 8) C dX7_fail_8 rfl 1 rfl ?_
    refine dz_putI (pc := 9) (k := k) (j := 6) (M' := (dt_put M k (dt_set T 6 0 x1))) C Fc_X7 hk (by decide) rfl rfl rfl rfl fl_X7_31 (dt_wA _ _ _ _ _ _) dX7_fail_9 ?_
    refine dz_aload_n (pc := 12) C dX7_fail_12 rfl 0 rfl ?_
    refine dz_aload_n (pc := 13) C dX7_fail_13 rfl 0 rfl ?_
    refine dz_getI (pc := 14) (k := k) (j := 3) (v := (T 3 0)) C Fc_X7 hk (by decide) rfl rfl fl_X7_22 (dt_rA _ _ _ _ _) dX7_fail_14 ?_
    refine dz_if_lt (pc := 17) (t := 43) C dX7_fail_17 (by decide) h (fun h => ?_) (fun h => ?_)
    · refine dz_sub [0] rfl ?_
      exact tX7_fail_43 C hr hk  (dt_set T 6 0 x1) h
    · refine dz_aload_n (pc := 20) C dX7_fail_20 rfl 0 rfl ?_
      refine dz_getI (pc := 21) (k := k) (j := 3) (v := (T 3 0)) C Fc_X7 hk (by decide) rfl rfl fl_X7_22 (dt_rA _ _ _ _ _) dX7_fail_21 ?_
      refine dz_aload_n (pc := 24) C dX7_fail_24 rfl 0 rfl ?_
      refine dz_getI (pc := 25) (k := k) (j := 2) (v := (T 2 0)) C Fc_X7 hk (by decide) rfl rfl fl_X7_18 (dt_rA _ _ _ _ _) dX7_fail_25 ?_
      refine dz_icmp_gt (pc := 28) (t := 43) C dX7_fail_28 (by decide) h (fun h => ?_) (fun h => ?_)
      · refine dz_sub [0] rfl ?_
        exact tX7_fail_43 C hr hk  (dt_set T 6 0 x1) h
      · refine dz_aload_n (pc := 31) C dX7_fail_31 rfl 0 rfl ?_
        refine dz_getR (pc := 32) (k := k) (j := 1) C Fc_X7 hk (by decide) (by decide) rfl fl_X7_15 dX7_fail_32 ?_
        refine dz_aload_n (pc := 35) C dX7_fail_35 rfl 0 rfl ?_
        refine dz_getI (pc := 36) (k := k) (j := 3) (v := (T 3 0)) C Fc_X7 hk (by decide) rfl rfl fl_X7_22 (dt_rA _ _ _ _ _) dX7_fail_36 ?_
        refine dz_iald (pc := 39) (k := k) (j := 1) (n := 401) (f := (T 1)) C hk (by decide) rfl (dt_rAf _ _ _ _) dX7_fail_39 h (fun a1 h => ?_)
        refine dz_goto (pc := 40) (t := 44) C dX7_fail_40 (by decide) ?_
        refine dz_sub [0] rfl ?_
        exact tX7_fail_44 C hr hk  ((T 1) a1) (dt_set T 6 0 x1) h

def fX7_expect  (x1 : Int32) (T : dt_Ob) : Option (dt_Ob) := ((fX7_peek T).bind fun q1 => (if q1 = x1 then (some (dt_set T 3 0 ((T 3 0) + (1 : Int32)))) else ((fX7_fail (1 : Int32) T).bind fun q2 => (some q2))))
set_option maxRecDepth 10000 in
set_option maxHeartbeats 4000000 in
theorem m_X7_expect {nb : Nat} (l : Launch) {k : Nat} (hk : k < 18 + nb ∧ dt_c k = 7)  (M : dt_M) (T : dt_Ob)  (x1 : Int32) {res : dt_Ob} (h : fX7_expect x1 T = some res) : dt_Met nb l yX7_expect cX7_expect 2 none 2 (fun G => [.ref (G.1 k 0), .int x1]) (dt_put M k T) none (dt_put M k res) := by
  refine dz_enter (lv := fun G => [(0, .ref (G.1 k 0)), (1, .int x1)]) (by decide) (fun _ => rfl) (fun _ => Nat.le_of_ble_eq_true rfl) (fun G A p e s m args below meth c C hr => ?_)
  unfold fX7_expect at h
  refine dz_aload_n (pc := 0) C dX7_expect_0 rfl 0 rfl ?_
  obtain ⟨q1, eq1, h⟩ := dt_bind h
  refine dz_callVi (pc := 1) (st := []) (k := k) (As := []) (M' := (dt_put M k T)) C Fc_X7 hk mf_X7_peek rfl ml_X7_50 (m_X7_peek l hk _ _ eq1) rfl rfl (by omega) (by decide) (Nat.le_of_ble_eq_true rfl) dX7_expect_1 ?_
  refine dz_iload_n (pc := 4) C dX7_expect_4 rfl 1 rfl ?_
  refine dz_icmp_ne (pc := 5) (t := 21) C dX7_expect_5 (by decide) h (fun h => ?_) (fun h => ?_)
  · refine dz_aload_n (pc := 21) C dX7_expect_21 rfl 0 rfl ?_
    refine dz_iconst (pc := 22) (v := (1 : Int32)) C dX7_expect_22 (by decide) ?_
    obtain ⟨q2, eq2, h⟩ := dt_bind h
    refine dz_callVv (pc := 23) (st := []) (k := k) (As := [.int (1 : Int32)]) (M' := (dt_put M k q2)) C Fc_X7 hk mf_X7_fail rfl ml_X7_54 (m_X7_fail l hk _ _ _ eq2) rfl rfl (by omega) (by decide) (Nat.le_of_ble_eq_true rfl) dX7_expect_23 ?_
    cases dt_some h
    exact dz_vret (pc := 26) C hr dX7_expect_26
  · refine dz_aload_n (pc := 8) C dX7_expect_8 rfl 0 rfl ?_
    refine dz_dup (pc := 9) C dX7_expect_9 rfl ?_
    refine dz_getI (pc := 10) (k := k) (j := 3) (v := (T 3 0)) C Fc_X7 hk (by decide) rfl rfl fl_X7_22 (dt_rA _ _ _ _ _) dX7_expect_10 ?_
    refine dz_iconst (pc := 13) (v := (1 : Int32)) C dX7_expect_13 (by decide) ?_
    refine dz_iadd (pc := 14) C dX7_expect_14 ?_
    refine dz_putI (pc := 15) (k := k) (j := 3) (M' := (dt_put M k (dt_set T 3 0 ((T 3 0) + (1 : Int32))))) C Fc_X7 hk (by decide) rfl rfl rfl rfl fl_X7_22 (dt_wA _ _ _ _ _ _) dX7_expect_15 ?_
    refine dz_goto (pc := 18) (t := 26) C dX7_expect_18 (by decide) ?_
    cases dt_some h
    exact dz_vret (pc := 26) C hr dX7_expect_26

def fX7_expectOrder_26  (T : dt_Ob) : Option (dt_Ob) := (some (dt_set T 3 0 ((T 3 0) + (1 : Int32))))
set_option maxRecDepth 10000 in
set_option maxHeartbeats 4000000 in
theorem tX7_expectOrder_26 {nb : Nat} {G : dt_G} {A : Nat → Prop} {p : Program} {l : Launch} {e : Env} {s : State} {m : MethodId} {args : Array Value} {below : List Frame} {meth : Method} {c : Code} (C : dt_Cx nb G A p s m args meth c cX7_expectOrder 2 RX7) (hr : meth.sig.returnType = none) {k : Nat} (hk : k < 18 + nb ∧ dt_c k = 7) {M : dt_M} {res : dt_Ob}  : ∀ (T : dt_Ob), fX7_expectOrder_26 T = some res → dt_At G A p l e (dt_rm 2) s m args below meth c 2 (MQ below (dt_Post G A none (dt_put M k res)) args s 0 0 A) 26 [(0, .ref (G.1 k 0))] [] (dt_put M k T) := by
  intro T h
  unfold fX7_expectOrder_26 at h
  refine dz_aload_n (pc := 26) C dX7_expectOrder_26 rfl 0 rfl ?_
  refine dz_dup (pc := 27) C dX7_expectOrder_27 rfl ?_
  refine dz_getI (pc := 28) (k := k) (j := 3) (v := (T 3 0)) C Fc_X7 hk (by decide) rfl rfl fl_X7_22 (dt_rA _ _ _ _ _) dX7_expectOrder_28 ?_
  refine dz_iconst (pc := 31) (v := (1 : Int32)) C dX7_expectOrder_31 (by decide) ?_
  refine dz_iadd (pc := 32) C dX7_expectOrder_32 ?_
  refine dz_putI (pc := 33) (k := k) (j := 3) (M' := (dt_put M k (dt_set T 3 0 ((T 3 0) + (1 : Int32))))) C Fc_X7 hk (by decide) rfl rfl rfl rfl fl_X7_22 (dt_wA _ _ _ _ _ _) dX7_expectOrder_33 ?_
  refine dz_goto (pc := 36) (t := 44) C dX7_expectOrder_36 (by decide) ?_
  cases dt_some h
  exact dz_vret (pc := 44) C hr dX7_expectOrder_44
def fX7_expectOrder  (T : dt_Ob) : Option (dt_Ob) := ((fX7_peek T).bind fun q1 => (if q1 = (10060 : Int32) then (fX7_expectOrder_26 T) else (if q1 = (10061 : Int32) then (fX7_expectOrder_26 T) else (if q1 = (10062 : Int32) then (fX7_expectOrder_26 T) else ((fX7_fail (1 : Int32) T).bind fun q2 => (some q2))))))
set_option maxRecDepth 10000 in
set_option maxHeartbeats 4000000 in
theorem m_X7_expectOrder {nb : Nat} (l : Launch) {k : Nat} (hk : k < 18 + nb ∧ dt_c k = 7)  (M : dt_M) (T : dt_Ob)   {res : dt_Ob} (h : fX7_expectOrder T = some res) : dt_Met nb l yX7_expectOrder cX7_expectOrder 2 none 2 (fun G => [.ref (G.1 k 0)]) (dt_put M k T) none (dt_put M k res) := by
  refine dz_enter (lv := fun G => [(0, .ref (G.1 k 0))]) (by decide) (fun _ => rfl) (fun _ => Nat.le_of_ble_eq_true rfl) (fun G A p e s m args below meth c C hr => ?_)
  unfold fX7_expectOrder at h
  refine dz_aload_n (pc := 0) C dX7_expectOrder_0 rfl 0 rfl ?_
  obtain ⟨q1, eq1, h⟩ := dt_bind h
  refine dz_callVi (pc := 1) (st := []) (k := k) (As := []) (M' := (dt_put M k T)) C Fc_X7 hk mf_X7_peek rfl ml_X7_50 (m_X7_peek l hk _ _ eq1) rfl rfl (by omega) (by decide) (Nat.le_of_ble_eq_true rfl) dX7_expectOrder_1 ?_
  refine dz_istore_n (pc := 4) C dX7_expectOrder_4 rfl (by decide) rfl ?_
  refine dz_iload_n (pc := 5) C dX7_expectOrder_5 rfl 0 rfl ?_
  refine dz_sipush (pc := 6) (v := (10060 : Int32)) C dX7_expectOrder_6 (by decide) ?_
  refine dz_icmp_eq (pc := 9) (t := 26) C dX7_expectOrder_9 (by decide) h (fun h => ?_) (fun h => ?_)
  · refine dz_sub [1] rfl ?_
    exact tX7_expectOrder_26 C hr hk  T h
  · refine dz_iload_n (pc := 12) C dX7_expectOrder_12 rfl 0 rfl ?_
    refine dz_sipush (pc := 13) (v := (10061 : Int32)) C dX7_expectOrder_13 (by decide) ?_
    refine dz_icmp_eq (pc := 16) (t := 26) C dX7_expectOrder_16 (by decide) h (fun h => ?_) (fun h => ?_)
    · refine dz_sub [1] rfl ?_
      exact tX7_expectOrder_26 C hr hk  T h
    · refine dz_iload_n (pc := 19) C dX7_expectOrder_19 rfl 0 rfl ?_
      refine dz_sipush (pc := 20) (v := (10062 : Int32)) C dX7_expectOrder_20 (by decide) ?_
      refine dz_icmp_ne (pc := 23) (t := 39) C dX7_expectOrder_23 (by decide) h (fun h => ?_) (fun h => ?_)
      · refine dz_aload_n (pc := 39) C dX7_expectOrder_39 rfl 1 rfl ?_
        refine dz_iconst (pc := 40) (v := (1 : Int32)) C dX7_expectOrder_40 (by decide) ?_
        obtain ⟨q2, eq2, h⟩ := dt_bind h
        refine dz_callVv (pc := 41) (st := []) (k := k) (As := [.int (1 : Int32)]) (M' := (dt_put M k q2)) C Fc_X7 hk mf_X7_fail rfl ml_X7_54 (m_X7_fail l hk _ _ _ eq2) rfl rfl (by omega) (by decide) (Nat.le_of_ble_eq_true rfl) dX7_expectOrder_41 ?_
        cases dt_some h
        exact dz_vret (pc := 44) C hr dX7_expectOrder_44
      · refine dz_sub [1] rfl ?_
        exact tX7_expectOrder_26 C hr hk  T h

def fX7_isSo  (x0 : Int32) (x1 : Int32) (x2 : Int32) : Option (Int32) := (if x1 = (10061 : Int32) then (if x0 = x2 then (some (1 : Int32)) else (some (0 : Int32))) else (if x1 = (10060 : Int32) then (if x2 ≤ x0 then (some (0 : Int32)) else (some (1 : Int32))) else (if x0 ≤ x2 then (some (0 : Int32)) else (some (1 : Int32)))))
set_option maxRecDepth 10000 in
set_option maxHeartbeats 4000000 in
theorem m_X7_isSo {nb : Nat} (l : Launch)  (M : dt_M)   (x0 : Int32) (x1 : Int32) (x2 : Int32) {res : Int32} (h : fX7_isSo x0 x1 x2 = some res) : dt_Met nb l yX7_isSo cX7_isSo 3 (some .boolean) 1 (fun G => [.int x0, .int x1, .int x2]) M (some (.int res)) M := by
  refine dz_enter (lv := fun G => [(0, .int x0), (1, .int x1), (2, .int x2)]) (by decide) (fun _ => rfl) (fun _ => Nat.le_of_ble_eq_true rfl) (fun G A p e s m args below meth c C hr => ?_)
  unfold fX7_isSo at h
  refine dz_iload_n (pc := 0) C dX7_isSo_0 rfl 1 rfl ?_
  refine dz_sipush (pc := 1) (v := (10061 : Int32)) C dX7_isSo_1 (by decide) ?_
  refine dz_icmp_ne (pc := 4) (t := 18) C dX7_isSo_4 (by decide) h (fun h => ?_) (fun h => ?_)
  · refine dz_iload_n (pc := 18) C dX7_isSo_18 rfl 1 rfl ?_
    refine dz_sipush (pc := 19) (v := (10060 : Int32)) C dX7_isSo_19 (by decide) ?_
    refine dz_icmp_ne (pc := 22) (t := 38) C dX7_isSo_22 (by decide) h (fun h => ?_) (fun h => ?_)
    · refine dz_iload_n (pc := 38) C dX7_isSo_38 rfl 0 rfl ?_
      refine dz_iload_n (pc := 39) C dX7_isSo_39 rfl 2 rfl ?_
      refine dz_icmp_le (pc := 40) (t := 47) C dX7_isSo_40 (by decide) h (fun h => ?_) (fun h => ?_)
      · refine dz_iconst (pc := 47) (v := (0 : Int32)) C dX7_isSo_47 (by decide) ?_
        cases dt_some h
        exact dz_zret (pc := 48) C hr (Or.inl rfl) dX7_isSo_48
      · refine dz_iconst (pc := 43) (v := (1 : Int32)) C dX7_isSo_43 (by decide) ?_
        refine dz_goto (pc := 44) (t := 48) C dX7_isSo_44 (by decide) ?_
        cases dt_some h
        exact dz_zret (pc := 48) C hr (Or.inr rfl) dX7_isSo_48
    · refine dz_iload_n (pc := 25) C dX7_isSo_25 rfl 0 rfl ?_
      refine dz_iload_n (pc := 26) C dX7_isSo_26 rfl 2 rfl ?_
      refine dz_icmp_ge (pc := 27) (t := 34) C dX7_isSo_27 (by decide) h (fun h => ?_) (fun h => ?_)
      · refine dz_iconst (pc := 34) (v := (0 : Int32)) C dX7_isSo_34 (by decide) ?_
        refine dz_goto (pc := 35) (t := 48) C dX7_isSo_35 (by decide) ?_
        cases dt_some h
        exact dz_zret (pc := 48) C hr (Or.inl rfl) dX7_isSo_48
      · refine dz_iconst (pc := 30) (v := (1 : Int32)) C dX7_isSo_30 (by decide) ?_
        refine dz_goto (pc := 31) (t := 48) C dX7_isSo_31 (by decide) ?_
        cases dt_some h
        exact dz_zret (pc := 48) C hr (Or.inr rfl) dX7_isSo_48
  · refine dz_iload_n (pc := 7) C dX7_isSo_7 rfl 0 rfl ?_
    refine dz_iload_n (pc := 8) C dX7_isSo_8 rfl 2 rfl ?_
    refine dz_icmp_ne (pc := 9) (t := 16) C dX7_isSo_9 (by decide) h (fun h => ?_) (fun h => ?_)
    · refine dz_iconst (pc := 16) (v := (0 : Int32)) C dX7_isSo_16 (by decide) ?_
      cases dt_some h
      exact dz_zret (pc := 17) C hr (Or.inl rfl) dX7_isSo_17
    · refine dz_iconst (pc := 12) (v := (1 : Int32)) C dX7_isSo_12 (by decide) ?_
      refine dz_goto (pc := 13) (t := 17) C dX7_isSo_13 (by decide) ?_
      cases dt_some h
      exact dz_zret (pc := 17) C hr (Or.inr rfl) dX7_isSo_17

def fX7_partOf  (x1 : Int32) (T : dt_Ob) : Option (Int32 × dt_Ob) := ((fX7_peek T).bind fun q1 => (if q1 = 0 then ((fX7_fail (2 : Int32) T).bind fun q3 => (some ((0 : Int32), q3))) else (if q1 < (10000 : Int32) then (if q1 = 0 then none else (some ((x1 / q1), (dt_set T 3 0 ((T 3 0) + (1 : Int32)))))) else ((fX7_fail (1 : Int32) T).bind fun q2 => (some ((0 : Int32), q2))))))
set_option maxRecDepth 10000 in
set_option maxHeartbeats 4000000 in
theorem m_X7_partOf {nb : Nat} (l : Launch) {k : Nat} (hk : k < 18 + nb ∧ dt_c k = 7)  (M : dt_M) (T : dt_Ob)  (x1 : Int32) {res : Int32 × dt_Ob} (h : fX7_partOf x1 T = some res) : dt_Met nb l yX7_partOf cX7_partOf 3 (some .int) 2 (fun G => [.ref (G.1 k 0), .int x1]) (dt_put M k T) (some (.int res.1)) (dt_put M k res.2) := by
  refine dz_enter (lv := fun G => [(0, .ref (G.1 k 0)), (1, .int x1)]) (by decide) (fun _ => rfl) (fun _ => Nat.le_of_ble_eq_true rfl) (fun G A p e s m args below meth c C hr => ?_)
  unfold fX7_partOf at h
  refine dz_aload_n (pc := 0) C dX7_partOf_0 rfl 0 rfl ?_
  obtain ⟨q1, eq1, h⟩ := dt_bind h
  refine dz_callVi (pc := 1) (st := []) (k := k) (As := []) (M' := (dt_put M k T)) C Fc_X7 hk mf_X7_peek rfl ml_X7_50 (m_X7_peek l hk _ _ eq1) rfl rfl (by omega) (by decide) (Nat.le_of_ble_eq_true rfl) dX7_partOf_1 ?_
  refine dz_istore_n (pc := 4) C dX7_partOf_4 rfl (by decide) rfl ?_
  refine dz_iload_n (pc := 5) C dX7_partOf_5 rfl 0 rfl ?_
  refine dz_if_ne (pc := 6) (t := 16) C dX7_partOf_6 (by decide) h (fun h => ?_) (fun h => ?_)
  · refine dz_iload_n (pc := 16) C dX7_partOf_16 rfl 0 rfl ?_
    refine dz_sipush (pc := 17) (v := (10000 : Int32)) C dX7_partOf_17 (by decide) ?_
    refine dz_icmp_lt (pc := 20) (t := 30) C dX7_partOf_20 (by decide) h (fun h => ?_) (fun h => ?_)
    · refine dz_aload_n (pc := 30) C dX7_partOf_30 rfl 1 rfl ?_
      refine dz_dup (pc := 31) C dX7_partOf_31 rfl ?_
      refine dz_getI (pc := 32) (k := k) (j := 3) (v := (T 3 0)) C Fc_X7 hk (by decide) rfl rfl fl_X7_22 (dt_rA _ _ _ _ _) dX7_partOf_32 ?_
      refine dz_iconst (pc := 35) (v := (1 : Int32)) C dX7_partOf_35 (by decide) ?_
      refine dz_iadd (pc := 36) C dX7_partOf_36 ?_
      refine dz_putI (pc := 37) (k := k) (j := 3) (M' := (dt_put M k (dt_set T 3 0 ((T 3 0) + (1 : Int32))))) C Fc_X7 hk (by decide) rfl rfl rfl rfl fl_X7_22 (dt_wA _ _ _ _ _ _) dX7_partOf_37 ?_
      refine dz_iload_n (pc := 40) C dX7_partOf_40 rfl 2 rfl ?_
      refine dz_iload_n (pc := 41) C dX7_partOf_41 rfl 0 rfl ?_
      refine dz_idiv (pc := 42) C dX7_partOf_42 h (fun h => ?_)
      cases dt_some h
      exact dz_iret (pc := 43) C hr dX7_partOf_43
    · refine dz_aload_n (pc := 23) C dX7_partOf_23 rfl 1 rfl ?_
      refine dz_iconst (pc := 24) (v := (1 : Int32)) C dX7_partOf_24 (by decide) ?_
      obtain ⟨q2, eq2, h⟩ := dt_bind h
      refine dz_callVv (pc := 25) (st := []) (k := k) (As := [.int (1 : Int32)]) (M' := (dt_put M k q2)) C Fc_X7 hk mf_X7_fail rfl ml_X7_54 (m_X7_fail l hk _ _ _ eq2) rfl rfl (by omega) (by decide) (Nat.le_of_ble_eq_true rfl) dX7_partOf_25 ?_
      refine dz_iconst (pc := 28) (v := (0 : Int32)) C dX7_partOf_28 (by decide) ?_
      cases dt_some h
      exact dz_iret (pc := 29) C hr dX7_partOf_29
  · refine dz_aload_n (pc := 9) C dX7_partOf_9 rfl 1 rfl ?_
    refine dz_iconst (pc := 10) (v := (2 : Int32)) C dX7_partOf_10 (by decide) ?_
    obtain ⟨q3, eq3, h⟩ := dt_bind h
    refine dz_callVv (pc := 11) (st := []) (k := k) (As := [.int (2 : Int32)]) (M' := (dt_put M k q3)) C Fc_X7 hk mf_X7_fail rfl ml_X7_54 (m_X7_fail l hk _ _ _ eq3) rfl rfl (by omega) (by decide) (Nat.le_of_ble_eq_true rfl) dX7_partOf_11 ?_
    refine dz_iconst (pc := 14) (v := (0 : Int32)) C dX7_partOf_14 (by decide) ?_
    cases dt_some h
    exact dz_iret (pc := 15) C hr dX7_partOf_15

def fX7_unit_40  (T : dt_Ob) : Option (Int32 × dt_Ob) := ((fX7_fail (1 : Int32) T).bind fun q3 => (some ((0 : Int32), q3)))
set_option maxRecDepth 10000 in
set_option maxHeartbeats 4000000 in
theorem tX7_unit_40 {nb : Nat} {G : dt_G} {A : Nat → Prop} {p : Program} {l : Launch} {e : Env} {s : State} {m : MethodId} {args : Array Value} {below : List Frame} {meth : Method} {c : Code} (C : dt_Cx nb G A p s m args meth c cX7_unit 3 RX7) (hr : meth.sig.returnType = (some .int)) {k : Nat} (hk : k < 18 + nb ∧ dt_c k = 7) {M : dt_M} {res : Int32 × dt_Ob}  : ∀ (T : dt_Ob), fX7_unit_40 T = some res → dt_At G A p l e (dt_rm 2) s m args below meth c 3 (MQ below (dt_Post G A (some (.int res.1)) (dt_put M k res.2)) args s 0 0 A) 40 [(0, .ref (G.1 k 0))] [] (dt_put M k T) := by
  intro T h
  unfold fX7_unit_40 at h
  refine dz_aload_n (pc := 40) C dX7_unit_40 rfl 0 rfl ?_
  refine dz_iconst (pc := 41) (v := (1 : Int32)) C dX7_unit_41 (by decide) ?_
  obtain ⟨q3, eq3, h⟩ := dt_bind h
  refine dz_callVv (pc := 42) (st := []) (k := k) (As := [.int (1 : Int32)]) (M' := (dt_put M k q3)) C Fc_X7 hk mf_X7_fail rfl ml_X7_54 (m_X7_fail l hk _ _ _ eq3) rfl rfl (by omega) (by decide) (Nat.le_of_ble_eq_true rfl) dX7_unit_42 ?_
  refine dz_iconst (pc := 45) (v := (0 : Int32)) C dX7_unit_45 (by decide) ?_
  cases dt_some h
  exact dz_iret (pc := 46) C hr dX7_unit_46
def fX7_unit  (T : dt_Ob) : Option (Int32 × dt_Ob) := ((fX7_peek T).bind fun q1 => (if (10000 : Int32) ≤ q1 then (if (q1 - (20005 : Int32)) < 0 then (fX7_unit_40 T) else (if (q1 - (20005 : Int32)) < (7 : Int32) then ((dt_ix (q1 - (20005 : Int32)) 7).bind fun a2 => (some (((T 4) a2), (dt_set T 3 0 ((T 3 0) + (1 : Int32)))))) else (fX7_unit_40 T))) else (some (q1, (dt_set T 3 0 ((T 3 0) + (1 : Int32)))))))
set_option maxRecDepth 10000 in
set_option maxHeartbeats 4000000 in
theorem m_X7_unit {nb : Nat} (l : Launch) {k : Nat} (hk : k < 18 + nb ∧ dt_c k = 7)  (M : dt_M) (T : dt_Ob)   {res : Int32 × dt_Ob} (h : fX7_unit T = some res) : dt_Met nb l yX7_unit cX7_unit 3 (some .int) 2 (fun G => [.ref (G.1 k 0)]) (dt_put M k T) (some (.int res.1)) (dt_put M k res.2) := by
  refine dz_enter (lv := fun G => [(0, .ref (G.1 k 0))]) (by decide) (fun _ => rfl) (fun _ => Nat.le_of_ble_eq_true rfl) (fun G A p e s m args below meth c C hr => ?_)
  unfold fX7_unit at h
  refine dz_aload_n (pc := 0) C dX7_unit_0 rfl 0 rfl ?_
  obtain ⟨q1, eq1, h⟩ := dt_bind h
  refine dz_callVi (pc := 1) (st := []) (k := k) (As := []) (M' := (dt_put M k T)) C Fc_X7 hk mf_X7_peek rfl ml_X7_50 (m_X7_peek l hk _ _ eq1) rfl rfl (by omega) (by decide) (Nat.le_of_ble_eq_true rfl) dX7_unit_1 ?_
  refine dz_istore_n (pc := 4) C dX7_unit_4 rfl (by decide) rfl ?_
  refine dz_iload_n (pc := 5) C dX7_unit_5 rfl 0 rfl ?_
  refine dz_sipush (pc := 6) (v := (10000 : Int32)) C dX7_unit_6 (by decide) ?_
  refine dz_icmp_ge (pc := 9) (t := 24) C dX7_unit_9 (by decide) h (fun h => ?_) (fun h => ?_)
  · refine dz_iload_n (pc := 24) C dX7_unit_24 rfl 0 rfl ?_
    refine dz_sipush (pc := 25) (v := (20005 : Int32)) C dX7_unit_25 (by decide) ?_
    refine dz_isub (pc := 28) C dX7_unit_28 ?_
    refine dz_istore_n (pc := 29) C dX7_unit_29 rfl (by decide) rfl ?_
    refine dz_iload_n (pc := 30) C dX7_unit_30 rfl 0 rfl ?_
    refine dz_if_lt (pc := 31) (t := 40) C dX7_unit_31 (by decide) h (fun h => ?_) (fun h => ?_)
    · refine dz_sub [2] rfl ?_
      exact tX7_unit_40 C hr hk  T h
    · refine dz_iload_n (pc := 34) C dX7_unit_34 rfl 0 rfl ?_
      refine dz_bipush (pc := 35) (v := (7 : Int32)) C dX7_unit_35 (by decide) ?_
      refine dz_icmp_lt (pc := 37) (t := 47) C dX7_unit_37 (by decide) h (fun h => ?_) (fun h => ?_)
      · refine dz_aload_n (pc := 47) C dX7_unit_47 rfl 2 rfl ?_
        refine dz_dup (pc := 48) C dX7_unit_48 rfl ?_
        refine dz_getI (pc := 49) (k := k) (j := 3) (v := (T 3 0)) C Fc_X7 hk (by decide) rfl rfl fl_X7_22 (dt_rA _ _ _ _ _) dX7_unit_49 ?_
        refine dz_iconst (pc := 52) (v := (1 : Int32)) C dX7_unit_52 (by decide) ?_
        refine dz_iadd (pc := 53) C dX7_unit_53 ?_
        refine dz_putI (pc := 54) (k := k) (j := 3) (M' := (dt_put M k (dt_set T 3 0 ((T 3 0) + (1 : Int32))))) C Fc_X7 hk (by decide) rfl rfl rfl rfl fl_X7_22 (dt_wA _ _ _ _ _ _) dX7_unit_54 ?_
        refine dz_aload_n (pc := 57) C dX7_unit_57 rfl 2 rfl ?_
        refine dz_getR (pc := 58) (k := k) (j := 4) C Fc_X7 hk (by decide) (by decide) rfl fl_X7_25 dX7_unit_58 ?_
        refine dz_iload_n (pc := 61) C dX7_unit_61 rfl 0 rfl ?_
        refine dz_iald (pc := 62) (k := k) (j := 4) (n := 7) (f := (T 4)) C hk (by decide) rfl (dt_rAf _ _ _ _) dX7_unit_62 h (fun a2 h => ?_)
        cases dt_some h
        exact dz_iret (pc := 63) C hr dX7_unit_63
      · refine dz_sub [2] rfl ?_
        exact tX7_unit_40 C hr hk  T h
  · refine dz_aload_n (pc := 12) C dX7_unit_12 rfl 1 rfl ?_
    refine dz_dup (pc := 13) C dX7_unit_13 rfl ?_
    refine dz_getI (pc := 14) (k := k) (j := 3) (v := (T 3 0)) C Fc_X7 hk (by decide) rfl rfl fl_X7_22 (dt_rA _ _ _ _ _) dX7_unit_14 ?_
    refine dz_iconst (pc := 17) (v := (1 : Int32)) C dX7_unit_17 (by decide) ?_
    refine dz_iadd (pc := 18) C dX7_unit_18 ?_
    refine dz_putI (pc := 19) (k := k) (j := 3) (M' := (dt_put M k (dt_set T 3 0 ((T 3 0) + (1 : Int32))))) C Fc_X7 hk (by decide) rfl rfl rfl rfl fl_X7_22 (dt_wA _ _ _ _ _ _) dX7_unit_19 ?_
    refine dz_iload_n (pc := 22) C dX7_unit_22 rfl 0 rfl ?_
    cases dt_some h
    exact dz_iret (pc := 23) C hr dX7_unit_23

def fX7_sum_154 (r12 : Int32 → Int32 → Int32 → Int32 → dt_Ob → Option (Int32 × dt_Ob)) (x1 : Int32) (x2 : Int32) (x3 : Int32) (x4 : Int32) (T : dt_Ob) : Option (Int32 × dt_Ob) := (r12 x1 x2 x3 (x4 + (1 : Int32)) T)
set_option maxRecDepth 10000 in
set_option maxHeartbeats 4000000 in
theorem tX7_sum_154 {nb : Nat} {G : dt_G} {A : Nat → Prop} {p : Program} {l : Launch} {e : Env} {s : State} {m : MethodId} {args : Array Value} {below : List Frame} {meth : Method} {c : Code} (C : dt_Cx nb G A p s m args meth c cX7_sum 7 RX7) (hr : meth.sig.returnType = (some .int)) {k : Nat} (hk : k < 18 + nb ∧ dt_c k = 7) {M : dt_M} {res : Int32 × dt_Ob} {r12 : Int32 → Int32 → Int32 → Int32 → dt_Ob → Option (Int32 × dt_Ob)} (hr12 : ∀ (x1 : Int32) (x2 : Int32) (x3 : Int32) (x4 : Int32) (T : dt_Ob), r12 x1 x2 x3 x4 T = some res → dt_At G A p l e (dt_rm 3) s m args below meth c 7 (MQ below (dt_Post G A (some (.int res.1)) (dt_put M k res.2)) args s 0 0 A) 12 [(0, .ref (G.1 k 0)), (1, .int x1), (2, .int x2), (3, .int x3), (4, .int x4)] [] (dt_put M k T)) : ∀ (x1 : Int32) (x2 : Int32) (x3 : Int32) (x4 : Int32) (T : dt_Ob), fX7_sum_154 r12 x1 x2 x3 x4 T = some res → dt_At G A p l e (dt_rm 3) s m args below meth c 7 (MQ below (dt_Post G A (some (.int res.1)) (dt_put M k res.2)) args s 0 0 A) 154 [(0, .ref (G.1 k 0)), (1, .int x1), (2, .int x2), (3, .int x3), (4, .int x4)] [] (dt_put M k T) := by
  intro x1 x2 x3 x4 T h
  unfold fX7_sum_154 at h
  refine dz_iinc (pc := 154) (v := (x4 + (1 : Int32))) C dX7_sum_154 4 rfl rfl (by decide) rfl ?_
  refine dz_goto (pc := 157) (t := 12) C dX7_sum_157 (by decide) ?_
  refine dz_sub [1, 2, 3, 4, 0] rfl ?_
  exact hr12 x1 x2 x3 (x4 + (1 : Int32)) T h
def fX7_sum_148 (r12 : Int32 → Int32 → Int32 → Int32 → dt_Ob → Option (Int32 × dt_Ob)) (x1 : Int32) (x4 : Int32) (s0 : Int32) (T : dt_Ob) : Option (Int32 × dt_Ob) := ((fX7_unit T).bind fun q5 => (fX7_sum_154 r12 x1 s0 q5.1 x4 q5.2))
set_option maxRecDepth 10000 in
set_option maxHeartbeats 4000000 in
theorem tX7_sum_148 {nb : Nat} {G : dt_G} {A : Nat → Prop} {p : Program} {l : Launch} {e : Env} {s : State} {m : MethodId} {args : Array Value} {below : List Frame} {meth : Method} {c : Code} (C : dt_Cx nb G A p s m args meth c cX7_sum 7 RX7) (hr : meth.sig.returnType = (some .int)) {k : Nat} (hk : k < 18 + nb ∧ dt_c k = 7) {M : dt_M} {res : Int32 × dt_Ob} {r12 : Int32 → Int32 → Int32 → Int32 → dt_Ob → Option (Int32 × dt_Ob)} (hr12 : ∀ (x1 : Int32) (x2 : Int32) (x3 : Int32) (x4 : Int32) (T : dt_Ob), r12 x1 x2 x3 x4 T = some res → dt_At G A p l e (dt_rm 3) s m args below meth c 7 (MQ below (dt_Post G A (some (.int res.1)) (dt_put M k res.2)) args s 0 0 A) 12 [(0, .ref (G.1 k 0)), (1, .int x1), (2, .int x2), (3, .int x3), (4, .int x4)] [] (dt_put M k T)) : ∀ (x1 : Int32) (x4 : Int32) (s0 : Int32) (T : dt_Ob), fX7_sum_148 r12 x1 x4 s0 T = some res → dt_At G A p l e (dt_rm 3) s m args below meth c 7 (MQ below (dt_Post G A (some (.int res.1)) (dt_put M k res.2)) args s 0 0 A) 148 [(0, .ref (G.1 k 0)), (1, .int x1), (4, .int x4)] [.int s0] (dt_put M k T) := by
  intro x1 x4 s0 T h
  unfold fX7_sum_148 at h
  refine dz_istore_n (pc := 148) C dX7_sum_148 rfl (by decide) rfl ?_
  refine dz_aload_n (pc := 149) C dX7_sum_149 rfl 1 rfl ?_
  obtain ⟨q5, eq5, h⟩ := dt_bind h
  refine dz_callVi (pc := 150) (st := []) (k := k) (As := []) (M' := (dt_put M k q5.2)) C Fc_X7 hk mf_X7_unit rfl ml_X7_112 (m_X7_unit l hk _ _ eq5) rfl rfl (by omega) (by decide) (Nat.le_of_ble_eq_true rfl) dX7_sum_150 ?_
  refine dz_istore_n (pc := 153) C dX7_sum_153 rfl (by decide) rfl ?_
  refine dz_sub [2, 3, 1, 0, 4] rfl ?_
  exact tX7_sum_154 C hr hk hr12 x1 s0 q5.1 x4 q5.2 h
def fX7_sum_117 (r12 : Int32 → Int32 → Int32 → Int32 → dt_Ob → Option (Int32 × dt_Ob)) (x4 : Int32) (x5 : Int32) (x6 : Int32) (s0 : Int32) (T : dt_Ob) : Option (Int32 × dt_Ob) := (if x6 = 0 then (some (s0, T)) else (if x5 = (10045 : Int32) then (fX7_sum_148 r12 s0 x4 (1 : Int32) (dt_set T 3 0 ((T 3 0) + (1 : Int32)))) else (fX7_sum_148 r12 s0 x4 (0 : Int32) (dt_set T 3 0 ((T 3 0) + (1 : Int32))))))
set_option maxRecDepth 10000 in
set_option maxHeartbeats 4000000 in
theorem tX7_sum_117 {nb : Nat} {G : dt_G} {A : Nat → Prop} {p : Program} {l : Launch} {e : Env} {s : State} {m : MethodId} {args : Array Value} {below : List Frame} {meth : Method} {c : Code} (C : dt_Cx nb G A p s m args meth c cX7_sum 7 RX7) (hr : meth.sig.returnType = (some .int)) {k : Nat} (hk : k < 18 + nb ∧ dt_c k = 7) {M : dt_M} {res : Int32 × dt_Ob} {r12 : Int32 → Int32 → Int32 → Int32 → dt_Ob → Option (Int32 × dt_Ob)} (hr12 : ∀ (x1 : Int32) (x2 : Int32) (x3 : Int32) (x4 : Int32) (T : dt_Ob), r12 x1 x2 x3 x4 T = some res → dt_At G A p l e (dt_rm 3) s m args below meth c 7 (MQ below (dt_Post G A (some (.int res.1)) (dt_put M k res.2)) args s 0 0 A) 12 [(0, .ref (G.1 k 0)), (1, .int x1), (2, .int x2), (3, .int x3), (4, .int x4)] [] (dt_put M k T)) : ∀ (x4 : Int32) (x5 : Int32) (x6 : Int32) (s0 : Int32) (T : dt_Ob), fX7_sum_117 r12 x4 x5 x6 s0 T = some res → dt_At G A p l e (dt_rm 3) s m args below meth c 7 (MQ below (dt_Post G A (some (.int res.1)) (dt_put M k res.2)) args s 0 0 A) 117 [(0, .ref (G.1 k 0)), (4, .int x4), (5, .int x5), (6, .int x6)] [.int s0] (dt_put M k T) := by
  intro x4 x5 x6 s0 T h
  unfold fX7_sum_117 at h
  refine dz_istore_n (pc := 117) C dX7_sum_117 rfl (by decide) rfl ?_
  refine dz_iload (pc := 118) C dX7_sum_118 4 rfl ?_
  refine dz_if_ne (pc := 120) (t := 125) C dX7_sum_120 (by decide) h (fun h => ?_) (fun h => ?_)
  · refine dz_aload_n (pc := 125) C dX7_sum_125 rfl 1 rfl ?_
    refine dz_dup (pc := 126) C dX7_sum_126 rfl ?_
    refine dz_getI (pc := 127) (k := k) (j := 3) (v := (T 3 0)) C Fc_X7 hk (by decide) rfl rfl fl_X7_22 (dt_rA _ _ _ _ _) dX7_sum_127 ?_
    refine dz_iconst (pc := 130) (v := (1 : Int32)) C dX7_sum_130 (by decide) ?_
    refine dz_iadd (pc := 131) C dX7_sum_131 ?_
    refine dz_putI (pc := 132) (k := k) (j := 3) (M' := (dt_put M k (dt_set T 3 0 ((T 3 0) + (1 : Int32))))) C Fc_X7 hk (by decide) rfl rfl rfl rfl fl_X7_22 (dt_wA _ _ _ _ _ _) dX7_sum_132 ?_
    refine dz_iload (pc := 135) C dX7_sum_135 3 rfl ?_
    refine dz_sipush (pc := 137) (v := (10045 : Int32)) C dX7_sum_137 (by decide) ?_
    refine dz_icmp_ne (pc := 140) (t := 147) C dX7_sum_140 (by decide) h (fun h => ?_) (fun h => ?_)
    · refine dz_iconst (pc := 147) (v := (0 : Int32)) C dX7_sum_147 (by decide) ?_
      refine dz_sub [1, 0, 2] rfl ?_
      exact tX7_sum_148 C hr hk hr12 s0 x4 (0 : Int32) (dt_set T 3 0 ((T 3 0) + (1 : Int32))) h
    · refine dz_iconst (pc := 143) (v := (1 : Int32)) C dX7_sum_143 (by decide) ?_
      refine dz_goto (pc := 144) (t := 148) C dX7_sum_144 (by decide) ?_
      refine dz_sub [1, 0, 2] rfl ?_
      exact tX7_sum_148 C hr hk hr12 s0 x4 (1 : Int32) (dt_set T 3 0 ((T 3 0) + (1 : Int32))) h
  · refine dz_iload_n (pc := 123) C dX7_sum_123 rfl 0 rfl ?_
    cases dt_some h
    exact dz_iret (pc := 124) C hr dX7_sum_124
def fX7_sum_47 (r12 : Int32 → Int32 → Int32 → Int32 → dt_Ob → Option (Int32 × dt_Ob)) (x1 : Int32) (x2 : Int32) (x3 : Int32) (x4 : Int32) (x5 : Int32) (s0 : Int32) (T : dt_Ob) : Option (Int32 × dt_Ob) := (if x5 = (10042 : Int32) then ((fX7_unit (dt_set T 3 0 ((T 3 0) + (1 : Int32)))).bind fun q4 => (fX7_sum_154 r12 x1 x2 (x3 * q4.1) x4 q4.2)) else (if x5 = (10047 : Int32) then ((fX7_partOf x3 (dt_set T 3 0 ((T 3 0) + (1 : Int32)))).bind fun q3 => (fX7_sum_154 r12 x1 x2 q3.1 x4 q3.2)) else (if x2 = 0 then (fX7_sum_117 r12 x4 x5 s0 (x1 + x3) T) else (fX7_sum_117 r12 x4 x5 s0 (x1 - x3) T))))
set_option maxRecDepth 10000 in
set_option maxHeartbeats 4000000 in
theorem tX7_sum_47 {nb : Nat} {G : dt_G} {A : Nat → Prop} {p : Program} {l : Launch} {e : Env} {s : State} {m : MethodId} {args : Array Value} {below : List Frame} {meth : Method} {c : Code} (C : dt_Cx nb G A p s m args meth c cX7_sum 7 RX7) (hr : meth.sig.returnType = (some .int)) {k : Nat} (hk : k < 18 + nb ∧ dt_c k = 7) {M : dt_M} {res : Int32 × dt_Ob} {r12 : Int32 → Int32 → Int32 → Int32 → dt_Ob → Option (Int32 × dt_Ob)} (hr12 : ∀ (x1 : Int32) (x2 : Int32) (x3 : Int32) (x4 : Int32) (T : dt_Ob), r12 x1 x2 x3 x4 T = some res → dt_At G A p l e (dt_rm 3) s m args below meth c 7 (MQ below (dt_Post G A (some (.int res.1)) (dt_put M k res.2)) args s 0 0 A) 12 [(0, .ref (G.1 k 0)), (1, .int x1), (2, .int x2), (3, .int x3), (4, .int x4)] [] (dt_put M k T)) : ∀ (x1 : Int32) (x2 : Int32) (x3 : Int32) (x4 : Int32) (x5 : Int32) (s0 : Int32) (T : dt_Ob), fX7_sum_47 r12 x1 x2 x3 x4 x5 s0 T = some res → dt_At G A p l e (dt_rm 3) s m args below meth c 7 (MQ below (dt_Post G A (some (.int res.1)) (dt_put M k res.2)) args s 0 0 A) 47 [(0, .ref (G.1 k 0)), (1, .int x1), (2, .int x2), (3, .int x3), (4, .int x4), (5, .int x5)] [.int s0] (dt_put M k T) := by
  intro x1 x2 x3 x4 x5 s0 T h
  unfold fX7_sum_47 at h
  refine dz_istore (pc := 47) C dX7_sum_47 (by decide) rfl ?_
  refine dz_iload (pc := 49) C dX7_sum_49 6 rfl ?_
  refine dz_sipush (pc := 51) (v := (10042 : Int32)) C dX7_sum_51 (by decide) ?_
  refine dz_icmp_ne (pc := 54) (t := 77) C dX7_sum_54 (by decide) h (fun h => ?_) (fun h => ?_)
  · refine dz_iload (pc := 77) C dX7_sum_77 6 rfl ?_
    refine dz_sipush (pc := 79) (v := (10047 : Int32)) C dX7_sum_79 (by decide) ?_
    refine dz_icmp_ne (pc := 82) (t := 104) C dX7_sum_82 (by decide) h (fun h => ?_) (fun h => ?_)
    · refine dz_iload_n (pc := 104) C dX7_sum_104 rfl 3 rfl ?_
      refine dz_if_eq (pc := 105) (t := 114) C dX7_sum_105 (by decide) h (fun h => ?_) (fun h => ?_)
      · refine dz_iload_n (pc := 114) C dX7_sum_114 rfl 2 rfl ?_
        refine dz_iload_n (pc := 115) C dX7_sum_115 rfl 4 rfl ?_
        refine dz_iadd (pc := 116) C dX7_sum_116 ?_
        refine dz_sub [1, 5, 6, 0] rfl ?_
        exact tX7_sum_117 C hr hk hr12 x4 x5 s0 (x1 + x3) T h
      · refine dz_iload_n (pc := 108) C dX7_sum_108 rfl 2 rfl ?_
        refine dz_iload_n (pc := 109) C dX7_sum_109 rfl 4 rfl ?_
        refine dz_isub (pc := 110) C dX7_sum_110 ?_
        refine dz_goto (pc := 111) (t := 117) C dX7_sum_111 (by decide) ?_
        refine dz_sub [1, 5, 6, 0] rfl ?_
        exact tX7_sum_117 C hr hk hr12 x4 x5 s0 (x1 - x3) T h
    · refine dz_aload_n (pc := 85) C dX7_sum_85 rfl 1 rfl ?_
      refine dz_dup (pc := 86) C dX7_sum_86 rfl ?_
      refine dz_getI (pc := 87) (k := k) (j := 3) (v := (T 3 0)) C Fc_X7 hk (by decide) rfl rfl fl_X7_22 (dt_rA _ _ _ _ _) dX7_sum_87 ?_
      refine dz_iconst (pc := 90) (v := (1 : Int32)) C dX7_sum_90 (by decide) ?_
      refine dz_iadd (pc := 91) C dX7_sum_91 ?_
      refine dz_putI (pc := 92) (k := k) (j := 3) (M' := (dt_put M k (dt_set T 3 0 ((T 3 0) + (1 : Int32))))) C Fc_X7 hk (by decide) rfl rfl rfl rfl fl_X7_22 (dt_wA _ _ _ _ _ _) dX7_sum_92 ?_
      refine dz_aload_n (pc := 95) C dX7_sum_95 rfl 1 rfl ?_
      refine dz_iload_n (pc := 96) C dX7_sum_96 rfl 4 rfl ?_
      obtain ⟨q3, eq3, h⟩ := dt_bind h
      refine dz_callVi (pc := 97) (st := []) (k := k) (As := [.int x3]) (M' := (dt_put M k q3.2)) C Fc_X7 hk mf_X7_partOf rfl ml_X7_115 (m_X7_partOf l hk _ _ _ eq3) rfl rfl (by omega) (by decide) (Nat.le_of_ble_eq_true rfl) dX7_sum_97 ?_
      refine dz_istore_n (pc := 100) C dX7_sum_100 rfl (by decide) rfl ?_
      refine dz_goto (pc := 101) (t := 154) C dX7_sum_101 (by decide) ?_
      refine dz_sub [2, 3, 4, 0, 5] rfl ?_
      exact tX7_sum_154 C hr hk hr12 x1 x2 q3.1 x4 q3.2 h
  · refine dz_aload_n (pc := 57) C dX7_sum_57 rfl 1 rfl ?_
    refine dz_dup (pc := 58) C dX7_sum_58 rfl ?_
    refine dz_getI (pc := 59) (k := k) (j := 3) (v := (T 3 0)) C Fc_X7 hk (by decide) rfl rfl fl_X7_22 (dt_rA _ _ _ _ _) dX7_sum_59 ?_
    refine dz_iconst (pc := 62) (v := (1 : Int32)) C dX7_sum_62 (by decide) ?_
    refine dz_iadd (pc := 63) C dX7_sum_63 ?_
    refine dz_putI (pc := 64) (k := k) (j := 3) (M' := (dt_put M k (dt_set T 3 0 ((T 3 0) + (1 : Int32))))) C Fc_X7 hk (by decide) rfl rfl rfl rfl fl_X7_22 (dt_wA _ _ _ _ _ _) dX7_sum_64 ?_
    refine dz_iload_n (pc := 67) C dX7_sum_67 rfl 4 rfl ?_
    refine dz_aload_n (pc := 68) C dX7_sum_68 rfl 1 rfl ?_
    obtain ⟨q4, eq4, h⟩ := dt_bind h
    refine dz_callVi (pc := 69) (st := [.int x3]) (k := k) (As := []) (M' := (dt_put M k q4.2)) C Fc_X7 hk mf_X7_unit rfl ml_X7_112 (m_X7_unit l hk _ _ eq4) rfl rfl (by omega) (by decide) (Nat.le_of_ble_eq_true rfl) dX7_sum_69 ?_
    refine dz_imul (pc := 72) C dX7_sum_72 ?_
    refine dz_istore_n (pc := 73) C dX7_sum_73 rfl (by decide) rfl ?_
    refine dz_goto (pc := 74) (t := 154) C dX7_sum_74 (by decide) ?_
    refine dz_sub [2, 3, 4, 0, 5] rfl ?_
    exact tX7_sum_154 C hr hk hr12 x1 x2 (x3 * q4.1) x4 q4.2 h
def fX7_sum_42 (r12 : Int32 → Int32 → Int32 → Int32 → dt_Ob → Option (Int32 × dt_Ob)) (x1 : Int32) (x2 : Int32) (x3 : Int32) (x4 : Int32) (x5 : Int32) (T : dt_Ob) : Option (Int32 × dt_Ob) := (fX7_sum_47 r12 x1 x2 x3 x4 x5 (1 : Int32) T)
set_option maxRecDepth 10000 in
set_option maxHeartbeats 4000000 in
theorem tX7_sum_42 {nb : Nat} {G : dt_G} {A : Nat → Prop} {p : Program} {l : Launch} {e : Env} {s : State} {m : MethodId} {args : Array Value} {below : List Frame} {meth : Method} {c : Code} (C : dt_Cx nb G A p s m args meth c cX7_sum 7 RX7) (hr : meth.sig.returnType = (some .int)) {k : Nat} (hk : k < 18 + nb ∧ dt_c k = 7) {M : dt_M} {res : Int32 × dt_Ob} {r12 : Int32 → Int32 → Int32 → Int32 → dt_Ob → Option (Int32 × dt_Ob)} (hr12 : ∀ (x1 : Int32) (x2 : Int32) (x3 : Int32) (x4 : Int32) (T : dt_Ob), r12 x1 x2 x3 x4 T = some res → dt_At G A p l e (dt_rm 3) s m args below meth c 7 (MQ below (dt_Post G A (some (.int res.1)) (dt_put M k res.2)) args s 0 0 A) 12 [(0, .ref (G.1 k 0)), (1, .int x1), (2, .int x2), (3, .int x3), (4, .int x4)] [] (dt_put M k T)) : ∀ (x1 : Int32) (x2 : Int32) (x3 : Int32) (x4 : Int32) (x5 : Int32) (T : dt_Ob), fX7_sum_42 r12 x1 x2 x3 x4 x5 T = some res → dt_At G A p l e (dt_rm 3) s m args below meth c 7 (MQ below (dt_Post G A (some (.int res.1)) (dt_put M k res.2)) args s 0 0 A) 42 [(0, .ref (G.1 k 0)), (1, .int x1), (2, .int x2), (3, .int x3), (4, .int x4), (5, .int x5)] [] (dt_put M k T) := by
  intro x1 x2 x3 x4 x5 T h
  unfold fX7_sum_42 at h
  refine dz_iconst (pc := 42) (v := (1 : Int32)) C dX7_sum_42 (by decide) ?_
  refine dz_goto (pc := 43) (t := 47) C dX7_sum_43 (by decide) ?_
  exact tX7_sum_47 C hr hk hr12 x1 x2 x3 x4 x5 (1 : Int32) T h
def fX7_sum_12  : Nat → Int32 → Int32 → Int32 → Int32 → dt_Ob → Option (Int32 × dt_Ob)
  | 0, _, _, _, _, _ => none
  | n + 1, x1, x2, x3, x4, T => (if (400 : Int32) < x4 then (some (x1, T)) else ((fX7_peek T).bind fun q2 => (if q2 = (10043 : Int32) then (fX7_sum_42 (fX7_sum_12 n) x1 x2 x3 x4 q2 T) else (if q2 = (10045 : Int32) then (fX7_sum_42 (fX7_sum_12 n) x1 x2 x3 x4 q2 T) else (fX7_sum_47 (fX7_sum_12 n) x1 x2 x3 x4 q2 (0 : Int32) T)))))
set_option maxRecDepth 10000 in
set_option maxHeartbeats 4000000 in
theorem tX7_sum_12 {nb : Nat} {G : dt_G} {A : Nat → Prop} {p : Program} {l : Launch} {e : Env} {s : State} {m : MethodId} {args : Array Value} {below : List Frame} {meth : Method} {c : Code} (C : dt_Cx nb G A p s m args meth c cX7_sum 7 RX7) (hr : meth.sig.returnType = (some .int)) {k : Nat} (hk : k < 18 + nb ∧ dt_c k = 7) {M : dt_M} {res : Int32 × dt_Ob}  : ∀ (n : Nat) (x1 : Int32) (x2 : Int32) (x3 : Int32) (x4 : Int32) (T : dt_Ob), fX7_sum_12 n x1 x2 x3 x4 T = some res → dt_At G A p l e (dt_rm 3) s m args below meth c 7 (MQ below (dt_Post G A (some (.int res.1)) (dt_put M k res.2)) args s 0 0 A) 12 [(0, .ref (G.1 k 0)), (1, .int x1), (2, .int x2), (3, .int x3), (4, .int x4)] [] (dt_put M k T) := by
  intro n
  induction n with
  | zero =>
    intro x1 x2 x3 x4 T h
    unfold fX7_sum_12 at h
    cases h
  | succ n ih =>
    intro x1 x2 x3 x4 T h
    unfold fX7_sum_12 at h
    refine dz_iload (pc := 12) C dX7_sum_12 4 rfl ?_
    refine dz_sipush (pc := 14) (v := (400 : Int32)) C dX7_sum_14 (by decide) ?_
    refine dz_icmp_gt (pc := 17) (t := 160) C dX7_sum_17 (by decide) h (fun h => ?_) (fun h => ?_)
    · refine dz_iload_n (pc := 160) C dX7_sum_160 rfl 1 rfl ?_
      cases dt_some h
      exact dz_iret (pc := 161) C hr dX7_sum_161
    · refine dz_aload_n (pc := 20) C dX7_sum_20 rfl 0 rfl ?_
      obtain ⟨q2, eq2, h⟩ := dt_bind h
      refine dz_callVi (pc := 21) (st := []) (k := k) (As := []) (M' := (dt_put M k T)) C Fc_X7 hk mf_X7_peek rfl ml_X7_50 (m_X7_peek l hk _ _ eq2) rfl rfl (by omega) (by decide) (Nat.le_of_ble_eq_true rfl) dX7_sum_21 ?_
      refine dz_istore (pc := 24) C dX7_sum_24 (by decide) rfl ?_
      refine dz_iload (pc := 26) C dX7_sum_26 0 rfl ?_
      refine dz_sipush (pc := 28) (v := (10043 : Int32)) C dX7_sum_28 (by decide) ?_
      refine dz_icmp_eq (pc := 31) (t := 42) C dX7_sum_31 (by decide) h (fun h => ?_) (fun h => ?_)
      · refine dz_sub [1, 2, 3, 4, 5, 0] rfl ?_
        exact tX7_sum_42 C hr hk ih x1 x2 x3 x4 q2 T h
      · refine dz_iload (pc := 34) C dX7_sum_34 0 rfl ?_
        refine dz_sipush (pc := 36) (v := (10045 : Int32)) C dX7_sum_36 (by decide) ?_
        refine dz_icmp_ne (pc := 39) (t := 46) C dX7_sum_39 (by decide) h (fun h => ?_) (fun h => ?_)
        · refine dz_iconst (pc := 46) (v := (0 : Int32)) C dX7_sum_46 (by decide) ?_
          refine dz_sub [1, 2, 3, 4, 5, 0] rfl ?_
          exact tX7_sum_47 C hr hk ih x1 x2 x3 x4 q2 (0 : Int32) T h
        · refine dz_sub [1, 2, 3, 4, 5, 0] rfl ?_
          exact tX7_sum_42 C hr hk ih x1 x2 x3 x4 q2 T h
def fX7_sum  (T : dt_Ob) : Option (Int32 × dt_Ob) := ((fX7_unit T).bind fun q1 => (fX7_sum_12 dt_F (0 : Int32) (0 : Int32) q1.1 (0 : Int32) q1.2))
set_option maxRecDepth 10000 in
set_option maxHeartbeats 4000000 in
theorem m_X7_sum {nb : Nat} (l : Launch) {k : Nat} (hk : k < 18 + nb ∧ dt_c k = 7)  (M : dt_M) (T : dt_Ob)   {res : Int32 × dt_Ob} (h : fX7_sum T = some res) : dt_Met nb l yX7_sum cX7_sum 7 (some .int) 3 (fun G => [.ref (G.1 k 0)]) (dt_put M k T) (some (.int res.1)) (dt_put M k res.2) := by
  refine dz_enter (lv := fun G => [(0, .ref (G.1 k 0))]) (by decide) (fun _ => rfl) (fun _ => Nat.le_of_ble_eq_true rfl) (fun G A p e s m args below meth c C hr => ?_)
  unfold fX7_sum at h
  refine dz_iconst (pc := 0) (v := (0 : Int32)) C dX7_sum_0 (by decide) ?_
  refine dz_istore_n (pc := 1) C dX7_sum_1 rfl (by decide) rfl ?_
  refine dz_iconst (pc := 2) (v := (0 : Int32)) C dX7_sum_2 (by decide) ?_
  refine dz_istore_n (pc := 3) C dX7_sum_3 rfl (by decide) rfl ?_
  refine dz_aload_n (pc := 4) C dX7_sum_4 rfl 2 rfl ?_
  obtain ⟨q1, eq1, h⟩ := dt_bind h
  refine dz_callVi (pc := 5) (st := []) (k := k) (As := []) (M' := (dt_put M k q1.2)) C Fc_X7 hk mf_X7_unit rfl ml_X7_112 (m_X7_unit l hk _ _ eq1) rfl rfl (by omega) (by decide) (Nat.le_of_ble_eq_true rfl) dX7_sum_5 ?_
  refine dz_istore_n (pc := 8) C dX7_sum_8 rfl (by decide) rfl ?_
  refine dz_iconst (pc := 9) (v := (0 : Int32)) C dX7_sum_9 (by decide) ?_
  refine dz_istore (pc := 10) C dX7_sum_10 (by decide) rfl ?_
  refine dz_sub [4, 3, 2, 1, 0] rfl ?_
  exact tX7_sum_12 C hr hk dt_F (0 : Int32) (0 : Int32) q1.1 (0 : Int32) q1.2 h

def fX7_either_85 (rc : Int32 → dt_Ob → Option (Int32 × dt_Ob)) (r7 : Int32 → Int32 → Int32 → Int32 → dt_Ob → Option (Int32 × dt_Ob)) (x1 : Int32) (x2 : Int32) (x3 : Int32) (x4 : Int32) (T : dt_Ob) : Option (Int32 × dt_Ob) := (r7 x1 x2 x3 (x4 + (1 : Int32)) (dt_set T 3 0 ((T 3 0) + (1 : Int32))))
set_option maxRecDepth 10000 in
set_option maxHeartbeats 4000000 in
theorem tX7_either_85 {nb : Nat} {G : dt_G} {A : Nat → Prop} {p : Program} {l : Launch} {e : Env} {s : State} {m : MethodId} {args : Array Value} {below : List Frame} {meth : Method} {c : Code} (C : dt_Cx nb G A p s m args meth c cX7_either 7 RX7) (hr : meth.sig.returnType = (some .boolean)) {k : Nat} (hk : k < 18 + nb ∧ dt_c k = 7) {M : dt_M} {hN : Nat} (hGB : 3 ≤ hN) {rc : Int32 → dt_Ob → Option (Int32 × dt_Ob)} (hrc : ∀ (M : dt_M) (T : dt_Ob) (x1 : Int32) {res : Int32 × dt_Ob}, rc x1 T = some res → dt_Met nb l yX7_claim cX7_claim 5 (some .boolean) hN (fun G => [.ref (G.1 k 0), .int x1]) (dt_put M k T) (some (.int res.1)) (dt_put M k res.2)) {res : Int32 × dt_Ob} {r7 : Int32 → Int32 → Int32 → Int32 → dt_Ob → Option (Int32 × dt_Ob)} (hr7 : ∀ (x1 : Int32) (x2 : Int32) (x3 : Int32) (x4 : Int32) (T : dt_Ob), r7 x1 x2 x3 x4 T = some res → dt_At G A p l e (dt_rm (hN + 1)) s m args below meth c 7 (MQ below (dt_Post G A (some (.int res.1)) (dt_put M k res.2)) args s 0 0 A) 7 [(0, .ref (G.1 k 0)), (1, .int x1), (2, .int x2), (3, .int x3), (4, .int x4)] [] (dt_put M k T)) : ∀ (x1 : Int32) (x2 : Int32) (x3 : Int32) (x4 : Int32) (T : dt_Ob), fX7_either_85 rc r7 x1 x2 x3 x4 T = some res → dt_At G A p l e (dt_rm (hN + 1)) s m args below meth c 7 (MQ below (dt_Post G A (some (.int res.1)) (dt_put M k res.2)) args s 0 0 A) 85 [(0, .ref (G.1 k 0)), (1, .int x1), (2, .int x2), (3, .int x3), (4, .int x4)] [] (dt_put M k T) := by
  intro x1 x2 x3 x4 T h
  unfold fX7_either_85 at h
  refine dz_aload_n (pc := 85) C dX7_either_85 rfl 0 rfl ?_
  refine dz_dup (pc := 86) C dX7_either_86 rfl ?_
  refine dz_getI (pc := 87) (k := k) (j := 3) (v := (T 3 0)) C Fc_X7 hk (by decide) rfl rfl fl_X7_22 (dt_rA _ _ _ _ _) dX7_either_87 ?_
  refine dz_iconst (pc := 90) (v := (1 : Int32)) C dX7_either_90 (by decide) ?_
  refine dz_iadd (pc := 91) C dX7_either_91 ?_
  refine dz_putI (pc := 92) (k := k) (j := 3) (M' := (dt_put M k (dt_set T 3 0 ((T 3 0) + (1 : Int32))))) C Fc_X7 hk (by decide) rfl rfl rfl rfl fl_X7_22 (dt_wA _ _ _ _ _ _) dX7_either_92 ?_
  refine dz_iinc (pc := 95) (v := (x4 + (1 : Int32))) C dX7_either_95 4 rfl rfl (by decide) rfl ?_
  refine dz_goto (pc := 98) (t := 7) C dX7_either_98 (by decide) ?_
  refine dz_sub [1, 2, 3, 4, 0] rfl ?_
  exact hr7 x1 x2 x3 (x4 + (1 : Int32)) (dt_set T 3 0 ((T 3 0) + (1 : Int32))) h
def fX7_either_67 (rc : Int32 → dt_Ob → Option (Int32 × dt_Ob)) (r7 : Int32 → Int32 → Int32 → Int32 → dt_Ob → Option (Int32 × dt_Ob)) (x1 : Int32) (x2 : Int32) (x3 : Int32) (x4 : Int32) (x6 : Int32) (T : dt_Ob) : Option (Int32 × dt_Ob) := (if x6 = (20003 : Int32) then (fX7_either_85 rc r7 x1 x2 x3 x4 T) else (if x6 = (20002 : Int32) then (fX7_either_85 rc r7 x1 x2 x3 x4 T) else (if x2 = 0 ∨ x2 = 1 then (some (x2, T)) else none)))
set_option maxRecDepth 10000 in
set_option maxHeartbeats 4000000 in
theorem tX7_either_67 {nb : Nat} {G : dt_G} {A : Nat → Prop} {p : Program} {l : Launch} {e : Env} {s : State} {m : MethodId} {args : Array Value} {below : List Frame} {meth : Method} {c : Code} (C : dt_Cx nb G A p s m args meth c cX7_either 7 RX7) (hr : meth.sig.returnType = (some .boolean)) {k : Nat} (hk : k < 18 + nb ∧ dt_c k = 7) {M : dt_M} {hN : Nat} (hGB : 3 ≤ hN) {rc : Int32 → dt_Ob → Option (Int32 × dt_Ob)} (hrc : ∀ (M : dt_M) (T : dt_Ob) (x1 : Int32) {res : Int32 × dt_Ob}, rc x1 T = some res → dt_Met nb l yX7_claim cX7_claim 5 (some .boolean) hN (fun G => [.ref (G.1 k 0), .int x1]) (dt_put M k T) (some (.int res.1)) (dt_put M k res.2)) {res : Int32 × dt_Ob} {r7 : Int32 → Int32 → Int32 → Int32 → dt_Ob → Option (Int32 × dt_Ob)} (hr7 : ∀ (x1 : Int32) (x2 : Int32) (x3 : Int32) (x4 : Int32) (T : dt_Ob), r7 x1 x2 x3 x4 T = some res → dt_At G A p l e (dt_rm (hN + 1)) s m args below meth c 7 (MQ below (dt_Post G A (some (.int res.1)) (dt_put M k res.2)) args s 0 0 A) 7 [(0, .ref (G.1 k 0)), (1, .int x1), (2, .int x2), (3, .int x3), (4, .int x4)] [] (dt_put M k T)) : ∀ (x1 : Int32) (x2 : Int32) (x3 : Int32) (x4 : Int32) (x6 : Int32) (T : dt_Ob), fX7_either_67 rc r7 x1 x2 x3 x4 x6 T = some res → dt_At G A p l e (dt_rm (hN + 1)) s m args below meth c 7 (MQ below (dt_Post G A (some (.int res.1)) (dt_put M k res.2)) args s 0 0 A) 67 [(0, .ref (G.1 k 0)), (1, .int x1), (2, .int x2), (3, .int x3), (4, .int x4), (6, .int x6)] [] (dt_put M k T) := by
  intro x1 x2 x3 x4 x6 T h
  unfold fX7_either_67 at h
  refine dz_iload (pc := 67) C dX7_either_67 5 rfl ?_
  refine dz_sipush (pc := 69) (v := (20003 : Int32)) C dX7_either_69 (by decide) ?_
  refine dz_icmp_eq (pc := 72) (t := 85) C dX7_either_72 (by decide) h (fun h => ?_) (fun h => ?_)
  · refine dz_sub [0, 1, 2, 3, 4] rfl ?_
    exact tX7_either_85 C hr hk hGB hrc hr7 x1 x2 x3 x4 T h
  · refine dz_iload (pc := 75) C dX7_either_75 5 rfl ?_
    refine dz_sipush (pc := 77) (v := (20002 : Int32)) C dX7_either_77 (by decide) ?_
    refine dz_icmp_eq (pc := 80) (t := 85) C dX7_either_80 (by decide) h (fun h => ?_) (fun h => ?_)
    · refine dz_sub [0, 1, 2, 3, 4] rfl ?_
      exact tX7_either_85 C hr hk hGB hrc hr7 x1 x2 x3 x4 T h
    · refine dz_iload_n (pc := 83) C dX7_either_83 rfl 2 rfl ?_
      obtain ⟨hz4, h⟩ := dt_ifn h
      cases dt_some h
      exact dz_zret (pc := 84) C hr hz4 dX7_either_84
def fX7_either_64 (rc : Int32 → dt_Ob → Option (Int32 × dt_Ob)) (r7 : Int32 → Int32 → Int32 → Int32 → dt_Ob → Option (Int32 × dt_Ob)) (x1 : Int32) (x4 : Int32) (x6 : Int32) (s0 : Int32) (T : dt_Ob) : Option (Int32 × dt_Ob) := (fX7_either_67 rc r7 x1 s0 (1 : Int32) x4 x6 T)
set_option maxRecDepth 10000 in
set_option maxHeartbeats 4000000 in
theorem tX7_either_64 {nb : Nat} {G : dt_G} {A : Nat → Prop} {p : Program} {l : Launch} {e : Env} {s : State} {m : MethodId} {args : Array Value} {below : List Frame} {meth : Method} {c : Code} (C : dt_Cx nb G A p s m args meth c cX7_either 7 RX7) (hr : meth.sig.returnType = (some .boolean)) {k : Nat} (hk : k < 18 + nb ∧ dt_c k = 7) {M : dt_M} {hN : Nat} (hGB : 3 ≤ hN) {rc : Int32 → dt_Ob → Option (Int32 × dt_Ob)} (hrc : ∀ (M : dt_M) (T : dt_Ob) (x1 : Int32) {res : Int32 × dt_Ob}, rc x1 T = some res → dt_Met nb l yX7_claim cX7_claim 5 (some .boolean) hN (fun G => [.ref (G.1 k 0), .int x1]) (dt_put M k T) (some (.int res.1)) (dt_put M k res.2)) {res : Int32 × dt_Ob} {r7 : Int32 → Int32 → Int32 → Int32 → dt_Ob → Option (Int32 × dt_Ob)} (hr7 : ∀ (x1 : Int32) (x2 : Int32) (x3 : Int32) (x4 : Int32) (T : dt_Ob), r7 x1 x2 x3 x4 T = some res → dt_At G A p l e (dt_rm (hN + 1)) s m args below meth c 7 (MQ below (dt_Post G A (some (.int res.1)) (dt_put M k res.2)) args s 0 0 A) 7 [(0, .ref (G.1 k 0)), (1, .int x1), (2, .int x2), (3, .int x3), (4, .int x4)] [] (dt_put M k T)) : ∀ (x1 : Int32) (x4 : Int32) (x6 : Int32) (s0 : Int32) (T : dt_Ob), fX7_either_64 rc r7 x1 x4 x6 s0 T = some res → dt_At G A p l e (dt_rm (hN + 1)) s m args below meth c 7 (MQ below (dt_Post G A (some (.int res.1)) (dt_put M k res.2)) args s 0 0 A) 64 [(0, .ref (G.1 k 0)), (1, .int x1), (4, .int x4), (6, .int x6)] [.int s0] (dt_put M k T) := by
  intro x1 x4 x6 s0 T h
  unfold fX7_either_64 at h
  refine dz_istore_n (pc := 64) C dX7_either_64 rfl (by decide) rfl ?_
  refine dz_iconst (pc := 65) (v := (1 : Int32)) C dX7_either_65 (by decide) ?_
  refine dz_istore_n (pc := 66) C dX7_either_66 rfl (by decide) rfl ?_
  refine dz_sub [2, 3, 1, 0, 4, 5] rfl ?_
  exact tX7_either_67 C hr hk hGB hrc hr7 x1 s0 (1 : Int32) x4 x6 T h
def fX7_either_59 (rc : Int32 → dt_Ob → Option (Int32 × dt_Ob)) (r7 : Int32 → Int32 → Int32 → Int32 → dt_Ob → Option (Int32 × dt_Ob)) (x1 : Int32) (x4 : Int32) (x6 : Int32) (T : dt_Ob) : Option (Int32 × dt_Ob) := (fX7_either_64 rc r7 x1 x4 x6 (1 : Int32) T)
set_option maxRecDepth 10000 in
set_option maxHeartbeats 4000000 in
theorem tX7_either_59 {nb : Nat} {G : dt_G} {A : Nat → Prop} {p : Program} {l : Launch} {e : Env} {s : State} {m : MethodId} {args : Array Value} {below : List Frame} {meth : Method} {c : Code} (C : dt_Cx nb G A p s m args meth c cX7_either 7 RX7) (hr : meth.sig.returnType = (some .boolean)) {k : Nat} (hk : k < 18 + nb ∧ dt_c k = 7) {M : dt_M} {hN : Nat} (hGB : 3 ≤ hN) {rc : Int32 → dt_Ob → Option (Int32 × dt_Ob)} (hrc : ∀ (M : dt_M) (T : dt_Ob) (x1 : Int32) {res : Int32 × dt_Ob}, rc x1 T = some res → dt_Met nb l yX7_claim cX7_claim 5 (some .boolean) hN (fun G => [.ref (G.1 k 0), .int x1]) (dt_put M k T) (some (.int res.1)) (dt_put M k res.2)) {res : Int32 × dt_Ob} {r7 : Int32 → Int32 → Int32 → Int32 → dt_Ob → Option (Int32 × dt_Ob)} (hr7 : ∀ (x1 : Int32) (x2 : Int32) (x3 : Int32) (x4 : Int32) (T : dt_Ob), r7 x1 x2 x3 x4 T = some res → dt_At G A p l e (dt_rm (hN + 1)) s m args below meth c 7 (MQ below (dt_Post G A (some (.int res.1)) (dt_put M k res.2)) args s 0 0 A) 7 [(0, .ref (G.1 k 0)), (1, .int x1), (2, .int x2), (3, .int x3), (4, .int x4)] [] (dt_put M k T)) : ∀ (x1 : Int32) (x4 : Int32) (x6 : Int32) (T : dt_Ob), fX7_either_59 rc r7 x1 x4 x6 T = some res → dt_At G A p l e (dt_rm (hN + 1)) s m args below meth c 7 (MQ below (dt_Post G A (some (.int res.1)) (dt_put M k res.2)) args s 0 0 A) 59 [(0, .ref (G.1 k 0)), (1, .int x1), (4, .int x4), (6, .int x6)] [] (dt_put M k T) := by
  intro x1 x4 x6 T h
  unfold fX7_either_59 at h
  refine dz_iconst (pc := 59) (v := (1 : Int32)) C dX7_either_59 (by decide) ?_
  refine dz_goto (pc := 60) (t := 64) C dX7_either_60 (by decide) ?_
  exact tX7_either_64 C hr hk hGB hrc hr7 x1 x4 x6 (1 : Int32) T h
def fX7_either_36 (rc : Int32 → dt_Ob → Option (Int32 × dt_Ob)) (r7 : Int32 → Int32 → Int32 → Int32 → dt_Ob → Option (Int32 × dt_Ob)) (x1 : Int32) (x2 : Int32) (x4 : Int32) (s0 : Int32) (T : dt_Ob) : Option (Int32 × dt_Ob) := ((fX7_peek T).bind fun q3 => (if q3 = (20003 : Int32) then (fX7_either_67 rc r7 x1 x2 s0 x4 q3 T) else (if x2 = 0 then (if s0 = 0 then (fX7_either_64 rc r7 x1 x4 q3 (0 : Int32) T) else (fX7_either_59 rc r7 x1 x4 q3 T)) else (fX7_either_59 rc r7 x1 x4 q3 T))))
set_option maxRecDepth 10000 in
set_option maxHeartbeats 4000000 in
theorem tX7_either_36 {nb : Nat} {G : dt_G} {A : Nat → Prop} {p : Program} {l : Launch} {e : Env} {s : State} {m : MethodId} {args : Array Value} {below : List Frame} {meth : Method} {c : Code} (C : dt_Cx nb G A p s m args meth c cX7_either 7 RX7) (hr : meth.sig.returnType = (some .boolean)) {k : Nat} (hk : k < 18 + nb ∧ dt_c k = 7) {M : dt_M} {hN : Nat} (hGB : 3 ≤ hN) {rc : Int32 → dt_Ob → Option (Int32 × dt_Ob)} (hrc : ∀ (M : dt_M) (T : dt_Ob) (x1 : Int32) {res : Int32 × dt_Ob}, rc x1 T = some res → dt_Met nb l yX7_claim cX7_claim 5 (some .boolean) hN (fun G => [.ref (G.1 k 0), .int x1]) (dt_put M k T) (some (.int res.1)) (dt_put M k res.2)) {res : Int32 × dt_Ob} {r7 : Int32 → Int32 → Int32 → Int32 → dt_Ob → Option (Int32 × dt_Ob)} (hr7 : ∀ (x1 : Int32) (x2 : Int32) (x3 : Int32) (x4 : Int32) (T : dt_Ob), r7 x1 x2 x3 x4 T = some res → dt_At G A p l e (dt_rm (hN + 1)) s m args below meth c 7 (MQ below (dt_Post G A (some (.int res.1)) (dt_put M k res.2)) args s 0 0 A) 7 [(0, .ref (G.1 k 0)), (1, .int x1), (2, .int x2), (3, .int x3), (4, .int x4)] [] (dt_put M k T)) : ∀ (x1 : Int32) (x2 : Int32) (x4 : Int32) (s0 : Int32) (T : dt_Ob), fX7_either_36 rc r7 x1 x2 x4 s0 T = some res → dt_At G A p l e (dt_rm (hN + 1)) s m args below meth c 7 (MQ below (dt_Post G A (some (.int res.1)) (dt_put M k res.2)) args s 0 0 A) 36 [(0, .ref (G.1 k 0)), (1, .int x1), (2, .int x2), (4, .int x4)] [.int s0] (dt_put M k T) := by
  intro x1 x2 x4 s0 T h
  unfold fX7_either_36 at h
  refine dz_istore_n (pc := 36) C dX7_either_36 rfl (by decide) rfl ?_
  refine dz_aload_n (pc := 37) C dX7_either_37 rfl 1 rfl ?_
  obtain ⟨q3, eq3, h⟩ := dt_bind h
  refine dz_callVi (pc := 38) (st := []) (k := k) (As := []) (M' := (dt_put M k T)) C Fc_X7 hk mf_X7_peek rfl ml_X7_50 (m_X7_peek l hk _ _ eq3) rfl rfl (by omega) (by decide) (Nat.le_of_ble_eq_true rfl) dX7_either_38 ?_
  refine dz_istore (pc := 41) C dX7_either_41 (by decide) rfl ?_
  refine dz_iload (pc := 43) C dX7_either_43 0 rfl ?_
  refine dz_sipush (pc := 45) (v := (20003 : Int32)) C dX7_either_45 (by decide) ?_
  refine dz_icmp_eq (pc := 48) (t := 67) C dX7_either_48 (by decide) h (fun h => ?_) (fun h => ?_)
  · refine dz_sub [2, 3, 4, 1, 5, 0] rfl ?_
    exact tX7_either_67 C hr hk hGB hrc hr7 x1 x2 s0 x4 q3 T h
  · refine dz_iload_n (pc := 51) C dX7_either_51 rfl 4 rfl ?_
    refine dz_if_ne (pc := 52) (t := 59) C dX7_either_52 (by decide) h (fun h => ?_) (fun h => ?_)
    · refine dz_sub [2, 3, 5, 0] rfl ?_
      exact tX7_either_59 C hr hk hGB hrc hr7 x1 x4 q3 T h
    · refine dz_iload_n (pc := 55) C dX7_either_55 rfl 1 rfl ?_
      refine dz_if_eq (pc := 56) (t := 63) C dX7_either_56 (by decide) h (fun h => ?_) (fun h => ?_)
      · refine dz_iconst (pc := 63) (v := (0 : Int32)) C dX7_either_63 (by decide) ?_
        refine dz_sub [2, 3, 5, 0] rfl ?_
        exact tX7_either_64 C hr hk hGB hrc hr7 x1 x4 q3 (0 : Int32) T h
      · refine dz_sub [2, 3, 5, 0] rfl ?_
        exact tX7_either_59 C hr hk hGB hrc hr7 x1 x4 q3 T h
def fX7_either_35 (rc : Int32 → dt_Ob → Option (Int32 × dt_Ob)) (r7 : Int32 → Int32 → Int32 → Int32 → dt_Ob → Option (Int32 × dt_Ob)) (x1 : Int32) (x2 : Int32) (x4 : Int32) (T : dt_Ob) : Option (Int32 × dt_Ob) := (fX7_either_36 rc r7 x1 x2 x4 (0 : Int32) T)
set_option maxRecDepth 10000 in
set_option maxHeartbeats 4000000 in
theorem tX7_either_35 {nb : Nat} {G : dt_G} {A : Nat → Prop} {p : Program} {l : Launch} {e : Env} {s : State} {m : MethodId} {args : Array Value} {below : List Frame} {meth : Method} {c : Code} (C : dt_Cx nb G A p s m args meth c cX7_either 7 RX7) (hr : meth.sig.returnType = (some .boolean)) {k : Nat} (hk : k < 18 + nb ∧ dt_c k = 7) {M : dt_M} {hN : Nat} (hGB : 3 ≤ hN) {rc : Int32 → dt_Ob → Option (Int32 × dt_Ob)} (hrc : ∀ (M : dt_M) (T : dt_Ob) (x1 : Int32) {res : Int32 × dt_Ob}, rc x1 T = some res → dt_Met nb l yX7_claim cX7_claim 5 (some .boolean) hN (fun G => [.ref (G.1 k 0), .int x1]) (dt_put M k T) (some (.int res.1)) (dt_put M k res.2)) {res : Int32 × dt_Ob} {r7 : Int32 → Int32 → Int32 → Int32 → dt_Ob → Option (Int32 × dt_Ob)} (hr7 : ∀ (x1 : Int32) (x2 : Int32) (x3 : Int32) (x4 : Int32) (T : dt_Ob), r7 x1 x2 x3 x4 T = some res → dt_At G A p l e (dt_rm (hN + 1)) s m args below meth c 7 (MQ below (dt_Post G A (some (.int res.1)) (dt_put M k res.2)) args s 0 0 A) 7 [(0, .ref (G.1 k 0)), (1, .int x1), (2, .int x2), (3, .int x3), (4, .int x4)] [] (dt_put M k T)) : ∀ (x1 : Int32) (x2 : Int32) (x4 : Int32) (T : dt_Ob), fX7_either_35 rc r7 x1 x2 x4 T = some res → dt_At G A p l e (dt_rm (hN + 1)) s m args below meth c 7 (MQ below (dt_Post G A (some (.int res.1)) (dt_put M k res.2)) args s 0 0 A) 35 [(0, .ref (G.1 k 0)), (1, .int x1), (2, .int x2), (4, .int x4)] [] (dt_put M k T) := by
  intro x1 x2 x4 T h
  unfold fX7_either_35 at h
  refine dz_iconst (pc := 35) (v := (0 : Int32)) C dX7_either_35 (by decide) ?_
  exact tX7_either_36 C hr hk hGB hrc hr7 x1 x2 x4 (0 : Int32) T h
def fX7_either_7 (rc : Int32 → dt_Ob → Option (Int32 × dt_Ob))  : Nat → Int32 → Int32 → Int32 → Int32 → dt_Ob → Option (Int32 × dt_Ob)
  | 0, _, _, _, _, _ => none
  | n + 1, x1, x2, x3, x4, T => (if (400 : Int32) < x4 then (if x2 = 0 ∨ x2 = 1 then (some (x2, T)) else none) else ((rc x1 T).bind fun q2 => (if x3 = 0 then (fX7_either_35 rc (fX7_either_7 rc n) x1 x2 x4 q2.2) else (if q2.1 = 0 then (fX7_either_35 rc (fX7_either_7 rc n) x1 x2 x4 q2.2) else (fX7_either_36 rc (fX7_either_7 rc n) x1 x2 x4 (1 : Int32) q2.2)))))
set_option maxRecDepth 10000 in
set_option maxHeartbeats 4000000 in
theorem tX7_either_7 {nb : Nat} {G : dt_G} {A : Nat → Prop} {p : Program} {l : Launch} {e : Env} {s : State} {m : MethodId} {args : Array Value} {below : List Frame} {meth : Method} {c : Code} (C : dt_Cx nb G A p s m args meth c cX7_either 7 RX7) (hr : meth.sig.returnType = (some .boolean)) {k : Nat} (hk : k < 18 + nb ∧ dt_c k = 7) {M : dt_M} {hN : Nat} (hGB : 3 ≤ hN) {rc : Int32 → dt_Ob → Option (Int32 × dt_Ob)} (hrc : ∀ (M : dt_M) (T : dt_Ob) (x1 : Int32) {res : Int32 × dt_Ob}, rc x1 T = some res → dt_Met nb l yX7_claim cX7_claim 5 (some .boolean) hN (fun G => [.ref (G.1 k 0), .int x1]) (dt_put M k T) (some (.int res.1)) (dt_put M k res.2)) {res : Int32 × dt_Ob}  : ∀ (n : Nat) (x1 : Int32) (x2 : Int32) (x3 : Int32) (x4 : Int32) (T : dt_Ob), fX7_either_7 rc n x1 x2 x3 x4 T = some res → dt_At G A p l e (dt_rm (hN + 1)) s m args below meth c 7 (MQ below (dt_Post G A (some (.int res.1)) (dt_put M k res.2)) args s 0 0 A) 7 [(0, .ref (G.1 k 0)), (1, .int x1), (2, .int x2), (3, .int x3), (4, .int x4)] [] (dt_put M k T) := by
  intro n
  induction n with
  | zero =>
    intro x1 x2 x3 x4 T h
    unfold fX7_either_7 at h
    cases h
  | succ n ih =>
    intro x1 x2 x3 x4 T h
    unfold fX7_either_7 at h
    refine dz_iload (pc := 7) C dX7_either_7 4 rfl ?_
    refine dz_sipush (pc := 9) (v := (400 : Int32)) C dX7_either_9 (by decide) ?_
    refine dz_icmp_gt (pc := 12) (t := 101) C dX7_either_12 (by decide) h (fun h => ?_) (fun h => ?_)
    · refine dz_iload_n (pc := 101) C dX7_either_101 rfl 2 rfl ?_
      obtain ⟨hz1, h⟩ := dt_ifn h
      cases dt_some h
      exact dz_zret (pc := 102) C hr hz1 dX7_either_102
    · refine dz_aload_n (pc := 15) C dX7_either_15 rfl 0 rfl ?_
      refine dz_iload_n (pc := 16) C dX7_either_16 rfl 1 rfl ?_
      obtain ⟨q2, eq2, h⟩ := dt_bind h
      refine dz_callVi (pc := 17) (st := []) (k := k) (As := [.int x1]) (M' := (dt_put M k q2.2)) C Fc_X7 hk mf_X7_claim rfl ml_X7_99 (hrc _ _ _ eq2) rfl rfl (by omega) (by decide) (Nat.le_of_ble_eq_true rfl) dX7_either_17 ?_
      refine dz_istore (pc := 20) C dX7_either_20 (by decide) rfl ?_
      refine dz_iload_n (pc := 22) C dX7_either_22 rfl 4 rfl ?_
      refine dz_if_eq (pc := 23) (t := 35) C dX7_either_23 (by decide) h (fun h => ?_) (fun h => ?_)
      · refine dz_sub [1, 2, 3, 5] rfl ?_
        exact tX7_either_35 C hr hk hGB hrc ih x1 x2 x4 q2.2 h
      · refine dz_iload (pc := 26) C dX7_either_26 0 rfl ?_
        refine dz_if_eq (pc := 28) (t := 35) C dX7_either_28 (by decide) h (fun h => ?_) (fun h => ?_)
        · refine dz_sub [1, 2, 3, 5] rfl ?_
          exact tX7_either_35 C hr hk hGB hrc ih x1 x2 x4 q2.2 h
        · refine dz_iconst (pc := 31) (v := (1 : Int32)) C dX7_either_31 (by decide) ?_
          refine dz_goto (pc := 32) (t := 36) C dX7_either_32 (by decide) ?_
          refine dz_sub [1, 2, 3, 5] rfl ?_
          exact tX7_either_36 C hr hk hGB hrc ih x1 x2 x4 (1 : Int32) q2.2 h
def fX7_either (rc : Int32 → dt_Ob → Option (Int32 × dt_Ob))  (x1 : Int32) (T : dt_Ob) : Option (Int32 × dt_Ob) := (fX7_either_7 rc dt_F x1 (0 : Int32) (1 : Int32) (0 : Int32) T)
set_option maxRecDepth 10000 in
set_option maxHeartbeats 4000000 in
theorem m_X7_either {nb : Nat} (l : Launch) {k : Nat} (hk : k < 18 + nb ∧ dt_c k = 7) {hN : Nat} (hGB : 3 ≤ hN) {rc : Int32 → dt_Ob → Option (Int32 × dt_Ob)} (hrc : ∀ (M : dt_M) (T : dt_Ob) (x1 : Int32) {res : Int32 × dt_Ob}, rc x1 T = some res → dt_Met nb l yX7_claim cX7_claim 5 (some .boolean) hN (fun G => [.ref (G.1 k 0), .int x1]) (dt_put M k T) (some (.int res.1)) (dt_put M k res.2)) (M : dt_M) (T : dt_Ob)  (x1 : Int32) {res : Int32 × dt_Ob} (h : fX7_either rc x1 T = some res) : dt_Met nb l yX7_either cX7_either 7 (some .boolean) (hN + 1) (fun G => [.ref (G.1 k 0), .int x1]) (dt_put M k T) (some (.int res.1)) (dt_put M k res.2) := by
  refine dz_enter (lv := fun G => [(0, .ref (G.1 k 0)), (1, .int x1)]) (by decide) (fun _ => rfl) (fun _ => Nat.le_of_ble_eq_true rfl) (fun G A p e s m args below meth c C hr => ?_)
  unfold fX7_either at h
  refine dz_iconst (pc := 0) (v := (0 : Int32)) C dX7_either_0 (by decide) ?_
  refine dz_istore_n (pc := 1) C dX7_either_1 rfl (by decide) rfl ?_
  refine dz_iconst (pc := 2) (v := (1 : Int32)) C dX7_either_2 (by decide) ?_
  refine dz_istore_n (pc := 3) C dX7_either_3 rfl (by decide) rfl ?_
  refine dz_iconst (pc := 4) (v := (0 : Int32)) C dX7_either_4 (by decide) ?_
  refine dz_istore (pc := 5) C dX7_either_5 (by decide) rfl ?_
  refine dz_sub [3, 4, 2, 1, 0] rfl ?_
  exact tX7_either_7 C hr hk hGB hrc dt_F x1 (0 : Int32) (1 : Int32) (0 : Int32) T h

def fX7_claim_45 (rc : Int32 → dt_Ob → Option (Int32 × dt_Ob))  (x1 : Int32) (x2 : Int32) (T : dt_Ob) : Option (Int32 × dt_Ob) := (if x1 < (8 : Int32) then (if x2 = (20004 : Int32) then ((rc (x1 + (1 : Int32)) (dt_set T 3 0 ((T 3 0) + (1 : Int32)))).bind fun q11 => (if q11.1 = 0 then (some ((1 : Int32), q11.2)) else (some ((0 : Int32), q11.2)))) else ((fX7_either rc (x1 + (1 : Int32)) (dt_set T 3 0 ((T 3 0) + (1 : Int32)))).bind fun q8 => ((fX7_expect (10041 : Int32) q8.2).bind fun q9 => (if q8.1 = 0 ∨ q8.1 = 1 then (some (q8.1, q9)) else none)))) else ((fX7_fail (3 : Int32) T).bind fun q12 => (some ((0 : Int32), q12))))
set_option maxRecDepth 10000 in
set_option maxHeartbeats 4000000 in
theorem tX7_claim_45 {nb : Nat} {G : dt_G} {A : Nat → Prop} {p : Program} {l : Launch} {e : Env} {s : State} {m : MethodId} {args : Array Value} {below : List Frame} {meth : Method} {c : Code} (C : dt_Cx nb G A p s m args meth c cX7_claim 5 RX7) (hr : meth.sig.returnType = (some .boolean)) {k : Nat} (hk : k < 18 + nb ∧ dt_c k = 7) {M : dt_M} {hN : Nat} (hGB : 3 ≤ hN) {rc : Int32 → dt_Ob → Option (Int32 × dt_Ob)} (hrc : ∀ (M : dt_M) (T : dt_Ob) (x1 : Int32) {res : Int32 × dt_Ob}, rc x1 T = some res → dt_Met nb l yX7_claim cX7_claim 5 (some .boolean) hN (fun G => [.ref (G.1 k 0), .int x1]) (dt_put M k T) (some (.int res.1)) (dt_put M k res.2)) {res : Int32 × dt_Ob}  : ∀ (x1 : Int32) (x2 : Int32) (T : dt_Ob), fX7_claim_45 rc x1 x2 T = some res → dt_At G A p l e (dt_rm (hN + 2)) s m args below meth c 5 (MQ below (dt_Post G A (some (.int res.1)) (dt_put M k res.2)) args s 0 0 A) 45 [(0, .ref (G.1 k 0)), (1, .int x1), (2, .int x2)] [] (dt_put M k T) := by
  intro x1 x2 T h
  unfold fX7_claim_45 at h
  refine dz_iload_n (pc := 45) C dX7_claim_45 rfl 1 rfl ?_
  refine dz_bipush (pc := 46) (v := (8 : Int32)) C dX7_claim_46 (by decide) ?_
  refine dz_icmp_lt (pc := 48) (t := 58) C dX7_claim_48 (by decide) h (fun h => ?_) (fun h => ?_)
  · refine dz_aload_n (pc := 58) C dX7_claim_58 rfl 0 rfl ?_
    refine dz_dup (pc := 59) C dX7_claim_59 rfl ?_
    refine dz_getI (pc := 60) (k := k) (j := 3) (v := (T 3 0)) C Fc_X7 hk (by decide) rfl rfl fl_X7_22 (dt_rA _ _ _ _ _) dX7_claim_60 ?_
    refine dz_iconst (pc := 63) (v := (1 : Int32)) C dX7_claim_63 (by decide) ?_
    refine dz_iadd (pc := 64) C dX7_claim_64 ?_
    refine dz_putI (pc := 65) (k := k) (j := 3) (M' := (dt_put M k (dt_set T 3 0 ((T 3 0) + (1 : Int32))))) C Fc_X7 hk (by decide) rfl rfl rfl rfl fl_X7_22 (dt_wA _ _ _ _ _ _) dX7_claim_65 ?_
    refine dz_iload_n (pc := 68) C dX7_claim_68 rfl 2 rfl ?_
    refine dz_sipush (pc := 69) (v := (20004 : Int32)) C dX7_claim_69 (by decide) ?_
    refine dz_icmp_ne (pc := 72) (t := 91) C dX7_claim_72 (by decide) h (fun h => ?_) (fun h => ?_)
    · refine dz_aload_n (pc := 91) C dX7_claim_91 rfl 0 rfl ?_
      refine dz_iload_n (pc := 92) C dX7_claim_92 rfl 1 rfl ?_
      refine dz_iconst (pc := 93) (v := (1 : Int32)) C dX7_claim_93 (by decide) ?_
      refine dz_iadd (pc := 94) C dX7_claim_94 ?_
      obtain ⟨q8, eq8, h⟩ := dt_bind h
      refine dz_callVi (pc := 95) (st := []) (k := k) (As := [.int (x1 + (1 : Int32))]) (M' := (dt_put M k q8.2)) C Fc_X7 hk mf_X7_either rfl ml_X7_58 (m_X7_either l hk hGB hrc _ _ _ eq8) rfl rfl (by omega) (by decide) (Nat.le_of_ble_eq_true rfl) dX7_claim_95 ?_
      refine dz_istore_n (pc := 98) C dX7_claim_98 rfl (by decide) rfl ?_
      refine dz_aload_n (pc := 99) C dX7_claim_99 rfl 1 rfl ?_
      refine dz_sipush (pc := 100) (v := (10041 : Int32)) C dX7_claim_100 (by decide) ?_
      obtain ⟨q9, eq9, h⟩ := dt_bind h
      refine dz_callVv (pc := 103) (st := []) (k := k) (As := [.int (10041 : Int32)]) (M' := (dt_put M k q9)) C Fc_X7 hk mf_X7_expect rfl ml_X7_62 (m_X7_expect l hk _ _ _ eq9) rfl rfl (by omega) (by decide) (Nat.le_of_ble_eq_true rfl) dX7_claim_103 ?_
      refine dz_iload_n (pc := 106) C dX7_claim_106 rfl 0 rfl ?_
      obtain ⟨hz10, h⟩ := dt_ifn h
      cases dt_some h
      exact dz_zret (pc := 107) C hr hz10 dX7_claim_107
    · refine dz_aload_n (pc := 75) C dX7_claim_75 rfl 0 rfl ?_
      refine dz_iload_n (pc := 76) C dX7_claim_76 rfl 1 rfl ?_
      refine dz_iconst (pc := 77) (v := (1 : Int32)) C dX7_claim_77 (by decide) ?_
      refine dz_iadd (pc := 78) C dX7_claim_78 ?_
      obtain ⟨q11, eq11, h⟩ := dt_bind h
      refine dz_callVi (pc := 79) (st := []) (k := k) (As := [.int (x1 + (1 : Int32))]) (M' := (dt_put M k q11.2)) C Fc_X7 hk mf_X7_claim rfl ml_X7_99 (hrc _ _ _ eq11) rfl rfl (by omega) (by decide) (Nat.le_of_ble_eq_true rfl) dX7_claim_79 ?_
      refine dz_if_ne (pc := 82) (t := 89) C dX7_claim_82 (by decide) h (fun h => ?_) (fun h => ?_)
      · refine dz_iconst (pc := 89) (v := (0 : Int32)) C dX7_claim_89 (by decide) ?_
        cases dt_some h
        exact dz_zret (pc := 90) C hr (Or.inl rfl) dX7_claim_90
      · refine dz_iconst (pc := 85) (v := (1 : Int32)) C dX7_claim_85 (by decide) ?_
        refine dz_goto (pc := 86) (t := 90) C dX7_claim_86 (by decide) ?_
        cases dt_some h
        exact dz_zret (pc := 90) C hr (Or.inr rfl) dX7_claim_90
  · refine dz_aload_n (pc := 51) C dX7_claim_51 rfl 0 rfl ?_
    refine dz_iconst (pc := 52) (v := (3 : Int32)) C dX7_claim_52 (by decide) ?_
    obtain ⟨q12, eq12, h⟩ := dt_bind h
    refine dz_callVv (pc := 53) (st := []) (k := k) (As := [.int (3 : Int32)]) (M' := (dt_put M k q12)) C Fc_X7 hk mf_X7_fail rfl ml_X7_54 (m_X7_fail l hk _ _ _ eq12) rfl rfl (by omega) (by decide) (Nat.le_of_ble_eq_true rfl) dX7_claim_53 ?_
    refine dz_iconst (pc := 56) (v := (0 : Int32)) C dX7_claim_56 (by decide) ?_
    cases dt_some h
    exact dz_zret (pc := 57) C hr (Or.inl rfl) dX7_claim_57
def fX7_claim_b (rc : Int32 → dt_Ob → Option (Int32 × dt_Ob))  (x1 : Int32) (T : dt_Ob) : Option (Int32 × dt_Ob) := ((fX7_peek T).bind fun q1 => (if q1 = (20004 : Int32) then (fX7_claim_45 rc x1 q1 T) else (if q1 = (10040 : Int32) then (fX7_claim_45 rc x1 q1 T) else ((fX7_sum T).bind fun q2 => ((fX7_peek q2.2).bind fun q3 => ((fX7_expectOrder q2.2).bind fun q4 => ((fX7_sum q4).bind fun q5 => ((fX7_isSo q2.1 q3 q5.1).bind fun q6 => (if q6 = 0 ∨ q6 = 1 then (some (q6, q5.2)) else none)))))))))
def fX7_claim  : Nat → Int32 → dt_Ob → Option (Int32 × dt_Ob)
  | 0, _, _ => none
  | n + 1, x1, T => fX7_claim_b (fX7_claim n) x1 T
set_option maxRecDepth 10000 in
set_option maxHeartbeats 4000000 in
theorem m_X7_claim_b {nb : Nat} (l : Launch) {k : Nat} (hk : k < 18 + nb ∧ dt_c k = 7) {hN : Nat} (hGB : 3 ≤ hN) {rc : Int32 → dt_Ob → Option (Int32 × dt_Ob)} (hrc : ∀ (M : dt_M) (T : dt_Ob) (x1 : Int32) {res : Int32 × dt_Ob}, rc x1 T = some res → dt_Met nb l yX7_claim cX7_claim 5 (some .boolean) hN (fun G => [.ref (G.1 k 0), .int x1]) (dt_put M k T) (some (.int res.1)) (dt_put M k res.2)) (M : dt_M) (T : dt_Ob) (x1 : Int32) {res : Int32 × dt_Ob} (h : fX7_claim_b rc x1 T = some res) : dt_Met nb l yX7_claim cX7_claim 5 (some .boolean) (hN + 2) (fun G => [.ref (G.1 k 0), .int x1]) (dt_put M k T) (some (.int res.1)) (dt_put M k res.2) := by
  refine dz_enter (lv := fun G => [(0, .ref (G.1 k 0)), (1, .int x1)]) (by decide) (fun _ => rfl) (fun _ => Nat.le_of_ble_eq_true rfl) (fun G A p e s m args below meth c C hr => ?_)
  unfold fX7_claim_b at h
  refine dz_aload_n (pc := 0) C dX7_claim_0 rfl 0 rfl ?_
  obtain ⟨q1, eq1, h⟩ := dt_bind h
  refine dz_callVi (pc := 1) (st := []) (k := k) (As := []) (M' := (dt_put M k T)) C Fc_X7 hk mf_X7_peek rfl ml_X7_50 (m_X7_peek l hk _ _ eq1) rfl rfl (by omega) (by decide) (Nat.le_of_ble_eq_true rfl) dX7_claim_1 ?_
  refine dz_istore_n (pc := 4) C dX7_claim_4 rfl (by decide) rfl ?_
  refine dz_iload_n (pc := 5) C dX7_claim_5 rfl 0 rfl ?_
  refine dz_sipush (pc := 6) (v := (20004 : Int32)) C dX7_claim_6 (by decide) ?_
  refine dz_icmp_eq (pc := 9) (t := 45) C dX7_claim_9 (by decide) h (fun h => ?_) (fun h => ?_)
  · refine dz_sub [1, 2, 0] rfl ?_
    exact tX7_claim_45 C hr hk hGB hrc  x1 q1 T h
  · refine dz_iload_n (pc := 12) C dX7_claim_12 rfl 0 rfl ?_
    refine dz_sipush (pc := 13) (v := (10040 : Int32)) C dX7_claim_13 (by decide) ?_
    refine dz_icmp_eq (pc := 16) (t := 45) C dX7_claim_16 (by decide) h (fun h => ?_) (fun h => ?_)
    · refine dz_sub [1, 2, 0] rfl ?_
      exact tX7_claim_45 C hr hk hGB hrc  x1 q1 T h
    · refine dz_aload_n (pc := 19) C dX7_claim_19 rfl 1 rfl ?_
      obtain ⟨q2, eq2, h⟩ := dt_bind h
      refine dz_callVi (pc := 20) (st := []) (k := k) (As := []) (M' := (dt_put M k q2.2)) C Fc_X7 hk mf_X7_sum rfl ml_X7_102 (m_X7_sum l hk _ _ eq2) rfl rfl (by omega) (by decide) (Nat.le_of_ble_eq_true rfl) dX7_claim_20 ?_
      refine dz_istore_n (pc := 23) C dX7_claim_23 rfl (by decide) rfl ?_
      refine dz_aload_n (pc := 24) C dX7_claim_24 rfl 2 rfl ?_
      obtain ⟨q3, eq3, h⟩ := dt_bind h
      refine dz_callVi (pc := 25) (st := []) (k := k) (As := []) (M' := (dt_put M k q2.2)) C Fc_X7 hk mf_X7_peek rfl ml_X7_50 (m_X7_peek l hk _ _ eq3) rfl rfl (by omega) (by decide) (Nat.le_of_ble_eq_true rfl) dX7_claim_25 ?_
      refine dz_istore (pc := 28) C dX7_claim_28 (by decide) rfl ?_
      refine dz_aload_n (pc := 30) C dX7_claim_30 rfl 3 rfl ?_
      obtain ⟨q4, eq4, h⟩ := dt_bind h
      refine dz_callVv (pc := 31) (st := []) (k := k) (As := []) (M' := (dt_put M k q4)) C Fc_X7 hk mf_X7_expectOrder rfl ml_X7_105 (m_X7_expectOrder l hk _ _ eq4) rfl rfl (by omega) (by decide) (Nat.le_of_ble_eq_true rfl) dX7_claim_31 ?_
      refine dz_iload_n (pc := 34) C dX7_claim_34 rfl 1 rfl ?_
      refine dz_iload (pc := 35) C dX7_claim_35 0 rfl ?_
      refine dz_aload_n (pc := 37) C dX7_claim_37 rfl 3 rfl ?_
      obtain ⟨q5, eq5, h⟩ := dt_bind h
      refine dz_callVi (pc := 38) (st := [.int q3, .int q2.1]) (k := k) (As := []) (M' := (dt_put M k q5.2)) C Fc_X7 hk mf_X7_sum rfl ml_X7_102 (m_X7_sum l hk _ _ eq5) rfl rfl (by omega) (by decide) (Nat.le_of_ble_eq_true rfl) dX7_claim_38 ?_
      obtain ⟨q6, eq6, h⟩ := dt_bind h
      refine dz_callSi (pc := 41) (st := []) (As := [.int q2.1, .int q3, .int q5.1]) (M' := (dt_put M k q5.2)) C ms_X7_isSo ml_X7_108 (m_X7_isSo l _ _ _ _ eq6) rfl rfl (by omega) (by decide) (Nat.le_of_ble_eq_true rfl) dX7_claim_41 ?_
      obtain ⟨hz7, h⟩ := dt_ifn h
      cases dt_some h
      exact dz_zret (pc := 44) C hr hz7 dX7_claim_44
theorem m_X7_claim_n {nb : Nat} (l : Launch) {k : Nat} (hk : k < 18 + nb ∧ dt_c k = 7) : ∀ (n : Nat) (M : dt_M) (T : dt_Ob) (x1 : Int32) {res : Int32 × dt_Ob}, fX7_claim n x1 T = some res → dt_Met nb l yX7_claim cX7_claim 5 (some .boolean) (3 + 2 * n) (fun G => [.ref (G.1 k 0), .int x1]) (dt_put M k T) (some (.int res.1)) (dt_put M k res.2) := by
  intro n
  induction n with
  | zero =>
    intro M T x1 res h
    unfold fX7_claim at h
    cases h
  | succ n ih =>
    intro M T x1 res h
    unfold fX7_claim at h
    have e0 : 3 + 2 * (n + 1) = 3 + 2 * n + 2 := by omega
    rw [e0]
    exact m_X7_claim_b l hk (by omega) (fun M T x1 _ h => ih M T x1 h) M T x1 h
theorem m_X7_claim {nb : Nat} (l : Launch) {k : Nat} (hk : k < 18 + nb ∧ dt_c k = 7) (M : dt_M) (n : Nat) (T : dt_Ob) (x1 : Int32) {res : Int32 × dt_Ob} (h : fX7_claim n x1 T = some res) : dt_Met nb l yX7_claim cX7_claim 5 (some .boolean) (3 + 2 * n) (fun G => [.ref (G.1 k 0), .int x1]) (dt_put M k T) (some (.int res.1)) (dt_put M k res.2) := m_X7_claim_n l hk n M T x1 h

def fX7_read_143 (r24 : Int32 → Int32 → Int32 → dt_Ob → Option (Int32 × dt_Ob)) (x1 : Int32) (x2 : Int32) (x3 : Int32) (T : dt_Ob) : Option (Int32 × dt_Ob) := (r24 x1 x2 (x3 + (1 : Int32)) T)
set_option maxRecDepth 10000 in
set_option maxHeartbeats 4000000 in
theorem tX7_read_143 {nb : Nat} {G : dt_G} {A : Nat → Prop} {p : Program} {l : Launch} {e : Env} {s : State} {m : MethodId} {args : Array Value} {below : List Frame} {meth : Method} {c : Code} (C : dt_Cx nb G A p s m args meth c cX7_read 6 RX7) (hr : meth.sig.returnType = (some .int)) {k : Nat} (hk : k < 18 + nb ∧ dt_c k = 7) {M : dt_M} {res : Int32 × dt_Ob} {r24 : Int32 → Int32 → Int32 → dt_Ob → Option (Int32 × dt_Ob)} (hr24 : ∀ (x1 : Int32) (x2 : Int32) (x3 : Int32) (T : dt_Ob), r24 x1 x2 x3 T = some res → dt_At G A p l e (dt_rm 53) s m args below meth c 6 (MQ below (dt_Post G A (some (.int res.1)) (dt_put M k res.2)) args s 0 0 A) 24 [(0, .ref (G.1 k 0)), (1, .int x1), (2, .int x2), (3, .int x3)] [] (dt_put M k T)) : ∀ (x1 : Int32) (x2 : Int32) (x3 : Int32) (T : dt_Ob), fX7_read_143 r24 x1 x2 x3 T = some res → dt_At G A p l e (dt_rm 53) s m args below meth c 6 (MQ below (dt_Post G A (some (.int res.1)) (dt_put M k res.2)) args s 0 0 A) 143 [(0, .ref (G.1 k 0)), (1, .int x1), (2, .int x2), (3, .int x3)] [] (dt_put M k T) := by
  intro x1 x2 x3 T h
  unfold fX7_read_143 at h
  refine dz_iinc (pc := 143) (v := (x3 + (1 : Int32))) C dX7_read_143 3 rfl rfl (by decide) rfl ?_
  refine dz_goto (pc := 146) (t := 24) C dX7_read_146 (by decide) ?_
  refine dz_sub [1, 2, 3, 0] rfl ?_
  exact hr24 x1 x2 (x3 + (1 : Int32)) T h
def fX7_read_133 (r24 : Int32 → Int32 → Int32 → dt_Ob → Option (Int32 × dt_Ob)) (x1 : Int32) (x2 : Int32) (x3 : Int32) (T : dt_Ob) : Option (Int32 × dt_Ob) := (fX7_read_143 r24 x1 x2 x3 (dt_set T 5 0 ((T 5 0) + (1 : Int32))))
set_option maxRecDepth 10000 in
set_option maxHeartbeats 4000000 in
theorem tX7_read_133 {nb : Nat} {G : dt_G} {A : Nat → Prop} {p : Program} {l : Launch} {e : Env} {s : State} {m : MethodId} {args : Array Value} {below : List Frame} {meth : Method} {c : Code} (C : dt_Cx nb G A p s m args meth c cX7_read 6 RX7) (hr : meth.sig.returnType = (some .int)) {k : Nat} (hk : k < 18 + nb ∧ dt_c k = 7) {M : dt_M} {res : Int32 × dt_Ob} {r24 : Int32 → Int32 → Int32 → dt_Ob → Option (Int32 × dt_Ob)} (hr24 : ∀ (x1 : Int32) (x2 : Int32) (x3 : Int32) (T : dt_Ob), r24 x1 x2 x3 T = some res → dt_At G A p l e (dt_rm 53) s m args below meth c 6 (MQ below (dt_Post G A (some (.int res.1)) (dt_put M k res.2)) args s 0 0 A) 24 [(0, .ref (G.1 k 0)), (1, .int x1), (2, .int x2), (3, .int x3)] [] (dt_put M k T)) : ∀ (x1 : Int32) (x2 : Int32) (x3 : Int32) (T : dt_Ob), fX7_read_133 r24 x1 x2 x3 T = some res → dt_At G A p l e (dt_rm 53) s m args below meth c 6 (MQ below (dt_Post G A (some (.int res.1)) (dt_put M k res.2)) args s 0 0 A) 133 [(0, .ref (G.1 k 0)), (1, .int x1), (2, .int x2), (3, .int x3)] [] (dt_put M k T) := by
  intro x1 x2 x3 T h
  unfold fX7_read_133 at h
  refine dz_aload_n (pc := 133) C dX7_read_133 rfl 0 rfl ?_
  refine dz_dup (pc := 134) C dX7_read_134 rfl ?_
  refine dz_getI (pc := 135) (k := k) (j := 5) (v := (T 5 0)) C Fc_X7 hk (by decide) rfl rfl fl_X7_28 (dt_rA _ _ _ _ _) dX7_read_135 ?_
  refine dz_iconst (pc := 138) (v := (1 : Int32)) C dX7_read_138 (by decide) ?_
  refine dz_iadd (pc := 139) C dX7_read_139 ?_
  refine dz_putI (pc := 140) (k := k) (j := 5) (M' := (dt_put M k (dt_set T 5 0 ((T 5 0) + (1 : Int32))))) C Fc_X7 hk (by decide) rfl rfl rfl rfl fl_X7_28 (dt_wA _ _ _ _ _ _) dX7_read_140 ?_
  exact tX7_read_143 C hr hk hr24 x1 x2 x3 (dt_set T 5 0 ((T 5 0) + (1 : Int32))) h
def fX7_read_71 (r24 : Int32 → Int32 → Int32 → dt_Ob → Option (Int32 × dt_Ob)) (x1 : Int32) (x2 : Int32) (x3 : Int32) (x4 : Int32) (T : dt_Ob) : Option (Int32 × dt_Ob) := (if (T 5 0) < (16 : Int32) then ((fX7_either (fX7_claim 24) (0 : Int32) (dt_set T 3 0 ((T 3 0) + (1 : Int32)))).bind fun q4 => ((fX7_expect (10059 : Int32) q4.2).bind fun q5 => (if q4.1 = 0 then (if x4 = x1 then (if x2 = (-1 : Int32) then (fX7_read_133 r24 x1 (q5 5 0) x3 q5) else (fX7_read_133 r24 x1 x2 x3 q5)) else (fX7_read_133 r24 x1 x2 x3 q5)) else (fX7_read_133 r24 x1 x2 x3 q5)))) else ((fX7_fail (3 : Int32) T).bind fun q6 => (fX7_read_143 r24 x1 x2 x3 q6)))
set_option maxRecDepth 10000 in
set_option maxHeartbeats 4000000 in
theorem tX7_read_71 {nb : Nat} {G : dt_G} {A : Nat → Prop} {p : Program} {l : Launch} {e : Env} {s : State} {m : MethodId} {args : Array Value} {below : List Frame} {meth : Method} {c : Code} (C : dt_Cx nb G A p s m args meth c cX7_read 6 RX7) (hr : meth.sig.returnType = (some .int)) {k : Nat} (hk : k < 18 + nb ∧ dt_c k = 7) {M : dt_M} {res : Int32 × dt_Ob} {r24 : Int32 → Int32 → Int32 → dt_Ob → Option (Int32 × dt_Ob)} (hr24 : ∀ (x1 : Int32) (x2 : Int32) (x3 : Int32) (T : dt_Ob), r24 x1 x2 x3 T = some res → dt_At G A p l e (dt_rm 53) s m args below meth c 6 (MQ below (dt_Post G A (some (.int res.1)) (dt_put M k res.2)) args s 0 0 A) 24 [(0, .ref (G.1 k 0)), (1, .int x1), (2, .int x2), (3, .int x3)] [] (dt_put M k T)) : ∀ (x1 : Int32) (x2 : Int32) (x3 : Int32) (x4 : Int32) (T : dt_Ob), fX7_read_71 r24 x1 x2 x3 x4 T = some res → dt_At G A p l e (dt_rm 53) s m args below meth c 6 (MQ below (dt_Post G A (some (.int res.1)) (dt_put M k res.2)) args s 0 0 A) 71 [(0, .ref (G.1 k 0)), (1, .int x1), (2, .int x2), (3, .int x3), (4, .int x4)] [] (dt_put M k T) := by
  intro x1 x2 x3 x4 T h
  unfold fX7_read_71 at h
  refine dz_aload_n (pc := 71) C dX7_read_71 rfl 0 rfl ?_
  refine dz_getI (pc := 72) (k := k) (j := 5) (v := (T 5 0)) C Fc_X7 hk (by decide) rfl rfl fl_X7_28 (dt_rA _ _ _ _ _) dX7_read_72 ?_
  refine dz_bipush (pc := 75) (v := (16 : Int32)) C dX7_read_75 (by decide) ?_
  refine dz_icmp_lt (pc := 77) (t := 88) C dX7_read_77 (by decide) h (fun h => ?_) (fun h => ?_)
  · refine dz_aload_n (pc := 88) C dX7_read_88 rfl 0 rfl ?_
    refine dz_dup (pc := 89) C dX7_read_89 rfl ?_
    refine dz_getI (pc := 90) (k := k) (j := 3) (v := (T 3 0)) C Fc_X7 hk (by decide) rfl rfl fl_X7_22 (dt_rA _ _ _ _ _) dX7_read_90 ?_
    refine dz_iconst (pc := 93) (v := (1 : Int32)) C dX7_read_93 (by decide) ?_
    refine dz_iadd (pc := 94) C dX7_read_94 ?_
    refine dz_putI (pc := 95) (k := k) (j := 3) (M' := (dt_put M k (dt_set T 3 0 ((T 3 0) + (1 : Int32))))) C Fc_X7 hk (by decide) rfl rfl rfl rfl fl_X7_22 (dt_wA _ _ _ _ _ _) dX7_read_95 ?_
    refine dz_aload_n (pc := 98) C dX7_read_98 rfl 0 rfl ?_
    refine dz_iconst (pc := 99) (v := (0 : Int32)) C dX7_read_99 (by decide) ?_
    obtain ⟨q4, eq4, h⟩ := dt_bind h
    refine dz_callVi (pc := 100) (st := []) (k := k) (As := [.int (0 : Int32)]) (M' := (dt_put M k q4.2)) C Fc_X7 hk mf_X7_either rfl ml_X7_58 (m_X7_either l hk (hN := 3 + 2 * 24) (by omega) (fun M T x1 _ h => m_X7_claim l hk M 24 T x1 h) _ _ _ eq4) rfl rfl (by omega) (by decide) (Nat.le_of_ble_eq_true rfl) dX7_read_100 ?_
    refine dz_istore (pc := 103) C dX7_read_103 (by decide) rfl ?_
    refine dz_aload_n (pc := 105) C dX7_read_105 rfl 1 rfl ?_
    refine dz_sipush (pc := 106) (v := (10059 : Int32)) C dX7_read_106 (by decide) ?_
    obtain ⟨q5, eq5, h⟩ := dt_bind h
    refine dz_callVv (pc := 109) (st := []) (k := k) (As := [.int (10059 : Int32)]) (M' := (dt_put M k q5)) C Fc_X7 hk mf_X7_expect rfl ml_X7_62 (m_X7_expect l hk _ _ _ eq5) rfl rfl (by omega) (by decide) (Nat.le_of_ble_eq_true rfl) dX7_read_109 ?_
    refine dz_iload (pc := 112) C dX7_read_112 0 rfl ?_
    refine dz_if_ne (pc := 114) (t := 133) C dX7_read_114 (by decide) h (fun h => ?_) (fun h => ?_)
    · refine dz_sub [1, 2, 3, 4] rfl ?_
      exact tX7_read_133 C hr hk hr24 x1 x2 x3 q5 h
    · refine dz_iload (pc := 117) C dX7_read_117 5 rfl ?_
      refine dz_iload_n (pc := 119) C dX7_read_119 rfl 2 rfl ?_
      refine dz_icmp_ne (pc := 120) (t := 133) C dX7_read_120 (by decide) h (fun h => ?_) (fun h => ?_)
      · refine dz_sub [1, 2, 3, 4] rfl ?_
        exact tX7_read_133 C hr hk hr24 x1 x2 x3 q5 h
      · refine dz_iload_n (pc := 123) C dX7_read_123 rfl 3 rfl ?_
        refine dz_iconst (pc := 124) (v := (-1 : Int32)) C dX7_read_124 (by decide) ?_
        refine dz_icmp_ne (pc := 125) (t := 133) C dX7_read_125 (by decide) h (fun h => ?_) (fun h => ?_)
        · refine dz_sub [1, 2, 3, 4] rfl ?_
          exact tX7_read_133 C hr hk hr24 x1 x2 x3 q5 h
        · refine dz_aload_n (pc := 128) C dX7_read_128 rfl 1 rfl ?_
          refine dz_getI (pc := 129) (k := k) (j := 5) (v := (q5 5 0)) C Fc_X7 hk (by decide) rfl rfl fl_X7_28 (dt_rA _ _ _ _ _) dX7_read_129 ?_
          refine dz_istore_n (pc := 132) C dX7_read_132 rfl (by decide) rfl ?_
          refine dz_sub [2, 3, 0, 4] rfl ?_
          exact tX7_read_133 C hr hk hr24 x1 (q5 5 0) x3 q5 h
  · refine dz_aload_n (pc := 80) C dX7_read_80 rfl 0 rfl ?_
    refine dz_iconst (pc := 81) (v := (3 : Int32)) C dX7_read_81 (by decide) ?_
    obtain ⟨q6, eq6, h⟩ := dt_bind h
    refine dz_callVv (pc := 82) (st := []) (k := k) (As := [.int (3 : Int32)]) (M' := (dt_put M k q6)) C Fc_X7 hk mf_X7_fail rfl ml_X7_54 (m_X7_fail l hk _ _ _ eq6) rfl rfl (by omega) (by decide) (Nat.le_of_ble_eq_true rfl) dX7_read_82 ?_
    refine dz_goto (pc := 85) (t := 143) C dX7_read_85 (by decide) ?_
    refine dz_sub [0, 1, 2, 3] rfl ?_
    exact tX7_read_143 C hr hk hr24 x1 x2 x3 q6 h
def fX7_read_24  : Nat → Int32 → Int32 → Int32 → dt_Ob → Option (Int32 × dt_Ob)
  | 0, _, _, _, _ => none
  | n + 1, x1, x2, x3, T => (if (400 : Int32) < x3 then (some (x2, T)) else ((fX7_peek T).bind fun q1 => (if q1 = (30000 : Int32) then (some (x2, T)) else ((fX7_peek T).bind fun q2 => (if q2 = (20000 : Int32) then (fX7_read_71 (fX7_read_24 n) x1 x2 x3 q2 T) else (if q2 = (20001 : Int32) then (fX7_read_71 (fX7_read_24 n) x1 x2 x3 q2 T) else ((fX7_fail (1 : Int32) T).bind fun q3 => (fX7_read_143 (fX7_read_24 n) x1 x2 x3 q3))))))))
set_option maxRecDepth 10000 in
set_option maxHeartbeats 4000000 in
theorem tX7_read_24 {nb : Nat} {G : dt_G} {A : Nat → Prop} {p : Program} {l : Launch} {e : Env} {s : State} {m : MethodId} {args : Array Value} {below : List Frame} {meth : Method} {c : Code} (C : dt_Cx nb G A p s m args meth c cX7_read 6 RX7) (hr : meth.sig.returnType = (some .int)) {k : Nat} (hk : k < 18 + nb ∧ dt_c k = 7) {M : dt_M} {res : Int32 × dt_Ob}  : ∀ (n : Nat) (x1 : Int32) (x2 : Int32) (x3 : Int32) (T : dt_Ob), fX7_read_24 n x1 x2 x3 T = some res → dt_At G A p l e (dt_rm 53) s m args below meth c 6 (MQ below (dt_Post G A (some (.int res.1)) (dt_put M k res.2)) args s 0 0 A) 24 [(0, .ref (G.1 k 0)), (1, .int x1), (2, .int x2), (3, .int x3)] [] (dt_put M k T) := by
  intro n
  induction n with
  | zero =>
    intro x1 x2 x3 T h
    unfold fX7_read_24 at h
    cases h
  | succ n ih =>
    intro x1 x2 x3 T h
    unfold fX7_read_24 at h
    refine dz_iload_n (pc := 24) C dX7_read_24 rfl 3 rfl ?_
    refine dz_sipush (pc := 25) (v := (400 : Int32)) C dX7_read_25 (by decide) ?_
    refine dz_icmp_gt (pc := 28) (t := 149) C dX7_read_28 (by decide) h (fun h => ?_) (fun h => ?_)
    · refine dz_iload_n (pc := 149) C dX7_read_149 rfl 2 rfl ?_
      cases dt_some h
      exact dz_iret (pc := 150) C hr dX7_read_150
    · refine dz_aload_n (pc := 31) C dX7_read_31 rfl 0 rfl ?_
      obtain ⟨q1, eq1, h⟩ := dt_bind h
      refine dz_callVi (pc := 32) (st := []) (k := k) (As := []) (M' := (dt_put M k T)) C Fc_X7 hk mf_X7_peek rfl ml_X7_50 (m_X7_peek l hk _ _ eq1) rfl rfl (by omega) (by decide) (Nat.le_of_ble_eq_true rfl) dX7_read_32 ?_
      refine dz_sipush (pc := 35) (v := (30000 : Int32)) C dX7_read_35 (by decide) ?_
      refine dz_icmp_eq (pc := 38) (t := 149) C dX7_read_38 (by decide) h (fun h => ?_) (fun h => ?_)
      · refine dz_iload_n (pc := 149) C dX7_read_149 rfl 2 rfl ?_
        cases dt_some h
        exact dz_iret (pc := 150) C hr dX7_read_150
      · refine dz_aload_n (pc := 41) C dX7_read_41 rfl 0 rfl ?_
        obtain ⟨q2, eq2, h⟩ := dt_bind h
        refine dz_callVi (pc := 42) (st := []) (k := k) (As := []) (M' := (dt_put M k T)) C Fc_X7 hk mf_X7_peek rfl ml_X7_50 (m_X7_peek l hk _ _ eq2) rfl rfl (by omega) (by decide) (Nat.le_of_ble_eq_true rfl) dX7_read_42 ?_
        refine dz_istore (pc := 45) C dX7_read_45 (by decide) rfl ?_
        refine dz_iload (pc := 47) C dX7_read_47 0 rfl ?_
        refine dz_sipush (pc := 49) (v := (20000 : Int32)) C dX7_read_49 (by decide) ?_
        refine dz_icmp_eq (pc := 52) (t := 71) C dX7_read_52 (by decide) h (fun h => ?_) (fun h => ?_)
        · refine dz_sub [1, 2, 3, 4, 0] rfl ?_
          exact tX7_read_71 C hr hk ih x1 x2 x3 q2 T h
        · refine dz_iload (pc := 55) C dX7_read_55 0 rfl ?_
          refine dz_sipush (pc := 57) (v := (20001 : Int32)) C dX7_read_57 (by decide) ?_
          refine dz_icmp_eq (pc := 60) (t := 71) C dX7_read_60 (by decide) h (fun h => ?_) (fun h => ?_)
          · refine dz_sub [1, 2, 3, 4, 0] rfl ?_
            exact tX7_read_71 C hr hk ih x1 x2 x3 q2 T h
          · refine dz_aload_n (pc := 63) C dX7_read_63 rfl 1 rfl ?_
            refine dz_iconst (pc := 64) (v := (1 : Int32)) C dX7_read_64 (by decide) ?_
            obtain ⟨q3, eq3, h⟩ := dt_bind h
            refine dz_callVv (pc := 65) (st := []) (k := k) (As := [.int (1 : Int32)]) (M' := (dt_put M k q3)) C Fc_X7 hk mf_X7_fail rfl ml_X7_54 (m_X7_fail l hk _ _ _ eq3) rfl rfl (by omega) (by decide) (Nat.le_of_ble_eq_true rfl) dX7_read_65 ?_
            refine dz_goto (pc := 68) (t := 143) C dX7_read_68 (by decide) ?_
            refine dz_sub [1, 2, 3, 4] rfl ?_
            exact tX7_read_143 C hr hk ih x1 x2 x3 q3 h
def fX7_read  (x1 : Int32) (T : dt_Ob) : Option (Int32 × dt_Ob) := (fX7_read_24 dt_F x1 (-1 : Int32) (0 : Int32) (dt_set (dt_set (dt_set (dt_set T 3 0 (0 : Int32)) 5 0 (0 : Int32)) 6 0 (0 : Int32)) 7 0 (-1 : Int32)))
set_option maxRecDepth 10000 in
set_option maxHeartbeats 4000000 in
theorem m_X7_read {nb : Nat} (l : Launch) {k : Nat} (hk : k < 18 + nb ∧ dt_c k = 7)  (M : dt_M) (T : dt_Ob)  (x1 : Int32) {res : Int32 × dt_Ob} (h : fX7_read x1 T = some res) : dt_Met nb l yX7_read cX7_read 6 (some .int) 53 (fun G => [.ref (G.1 k 0), .int x1]) (dt_put M k T) (some (.int res.1)) (dt_put M k res.2) := by
  refine dz_enter (lv := fun G => [(0, .ref (G.1 k 0)), (1, .int x1)]) (by decide) (fun _ => rfl) (fun _ => Nat.le_of_ble_eq_true rfl) (fun G A p e s m args below meth c C hr => ?_)
  unfold fX7_read at h
  refine dz_aload_n (pc := 0) C dX7_read_0 rfl 0 rfl ?_
  refine dz_iconst (pc := 1) (v := (0 : Int32)) C dX7_read_1 (by decide) ?_
  refine dz_putI (pc := 2) (k := k) (j := 3) (M' := (dt_put M k (dt_set T 3 0 (0 : Int32)))) C Fc_X7 hk (by decide) rfl rfl rfl rfl fl_X7_22 (dt_wA _ _ _ _ _ _) dX7_read_2 ?_
  refine dz_aload_n (pc := 5) C dX7_read_5 rfl 0 rfl ?_
  refine dz_iconst (pc := 6) (v := (0 : Int32)) C dX7_read_6 (by decide) ?_
  refine dz_putI (pc := 7) (k := k) (j := 5) (M' := (dt_put M k (dt_set (dt_set T 3 0 (0 : Int32)) 5 0 (0 : Int32)))) C Fc_X7 hk (by decide) rfl rfl rfl rfl fl_X7_28 (dt_wA _ _ _ _ _ _) dX7_read_7 ?_
  refine dz_aload_n (pc := 10) C dX7_read_10 rfl 0 rfl ?_
  refine dz_iconst (pc := 11) (v := (0 : Int32)) C dX7_read_11 (by decide) ?_
  refine dz_putI (pc := 12) (k := k) (j := 6) (M' := (dt_put M k (dt_set (dt_set (dt_set T 3 0 (0 : Int32)) 5 0 (0 : Int32)) 6 0 (0 : Int32)))) C Fc_X7 hk (by decide) rfl rfl rfl rfl fl_X7_31 (dt_wA _ _ _ _ _ _) dX7_read_12 ?_
  refine dz_aload_n (pc := 15) C dX7_read_15 rfl 0 rfl ?_
  refine dz_iconst (pc := 16) (v := (-1 : Int32)) C dX7_read_16 (by decide) ?_
  refine dz_putI (pc := 17) (k := k) (j := 7) (M' := (dt_put M k (dt_set (dt_set (dt_set (dt_set T 3 0 (0 : Int32)) 5 0 (0 : Int32)) 6 0 (0 : Int32)) 7 0 (-1 : Int32)))) C Fc_X7 hk (by decide) rfl rfl rfl rfl fl_X7_34 (dt_wA _ _ _ _ _ _) dX7_read_17 ?_
  refine dz_iconst (pc := 20) (v := (-1 : Int32)) C dX7_read_20 (by decide) ?_
  refine dz_istore_n (pc := 21) C dX7_read_21 rfl (by decide) rfl ?_
  refine dz_iconst (pc := 22) (v := (0 : Int32)) C dX7_read_22 (by decide) ?_
  refine dz_istore_n (pc := 23) C dX7_read_23 rfl (by decide) rfl ?_
  refine dz_sub [2, 3, 1, 0] rfl ?_
  exact tX7_read_24 C hr hk dt_F x1 (-1 : Int32) (0 : Int32) (dt_set (dt_set (dt_set (dt_set T 3 0 (0 : Int32)) 5 0 (0 : Int32)) 6 0 (0 : Int32)) 7 0 (-1 : Int32)) h
