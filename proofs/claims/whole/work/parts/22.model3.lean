/-! ===== lifted: 22.model3 ===== -/
def fX10_both_101  (x1 : Int32) (x2 : Int32) : Option (Int32) := (some (x1 ||| x2))
set_option maxRecDepth 10000 in
set_option maxHeartbeats 4000000 in
theorem tX10_both_101 {G : dt_G} {A : Nat → Prop} {p : Program} {l : Launch} {e : Env} {s : State} {m : MethodId} {args : Array Value} {below : List Frame} {meth : Method} {c : Code} (C : dt_Cx 1 G A p s m args meth c cX10_both 3 RX10) (hr : meth.sig.returnType = (some .int)) {M : dt_M} {res : Int32}  : ∀ (x1 : Int32) (x2 : Int32), fX10_both_101 x1 x2 = some res → dt_At G A p l e (dt_rm 1) s m args below meth c 3 (MQ below (dt_Post G A (some (.int res)) M) args s 0 0 A) 101 [(1, .int x1), (2, .int x2)] [] M := by
  intro x1 x2 h
  unfold fX10_both_101 at h
  refine dz_iload_n (pc := 101) C dX10_both_101 rfl 0 rfl ?_
  refine dz_iload_n (pc := 102) C dX10_both_102 rfl 1 rfl ?_
  refine dz_ior (pc := 103) C dX10_both_103 ?_
  cases dt_some h
  exact dz_iret (pc := 104) C hr dX10_both_104
def fX10_both  (x0 : Int32) (x1 : Int32) (x2 : Int32) : Option (Int32) := (if x0 = (13 : Int32) then (some (x1 + x2)) else (if x0 = (14 : Int32) then (some (x1 - x2)) else (if x0 = (15 : Int32) then (some (x1 * x2)) else (if x0 = (16 : Int32) then (fX10_both_101 x1 x2) else (if x0 = (17 : Int32) then (if x2 ≤ x1 then (some (0 : Int32)) else (some (1 : Int32))) else (if x0 = (18 : Int32) then (if x1 = x2 then (some (1 : Int32)) else (some (0 : Int32))) else (if x0 = (19 : Int32) then (if x1 ≤ x2 then (some (0 : Int32)) else (some (1 : Int32))) else (if x0 = (20 : Int32) then (fX10_both_101 x1 x2) else (if x0 = (21 : Int32) then (some (x1 &&& x2)) else (fX10_both_101 x1 x2))))))))))
set_option maxRecDepth 10000 in
set_option maxHeartbeats 4000000 in
theorem m_X10_both (l : Launch)  (M : dt_M)   (x0 : Int32) (x1 : Int32) (x2 : Int32) {res : Int32} (h : fX10_both x0 x1 x2 = some res) : dt_Met 1 l yX10_both cX10_both 3 (some .int) 1 (fun G => [.int x0, .int x1, .int x2]) M (some (.int res)) M := by
  refine dz_enter (lv := fun G => [(0, .int x0), (1, .int x1), (2, .int x2)]) (by decide) (fun _ => rfl) (fun _ => Nat.le_of_ble_eq_true rfl) (fun G A p e s m args below meth c C hr => ?_)
  unfold fX10_both at h
  refine dz_iload_n (pc := 0) C dX10_both_0 rfl 0 rfl ?_
  by_cases hc1 : x0 = (13 : Int32)
  · have h := dt_ifp h hc1
    refine dz_tsw (pc := 1) (off := 51) (t := 52) C dX10_both_1 (13) (by rw [hc1]; rfl) (by decide) (by decide) rfl (by decide) ?_
    refine dz_iload_n (pc := 52) C dX10_both_52 rfl 1 rfl ?_
    refine dz_iload_n (pc := 53) C dX10_both_53 rfl 2 rfl ?_
    refine dz_iadd (pc := 54) C dX10_both_54 ?_
    cases dt_some h
    exact dz_iret (pc := 55) C hr dX10_both_55
  have h := dt_iff h hc1
  by_cases hc2 : x0 = (14 : Int32)
  · have h := dt_ifp h hc2
    refine dz_tsw (pc := 1) (off := 55) (t := 56) C dX10_both_1 (14) (by rw [hc2]; rfl) (by decide) (by decide) rfl (by decide) ?_
    refine dz_iload_n (pc := 56) C dX10_both_56 rfl 1 rfl ?_
    refine dz_iload_n (pc := 57) C dX10_both_57 rfl 2 rfl ?_
    refine dz_isub (pc := 58) C dX10_both_58 ?_
    cases dt_some h
    exact dz_iret (pc := 59) C hr dX10_both_59
  have h := dt_iff h hc2
  by_cases hc3 : x0 = (15 : Int32)
  · have h := dt_ifp h hc3
    refine dz_tsw (pc := 1) (off := 59) (t := 60) C dX10_both_1 (15) (by rw [hc3]; rfl) (by decide) (by decide) rfl (by decide) ?_
    refine dz_iload_n (pc := 60) C dX10_both_60 rfl 1 rfl ?_
    refine dz_iload_n (pc := 61) C dX10_both_61 rfl 2 rfl ?_
    refine dz_imul (pc := 62) C dX10_both_62 ?_
    cases dt_some h
    exact dz_iret (pc := 63) C hr dX10_both_63
  have h := dt_iff h hc3
  by_cases hc4 : x0 = (16 : Int32)
  · have h := dt_ifp h hc4
    refine dz_tsw (pc := 1) (off := 100) (t := 101) C dX10_both_1 (16) (by rw [hc4]; rfl) (by decide) (by decide) rfl (by decide) ?_
    refine dz_sub [1, 2] rfl ?_
    exact tX10_both_101 C hr  x1 x2 h
  have h := dt_iff h hc4
  by_cases hc5 : x0 = (17 : Int32)
  · have h := dt_ifp h hc5
    refine dz_tsw (pc := 1) (off := 63) (t := 64) C dX10_both_1 (17) (by rw [hc5]; rfl) (by decide) (by decide) rfl (by decide) ?_
    refine dz_iload_n (pc := 64) C dX10_both_64 rfl 1 rfl ?_
    refine dz_iload_n (pc := 65) C dX10_both_65 rfl 2 rfl ?_
    refine dz_icmp_ge (pc := 66) (t := 73) C dX10_both_66 (by decide) h (fun h => ?_) (fun h => ?_)
    · refine dz_iconst (pc := 73) (v := (0 : Int32)) C dX10_both_73 (by decide) ?_
      cases dt_some h
      exact dz_iret (pc := 74) C hr dX10_both_74
    · refine dz_iconst (pc := 69) (v := (1 : Int32)) C dX10_both_69 (by decide) ?_
      refine dz_goto (pc := 70) (t := 74) C dX10_both_70 (by decide) ?_
      cases dt_some h
      exact dz_iret (pc := 74) C hr dX10_both_74
  have h := dt_iff h hc5
  by_cases hc6 : x0 = (18 : Int32)
  · have h := dt_ifp h hc6
    refine dz_tsw (pc := 1) (off := 74) (t := 75) C dX10_both_1 (18) (by rw [hc6]; rfl) (by decide) (by decide) rfl (by decide) ?_
    refine dz_iload_n (pc := 75) C dX10_both_75 rfl 1 rfl ?_
    refine dz_iload_n (pc := 76) C dX10_both_76 rfl 2 rfl ?_
    refine dz_icmp_ne (pc := 77) (t := 84) C dX10_both_77 (by decide) h (fun h => ?_) (fun h => ?_)
    · refine dz_iconst (pc := 84) (v := (0 : Int32)) C dX10_both_84 (by decide) ?_
      cases dt_some h
      exact dz_iret (pc := 85) C hr dX10_both_85
    · refine dz_iconst (pc := 80) (v := (1 : Int32)) C dX10_both_80 (by decide) ?_
      refine dz_goto (pc := 81) (t := 85) C dX10_both_81 (by decide) ?_
      cases dt_some h
      exact dz_iret (pc := 85) C hr dX10_both_85
  have h := dt_iff h hc6
  by_cases hc7 : x0 = (19 : Int32)
  · have h := dt_ifp h hc7
    refine dz_tsw (pc := 1) (off := 85) (t := 86) C dX10_both_1 (19) (by rw [hc7]; rfl) (by decide) (by decide) rfl (by decide) ?_
    refine dz_iload_n (pc := 86) C dX10_both_86 rfl 1 rfl ?_
    refine dz_iload_n (pc := 87) C dX10_both_87 rfl 2 rfl ?_
    refine dz_icmp_le (pc := 88) (t := 95) C dX10_both_88 (by decide) h (fun h => ?_) (fun h => ?_)
    · refine dz_iconst (pc := 95) (v := (0 : Int32)) C dX10_both_95 (by decide) ?_
      cases dt_some h
      exact dz_iret (pc := 96) C hr dX10_both_96
    · refine dz_iconst (pc := 91) (v := (1 : Int32)) C dX10_both_91 (by decide) ?_
      refine dz_goto (pc := 92) (t := 96) C dX10_both_92 (by decide) ?_
      cases dt_some h
      exact dz_iret (pc := 96) C hr dX10_both_96
  have h := dt_iff h hc7
  by_cases hc8 : x0 = (20 : Int32)
  · have h := dt_ifp h hc8
    refine dz_tsw (pc := 1) (off := 100) (t := 101) C dX10_both_1 (20) (by rw [hc8]; rfl) (by decide) (by decide) rfl (by decide) ?_
    refine dz_sub [1, 2] rfl ?_
    exact tX10_both_101 C hr  x1 x2 h
  have h := dt_iff h hc8
  by_cases hc9 : x0 = (21 : Int32)
  · have h := dt_ifp h hc9
    refine dz_tsw (pc := 1) (off := 96) (t := 97) C dX10_both_1 (21) (by rw [hc9]; rfl) (by decide) (by decide) rfl (by decide) ?_
    refine dz_iload_n (pc := 97) C dX10_both_97 rfl 1 rfl ?_
    refine dz_iload_n (pc := 98) C dX10_both_98 rfl 2 rfl ?_
    refine dz_iand (pc := 99) C dX10_both_99 ?_
    cases dt_some h
    exact dz_iret (pc := 100) C hr dX10_both_100
  have h := dt_iff h hc9
  refine dz_tswO (pc := 1) (t := 101) C dX10_both_1 (by have z13 := lv_neT hc1 (a := 13) rfl; have z14 := lv_neT hc2 (a := 14) rfl; have z15 := lv_neT hc3 (a := 15) rfl; have z16 := lv_neT hc4 (a := 16) rfl; have z17 := lv_neT hc5 (a := 17) rfl; have z18 := lv_neT hc6 (a := 18) rfl; have z19 := lv_neT hc7 (a := 19) rfl; have z20 := lv_neT hc8 (a := 20) rfl; have z21 := lv_neT hc9 (a := 21) rfl; omega) (by decide) ?_
  refine dz_sub [1, 2] rfl ?_
  exact tX10_both_101 C hr  x1 x2 h

def fX10_comesTo_160 (r5 : Int32 → Int32 → Int32 → dt_Ob → Option (Int32 × dt_Ob)) (x2 : Int32) (x3 : Int32) (x4 : Int32) (T : dt_Ob) : Option (Int32 × dt_Ob) := (r5 x2 x3 (x4 + (1 : Int32)) T)
set_option maxRecDepth 10000 in
set_option maxHeartbeats 4000000 in
theorem tX10_comesTo_160 {G : dt_G} {A : Nat → Prop} {p : Program} {l : Launch} {e : Env} {s : State} {m : MethodId} {args : Array Value} {below : List Frame} {meth : Method} {c : Code} (C : dt_Cx 1 G A p s m args meth c cX10_comesTo 7 RX10) (hr : meth.sig.returnType = (some .int)) {M : dt_M} {res : Int32 × dt_Ob} {r5 : Int32 → Int32 → Int32 → dt_Ob → Option (Int32 × dt_Ob)} (hr5 : ∀ (x2 : Int32) (x3 : Int32) (x4 : Int32) (T : dt_Ob), r5 x2 x3 x4 T = some res → dt_At G A p l e (dt_rm 2) s m args below meth c 7 (MQ below (dt_Post G A (some (.int res.1)) (dt_put M 18 res.2)) args s 0 0 A) 5 [(0, .ref (G.1 18 0)), (2, .int x2), (3, .int x3), (4, .int x4)] [] (dt_put M 18 T)) : ∀ (x2 : Int32) (x3 : Int32) (x4 : Int32) (T : dt_Ob), fX10_comesTo_160 r5 x2 x3 x4 T = some res → dt_At G A p l e (dt_rm 2) s m args below meth c 7 (MQ below (dt_Post G A (some (.int res.1)) (dt_put M 18 res.2)) args s 0 0 A) 160 [(0, .ref (G.1 18 0)), (2, .int x2), (3, .int x3), (4, .int x4)] [] (dt_put M 18 T) := by
  intro x2 x3 x4 T h
  unfold fX10_comesTo_160 at h
  refine dz_iinc (pc := 160) (v := (x4 + (1 : Int32))) C dX10_comesTo_160 3 rfl rfl (by decide) rfl ?_
  refine dz_goto (pc := 163) (t := 5) C dX10_comesTo_163 (by decide) ?_
  refine dz_sub [1, 2, 3, 0] rfl ?_
  exact hr5 x2 x3 (x4 + (1 : Int32)) T h
def fX10_comesTo_72 (r5 : Int32 → Int32 → Int32 → dt_Ob → Option (Int32 × dt_Ob)) (x2 : Int32) (x3 : Int32) (x4 : Int32) (s1 : Int32) (s2 : Int32) (T : dt_Ob) : Option (Int32 × dt_Ob) := ((dt_ix s1 420).bind fun a13 => (fX10_comesTo_160 r5 x2 (x3 + (1 : Int32)) x4 (dt_set T 14 a13 s2)))
set_option maxRecDepth 10000 in
set_option maxHeartbeats 4000000 in
theorem tX10_comesTo_72 {G : dt_G} {A : Nat → Prop} {p : Program} {l : Launch} {e : Env} {s : State} {m : MethodId} {args : Array Value} {below : List Frame} {meth : Method} {c : Code} (C : dt_Cx 1 G A p s m args meth c cX10_comesTo 7 RX10) (hr : meth.sig.returnType = (some .int)) {M : dt_M} {res : Int32 × dt_Ob} {r5 : Int32 → Int32 → Int32 → dt_Ob → Option (Int32 × dt_Ob)} (hr5 : ∀ (x2 : Int32) (x3 : Int32) (x4 : Int32) (T : dt_Ob), r5 x2 x3 x4 T = some res → dt_At G A p l e (dt_rm 2) s m args below meth c 7 (MQ below (dt_Post G A (some (.int res.1)) (dt_put M 18 res.2)) args s 0 0 A) 5 [(0, .ref (G.1 18 0)), (2, .int x2), (3, .int x3), (4, .int x4)] [] (dt_put M 18 T)) : ∀ (x2 : Int32) (x3 : Int32) (x4 : Int32) (s1 : Int32) (s2 : Int32) (T : dt_Ob), fX10_comesTo_72 r5 x2 x3 x4 s1 s2 T = some res → dt_At G A p l e (dt_rm 2) s m args below meth c 7 (MQ below (dt_Post G A (some (.int res.1)) (dt_put M 18 res.2)) args s 0 0 A) 72 [(0, .ref (G.1 18 0)), (2, .int x2), (3, .int x3), (4, .int x4)] [.int s2, .int s1, .ref (G.1 18 (14 + 1))] (dt_put M 18 T) := by
  intro x2 x3 x4 s1 s2 T h
  unfold fX10_comesTo_72 at h
  refine dz_iast (pc := 72) (k := 18) (j := 14) (n := 420) (M' := fun a13 => (dt_put M 18 (dt_set T 14 a13 s2))) C hk_18 (by decide) rfl (fun a13 => (dt_wA _ _ _ _ _ _)) dX10_comesTo_72 h (fun a13 h => ?_)
  refine dz_iinc (pc := 73) (v := (x3 + (1 : Int32))) C dX10_comesTo_73 2 rfl rfl (by decide) rfl ?_
  refine dz_goto (pc := 76) (t := 160) C dX10_comesTo_76 (by decide) ?_
  refine dz_sub [1, 2, 0, 3] rfl ?_
  exact tX10_comesTo_160 C hr hr5 x2 (x3 + (1 : Int32)) x4 (dt_set T 14 a13 s2) h
def fX10_comesTo_5  : Nat → Int32 → Int32 → Int32 → dt_Ob → Option (Int32 × dt_Ob)
  | 0, _, _, _, _ => none
  | n + 1, x2, x3, x4, T => (if x2 ≤ x4 then ((dt_ix (0 : Int32) 420).bind fun a1 => (some (((T 14) a1), T))) else ((dt_ix ((405 : Int32) + ((2 : Int32) * x4)) 1225).bind fun a2 => ((dt_ix (((405 : Int32) + ((2 : Int32) * x4)) + (1 : Int32)) 1225).bind fun a3 => (if (13 : Int32) ≤ ((T 0) a2) then (if ((T 0) a2) = (16 : Int32) then ((dt_ix (x3 - (1 : Int32)) 420).bind fun a10 => (if ((T 0) a3) = 0 then none else ((dt_ix (x3 - (1 : Int32)) 420).bind fun a11 => (fX10_comesTo_160 (fX10_comesTo_5 n) x2 x3 x4 (dt_set T 14 a11 (((T 14) a10) / ((T 0) a3))))))) else (if ((T 0) a2) = (20 : Int32) then ((dt_ix (x3 - (1 : Int32)) 420).bind fun a8 => ((dt_ix (x3 - (1 : Int32)) 420).bind fun a9 => (fX10_comesTo_160 (fX10_comesTo_5 n) x2 x3 x4 (dt_set T 14 a9 ((1 : Int32) - ((T 14) a8)))))) else ((dt_ix ((x3 + (-1 : Int32)) - (1 : Int32)) 420).bind fun a4 => ((dt_ix (x3 + (-1 : Int32)) 420).bind fun a5 => ((fX10_both ((T 0) a2) ((T 14) a4) ((T 14) a5)).bind fun q6 => ((dt_ix ((x3 + (-1 : Int32)) - (1 : Int32)) 420).bind fun a7 => (fX10_comesTo_160 (fX10_comesTo_5 n) x2 (x3 + (-1 : Int32)) x4 (dt_set T 14 a7 q6)))))))) else (if ((T 0) a2) = 0 then (fX10_comesTo_72 (fX10_comesTo_5 n) x2 x3 x4 x3 ((T 0) a3) T) else ((dt_ix ((T 0) a2) 8).bind fun a12 => (fX10_comesTo_72 (fX10_comesTo_5 n) x2 x3 x4 x3 ((T 15) a12) T)))))))
set_option maxRecDepth 10000 in
set_option maxHeartbeats 4000000 in
theorem tX10_comesTo_5 {G : dt_G} {A : Nat → Prop} {p : Program} {l : Launch} {e : Env} {s : State} {m : MethodId} {args : Array Value} {below : List Frame} {meth : Method} {c : Code} (C : dt_Cx 1 G A p s m args meth c cX10_comesTo 7 RX10) (hr : meth.sig.returnType = (some .int)) {M : dt_M} {res : Int32 × dt_Ob}  : ∀ (n : Nat) (x2 : Int32) (x3 : Int32) (x4 : Int32) (T : dt_Ob), fX10_comesTo_5 n x2 x3 x4 T = some res → dt_At G A p l e (dt_rm 2) s m args below meth c 7 (MQ below (dt_Post G A (some (.int res.1)) (dt_put M 18 res.2)) args s 0 0 A) 5 [(0, .ref (G.1 18 0)), (2, .int x2), (3, .int x3), (4, .int x4)] [] (dt_put M 18 T) := by
  intro n
  induction n with
  | zero =>
    intro x2 x3 x4 T h
    unfold fX10_comesTo_5 at h
    cases h
  | succ n ih =>
    intro x2 x3 x4 T h
    unfold fX10_comesTo_5 at h
    refine dz_iload (pc := 5) C dX10_comesTo_5 3 rfl ?_
    refine dz_iload_n (pc := 7) C dX10_comesTo_7 rfl 1 rfl ?_
    refine dz_icmp_ge (pc := 8) (t := 166) C dX10_comesTo_8 (by decide) h (fun h => ?_) (fun h => ?_)
    · refine dz_aload_n (pc := 166) C dX10_comesTo_166 rfl 0 rfl ?_
      refine dz_getR (pc := 167) (k := 18) (j := 14) C Fc_X10 hk_18 (by decide) (by decide) rfl fl_X10_46 dX10_comesTo_167 ?_
      refine dz_iconst (pc := 170) (v := (0 : Int32)) C dX10_comesTo_170 (by decide) ?_
      refine dz_iald (pc := 171) (k := 18) (j := 14) (n := 420) (f := (T 14)) C hk_18 (by decide) rfl (dt_rAf _ _ _ _) dX10_comesTo_171 h (fun a1 h => ?_)
      cases dt_some h
      exact dz_iret (pc := 172) C hr dX10_comesTo_172
    · refine dz_aload_n (pc := 11) C dX10_comesTo_11 rfl 0 rfl ?_
      refine dz_getR (pc := 12) (k := 18) (j := 0) C Fc_X10 hk_18 (by decide) (by decide) rfl fl_X10_7 dX10_comesTo_12 ?_
      refine dz_sipush (pc := 15) (v := (405 : Int32)) C dX10_comesTo_15 (by decide) ?_
      refine dz_iconst (pc := 18) (v := (2 : Int32)) C dX10_comesTo_18 (by decide) ?_
      refine dz_iload (pc := 19) C dX10_comesTo_19 3 rfl ?_
      refine dz_imul (pc := 21) C dX10_comesTo_21 ?_
      refine dz_iadd (pc := 22) C dX10_comesTo_22 ?_
      refine dz_iald (pc := 23) (k := 18) (j := 0) (n := 1225) (f := (T 0)) C hk_18 (by decide) rfl (dt_rAf _ _ _ _) dX10_comesTo_23 h (fun a2 h => ?_)
      refine dz_istore (pc := 24) C dX10_comesTo_24 (by decide) rfl ?_
      refine dz_aload_n (pc := 26) C dX10_comesTo_26 rfl 1 rfl ?_
      refine dz_getR (pc := 27) (k := 18) (j := 0) C Fc_X10 hk_18 (by decide) (by decide) rfl fl_X10_7 dX10_comesTo_27 ?_
      refine dz_sipush (pc := 30) (v := (405 : Int32)) C dX10_comesTo_30 (by decide) ?_
      refine dz_iconst (pc := 33) (v := (2 : Int32)) C dX10_comesTo_33 (by decide) ?_
      refine dz_iload (pc := 34) C dX10_comesTo_34 4 rfl ?_
      refine dz_imul (pc := 36) C dX10_comesTo_36 ?_
      refine dz_iadd (pc := 37) C dX10_comesTo_37 ?_
      refine dz_iconst (pc := 38) (v := (1 : Int32)) C dX10_comesTo_38 (by decide) ?_
      refine dz_iadd (pc := 39) C dX10_comesTo_39 ?_
      refine dz_iald (pc := 40) (k := 18) (j := 0) (n := 1225) (f := (T 0)) C hk_18 (by decide) rfl (dt_rAf _ _ _ _) dX10_comesTo_40 h (fun a3 h => ?_)
      refine dz_istore (pc := 41) C dX10_comesTo_41 (by decide) rfl ?_
      refine dz_iload (pc := 43) C dX10_comesTo_43 1 rfl ?_
      refine dz_bipush (pc := 45) (v := (13 : Int32)) C dX10_comesTo_45 (by decide) ?_
      refine dz_icmp_ge (pc := 47) (t := 79) C dX10_comesTo_47 (by decide) h (fun h => ?_) (fun h => ?_)
      · refine dz_iload (pc := 79) C dX10_comesTo_79 1 rfl ?_
        refine dz_bipush (pc := 81) (v := (16 : Int32)) C dX10_comesTo_81 (by decide) ?_
        refine dz_icmp_ne (pc := 83) (t := 102) C dX10_comesTo_83 (by decide) h (fun h => ?_) (fun h => ?_)
        · refine dz_iload (pc := 102) C dX10_comesTo_102 1 rfl ?_
          refine dz_bipush (pc := 104) (v := (20 : Int32)) C dX10_comesTo_104 (by decide) ?_
          refine dz_icmp_ne (pc := 106) (t := 130) C dX10_comesTo_106 (by decide) h (fun h => ?_) (fun h => ?_)
          · refine dz_iinc (pc := 130) (v := (x3 + (-1 : Int32))) C dX10_comesTo_130 4 rfl rfl (by decide) rfl ?_
            refine dz_aload_n (pc := 133) C dX10_comesTo_133 rfl 3 rfl ?_
            refine dz_getR (pc := 134) (k := 18) (j := 14) C Fc_X10 hk_18 (by decide) (by decide) rfl fl_X10_46 dX10_comesTo_134 ?_
            refine dz_iload_n (pc := 137) C dX10_comesTo_137 rfl 0 rfl ?_
            refine dz_iconst (pc := 138) (v := (1 : Int32)) C dX10_comesTo_138 (by decide) ?_
            refine dz_isub (pc := 139) C dX10_comesTo_139 ?_
            refine dz_iload (pc := 140) C dX10_comesTo_140 2 rfl ?_
            refine dz_aload_n (pc := 142) C dX10_comesTo_142 rfl 3 rfl ?_
            refine dz_getR (pc := 143) (k := 18) (j := 14) C Fc_X10 hk_18 (by decide) (by decide) rfl fl_X10_46 dX10_comesTo_143 ?_
            refine dz_iload_n (pc := 146) C dX10_comesTo_146 rfl 0 rfl ?_
            refine dz_iconst (pc := 147) (v := (1 : Int32)) C dX10_comesTo_147 (by decide) ?_
            refine dz_isub (pc := 148) C dX10_comesTo_148 ?_
            refine dz_iald (pc := 149) (k := 18) (j := 14) (n := 420) (f := (T 14)) C hk_18 (by decide) rfl (dt_rAf _ _ _ _) dX10_comesTo_149 h (fun a4 h => ?_)
            refine dz_aload_n (pc := 150) C dX10_comesTo_150 rfl 3 rfl ?_
            refine dz_getR (pc := 151) (k := 18) (j := 14) C Fc_X10 hk_18 (by decide) (by decide) rfl fl_X10_46 dX10_comesTo_151 ?_
            refine dz_iload_n (pc := 154) C dX10_comesTo_154 rfl 0 rfl ?_
            refine dz_iald (pc := 155) (k := 18) (j := 14) (n := 420) (f := (T 14)) C hk_18 (by decide) rfl (dt_rAf _ _ _ _) dX10_comesTo_155 h (fun a5 h => ?_)
            obtain ⟨q6, eq6, h⟩ := dt_bind h
            refine dz_callSi (pc := 156) (st := [.int ((x3 + (-1 : Int32)) - (1 : Int32)), .ref (G.1 18 (14 + 1))]) (As := [.int ((T 0) a2), .int ((T 14) a4), .int ((T 14) a5)]) (M' := (dt_put M 18 T)) C ms_X10_both ml_X10_292 (m_X10_both l _ _ _ _ eq6) rfl rfl (by omega) (by decide) (Nat.le_of_ble_eq_true rfl) dX10_comesTo_156 ?_
            refine dz_iast (pc := 159) (k := 18) (j := 14) (n := 420) (M' := fun a7 => (dt_put M 18 (dt_set T 14 a7 q6))) C hk_18 (by decide) rfl (fun a7 => (dt_wA _ _ _ _ _ _)) dX10_comesTo_159 h (fun a7 h => ?_)
            refine dz_sub [3, 4, 0, 5] rfl ?_
            exact tX10_comesTo_160 C hr ih x2 (x3 + (-1 : Int32)) x4 (dt_set T 14 a7 q6) h
          · refine dz_aload_n (pc := 109) C dX10_comesTo_109 rfl 2 rfl ?_
            refine dz_getR (pc := 110) (k := 18) (j := 14) C Fc_X10 hk_18 (by decide) (by decide) rfl fl_X10_46 dX10_comesTo_110 ?_
            refine dz_iload_n (pc := 113) C dX10_comesTo_113 rfl 4 rfl ?_
            refine dz_iconst (pc := 114) (v := (1 : Int32)) C dX10_comesTo_114 (by decide) ?_
            refine dz_isub (pc := 115) C dX10_comesTo_115 ?_
            refine dz_iconst (pc := 116) (v := (1 : Int32)) C dX10_comesTo_116 (by decide) ?_
            refine dz_aload_n (pc := 117) C dX10_comesTo_117 rfl 2 rfl ?_
            refine dz_getR (pc := 118) (k := 18) (j := 14) C Fc_X10 hk_18 (by decide) (by decide) rfl fl_X10_46 dX10_comesTo_118 ?_
            refine dz_iload_n (pc := 121) C dX10_comesTo_121 rfl 4 rfl ?_
            refine dz_iconst (pc := 122) (v := (1 : Int32)) C dX10_comesTo_122 (by decide) ?_
            refine dz_isub (pc := 123) C dX10_comesTo_123 ?_
            refine dz_iald (pc := 124) (k := 18) (j := 14) (n := 420) (f := (T 14)) C hk_18 (by decide) rfl (dt_rAf _ _ _ _) dX10_comesTo_124 h (fun a8 h => ?_)
            refine dz_isub (pc := 125) C dX10_comesTo_125 ?_
            refine dz_iast (pc := 126) (k := 18) (j := 14) (n := 420) (M' := fun a9 => (dt_put M 18 (dt_set T 14 a9 ((1 : Int32) - ((T 14) a8))))) C hk_18 (by decide) rfl (fun a9 => (dt_wA _ _ _ _ _ _)) dX10_comesTo_126 h (fun a9 h => ?_)
            refine dz_goto (pc := 127) (t := 160) C dX10_comesTo_127 (by decide) ?_
            refine dz_sub [2, 3, 4, 5] rfl ?_
            exact tX10_comesTo_160 C hr ih x2 x3 x4 (dt_set T 14 a9 ((1 : Int32) - ((T 14) a8))) h
        · refine dz_aload_n (pc := 86) C dX10_comesTo_86 rfl 2 rfl ?_
          refine dz_getR (pc := 87) (k := 18) (j := 14) C Fc_X10 hk_18 (by decide) (by decide) rfl fl_X10_46 dX10_comesTo_87 ?_
          refine dz_iload_n (pc := 90) C dX10_comesTo_90 rfl 4 rfl ?_
          refine dz_iconst (pc := 91) (v := (1 : Int32)) C dX10_comesTo_91 (by decide) ?_
          refine dz_isub (pc := 92) C dX10_comesTo_92 ?_
          refine dz_dup2 (pc := 93) C dX10_comesTo_93 rfl rfl ?_
          refine dz_iald (pc := 94) (k := 18) (j := 14) (n := 420) (f := (T 14)) C hk_18 (by decide) rfl (dt_rAf _ _ _ _) dX10_comesTo_94 h (fun a10 h => ?_)
          refine dz_iload (pc := 95) C dX10_comesTo_95 0 rfl ?_
          refine dz_idiv (pc := 97) C dX10_comesTo_97 h (fun h => ?_)
          refine dz_iast (pc := 98) (k := 18) (j := 14) (n := 420) (M' := fun a11 => (dt_put M 18 (dt_set T 14 a11 (((T 14) a10) / ((T 0) a3))))) C hk_18 (by decide) rfl (fun a11 => (dt_wA _ _ _ _ _ _)) dX10_comesTo_98 h (fun a11 h => ?_)
          refine dz_goto (pc := 99) (t := 160) C dX10_comesTo_99 (by decide) ?_
          refine dz_sub [2, 3, 4, 5] rfl ?_
          exact tX10_comesTo_160 C hr ih x2 x3 x4 (dt_set T 14 a11 (((T 14) a10) / ((T 0) a3))) h
      · refine dz_aload_n (pc := 50) C dX10_comesTo_50 rfl 2 rfl ?_
        refine dz_getR (pc := 51) (k := 18) (j := 14) C Fc_X10 hk_18 (by decide) (by decide) rfl fl_X10_46 dX10_comesTo_51 ?_
        refine dz_iload_n (pc := 54) C dX10_comesTo_54 rfl 4 rfl ?_
        refine dz_iload (pc := 55) C dX10_comesTo_55 1 rfl ?_
        refine dz_if_ne (pc := 57) (t := 65) C dX10_comesTo_57 (by decide) h (fun h => ?_) (fun h => ?_)
        · refine dz_aload_n (pc := 65) C dX10_comesTo_65 rfl 2 rfl ?_
          refine dz_getR (pc := 66) (k := 18) (j := 15) C Fc_X10 hk_18 (by decide) (by decide) rfl fl_X10_49 dX10_comesTo_66 ?_
          refine dz_iload (pc := 69) C dX10_comesTo_69 1 rfl ?_
          refine dz_iald (pc := 71) (k := 18) (j := 15) (n := 8) (f := (T 15)) C hk_18 (by decide) rfl (dt_rAf _ _ _ _) dX10_comesTo_71 h (fun a12 h => ?_)
          refine dz_sub [2, 3, 4, 5] rfl ?_
          exact tX10_comesTo_72 C hr ih x2 x3 x4 x3 ((T 15) a12) T h
        · refine dz_iload (pc := 60) C dX10_comesTo_60 0 rfl ?_
          refine dz_goto (pc := 62) (t := 72) C dX10_comesTo_62 (by decide) ?_
          refine dz_sub [2, 3, 4, 5] rfl ?_
          exact tX10_comesTo_72 C hr ih x2 x3 x4 x3 ((T 0) a3) T h
def fX10_comesTo  (x1 : Int32) (x2 : Int32) (T : dt_Ob) : Option (Int32 × dt_Ob) := (fX10_comesTo_5 dt_F x2 (0 : Int32) x1 T)
set_option maxRecDepth 10000 in
set_option maxHeartbeats 4000000 in
theorem m_X10_comesTo (l : Launch)  (M : dt_M) (T : dt_Ob)  (x1 : Int32) (x2 : Int32) {res : Int32 × dt_Ob} (h : fX10_comesTo x1 x2 T = some res) : dt_Met 1 l yX10_comesTo cX10_comesTo 7 (some .int) 2 (fun G => [.ref (G.1 18 0), .int x1, .int x2]) (dt_put M 18 T) (some (.int res.1)) (dt_put M 18 res.2) := by
  refine dz_enter (lv := fun G => [(0, .ref (G.1 18 0)), (1, .int x1), (2, .int x2)]) (by decide) (fun _ => rfl) (fun _ => Nat.le_of_ble_eq_true rfl) (fun G A p e s m args below meth c C hr => ?_)
  unfold fX10_comesTo at h
  refine dz_iconst (pc := 0) (v := (0 : Int32)) C dX10_comesTo_0 (by decide) ?_
  refine dz_istore_n (pc := 1) C dX10_comesTo_1 rfl (by decide) rfl ?_
  refine dz_iload_n (pc := 2) C dX10_comesTo_2 rfl 2 rfl ?_
  refine dz_istore (pc := 3) C dX10_comesTo_3 (by decide) rfl ?_
  refine dz_sub [2, 4, 1, 0] rfl ?_
  exact tX10_comesTo_5 C hr dt_F x2 (0 : Int32) x1 T h

def fX10_inTower_30 (r4 : Int32 → Int32 → dt_Ob → Option (Int32)) (x2 : Int32) (s0 : Int32) (s1 : Int32) (T : dt_Ob) : Option (Int32) := (r4 (s0 + s1) (x2 + (1 : Int32)) T)
set_option maxRecDepth 10000 in
set_option maxHeartbeats 4000000 in
theorem tX10_inTower_30 {G : dt_G} {A : Nat → Prop} {p : Program} {l : Launch} {e : Env} {s : State} {m : MethodId} {args : Array Value} {below : List Frame} {meth : Method} {c : Code} (C : dt_Cx 1 G A p s m args meth c cX10_inTower 3 RX10) (hr : meth.sig.returnType = (some .int)) {M : dt_M} {res : Int32} {r4 : Int32 → Int32 → dt_Ob → Option (Int32)} (hr4 : ∀ (x1 : Int32) (x2 : Int32) (T : dt_Ob), r4 x1 x2 T = some res → dt_At G A p l e (dt_rm 2) s m args below meth c 3 (MQ below (dt_Post G A (some (.int res)) (dt_put M 18 T)) args s 0 0 A) 4 [(0, .ref (G.1 18 0)), (1, .int x1), (2, .int x2)] [] (dt_put M 18 T)) : ∀ (x2 : Int32) (s0 : Int32) (s1 : Int32) (T : dt_Ob), fX10_inTower_30 r4 x2 s0 s1 T = some res → dt_At G A p l e (dt_rm 2) s m args below meth c 3 (MQ below (dt_Post G A (some (.int res)) (dt_put M 18 T)) args s 0 0 A) 30 [(0, .ref (G.1 18 0)), (2, .int x2)] [.int s1, .int s0] (dt_put M 18 T) := by
  intro x2 s0 s1 T h
  unfold fX10_inTower_30 at h
  refine dz_iadd (pc := 30) C dX10_inTower_30 ?_
  refine dz_istore_n (pc := 31) C dX10_inTower_31 rfl (by decide) rfl ?_
  refine dz_iinc (pc := 32) (v := (x2 + (1 : Int32))) C dX10_inTower_32 2 rfl rfl (by decide) rfl ?_
  refine dz_goto (pc := 35) (t := 4) C dX10_inTower_35 (by decide) ?_
  refine dz_sub [2, 1, 0] rfl ?_
  exact hr4 (s0 + s1) (x2 + (1 : Int32)) T h
def fX10_inTower_4  : Nat → Int32 → Int32 → dt_Ob → Option (Int32)
  | 0, _, _, _ => none
  | n + 1, x1, x2, T => ((dt_ix (1 : Int32) 1225).bind fun a1 => (if ((T 0) a1) ≤ x2 then (some x1) else ((fX10_own x2 (5 : Int32) T).bind fun q2 => (if q2 = (-1 : Int32) then (fX10_inTower_30 (fX10_inTower_4 n) x2 x1 (0 : Int32) T) else (fX10_inTower_30 (fX10_inTower_4 n) x2 x1 (1 : Int32) T)))))
set_option maxRecDepth 10000 in
set_option maxHeartbeats 4000000 in
theorem tX10_inTower_4 {G : dt_G} {A : Nat → Prop} {p : Program} {l : Launch} {e : Env} {s : State} {m : MethodId} {args : Array Value} {below : List Frame} {meth : Method} {c : Code} (C : dt_Cx 1 G A p s m args meth c cX10_inTower 3 RX10) (hr : meth.sig.returnType = (some .int)) {M : dt_M} {res : Int32}  : ∀ (n : Nat) (x1 : Int32) (x2 : Int32) (T : dt_Ob), fX10_inTower_4 n x1 x2 T = some res → dt_At G A p l e (dt_rm 2) s m args below meth c 3 (MQ below (dt_Post G A (some (.int res)) (dt_put M 18 T)) args s 0 0 A) 4 [(0, .ref (G.1 18 0)), (1, .int x1), (2, .int x2)] [] (dt_put M 18 T) := by
  intro n
  induction n with
  | zero =>
    intro x1 x2 T h
    unfold fX10_inTower_4 at h
    cases h
  | succ n ih =>
    intro x1 x2 T h
    unfold fX10_inTower_4 at h
    refine dz_iload_n (pc := 4) C dX10_inTower_4 rfl 2 rfl ?_
    refine dz_aload_n (pc := 5) C dX10_inTower_5 rfl 0 rfl ?_
    refine dz_getR (pc := 6) (k := 18) (j := 0) C Fc_X10 hk_18 (by decide) (by decide) rfl fl_X10_7 dX10_inTower_6 ?_
    refine dz_iconst (pc := 9) (v := (1 : Int32)) C dX10_inTower_9 (by decide) ?_
    refine dz_iald (pc := 10) (k := 18) (j := 0) (n := 1225) (f := (T 0)) C hk_18 (by decide) rfl (dt_rAf _ _ _ _) dX10_inTower_10 h (fun a1 h => ?_)
    refine dz_icmp_ge (pc := 11) (t := 38) C dX10_inTower_11 (by decide) h (fun h => ?_) (fun h => ?_)
    · refine dz_iload_n (pc := 38) C dX10_inTower_38 rfl 1 rfl ?_
      cases dt_some h
      exact dz_iret (pc := 39) C hr dX10_inTower_39
    · refine dz_iload_n (pc := 14) C dX10_inTower_14 rfl 1 rfl ?_
      refine dz_aload_n (pc := 15) C dX10_inTower_15 rfl 0 rfl ?_
      refine dz_iload_n (pc := 16) C dX10_inTower_16 rfl 2 rfl ?_
      refine dz_iconst (pc := 17) (v := (5 : Int32)) C dX10_inTower_17 (by decide) ?_
      obtain ⟨q2, eq2, h⟩ := dt_bind h
      refine dz_callVi (pc := 18) (st := [.int x1]) (k := 18) (As := [.int x2, .int (5 : Int32)]) (M' := (dt_put M 18 T)) C Fc_X10 hk_18 mf_X10_own rfl ml_X10_94 (m_X10_own l _ _ _ _ eq2) rfl rfl (by omega) (by decide) (Nat.le_of_ble_eq_true rfl) dX10_inTower_18 ?_
      refine dz_iconst (pc := 21) (v := (-1 : Int32)) C dX10_inTower_21 (by decide) ?_
      refine dz_icmp_eq (pc := 22) (t := 29) C dX10_inTower_22 (by decide) h (fun h => ?_) (fun h => ?_)
      · refine dz_iconst (pc := 29) (v := (0 : Int32)) C dX10_inTower_29 (by decide) ?_
        refine dz_sub [0, 2] rfl ?_
        exact tX10_inTower_30 C hr ih x2 x1 (0 : Int32) T h
      · refine dz_iconst (pc := 25) (v := (1 : Int32)) C dX10_inTower_25 (by decide) ?_
        refine dz_goto (pc := 26) (t := 30) C dX10_inTower_26 (by decide) ?_
        refine dz_sub [0, 2] rfl ?_
        exact tX10_inTower_30 C hr ih x2 x1 (1 : Int32) T h
def fX10_inTower  (T : dt_Ob) : Option (Int32) := (fX10_inTower_4 dt_F (0 : Int32) (0 : Int32) T)
set_option maxRecDepth 10000 in
set_option maxHeartbeats 4000000 in
theorem m_X10_inTower (l : Launch)  (M : dt_M) (T : dt_Ob)   {res : Int32} (h : fX10_inTower T = some res) : dt_Met 1 l yX10_inTower cX10_inTower 3 (some .int) 2 (fun G => [.ref (G.1 18 0)]) (dt_put M 18 T) (some (.int res)) (dt_put M 18 T) := by
  refine dz_enter (lv := fun G => [(0, .ref (G.1 18 0))]) (by decide) (fun _ => rfl) (fun _ => Nat.le_of_ble_eq_true rfl) (fun G A p e s m args below meth c C hr => ?_)
  unfold fX10_inTower at h
  refine dz_iconst (pc := 0) (v := (0 : Int32)) C dX10_inTower_0 (by decide) ?_
  refine dz_istore_n (pc := 1) C dX10_inTower_1 rfl (by decide) rfl ?_
  refine dz_iconst (pc := 2) (v := (0 : Int32)) C dX10_inTower_2 (by decide) ?_
  refine dz_istore_n (pc := 3) C dX10_inTower_3 rfl (by decide) rfl ?_
  refine dz_sub [2, 1, 0] rfl ?_
  exact tX10_inTower_4 C hr dt_F (0 : Int32) (0 : Int32) T h

def fX10_topOne_48 (r4 : Int32 → Int32 → dt_Ob → Option (Int32)) (x1 : Int32) (x2 : Int32) (T : dt_Ob) : Option (Int32) := (r4 x1 (x2 + (1 : Int32)) T)
set_option maxRecDepth 10000 in
set_option maxHeartbeats 4000000 in
theorem tX10_topOne_48 {G : dt_G} {A : Nat → Prop} {p : Program} {l : Launch} {e : Env} {s : State} {m : MethodId} {args : Array Value} {below : List Frame} {meth : Method} {c : Code} (C : dt_Cx 1 G A p s m args meth c cX10_topOne 3 RX10) (hr : meth.sig.returnType = (some .int)) {M : dt_M} {res : Int32} {r4 : Int32 → Int32 → dt_Ob → Option (Int32)} (hr4 : ∀ (x1 : Int32) (x2 : Int32) (T : dt_Ob), r4 x1 x2 T = some res → dt_At G A p l e (dt_rm 2) s m args below meth c 3 (MQ below (dt_Post G A (some (.int res)) (dt_put M 18 T)) args s 0 0 A) 4 [(0, .ref (G.1 18 0)), (1, .int x1), (2, .int x2)] [] (dt_put M 18 T)) : ∀ (x1 : Int32) (x2 : Int32) (T : dt_Ob), fX10_topOne_48 r4 x1 x2 T = some res → dt_At G A p l e (dt_rm 2) s m args below meth c 3 (MQ below (dt_Post G A (some (.int res)) (dt_put M 18 T)) args s 0 0 A) 48 [(0, .ref (G.1 18 0)), (1, .int x1), (2, .int x2)] [] (dt_put M 18 T) := by
  intro x1 x2 T h
  unfold fX10_topOne_48 at h
  refine dz_iinc (pc := 48) (v := (x2 + (1 : Int32))) C dX10_topOne_48 2 rfl rfl (by decide) rfl ?_
  refine dz_goto (pc := 51) (t := 4) C dX10_topOne_51 (by decide) ?_
  refine dz_sub [1, 2, 0] rfl ?_
  exact hr4 x1 (x2 + (1 : Int32)) T h
def fX10_topOne_46 (r4 : Int32 → Int32 → dt_Ob → Option (Int32)) (x2 : Int32) (T : dt_Ob) : Option (Int32) := (fX10_topOne_48 r4 x2 x2 T)
set_option maxRecDepth 10000 in
set_option maxHeartbeats 4000000 in
theorem tX10_topOne_46 {G : dt_G} {A : Nat → Prop} {p : Program} {l : Launch} {e : Env} {s : State} {m : MethodId} {args : Array Value} {below : List Frame} {meth : Method} {c : Code} (C : dt_Cx 1 G A p s m args meth c cX10_topOne 3 RX10) (hr : meth.sig.returnType = (some .int)) {M : dt_M} {res : Int32} {r4 : Int32 → Int32 → dt_Ob → Option (Int32)} (hr4 : ∀ (x1 : Int32) (x2 : Int32) (T : dt_Ob), r4 x1 x2 T = some res → dt_At G A p l e (dt_rm 2) s m args below meth c 3 (MQ below (dt_Post G A (some (.int res)) (dt_put M 18 T)) args s 0 0 A) 4 [(0, .ref (G.1 18 0)), (1, .int x1), (2, .int x2)] [] (dt_put M 18 T)) : ∀ (x2 : Int32) (T : dt_Ob), fX10_topOne_46 r4 x2 T = some res → dt_At G A p l e (dt_rm 2) s m args below meth c 3 (MQ below (dt_Post G A (some (.int res)) (dt_put M 18 T)) args s 0 0 A) 46 [(0, .ref (G.1 18 0)), (2, .int x2)] [] (dt_put M 18 T) := by
  intro x2 T h
  unfold fX10_topOne_46 at h
  refine dz_iload_n (pc := 46) C dX10_topOne_46 rfl 1 rfl ?_
  refine dz_istore_n (pc := 47) C dX10_topOne_47 rfl (by decide) rfl ?_
  refine dz_sub [1, 0, 2] rfl ?_
  exact tX10_topOne_48 C hr hr4 x2 x2 T h
def fX10_topOne_4  : Nat → Int32 → Int32 → dt_Ob → Option (Int32)
  | 0, _, _, _ => none
  | n + 1, x1, x2, T => ((dt_ix (1 : Int32) 1225).bind fun a1 => (if ((T 0) a1) ≤ x2 then (some x1) else ((fX10_own x2 (5 : Int32) T).bind fun q2 => (if q2 = (-1 : Int32) then (fX10_topOne_48 (fX10_topOne_4 n) x1 x2 T) else (if x1 = (-1 : Int32) then (fX10_topOne_46 (fX10_topOne_4 n) x2 T) else ((fX10_own x2 (6 : Int32) T).bind fun q3 => ((fX10_own x1 (6 : Int32) T).bind fun q4 => (if q3 ≤ q4 then (fX10_topOne_48 (fX10_topOne_4 n) x1 x2 T) else (fX10_topOne_46 (fX10_topOne_4 n) x2 T)))))))))
set_option maxRecDepth 10000 in
set_option maxHeartbeats 4000000 in
theorem tX10_topOne_4 {G : dt_G} {A : Nat → Prop} {p : Program} {l : Launch} {e : Env} {s : State} {m : MethodId} {args : Array Value} {below : List Frame} {meth : Method} {c : Code} (C : dt_Cx 1 G A p s m args meth c cX10_topOne 3 RX10) (hr : meth.sig.returnType = (some .int)) {M : dt_M} {res : Int32}  : ∀ (n : Nat) (x1 : Int32) (x2 : Int32) (T : dt_Ob), fX10_topOne_4 n x1 x2 T = some res → dt_At G A p l e (dt_rm 2) s m args below meth c 3 (MQ below (dt_Post G A (some (.int res)) (dt_put M 18 T)) args s 0 0 A) 4 [(0, .ref (G.1 18 0)), (1, .int x1), (2, .int x2)] [] (dt_put M 18 T) := by
  intro n
  induction n with
  | zero =>
    intro x1 x2 T h
    unfold fX10_topOne_4 at h
    cases h
  | succ n ih =>
    intro x1 x2 T h
    unfold fX10_topOne_4 at h
    refine dz_iload_n (pc := 4) C dX10_topOne_4 rfl 2 rfl ?_
    refine dz_aload_n (pc := 5) C dX10_topOne_5 rfl 0 rfl ?_
    refine dz_getR (pc := 6) (k := 18) (j := 0) C Fc_X10 hk_18 (by decide) (by decide) rfl fl_X10_7 dX10_topOne_6 ?_
    refine dz_iconst (pc := 9) (v := (1 : Int32)) C dX10_topOne_9 (by decide) ?_
    refine dz_iald (pc := 10) (k := 18) (j := 0) (n := 1225) (f := (T 0)) C hk_18 (by decide) rfl (dt_rAf _ _ _ _) dX10_topOne_10 h (fun a1 h => ?_)
    refine dz_icmp_ge (pc := 11) (t := 54) C dX10_topOne_11 (by decide) h (fun h => ?_) (fun h => ?_)
    · refine dz_iload_n (pc := 54) C dX10_topOne_54 rfl 1 rfl ?_
      cases dt_some h
      exact dz_iret (pc := 55) C hr dX10_topOne_55
    · refine dz_aload_n (pc := 14) C dX10_topOne_14 rfl 0 rfl ?_
      refine dz_iload_n (pc := 15) C dX10_topOne_15 rfl 2 rfl ?_
      refine dz_iconst (pc := 16) (v := (5 : Int32)) C dX10_topOne_16 (by decide) ?_
      obtain ⟨q2, eq2, h⟩ := dt_bind h
      refine dz_callVi (pc := 17) (st := []) (k := 18) (As := [.int x2, .int (5 : Int32)]) (M' := (dt_put M 18 T)) C Fc_X10 hk_18 mf_X10_own rfl ml_X10_94 (m_X10_own l _ _ _ _ eq2) rfl rfl (by omega) (by decide) (Nat.le_of_ble_eq_true rfl) dX10_topOne_17 ?_
      refine dz_iconst (pc := 20) (v := (-1 : Int32)) C dX10_topOne_20 (by decide) ?_
      refine dz_icmp_eq (pc := 21) (t := 48) C dX10_topOne_21 (by decide) h (fun h => ?_) (fun h => ?_)
      · exact tX10_topOne_48 C hr ih x1 x2 T h
      · refine dz_iload_n (pc := 24) C dX10_topOne_24 rfl 1 rfl ?_
        refine dz_iconst (pc := 25) (v := (-1 : Int32)) C dX10_topOne_25 (by decide) ?_
        refine dz_icmp_eq (pc := 26) (t := 46) C dX10_topOne_26 (by decide) h (fun h => ?_) (fun h => ?_)
        · refine dz_sub [0, 2] rfl ?_
          exact tX10_topOne_46 C hr ih x2 T h
        · refine dz_aload_n (pc := 29) C dX10_topOne_29 rfl 0 rfl ?_
          refine dz_iload_n (pc := 30) C dX10_topOne_30 rfl 2 rfl ?_
          refine dz_bipush (pc := 31) (v := (6 : Int32)) C dX10_topOne_31 (by decide) ?_
          obtain ⟨q3, eq3, h⟩ := dt_bind h
          refine dz_callVi (pc := 33) (st := []) (k := 18) (As := [.int x2, .int (6 : Int32)]) (M' := (dt_put M 18 T)) C Fc_X10 hk_18 mf_X10_own rfl ml_X10_94 (m_X10_own l _ _ _ _ eq3) rfl rfl (by omega) (by decide) (Nat.le_of_ble_eq_true rfl) dX10_topOne_33 ?_
          refine dz_aload_n (pc := 36) C dX10_topOne_36 rfl 0 rfl ?_
          refine dz_iload_n (pc := 37) C dX10_topOne_37 rfl 1 rfl ?_
          refine dz_bipush (pc := 38) (v := (6 : Int32)) C dX10_topOne_38 (by decide) ?_
          obtain ⟨q4, eq4, h⟩ := dt_bind h
          refine dz_callVi (pc := 40) (st := [.int q3]) (k := 18) (As := [.int x1, .int (6 : Int32)]) (M' := (dt_put M 18 T)) C Fc_X10 hk_18 mf_X10_own rfl ml_X10_94 (m_X10_own l _ _ _ _ eq4) rfl rfl (by omega) (by decide) (Nat.le_of_ble_eq_true rfl) dX10_topOne_40 ?_
          refine dz_icmp_le (pc := 43) (t := 48) C dX10_topOne_43 (by decide) h (fun h => ?_) (fun h => ?_)
          · exact tX10_topOne_48 C hr ih x1 x2 T h
          · refine dz_sub [0, 2] rfl ?_
            exact tX10_topOne_46 C hr ih x2 T h
def fX10_topOne  (T : dt_Ob) : Option (Int32) := (fX10_topOne_4 dt_F (-1 : Int32) (0 : Int32) T)
set_option maxRecDepth 10000 in
set_option maxHeartbeats 4000000 in
theorem m_X10_topOne (l : Launch)  (M : dt_M) (T : dt_Ob)   {res : Int32} (h : fX10_topOne T = some res) : dt_Met 1 l yX10_topOne cX10_topOne 3 (some .int) 2 (fun G => [.ref (G.1 18 0)]) (dt_put M 18 T) (some (.int res)) (dt_put M 18 T) := by
  refine dz_enter (lv := fun G => [(0, .ref (G.1 18 0))]) (by decide) (fun _ => rfl) (fun _ => Nat.le_of_ble_eq_true rfl) (fun G A p e s m args below meth c C hr => ?_)
  unfold fX10_topOne at h
  refine dz_iconst (pc := 0) (v := (-1 : Int32)) C dX10_topOne_0 (by decide) ?_
  refine dz_istore_n (pc := 1) C dX10_topOne_1 rfl (by decide) rfl ?_
  refine dz_iconst (pc := 2) (v := (0 : Int32)) C dX10_topOne_2 (by decide) ?_
  refine dz_istore_n (pc := 3) C dX10_topOne_3 rfl (by decide) rfl ?_
  refine dz_sub [2, 1, 0] rfl ?_
  exact tX10_topOne_4 C hr dt_F (-1 : Int32) (0 : Int32) T h

def fX10_judges_178 (r108 : Int32 → Int32 → dt_Ob → Option (Int32 × dt_Ob)) (x1 : Int32) (x3 : Int32) (T : dt_Ob) : Option (Int32 × dt_Ob) := (r108 x1 (x3 + (1 : Int32)) T)
set_option maxRecDepth 10000 in
set_option maxHeartbeats 4000000 in
theorem tX10_judges_178 {G : dt_G} {A : Nat → Prop} {p : Program} {l : Launch} {e : Env} {s : State} {m : MethodId} {args : Array Value} {below : List Frame} {meth : Method} {c : Code} (C : dt_Cx 1 G A p s m args meth c cX10_judges 4 RX10) (hr : meth.sig.returnType = (some .int)) {M : dt_M} {res : Int32 × dt_Ob} {r108 : Int32 → Int32 → dt_Ob → Option (Int32 × dt_Ob)} (hr108 : ∀ (x1 : Int32) (x3 : Int32) (T : dt_Ob), r108 x1 x3 T = some res → dt_At G A p l e (dt_rm 3) s m args below meth c 4 (MQ below (dt_Post G A (some (.int res.1)) (dt_put M 18 res.2)) args s 0 0 A) 108 [(0, .ref (G.1 18 0)), (1, .int x1), (3, .int x3)] [] (dt_put M 18 T)) : ∀ (x1 : Int32) (x3 : Int32) (T : dt_Ob), fX10_judges_178 r108 x1 x3 T = some res → dt_At G A p l e (dt_rm 3) s m args below meth c 4 (MQ below (dt_Post G A (some (.int res.1)) (dt_put M 18 res.2)) args s 0 0 A) 178 [(0, .ref (G.1 18 0)), (1, .int x1), (3, .int x3)] [] (dt_put M 18 T) := by
  intro x1 x3 T h
  unfold fX10_judges_178 at h
  refine dz_iinc (pc := 178) (v := (x3 + (1 : Int32))) C dX10_judges_178 2 rfl rfl (by decide) rfl ?_
  refine dz_goto (pc := 181) (t := 108) C dX10_judges_181 (by decide) ?_
  refine dz_sub [1, 2, 0] rfl ?_
  exact hr108 x1 (x3 + (1 : Int32)) T h
def fX10_judges_108  : Nat → Int32 → Int32 → dt_Ob → Option (Int32 × dt_Ob)
  | 0, _, _, _ => none
  | n + 1, x1, x3, T => ((dt_ix (340 : Int32) 1225).bind fun a17 => (if ((T 0) a17) ≤ x3 then (some ((-1 : Int32), T)) else ((dt_ix ((345 : Int32) + x3) 1225).bind fun a18 => (if ((T 0) a18) = x1 then ((dt_ix ((365 : Int32) + x3) 1225).bind fun a19 => ((dt_ix ((385 : Int32) + x3) 1225).bind fun a20 => ((fX10_comesTo ((T 0) a19) ((T 0) a20) T).bind fun q21 => (if q21.1 = (1 : Int32) then (fX10_judges_178 (fX10_judges_108 n) x1 x3 q21.2) else ((dt_ix (7 : Int32) 1225).bind fun a22 => ((dt_ix (7 : Int32) 1225).bind fun a23 => (some (x3, (dt_set q21.2 0 a23 (((q21.2 0) a22) + (1 : Int32))))))))))) else (fX10_judges_178 (fX10_judges_108 n) x1 x3 T)))))
set_option maxRecDepth 10000 in
set_option maxHeartbeats 4000000 in
theorem tX10_judges_108 {G : dt_G} {A : Nat → Prop} {p : Program} {l : Launch} {e : Env} {s : State} {m : MethodId} {args : Array Value} {below : List Frame} {meth : Method} {c : Code} (C : dt_Cx 1 G A p s m args meth c cX10_judges 4 RX10) (hr : meth.sig.returnType = (some .int)) {M : dt_M} {res : Int32 × dt_Ob}  : ∀ (n : Nat) (x1 : Int32) (x3 : Int32) (T : dt_Ob), fX10_judges_108 n x1 x3 T = some res → dt_At G A p l e (dt_rm 3) s m args below meth c 4 (MQ below (dt_Post G A (some (.int res.1)) (dt_put M 18 res.2)) args s 0 0 A) 108 [(0, .ref (G.1 18 0)), (1, .int x1), (3, .int x3)] [] (dt_put M 18 T) := by
  intro n
  induction n with
  | zero =>
    intro x1 x3 T h
    unfold fX10_judges_108 at h
    cases h
  | succ n ih =>
    intro x1 x3 T h
    unfold fX10_judges_108 at h
    refine dz_iload_n (pc := 108) C dX10_judges_108 rfl 2 rfl ?_
    refine dz_aload_n (pc := 109) C dX10_judges_109 rfl 0 rfl ?_
    refine dz_getR (pc := 110) (k := 18) (j := 0) C Fc_X10 hk_18 (by decide) (by decide) rfl fl_X10_7 dX10_judges_110 ?_
    refine dz_sipush (pc := 113) (v := (340 : Int32)) C dX10_judges_113 (by decide) ?_
    refine dz_iald (pc := 116) (k := 18) (j := 0) (n := 1225) (f := (T 0)) C hk_18 (by decide) rfl (dt_rAf _ _ _ _) dX10_judges_116 h (fun a17 h => ?_)
    refine dz_icmp_ge (pc := 117) (t := 184) C dX10_judges_117 (by decide) h (fun h => ?_) (fun h => ?_)
    · refine dz_iconst (pc := 184) (v := (-1 : Int32)) C dX10_judges_184 (by decide) ?_
      cases dt_some h
      exact dz_iret (pc := 185) C hr dX10_judges_185
    · refine dz_aload_n (pc := 120) C dX10_judges_120 rfl 0 rfl ?_
      refine dz_getR (pc := 121) (k := 18) (j := 0) C Fc_X10 hk_18 (by decide) (by decide) rfl fl_X10_7 dX10_judges_121 ?_
      refine dz_sipush (pc := 124) (v := (345 : Int32)) C dX10_judges_124 (by decide) ?_
      refine dz_iload_n (pc := 127) C dX10_judges_127 rfl 2 rfl ?_
      refine dz_iadd (pc := 128) C dX10_judges_128 ?_
      refine dz_iald (pc := 129) (k := 18) (j := 0) (n := 1225) (f := (T 0)) C hk_18 (by decide) rfl (dt_rAf _ _ _ _) dX10_judges_129 h (fun a18 h => ?_)
      refine dz_iload_n (pc := 130) C dX10_judges_130 rfl 1 rfl ?_
      refine dz_icmp_ne (pc := 131) (t := 178) C dX10_judges_131 (by decide) h (fun h => ?_) (fun h => ?_)
      · exact tX10_judges_178 C hr ih x1 x3 T h
      · refine dz_aload_n (pc := 134) C dX10_judges_134 rfl 0 rfl ?_
        refine dz_aload_n (pc := 135) C dX10_judges_135 rfl 0 rfl ?_
        refine dz_getR (pc := 136) (k := 18) (j := 0) C Fc_X10 hk_18 (by decide) (by decide) rfl fl_X10_7 dX10_judges_136 ?_
        refine dz_sipush (pc := 139) (v := (365 : Int32)) C dX10_judges_139 (by decide) ?_
        refine dz_iload_n (pc := 142) C dX10_judges_142 rfl 2 rfl ?_
        refine dz_iadd (pc := 143) C dX10_judges_143 ?_
        refine dz_iald (pc := 144) (k := 18) (j := 0) (n := 1225) (f := (T 0)) C hk_18 (by decide) rfl (dt_rAf _ _ _ _) dX10_judges_144 h (fun a19 h => ?_)
        refine dz_aload_n (pc := 145) C dX10_judges_145 rfl 0 rfl ?_
        refine dz_getR (pc := 146) (k := 18) (j := 0) C Fc_X10 hk_18 (by decide) (by decide) rfl fl_X10_7 dX10_judges_146 ?_
        refine dz_sipush (pc := 149) (v := (385 : Int32)) C dX10_judges_149 (by decide) ?_
        refine dz_iload_n (pc := 152) C dX10_judges_152 rfl 2 rfl ?_
        refine dz_iadd (pc := 153) C dX10_judges_153 ?_
        refine dz_iald (pc := 154) (k := 18) (j := 0) (n := 1225) (f := (T 0)) C hk_18 (by decide) rfl (dt_rAf _ _ _ _) dX10_judges_154 h (fun a20 h => ?_)
        obtain ⟨q21, eq21, h⟩ := dt_bind h
        refine dz_callVi (pc := 155) (st := []) (k := 18) (As := [.int ((T 0) a19), .int ((T 0) a20)]) (M' := (dt_put M 18 q21.2)) C Fc_X10 hk_18 mf_X10_comesTo rfl ml_X10_301 (m_X10_comesTo l _ _ _ _ eq21) rfl rfl (by omega) (by decide) (Nat.le_of_ble_eq_true rfl) dX10_judges_155 ?_
        refine dz_iconst (pc := 158) (v := (1 : Int32)) C dX10_judges_158 (by decide) ?_
        refine dz_icmp_ne (pc := 159) (t := 165) C dX10_judges_159 (by decide) h (fun h => ?_) (fun h => ?_)
        · refine dz_aload_n (pc := 165) C dX10_judges_165 rfl 0 rfl ?_
          refine dz_getR (pc := 166) (k := 18) (j := 0) C Fc_X10 hk_18 (by decide) (by decide) rfl fl_X10_7 dX10_judges_166 ?_
          refine dz_bipush (pc := 169) (v := (7 : Int32)) C dX10_judges_169 (by decide) ?_
          refine dz_dup2 (pc := 171) C dX10_judges_171 rfl rfl ?_
          refine dz_iald (pc := 172) (k := 18) (j := 0) (n := 1225) (f := (q21.2 0)) C hk_18 (by decide) rfl (dt_rAf _ _ _ _) dX10_judges_172 h (fun a22 h => ?_)
          refine dz_iconst (pc := 173) (v := (1 : Int32)) C dX10_judges_173 (by decide) ?_
          refine dz_iadd (pc := 174) C dX10_judges_174 ?_
          refine dz_iast (pc := 175) (k := 18) (j := 0) (n := 1225) (M' := fun a23 => (dt_put M 18 (dt_set q21.2 0 a23 (((q21.2 0) a22) + (1 : Int32))))) C hk_18 (by decide) rfl (fun a23 => (dt_wA _ _ _ _ _ _)) dX10_judges_175 h (fun a23 h => ?_)
          refine dz_iload_n (pc := 176) C dX10_judges_176 rfl 2 rfl ?_
          cases dt_some h
          exact dz_iret (pc := 177) C hr dX10_judges_177
        · refine dz_goto (pc := 162) (t := 178) C dX10_judges_162 (by decide) ?_
          exact tX10_judges_178 C hr ih x1 x3 q21.2 h
def fX10_judges_79  (x1 : Int32) (s1 : Int32) (s2 : Int32) (T : dt_Ob) : Option (Int32 × dt_Ob) := ((dt_ix s1 8).bind fun a12 => ((dt_ix (5 : Int32) 1225).bind fun a13 => ((dt_ix (6 : Int32) 8).bind fun a14 => ((dt_ix (2 : Int32) 1225).bind fun a15 => ((dt_ix (7 : Int32) 8).bind fun a16 => (fX10_judges_108 dt_F x1 (0 : Int32) (dt_set (dt_set (dt_set T 15 a12 s2) 15 a14 ((T 0) a13)) 15 a16 ((T 0) a15))))))))
set_option maxRecDepth 10000 in
set_option maxHeartbeats 4000000 in
theorem tX10_judges_79 {G : dt_G} {A : Nat → Prop} {p : Program} {l : Launch} {e : Env} {s : State} {m : MethodId} {args : Array Value} {below : List Frame} {meth : Method} {c : Code} (C : dt_Cx 1 G A p s m args meth c cX10_judges 4 RX10) (hr : meth.sig.returnType = (some .int)) {M : dt_M} {res : Int32 × dt_Ob}  : ∀ (x1 : Int32) (s1 : Int32) (s2 : Int32) (T : dt_Ob), fX10_judges_79 x1 s1 s2 T = some res → dt_At G A p l e (dt_rm 3) s m args below meth c 4 (MQ below (dt_Post G A (some (.int res.1)) (dt_put M 18 res.2)) args s 0 0 A) 79 [(0, .ref (G.1 18 0)), (1, .int x1)] [.int s2, .int s1, .ref (G.1 18 (15 + 1))] (dt_put M 18 T) := by
  intro x1 s1 s2 T h
  unfold fX10_judges_79 at h
  refine dz_iast (pc := 79) (k := 18) (j := 15) (n := 8) (M' := fun a12 => (dt_put M 18 (dt_set T 15 a12 s2))) C hk_18 (by decide) rfl (fun a12 => (dt_wA _ _ _ _ _ _)) dX10_judges_79 h (fun a12 h => ?_)
  refine dz_aload_n (pc := 80) C dX10_judges_80 rfl 0 rfl ?_
  refine dz_getR (pc := 81) (k := 18) (j := 15) C Fc_X10 hk_18 (by decide) (by decide) rfl fl_X10_49 dX10_judges_81 ?_
  refine dz_bipush (pc := 84) (v := (6 : Int32)) C dX10_judges_84 (by decide) ?_
  refine dz_aload_n (pc := 86) C dX10_judges_86 rfl 0 rfl ?_
  refine dz_getR (pc := 87) (k := 18) (j := 0) C Fc_X10 hk_18 (by decide) (by decide) rfl fl_X10_7 dX10_judges_87 ?_
  refine dz_iconst (pc := 90) (v := (5 : Int32)) C dX10_judges_90 (by decide) ?_
  refine dz_iald (pc := 91) (k := 18) (j := 0) (n := 1225) (f := (T 0)) C hk_18 (by decide) rfl (dt_rAf _ _ _ _) dX10_judges_91 h (fun a13 h => ?_)
  refine dz_iast (pc := 92) (k := 18) (j := 15) (n := 8) (M' := fun a14 => (dt_put M 18 (dt_set (dt_set T 15 a12 s2) 15 a14 ((T 0) a13)))) C hk_18 (by decide) rfl (fun a14 => (dt_wA _ _ _ _ _ _)) dX10_judges_92 h (fun a14 h => ?_)
  refine dz_aload_n (pc := 93) C dX10_judges_93 rfl 0 rfl ?_
  refine dz_getR (pc := 94) (k := 18) (j := 15) C Fc_X10 hk_18 (by decide) (by decide) rfl fl_X10_49 dX10_judges_94 ?_
  refine dz_bipush (pc := 97) (v := (7 : Int32)) C dX10_judges_97 (by decide) ?_
  refine dz_aload_n (pc := 99) C dX10_judges_99 rfl 0 rfl ?_
  refine dz_getR (pc := 100) (k := 18) (j := 0) C Fc_X10 hk_18 (by decide) (by decide) rfl fl_X10_7 dX10_judges_100 ?_
  refine dz_iconst (pc := 103) (v := (2 : Int32)) C dX10_judges_103 (by decide) ?_
  refine dz_iald (pc := 104) (k := 18) (j := 0) (n := 1225) (f := (T 0)) C hk_18 (by decide) rfl (dt_rAf _ _ _ _) dX10_judges_104 h (fun a15 h => ?_)
  refine dz_iast (pc := 105) (k := 18) (j := 15) (n := 8) (M' := fun a16 => (dt_put M 18 (dt_set (dt_set (dt_set T 15 a12 s2) 15 a14 ((T 0) a13)) 15 a16 ((T 0) a15)))) C hk_18 (by decide) rfl (fun a16 => (dt_wA _ _ _ _ _ _)) dX10_judges_105 h (fun a16 h => ?_)
  refine dz_iconst (pc := 106) (v := (0 : Int32)) C dX10_judges_106 (by decide) ?_
  refine dz_istore_n (pc := 107) C dX10_judges_107 rfl (by decide) rfl ?_
  refine dz_sub [1, 2, 0] rfl ?_
  exact tX10_judges_108 C hr dt_F x1 (0 : Int32) (dt_set (dt_set (dt_set T 15 a12 s2) 15 a14 ((T 0) a13)) 15 a16 ((T 0) a15)) h
def fX10_judges_78  (x1 : Int32) (s1 : Int32) (T : dt_Ob) : Option (Int32 × dt_Ob) := (fX10_judges_79 x1 s1 (0 : Int32) T)
set_option maxRecDepth 10000 in
set_option maxHeartbeats 4000000 in
theorem tX10_judges_78 {G : dt_G} {A : Nat → Prop} {p : Program} {l : Launch} {e : Env} {s : State} {m : MethodId} {args : Array Value} {below : List Frame} {meth : Method} {c : Code} (C : dt_Cx 1 G A p s m args meth c cX10_judges 4 RX10) (hr : meth.sig.returnType = (some .int)) {M : dt_M} {res : Int32 × dt_Ob}  : ∀ (x1 : Int32) (s1 : Int32) (T : dt_Ob), fX10_judges_78 x1 s1 T = some res → dt_At G A p l e (dt_rm 3) s m args below meth c 4 (MQ below (dt_Post G A (some (.int res.1)) (dt_put M 18 res.2)) args s 0 0 A) 78 [(0, .ref (G.1 18 0)), (1, .int x1)] [.int s1, .ref (G.1 18 (15 + 1))] (dt_put M 18 T) := by
  intro x1 s1 T h
  unfold fX10_judges_78 at h
  refine dz_iconst (pc := 78) (v := (0 : Int32)) C dX10_judges_78 (by decide) ?_
  exact tX10_judges_79 C hr  x1 s1 (0 : Int32) T h
def fX10_judges  (x1 : Int32) (T : dt_Ob) : Option (Int32 × dt_Ob) := ((fX10_laysTower T).bind fun q1 => ((fX10_topOne q1).bind fun q2 => ((fX10_highest q1).bind fun q3 => ((dt_ix (1 : Int32) 8).bind fun a4 => ((fX10_inTower (dt_set q1 15 a4 q3)).bind fun q5 => ((dt_ix (2 : Int32) 8).bind fun a6 => ((dt_ix (3 : Int32) 1225).bind fun a7 => ((dt_ix (3 : Int32) 8).bind fun a8 => ((dt_ix (4 : Int32) 1225).bind fun a9 => ((dt_ix (4 : Int32) 8).bind fun a10 => (if q2 = (-1 : Int32) then (fX10_judges_78 x1 (5 : Int32) (dt_set (dt_set (dt_set (dt_set q1 15 a4 q3) 15 a6 q5) 15 a8 ((q1 0) a7)) 15 a10 ((q1 0) a9))) else ((fX10_own q2 (3 : Int32) (dt_set (dt_set (dt_set (dt_set q1 15 a4 q3) 15 a6 q5) 15 a8 ((q1 0) a7)) 15 a10 ((q1 0) a9))).bind fun q11 => (if (q11 &&& (4 : Int32)) = 0 then (fX10_judges_78 x1 (5 : Int32) (dt_set (dt_set (dt_set (dt_set q1 15 a4 q3) 15 a6 q5) 15 a8 ((q1 0) a7)) 15 a10 ((q1 0) a9))) else (fX10_judges_79 x1 (5 : Int32) (1 : Int32) (dt_set (dt_set (dt_set (dt_set q1 15 a4 q3) 15 a6 q5) 15 a8 ((q1 0) a7)) 15 a10 ((q1 0) a9))))))))))))))))
set_option maxRecDepth 10000 in
set_option maxHeartbeats 4000000 in
theorem m_X10_judges (l : Launch)  (M : dt_M) (T : dt_Ob)  (x1 : Int32) {res : Int32 × dt_Ob} (h : fX10_judges x1 T = some res) : dt_Met 1 l yX10_judges cX10_judges 4 (some .int) 3 (fun G => [.ref (G.1 18 0), .int x1]) (dt_put M 18 T) (some (.int res.1)) (dt_put M 18 res.2) := by
  refine dz_enter (lv := fun G => [(0, .ref (G.1 18 0)), (1, .int x1)]) (by decide) (fun _ => rfl) (fun _ => Nat.le_of_ble_eq_true rfl) (fun G A p e s m args below meth c C hr => ?_)
  unfold fX10_judges at h
  refine dz_aload_n (pc := 0) C dX10_judges_0 rfl 0 rfl ?_
  obtain ⟨q1, eq1, h⟩ := dt_bind h
  refine dz_callVv (pc := 1) (st := []) (k := 18) (As := []) (M' := (dt_put M 18 q1)) C Fc_X10 hk_18 mf_X10_laysTower rfl ml_X10_138 (m_X10_laysTower l _ _ eq1) rfl rfl (by omega) (by decide) (Nat.le_of_ble_eq_true rfl) dX10_judges_1 ?_
  refine dz_aload_n (pc := 4) C dX10_judges_4 rfl 0 rfl ?_
  obtain ⟨q2, eq2, h⟩ := dt_bind h
  refine dz_callVi (pc := 5) (st := []) (k := 18) (As := []) (M' := (dt_put M 18 q1)) C Fc_X10 hk_18 mf_X10_topOne rfl ml_X10_295 (m_X10_topOne l _ _ eq2) rfl rfl (by omega) (by decide) (Nat.le_of_ble_eq_true rfl) dX10_judges_5 ?_
  refine dz_istore_n (pc := 8) C dX10_judges_8 rfl (by decide) rfl ?_
  refine dz_aload_n (pc := 9) C dX10_judges_9 rfl 1 rfl ?_
  refine dz_getR (pc := 10) (k := 18) (j := 15) C Fc_X10 hk_18 (by decide) (by decide) rfl fl_X10_49 dX10_judges_10 ?_
  refine dz_iconst (pc := 13) (v := (1 : Int32)) C dX10_judges_13 (by decide) ?_
  refine dz_aload_n (pc := 14) C dX10_judges_14 rfl 1 rfl ?_
  obtain ⟨q3, eq3, h⟩ := dt_bind h
  refine dz_callVi (pc := 15) (st := [.int (1 : Int32), .ref (G.1 18 (15 + 1))]) (k := 18) (As := []) (M' := (dt_put M 18 q1)) C Fc_X10 hk_18 mf_X10_highest rfl ml_X10_167 (m_X10_highest l _ _ eq3) rfl rfl (by omega) (by decide) (Nat.le_of_ble_eq_true rfl) dX10_judges_15 ?_
  refine dz_iast (pc := 18) (k := 18) (j := 15) (n := 8) (M' := fun a4 => (dt_put M 18 (dt_set q1 15 a4 q3))) C hk_18 (by decide) rfl (fun a4 => (dt_wA _ _ _ _ _ _)) dX10_judges_18 h (fun a4 h => ?_)
  refine dz_aload_n (pc := 19) C dX10_judges_19 rfl 1 rfl ?_
  refine dz_getR (pc := 20) (k := 18) (j := 15) C Fc_X10 hk_18 (by decide) (by decide) rfl fl_X10_49 dX10_judges_20 ?_
  refine dz_iconst (pc := 23) (v := (2 : Int32)) C dX10_judges_23 (by decide) ?_
  refine dz_aload_n (pc := 24) C dX10_judges_24 rfl 1 rfl ?_
  obtain ⟨q5, eq5, h⟩ := dt_bind h
  refine dz_callVi (pc := 25) (st := [.int (2 : Int32), .ref (G.1 18 (15 + 1))]) (k := 18) (As := []) (M' := (dt_put M 18 (dt_set q1 15 a4 q3))) C Fc_X10 hk_18 mf_X10_inTower rfl ml_X10_298 (m_X10_inTower l _ _ eq5) rfl rfl (by omega) (by decide) (Nat.le_of_ble_eq_true rfl) dX10_judges_25 ?_
  refine dz_iast (pc := 28) (k := 18) (j := 15) (n := 8) (M' := fun a6 => (dt_put M 18 (dt_set (dt_set q1 15 a4 q3) 15 a6 q5))) C hk_18 (by decide) rfl (fun a6 => (dt_wA _ _ _ _ _ _)) dX10_judges_28 h (fun a6 h => ?_)
  refine dz_aload_n (pc := 29) C dX10_judges_29 rfl 1 rfl ?_
  refine dz_getR (pc := 30) (k := 18) (j := 15) C Fc_X10 hk_18 (by decide) (by decide) rfl fl_X10_49 dX10_judges_30 ?_
  refine dz_iconst (pc := 33) (v := (3 : Int32)) C dX10_judges_33 (by decide) ?_
  refine dz_aload_n (pc := 34) C dX10_judges_34 rfl 1 rfl ?_
  refine dz_getR (pc := 35) (k := 18) (j := 0) C Fc_X10 hk_18 (by decide) (by decide) rfl fl_X10_7 dX10_judges_35 ?_
  refine dz_iconst (pc := 38) (v := (3 : Int32)) C dX10_judges_38 (by decide) ?_
  refine dz_iald (pc := 39) (k := 18) (j := 0) (n := 1225) (f := (q1 0)) C hk_18 (by decide) rfl (dt_rAf _ _ _ _) dX10_judges_39 h (fun a7 h => ?_)
  refine dz_iast (pc := 40) (k := 18) (j := 15) (n := 8) (M' := fun a8 => (dt_put M 18 (dt_set (dt_set (dt_set q1 15 a4 q3) 15 a6 q5) 15 a8 ((q1 0) a7)))) C hk_18 (by decide) rfl (fun a8 => (dt_wA _ _ _ _ _ _)) dX10_judges_40 h (fun a8 h => ?_)
  refine dz_aload_n (pc := 41) C dX10_judges_41 rfl 1 rfl ?_
  refine dz_getR (pc := 42) (k := 18) (j := 15) C Fc_X10 hk_18 (by decide) (by decide) rfl fl_X10_49 dX10_judges_42 ?_
  refine dz_iconst (pc := 45) (v := (4 : Int32)) C dX10_judges_45 (by decide) ?_
  refine dz_aload_n (pc := 46) C dX10_judges_46 rfl 1 rfl ?_
  refine dz_getR (pc := 47) (k := 18) (j := 0) C Fc_X10 hk_18 (by decide) (by decide) rfl fl_X10_7 dX10_judges_47 ?_
  refine dz_iconst (pc := 50) (v := (4 : Int32)) C dX10_judges_50 (by decide) ?_
  refine dz_iald (pc := 51) (k := 18) (j := 0) (n := 1225) (f := (q1 0)) C hk_18 (by decide) rfl (dt_rAf _ _ _ _) dX10_judges_51 h (fun a9 h => ?_)
  refine dz_iast (pc := 52) (k := 18) (j := 15) (n := 8) (M' := fun a10 => (dt_put M 18 (dt_set (dt_set (dt_set (dt_set q1 15 a4 q3) 15 a6 q5) 15 a8 ((q1 0) a7)) 15 a10 ((q1 0) a9)))) C hk_18 (by decide) rfl (fun a10 => (dt_wA _ _ _ _ _ _)) dX10_judges_52 h (fun a10 h => ?_)
  refine dz_aload_n (pc := 53) C dX10_judges_53 rfl 1 rfl ?_
  refine dz_getR (pc := 54) (k := 18) (j := 15) C Fc_X10 hk_18 (by decide) (by decide) rfl fl_X10_49 dX10_judges_54 ?_
  refine dz_iconst (pc := 57) (v := (5 : Int32)) C dX10_judges_57 (by decide) ?_
  refine dz_iload_n (pc := 58) C dX10_judges_58 rfl 0 rfl ?_
  refine dz_iconst (pc := 59) (v := (-1 : Int32)) C dX10_judges_59 (by decide) ?_
  refine dz_icmp_eq (pc := 60) (t := 78) C dX10_judges_60 (by decide) h (fun h => ?_) (fun h => ?_)
  · refine dz_sub [1, 2] rfl ?_
    exact tX10_judges_78 C hr  x1 (5 : Int32) (dt_set (dt_set (dt_set (dt_set q1 15 a4 q3) 15 a6 q5) 15 a8 ((q1 0) a7)) 15 a10 ((q1 0) a9)) h
  · refine dz_aload_n (pc := 63) C dX10_judges_63 rfl 1 rfl ?_
    refine dz_iload_n (pc := 64) C dX10_judges_64 rfl 0 rfl ?_
    refine dz_iconst (pc := 65) (v := (3 : Int32)) C dX10_judges_65 (by decide) ?_
    obtain ⟨q11, eq11, h⟩ := dt_bind h
    refine dz_callVi (pc := 66) (st := [.int (5 : Int32), .ref (G.1 18 (15 + 1))]) (k := 18) (As := [.int q2, .int (3 : Int32)]) (M' := (dt_put M 18 (dt_set (dt_set (dt_set (dt_set q1 15 a4 q3) 15 a6 q5) 15 a8 ((q1 0) a7)) 15 a10 ((q1 0) a9)))) C Fc_X10 hk_18 mf_X10_own rfl ml_X10_94 (m_X10_own l _ _ _ _ eq11) rfl rfl (by omega) (by decide) (Nat.le_of_ble_eq_true rfl) dX10_judges_66 ?_
    refine dz_iconst (pc := 69) (v := (4 : Int32)) C dX10_judges_69 (by decide) ?_
    refine dz_iand (pc := 70) C dX10_judges_70 ?_
    refine dz_if_eq (pc := 71) (t := 78) C dX10_judges_71 (by decide) h (fun h => ?_) (fun h => ?_)
    · refine dz_sub [1, 2] rfl ?_
      exact tX10_judges_78 C hr  x1 (5 : Int32) (dt_set (dt_set (dt_set (dt_set q1 15 a4 q3) 15 a6 q5) 15 a8 ((q1 0) a7)) 15 a10 ((q1 0) a9)) h
    · refine dz_iconst (pc := 74) (v := (1 : Int32)) C dX10_judges_74 (by decide) ?_
      refine dz_goto (pc := 75) (t := 79) C dX10_judges_75 (by decide) ?_
      refine dz_sub [1, 2] rfl ?_
      exact tX10_judges_79 C hr  x1 (5 : Int32) (1 : Int32) (dt_set (dt_set (dt_set (dt_set q1 15 a4 q3) 15 a6 q5) 15 a8 ((q1 0) a7)) 15 a10 ((q1 0) a9)) h

def fX10_noon  (T : dt_Ob) : Option (Int32 × dt_Ob) := ((dt_ix (6 : Int32) 1225).bind fun a1 => (if ((T 0) a1) = (1 : Int32) then (some ((-2 : Int32), T)) else ((fX10_laysTower T).bind fun q2 => ((dt_ix (6 : Int32) 1225).bind fun a3 => ((fX10_highest (dt_set q2 0 a3 (1 : Int32))).bind fun q4 => ((dt_ix (5 : Int32) 1225).bind fun a5 => ((fX10_forgets (dt_set (dt_set q2 0 a3 (1 : Int32)) 0 a5 q4)).bind fun q6 => ((fX10_judges (0 : Int32) q6).bind fun q7 => (some (q7.1, q7.2))))))))))
set_option maxRecDepth 10000 in
set_option maxHeartbeats 4000000 in
theorem m_X10_noon (l : Launch)  (M : dt_M) (T : dt_Ob)   {res : Int32 × dt_Ob} (h : fX10_noon T = some res) : dt_Met 1 l yX10_noon cX10_noon 1 (some .int) 4 (fun G => [.ref (G.1 18 0)]) (dt_put M 18 T) (some (.int res.1)) (dt_put M 18 res.2) := by
  refine dz_enter (lv := fun G => [(0, .ref (G.1 18 0))]) (by decide) (fun _ => rfl) (fun _ => Nat.le_of_ble_eq_true rfl) (fun G A p e s m args below meth c C hr => ?_)
  unfold fX10_noon at h
  refine dz_aload_n (pc := 0) C dX10_noon_0 rfl 0 rfl ?_
  refine dz_getR (pc := 1) (k := 18) (j := 0) C Fc_X10 hk_18 (by decide) (by decide) rfl fl_X10_7 dX10_noon_1 ?_
  refine dz_bipush (pc := 4) (v := (6 : Int32)) C dX10_noon_4 (by decide) ?_
  refine dz_iald (pc := 6) (k := 18) (j := 0) (n := 1225) (f := (T 0)) C hk_18 (by decide) rfl (dt_rAf _ _ _ _) dX10_noon_6 h (fun a1 h => ?_)
  refine dz_iconst (pc := 7) (v := (1 : Int32)) C dX10_noon_7 (by decide) ?_
  refine dz_icmp_ne (pc := 8) (t := 14) C dX10_noon_8 (by decide) h (fun h => ?_) (fun h => ?_)
  · refine dz_aload_n (pc := 14) C dX10_noon_14 rfl 0 rfl ?_
    obtain ⟨q2, eq2, h⟩ := dt_bind h
    refine dz_callVv (pc := 15) (st := []) (k := 18) (As := []) (M' := (dt_put M 18 q2)) C Fc_X10 hk_18 mf_X10_laysTower rfl ml_X10_138 (m_X10_laysTower l _ _ eq2) rfl rfl (by omega) (by decide) (Nat.le_of_ble_eq_true rfl) dX10_noon_15 ?_
    refine dz_aload_n (pc := 18) C dX10_noon_18 rfl 0 rfl ?_
    refine dz_getR (pc := 19) (k := 18) (j := 0) C Fc_X10 hk_18 (by decide) (by decide) rfl fl_X10_7 dX10_noon_19 ?_
    refine dz_bipush (pc := 22) (v := (6 : Int32)) C dX10_noon_22 (by decide) ?_
    refine dz_iconst (pc := 24) (v := (1 : Int32)) C dX10_noon_24 (by decide) ?_
    refine dz_iast (pc := 25) (k := 18) (j := 0) (n := 1225) (M' := fun a3 => (dt_put M 18 (dt_set q2 0 a3 (1 : Int32)))) C hk_18 (by decide) rfl (fun a3 => (dt_wA _ _ _ _ _ _)) dX10_noon_25 h (fun a3 h => ?_)
    refine dz_aload_n (pc := 26) C dX10_noon_26 rfl 0 rfl ?_
    refine dz_getR (pc := 27) (k := 18) (j := 0) C Fc_X10 hk_18 (by decide) (by decide) rfl fl_X10_7 dX10_noon_27 ?_
    refine dz_iconst (pc := 30) (v := (5 : Int32)) C dX10_noon_30 (by decide) ?_
    refine dz_aload_n (pc := 31) C dX10_noon_31 rfl 0 rfl ?_
    obtain ⟨q4, eq4, h⟩ := dt_bind h
    refine dz_callVi (pc := 32) (st := [.int (5 : Int32), .ref (G.1 18 (0 + 1))]) (k := 18) (As := []) (M' := (dt_put M 18 (dt_set q2 0 a3 (1 : Int32)))) C Fc_X10 hk_18 mf_X10_highest rfl ml_X10_167 (m_X10_highest l _ _ eq4) rfl rfl (by omega) (by decide) (Nat.le_of_ble_eq_true rfl) dX10_noon_32 ?_
    refine dz_iast (pc := 35) (k := 18) (j := 0) (n := 1225) (M' := fun a5 => (dt_put M 18 (dt_set (dt_set q2 0 a3 (1 : Int32)) 0 a5 q4))) C hk_18 (by decide) rfl (fun a5 => (dt_wA _ _ _ _ _ _)) dX10_noon_35 h (fun a5 h => ?_)
    refine dz_aload_n (pc := 36) C dX10_noon_36 rfl 0 rfl ?_
    obtain ⟨q6, eq6, h⟩ := dt_bind h
    refine dz_callVv (pc := 37) (st := []) (k := 18) (As := []) (M' := (dt_put M 18 q6)) C Fc_X10 hk_18 mf_X10_forgets rfl ml_X10_83 (m_X10_forgets l _ _ eq6) rfl rfl (by omega) (by decide) (Nat.le_of_ble_eq_true rfl) dX10_noon_37 ?_
    refine dz_aload_n (pc := 40) C dX10_noon_40 rfl 0 rfl ?_
    refine dz_iconst (pc := 41) (v := (0 : Int32)) C dX10_noon_41 (by decide) ?_
    obtain ⟨q7, eq7, h⟩ := dt_bind h
    refine dz_callVi (pc := 42) (st := []) (k := 18) (As := [.int (0 : Int32)]) (M' := (dt_put M 18 q7.2)) C Fc_X10 hk_18 mf_X10_judges rfl ml_X10_304 (m_X10_judges l _ _ _ eq7) rfl rfl (by omega) (by decide) (Nat.le_of_ble_eq_true rfl) dX10_noon_42 ?_
    cases dt_some h
    exact dz_iret (pc := 45) C hr dX10_noon_45
  · refine dz_bipush (pc := 11) (v := (-2 : Int32)) C dX10_noon_11 (by decide) ?_
    cases dt_some h
    exact dz_iret (pc := 13) C hr dX10_noon_13

def fX10_dusk_96 (r8 : Int32 → Int32 → dt_Ob → Option (Int32 × dt_Ob)) (x1 : Int32) (x2 : Int32) (T : dt_Ob) : Option (Int32 × dt_Ob) := (r8 x1 (x2 + (1 : Int32)) T)
set_option maxRecDepth 10000 in
set_option maxHeartbeats 4000000 in
theorem tX10_dusk_96 {G : dt_G} {A : Nat → Prop} {p : Program} {l : Launch} {e : Env} {s : State} {m : MethodId} {args : Array Value} {below : List Frame} {meth : Method} {c : Code} (C : dt_Cx 1 G A p s m args meth c cX10_dusk 4 RX10) (hr : meth.sig.returnType = (some .int)) {M : dt_M} {res : Int32 × dt_Ob} {r8 : Int32 → Int32 → dt_Ob → Option (Int32 × dt_Ob)} (hr8 : ∀ (x1 : Int32) (x2 : Int32) (T : dt_Ob), r8 x1 x2 T = some res → dt_At G A p l e (dt_rm 4) s m args below meth c 4 (MQ below (dt_Post G A (some (.int res.1)) (dt_put M 18 res.2)) args s 0 0 A) 8 [(0, .ref (G.1 18 0)), (1, .int x1), (2, .int x2)] [] (dt_put M 18 T)) : ∀ (x1 : Int32) (x2 : Int32) (T : dt_Ob), fX10_dusk_96 r8 x1 x2 T = some res → dt_At G A p l e (dt_rm 4) s m args below meth c 4 (MQ below (dt_Post G A (some (.int res.1)) (dt_put M 18 res.2)) args s 0 0 A) 96 [(0, .ref (G.1 18 0)), (1, .int x1), (2, .int x2)] [] (dt_put M 18 T) := by
  intro x1 x2 T h
  unfold fX10_dusk_96 at h
  refine dz_iinc (pc := 96) (v := (x2 + (1 : Int32))) C dX10_dusk_96 2 rfl rfl (by decide) rfl ?_
  refine dz_goto (pc := 99) (t := 8) C dX10_dusk_99 (by decide) ?_
  refine dz_sub [1, 2, 0] rfl ?_
  exact hr8 x1 (x2 + (1 : Int32)) T h
def fX10_dusk_8  : Nat → Int32 → Int32 → dt_Ob → Option (Int32 × dt_Ob)
  | 0, _, _, _ => none
  | n + 1, x1, x2, T => ((dt_ix (1 : Int32) 1225).bind fun a2 => (if ((T 0) a2) ≤ x2 then ((dt_ix (3 : Int32) 1225).bind fun a3 => ((dt_ix (4 : Int32) 1225).bind fun a4 => ((dt_ix (5 : Int32) 1225).bind fun a5 => ((dt_ix (6 : Int32) 1225).bind fun a6 => ((dt_ix (2 : Int32) 1225).bind fun a7 => ((dt_ix (2 : Int32) 1225).bind fun a8 => ((fX10_forgets (dt_set (dt_set (dt_set (dt_set (dt_set T 0 a3 (0 : Int32)) 0 a4 (0 : Int32)) 0 a5 (0 : Int32)) 0 a6 (0 : Int32)) 0 a8 ((((dt_set (dt_set (dt_set (dt_set T 0 a3 (0 : Int32)) 0 a4 (0 : Int32)) 0 a5 (0 : Int32)) 0 a6 (0 : Int32)) 0) a7) + (1 : Int32)))).bind fun q9 => (some (x1, q9))))))))) else ((fX10_own x2 (5 : Int32) T).bind fun q10 => (if q10 = (-1 : Int32) then (fX10_dusk_96 (fX10_dusk_8 n) x1 x2 T) else ((fX10_own x2 (6 : Int32) T).bind fun q11 => ((fX10_own x2 (5 : Int32) T).bind fun q12 => ((fX10_least (59 : Int32) (((10 : Int32) + q12) + ((2 : Int32) * q11))).bind fun q13 => ((fX10_gives x2 (4 : Int32) q13 T).bind fun q14 => ((fX10_own x2 (2 : Int32) q14).bind fun q15 => ((fX10_most (0 : Int32) (q15 - q11)).bind fun q16 => ((fX10_gives x2 (2 : Int32) q16 q14).bind fun q17 => ((fX10_gives x2 (5 : Int32) (-1 : Int32) q17).bind fun q18 => ((fX10_gives x2 (6 : Int32) (-1 : Int32) q18).bind fun q19 => (fX10_dusk_96 (fX10_dusk_8 n) x1 x2 q19))))))))))))))
set_option maxRecDepth 10000 in
set_option maxHeartbeats 4000000 in
theorem tX10_dusk_8 {G : dt_G} {A : Nat → Prop} {p : Program} {l : Launch} {e : Env} {s : State} {m : MethodId} {args : Array Value} {below : List Frame} {meth : Method} {c : Code} (C : dt_Cx 1 G A p s m args meth c cX10_dusk 4 RX10) (hr : meth.sig.returnType = (some .int)) {M : dt_M} {res : Int32 × dt_Ob}  : ∀ (n : Nat) (x1 : Int32) (x2 : Int32) (T : dt_Ob), fX10_dusk_8 n x1 x2 T = some res → dt_At G A p l e (dt_rm 4) s m args below meth c 4 (MQ below (dt_Post G A (some (.int res.1)) (dt_put M 18 res.2)) args s 0 0 A) 8 [(0, .ref (G.1 18 0)), (1, .int x1), (2, .int x2)] [] (dt_put M 18 T) := by
  intro n
  induction n with
  | zero =>
    intro x1 x2 T h
    unfold fX10_dusk_8 at h
    cases h
  | succ n ih =>
    intro x1 x2 T h
    unfold fX10_dusk_8 at h
    refine dz_iload_n (pc := 8) C dX10_dusk_8 rfl 2 rfl ?_
    refine dz_aload_n (pc := 9) C dX10_dusk_9 rfl 0 rfl ?_
    refine dz_getR (pc := 10) (k := 18) (j := 0) C Fc_X10 hk_18 (by decide) (by decide) rfl fl_X10_7 dX10_dusk_10 ?_
    refine dz_iconst (pc := 13) (v := (1 : Int32)) C dX10_dusk_13 (by decide) ?_
    refine dz_iald (pc := 14) (k := 18) (j := 0) (n := 1225) (f := (T 0)) C hk_18 (by decide) rfl (dt_rAf _ _ _ _) dX10_dusk_14 h (fun a2 h => ?_)
    refine dz_icmp_ge (pc := 15) (t := 102) C dX10_dusk_15 (by decide) h (fun h => ?_) (fun h => ?_)
    · refine dz_aload_n (pc := 102) C dX10_dusk_102 rfl 0 rfl ?_
      refine dz_getR (pc := 103) (k := 18) (j := 0) C Fc_X10 hk_18 (by decide) (by decide) rfl fl_X10_7 dX10_dusk_103 ?_
      refine dz_iconst (pc := 106) (v := (3 : Int32)) C dX10_dusk_106 (by decide) ?_
      refine dz_iconst (pc := 107) (v := (0 : Int32)) C dX10_dusk_107 (by decide) ?_
      refine dz_iast (pc := 108) (k := 18) (j := 0) (n := 1225) (M' := fun a3 => (dt_put M 18 (dt_set T 0 a3 (0 : Int32)))) C hk_18 (by decide) rfl (fun a3 => (dt_wA _ _ _ _ _ _)) dX10_dusk_108 h (fun a3 h => ?_)
      refine dz_aload_n (pc := 109) C dX10_dusk_109 rfl 0 rfl ?_
      refine dz_getR (pc := 110) (k := 18) (j := 0) C Fc_X10 hk_18 (by decide) (by decide) rfl fl_X10_7 dX10_dusk_110 ?_
      refine dz_iconst (pc := 113) (v := (4 : Int32)) C dX10_dusk_113 (by decide) ?_
      refine dz_iconst (pc := 114) (v := (0 : Int32)) C dX10_dusk_114 (by decide) ?_
      refine dz_iast (pc := 115) (k := 18) (j := 0) (n := 1225) (M' := fun a4 => (dt_put M 18 (dt_set (dt_set T 0 a3 (0 : Int32)) 0 a4 (0 : Int32)))) C hk_18 (by decide) rfl (fun a4 => (dt_wA _ _ _ _ _ _)) dX10_dusk_115 h (fun a4 h => ?_)
      refine dz_aload_n (pc := 116) C dX10_dusk_116 rfl 0 rfl ?_
      refine dz_getR (pc := 117) (k := 18) (j := 0) C Fc_X10 hk_18 (by decide) (by decide) rfl fl_X10_7 dX10_dusk_117 ?_
      refine dz_iconst (pc := 120) (v := (5 : Int32)) C dX10_dusk_120 (by decide) ?_
      refine dz_iconst (pc := 121) (v := (0 : Int32)) C dX10_dusk_121 (by decide) ?_
      refine dz_iast (pc := 122) (k := 18) (j := 0) (n := 1225) (M' := fun a5 => (dt_put M 18 (dt_set (dt_set (dt_set T 0 a3 (0 : Int32)) 0 a4 (0 : Int32)) 0 a5 (0 : Int32)))) C hk_18 (by decide) rfl (fun a5 => (dt_wA _ _ _ _ _ _)) dX10_dusk_122 h (fun a5 h => ?_)
      refine dz_aload_n (pc := 123) C dX10_dusk_123 rfl 0 rfl ?_
      refine dz_getR (pc := 124) (k := 18) (j := 0) C Fc_X10 hk_18 (by decide) (by decide) rfl fl_X10_7 dX10_dusk_124 ?_
      refine dz_bipush (pc := 127) (v := (6 : Int32)) C dX10_dusk_127 (by decide) ?_
      refine dz_iconst (pc := 129) (v := (0 : Int32)) C dX10_dusk_129 (by decide) ?_
      refine dz_iast (pc := 130) (k := 18) (j := 0) (n := 1225) (M' := fun a6 => (dt_put M 18 (dt_set (dt_set (dt_set (dt_set T 0 a3 (0 : Int32)) 0 a4 (0 : Int32)) 0 a5 (0 : Int32)) 0 a6 (0 : Int32)))) C hk_18 (by decide) rfl (fun a6 => (dt_wA _ _ _ _ _ _)) dX10_dusk_130 h (fun a6 h => ?_)
      refine dz_aload_n (pc := 131) C dX10_dusk_131 rfl 0 rfl ?_
      refine dz_getR (pc := 132) (k := 18) (j := 0) C Fc_X10 hk_18 (by decide) (by decide) rfl fl_X10_7 dX10_dusk_132 ?_
      refine dz_iconst (pc := 135) (v := (2 : Int32)) C dX10_dusk_135 (by decide) ?_
      refine dz_dup2 (pc := 136) C dX10_dusk_136 rfl rfl ?_
      refine dz_iald (pc := 137) (k := 18) (j := 0) (n := 1225) (f := ((dt_set (dt_set (dt_set (dt_set T 0 a3 (0 : Int32)) 0 a4 (0 : Int32)) 0 a5 (0 : Int32)) 0 a6 (0 : Int32)) 0)) C hk_18 (by decide) rfl (dt_rAf _ _ _ _) dX10_dusk_137 h (fun a7 h => ?_)
      refine dz_iconst (pc := 138) (v := (1 : Int32)) C dX10_dusk_138 (by decide) ?_
      refine dz_iadd (pc := 139) C dX10_dusk_139 ?_
      refine dz_iast (pc := 140) (k := 18) (j := 0) (n := 1225) (M' := fun a8 => (dt_put M 18 (dt_set (dt_set (dt_set (dt_set (dt_set T 0 a3 (0 : Int32)) 0 a4 (0 : Int32)) 0 a5 (0 : Int32)) 0 a6 (0 : Int32)) 0 a8 ((((dt_set (dt_set (dt_set (dt_set T 0 a3 (0 : Int32)) 0 a4 (0 : Int32)) 0 a5 (0 : Int32)) 0 a6 (0 : Int32)) 0) a7) + (1 : Int32))))) C hk_18 (by decide) rfl (fun a8 => (dt_wA _ _ _ _ _ _)) dX10_dusk_140 h (fun a8 h => ?_)
      refine dz_aload_n (pc := 141) C dX10_dusk_141 rfl 0 rfl ?_
      obtain ⟨q9, eq9, h⟩ := dt_bind h
      refine dz_callVv (pc := 142) (st := []) (k := 18) (As := []) (M' := (dt_put M 18 q9)) C Fc_X10 hk_18 mf_X10_forgets rfl ml_X10_83 (m_X10_forgets l _ _ eq9) rfl rfl (by omega) (by decide) (Nat.le_of_ble_eq_true rfl) dX10_dusk_142 ?_
      refine dz_iload_n (pc := 145) C dX10_dusk_145 rfl 1 rfl ?_
      cases dt_some h
      exact dz_iret (pc := 146) C hr dX10_dusk_146
    · refine dz_aload_n (pc := 18) C dX10_dusk_18 rfl 0 rfl ?_
      refine dz_iload_n (pc := 19) C dX10_dusk_19 rfl 2 rfl ?_
      refine dz_iconst (pc := 20) (v := (5 : Int32)) C dX10_dusk_20 (by decide) ?_
      obtain ⟨q10, eq10, h⟩ := dt_bind h
      refine dz_callVi (pc := 21) (st := []) (k := 18) (As := [.int x2, .int (5 : Int32)]) (M' := (dt_put M 18 T)) C Fc_X10 hk_18 mf_X10_own rfl ml_X10_94 (m_X10_own l _ _ _ _ eq10) rfl rfl (by omega) (by decide) (Nat.le_of_ble_eq_true rfl) dX10_dusk_21 ?_
      refine dz_iconst (pc := 24) (v := (-1 : Int32)) C dX10_dusk_24 (by decide) ?_
      refine dz_icmp_ne (pc := 25) (t := 31) C dX10_dusk_25 (by decide) h (fun h => ?_) (fun h => ?_)
      · refine dz_aload_n (pc := 31) C dX10_dusk_31 rfl 0 rfl ?_
        refine dz_iload_n (pc := 32) C dX10_dusk_32 rfl 2 rfl ?_
        refine dz_bipush (pc := 33) (v := (6 : Int32)) C dX10_dusk_33 (by decide) ?_
        obtain ⟨q11, eq11, h⟩ := dt_bind h
        refine dz_callVi (pc := 35) (st := []) (k := 18) (As := [.int x2, .int (6 : Int32)]) (M' := (dt_put M 18 T)) C Fc_X10 hk_18 mf_X10_own rfl ml_X10_94 (m_X10_own l _ _ _ _ eq11) rfl rfl (by omega) (by decide) (Nat.le_of_ble_eq_true rfl) dX10_dusk_35 ?_
        refine dz_istore_n (pc := 38) C dX10_dusk_38 rfl (by decide) rfl ?_
        refine dz_aload_n (pc := 39) C dX10_dusk_39 rfl 1 rfl ?_
        refine dz_iload_n (pc := 40) C dX10_dusk_40 rfl 3 rfl ?_
        refine dz_iconst (pc := 41) (v := (4 : Int32)) C dX10_dusk_41 (by decide) ?_
        refine dz_bipush (pc := 42) (v := (59 : Int32)) C dX10_dusk_42 (by decide) ?_
        refine dz_bipush (pc := 44) (v := (10 : Int32)) C dX10_dusk_44 (by decide) ?_
        refine dz_aload_n (pc := 46) C dX10_dusk_46 rfl 1 rfl ?_
        refine dz_iload_n (pc := 47) C dX10_dusk_47 rfl 3 rfl ?_
        refine dz_iconst (pc := 48) (v := (5 : Int32)) C dX10_dusk_48 (by decide) ?_
        obtain ⟨q12, eq12, h⟩ := dt_bind h
        refine dz_callVi (pc := 49) (st := [.int (10 : Int32), .int (59 : Int32), .int (4 : Int32), .int x2, .ref (G.1 18 0)]) (k := 18) (As := [.int x2, .int (5 : Int32)]) (M' := (dt_put M 18 T)) C Fc_X10 hk_18 mf_X10_own rfl ml_X10_94 (m_X10_own l _ _ _ _ eq12) rfl rfl (by omega) (by decide) (Nat.le_of_ble_eq_true rfl) dX10_dusk_49 ?_
        refine dz_iadd (pc := 52) C dX10_dusk_52 ?_
        refine dz_iconst (pc := 53) (v := (2 : Int32)) C dX10_dusk_53 (by decide) ?_
        refine dz_iload_n (pc := 54) C dX10_dusk_54 rfl 0 rfl ?_
        refine dz_imul (pc := 55) C dX10_dusk_55 ?_
        refine dz_iadd (pc := 56) C dX10_dusk_56 ?_
        obtain ⟨q13, eq13, h⟩ := dt_bind h
        refine dz_callSi (pc := 57) (st := [.int (4 : Int32), .int x2, .ref (G.1 18 0)]) (As := [.int (59 : Int32), .int (((10 : Int32) + q12) + ((2 : Int32) * q11))]) (M' := (dt_put M 18 T)) C ms_X10_least ml_X10_86 (m_X10_least l _ _ _ eq13) rfl rfl (by omega) (by decide) (Nat.le_of_ble_eq_true rfl) dX10_dusk_57 ?_
        obtain ⟨q14, eq14, h⟩ := dt_bind h
        refine dz_callVv (pc := 60) (st := []) (k := 18) (As := [.int x2, .int (4 : Int32), .int q13]) (M' := (dt_put M 18 q14)) C Fc_X10 hk_18 mf_X10_gives rfl ml_X10_90 (m_X10_gives l _ _ _ _ _ eq14) rfl rfl (by omega) (by decide) (Nat.le_of_ble_eq_true rfl) dX10_dusk_60 ?_
        refine dz_aload_n (pc := 63) C dX10_dusk_63 rfl 1 rfl ?_
        refine dz_iload_n (pc := 64) C dX10_dusk_64 rfl 3 rfl ?_
        refine dz_iconst (pc := 65) (v := (2 : Int32)) C dX10_dusk_65 (by decide) ?_
        refine dz_iconst (pc := 66) (v := (0 : Int32)) C dX10_dusk_66 (by decide) ?_
        refine dz_aload_n (pc := 67) C dX10_dusk_67 rfl 1 rfl ?_
        refine dz_iload_n (pc := 68) C dX10_dusk_68 rfl 3 rfl ?_
        refine dz_iconst (pc := 69) (v := (2 : Int32)) C dX10_dusk_69 (by decide) ?_
        obtain ⟨q15, eq15, h⟩ := dt_bind h
        refine dz_callVi (pc := 70) (st := [.int (0 : Int32), .int (2 : Int32), .int x2, .ref (G.1 18 0)]) (k := 18) (As := [.int x2, .int (2 : Int32)]) (M' := (dt_put M 18 q14)) C Fc_X10 hk_18 mf_X10_own rfl ml_X10_94 (m_X10_own l _ _ _ _ eq15) rfl rfl (by omega) (by decide) (Nat.le_of_ble_eq_true rfl) dX10_dusk_70 ?_
        refine dz_iload_n (pc := 73) C dX10_dusk_73 rfl 0 rfl ?_
        refine dz_isub (pc := 74) C dX10_dusk_74 ?_
        obtain ⟨q16, eq16, h⟩ := dt_bind h
        refine dz_callSi (pc := 75) (st := [.int (2 : Int32), .int x2, .ref (G.1 18 0)]) (As := [.int (0 : Int32), .int (q15 - q11)]) (M' := (dt_put M 18 q14)) C ms_X10_most ml_X10_97 (m_X10_most l _ _ _ eq16) rfl rfl (by omega) (by decide) (Nat.le_of_ble_eq_true rfl) dX10_dusk_75 ?_
        obtain ⟨q17, eq17, h⟩ := dt_bind h
        refine dz_callVv (pc := 78) (st := []) (k := 18) (As := [.int x2, .int (2 : Int32), .int q16]) (M' := (dt_put M 18 q17)) C Fc_X10 hk_18 mf_X10_gives rfl ml_X10_90 (m_X10_gives l _ _ _ _ _ eq17) rfl rfl (by omega) (by decide) (Nat.le_of_ble_eq_true rfl) dX10_dusk_78 ?_
        refine dz_aload_n (pc := 81) C dX10_dusk_81 rfl 1 rfl ?_
        refine dz_iload_n (pc := 82) C dX10_dusk_82 rfl 3 rfl ?_
        refine dz_iconst (pc := 83) (v := (5 : Int32)) C dX10_dusk_83 (by decide) ?_
        refine dz_iconst (pc := 84) (v := (-1 : Int32)) C dX10_dusk_84 (by decide) ?_
        obtain ⟨q18, eq18, h⟩ := dt_bind h
        refine dz_callVv (pc := 85) (st := []) (k := 18) (As := [.int x2, .int (5 : Int32), .int (-1 : Int32)]) (M' := (dt_put M 18 q18)) C Fc_X10 hk_18 mf_X10_gives rfl ml_X10_90 (m_X10_gives l _ _ _ _ _ eq18) rfl rfl (by omega) (by decide) (Nat.le_of_ble_eq_true rfl) dX10_dusk_85 ?_
        refine dz_aload_n (pc := 88) C dX10_dusk_88 rfl 1 rfl ?_
        refine dz_iload_n (pc := 89) C dX10_dusk_89 rfl 3 rfl ?_
        refine dz_bipush (pc := 90) (v := (6 : Int32)) C dX10_dusk_90 (by decide) ?_
        refine dz_iconst (pc := 92) (v := (-1 : Int32)) C dX10_dusk_92 (by decide) ?_
        obtain ⟨q19, eq19, h⟩ := dt_bind h
        refine dz_callVv (pc := 93) (st := []) (k := 18) (As := [.int x2, .int (6 : Int32), .int (-1 : Int32)]) (M' := (dt_put M 18 q19)) C Fc_X10 hk_18 mf_X10_gives rfl ml_X10_90 (m_X10_gives l _ _ _ _ _ eq19) rfl rfl (by omega) (by decide) (Nat.le_of_ble_eq_true rfl) dX10_dusk_93 ?_
        refine dz_sub [1, 2, 3] rfl ?_
        exact tX10_dusk_96 C hr ih x1 x2 q19 h
      · refine dz_goto (pc := 28) (t := 96) C dX10_dusk_28 (by decide) ?_
        exact tX10_dusk_96 C hr ih x1 x2 T h
def fX10_dusk  (T : dt_Ob) : Option (Int32 × dt_Ob) := ((fX10_judges (1 : Int32) T).bind fun q1 => (fX10_dusk_8 dt_F q1.1 (0 : Int32) q1.2))
set_option maxRecDepth 10000 in
set_option maxHeartbeats 4000000 in
theorem m_X10_dusk (l : Launch)  (M : dt_M) (T : dt_Ob)   {res : Int32 × dt_Ob} (h : fX10_dusk T = some res) : dt_Met 1 l yX10_dusk cX10_dusk 4 (some .int) 4 (fun G => [.ref (G.1 18 0)]) (dt_put M 18 T) (some (.int res.1)) (dt_put M 18 res.2) := by
  refine dz_enter (lv := fun G => [(0, .ref (G.1 18 0))]) (by decide) (fun _ => rfl) (fun _ => Nat.le_of_ble_eq_true rfl) (fun G A p e s m args below meth c C hr => ?_)
  unfold fX10_dusk at h
  refine dz_aload_n (pc := 0) C dX10_dusk_0 rfl 0 rfl ?_
  refine dz_iconst (pc := 1) (v := (1 : Int32)) C dX10_dusk_1 (by decide) ?_
  obtain ⟨q1, eq1, h⟩ := dt_bind h
  refine dz_callVi (pc := 2) (st := []) (k := 18) (As := [.int (1 : Int32)]) (M' := (dt_put M 18 q1.2)) C Fc_X10 hk_18 mf_X10_judges rfl ml_X10_304 (m_X10_judges l _ _ _ eq1) rfl rfl (by omega) (by decide) (Nat.le_of_ble_eq_true rfl) dX10_dusk_2 ?_
  refine dz_istore_n (pc := 5) C dX10_dusk_5 rfl (by decide) rfl ?_
  refine dz_iconst (pc := 6) (v := (0 : Int32)) C dX10_dusk_6 (by decide) ?_
  refine dz_istore_n (pc := 7) C dX10_dusk_7 rfl (by decide) rfl ?_
  refine dz_sub [2, 1, 0] rfl ?_
  exact tX10_dusk_8 C hr dt_F q1.1 (0 : Int32) q1.2 h

def fX10_goesOn_234 (rc : Int32 → Int32 → Int32 → Int32 → dt_Ob → Option (dt_Ob)) (r99 : Int32 → Int32 → Int32 → Int32 → Int32 → dt_Ob → Option (dt_Ob)) (x1 : Int32) (x2 : Int32) (x3 : Int32) (x4 : Int32) (x6 : Int32) (T : dt_Ob) : Option (dt_Ob) := (r99 x1 x2 x3 x4 (x6 + (1 : Int32)) T)
set_option maxRecDepth 10000 in
set_option maxHeartbeats 4000000 in
theorem tX10_goesOn_234 {G : dt_G} {A : Nat → Prop} {p : Program} {l : Launch} {e : Env} {s : State} {m : MethodId} {args : Array Value} {below : List Frame} {meth : Method} {c : Code} (C : dt_Cx 1 G A p s m args meth c cX10_goesOn 9 RX10) (hr : meth.sig.returnType = none) {M : dt_M} {hN : Nat} (hGB : 5 ≤ hN) {rc : Int32 → Int32 → Int32 → Int32 → dt_Ob → Option (dt_Ob)} (hrc : ∀ (M : dt_M) (T : dt_Ob) (x1 : Int32) (x2 : Int32) (x3 : Int32) (x4 : Int32) {res : dt_Ob}, rc x1 x2 x3 x4 T = some res → dt_Met 1 l yX10_goesOn cX10_goesOn 9 none hN (fun G => [.ref (G.1 18 0), .int x1, .int x2, .int x3, .int x4]) (dt_put M 18 T) none (dt_put M 18 res)) {res : dt_Ob} {r99 : Int32 → Int32 → Int32 → Int32 → Int32 → dt_Ob → Option (dt_Ob)} (hr99 : ∀ (x1 : Int32) (x2 : Int32) (x3 : Int32) (x4 : Int32) (x6 : Int32) (T : dt_Ob), r99 x1 x2 x3 x4 x6 T = some res → dt_At G A p l e (dt_rm (hN + 1)) s m args below meth c 9 (MQ below (dt_Post G A none (dt_put M 18 res)) args s 0 0 A) 99 [(0, .ref (G.1 18 0)), (1, .int x1), (2, .int x2), (3, .int x3), (4, .int x4), (6, .int x6)] [] (dt_put M 18 T)) : ∀ (x1 : Int32) (x2 : Int32) (x3 : Int32) (x4 : Int32) (x6 : Int32) (T : dt_Ob), fX10_goesOn_234 rc r99 x1 x2 x3 x4 x6 T = some res → dt_At G A p l e (dt_rm (hN + 1)) s m args below meth c 9 (MQ below (dt_Post G A none (dt_put M 18 res)) args s 0 0 A) 234 [(0, .ref (G.1 18 0)), (1, .int x1), (2, .int x2), (3, .int x3), (4, .int x4), (6, .int x6)] [] (dt_put M 18 T) := by
  intro x1 x2 x3 x4 x6 T h
  unfold fX10_goesOn_234 at h
  refine dz_iinc (pc := 234) (v := (x6 + (1 : Int32))) C dX10_goesOn_234 5 rfl rfl (by decide) rfl ?_
  refine dz_goto (pc := 237) (t := 99) C dX10_goesOn_237 (by decide) ?_
  refine dz_sub [1, 2, 3, 4, 5, 0] rfl ?_
  exact hr99 x1 x2 x3 x4 (x6 + (1 : Int32)) T h
def fX10_goesOn_212 (rc : Int32 → Int32 → Int32 → Int32 → dt_Ob → Option (dt_Ob)) (r99 : Int32 → Int32 → Int32 → Int32 → Int32 → dt_Ob → Option (dt_Ob)) (r134 : Int32 → Int32 → Int32 → Int32 → Int32 → Int32 → Int32 → dt_Ob → Option (dt_Ob)) (x1 : Int32) (x2 : Int32) (x3 : Int32) (x4 : Int32) (x6 : Int32) (x7 : Int32) (x8 : Int32) (T : dt_Ob) : Option (dt_Ob) := ((dt_ix x7 20).bind fun a17 => ((dt_ix x7 20).bind fun a18 => (r134 x1 x2 x3 x4 x6 x7 (x8 + (1 : Int32)) (dt_set (dt_set T 7 a17 (-1 : Int32)) 8 a18 (-1 : Int32)))))
set_option maxRecDepth 10000 in
set_option maxHeartbeats 4000000 in
theorem tX10_goesOn_212 {G : dt_G} {A : Nat → Prop} {p : Program} {l : Launch} {e : Env} {s : State} {m : MethodId} {args : Array Value} {below : List Frame} {meth : Method} {c : Code} (C : dt_Cx 1 G A p s m args meth c cX10_goesOn 9 RX10) (hr : meth.sig.returnType = none) {M : dt_M} {hN : Nat} (hGB : 5 ≤ hN) {rc : Int32 → Int32 → Int32 → Int32 → dt_Ob → Option (dt_Ob)} (hrc : ∀ (M : dt_M) (T : dt_Ob) (x1 : Int32) (x2 : Int32) (x3 : Int32) (x4 : Int32) {res : dt_Ob}, rc x1 x2 x3 x4 T = some res → dt_Met 1 l yX10_goesOn cX10_goesOn 9 none hN (fun G => [.ref (G.1 18 0), .int x1, .int x2, .int x3, .int x4]) (dt_put M 18 T) none (dt_put M 18 res)) {res : dt_Ob} {r99 : Int32 → Int32 → Int32 → Int32 → Int32 → dt_Ob → Option (dt_Ob)} (hr99 : ∀ (x1 : Int32) (x2 : Int32) (x3 : Int32) (x4 : Int32) (x6 : Int32) (T : dt_Ob), r99 x1 x2 x3 x4 x6 T = some res → dt_At G A p l e (dt_rm (hN + 1)) s m args below meth c 9 (MQ below (dt_Post G A none (dt_put M 18 res)) args s 0 0 A) 99 [(0, .ref (G.1 18 0)), (1, .int x1), (2, .int x2), (3, .int x3), (4, .int x4), (6, .int x6)] [] (dt_put M 18 T)) {r134 : Int32 → Int32 → Int32 → Int32 → Int32 → Int32 → Int32 → dt_Ob → Option (dt_Ob)} (hr134 : ∀ (x1 : Int32) (x2 : Int32) (x3 : Int32) (x4 : Int32) (x6 : Int32) (x7 : Int32) (x8 : Int32) (T : dt_Ob), r134 x1 x2 x3 x4 x6 x7 x8 T = some res → dt_At G A p l e (dt_rm (hN + 1)) s m args below meth c 9 (MQ below (dt_Post G A none (dt_put M 18 res)) args s 0 0 A) 134 [(0, .ref (G.1 18 0)), (1, .int x1), (2, .int x2), (3, .int x3), (4, .int x4), (6, .int x6), (7, .int x7), (8, .int x8)] [] (dt_put M 18 T)) : ∀ (x1 : Int32) (x2 : Int32) (x3 : Int32) (x4 : Int32) (x6 : Int32) (x7 : Int32) (x8 : Int32) (T : dt_Ob), fX10_goesOn_212 rc r99 r134 x1 x2 x3 x4 x6 x7 x8 T = some res → dt_At G A p l e (dt_rm (hN + 1)) s m args below meth c 9 (MQ below (dt_Post G A none (dt_put M 18 res)) args s 0 0 A) 212 [(0, .ref (G.1 18 0)), (1, .int x1), (2, .int x2), (3, .int x3), (4, .int x4), (6, .int x6), (7, .int x7), (8, .int x8)] [] (dt_put M 18 T) := by
  intro x1 x2 x3 x4 x6 x7 x8 T h
  unfold fX10_goesOn_212 at h
  refine dz_aload_n (pc := 212) C dX10_goesOn_212 rfl 0 rfl ?_
  refine dz_getR (pc := 213) (k := 18) (j := 7) C Fc_X10 hk_18 (by decide) (by decide) rfl fl_X10_23 dX10_goesOn_213 ?_
  refine dz_iload (pc := 216) C dX10_goesOn_216 6 rfl ?_
  refine dz_iconst (pc := 218) (v := (-1 : Int32)) C dX10_goesOn_218 (by decide) ?_
  refine dz_iast (pc := 219) (k := 18) (j := 7) (n := 20) (M' := fun a17 => (dt_put M 18 (dt_set T 7 a17 (-1 : Int32)))) C hk_18 (by decide) rfl (fun a17 => (dt_wA _ _ _ _ _ _)) dX10_goesOn_219 h (fun a17 h => ?_)
  refine dz_aload_n (pc := 220) C dX10_goesOn_220 rfl 0 rfl ?_
  refine dz_getR (pc := 221) (k := 18) (j := 8) C Fc_X10 hk_18 (by decide) (by decide) rfl fl_X10_26 dX10_goesOn_221 ?_
  refine dz_iload (pc := 224) C dX10_goesOn_224 6 rfl ?_
  refine dz_iconst (pc := 226) (v := (-1 : Int32)) C dX10_goesOn_226 (by decide) ?_
  refine dz_iast (pc := 227) (k := 18) (j := 8) (n := 20) (M' := fun a18 => (dt_put M 18 (dt_set (dt_set T 7 a17 (-1 : Int32)) 8 a18 (-1 : Int32)))) C hk_18 (by decide) rfl (fun a18 => (dt_wA _ _ _ _ _ _)) dX10_goesOn_227 h (fun a18 h => ?_)
  refine dz_iinc (pc := 228) (v := (x8 + (1 : Int32))) C dX10_goesOn_228 7 rfl rfl (by decide) rfl ?_
  refine dz_goto (pc := 231) (t := 134) C dX10_goesOn_231 (by decide) ?_
  refine dz_sub [1, 2, 3, 4, 5, 6, 7, 0] rfl ?_
  exact hr134 x1 x2 x3 x4 x6 x7 (x8 + (1 : Int32)) (dt_set (dt_set T 7 a17 (-1 : Int32)) 8 a18 (-1 : Int32)) h
def fX10_goesOn_134 (rc : Int32 → Int32 → Int32 → Int32 → dt_Ob → Option (dt_Ob)) (r99 : Int32 → Int32 → Int32 → Int32 → Int32 → dt_Ob → Option (dt_Ob)) : Nat → Int32 → Int32 → Int32 → Int32 → Int32 → Int32 → Int32 → dt_Ob → Option (dt_Ob)
  | 0, _, _, _, _, _, _, _, _ => none
  | n + 1, x1, x2, x3, x4, x6, x7, x8, T => ((dt_ix (0 : Int32) 1225).bind fun a8 => ((fX10_own x7 (0 : Int32) T).bind fun q9 => (if (((T 0) a8) - q9) < x8 then (fX10_goesOn_234 rc r99 x1 x2 x3 x4 x6 T) else ((fX10_lays x7 x8 T).bind fun q10 => (if q10.1 = 0 then ((dt_ix x1 5).bind fun a11 => ((dt_ix x1 5).bind fun a12 => ((fX10_own x7 (4 : Int32) (dt_set (dt_set q10.2 29 a11 x7) 30 a12 x8)).bind fun q13 => ((dt_ix x7 20).bind fun a14 => ((fX10_costOf q13 x8 ((q10.2 8) a14) (dt_set (dt_set q10.2 29 a11 x7) 30 a12 x8)).bind fun q15 => ((rc (x1 + (1 : Int32)) x2 x3 (x4 + q15) (dt_set (dt_set q10.2 29 a11 x7) 30 a12 x8)).bind fun q16 => (fX10_goesOn_212 rc r99 (fX10_goesOn_134 rc r99 n) x1 x2 x3 x4 x6 x7 x8 q16))))))) else (fX10_goesOn_212 rc r99 (fX10_goesOn_134 rc r99 n) x1 x2 x3 x4 x6 x7 x8 q10.2))))))
set_option maxRecDepth 10000 in
set_option maxHeartbeats 4000000 in
theorem tX10_goesOn_134 {G : dt_G} {A : Nat → Prop} {p : Program} {l : Launch} {e : Env} {s : State} {m : MethodId} {args : Array Value} {below : List Frame} {meth : Method} {c : Code} (C : dt_Cx 1 G A p s m args meth c cX10_goesOn 9 RX10) (hr : meth.sig.returnType = none) {M : dt_M} {hN : Nat} (hGB : 5 ≤ hN) {rc : Int32 → Int32 → Int32 → Int32 → dt_Ob → Option (dt_Ob)} (hrc : ∀ (M : dt_M) (T : dt_Ob) (x1 : Int32) (x2 : Int32) (x3 : Int32) (x4 : Int32) {res : dt_Ob}, rc x1 x2 x3 x4 T = some res → dt_Met 1 l yX10_goesOn cX10_goesOn 9 none hN (fun G => [.ref (G.1 18 0), .int x1, .int x2, .int x3, .int x4]) (dt_put M 18 T) none (dt_put M 18 res)) {res : dt_Ob} {r99 : Int32 → Int32 → Int32 → Int32 → Int32 → dt_Ob → Option (dt_Ob)} (hr99 : ∀ (x1 : Int32) (x2 : Int32) (x3 : Int32) (x4 : Int32) (x6 : Int32) (T : dt_Ob), r99 x1 x2 x3 x4 x6 T = some res → dt_At G A p l e (dt_rm (hN + 1)) s m args below meth c 9 (MQ below (dt_Post G A none (dt_put M 18 res)) args s 0 0 A) 99 [(0, .ref (G.1 18 0)), (1, .int x1), (2, .int x2), (3, .int x3), (4, .int x4), (6, .int x6)] [] (dt_put M 18 T)) : ∀ (n : Nat) (x1 : Int32) (x2 : Int32) (x3 : Int32) (x4 : Int32) (x6 : Int32) (x7 : Int32) (x8 : Int32) (T : dt_Ob), fX10_goesOn_134 rc r99 n x1 x2 x3 x4 x6 x7 x8 T = some res → dt_At G A p l e (dt_rm (hN + 1)) s m args below meth c 9 (MQ below (dt_Post G A none (dt_put M 18 res)) args s 0 0 A) 134 [(0, .ref (G.1 18 0)), (1, .int x1), (2, .int x2), (3, .int x3), (4, .int x4), (6, .int x6), (7, .int x7), (8, .int x8)] [] (dt_put M 18 T) := by
  intro n
  induction n with
  | zero =>
    intro x1 x2 x3 x4 x6 x7 x8 T h
    unfold fX10_goesOn_134 at h
    cases h
  | succ n ih =>
    intro x1 x2 x3 x4 x6 x7 x8 T h
    unfold fX10_goesOn_134 at h
    refine dz_iload (pc := 134) C dX10_goesOn_134 7 rfl ?_
    refine dz_aload_n (pc := 136) C dX10_goesOn_136 rfl 0 rfl ?_
    refine dz_getR (pc := 137) (k := 18) (j := 0) C Fc_X10 hk_18 (by decide) (by decide) rfl fl_X10_7 dX10_goesOn_137 ?_
    refine dz_iconst (pc := 140) (v := (0 : Int32)) C dX10_goesOn_140 (by decide) ?_
    refine dz_iald (pc := 141) (k := 18) (j := 0) (n := 1225) (f := (T 0)) C hk_18 (by decide) rfl (dt_rAf _ _ _ _) dX10_goesOn_141 h (fun a8 h => ?_)
    refine dz_aload_n (pc := 142) C dX10_goesOn_142 rfl 0 rfl ?_
    refine dz_iload (pc := 143) C dX10_goesOn_143 6 rfl ?_
    refine dz_iconst (pc := 145) (v := (0 : Int32)) C dX10_goesOn_145 (by decide) ?_
    obtain ⟨q9, eq9, h⟩ := dt_bind h
    refine dz_callVi (pc := 146) (st := [.int ((T 0) a8), .int x8]) (k := 18) (As := [.int x7, .int (0 : Int32)]) (M' := (dt_put M 18 T)) C Fc_X10 hk_18 mf_X10_own rfl ml_X10_94 (m_X10_own l _ _ _ _ eq9) rfl rfl (by omega) (by decide) (Nat.le_of_ble_eq_true rfl) dX10_goesOn_146 ?_
    refine dz_isub (pc := 149) C dX10_goesOn_149 ?_
    refine dz_icmp_gt (pc := 150) (t := 234) C dX10_goesOn_150 (by decide) h (fun h => ?_) (fun h => ?_)
    · refine dz_sub [0, 1, 2, 3, 4, 5] rfl ?_
      exact tX10_goesOn_234 C hr hGB hrc hr99 x1 x2 x3 x4 x6 T h
    · refine dz_aload_n (pc := 153) C dX10_goesOn_153 rfl 0 rfl ?_
      refine dz_iload (pc := 154) C dX10_goesOn_154 6 rfl ?_
      refine dz_iload (pc := 156) C dX10_goesOn_156 7 rfl ?_
      obtain ⟨q10, eq10, h⟩ := dt_bind h
      refine dz_callVi (pc := 158) (st := []) (k := 18) (As := [.int x7, .int x8]) (M' := (dt_put M 18 q10.2)) C Fc_X10 hk_18 mf_X10_lays rfl ml_X10_141 (m_X10_lays l _ _ _ _ eq10) rfl rfl (by omega) (by decide) (Nat.le_of_ble_eq_true rfl) dX10_goesOn_158 ?_
      refine dz_if_ne (pc := 161) (t := 212) C dX10_goesOn_161 (by decide) h (fun h => ?_) (fun h => ?_)
      · exact tX10_goesOn_212 C hr hGB hrc hr99 ih x1 x2 x3 x4 x6 x7 x8 q10.2 h
      · refine dz_aload_n (pc := 164) C dX10_goesOn_164 rfl 0 rfl ?_
        refine dz_getR (pc := 165) (k := 18) (j := 29) C Fc_X10 hk_18 (by decide) (by decide) rfl fl_X10_58 dX10_goesOn_165 ?_
        refine dz_iload_n (pc := 168) C dX10_goesOn_168 rfl 1 rfl ?_
        refine dz_iload (pc := 169) C dX10_goesOn_169 6 rfl ?_
        refine dz_iast (pc := 171) (k := 18) (j := 29) (n := 5) (M' := fun a11 => (dt_put M 18 (dt_set q10.2 29 a11 x7))) C hk_18 (by decide) rfl (fun a11 => (dt_wA _ _ _ _ _ _)) dX10_goesOn_171 h (fun a11 h => ?_)
        refine dz_aload_n (pc := 172) C dX10_goesOn_172 rfl 0 rfl ?_
        refine dz_getR (pc := 173) (k := 18) (j := 30) C Fc_X10 hk_18 (by decide) (by decide) rfl fl_X10_61 dX10_goesOn_173 ?_
        refine dz_iload_n (pc := 176) C dX10_goesOn_176 rfl 1 rfl ?_
        refine dz_iload (pc := 177) C dX10_goesOn_177 7 rfl ?_
        refine dz_iast (pc := 179) (k := 18) (j := 30) (n := 5) (M' := fun a12 => (dt_put M 18 (dt_set (dt_set q10.2 29 a11 x7) 30 a12 x8))) C hk_18 (by decide) rfl (fun a12 => (dt_wA _ _ _ _ _ _)) dX10_goesOn_179 h (fun a12 h => ?_)
        refine dz_aload_n (pc := 180) C dX10_goesOn_180 rfl 0 rfl ?_
        refine dz_iload_n (pc := 181) C dX10_goesOn_181 rfl 1 rfl ?_
        refine dz_iconst (pc := 182) (v := (1 : Int32)) C dX10_goesOn_182 (by decide) ?_
        refine dz_iadd (pc := 183) C dX10_goesOn_183 ?_
        refine dz_iload_n (pc := 184) C dX10_goesOn_184 rfl 2 rfl ?_
        refine dz_iload_n (pc := 185) C dX10_goesOn_185 rfl 3 rfl ?_
        refine dz_iload (pc := 186) C dX10_goesOn_186 4 rfl ?_
        refine dz_aload_n (pc := 188) C dX10_goesOn_188 rfl 0 rfl ?_
        refine dz_aload_n (pc := 189) C dX10_goesOn_189 rfl 0 rfl ?_
        refine dz_iload (pc := 190) C dX10_goesOn_190 6 rfl ?_
        refine dz_iconst (pc := 192) (v := (4 : Int32)) C dX10_goesOn_192 (by decide) ?_
        obtain ⟨q13, eq13, h⟩ := dt_bind h
        refine dz_callVi (pc := 193) (st := [.ref (G.1 18 0), .int x4, .int x3, .int x2, .int (x1 + (1 : Int32)), .ref (G.1 18 0)]) (k := 18) (As := [.int x7, .int (4 : Int32)]) (M' := (dt_put M 18 (dt_set (dt_set q10.2 29 a11 x7) 30 a12 x8))) C Fc_X10 hk_18 mf_X10_own rfl ml_X10_94 (m_X10_own l _ _ _ _ eq13) rfl rfl (by omega) (by decide) (Nat.le_of_ble_eq_true rfl) dX10_goesOn_193 ?_
        refine dz_iload (pc := 196) C dX10_goesOn_196 7 rfl ?_
        refine dz_aload_n (pc := 198) C dX10_goesOn_198 rfl 0 rfl ?_
        refine dz_getR (pc := 199) (k := 18) (j := 8) C Fc_X10 hk_18 (by decide) (by decide) rfl fl_X10_26 dX10_goesOn_199 ?_
        refine dz_iload (pc := 202) C dX10_goesOn_202 6 rfl ?_
        refine dz_iald (pc := 204) (k := 18) (j := 8) (n := 20) (f := (q10.2 8)) C hk_18 (by decide) rfl (dt_rAf _ _ _ _) dX10_goesOn_204 h (fun a14 h => ?_)
        obtain ⟨q15, eq15, h⟩ := dt_bind h
        refine dz_callVi (pc := 205) (st := [.int x4, .int x3, .int x2, .int (x1 + (1 : Int32)), .ref (G.1 18 0)]) (k := 18) (As := [.int q13, .int x8, .int ((q10.2 8) a14)]) (M' := (dt_put M 18 (dt_set (dt_set q10.2 29 a11 x7) 30 a12 x8))) C Fc_X10 hk_18 mf_X10_costOf rfl ml_X10_144 (m_X10_costOf l _ _ _ _ _ eq15) rfl rfl (by omega) (by decide) (Nat.le_of_ble_eq_true rfl) dX10_goesOn_205 ?_
        refine dz_iadd (pc := 208) C dX10_goesOn_208 ?_
        obtain ⟨q16, eq16, h⟩ := dt_bind h
        refine dz_callVv (pc := 209) (st := []) (k := 18) (As := [.int (x1 + (1 : Int32)), .int x2, .int x3, .int (x4 + q15)]) (M' := (dt_put M 18 q16)) C Fc_X10 hk_18 mf_X10_goesOn rfl ml_X10_313 (hrc _ _ _ _ _ _ eq16) rfl rfl (by omega) (by decide) (Nat.le_of_ble_eq_true rfl) dX10_goesOn_209 ?_
        exact tX10_goesOn_212 C hr hGB hrc hr99 ih x1 x2 x3 x4 x6 x7 x8 q16 h
def fX10_goesOn_99 (rc : Int32 → Int32 → Int32 → Int32 → dt_Ob → Option (dt_Ob))  : Nat → Int32 → Int32 → Int32 → Int32 → Int32 → dt_Ob → Option (dt_Ob)
  | 0, _, _, _, _, _, _ => none
  | n + 1, x1, x2, x3, x4, x6, T => (if (T 33 0) ≤ x6 then (some T) else ((dt_ix x6 6).bind fun a6 => ((dt_ix ((T 28) a6) 20).bind fun a7 => (if ((T 7) a7) = (-1 : Int32) then (fX10_goesOn_134 rc (fX10_goesOn_99 rc n) dt_F x1 x2 x3 x4 x6 ((T 28) a6) (0 : Int32) T) else (fX10_goesOn_234 rc (fX10_goesOn_99 rc n) x1 x2 x3 x4 x6 T)))))
set_option maxRecDepth 10000 in
set_option maxHeartbeats 4000000 in
theorem tX10_goesOn_99 {G : dt_G} {A : Nat → Prop} {p : Program} {l : Launch} {e : Env} {s : State} {m : MethodId} {args : Array Value} {below : List Frame} {meth : Method} {c : Code} (C : dt_Cx 1 G A p s m args meth c cX10_goesOn 9 RX10) (hr : meth.sig.returnType = none) {M : dt_M} {hN : Nat} (hGB : 5 ≤ hN) {rc : Int32 → Int32 → Int32 → Int32 → dt_Ob → Option (dt_Ob)} (hrc : ∀ (M : dt_M) (T : dt_Ob) (x1 : Int32) (x2 : Int32) (x3 : Int32) (x4 : Int32) {res : dt_Ob}, rc x1 x2 x3 x4 T = some res → dt_Met 1 l yX10_goesOn cX10_goesOn 9 none hN (fun G => [.ref (G.1 18 0), .int x1, .int x2, .int x3, .int x4]) (dt_put M 18 T) none (dt_put M 18 res)) {res : dt_Ob}  : ∀ (n : Nat) (x1 : Int32) (x2 : Int32) (x3 : Int32) (x4 : Int32) (x6 : Int32) (T : dt_Ob), fX10_goesOn_99 rc n x1 x2 x3 x4 x6 T = some res → dt_At G A p l e (dt_rm (hN + 1)) s m args below meth c 9 (MQ below (dt_Post G A none (dt_put M 18 res)) args s 0 0 A) 99 [(0, .ref (G.1 18 0)), (1, .int x1), (2, .int x2), (3, .int x3), (4, .int x4), (6, .int x6)] [] (dt_put M 18 T) := by
  intro n
  induction n with
  | zero =>
    intro x1 x2 x3 x4 x6 T h
    unfold fX10_goesOn_99 at h
    cases h
  | succ n ih =>
    intro x1 x2 x3 x4 x6 T h
    unfold fX10_goesOn_99 at h
    refine dz_iload (pc := 99) C dX10_goesOn_99 5 rfl ?_
    refine dz_aload_n (pc := 101) C dX10_goesOn_101 rfl 0 rfl ?_
    refine dz_getI (pc := 102) (k := 18) (j := 33) (v := (T 33 0)) C Fc_X10 hk_18 (by decide) rfl rfl fl_X10_310 (dt_rA _ _ _ _ _) dX10_goesOn_102 ?_
    refine dz_icmp_ge (pc := 105) (t := 240) C dX10_goesOn_105 (by decide) h (fun h => ?_) (fun h => ?_)
    · cases dt_some h
      exact dz_vret (pc := 240) C hr dX10_goesOn_240
    · refine dz_aload_n (pc := 108) C dX10_goesOn_108 rfl 0 rfl ?_
      refine dz_getR (pc := 109) (k := 18) (j := 28) C Fc_X10 hk_18 (by decide) (by decide) rfl fl_X10_55 dX10_goesOn_109 ?_
      refine dz_iload (pc := 112) C dX10_goesOn_112 5 rfl ?_
      refine dz_iald (pc := 114) (k := 18) (j := 28) (n := 6) (f := (T 28)) C hk_18 (by decide) rfl (dt_rAf _ _ _ _) dX10_goesOn_114 h (fun a6 h => ?_)
      refine dz_istore (pc := 115) C dX10_goesOn_115 (by decide) rfl ?_
      refine dz_aload_n (pc := 117) C dX10_goesOn_117 rfl 1 rfl ?_
      refine dz_getR (pc := 118) (k := 18) (j := 7) C Fc_X10 hk_18 (by decide) (by decide) rfl fl_X10_23 dX10_goesOn_118 ?_
      refine dz_iload (pc := 121) C dX10_goesOn_121 0 rfl ?_
      refine dz_iald (pc := 123) (k := 18) (j := 7) (n := 20) (f := (T 7)) C hk_18 (by decide) rfl (dt_rAf _ _ _ _) dX10_goesOn_123 h (fun a7 h => ?_)
      refine dz_iconst (pc := 124) (v := (-1 : Int32)) C dX10_goesOn_124 (by decide) ?_
      refine dz_icmp_eq (pc := 125) (t := 131) C dX10_goesOn_125 (by decide) h (fun h => ?_) (fun h => ?_)
      · refine dz_iconst (pc := 131) (v := (0 : Int32)) C dX10_goesOn_131 (by decide) ?_
        refine dz_istore (pc := 132) C dX10_goesOn_132 (by decide) rfl ?_
        refine dz_sub [2, 3, 4, 5, 6, 7, 1, 0] rfl ?_
        exact tX10_goesOn_134 C hr hGB hrc ih dt_F x1 x2 x3 x4 x6 ((T 28) a6) (0 : Int32) T h
      · refine dz_goto (pc := 128) (t := 234) C dX10_goesOn_128 (by decide) ?_
        refine dz_sub [1, 2, 3, 4, 5, 6] rfl ?_
        exact tX10_goesOn_234 C hr hGB hrc ih x1 x2 x3 x4 x6 T h
def fX10_goesOn_44 (rc : Int32 → Int32 → Int32 → Int32 → dt_Ob → Option (dt_Ob))  : Nat → Int32 → Int32 → dt_Ob → Option (dt_Ob)
  | 0, _, _, _ => none
  | n + 1, x2, x6, T => (if x2 ≤ x6 then (some T) else ((dt_ix x6 5).bind fun a2 => ((dt_ix x6 5).bind fun a3 => ((dt_ix x6 5).bind fun a4 => ((dt_ix x6 5).bind fun a5 => ((fX10_goesOn_44 rc n) x2 (x6 + (1 : Int32)) (dt_set (dt_set T 31 a3 ((T 29) a2)) 32 a5 ((T 30) a4))))))))
set_option maxRecDepth 10000 in
set_option maxHeartbeats 4000000 in
theorem tX10_goesOn_44 {G : dt_G} {A : Nat → Prop} {p : Program} {l : Launch} {e : Env} {s : State} {m : MethodId} {args : Array Value} {below : List Frame} {meth : Method} {c : Code} (C : dt_Cx 1 G A p s m args meth c cX10_goesOn 9 RX10) (hr : meth.sig.returnType = none) {M : dt_M} {hN : Nat} (hGB : 5 ≤ hN) {rc : Int32 → Int32 → Int32 → Int32 → dt_Ob → Option (dt_Ob)} (hrc : ∀ (M : dt_M) (T : dt_Ob) (x1 : Int32) (x2 : Int32) (x3 : Int32) (x4 : Int32) {res : dt_Ob}, rc x1 x2 x3 x4 T = some res → dt_Met 1 l yX10_goesOn cX10_goesOn 9 none hN (fun G => [.ref (G.1 18 0), .int x1, .int x2, .int x3, .int x4]) (dt_put M 18 T) none (dt_put M 18 res)) {res : dt_Ob}  : ∀ (n : Nat) (x2 : Int32) (x6 : Int32) (T : dt_Ob), fX10_goesOn_44 rc n x2 x6 T = some res → dt_At G A p l e (dt_rm (hN + 1)) s m args below meth c 9 (MQ below (dt_Post G A none (dt_put M 18 res)) args s 0 0 A) 44 [(0, .ref (G.1 18 0)), (2, .int x2), (6, .int x6)] [] (dt_put M 18 T) := by
  intro n
  induction n with
  | zero =>
    intro x2 x6 T h
    unfold fX10_goesOn_44 at h
    cases h
  | succ n ih =>
    intro x2 x6 T h
    unfold fX10_goesOn_44 at h
    refine dz_iload (pc := 44) C dX10_goesOn_44 2 rfl ?_
    refine dz_iload_n (pc := 46) C dX10_goesOn_46 rfl 1 rfl ?_
    refine dz_icmp_ge (pc := 47) (t := 84) C dX10_goesOn_47 (by decide) h (fun h => ?_) (fun h => ?_)
    · cases dt_some h
      exact dz_vret (pc := 84) C hr dX10_goesOn_84
    · refine dz_aload_n (pc := 50) C dX10_goesOn_50 rfl 0 rfl ?_
      refine dz_getR (pc := 51) (k := 18) (j := 31) C Fc_X10 hk_18 (by decide) (by decide) rfl fl_X10_64 dX10_goesOn_51 ?_
      refine dz_iload (pc := 54) C dX10_goesOn_54 2 rfl ?_
      refine dz_aload_n (pc := 56) C dX10_goesOn_56 rfl 0 rfl ?_
      refine dz_getR (pc := 57) (k := 18) (j := 29) C Fc_X10 hk_18 (by decide) (by decide) rfl fl_X10_58 dX10_goesOn_57 ?_
      refine dz_iload (pc := 60) C dX10_goesOn_60 2 rfl ?_
      refine dz_iald (pc := 62) (k := 18) (j := 29) (n := 5) (f := (T 29)) C hk_18 (by decide) rfl (dt_rAf _ _ _ _) dX10_goesOn_62 h (fun a2 h => ?_)
      refine dz_iast (pc := 63) (k := 18) (j := 31) (n := 5) (M' := fun a3 => (dt_put M 18 (dt_set T 31 a3 ((T 29) a2)))) C hk_18 (by decide) rfl (fun a3 => (dt_wA _ _ _ _ _ _)) dX10_goesOn_63 h (fun a3 h => ?_)
      refine dz_aload_n (pc := 64) C dX10_goesOn_64 rfl 0 rfl ?_
      refine dz_getR (pc := 65) (k := 18) (j := 32) C Fc_X10 hk_18 (by decide) (by decide) rfl fl_X10_67 dX10_goesOn_65 ?_
      refine dz_iload (pc := 68) C dX10_goesOn_68 2 rfl ?_
      refine dz_aload_n (pc := 70) C dX10_goesOn_70 rfl 0 rfl ?_
      refine dz_getR (pc := 71) (k := 18) (j := 30) C Fc_X10 hk_18 (by decide) (by decide) rfl fl_X10_61 dX10_goesOn_71 ?_
      refine dz_iload (pc := 74) C dX10_goesOn_74 2 rfl ?_
      refine dz_iald (pc := 76) (k := 18) (j := 30) (n := 5) (f := (T 30)) C hk_18 (by decide) rfl (dt_rAf _ _ _ _) dX10_goesOn_76 h (fun a4 h => ?_)
      refine dz_iast (pc := 77) (k := 18) (j := 32) (n := 5) (M' := fun a5 => (dt_put M 18 (dt_set (dt_set T 31 a3 ((T 29) a2)) 32 a5 ((T 30) a4)))) C hk_18 (by decide) rfl (fun a5 => (dt_wA _ _ _ _ _ _)) dX10_goesOn_77 h (fun a5 h => ?_)
      refine dz_iinc (pc := 78) (v := (x6 + (1 : Int32))) C dX10_goesOn_78 2 rfl rfl (by decide) rfl ?_
      refine dz_goto (pc := 81) (t := 44) C dX10_goesOn_81 (by decide) ?_
      refine dz_sub [1, 2, 0] rfl ?_
      exact ih x2 (x6 + (1 : Int32)) (dt_set (dt_set T 31 a3 ((T 29) a2)) 32 a5 ((T 30) a4)) h
def fX10_goesOn_35 (rc : Int32 → Int32 → Int32 → Int32 → dt_Ob → Option (dt_Ob))  (x2 : Int32) (x4 : Int32) (T : dt_Ob) : Option (dt_Ob) := (fX10_goesOn_44 rc dt_F x2 (0 : Int32) (dt_set T 34 0 x4))
set_option maxRecDepth 10000 in
set_option maxHeartbeats 4000000 in
theorem tX10_goesOn_35 {G : dt_G} {A : Nat → Prop} {p : Program} {l : Launch} {e : Env} {s : State} {m : MethodId} {args : Array Value} {below : List Frame} {meth : Method} {c : Code} (C : dt_Cx 1 G A p s m args meth c cX10_goesOn 9 RX10) (hr : meth.sig.returnType = none) {M : dt_M} {hN : Nat} (hGB : 5 ≤ hN) {rc : Int32 → Int32 → Int32 → Int32 → dt_Ob → Option (dt_Ob)} (hrc : ∀ (M : dt_M) (T : dt_Ob) (x1 : Int32) (x2 : Int32) (x3 : Int32) (x4 : Int32) {res : dt_Ob}, rc x1 x2 x3 x4 T = some res → dt_Met 1 l yX10_goesOn cX10_goesOn 9 none hN (fun G => [.ref (G.1 18 0), .int x1, .int x2, .int x3, .int x4]) (dt_put M 18 T) none (dt_put M 18 res)) {res : dt_Ob}  : ∀ (x2 : Int32) (x4 : Int32) (T : dt_Ob), fX10_goesOn_35 rc x2 x4 T = some res → dt_At G A p l e (dt_rm (hN + 1)) s m args below meth c 9 (MQ below (dt_Post G A none (dt_put M 18 res)) args s 0 0 A) 35 [(0, .ref (G.1 18 0)), (2, .int x2), (4, .int x4)] [] (dt_put M 18 T) := by
  intro x2 x4 T h
  unfold fX10_goesOn_35 at h
  refine dz_aload_n (pc := 35) C dX10_goesOn_35 rfl 0 rfl ?_
  refine dz_iload (pc := 36) C dX10_goesOn_36 2 rfl ?_
  refine dz_putI (pc := 38) (k := 18) (j := 34) (M' := (dt_put M 18 (dt_set T 34 0 x4))) C Fc_X10 hk_18 (by decide) rfl rfl rfl rfl fl_X10_307 (dt_wA _ _ _ _ _ _) dX10_goesOn_38 ?_
  refine dz_iconst (pc := 41) (v := (0 : Int32)) C dX10_goesOn_41 (by decide) ?_
  refine dz_istore (pc := 42) C dX10_goesOn_42 (by decide) rfl ?_
  refine dz_sub [1, 2, 0] rfl ?_
  exact tX10_goesOn_44 C hr hGB hrc dt_F x2 (0 : Int32) (dt_set T 34 0 x4) h
def fX10_goesOn_b (rc : Int32 → Int32 → Int32 → Int32 → dt_Ob → Option (dt_Ob))  (x1 : Int32) (x2 : Int32) (x3 : Int32) (x4 : Int32) (T : dt_Ob) : Option (dt_Ob) := ((fX10_highest T).bind fun q1 => (if x1 = x2 then (if q1 < x3 then (some T) else (if (T 34 0) = (-1 : Int32) then (fX10_goesOn_35 rc x2 x4 T) else (if x4 < (T 34 0) then (fX10_goesOn_35 rc x2 x4 T) else (some T)))) else (if x3 ≤ ((q1 + x2) - x1) then (fX10_goesOn_99 rc dt_F x1 x2 x3 x4 (0 : Int32) T) else (some T))))
def fX10_goesOn  : Nat → Int32 → Int32 → Int32 → Int32 → dt_Ob → Option (dt_Ob)
  | 0, _, _, _, _, _ => none
  | n + 1, x1, x2, x3, x4, T => fX10_goesOn_b (fX10_goesOn n) x1 x2 x3 x4 T
set_option maxRecDepth 10000 in
set_option maxHeartbeats 4000000 in
theorem m_X10_goesOn_b (l : Launch) {hN : Nat} (hGB : 5 ≤ hN) {rc : Int32 → Int32 → Int32 → Int32 → dt_Ob → Option (dt_Ob)} (hrc : ∀ (M : dt_M) (T : dt_Ob) (x1 : Int32) (x2 : Int32) (x3 : Int32) (x4 : Int32) {res : dt_Ob}, rc x1 x2 x3 x4 T = some res → dt_Met 1 l yX10_goesOn cX10_goesOn 9 none hN (fun G => [.ref (G.1 18 0), .int x1, .int x2, .int x3, .int x4]) (dt_put M 18 T) none (dt_put M 18 res)) (M : dt_M) (T : dt_Ob) (x1 : Int32) (x2 : Int32) (x3 : Int32) (x4 : Int32) {res : dt_Ob} (h : fX10_goesOn_b rc x1 x2 x3 x4 T = some res) : dt_Met 1 l yX10_goesOn cX10_goesOn 9 none (hN + 1) (fun G => [.ref (G.1 18 0), .int x1, .int x2, .int x3, .int x4]) (dt_put M 18 T) none (dt_put M 18 res) := by
  refine dz_enter (lv := fun G => [(0, .ref (G.1 18 0)), (1, .int x1), (2, .int x2), (3, .int x3), (4, .int x4)]) (by decide) (fun _ => rfl) (fun _ => Nat.le_of_ble_eq_true rfl) (fun G A p e s m args below meth c C hr => ?_)
  unfold fX10_goesOn_b at h
  refine dz_aload_n (pc := 0) C dX10_goesOn_0 rfl 0 rfl ?_
  obtain ⟨q1, eq1, h⟩ := dt_bind h
  refine dz_callVi (pc := 1) (st := []) (k := 18) (As := []) (M' := (dt_put M 18 T)) C Fc_X10 hk_18 mf_X10_highest rfl ml_X10_167 (m_X10_highest l _ _ eq1) rfl rfl (by omega) (by decide) (Nat.le_of_ble_eq_true rfl) dX10_goesOn_1 ?_
  refine dz_istore (pc := 4) C dX10_goesOn_4 (by decide) rfl ?_
  refine dz_iload_n (pc := 6) C dX10_goesOn_6 rfl 2 rfl ?_
  refine dz_iload_n (pc := 7) C dX10_goesOn_7 rfl 3 rfl ?_
  refine dz_icmp_ne (pc := 8) (t := 85) C dX10_goesOn_8 (by decide) h (fun h => ?_) (fun h => ?_)
  · refine dz_iload (pc := 85) C dX10_goesOn_85 0 rfl ?_
    refine dz_iload_n (pc := 87) C dX10_goesOn_87 rfl 3 rfl ?_
    refine dz_iadd (pc := 88) C dX10_goesOn_88 ?_
    refine dz_iload_n (pc := 89) C dX10_goesOn_89 rfl 2 rfl ?_
    refine dz_isub (pc := 90) C dX10_goesOn_90 ?_
    refine dz_iload_n (pc := 91) C dX10_goesOn_91 rfl 4 rfl ?_
    refine dz_icmp_ge (pc := 92) (t := 96) C dX10_goesOn_92 (by decide) h (fun h => ?_) (fun h => ?_)
    · refine dz_iconst (pc := 96) (v := (0 : Int32)) C dX10_goesOn_96 (by decide) ?_
      refine dz_istore (pc := 97) C dX10_goesOn_97 (by decide) rfl ?_
      refine dz_sub [2, 3, 4, 5, 6, 0] rfl ?_
      exact tX10_goesOn_99 C hr hGB hrc dt_F x1 x2 x3 x4 (0 : Int32) T h
    · cases dt_some h
      exact dz_vret (pc := 95) C hr dX10_goesOn_95
  · refine dz_iload (pc := 11) C dX10_goesOn_11 0 rfl ?_
    refine dz_iload_n (pc := 13) C dX10_goesOn_13 rfl 4 rfl ?_
    refine dz_icmp_lt (pc := 14) (t := 34) C dX10_goesOn_14 (by decide) h (fun h => ?_) (fun h => ?_)
    · cases dt_some h
      exact dz_vret (pc := 34) C hr dX10_goesOn_34
    · refine dz_aload_n (pc := 17) C dX10_goesOn_17 rfl 1 rfl ?_
      refine dz_getI (pc := 18) (k := 18) (j := 34) (v := (T 34 0)) C Fc_X10 hk_18 (by decide) rfl rfl fl_X10_307 (dt_rA _ _ _ _ _) dX10_goesOn_18 ?_
      refine dz_iconst (pc := 21) (v := (-1 : Int32)) C dX10_goesOn_21 (by decide) ?_
      refine dz_icmp_eq (pc := 22) (t := 35) C dX10_goesOn_22 (by decide) h (fun h => ?_) (fun h => ?_)
      · refine dz_sub [1, 3, 5] rfl ?_
        exact tX10_goesOn_35 C hr hGB hrc  x2 x4 T h
      · refine dz_iload (pc := 25) C dX10_goesOn_25 5 rfl ?_
        refine dz_aload_n (pc := 27) C dX10_goesOn_27 rfl 1 rfl ?_
        refine dz_getI (pc := 28) (k := 18) (j := 34) (v := (T 34 0)) C Fc_X10 hk_18 (by decide) rfl rfl fl_X10_307 (dt_rA _ _ _ _ _) dX10_goesOn_28 ?_
        refine dz_icmp_lt (pc := 31) (t := 35) C dX10_goesOn_31 (by decide) h (fun h => ?_) (fun h => ?_)
        · refine dz_sub [1, 3, 5] rfl ?_
          exact tX10_goesOn_35 C hr hGB hrc  x2 x4 T h
        · cases dt_some h
          exact dz_vret (pc := 34) C hr dX10_goesOn_34
theorem m_X10_goesOn_n (l : Launch) : ∀ (n : Nat) (M : dt_M) (T : dt_Ob) (x1 : Int32) (x2 : Int32) (x3 : Int32) (x4 : Int32) {res : dt_Ob}, fX10_goesOn n x1 x2 x3 x4 T = some res → dt_Met 1 l yX10_goesOn cX10_goesOn 9 none (5 + 1 * n) (fun G => [.ref (G.1 18 0), .int x1, .int x2, .int x3, .int x4]) (dt_put M 18 T) none (dt_put M 18 res) := by
  intro n
  induction n with
  | zero =>
    intro M T x1 x2 x3 x4 res h
    unfold fX10_goesOn at h
    cases h
  | succ n ih =>
    intro M T x1 x2 x3 x4 res h
    unfold fX10_goesOn at h
    have e0 : 5 + 1 * (n + 1) = 5 + 1 * n + 1 := by omega
    rw [e0]
    exact m_X10_goesOn_b l  (by omega) (fun M T x1 x2 x3 x4 _ h => ih M T x1 x2 x3 x4 h) M T x1 x2 x3 x4 h
theorem m_X10_goesOn (l : Launch) (M : dt_M) (n : Nat) (T : dt_Ob) (x1 : Int32) (x2 : Int32) (x3 : Int32) (x4 : Int32) {res : dt_Ob} (h : fX10_goesOn n x1 x2 x3 x4 T = some res) : dt_Met 1 l yX10_goesOn cX10_goesOn 9 none (5 + 1 * n) (fun G => [.ref (G.1 18 0), .int x1, .int x2, .int x3, .int x4]) (dt_put M 18 T) none (dt_put M 18 res) := m_X10_goesOn_n l  n M T x1 x2 x3 x4 h

def fX10_plans_122  (x2 : Int32) (x3 : Int32) (T : dt_Ob) : Option (Int32 × dt_Ob) := (if (T 34 0) = (-1 : Int32) then (some ((-1 : Int32), (dt_set T 5 0 x2))) else (some (x3, (dt_set T 5 0 x2))))
set_option maxRecDepth 10000 in
set_option maxHeartbeats 4000000 in
theorem tX10_plans_122 {G : dt_G} {A : Nat → Prop} {p : Program} {l : Launch} {e : Env} {s : State} {m : MethodId} {args : Array Value} {below : List Frame} {meth : Method} {c : Code} (C : dt_Cx 1 G A p s m args meth c cX10_plans 4 RX10) (hr : meth.sig.returnType = (some .int)) {M : dt_M} {res : Int32 × dt_Ob}  : ∀ (x2 : Int32) (x3 : Int32) (T : dt_Ob), fX10_plans_122 x2 x3 T = some res → dt_At G A p l e (dt_rm 30) s m args below meth c 4 (MQ below (dt_Post G A (some (.int res.1)) (dt_put M 18 res.2)) args s 0 0 A) 122 [(0, .ref (G.1 18 0)), (2, .int x2), (3, .int x3)] [] (dt_put M 18 T) := by
  intro x2 x3 T h
  unfold fX10_plans_122 at h
  refine dz_aload_n (pc := 122) C dX10_plans_122 rfl 0 rfl ?_
  refine dz_iload_n (pc := 123) C dX10_plans_123 rfl 1 rfl ?_
  refine dz_putI (pc := 124) (k := 18) (j := 5) (M' := (dt_put M 18 (dt_set T 5 0 x2))) C Fc_X10 hk_18 (by decide) rfl rfl rfl rfl fl_X10_19 (dt_wA _ _ _ _ _ _) dX10_plans_124 ?_
  refine dz_aload_n (pc := 127) C dX10_plans_127 rfl 0 rfl ?_
  refine dz_getI (pc := 128) (k := 18) (j := 34) (v := (T 34 0)) C Fc_X10 hk_18 (by decide) rfl rfl fl_X10_307 (dt_rA _ _ _ _ _) dX10_plans_128 ?_
  refine dz_iconst (pc := 131) (v := (-1 : Int32)) C dX10_plans_131 (by decide) ?_
  refine dz_icmp_ne (pc := 132) (t := 139) C dX10_plans_132 (by decide) h (fun h => ?_) (fun h => ?_)
  · refine dz_iload_n (pc := 139) C dX10_plans_139 rfl 2 rfl ?_
    cases dt_some h
    exact dz_iret (pc := 140) C hr dX10_plans_140
  · refine dz_iconst (pc := 135) (v := (-1 : Int32)) C dX10_plans_135 (by decide) ?_
    refine dz_goto (pc := 136) (t := 140) C dX10_plans_136 (by decide) ?_
    cases dt_some h
    exact dz_iret (pc := 140) C hr dX10_plans_140
def fX10_plans_95  : Nat → Int32 → Int32 → Int32 → dt_Ob → Option (Int32 × dt_Ob)
  | 0, _, _, _, _ => none
  | n + 1, x1, x2, x3, T => (if (5 : Int32) ≤ x3 then (fX10_plans_122 x2 x3 T) else (if (T 34 0) = (-1 : Int32) then ((fX10_goesOn 24 (0 : Int32) (x3 + (1 : Int32)) x1 (0 : Int32) T).bind fun q6 => ((fX10_plans_95 n) x1 x2 (x3 + (1 : Int32)) q6)) else (fX10_plans_122 x2 x3 T)))
set_option maxRecDepth 10000 in
set_option maxHeartbeats 4000000 in
theorem tX10_plans_95 {G : dt_G} {A : Nat → Prop} {p : Program} {l : Launch} {e : Env} {s : State} {m : MethodId} {args : Array Value} {below : List Frame} {meth : Method} {c : Code} (C : dt_Cx 1 G A p s m args meth c cX10_plans 4 RX10) (hr : meth.sig.returnType = (some .int)) {M : dt_M} {res : Int32 × dt_Ob}  : ∀ (n : Nat) (x1 : Int32) (x2 : Int32) (x3 : Int32) (T : dt_Ob), fX10_plans_95 n x1 x2 x3 T = some res → dt_At G A p l e (dt_rm 30) s m args below meth c 4 (MQ below (dt_Post G A (some (.int res.1)) (dt_put M 18 res.2)) args s 0 0 A) 95 [(0, .ref (G.1 18 0)), (1, .int x1), (2, .int x2), (3, .int x3)] [] (dt_put M 18 T) := by
  intro n
  induction n with
  | zero =>
    intro x1 x2 x3 T h
    unfold fX10_plans_95 at h
    cases h
  | succ n ih =>
    intro x1 x2 x3 T h
    unfold fX10_plans_95 at h
    refine dz_iload_n (pc := 95) C dX10_plans_95 rfl 3 rfl ?_
    refine dz_iconst (pc := 96) (v := (5 : Int32)) C dX10_plans_96 (by decide) ?_
    refine dz_icmp_ge (pc := 97) (t := 122) C dX10_plans_97 (by decide) h (fun h => ?_) (fun h => ?_)
    · refine dz_sub [0, 2, 3] rfl ?_
      exact tX10_plans_122 C hr  x2 x3 T h
    · refine dz_aload_n (pc := 100) C dX10_plans_100 rfl 0 rfl ?_
      refine dz_getI (pc := 101) (k := 18) (j := 34) (v := (T 34 0)) C Fc_X10 hk_18 (by decide) rfl rfl fl_X10_307 (dt_rA _ _ _ _ _) dX10_plans_101 ?_
      refine dz_iconst (pc := 104) (v := (-1 : Int32)) C dX10_plans_104 (by decide) ?_
      refine dz_icmp_ne (pc := 105) (t := 122) C dX10_plans_105 (by decide) h (fun h => ?_) (fun h => ?_)
      · refine dz_sub [0, 2, 3] rfl ?_
        exact tX10_plans_122 C hr  x2 x3 T h
      · refine dz_iinc (pc := 108) (v := (x3 + (1 : Int32))) C dX10_plans_108 3 rfl rfl (by decide) rfl ?_
        refine dz_aload_n (pc := 111) C dX10_plans_111 rfl 1 rfl ?_
        refine dz_iconst (pc := 112) (v := (0 : Int32)) C dX10_plans_112 (by decide) ?_
        refine dz_iload_n (pc := 113) C dX10_plans_113 rfl 0 rfl ?_
        refine dz_iload_n (pc := 114) C dX10_plans_114 rfl 2 rfl ?_
        refine dz_iconst (pc := 115) (v := (0 : Int32)) C dX10_plans_115 (by decide) ?_
        obtain ⟨q6, eq6, h⟩ := dt_bind h
        refine dz_callVv (pc := 116) (st := []) (k := 18) (As := [.int (0 : Int32), .int (x3 + (1 : Int32)), .int x1, .int (0 : Int32)]) (M' := (dt_put M 18 q6)) C Fc_X10 hk_18 mf_X10_goesOn rfl ml_X10_313 (m_X10_goesOn l _ 24 _ _ _ _ _ eq6) rfl rfl (by omega) (by decide) (Nat.le_of_ble_eq_true rfl) dX10_plans_116 ?_
        refine dz_goto (pc := 119) (t := 95) C dX10_plans_119 (by decide) ?_
        refine dz_sub [1, 2, 3, 0] rfl ?_
        exact ih x1 x2 (x3 + (1 : Int32)) q6 h
def fX10_plans_61 (r7 : Int32 → Int32 → dt_Ob → Option (Int32 × dt_Ob)) (x1 : Int32) (x2 : Int32) (T : dt_Ob) : Option (Int32 × dt_Ob) := (r7 x1 (x2 + (1 : Int32)) T)
set_option maxRecDepth 10000 in
set_option maxHeartbeats 4000000 in
theorem tX10_plans_61 {G : dt_G} {A : Nat → Prop} {p : Program} {l : Launch} {e : Env} {s : State} {m : MethodId} {args : Array Value} {below : List Frame} {meth : Method} {c : Code} (C : dt_Cx 1 G A p s m args meth c cX10_plans 4 RX10) (hr : meth.sig.returnType = (some .int)) {M : dt_M} {res : Int32 × dt_Ob} {r7 : Int32 → Int32 → dt_Ob → Option (Int32 × dt_Ob)} (hr7 : ∀ (x1 : Int32) (x2 : Int32) (T : dt_Ob), r7 x1 x2 T = some res → dt_At G A p l e (dt_rm 30) s m args below meth c 4 (MQ below (dt_Post G A (some (.int res.1)) (dt_put M 18 res.2)) args s 0 0 A) 7 [(0, .ref (G.1 18 0)), (1, .int x1), (2, .int x2)] [] (dt_put M 18 T)) : ∀ (x1 : Int32) (x2 : Int32) (T : dt_Ob), fX10_plans_61 r7 x1 x2 T = some res → dt_At G A p l e (dt_rm 30) s m args below meth c 4 (MQ below (dt_Post G A (some (.int res.1)) (dt_put M 18 res.2)) args s 0 0 A) 61 [(0, .ref (G.1 18 0)), (1, .int x1), (2, .int x2)] [] (dt_put M 18 T) := by
  intro x1 x2 T h
  unfold fX10_plans_61 at h
  refine dz_iinc (pc := 61) (v := (x2 + (1 : Int32))) C dX10_plans_61 2 rfl rfl (by decide) rfl ?_
  refine dz_goto (pc := 64) (t := 7) C dX10_plans_64 (by decide) ?_
  refine dz_sub [1, 2, 0] rfl ?_
  exact hr7 x1 (x2 + (1 : Int32)) T h
def fX10_plans_7  : Nat → Int32 → Int32 → dt_Ob → Option (Int32 × dt_Ob)
  | 0, _, _, _ => none
  | n + 1, x1, x2, T => ((dt_ix (1 : Int32) 1225).bind fun a1 => (if ((T 0) a1) ≤ x2 then ((dt_ix (0 : Int32) 1225).bind fun a2 => (if ((T 0) a2) ≤ (5 : Int32) then ((fX10_laysTower T).bind fun q3 => (fX10_plans_95 dt_F x1 (T 5 0) (-1 : Int32) (dt_set q3 34 0 (-1 : Int32)))) else (some ((-1 : Int32), T)))) else ((fX10_own x2 (5 : Int32) T).bind fun q4 => (if q4 = (-1 : Int32) then (if (T 33 0) = (6 : Int32) then (some ((-1 : Int32), T)) else ((dt_ix (T 33 0) 6).bind fun a5 => (fX10_plans_61 (fX10_plans_7 n) x1 x2 (dt_set (dt_set T 28 a5 x2) 33 0 ((T 33 0) + (1 : Int32)))))) else (fX10_plans_61 (fX10_plans_7 n) x1 x2 T)))))
set_option maxRecDepth 10000 in
set_option maxHeartbeats 4000000 in
theorem tX10_plans_7 {G : dt_G} {A : Nat → Prop} {p : Program} {l : Launch} {e : Env} {s : State} {m : MethodId} {args : Array Value} {below : List Frame} {meth : Method} {c : Code} (C : dt_Cx 1 G A p s m args meth c cX10_plans 4 RX10) (hr : meth.sig.returnType = (some .int)) {M : dt_M} {res : Int32 × dt_Ob}  : ∀ (n : Nat) (x1 : Int32) (x2 : Int32) (T : dt_Ob), fX10_plans_7 n x1 x2 T = some res → dt_At G A p l e (dt_rm 30) s m args below meth c 4 (MQ below (dt_Post G A (some (.int res.1)) (dt_put M 18 res.2)) args s 0 0 A) 7 [(0, .ref (G.1 18 0)), (1, .int x1), (2, .int x2)] [] (dt_put M 18 T) := by
  intro n
  induction n with
  | zero =>
    intro x1 x2 T h
    unfold fX10_plans_7 at h
    cases h
  | succ n ih =>
    intro x1 x2 T h
    unfold fX10_plans_7 at h
    refine dz_iload_n (pc := 7) C dX10_plans_7 rfl 2 rfl ?_
    refine dz_aload_n (pc := 8) C dX10_plans_8 rfl 0 rfl ?_
    refine dz_getR (pc := 9) (k := 18) (j := 0) C Fc_X10 hk_18 (by decide) (by decide) rfl fl_X10_7 dX10_plans_9 ?_
    refine dz_iconst (pc := 12) (v := (1 : Int32)) C dX10_plans_12 (by decide) ?_
    refine dz_iald (pc := 13) (k := 18) (j := 0) (n := 1225) (f := (T 0)) C hk_18 (by decide) rfl (dt_rAf _ _ _ _) dX10_plans_13 h (fun a1 h => ?_)
    refine dz_icmp_ge (pc := 14) (t := 67) C dX10_plans_14 (by decide) h (fun h => ?_) (fun h => ?_)
    · refine dz_aload_n (pc := 67) C dX10_plans_67 rfl 0 rfl ?_
      refine dz_getR (pc := 68) (k := 18) (j := 0) C Fc_X10 hk_18 (by decide) (by decide) rfl fl_X10_7 dX10_plans_68 ?_
      refine dz_iconst (pc := 71) (v := (0 : Int32)) C dX10_plans_71 (by decide) ?_
      refine dz_iald (pc := 72) (k := 18) (j := 0) (n := 1225) (f := (T 0)) C hk_18 (by decide) rfl (dt_rAf _ _ _ _) dX10_plans_72 h (fun a2 h => ?_)
      refine dz_iconst (pc := 73) (v := (5 : Int32)) C dX10_plans_73 (by decide) ?_
      refine dz_icmp_le (pc := 74) (t := 79) C dX10_plans_74 (by decide) h (fun h => ?_) (fun h => ?_)
      · refine dz_aload_n (pc := 79) C dX10_plans_79 rfl 0 rfl ?_
        refine dz_getI (pc := 80) (k := 18) (j := 5) (v := (T 5 0)) C Fc_X10 hk_18 (by decide) rfl rfl fl_X10_19 (dt_rA _ _ _ _ _) dX10_plans_80 ?_
        refine dz_istore_n (pc := 83) C dX10_plans_83 rfl (by decide) rfl ?_
        refine dz_aload_n (pc := 84) C dX10_plans_84 rfl 1 rfl ?_
        obtain ⟨q3, eq3, h⟩ := dt_bind h
        refine dz_callVv (pc := 85) (st := []) (k := 18) (As := []) (M' := (dt_put M 18 q3)) C Fc_X10 hk_18 mf_X10_laysTower rfl ml_X10_138 (m_X10_laysTower l _ _ eq3) rfl rfl (by omega) (by decide) (Nat.le_of_ble_eq_true rfl) dX10_plans_85 ?_
        refine dz_aload_n (pc := 88) C dX10_plans_88 rfl 1 rfl ?_
        refine dz_iconst (pc := 89) (v := (-1 : Int32)) C dX10_plans_89 (by decide) ?_
        refine dz_putI (pc := 90) (k := 18) (j := 34) (M' := (dt_put M 18 (dt_set q3 34 0 (-1 : Int32)))) C Fc_X10 hk_18 (by decide) rfl rfl rfl rfl fl_X10_307 (dt_wA _ _ _ _ _ _) dX10_plans_90 ?_
        refine dz_iconst (pc := 93) (v := (-1 : Int32)) C dX10_plans_93 (by decide) ?_
        refine dz_istore_n (pc := 94) C dX10_plans_94 rfl (by decide) rfl ?_
        refine dz_sub [2, 3, 1, 0] rfl ?_
        exact tX10_plans_95 C hr dt_F x1 (T 5 0) (-1 : Int32) (dt_set q3 34 0 (-1 : Int32)) h
      · refine dz_iconst (pc := 77) (v := (-1 : Int32)) C dX10_plans_77 (by decide) ?_
        cases dt_some h
        exact dz_iret (pc := 78) C hr dX10_plans_78
    · refine dz_aload_n (pc := 17) C dX10_plans_17 rfl 0 rfl ?_
      refine dz_iload_n (pc := 18) C dX10_plans_18 rfl 2 rfl ?_
      refine dz_iconst (pc := 19) (v := (5 : Int32)) C dX10_plans_19 (by decide) ?_
      obtain ⟨q4, eq4, h⟩ := dt_bind h
      refine dz_callVi (pc := 20) (st := []) (k := 18) (As := [.int x2, .int (5 : Int32)]) (M' := (dt_put M 18 T)) C Fc_X10 hk_18 mf_X10_own rfl ml_X10_94 (m_X10_own l _ _ _ _ eq4) rfl rfl (by omega) (by decide) (Nat.le_of_ble_eq_true rfl) dX10_plans_20 ?_
      refine dz_iconst (pc := 23) (v := (-1 : Int32)) C dX10_plans_23 (by decide) ?_
      refine dz_icmp_eq (pc := 24) (t := 30) C dX10_plans_24 (by decide) h (fun h => ?_) (fun h => ?_)
      · refine dz_aload_n (pc := 30) C dX10_plans_30 rfl 0 rfl ?_
        refine dz_getI (pc := 31) (k := 18) (j := 33) (v := (T 33 0)) C Fc_X10 hk_18 (by decide) rfl rfl fl_X10_310 (dt_rA _ _ _ _ _) dX10_plans_31 ?_
        refine dz_bipush (pc := 34) (v := (6 : Int32)) C dX10_plans_34 (by decide) ?_
        refine dz_icmp_ne (pc := 36) (t := 41) C dX10_plans_36 (by decide) h (fun h => ?_) (fun h => ?_)
        · refine dz_aload_n (pc := 41) C dX10_plans_41 rfl 0 rfl ?_
          refine dz_getR (pc := 42) (k := 18) (j := 28) C Fc_X10 hk_18 (by decide) (by decide) rfl fl_X10_55 dX10_plans_42 ?_
          refine dz_aload_n (pc := 45) C dX10_plans_45 rfl 0 rfl ?_
          refine dz_getI (pc := 46) (k := 18) (j := 33) (v := (T 33 0)) C Fc_X10 hk_18 (by decide) rfl rfl fl_X10_310 (dt_rA _ _ _ _ _) dX10_plans_46 ?_
          refine dz_iload_n (pc := 49) C dX10_plans_49 rfl 2 rfl ?_
          refine dz_iast (pc := 50) (k := 18) (j := 28) (n := 6) (M' := fun a5 => (dt_put M 18 (dt_set T 28 a5 x2))) C hk_18 (by decide) rfl (fun a5 => (dt_wA _ _ _ _ _ _)) dX10_plans_50 h (fun a5 h => ?_)
          refine dz_aload_n (pc := 51) C dX10_plans_51 rfl 0 rfl ?_
          refine dz_dup (pc := 52) C dX10_plans_52 rfl ?_
          refine dz_getI (pc := 53) (k := 18) (j := 33) (v := (T 33 0)) C Fc_X10 hk_18 (by decide) rfl rfl fl_X10_310 (dt_rA _ _ _ _ _) dX10_plans_53 ?_
          refine dz_iconst (pc := 56) (v := (1 : Int32)) C dX10_plans_56 (by decide) ?_
          refine dz_iadd (pc := 57) C dX10_plans_57 ?_
          refine dz_putI (pc := 58) (k := 18) (j := 33) (M' := (dt_put M 18 (dt_set (dt_set T 28 a5 x2) 33 0 ((T 33 0) + (1 : Int32))))) C Fc_X10 hk_18 (by decide) rfl rfl rfl rfl fl_X10_310 (dt_wA _ _ _ _ _ _) dX10_plans_58 ?_
          exact tX10_plans_61 C hr ih x1 x2 (dt_set (dt_set T 28 a5 x2) 33 0 ((T 33 0) + (1 : Int32))) h
        · refine dz_iconst (pc := 39) (v := (-1 : Int32)) C dX10_plans_39 (by decide) ?_
          cases dt_some h
          exact dz_iret (pc := 40) C hr dX10_plans_40
      · refine dz_goto (pc := 27) (t := 61) C dX10_plans_27 (by decide) ?_
        exact tX10_plans_61 C hr ih x1 x2 T h
def fX10_plans  (x1 : Int32) (T : dt_Ob) : Option (Int32 × dt_Ob) := (fX10_plans_7 dt_F x1 (0 : Int32) (dt_set T 33 0 (0 : Int32)))
set_option maxRecDepth 10000 in
set_option maxHeartbeats 4000000 in
theorem m_X10_plans (l : Launch)  (M : dt_M) (T : dt_Ob)  (x1 : Int32) {res : Int32 × dt_Ob} (h : fX10_plans x1 T = some res) : dt_Met 1 l yX10_plans cX10_plans 4 (some .int) 30 (fun G => [.ref (G.1 18 0), .int x1]) (dt_put M 18 T) (some (.int res.1)) (dt_put M 18 res.2) := by
  refine dz_enter (lv := fun G => [(0, .ref (G.1 18 0)), (1, .int x1)]) (by decide) (fun _ => rfl) (fun _ => Nat.le_of_ble_eq_true rfl) (fun G A p e s m args below meth c C hr => ?_)
  unfold fX10_plans at h
  refine dz_aload_n (pc := 0) C dX10_plans_0 rfl 0 rfl ?_
  refine dz_iconst (pc := 1) (v := (0 : Int32)) C dX10_plans_1 (by decide) ?_
  refine dz_putI (pc := 2) (k := 18) (j := 33) (M' := (dt_put M 18 (dt_set T 33 0 (0 : Int32)))) C Fc_X10 hk_18 (by decide) rfl rfl rfl rfl fl_X10_310 (dt_wA _ _ _ _ _ _) dX10_plans_2 ?_
  refine dz_iconst (pc := 5) (v := (0 : Int32)) C dX10_plans_5 (by decide) ?_
  refine dz_istore_n (pc := 6) C dX10_plans_6 rfl (by decide) rfl ?_
  refine dz_sub [1, 2, 0] rfl ?_
  exact tX10_plans_7 C hr dt_F x1 (0 : Int32) (dt_set T 33 0 (0 : Int32)) h

def fX10_plan  (x1 : Int32) (x2 : Int32) (T : dt_Ob) : Option (Int32 × dt_Ob) := ((fX10_isIn x1 (1 : Int32) (20 : Int32)).bind fun q1 => (if q1 = 0 then (some ((-1 : Int32), T)) else ((fX10_plans x1 T).bind fun q2 => (if q2.1 = (-1 : Int32) then (some ((-1 : Int32), q2.2)) else (if x2 = 0 then (some (q2.1, q2.2)) else (if x2 = (1 : Int32) then (some ((q2.2 34 0), q2.2)) else ((fX10_isIn x2 (10 : Int32) ((9 : Int32) + q2.1)).bind fun q3 => (if q3 = 0 then ((fX10_isIn x2 (20 : Int32) ((19 : Int32) + q2.1)).bind fun q4 => (if q4 = 0 then (some ((-1 : Int32), q2.2)) else ((dt_ix (x2 - (20 : Int32)) 5).bind fun a5 => (some (((q2.2 32) a5), q2.2))))) else ((dt_ix (x2 - (10 : Int32)) 5).bind fun a6 => (some (((q2.2 31) a6), q2.2)))))))))))
set_option maxRecDepth 10000 in
set_option maxHeartbeats 4000000 in
theorem m_X10_plan (l : Launch)  (M : dt_M) (T : dt_Ob)  (x1 : Int32) (x2 : Int32) {res : Int32 × dt_Ob} (h : fX10_plan x1 x2 T = some res) : dt_Met 1 l yX10_plan cX10_plan 4 (some .int) 31 (fun G => [.ref (G.1 18 0), .int x1, .int x2]) (dt_put M 18 T) (some (.int res.1)) (dt_put M 18 res.2) := by
  refine dz_enter (lv := fun G => [(0, .ref (G.1 18 0)), (1, .int x1), (2, .int x2)]) (by decide) (fun _ => rfl) (fun _ => Nat.le_of_ble_eq_true rfl) (fun G A p e s m args below meth c C hr => ?_)
  unfold fX10_plan at h
  refine dz_iload_n (pc := 0) C dX10_plan_0 rfl 1 rfl ?_
  refine dz_iconst (pc := 1) (v := (1 : Int32)) C dX10_plan_1 (by decide) ?_
  refine dz_bipush (pc := 2) (v := (20 : Int32)) C dX10_plan_2 (by decide) ?_
  obtain ⟨q1, eq1, h⟩ := dt_bind h
  refine dz_callSi (pc := 4) (st := []) (As := [.int x1, .int (1 : Int32), .int (20 : Int32)]) (M' := (dt_put M 18 T)) C ms_X10_isIn ml_X10_76 (m_X10_isIn l _ _ _ _ eq1) rfl rfl (by omega) (by decide) (Nat.le_of_ble_eq_true rfl) dX10_plan_4 ?_
  refine dz_if_ne (pc := 7) (t := 12) C dX10_plan_7 (by decide) h (fun h => ?_) (fun h => ?_)
  · refine dz_aload_n (pc := 12) C dX10_plan_12 rfl 0 rfl ?_
    refine dz_iload_n (pc := 13) C dX10_plan_13 rfl 1 rfl ?_
    obtain ⟨q2, eq2, h⟩ := dt_bind h
    refine dz_callVi (pc := 14) (st := []) (k := 18) (As := [.int x1]) (M' := (dt_put M 18 q2.2)) C Fc_X10 hk_18 mf_X10_plans rfl ml_X10_317 (m_X10_plans l _ _ _ eq2) rfl rfl (by omega) (by decide) (Nat.le_of_ble_eq_true rfl) dX10_plan_14 ?_
    refine dz_istore_n (pc := 17) C dX10_plan_17 rfl (by decide) rfl ?_
    refine dz_iload_n (pc := 18) C dX10_plan_18 rfl 0 rfl ?_
    refine dz_iconst (pc := 19) (v := (-1 : Int32)) C dX10_plan_19 (by decide) ?_
    refine dz_icmp_ne (pc := 20) (t := 25) C dX10_plan_20 (by decide) h (fun h => ?_) (fun h => ?_)
    · refine dz_iload_n (pc := 25) C dX10_plan_25 rfl 3 rfl ?_
      refine dz_if_ne (pc := 26) (t := 31) C dX10_plan_26 (by decide) h (fun h => ?_) (fun h => ?_)
      · refine dz_iload_n (pc := 31) C dX10_plan_31 rfl 3 rfl ?_
        refine dz_iconst (pc := 32) (v := (1 : Int32)) C dX10_plan_32 (by decide) ?_
        refine dz_icmp_ne (pc := 33) (t := 41) C dX10_plan_33 (by decide) h (fun h => ?_) (fun h => ?_)
        · refine dz_iload_n (pc := 41) C dX10_plan_41 rfl 3 rfl ?_
          refine dz_bipush (pc := 42) (v := (10 : Int32)) C dX10_plan_42 (by decide) ?_
          refine dz_bipush (pc := 44) (v := (9 : Int32)) C dX10_plan_44 (by decide) ?_
          refine dz_iload_n (pc := 46) C dX10_plan_46 rfl 0 rfl ?_
          refine dz_iadd (pc := 47) C dX10_plan_47 ?_
          obtain ⟨q3, eq3, h⟩ := dt_bind h
          refine dz_callSi (pc := 48) (st := []) (As := [.int x2, .int (10 : Int32), .int ((9 : Int32) + q2.1)]) (M' := (dt_put M 18 q2.2)) C ms_X10_isIn ml_X10_76 (m_X10_isIn l _ _ _ _ eq3) rfl rfl (by omega) (by decide) (Nat.le_of_ble_eq_true rfl) dX10_plan_48 ?_
          refine dz_if_eq (pc := 51) (t := 66) C dX10_plan_51 (by decide) h (fun h => ?_) (fun h => ?_)
          · refine dz_iload_n (pc := 66) C dX10_plan_66 rfl 3 rfl ?_
            refine dz_bipush (pc := 67) (v := (20 : Int32)) C dX10_plan_67 (by decide) ?_
            refine dz_bipush (pc := 69) (v := (19 : Int32)) C dX10_plan_69 (by decide) ?_
            refine dz_iload_n (pc := 71) C dX10_plan_71 rfl 0 rfl ?_
            refine dz_iadd (pc := 72) C dX10_plan_72 ?_
            obtain ⟨q4, eq4, h⟩ := dt_bind h
            refine dz_callSi (pc := 73) (st := []) (As := [.int x2, .int (20 : Int32), .int ((19 : Int32) + q2.1)]) (M' := (dt_put M 18 q2.2)) C ms_X10_isIn ml_X10_76 (m_X10_isIn l _ _ _ _ eq4) rfl rfl (by omega) (by decide) (Nat.le_of_ble_eq_true rfl) dX10_plan_73 ?_
            refine dz_if_eq (pc := 76) (t := 91) C dX10_plan_76 (by decide) h (fun h => ?_) (fun h => ?_)
            · refine dz_iconst (pc := 91) (v := (-1 : Int32)) C dX10_plan_91 (by decide) ?_
              cases dt_some h
              exact dz_iret (pc := 92) C hr dX10_plan_92
            · refine dz_aload_n (pc := 79) C dX10_plan_79 rfl 1 rfl ?_
              refine dz_getR (pc := 80) (k := 18) (j := 32) C Fc_X10 hk_18 (by decide) (by decide) rfl fl_X10_67 dX10_plan_80 ?_
              refine dz_iload_n (pc := 83) C dX10_plan_83 rfl 3 rfl ?_
              refine dz_bipush (pc := 84) (v := (20 : Int32)) C dX10_plan_84 (by decide) ?_
              refine dz_isub (pc := 86) C dX10_plan_86 ?_
              refine dz_iald (pc := 87) (k := 18) (j := 32) (n := 5) (f := (q2.2 32)) C hk_18 (by decide) rfl (dt_rAf _ _ _ _) dX10_plan_87 h (fun a5 h => ?_)
              refine dz_goto (pc := 88) (t := 92) C dX10_plan_88 (by decide) ?_
              cases dt_some h
              exact dz_iret (pc := 92) C hr dX10_plan_92
          · refine dz_aload_n (pc := 54) C dX10_plan_54 rfl 1 rfl ?_
            refine dz_getR (pc := 55) (k := 18) (j := 31) C Fc_X10 hk_18 (by decide) (by decide) rfl fl_X10_64 dX10_plan_55 ?_
            refine dz_iload_n (pc := 58) C dX10_plan_58 rfl 3 rfl ?_
            refine dz_bipush (pc := 59) (v := (10 : Int32)) C dX10_plan_59 (by decide) ?_
            refine dz_isub (pc := 61) C dX10_plan_61 ?_
            refine dz_iald (pc := 62) (k := 18) (j := 31) (n := 5) (f := (q2.2 31)) C hk_18 (by decide) rfl (dt_rAf _ _ _ _) dX10_plan_62 h (fun a6 h => ?_)
            refine dz_goto (pc := 63) (t := 92) C dX10_plan_63 (by decide) ?_
            cases dt_some h
            exact dz_iret (pc := 92) C hr dX10_plan_92
        · refine dz_aload_n (pc := 36) C dX10_plan_36 rfl 1 rfl ?_
          refine dz_getI (pc := 37) (k := 18) (j := 34) (v := (q2.2 34 0)) C Fc_X10 hk_18 (by decide) rfl rfl fl_X10_307 (dt_rA _ _ _ _ _) dX10_plan_37 ?_
          cases dt_some h
          exact dz_iret (pc := 40) C hr dX10_plan_40
      · refine dz_iload_n (pc := 29) C dX10_plan_29 rfl 0 rfl ?_
        cases dt_some h
        exact dz_iret (pc := 30) C hr dX10_plan_30
    · refine dz_iconst (pc := 23) (v := (-1 : Int32)) C dX10_plan_23 (by decide) ?_
      cases dt_some h
      exact dz_iret (pc := 24) C hr dX10_plan_24
  · refine dz_iconst (pc := 10) (v := (-1 : Int32)) C dX10_plan_10 (by decide) ?_
    cases dt_some h
    exact dz_iret (pc := 11) C hr dX10_plan_11

def fX10_down_49 (r24 : Int32 → Int32 → Int32 → dt_Ob → Option (Int32 × dt_Ob)) (r31 : Int32 → Int32 → Int32 → dt_Ob → Option (Int32 × dt_Ob)) (x1 : Int32) (x2 : Int32) (x3 : Int32) (T : dt_Ob) : Option (Int32 × dt_Ob) := (r31 x1 (x2 + (1 : Int32)) x3 T)
set_option maxRecDepth 10000 in
set_option maxHeartbeats 4000000 in
theorem tX10_down_49 {G : dt_G} {A : Nat → Prop} {p : Program} {l : Launch} {e : Env} {s : State} {m : MethodId} {args : Array Value} {below : List Frame} {meth : Method} {c : Code} (C : dt_Cx 1 G A p s m args meth c cX10_down 4 RX10) (hr : meth.sig.returnType = (some .int)) {M : dt_M} {res : Int32 × dt_Ob} {r24 : Int32 → Int32 → Int32 → dt_Ob → Option (Int32 × dt_Ob)} (hr24 : ∀ (x1 : Int32) (x2 : Int32) (x3 : Int32) (T : dt_Ob), r24 x1 x2 x3 T = some res → dt_At G A p l e (dt_rm 3) s m args below meth c 4 (MQ below (dt_Post G A (some (.int res.1)) (dt_put M 18 res.2)) args s 0 0 A) 24 [(0, .ref (G.1 18 0)), (1, .int x1), (2, .int x2), (3, .int x3)] [] (dt_put M 18 T)) {r31 : Int32 → Int32 → Int32 → dt_Ob → Option (Int32 × dt_Ob)} (hr31 : ∀ (x1 : Int32) (x2 : Int32) (x3 : Int32) (T : dt_Ob), r31 x1 x2 x3 T = some res → dt_At G A p l e (dt_rm 3) s m args below meth c 4 (MQ below (dt_Post G A (some (.int res.1)) (dt_put M 18 res.2)) args s 0 0 A) 31 [(0, .ref (G.1 18 0)), (1, .int x1), (2, .int x2), (3, .int x3)] [] (dt_put M 18 T)) : ∀ (x1 : Int32) (x2 : Int32) (x3 : Int32) (T : dt_Ob), fX10_down_49 r24 r31 x1 x2 x3 T = some res → dt_At G A p l e (dt_rm 3) s m args below meth c 4 (MQ below (dt_Post G A (some (.int res.1)) (dt_put M 18 res.2)) args s 0 0 A) 49 [(0, .ref (G.1 18 0)), (1, .int x1), (2, .int x2), (3, .int x3)] [] (dt_put M 18 T) := by
  intro x1 x2 x3 T h
  unfold fX10_down_49 at h
  refine dz_iinc (pc := 49) (v := (x2 + (1 : Int32))) C dX10_down_49 2 rfl rfl (by decide) rfl ?_
  refine dz_goto (pc := 52) (t := 31) C dX10_down_52 (by decide) ?_
  refine dz_sub [1, 2, 0, 3] rfl ?_
  exact hr31 x1 (x2 + (1 : Int32)) x3 T h
def fX10_down_31 (r24 : Int32 → Int32 → Int32 → dt_Ob → Option (Int32 × dt_Ob)) : Nat → Int32 → Int32 → Int32 → dt_Ob → Option (Int32 × dt_Ob)
  | 0, _, _, _, _ => none
  | n + 1, x1, x2, x3, T => ((dt_ix x2 20).bind fun a4 => (if ((T 7) a4) = (-1 : Int32) then (fX10_down_49 r24 (fX10_down_31 r24 n) x1 x2 x3 T) else ((fX10_isOnTop x2 T).bind fun q5 => (if q5 = 0 then (fX10_down_49 r24 (fX10_down_31 r24 n) x1 x2 x3 T) else ((dt_ix x2 20).bind fun a6 => (r24 x1 x2 (x3 + (1 : Int32)) (dt_set T 7 a6 (-1 : Int32))))))))
set_option maxRecDepth 10000 in
set_option maxHeartbeats 4000000 in
theorem tX10_down_31 {G : dt_G} {A : Nat → Prop} {p : Program} {l : Launch} {e : Env} {s : State} {m : MethodId} {args : Array Value} {below : List Frame} {meth : Method} {c : Code} (C : dt_Cx 1 G A p s m args meth c cX10_down 4 RX10) (hr : meth.sig.returnType = (some .int)) {M : dt_M} {res : Int32 × dt_Ob} {r24 : Int32 → Int32 → Int32 → dt_Ob → Option (Int32 × dt_Ob)} (hr24 : ∀ (x1 : Int32) (x2 : Int32) (x3 : Int32) (T : dt_Ob), r24 x1 x2 x3 T = some res → dt_At G A p l e (dt_rm 3) s m args below meth c 4 (MQ below (dt_Post G A (some (.int res.1)) (dt_put M 18 res.2)) args s 0 0 A) 24 [(0, .ref (G.1 18 0)), (1, .int x1), (2, .int x2), (3, .int x3)] [] (dt_put M 18 T)) : ∀ (n : Nat) (x1 : Int32) (x2 : Int32) (x3 : Int32) (T : dt_Ob), fX10_down_31 r24 n x1 x2 x3 T = some res → dt_At G A p l e (dt_rm 3) s m args below meth c 4 (MQ below (dt_Post G A (some (.int res.1)) (dt_put M 18 res.2)) args s 0 0 A) 31 [(0, .ref (G.1 18 0)), (1, .int x1), (2, .int x2), (3, .int x3)] [] (dt_put M 18 T) := by
  intro n
  induction n with
  | zero =>
    intro x1 x2 x3 T h
    unfold fX10_down_31 at h
    cases h
  | succ n ih =>
    intro x1 x2 x3 T h
    unfold fX10_down_31 at h
    refine dz_aload_n (pc := 31) C dX10_down_31 rfl 0 rfl ?_
    refine dz_getR (pc := 32) (k := 18) (j := 7) C Fc_X10 hk_18 (by decide) (by decide) rfl fl_X10_23 dX10_down_32 ?_
    refine dz_iload_n (pc := 35) C dX10_down_35 rfl 2 rfl ?_
    refine dz_iald (pc := 36) (k := 18) (j := 7) (n := 20) (f := (T 7)) C hk_18 (by decide) rfl (dt_rAf _ _ _ _) dX10_down_36 h (fun a4 h => ?_)
    refine dz_iconst (pc := 37) (v := (-1 : Int32)) C dX10_down_37 (by decide) ?_
    refine dz_icmp_eq (pc := 38) (t := 49) C dX10_down_38 (by decide) h (fun h => ?_) (fun h => ?_)
    · exact tX10_down_49 C hr hr24 ih x1 x2 x3 T h
    · refine dz_aload_n (pc := 41) C dX10_down_41 rfl 0 rfl ?_
      refine dz_iload_n (pc := 42) C dX10_down_42 rfl 2 rfl ?_
      obtain ⟨q5, eq5, h⟩ := dt_bind h
      refine dz_callVi (pc := 43) (st := []) (k := 18) (As := [.int x2]) (M' := (dt_put M 18 T)) C Fc_X10 hk_18 mf_X10_isOnTop rfl ml_X10_152 (m_X10_isOnTop l _ _ _ eq5) rfl rfl (by omega) (by decide) (Nat.le_of_ble_eq_true rfl) dX10_down_43 ?_
      refine dz_if_ne (pc := 46) (t := 55) C dX10_down_46 (by decide) h (fun h => ?_) (fun h => ?_)
      · refine dz_aload_n (pc := 55) C dX10_down_55 rfl 0 rfl ?_
        refine dz_getR (pc := 56) (k := 18) (j := 7) C Fc_X10 hk_18 (by decide) (by decide) rfl fl_X10_23 dX10_down_56 ?_
        refine dz_iload_n (pc := 59) C dX10_down_59 rfl 2 rfl ?_
        refine dz_iconst (pc := 60) (v := (-1 : Int32)) C dX10_down_60 (by decide) ?_
        refine dz_iast (pc := 61) (k := 18) (j := 7) (n := 20) (M' := fun a6 => (dt_put M 18 (dt_set T 7 a6 (-1 : Int32)))) C hk_18 (by decide) rfl (fun a6 => (dt_wA _ _ _ _ _ _)) dX10_down_61 h (fun a6 h => ?_)
        refine dz_iinc (pc := 62) (v := (x3 + (1 : Int32))) C dX10_down_62 3 rfl rfl (by decide) rfl ?_
        refine dz_goto (pc := 65) (t := 24) C dX10_down_65 (by decide) ?_
        refine dz_sub [1, 2, 3, 0] rfl ?_
        exact hr24 x1 x2 (x3 + (1 : Int32)) (dt_set T 7 a6 (-1 : Int32)) h
      · exact tX10_down_49 C hr hr24 ih x1 x2 x3 T h
def fX10_down_24  : Nat → Int32 → Int32 → Int32 → dt_Ob → Option (Int32 × dt_Ob)
  | 0, _, _, _, _ => none
  | n + 1, x1, x2, x3, T => (if x1 < x3 then (some (x2, T)) else (fX10_down_31 (fX10_down_24 n) dt_F x1 (0 : Int32) x3 T))
set_option maxRecDepth 10000 in
set_option maxHeartbeats 4000000 in
theorem tX10_down_24 {G : dt_G} {A : Nat → Prop} {p : Program} {l : Launch} {e : Env} {s : State} {m : MethodId} {args : Array Value} {below : List Frame} {meth : Method} {c : Code} (C : dt_Cx 1 G A p s m args meth c cX10_down 4 RX10) (hr : meth.sig.returnType = (some .int)) {M : dt_M} {res : Int32 × dt_Ob}  : ∀ (n : Nat) (x1 : Int32) (x2 : Int32) (x3 : Int32) (T : dt_Ob), fX10_down_24 n x1 x2 x3 T = some res → dt_At G A p l e (dt_rm 3) s m args below meth c 4 (MQ below (dt_Post G A (some (.int res.1)) (dt_put M 18 res.2)) args s 0 0 A) 24 [(0, .ref (G.1 18 0)), (1, .int x1), (2, .int x2), (3, .int x3)] [] (dt_put M 18 T) := by
  intro n
  induction n with
  | zero =>
    intro x1 x2 x3 T h
    unfold fX10_down_24 at h
    cases h
  | succ n ih =>
    intro x1 x2 x3 T h
    unfold fX10_down_24 at h
    refine dz_iload_n (pc := 24) C dX10_down_24 rfl 3 rfl ?_
    refine dz_iload_n (pc := 25) C dX10_down_25 rfl 1 rfl ?_
    refine dz_icmp_gt (pc := 26) (t := 68) C dX10_down_26 (by decide) h (fun h => ?_) (fun h => ?_)
    · refine dz_iload_n (pc := 68) C dX10_down_68 rfl 2 rfl ?_
      cases dt_some h
      exact dz_iret (pc := 69) C hr dX10_down_69
    · refine dz_iconst (pc := 29) (v := (0 : Int32)) C dX10_down_29 (by decide) ?_
      refine dz_istore_n (pc := 30) C dX10_down_30 rfl (by decide) rfl ?_
      refine dz_sub [1, 2, 0, 3] rfl ?_
      exact tX10_down_31 C hr ih dt_F x1 (0 : Int32) x3 T h
def fX10_down  (x1 : Int32) (T : dt_Ob) : Option (Int32 × dt_Ob) := ((fX10_inTower T).bind fun q1 => ((fX10_isIn x1 (0 : Int32) (q1 - (1 : Int32))).bind fun q2 => (if q2 = 0 then (some ((-1 : Int32), T)) else ((fX10_laysTower T).bind fun q3 => (fX10_down_24 dt_F x1 (-1 : Int32) (0 : Int32) q3)))))
set_option maxRecDepth 10000 in
set_option maxHeartbeats 4000000 in
theorem m_X10_down (l : Launch)  (M : dt_M) (T : dt_Ob)  (x1 : Int32) {res : Int32 × dt_Ob} (h : fX10_down x1 T = some res) : dt_Met 1 l yX10_down cX10_down 4 (some .int) 3 (fun G => [.ref (G.1 18 0), .int x1]) (dt_put M 18 T) (some (.int res.1)) (dt_put M 18 res.2) := by
  refine dz_enter (lv := fun G => [(0, .ref (G.1 18 0)), (1, .int x1)]) (by decide) (fun _ => rfl) (fun _ => Nat.le_of_ble_eq_true rfl) (fun G A p e s m args below meth c C hr => ?_)
  unfold fX10_down at h
  refine dz_iload_n (pc := 0) C dX10_down_0 rfl 1 rfl ?_
  refine dz_iconst (pc := 1) (v := (0 : Int32)) C dX10_down_1 (by decide) ?_
  refine dz_aload_n (pc := 2) C dX10_down_2 rfl 0 rfl ?_
  obtain ⟨q1, eq1, h⟩ := dt_bind h
  refine dz_callVi (pc := 3) (st := [.int (0 : Int32), .int x1]) (k := 18) (As := []) (M' := (dt_put M 18 T)) C Fc_X10 hk_18 mf_X10_inTower rfl ml_X10_298 (m_X10_inTower l _ _ eq1) rfl rfl (by omega) (by decide) (Nat.le_of_ble_eq_true rfl) dX10_down_3 ?_
  refine dz_iconst (pc := 6) (v := (1 : Int32)) C dX10_down_6 (by decide) ?_
  refine dz_isub (pc := 7) C dX10_down_7 ?_
  obtain ⟨q2, eq2, h⟩ := dt_bind h
  refine dz_callSi (pc := 8) (st := []) (As := [.int x1, .int (0 : Int32), .int (q1 - (1 : Int32))]) (M' := (dt_put M 18 T)) C ms_X10_isIn ml_X10_76 (m_X10_isIn l _ _ _ _ eq2) rfl rfl (by omega) (by decide) (Nat.le_of_ble_eq_true rfl) dX10_down_8 ?_
  refine dz_if_ne (pc := 11) (t := 16) C dX10_down_11 (by decide) h (fun h => ?_) (fun h => ?_)
  · refine dz_aload_n (pc := 16) C dX10_down_16 rfl 0 rfl ?_
    obtain ⟨q3, eq3, h⟩ := dt_bind h
    refine dz_callVv (pc := 17) (st := []) (k := 18) (As := []) (M' := (dt_put M 18 q3)) C Fc_X10 hk_18 mf_X10_laysTower rfl ml_X10_138 (m_X10_laysTower l _ _ eq3) rfl rfl (by omega) (by decide) (Nat.le_of_ble_eq_true rfl) dX10_down_17 ?_
    refine dz_iconst (pc := 20) (v := (-1 : Int32)) C dX10_down_20 (by decide) ?_
    refine dz_istore_n (pc := 21) C dX10_down_21 rfl (by decide) rfl ?_
    refine dz_iconst (pc := 22) (v := (0 : Int32)) C dX10_down_22 (by decide) ?_
    refine dz_istore_n (pc := 23) C dX10_down_23 rfl (by decide) rfl ?_
    refine dz_sub [2, 3, 1, 0] rfl ?_
    exact tX10_down_24 C hr dt_F x1 (-1 : Int32) (0 : Int32) q3 h
  · refine dz_iconst (pc := 14) (v := (-1 : Int32)) C dX10_down_14 (by decide) ?_
    cases dt_some h
    exact dz_iret (pc := 15) C hr dX10_down_15

def fX10_isTower_237 (r200 : Int32 → Int32 → dt_Ob → Option (Int32 × dt_Ob)) (x3 : Int32) (s0 : Int32) (T : dt_Ob) : Option (Int32 × dt_Ob) := (r200 s0 (x3 + (1 : Int32)) T)
set_option maxRecDepth 10000 in
set_option maxHeartbeats 4000000 in
theorem tX10_isTower_237 {G : dt_G} {A : Nat → Prop} {p : Program} {l : Launch} {e : Env} {s : State} {m : MethodId} {args : Array Value} {below : List Frame} {meth : Method} {c : Code} (C : dt_Cx 1 G A p s m args meth c cX10_isTower 4 RX10) (hr : meth.sig.returnType = (some .boolean)) {M : dt_M} {res : Int32 × dt_Ob} {r200 : Int32 → Int32 → dt_Ob → Option (Int32 × dt_Ob)} (hr200 : ∀ (x2 : Int32) (x3 : Int32) (T : dt_Ob), r200 x2 x3 T = some res → dt_At G A p l e (dt_rm 5) s m args below meth c 4 (MQ below (dt_Post G A (some (.int res.1)) (dt_put M 18 res.2)) args s 0 0 A) 200 [(0, .ref (G.1 18 0)), (2, .int x2), (3, .int x3)] [] (dt_put M 18 T)) : ∀ (x3 : Int32) (s0 : Int32) (T : dt_Ob), fX10_isTower_237 r200 x3 s0 T = some res → dt_At G A p l e (dt_rm 5) s m args below meth c 4 (MQ below (dt_Post G A (some (.int res.1)) (dt_put M 18 res.2)) args s 0 0 A) 237 [(0, .ref (G.1 18 0)), (3, .int x3)] [.int s0] (dt_put M 18 T) := by
  intro x3 s0 T h
  unfold fX10_isTower_237 at h
  refine dz_istore_n (pc := 237) C dX10_isTower_237 rfl (by decide) rfl ?_
  refine dz_iinc (pc := 238) (v := (x3 + (1 : Int32))) C dX10_isTower_238 2 rfl rfl (by decide) rfl ?_
  refine dz_goto (pc := 241) (t := 200) C dX10_isTower_241 (by decide) ?_
  refine dz_sub [2, 1, 0] rfl ?_
  exact hr200 s0 (x3 + (1 : Int32)) T h
def fX10_isTower_232 (r200 : Int32 → Int32 → dt_Ob → Option (Int32 × dt_Ob)) (x3 : Int32) (T : dt_Ob) : Option (Int32 × dt_Ob) := (fX10_isTower_237 r200 x3 (1 : Int32) T)
set_option maxRecDepth 10000 in
set_option maxHeartbeats 4000000 in
theorem tX10_isTower_232 {G : dt_G} {A : Nat → Prop} {p : Program} {l : Launch} {e : Env} {s : State} {m : MethodId} {args : Array Value} {below : List Frame} {meth : Method} {c : Code} (C : dt_Cx 1 G A p s m args meth c cX10_isTower 4 RX10) (hr : meth.sig.returnType = (some .boolean)) {M : dt_M} {res : Int32 × dt_Ob} {r200 : Int32 → Int32 → dt_Ob → Option (Int32 × dt_Ob)} (hr200 : ∀ (x2 : Int32) (x3 : Int32) (T : dt_Ob), r200 x2 x3 T = some res → dt_At G A p l e (dt_rm 5) s m args below meth c 4 (MQ below (dt_Post G A (some (.int res.1)) (dt_put M 18 res.2)) args s 0 0 A) 200 [(0, .ref (G.1 18 0)), (2, .int x2), (3, .int x3)] [] (dt_put M 18 T)) : ∀ (x3 : Int32) (T : dt_Ob), fX10_isTower_232 r200 x3 T = some res → dt_At G A p l e (dt_rm 5) s m args below meth c 4 (MQ below (dt_Post G A (some (.int res.1)) (dt_put M 18 res.2)) args s 0 0 A) 232 [(0, .ref (G.1 18 0)), (3, .int x3)] [] (dt_put M 18 T) := by
  intro x3 T h
  unfold fX10_isTower_232 at h
  refine dz_iconst (pc := 232) (v := (1 : Int32)) C dX10_isTower_232 (by decide) ?_
  refine dz_goto (pc := 233) (t := 237) C dX10_isTower_233 (by decide) ?_
  exact tX10_isTower_237 C hr hr200 x3 (1 : Int32) T h
def fX10_isTower_200  : Nat → Int32 → Int32 → dt_Ob → Option (Int32 × dt_Ob)
  | 0, _, _, _ => none
  | n + 1, x2, x3, T => ((dt_ix (1 : Int32) 1225).bind fun a19 => (if ((T 0) a19) ≤ x3 then (if x2 = 0 ∨ x2 = 1 then (some (x2, T)) else none) else (if x2 = 0 then (if x2 = 0 ∨ x2 = 1 then (some (x2, T)) else none) else ((dt_ix x3 20).bind fun a22 => (if ((T 7) a22) = (-1 : Int32) then (fX10_isTower_232 (fX10_isTower_200 n) x3 T) else ((fX10_standsThere x3 T).bind fun q23 => (if q23 = 0 then (fX10_isTower_237 (fX10_isTower_200 n) x3 (0 : Int32) T) else (fX10_isTower_232 (fX10_isTower_200 n) x3 T))))))))
set_option maxRecDepth 10000 in
set_option maxHeartbeats 4000000 in
theorem tX10_isTower_200 {G : dt_G} {A : Nat → Prop} {p : Program} {l : Launch} {e : Env} {s : State} {m : MethodId} {args : Array Value} {below : List Frame} {meth : Method} {c : Code} (C : dt_Cx 1 G A p s m args meth c cX10_isTower 4 RX10) (hr : meth.sig.returnType = (some .boolean)) {M : dt_M} {res : Int32 × dt_Ob}  : ∀ (n : Nat) (x2 : Int32) (x3 : Int32) (T : dt_Ob), fX10_isTower_200 n x2 x3 T = some res → dt_At G A p l e (dt_rm 5) s m args below meth c 4 (MQ below (dt_Post G A (some (.int res.1)) (dt_put M 18 res.2)) args s 0 0 A) 200 [(0, .ref (G.1 18 0)), (2, .int x2), (3, .int x3)] [] (dt_put M 18 T) := by
  intro n
  induction n with
  | zero =>
    intro x2 x3 T h
    unfold fX10_isTower_200 at h
    cases h
  | succ n ih =>
    intro x2 x3 T h
    unfold fX10_isTower_200 at h
    refine dz_iload_n (pc := 200) C dX10_isTower_200 rfl 2 rfl ?_
    refine dz_aload_n (pc := 201) C dX10_isTower_201 rfl 0 rfl ?_
    refine dz_getR (pc := 202) (k := 18) (j := 0) C Fc_X10 hk_18 (by decide) (by decide) rfl fl_X10_7 dX10_isTower_202 ?_
    refine dz_iconst (pc := 205) (v := (1 : Int32)) C dX10_isTower_205 (by decide) ?_
    refine dz_iald (pc := 206) (k := 18) (j := 0) (n := 1225) (f := (T 0)) C hk_18 (by decide) rfl (dt_rAf _ _ _ _) dX10_isTower_206 h (fun a19 h => ?_)
    refine dz_icmp_ge (pc := 207) (t := 244) C dX10_isTower_207 (by decide) h (fun h => ?_) (fun h => ?_)
    · refine dz_iload_n (pc := 244) C dX10_isTower_244 rfl 1 rfl ?_
      obtain ⟨hz20, h⟩ := dt_ifn h
      cases dt_some h
      exact dz_zret (pc := 245) C hr hz20 dX10_isTower_245
    · refine dz_iload_n (pc := 210) C dX10_isTower_210 rfl 1 rfl ?_
      refine dz_if_eq (pc := 211) (t := 244) C dX10_isTower_211 (by decide) h (fun h => ?_) (fun h => ?_)
      · refine dz_iload_n (pc := 244) C dX10_isTower_244 rfl 1 rfl ?_
        obtain ⟨hz21, h⟩ := dt_ifn h
        cases dt_some h
        exact dz_zret (pc := 245) C hr hz21 dX10_isTower_245
      · refine dz_aload_n (pc := 214) C dX10_isTower_214 rfl 0 rfl ?_
        refine dz_getR (pc := 215) (k := 18) (j := 7) C Fc_X10 hk_18 (by decide) (by decide) rfl fl_X10_23 dX10_isTower_215 ?_
        refine dz_iload_n (pc := 218) C dX10_isTower_218 rfl 2 rfl ?_
        refine dz_iald (pc := 219) (k := 18) (j := 7) (n := 20) (f := (T 7)) C hk_18 (by decide) rfl (dt_rAf _ _ _ _) dX10_isTower_219 h (fun a22 h => ?_)
        refine dz_iconst (pc := 220) (v := (-1 : Int32)) C dX10_isTower_220 (by decide) ?_
        refine dz_icmp_eq (pc := 221) (t := 232) C dX10_isTower_221 (by decide) h (fun h => ?_) (fun h => ?_)
        · refine dz_sub [0, 2] rfl ?_
          exact tX10_isTower_232 C hr ih x3 T h
        · refine dz_aload_n (pc := 224) C dX10_isTower_224 rfl 0 rfl ?_
          refine dz_iload_n (pc := 225) C dX10_isTower_225 rfl 2 rfl ?_
          obtain ⟨q23, eq23, h⟩ := dt_bind h
          refine dz_callVi (pc := 226) (st := []) (k := 18) (As := [.int x3]) (M' := (dt_put M 18 T)) C Fc_X10 hk_18 mf_X10_standsThere rfl ml_X10_120 (m_X10_standsThere l _ _ _ eq23) rfl rfl (by omega) (by decide) (Nat.le_of_ble_eq_true rfl) dX10_isTower_226 ?_
          refine dz_if_eq (pc := 229) (t := 236) C dX10_isTower_229 (by decide) h (fun h => ?_) (fun h => ?_)
          · refine dz_iconst (pc := 236) (v := (0 : Int32)) C dX10_isTower_236 (by decide) ?_
            refine dz_sub [0, 2] rfl ?_
            exact tX10_isTower_237 C hr ih x3 (0 : Int32) T h
          · refine dz_sub [0, 2] rfl ?_
            exact tX10_isTower_232 C hr ih x3 T h
def fX10_isTower_192  (x1 : Int32) (s0 : Int32) (T : dt_Ob) : Option (Int32 × dt_Ob) := (fX10_isTower_200 dt_F s0 (0 : Int32) (dt_set T 5 0 x1))
set_option maxRecDepth 10000 in
set_option maxHeartbeats 4000000 in
theorem tX10_isTower_192 {G : dt_G} {A : Nat → Prop} {p : Program} {l : Launch} {e : Env} {s : State} {m : MethodId} {args : Array Value} {below : List Frame} {meth : Method} {c : Code} (C : dt_Cx 1 G A p s m args meth c cX10_isTower 4 RX10) (hr : meth.sig.returnType = (some .boolean)) {M : dt_M} {res : Int32 × dt_Ob}  : ∀ (x1 : Int32) (s0 : Int32) (T : dt_Ob), fX10_isTower_192 x1 s0 T = some res → dt_At G A p l e (dt_rm 5) s m args below meth c 4 (MQ below (dt_Post G A (some (.int res.1)) (dt_put M 18 res.2)) args s 0 0 A) 192 [(0, .ref (G.1 18 0)), (1, .int x1)] [.int s0] (dt_put M 18 T) := by
  intro x1 s0 T h
  unfold fX10_isTower_192 at h
  refine dz_istore_n (pc := 192) C dX10_isTower_192 rfl (by decide) rfl ?_
  refine dz_aload_n (pc := 193) C dX10_isTower_193 rfl 1 rfl ?_
  refine dz_iload_n (pc := 194) C dX10_isTower_194 rfl 2 rfl ?_
  refine dz_putI (pc := 195) (k := 18) (j := 5) (M' := (dt_put M 18 (dt_set T 5 0 x1))) C Fc_X10 hk_18 (by decide) rfl rfl rfl rfl fl_X10_19 (dt_wA _ _ _ _ _ _) dX10_isTower_195 ?_
  refine dz_iconst (pc := 198) (v := (0 : Int32)) C dX10_isTower_198 (by decide) ?_
  refine dz_istore_n (pc := 199) C dX10_isTower_199 rfl (by decide) rfl ?_
  refine dz_sub [2, 1, 0] rfl ?_
  exact tX10_isTower_200 C hr dt_F s0 (0 : Int32) (dt_set T 5 0 x1) h
def fX10_isTower_168 (r2 : Int32 → dt_Ob → Option (Int32 × dt_Ob)) (x1 : Int32) (T : dt_Ob) : Option (Int32 × dt_Ob) := (r2 (x1 + (1 : Int32)) T)
set_option maxRecDepth 10000 in
set_option maxHeartbeats 4000000 in
theorem tX10_isTower_168 {G : dt_G} {A : Nat → Prop} {p : Program} {l : Launch} {e : Env} {s : State} {m : MethodId} {args : Array Value} {below : List Frame} {meth : Method} {c : Code} (C : dt_Cx 1 G A p s m args meth c cX10_isTower 4 RX10) (hr : meth.sig.returnType = (some .boolean)) {M : dt_M} {res : Int32 × dt_Ob} {r2 : Int32 → dt_Ob → Option (Int32 × dt_Ob)} (hr2 : ∀ (x1 : Int32) (T : dt_Ob), r2 x1 T = some res → dt_At G A p l e (dt_rm 5) s m args below meth c 4 (MQ below (dt_Post G A (some (.int res.1)) (dt_put M 18 res.2)) args s 0 0 A) 2 [(0, .ref (G.1 18 0)), (1, .int x1)] [] (dt_put M 18 T)) : ∀ (x1 : Int32) (T : dt_Ob), fX10_isTower_168 r2 x1 T = some res → dt_At G A p l e (dt_rm 5) s m args below meth c 4 (MQ below (dt_Post G A (some (.int res.1)) (dt_put M 18 res.2)) args s 0 0 A) 168 [(0, .ref (G.1 18 0)), (1, .int x1)] [] (dt_put M 18 T) := by
  intro x1 T h
  unfold fX10_isTower_168 at h
  refine dz_iinc (pc := 168) (v := (x1 + (1 : Int32))) C dX10_isTower_168 1 rfl rfl (by decide) rfl ?_
  refine dz_goto (pc := 171) (t := 2) C dX10_isTower_171 (by decide) ?_
  refine dz_sub [1, 0] rfl ?_
  exact hr2 (x1 + (1 : Int32)) T h
def fX10_isTower_150 (r2 : Int32 → dt_Ob → Option (Int32 × dt_Ob)) (r29 : Int32 → Int32 → Int32 → dt_Ob → Option (Int32 × dt_Ob)) (x1 : Int32) (x2 : Int32) (x3 : Int32) (T : dt_Ob) : Option (Int32 × dt_Ob) := (r29 x1 x2 (x3 + (1 : Int32)) T)
set_option maxRecDepth 10000 in
set_option maxHeartbeats 4000000 in
theorem tX10_isTower_150 {G : dt_G} {A : Nat → Prop} {p : Program} {l : Launch} {e : Env} {s : State} {m : MethodId} {args : Array Value} {below : List Frame} {meth : Method} {c : Code} (C : dt_Cx 1 G A p s m args meth c cX10_isTower 4 RX10) (hr : meth.sig.returnType = (some .boolean)) {M : dt_M} {res : Int32 × dt_Ob} {r2 : Int32 → dt_Ob → Option (Int32 × dt_Ob)} (hr2 : ∀ (x1 : Int32) (T : dt_Ob), r2 x1 T = some res → dt_At G A p l e (dt_rm 5) s m args below meth c 4 (MQ below (dt_Post G A (some (.int res.1)) (dt_put M 18 res.2)) args s 0 0 A) 2 [(0, .ref (G.1 18 0)), (1, .int x1)] [] (dt_put M 18 T)) {r29 : Int32 → Int32 → Int32 → dt_Ob → Option (Int32 × dt_Ob)} (hr29 : ∀ (x1 : Int32) (x2 : Int32) (x3 : Int32) (T : dt_Ob), r29 x1 x2 x3 T = some res → dt_At G A p l e (dt_rm 5) s m args below meth c 4 (MQ below (dt_Post G A (some (.int res.1)) (dt_put M 18 res.2)) args s 0 0 A) 29 [(0, .ref (G.1 18 0)), (1, .int x1), (2, .int x2), (3, .int x3)] [] (dt_put M 18 T)) : ∀ (x1 : Int32) (x2 : Int32) (x3 : Int32) (T : dt_Ob), fX10_isTower_150 r2 r29 x1 x2 x3 T = some res → dt_At G A p l e (dt_rm 5) s m args below meth c 4 (MQ below (dt_Post G A (some (.int res.1)) (dt_put M 18 res.2)) args s 0 0 A) 150 [(0, .ref (G.1 18 0)), (1, .int x1), (2, .int x2), (3, .int x3)] [] (dt_put M 18 T) := by
  intro x1 x2 x3 T h
  unfold fX10_isTower_150 at h
  refine dz_iinc (pc := 150) (v := (x3 + (1 : Int32))) C dX10_isTower_150 3 rfl rfl (by decide) rfl ?_
  refine dz_goto (pc := 153) (t := 29) C dX10_isTower_153 (by decide) ?_
  refine dz_sub [1, 2, 3, 0] rfl ?_
  exact hr29 x1 x2 (x3 + (1 : Int32)) T h
def fX10_isTower_29 (r2 : Int32 → dt_Ob → Option (Int32 × dt_Ob)) : Nat → Int32 → Int32 → Int32 → dt_Ob → Option (Int32 × dt_Ob)
  | 0, _, _, _, _ => none
  | n + 1, x1, x2, x3, T => ((dt_ix (1 : Int32) 1225).bind fun a4 => (if ((T 0) a4) ≤ x3 then ((dt_ix x1 20).bind fun a5 => (if x2 = ((T 8) a5) then (fX10_isTower_168 r2 x1 T) else (some ((0 : Int32), T)))) else (if x3 = x1 then (fX10_isTower_150 r2 (fX10_isTower_29 r2 n) x1 x2 x3 T) else ((dt_ix x3 20).bind fun a6 => (if ((T 7) a6) = (-1 : Int32) then (fX10_isTower_150 r2 (fX10_isTower_29 r2 n) x1 x2 x3 T) else ((dt_ix x3 20).bind fun a7 => ((dt_ix x1 20).bind fun a8 => ((fX10_own x1 (0 : Int32) T).bind fun q9 => (if ((((T 7) a8) + q9) - (1 : Int32)) < ((T 7) a7) then (fX10_isTower_150 r2 (fX10_isTower_29 r2 n) x1 x2 x3 T) else ((dt_ix x1 20).bind fun a10 => ((dt_ix x3 20).bind fun a11 => ((fX10_own x3 (0 : Int32) T).bind fun q12 => (if ((T 7) a10) ≤ ((((T 7) a11) + q12) - (1 : Int32)) then ((dt_ix x3 20).bind fun a13 => ((dt_ix x1 20).bind fun a14 => (if ((T 8) a13) = ((T 8) a14) then (some ((0 : Int32), T)) else ((dt_ix x3 20).bind fun a15 => ((dt_ix x1 20).bind fun a16 => (if ((T 8) a16) ≤ ((T 8) a15) then (fX10_isTower_150 r2 (fX10_isTower_29 r2 n) x1 x2 x3 T) else ((dt_ix x3 20).bind fun a17 => ((fX10_most x2 (((T 8) a17) + (1 : Int32))).bind fun q18 => (fX10_isTower_150 r2 (fX10_isTower_29 r2 n) x1 q18 x3 T))))))))) else (fX10_isTower_150 r2 (fX10_isTower_29 r2 n) x1 x2 x3 T))))))))))))))
set_option maxRecDepth 10000 in
set_option maxHeartbeats 4000000 in
theorem tX10_isTower_29 {G : dt_G} {A : Nat → Prop} {p : Program} {l : Launch} {e : Env} {s : State} {m : MethodId} {args : Array Value} {below : List Frame} {meth : Method} {c : Code} (C : dt_Cx 1 G A p s m args meth c cX10_isTower 4 RX10) (hr : meth.sig.returnType = (some .boolean)) {M : dt_M} {res : Int32 × dt_Ob} {r2 : Int32 → dt_Ob → Option (Int32 × dt_Ob)} (hr2 : ∀ (x1 : Int32) (T : dt_Ob), r2 x1 T = some res → dt_At G A p l e (dt_rm 5) s m args below meth c 4 (MQ below (dt_Post G A (some (.int res.1)) (dt_put M 18 res.2)) args s 0 0 A) 2 [(0, .ref (G.1 18 0)), (1, .int x1)] [] (dt_put M 18 T)) : ∀ (n : Nat) (x1 : Int32) (x2 : Int32) (x3 : Int32) (T : dt_Ob), fX10_isTower_29 r2 n x1 x2 x3 T = some res → dt_At G A p l e (dt_rm 5) s m args below meth c 4 (MQ below (dt_Post G A (some (.int res.1)) (dt_put M 18 res.2)) args s 0 0 A) 29 [(0, .ref (G.1 18 0)), (1, .int x1), (2, .int x2), (3, .int x3)] [] (dt_put M 18 T) := by
  intro n
  induction n with
  | zero =>
    intro x1 x2 x3 T h
    unfold fX10_isTower_29 at h
    cases h
  | succ n ih =>
    intro x1 x2 x3 T h
    unfold fX10_isTower_29 at h
    refine dz_iload_n (pc := 29) C dX10_isTower_29 rfl 3 rfl ?_
    refine dz_aload_n (pc := 30) C dX10_isTower_30 rfl 0 rfl ?_
    refine dz_getR (pc := 31) (k := 18) (j := 0) C Fc_X10 hk_18 (by decide) (by decide) rfl fl_X10_7 dX10_isTower_31 ?_
    refine dz_iconst (pc := 34) (v := (1 : Int32)) C dX10_isTower_34 (by decide) ?_
    refine dz_iald (pc := 35) (k := 18) (j := 0) (n := 1225) (f := (T 0)) C hk_18 (by decide) rfl (dt_rAf _ _ _ _) dX10_isTower_35 h (fun a4 h => ?_)
    refine dz_icmp_ge (pc := 36) (t := 156) C dX10_isTower_36 (by decide) h (fun h => ?_) (fun h => ?_)
    · refine dz_iload_n (pc := 156) C dX10_isTower_156 rfl 2 rfl ?_
      refine dz_aload_n (pc := 157) C dX10_isTower_157 rfl 0 rfl ?_
      refine dz_getR (pc := 158) (k := 18) (j := 8) C Fc_X10 hk_18 (by decide) (by decide) rfl fl_X10_26 dX10_isTower_158 ?_
      refine dz_iload_n (pc := 161) C dX10_isTower_161 rfl 1 rfl ?_
      refine dz_iald (pc := 162) (k := 18) (j := 8) (n := 20) (f := (T 8)) C hk_18 (by decide) rfl (dt_rAf _ _ _ _) dX10_isTower_162 h (fun a5 h => ?_)
      refine dz_icmp_eq (pc := 163) (t := 168) C dX10_isTower_163 (by decide) h (fun h => ?_) (fun h => ?_)
      · refine dz_sub [0, 1] rfl ?_
        exact tX10_isTower_168 C hr hr2 x1 T h
      · refine dz_iconst (pc := 166) (v := (0 : Int32)) C dX10_isTower_166 (by decide) ?_
        cases dt_some h
        exact dz_zret (pc := 167) C hr (Or.inl rfl) dX10_isTower_167
    · refine dz_iload_n (pc := 39) C dX10_isTower_39 rfl 3 rfl ?_
      refine dz_iload_n (pc := 40) C dX10_isTower_40 rfl 1 rfl ?_
      refine dz_icmp_eq (pc := 41) (t := 150) C dX10_isTower_41 (by decide) h (fun h => ?_) (fun h => ?_)
      · exact tX10_isTower_150 C hr hr2 ih x1 x2 x3 T h
      · refine dz_aload_n (pc := 44) C dX10_isTower_44 rfl 0 rfl ?_
        refine dz_getR (pc := 45) (k := 18) (j := 7) C Fc_X10 hk_18 (by decide) (by decide) rfl fl_X10_23 dX10_isTower_45 ?_
        refine dz_iload_n (pc := 48) C dX10_isTower_48 rfl 3 rfl ?_
        refine dz_iald (pc := 49) (k := 18) (j := 7) (n := 20) (f := (T 7)) C hk_18 (by decide) rfl (dt_rAf _ _ _ _) dX10_isTower_49 h (fun a6 h => ?_)
        refine dz_iconst (pc := 50) (v := (-1 : Int32)) C dX10_isTower_50 (by decide) ?_
        refine dz_icmp_eq (pc := 51) (t := 150) C dX10_isTower_51 (by decide) h (fun h => ?_) (fun h => ?_)
        · exact tX10_isTower_150 C hr hr2 ih x1 x2 x3 T h
        · refine dz_aload_n (pc := 54) C dX10_isTower_54 rfl 0 rfl ?_
          refine dz_getR (pc := 55) (k := 18) (j := 7) C Fc_X10 hk_18 (by decide) (by decide) rfl fl_X10_23 dX10_isTower_55 ?_
          refine dz_iload_n (pc := 58) C dX10_isTower_58 rfl 3 rfl ?_
          refine dz_iald (pc := 59) (k := 18) (j := 7) (n := 20) (f := (T 7)) C hk_18 (by decide) rfl (dt_rAf _ _ _ _) dX10_isTower_59 h (fun a7 h => ?_)
          refine dz_aload_n (pc := 60) C dX10_isTower_60 rfl 0 rfl ?_
          refine dz_getR (pc := 61) (k := 18) (j := 7) C Fc_X10 hk_18 (by decide) (by decide) rfl fl_X10_23 dX10_isTower_61 ?_
          refine dz_iload_n (pc := 64) C dX10_isTower_64 rfl 1 rfl ?_
          refine dz_iald (pc := 65) (k := 18) (j := 7) (n := 20) (f := (T 7)) C hk_18 (by decide) rfl (dt_rAf _ _ _ _) dX10_isTower_65 h (fun a8 h => ?_)
          refine dz_aload_n (pc := 66) C dX10_isTower_66 rfl 0 rfl ?_
          refine dz_iload_n (pc := 67) C dX10_isTower_67 rfl 1 rfl ?_
          refine dz_iconst (pc := 68) (v := (0 : Int32)) C dX10_isTower_68 (by decide) ?_
          obtain ⟨q9, eq9, h⟩ := dt_bind h
          refine dz_callVi (pc := 69) (st := [.int ((T 7) a8), .int ((T 7) a7)]) (k := 18) (As := [.int x1, .int (0 : Int32)]) (M' := (dt_put M 18 T)) C Fc_X10 hk_18 mf_X10_own rfl ml_X10_94 (m_X10_own l _ _ _ _ eq9) rfl rfl (by omega) (by decide) (Nat.le_of_ble_eq_true rfl) dX10_isTower_69 ?_
          refine dz_iadd (pc := 72) C dX10_isTower_72 ?_
          refine dz_iconst (pc := 73) (v := (1 : Int32)) C dX10_isTower_73 (by decide) ?_
          refine dz_isub (pc := 74) C dX10_isTower_74 ?_
          refine dz_icmp_gt (pc := 75) (t := 150) C dX10_isTower_75 (by decide) h (fun h => ?_) (fun h => ?_)
          · exact tX10_isTower_150 C hr hr2 ih x1 x2 x3 T h
          · refine dz_aload_n (pc := 78) C dX10_isTower_78 rfl 0 rfl ?_
            refine dz_getR (pc := 79) (k := 18) (j := 7) C Fc_X10 hk_18 (by decide) (by decide) rfl fl_X10_23 dX10_isTower_79 ?_
            refine dz_iload_n (pc := 82) C dX10_isTower_82 rfl 1 rfl ?_
            refine dz_iald (pc := 83) (k := 18) (j := 7) (n := 20) (f := (T 7)) C hk_18 (by decide) rfl (dt_rAf _ _ _ _) dX10_isTower_83 h (fun a10 h => ?_)
            refine dz_aload_n (pc := 84) C dX10_isTower_84 rfl 0 rfl ?_
            refine dz_getR (pc := 85) (k := 18) (j := 7) C Fc_X10 hk_18 (by decide) (by decide) rfl fl_X10_23 dX10_isTower_85 ?_
            refine dz_iload_n (pc := 88) C dX10_isTower_88 rfl 3 rfl ?_
            refine dz_iald (pc := 89) (k := 18) (j := 7) (n := 20) (f := (T 7)) C hk_18 (by decide) rfl (dt_rAf _ _ _ _) dX10_isTower_89 h (fun a11 h => ?_)
            refine dz_aload_n (pc := 90) C dX10_isTower_90 rfl 0 rfl ?_
            refine dz_iload_n (pc := 91) C dX10_isTower_91 rfl 3 rfl ?_
            refine dz_iconst (pc := 92) (v := (0 : Int32)) C dX10_isTower_92 (by decide) ?_
            obtain ⟨q12, eq12, h⟩ := dt_bind h
            refine dz_callVi (pc := 93) (st := [.int ((T 7) a11), .int ((T 7) a10)]) (k := 18) (As := [.int x3, .int (0 : Int32)]) (M' := (dt_put M 18 T)) C Fc_X10 hk_18 mf_X10_own rfl ml_X10_94 (m_X10_own l _ _ _ _ eq12) rfl rfl (by omega) (by decide) (Nat.le_of_ble_eq_true rfl) dX10_isTower_93 ?_
            refine dz_iadd (pc := 96) C dX10_isTower_96 ?_
            refine dz_iconst (pc := 97) (v := (1 : Int32)) C dX10_isTower_97 (by decide) ?_
            refine dz_isub (pc := 98) C dX10_isTower_98 ?_
            refine dz_icmp_le (pc := 99) (t := 105) C dX10_isTower_99 (by decide) h (fun h => ?_) (fun h => ?_)
            · refine dz_aload_n (pc := 105) C dX10_isTower_105 rfl 0 rfl ?_
              refine dz_getR (pc := 106) (k := 18) (j := 8) C Fc_X10 hk_18 (by decide) (by decide) rfl fl_X10_26 dX10_isTower_106 ?_
              refine dz_iload_n (pc := 109) C dX10_isTower_109 rfl 3 rfl ?_
              refine dz_iald (pc := 110) (k := 18) (j := 8) (n := 20) (f := (T 8)) C hk_18 (by decide) rfl (dt_rAf _ _ _ _) dX10_isTower_110 h (fun a13 h => ?_)
              refine dz_aload_n (pc := 111) C dX10_isTower_111 rfl 0 rfl ?_
              refine dz_getR (pc := 112) (k := 18) (j := 8) C Fc_X10 hk_18 (by decide) (by decide) rfl fl_X10_26 dX10_isTower_112 ?_
              refine dz_iload_n (pc := 115) C dX10_isTower_115 rfl 1 rfl ?_
              refine dz_iald (pc := 116) (k := 18) (j := 8) (n := 20) (f := (T 8)) C hk_18 (by decide) rfl (dt_rAf _ _ _ _) dX10_isTower_116 h (fun a14 h => ?_)
              refine dz_icmp_ne (pc := 117) (t := 122) C dX10_isTower_117 (by decide) h (fun h => ?_) (fun h => ?_)
              · refine dz_aload_n (pc := 122) C dX10_isTower_122 rfl 0 rfl ?_
                refine dz_getR (pc := 123) (k := 18) (j := 8) C Fc_X10 hk_18 (by decide) (by decide) rfl fl_X10_26 dX10_isTower_123 ?_
                refine dz_iload_n (pc := 126) C dX10_isTower_126 rfl 3 rfl ?_
                refine dz_iald (pc := 127) (k := 18) (j := 8) (n := 20) (f := (T 8)) C hk_18 (by decide) rfl (dt_rAf _ _ _ _) dX10_isTower_127 h (fun a15 h => ?_)
                refine dz_aload_n (pc := 128) C dX10_isTower_128 rfl 0 rfl ?_
                refine dz_getR (pc := 129) (k := 18) (j := 8) C Fc_X10 hk_18 (by decide) (by decide) rfl fl_X10_26 dX10_isTower_129 ?_
                refine dz_iload_n (pc := 132) C dX10_isTower_132 rfl 1 rfl ?_
                refine dz_iald (pc := 133) (k := 18) (j := 8) (n := 20) (f := (T 8)) C hk_18 (by decide) rfl (dt_rAf _ _ _ _) dX10_isTower_133 h (fun a16 h => ?_)
                refine dz_icmp_ge (pc := 134) (t := 150) C dX10_isTower_134 (by decide) h (fun h => ?_) (fun h => ?_)
                · exact tX10_isTower_150 C hr hr2 ih x1 x2 x3 T h
                · refine dz_iload_n (pc := 137) C dX10_isTower_137 rfl 2 rfl ?_
                  refine dz_aload_n (pc := 138) C dX10_isTower_138 rfl 0 rfl ?_
                  refine dz_getR (pc := 139) (k := 18) (j := 8) C Fc_X10 hk_18 (by decide) (by decide) rfl fl_X10_26 dX10_isTower_139 ?_
                  refine dz_iload_n (pc := 142) C dX10_isTower_142 rfl 3 rfl ?_
                  refine dz_iald (pc := 143) (k := 18) (j := 8) (n := 20) (f := (T 8)) C hk_18 (by decide) rfl (dt_rAf _ _ _ _) dX10_isTower_143 h (fun a17 h => ?_)
                  refine dz_iconst (pc := 144) (v := (1 : Int32)) C dX10_isTower_144 (by decide) ?_
                  refine dz_iadd (pc := 145) C dX10_isTower_145 ?_
                  obtain ⟨q18, eq18, h⟩ := dt_bind h
                  refine dz_callSi (pc := 146) (st := []) (As := [.int x2, .int (((T 8) a17) + (1 : Int32))]) (M' := (dt_put M 18 T)) C ms_X10_most ml_X10_97 (m_X10_most l _ _ _ eq18) rfl rfl (by omega) (by decide) (Nat.le_of_ble_eq_true rfl) dX10_isTower_146 ?_
                  refine dz_istore_n (pc := 149) C dX10_isTower_149 rfl (by decide) rfl ?_
                  refine dz_sub [1, 2, 0, 3] rfl ?_
                  exact tX10_isTower_150 C hr hr2 ih x1 q18 x3 T h
              · refine dz_iconst (pc := 120) (v := (0 : Int32)) C dX10_isTower_120 (by decide) ?_
                cases dt_some h
                exact dz_zret (pc := 121) C hr (Or.inl rfl) dX10_isTower_121
            · refine dz_goto (pc := 102) (t := 150) C dX10_isTower_102 (by decide) ?_
              exact tX10_isTower_150 C hr hr2 ih x1 x2 x3 T h
def fX10_isTower_2  : Nat → Int32 → dt_Ob → Option (Int32 × dt_Ob)
  | 0, _, _ => none
  | n + 1, x1, T => ((dt_ix (1 : Int32) 1225).bind fun a1 => (if ((T 0) a1) ≤ x1 then ((fX10_tooMuch T).bind fun q2 => (if q2.1 = (-1 : Int32) then (fX10_isTower_192 (T 5 0) (1 : Int32) q2.2) else (fX10_isTower_192 (T 5 0) (0 : Int32) q2.2))) else ((dt_ix x1 20).bind fun a3 => (if ((T 7) a3) = (-1 : Int32) then (fX10_isTower_168 (fX10_isTower_2 n) x1 T) else (fX10_isTower_29 (fX10_isTower_2 n) dt_F x1 (0 : Int32) (0 : Int32) T)))))
set_option maxRecDepth 10000 in
set_option maxHeartbeats 4000000 in
theorem tX10_isTower_2 {G : dt_G} {A : Nat → Prop} {p : Program} {l : Launch} {e : Env} {s : State} {m : MethodId} {args : Array Value} {below : List Frame} {meth : Method} {c : Code} (C : dt_Cx 1 G A p s m args meth c cX10_isTower 4 RX10) (hr : meth.sig.returnType = (some .boolean)) {M : dt_M} {res : Int32 × dt_Ob}  : ∀ (n : Nat) (x1 : Int32) (T : dt_Ob), fX10_isTower_2 n x1 T = some res → dt_At G A p l e (dt_rm 5) s m args below meth c 4 (MQ below (dt_Post G A (some (.int res.1)) (dt_put M 18 res.2)) args s 0 0 A) 2 [(0, .ref (G.1 18 0)), (1, .int x1)] [] (dt_put M 18 T) := by
  intro n
  induction n with
  | zero =>
    intro x1 T h
    unfold fX10_isTower_2 at h
    cases h
  | succ n ih =>
    intro x1 T h
    unfold fX10_isTower_2 at h
    refine dz_iload_n (pc := 2) C dX10_isTower_2 rfl 1 rfl ?_
    refine dz_aload_n (pc := 3) C dX10_isTower_3 rfl 0 rfl ?_
    refine dz_getR (pc := 4) (k := 18) (j := 0) C Fc_X10 hk_18 (by decide) (by decide) rfl fl_X10_7 dX10_isTower_4 ?_
    refine dz_iconst (pc := 7) (v := (1 : Int32)) C dX10_isTower_7 (by decide) ?_
    refine dz_iald (pc := 8) (k := 18) (j := 0) (n := 1225) (f := (T 0)) C hk_18 (by decide) rfl (dt_rAf _ _ _ _) dX10_isTower_8 h (fun a1 h => ?_)
    refine dz_icmp_ge (pc := 9) (t := 174) C dX10_isTower_9 (by decide) h (fun h => ?_) (fun h => ?_)
    · refine dz_aload_n (pc := 174) C dX10_isTower_174 rfl 0 rfl ?_
      refine dz_getI (pc := 175) (k := 18) (j := 5) (v := (T 5 0)) C Fc_X10 hk_18 (by decide) rfl rfl fl_X10_19 (dt_rA _ _ _ _ _) dX10_isTower_175 ?_
      refine dz_istore_n (pc := 178) C dX10_isTower_178 rfl (by decide) rfl ?_
      refine dz_aload_n (pc := 179) C dX10_isTower_179 rfl 1 rfl ?_
      obtain ⟨q2, eq2, h⟩ := dt_bind h
      refine dz_callVi (pc := 180) (st := []) (k := 18) (As := []) (M' := (dt_put M 18 q2.2)) C Fc_X10 hk_18 mf_X10_tooMuch rfl ml_X10_124 (m_X10_tooMuch l _ _ eq2) rfl rfl (by omega) (by decide) (Nat.le_of_ble_eq_true rfl) dX10_isTower_180 ?_
      refine dz_iconst (pc := 183) (v := (-1 : Int32)) C dX10_isTower_183 (by decide) ?_
      refine dz_icmp_ne (pc := 184) (t := 191) C dX10_isTower_184 (by decide) h (fun h => ?_) (fun h => ?_)
      · refine dz_iconst (pc := 191) (v := (0 : Int32)) C dX10_isTower_191 (by decide) ?_
        refine dz_sub [1, 0] rfl ?_
        exact tX10_isTower_192 C hr  (T 5 0) (0 : Int32) q2.2 h
      · refine dz_iconst (pc := 187) (v := (1 : Int32)) C dX10_isTower_187 (by decide) ?_
        refine dz_goto (pc := 188) (t := 192) C dX10_isTower_188 (by decide) ?_
        refine dz_sub [1, 0] rfl ?_
        exact tX10_isTower_192 C hr  (T 5 0) (1 : Int32) q2.2 h
    · refine dz_aload_n (pc := 12) C dX10_isTower_12 rfl 0 rfl ?_
      refine dz_getR (pc := 13) (k := 18) (j := 7) C Fc_X10 hk_18 (by decide) (by decide) rfl fl_X10_23 dX10_isTower_13 ?_
      refine dz_iload_n (pc := 16) C dX10_isTower_16 rfl 1 rfl ?_
      refine dz_iald (pc := 17) (k := 18) (j := 7) (n := 20) (f := (T 7)) C hk_18 (by decide) rfl (dt_rAf _ _ _ _) dX10_isTower_17 h (fun a3 h => ?_)
      refine dz_iconst (pc := 18) (v := (-1 : Int32)) C dX10_isTower_18 (by decide) ?_
      refine dz_icmp_ne (pc := 19) (t := 25) C dX10_isTower_19 (by decide) h (fun h => ?_) (fun h => ?_)
      · refine dz_iconst (pc := 25) (v := (0 : Int32)) C dX10_isTower_25 (by decide) ?_
        refine dz_istore_n (pc := 26) C dX10_isTower_26 rfl (by decide) rfl ?_
        refine dz_iconst (pc := 27) (v := (0 : Int32)) C dX10_isTower_27 (by decide) ?_
        refine dz_istore_n (pc := 28) C dX10_isTower_28 rfl (by decide) rfl ?_
        refine dz_sub [2, 3, 1, 0] rfl ?_
        exact tX10_isTower_29 C hr ih dt_F x1 (0 : Int32) (0 : Int32) T h
      · refine dz_goto (pc := 22) (t := 168) C dX10_isTower_22 (by decide) ?_
        exact tX10_isTower_168 C hr ih x1 T h
def fX10_isTower  (T : dt_Ob) : Option (Int32 × dt_Ob) := (fX10_isTower_2 dt_F (0 : Int32) T)
set_option maxRecDepth 10000 in
set_option maxHeartbeats 4000000 in
theorem m_X10_isTower (l : Launch)  (M : dt_M) (T : dt_Ob)   {res : Int32 × dt_Ob} (h : fX10_isTower T = some res) : dt_Met 1 l yX10_isTower cX10_isTower 4 (some .boolean) 5 (fun G => [.ref (G.1 18 0)]) (dt_put M 18 T) (some (.int res.1)) (dt_put M 18 res.2) := by
  refine dz_enter (lv := fun G => [(0, .ref (G.1 18 0))]) (by decide) (fun _ => rfl) (fun _ => Nat.le_of_ble_eq_true rfl) (fun G A p e s m args below meth c C hr => ?_)
  unfold fX10_isTower at h
  refine dz_iconst (pc := 0) (v := (0 : Int32)) C dX10_isTower_0 (by decide) ?_
  refine dz_istore_n (pc := 1) C dX10_isTower_1 rfl (by decide) rfl ?_
  refine dz_sub [1, 0] rfl ?_
  exact tX10_isTower_2 C hr dt_F (0 : Int32) T h

def fX10_triesTowers_178 (rc : Int32 → Int32 → dt_Ob → Option (dt_Ob)) (r92 : Int32 → Int32 → Int32 → dt_Ob → Option (dt_Ob)) (x1 : Int32) (x2 : Int32) (x3 : Int32) (T : dt_Ob) : Option (dt_Ob) := (r92 x1 x2 (x3 + (1 : Int32)) T)
set_option maxRecDepth 10000 in
set_option maxHeartbeats 4000000 in
theorem tX10_triesTowers_178 {G : dt_G} {A : Nat → Prop} {p : Program} {l : Launch} {e : Env} {s : State} {m : MethodId} {args : Array Value} {below : List Frame} {meth : Method} {c : Code} (C : dt_Cx 1 G A p s m args meth c cX10_triesTowers 5 RX10) (hr : meth.sig.returnType = none) {M : dt_M} {hN : Nat} (hGB : 5 ≤ hN) {rc : Int32 → Int32 → dt_Ob → Option (dt_Ob)} (hrc : ∀ (M : dt_M) (T : dt_Ob) (x1 : Int32) (x2 : Int32) {res : dt_Ob}, rc x1 x2 T = some res → dt_Met 1 l yX10_triesTowers cX10_triesTowers 5 none hN (fun G => [.ref (G.1 18 0), .int x1, .int x2]) (dt_put M 18 T) none (dt_put M 18 res)) {res : dt_Ob} {r92 : Int32 → Int32 → Int32 → dt_Ob → Option (dt_Ob)} (hr92 : ∀ (x1 : Int32) (x2 : Int32) (x3 : Int32) (T : dt_Ob), r92 x1 x2 x3 T = some res → dt_At G A p l e (dt_rm (hN + 1)) s m args below meth c 5 (MQ below (dt_Post G A none (dt_put M 18 res)) args s 0 0 A) 92 [(0, .ref (G.1 18 0)), (1, .int x1), (2, .int x2), (3, .int x3)] [] (dt_put M 18 T)) : ∀ (x1 : Int32) (x2 : Int32) (x3 : Int32) (T : dt_Ob), fX10_triesTowers_178 rc r92 x1 x2 x3 T = some res → dt_At G A p l e (dt_rm (hN + 1)) s m args below meth c 5 (MQ below (dt_Post G A none (dt_put M 18 res)) args s 0 0 A) 178 [(0, .ref (G.1 18 0)), (1, .int x1), (2, .int x2), (3, .int x3)] [] (dt_put M 18 T) := by
  intro x1 x2 x3 T h
  unfold fX10_triesTowers_178 at h
  refine dz_iinc (pc := 178) (v := (x3 + (1 : Int32))) C dX10_triesTowers_178 3 rfl rfl (by decide) rfl ?_
  refine dz_goto (pc := 181) (t := 92) C dX10_triesTowers_181 (by decide) ?_
  refine dz_sub [1, 2, 3, 0] rfl ?_
  exact hr92 x1 x2 (x3 + (1 : Int32)) T h
def fX10_triesTowers_92 (rc : Int32 → Int32 → dt_Ob → Option (dt_Ob))  : Nat → Int32 → Int32 → Int32 → dt_Ob → Option (dt_Ob)
  | 0, _, _, _, _ => none
  | n + 1, x1, x2, x3, T => ((dt_ix (0 : Int32) 1225).bind fun a8 => ((fX10_own x2 (0 : Int32) T).bind fun q9 => (if (((T 0) a8) - q9) < x3 then (some T) else ((fX10_own x2 (4 : Int32) T).bind fun q10 => (if ((q10 - (10 : Int32)) - x3) < 0 then (fX10_triesTowers_178 rc (fX10_triesTowers_92 rc n) x1 x2 x3 T) else (if (((q10 - (10 : Int32)) - x3) - ((q10 - (10 : Int32)) - x3) / (2 : Int32) * (2 : Int32)) = 0 then (if (((q10 - (10 : Int32)) - x3) / (2 : Int32)) < (6 : Int32) then ((dt_ix x2 20).bind fun a11 => ((dt_ix x2 20).bind fun a12 => ((rc x1 (x2 + (1 : Int32)) (dt_set (dt_set T 7 a11 x3) 8 a12 (((q10 - (10 : Int32)) - x3) / (2 : Int32)))).bind fun q13 => ((dt_ix x2 20).bind fun a14 => (fX10_triesTowers_178 rc (fX10_triesTowers_92 rc n) x1 x2 x3 (dt_set q13 7 a14 (-1 : Int32))))))) else (fX10_triesTowers_178 rc (fX10_triesTowers_92 rc n) x1 x2 x3 T)) else (fX10_triesTowers_178 rc (fX10_triesTowers_92 rc n) x1 x2 x3 T)))))))
set_option maxRecDepth 10000 in
set_option maxHeartbeats 4000000 in
theorem tX10_triesTowers_92 {G : dt_G} {A : Nat → Prop} {p : Program} {l : Launch} {e : Env} {s : State} {m : MethodId} {args : Array Value} {below : List Frame} {meth : Method} {c : Code} (C : dt_Cx 1 G A p s m args meth c cX10_triesTowers 5 RX10) (hr : meth.sig.returnType = none) {M : dt_M} {hN : Nat} (hGB : 5 ≤ hN) {rc : Int32 → Int32 → dt_Ob → Option (dt_Ob)} (hrc : ∀ (M : dt_M) (T : dt_Ob) (x1 : Int32) (x2 : Int32) {res : dt_Ob}, rc x1 x2 T = some res → dt_Met 1 l yX10_triesTowers cX10_triesTowers 5 none hN (fun G => [.ref (G.1 18 0), .int x1, .int x2]) (dt_put M 18 T) none (dt_put M 18 res)) {res : dt_Ob}  : ∀ (n : Nat) (x1 : Int32) (x2 : Int32) (x3 : Int32) (T : dt_Ob), fX10_triesTowers_92 rc n x1 x2 x3 T = some res → dt_At G A p l e (dt_rm (hN + 1)) s m args below meth c 5 (MQ below (dt_Post G A none (dt_put M 18 res)) args s 0 0 A) 92 [(0, .ref (G.1 18 0)), (1, .int x1), (2, .int x2), (3, .int x3)] [] (dt_put M 18 T) := by
  intro n
  induction n with
  | zero =>
    intro x1 x2 x3 T h
    unfold fX10_triesTowers_92 at h
    cases h
  | succ n ih =>
    intro x1 x2 x3 T h
    unfold fX10_triesTowers_92 at h
    refine dz_iload_n (pc := 92) C dX10_triesTowers_92 rfl 3 rfl ?_
    refine dz_aload_n (pc := 93) C dX10_triesTowers_93 rfl 0 rfl ?_
    refine dz_getR (pc := 94) (k := 18) (j := 0) C Fc_X10 hk_18 (by decide) (by decide) rfl fl_X10_7 dX10_triesTowers_94 ?_
    refine dz_iconst (pc := 97) (v := (0 : Int32)) C dX10_triesTowers_97 (by decide) ?_
    refine dz_iald (pc := 98) (k := 18) (j := 0) (n := 1225) (f := (T 0)) C hk_18 (by decide) rfl (dt_rAf _ _ _ _) dX10_triesTowers_98 h (fun a8 h => ?_)
    refine dz_aload_n (pc := 99) C dX10_triesTowers_99 rfl 0 rfl ?_
    refine dz_iload_n (pc := 100) C dX10_triesTowers_100 rfl 2 rfl ?_
    refine dz_iconst (pc := 101) (v := (0 : Int32)) C dX10_triesTowers_101 (by decide) ?_
    obtain ⟨q9, eq9, h⟩ := dt_bind h
    refine dz_callVi (pc := 102) (st := [.int ((T 0) a8), .int x3]) (k := 18) (As := [.int x2, .int (0 : Int32)]) (M' := (dt_put M 18 T)) C Fc_X10 hk_18 mf_X10_own rfl ml_X10_94 (m_X10_own l _ _ _ _ eq9) rfl rfl (by omega) (by decide) (Nat.le_of_ble_eq_true rfl) dX10_triesTowers_102 ?_
    refine dz_isub (pc := 105) C dX10_triesTowers_105 ?_
    refine dz_icmp_gt (pc := 106) (t := 184) C dX10_triesTowers_106 (by decide) h (fun h => ?_) (fun h => ?_)
    · cases dt_some h
      exact dz_vret (pc := 184) C hr dX10_triesTowers_184
    · refine dz_aload_n (pc := 109) C dX10_triesTowers_109 rfl 0 rfl ?_
      refine dz_iload_n (pc := 110) C dX10_triesTowers_110 rfl 2 rfl ?_
      refine dz_iconst (pc := 111) (v := (4 : Int32)) C dX10_triesTowers_111 (by decide) ?_
      obtain ⟨q10, eq10, h⟩ := dt_bind h
      refine dz_callVi (pc := 112) (st := []) (k := 18) (As := [.int x2, .int (4 : Int32)]) (M' := (dt_put M 18 T)) C Fc_X10 hk_18 mf_X10_own rfl ml_X10_94 (m_X10_own l _ _ _ _ eq10) rfl rfl (by omega) (by decide) (Nat.le_of_ble_eq_true rfl) dX10_triesTowers_112 ?_
      refine dz_bipush (pc := 115) (v := (10 : Int32)) C dX10_triesTowers_115 (by decide) ?_
      refine dz_isub (pc := 117) C dX10_triesTowers_117 ?_
      refine dz_iload_n (pc := 118) C dX10_triesTowers_118 rfl 3 rfl ?_
      refine dz_isub (pc := 119) C dX10_triesTowers_119 ?_
      refine dz_istore (pc := 120) C dX10_triesTowers_120 (by decide) rfl ?_
      refine dz_iload (pc := 122) C dX10_triesTowers_122 0 rfl ?_
      refine dz_if_lt (pc := 124) (t := 178) C dX10_triesTowers_124 (by decide) h (fun h => ?_) (fun h => ?_)
      · refine dz_sub [1, 2, 3, 4] rfl ?_
        exact tX10_triesTowers_178 C hr hGB hrc ih x1 x2 x3 T h
      · refine dz_iload (pc := 127) C dX10_triesTowers_127 0 rfl ?_
        refine dz_iconst (pc := 129) (v := (2 : Int32)) C dX10_triesTowers_129 (by decide) ?_
        refine dz_iremc (pc := 130) C dX10_triesTowers_130 (by decide) ?_
        refine dz_if_ne (pc := 131) (t := 178) C dX10_triesTowers_131 (by decide) h (fun h => ?_) (fun h => ?_)
        · refine dz_sub [1, 2, 3, 4] rfl ?_
          exact tX10_triesTowers_178 C hr hGB hrc ih x1 x2 x3 T h
        · refine dz_iload (pc := 134) C dX10_triesTowers_134 0 rfl ?_
          refine dz_iconst (pc := 136) (v := (2 : Int32)) C dX10_triesTowers_136 (by decide) ?_
          refine dz_idivc (pc := 137) C dX10_triesTowers_137 (by decide) ?_
          refine dz_bipush (pc := 138) (v := (6 : Int32)) C dX10_triesTowers_138 (by decide) ?_
          refine dz_icmp_lt (pc := 140) (t := 146) C dX10_triesTowers_140 (by decide) h (fun h => ?_) (fun h => ?_)
          · refine dz_aload_n (pc := 146) C dX10_triesTowers_146 rfl 1 rfl ?_
            refine dz_getR (pc := 147) (k := 18) (j := 7) C Fc_X10 hk_18 (by decide) (by decide) rfl fl_X10_23 dX10_triesTowers_147 ?_
            refine dz_iload_n (pc := 150) C dX10_triesTowers_150 rfl 3 rfl ?_
            refine dz_iload_n (pc := 151) C dX10_triesTowers_151 rfl 4 rfl ?_
            refine dz_iast (pc := 152) (k := 18) (j := 7) (n := 20) (M' := fun a11 => (dt_put M 18 (dt_set T 7 a11 x3))) C hk_18 (by decide) rfl (fun a11 => (dt_wA _ _ _ _ _ _)) dX10_triesTowers_152 h (fun a11 h => ?_)
            refine dz_aload_n (pc := 153) C dX10_triesTowers_153 rfl 1 rfl ?_
            refine dz_getR (pc := 154) (k := 18) (j := 8) C Fc_X10 hk_18 (by decide) (by decide) rfl fl_X10_26 dX10_triesTowers_154 ?_
            refine dz_iload_n (pc := 157) C dX10_triesTowers_157 rfl 3 rfl ?_
            refine dz_iload (pc := 158) C dX10_triesTowers_158 0 rfl ?_
            refine dz_iconst (pc := 160) (v := (2 : Int32)) C dX10_triesTowers_160 (by decide) ?_
            refine dz_idivc (pc := 161) C dX10_triesTowers_161 (by decide) ?_
            refine dz_iast (pc := 162) (k := 18) (j := 8) (n := 20) (M' := fun a12 => (dt_put M 18 (dt_set (dt_set T 7 a11 x3) 8 a12 (((q10 - (10 : Int32)) - x3) / (2 : Int32))))) C hk_18 (by decide) rfl (fun a12 => (dt_wA _ _ _ _ _ _)) dX10_triesTowers_162 h (fun a12 h => ?_)
            refine dz_aload_n (pc := 163) C dX10_triesTowers_163 rfl 1 rfl ?_
            refine dz_iload_n (pc := 164) C dX10_triesTowers_164 rfl 2 rfl ?_
            refine dz_iload_n (pc := 165) C dX10_triesTowers_165 rfl 3 rfl ?_
            refine dz_iconst (pc := 166) (v := (1 : Int32)) C dX10_triesTowers_166 (by decide) ?_
            refine dz_iadd (pc := 167) C dX10_triesTowers_167 ?_
            obtain ⟨q13, eq13, h⟩ := dt_bind h
            refine dz_callVv (pc := 168) (st := []) (k := 18) (As := [.int x1, .int (x2 + (1 : Int32))]) (M' := (dt_put M 18 q13)) C Fc_X10 hk_18 mf_X10_triesTowers rfl ml_X10_326 (hrc _ _ _ _ eq13) rfl rfl (by omega) (by decide) (Nat.le_of_ble_eq_true rfl) dX10_triesTowers_168 ?_
            refine dz_aload_n (pc := 171) C dX10_triesTowers_171 rfl 1 rfl ?_
            refine dz_getR (pc := 172) (k := 18) (j := 7) C Fc_X10 hk_18 (by decide) (by decide) rfl fl_X10_23 dX10_triesTowers_172 ?_
            refine dz_iload_n (pc := 175) C dX10_triesTowers_175 rfl 3 rfl ?_
            refine dz_iconst (pc := 176) (v := (-1 : Int32)) C dX10_triesTowers_176 (by decide) ?_
            refine dz_iast (pc := 177) (k := 18) (j := 7) (n := 20) (M' := fun a14 => (dt_put M 18 (dt_set q13 7 a14 (-1 : Int32)))) C hk_18 (by decide) rfl (fun a14 => (dt_wA _ _ _ _ _ _)) dX10_triesTowers_177 h (fun a14 h => ?_)
            refine dz_sub [1, 2, 3, 4] rfl ?_
            exact tX10_triesTowers_178 C hr hGB hrc ih x1 x2 x3 (dt_set q13 7 a14 (-1 : Int32)) h
          · refine dz_goto (pc := 143) (t := 178) C dX10_triesTowers_143 (by decide) ?_
            refine dz_sub [1, 2, 3, 4] rfl ?_
            exact tX10_triesTowers_178 C hr hGB hrc ih x1 x2 x3 T h
def fX10_triesTowers_62 (rc : Int32 → Int32 → dt_Ob → Option (dt_Ob))  (T : dt_Ob) : Option (dt_Ob) := (some (dt_set T 37 0 ((T 37 0) + (1 : Int32))))
set_option maxRecDepth 10000 in
set_option maxHeartbeats 4000000 in
theorem tX10_triesTowers_62 {G : dt_G} {A : Nat → Prop} {p : Program} {l : Launch} {e : Env} {s : State} {m : MethodId} {args : Array Value} {below : List Frame} {meth : Method} {c : Code} (C : dt_Cx 1 G A p s m args meth c cX10_triesTowers 5 RX10) (hr : meth.sig.returnType = none) {M : dt_M} {hN : Nat} (hGB : 5 ≤ hN) {rc : Int32 → Int32 → dt_Ob → Option (dt_Ob)} (hrc : ∀ (M : dt_M) (T : dt_Ob) (x1 : Int32) (x2 : Int32) {res : dt_Ob}, rc x1 x2 T = some res → dt_Met 1 l yX10_triesTowers cX10_triesTowers 5 none hN (fun G => [.ref (G.1 18 0), .int x1, .int x2]) (dt_put M 18 T) none (dt_put M 18 res)) {res : dt_Ob}  : ∀ (T : dt_Ob), fX10_triesTowers_62 rc T = some res → dt_At G A p l e (dt_rm (hN + 1)) s m args below meth c 5 (MQ below (dt_Post G A none (dt_put M 18 res)) args s 0 0 A) 62 [(0, .ref (G.1 18 0))] [] (dt_put M 18 T) := by
  intro T h
  unfold fX10_triesTowers_62 at h
  refine dz_aload_n (pc := 62) C dX10_triesTowers_62 rfl 0 rfl ?_
  refine dz_dup (pc := 63) C dX10_triesTowers_63 rfl ?_
  refine dz_getI (pc := 64) (k := 18) (j := 37) (v := (T 37 0)) C Fc_X10 hk_18 (by decide) rfl rfl fl_X10_323 (dt_rA _ _ _ _ _) dX10_triesTowers_64 ?_
  refine dz_iconst (pc := 67) (v := (1 : Int32)) C dX10_triesTowers_67 (by decide) ?_
  refine dz_iadd (pc := 68) C dX10_triesTowers_68 ?_
  refine dz_putI (pc := 69) (k := 18) (j := 37) (M' := (dt_put M 18 (dt_set T 37 0 ((T 37 0) + (1 : Int32))))) C Fc_X10 hk_18 (by decide) rfl rfl rfl rfl fl_X10_323 (dt_wA _ _ _ _ _ _) dX10_triesTowers_69 ?_
  cases dt_some h
  exact dz_vret (pc := 72) C hr dX10_triesTowers_72
def fX10_triesTowers_20 (rc : Int32 → Int32 → dt_Ob → Option (dt_Ob))  : Nat → Int32 → Int32 → dt_Ob → Option (dt_Ob)
  | 0, _, _, _ => none
  | n + 1, x2, x3, T => (if x2 ≤ x3 then (fX10_triesTowers_62 rc T) else (if (T 37 0) = 0 then ((dt_ix x3 20).bind fun a4 => ((dt_ix x3 20).bind fun a5 => ((dt_ix x3 20).bind fun a6 => ((dt_ix x3 20).bind fun a7 => ((fX10_triesTowers_20 rc n) x2 (x3 + (1 : Int32)) (dt_set (dt_set T 35 a5 ((T 7) a4)) 36 a7 ((T 8) a6))))))) else (fX10_triesTowers_62 rc T)))
set_option maxRecDepth 10000 in
set_option maxHeartbeats 4000000 in
theorem tX10_triesTowers_20 {G : dt_G} {A : Nat → Prop} {p : Program} {l : Launch} {e : Env} {s : State} {m : MethodId} {args : Array Value} {below : List Frame} {meth : Method} {c : Code} (C : dt_Cx 1 G A p s m args meth c cX10_triesTowers 5 RX10) (hr : meth.sig.returnType = none) {M : dt_M} {hN : Nat} (hGB : 5 ≤ hN) {rc : Int32 → Int32 → dt_Ob → Option (dt_Ob)} (hrc : ∀ (M : dt_M) (T : dt_Ob) (x1 : Int32) (x2 : Int32) {res : dt_Ob}, rc x1 x2 T = some res → dt_Met 1 l yX10_triesTowers cX10_triesTowers 5 none hN (fun G => [.ref (G.1 18 0), .int x1, .int x2]) (dt_put M 18 T) none (dt_put M 18 res)) {res : dt_Ob}  : ∀ (n : Nat) (x2 : Int32) (x3 : Int32) (T : dt_Ob), fX10_triesTowers_20 rc n x2 x3 T = some res → dt_At G A p l e (dt_rm (hN + 1)) s m args below meth c 5 (MQ below (dt_Post G A none (dt_put M 18 res)) args s 0 0 A) 20 [(0, .ref (G.1 18 0)), (2, .int x2), (3, .int x3)] [] (dt_put M 18 T) := by
  intro n
  induction n with
  | zero =>
    intro x2 x3 T h
    unfold fX10_triesTowers_20 at h
    cases h
  | succ n ih =>
    intro x2 x3 T h
    unfold fX10_triesTowers_20 at h
    refine dz_iload_n (pc := 20) C dX10_triesTowers_20 rfl 2 rfl ?_
    refine dz_iload_n (pc := 21) C dX10_triesTowers_21 rfl 1 rfl ?_
    refine dz_icmp_ge (pc := 22) (t := 62) C dX10_triesTowers_22 (by decide) h (fun h => ?_) (fun h => ?_)
    · refine dz_sub [0] rfl ?_
      exact tX10_triesTowers_62 C hr hGB hrc  T h
    · refine dz_aload_n (pc := 25) C dX10_triesTowers_25 rfl 0 rfl ?_
      refine dz_getI (pc := 26) (k := 18) (j := 37) (v := (T 37 0)) C Fc_X10 hk_18 (by decide) rfl rfl fl_X10_323 (dt_rA _ _ _ _ _) dX10_triesTowers_26 ?_
      refine dz_if_ne (pc := 29) (t := 62) C dX10_triesTowers_29 (by decide) h (fun h => ?_) (fun h => ?_)
      · refine dz_sub [0] rfl ?_
        exact tX10_triesTowers_62 C hr hGB hrc  T h
      · refine dz_aload_n (pc := 32) C dX10_triesTowers_32 rfl 0 rfl ?_
        refine dz_getR (pc := 33) (k := 18) (j := 35) C Fc_X10 hk_18 (by decide) (by decide) rfl fl_X10_70 dX10_triesTowers_33 ?_
        refine dz_iload_n (pc := 36) C dX10_triesTowers_36 rfl 2 rfl ?_
        refine dz_aload_n (pc := 37) C dX10_triesTowers_37 rfl 0 rfl ?_
        refine dz_getR (pc := 38) (k := 18) (j := 7) C Fc_X10 hk_18 (by decide) (by decide) rfl fl_X10_23 dX10_triesTowers_38 ?_
        refine dz_iload_n (pc := 41) C dX10_triesTowers_41 rfl 2 rfl ?_
        refine dz_iald (pc := 42) (k := 18) (j := 7) (n := 20) (f := (T 7)) C hk_18 (by decide) rfl (dt_rAf _ _ _ _) dX10_triesTowers_42 h (fun a4 h => ?_)
        refine dz_iast (pc := 43) (k := 18) (j := 35) (n := 20) (M' := fun a5 => (dt_put M 18 (dt_set T 35 a5 ((T 7) a4)))) C hk_18 (by decide) rfl (fun a5 => (dt_wA _ _ _ _ _ _)) dX10_triesTowers_43 h (fun a5 h => ?_)
        refine dz_aload_n (pc := 44) C dX10_triesTowers_44 rfl 0 rfl ?_
        refine dz_getR (pc := 45) (k := 18) (j := 36) C Fc_X10 hk_18 (by decide) (by decide) rfl fl_X10_73 dX10_triesTowers_45 ?_
        refine dz_iload_n (pc := 48) C dX10_triesTowers_48 rfl 2 rfl ?_
        refine dz_aload_n (pc := 49) C dX10_triesTowers_49 rfl 0 rfl ?_
        refine dz_getR (pc := 50) (k := 18) (j := 8) C Fc_X10 hk_18 (by decide) (by decide) rfl fl_X10_26 dX10_triesTowers_50 ?_
        refine dz_iload_n (pc := 53) C dX10_triesTowers_53 rfl 2 rfl ?_
        refine dz_iald (pc := 54) (k := 18) (j := 8) (n := 20) (f := (T 8)) C hk_18 (by decide) rfl (dt_rAf _ _ _ _) dX10_triesTowers_54 h (fun a6 h => ?_)
        refine dz_iast (pc := 55) (k := 18) (j := 36) (n := 20) (M' := fun a7 => (dt_put M 18 (dt_set (dt_set T 35 a5 ((T 7) a4)) 36 a7 ((T 8) a6)))) C hk_18 (by decide) rfl (fun a7 => (dt_wA _ _ _ _ _ _)) dX10_triesTowers_55 h (fun a7 h => ?_)
        refine dz_iinc (pc := 56) (v := (x3 + (1 : Int32))) C dX10_triesTowers_56 2 rfl rfl (by decide) rfl ?_
        refine dz_goto (pc := 59) (t := 20) C dX10_triesTowers_59 (by decide) ?_
        refine dz_sub [1, 2, 0] rfl ?_
        exact ih x2 (x3 + (1 : Int32)) (dt_set (dt_set T 35 a5 ((T 7) a4)) 36 a7 ((T 8) a6)) h
def fX10_triesTowers_b (rc : Int32 → Int32 → dt_Ob → Option (dt_Ob))  (x1 : Int32) (x2 : Int32) (T : dt_Ob) : Option (dt_Ob) := ((dt_ix (1 : Int32) 1225).bind fun a1 => (if x2 = ((T 0) a1) then ((fX10_isTower T).bind fun q3 => (if q3.1 = 0 then (some q3.2) else (fX10_triesTowers_20 rc dt_F x2 (0 : Int32) q3.2))) else (if ((x1 >>> (x2 &&& 31)) &&& (1 : Int32)) = 0 then ((rc x1 (x2 + (1 : Int32)) T).bind fun q2 => (some q2)) else (fX10_triesTowers_92 rc dt_F x1 x2 (0 : Int32) T))))
def fX10_triesTowers  : Nat → Int32 → Int32 → dt_Ob → Option (dt_Ob)
  | 0, _, _, _ => none
  | n + 1, x1, x2, T => fX10_triesTowers_b (fX10_triesTowers n) x1 x2 T
set_option maxRecDepth 10000 in
set_option maxHeartbeats 4000000 in
theorem m_X10_triesTowers_b (l : Launch) {hN : Nat} (hGB : 5 ≤ hN) {rc : Int32 → Int32 → dt_Ob → Option (dt_Ob)} (hrc : ∀ (M : dt_M) (T : dt_Ob) (x1 : Int32) (x2 : Int32) {res : dt_Ob}, rc x1 x2 T = some res → dt_Met 1 l yX10_triesTowers cX10_triesTowers 5 none hN (fun G => [.ref (G.1 18 0), .int x1, .int x2]) (dt_put M 18 T) none (dt_put M 18 res)) (M : dt_M) (T : dt_Ob) (x1 : Int32) (x2 : Int32) {res : dt_Ob} (h : fX10_triesTowers_b rc x1 x2 T = some res) : dt_Met 1 l yX10_triesTowers cX10_triesTowers 5 none (hN + 1) (fun G => [.ref (G.1 18 0), .int x1, .int x2]) (dt_put M 18 T) none (dt_put M 18 res) := by
  refine dz_enter (lv := fun G => [(0, .ref (G.1 18 0)), (1, .int x1), (2, .int x2)]) (by decide) (fun _ => rfl) (fun _ => Nat.le_of_ble_eq_true rfl) (fun G A p e s m args below meth c C hr => ?_)
  unfold fX10_triesTowers_b at h
  refine dz_iload_n (pc := 0) C dX10_triesTowers_0 rfl 2 rfl ?_
  refine dz_aload_n (pc := 1) C dX10_triesTowers_1 rfl 0 rfl ?_
  refine dz_getR (pc := 2) (k := 18) (j := 0) C Fc_X10 hk_18 (by decide) (by decide) rfl fl_X10_7 dX10_triesTowers_2 ?_
  refine dz_iconst (pc := 5) (v := (1 : Int32)) C dX10_triesTowers_5 (by decide) ?_
  refine dz_iald (pc := 6) (k := 18) (j := 0) (n := 1225) (f := (T 0)) C hk_18 (by decide) rfl (dt_rAf _ _ _ _) dX10_triesTowers_6 h (fun a1 h => ?_)
  refine dz_icmp_ne (pc := 7) (t := 73) C dX10_triesTowers_7 (by decide) h (fun h => ?_) (fun h => ?_)
  · refine dz_iload_n (pc := 73) C dX10_triesTowers_73 rfl 1 rfl ?_
    refine dz_iload_n (pc := 74) C dX10_triesTowers_74 rfl 2 rfl ?_
    refine dz_ishr (pc := 75) C dX10_triesTowers_75 ?_
    refine dz_iconst (pc := 76) (v := (1 : Int32)) C dX10_triesTowers_76 (by decide) ?_
    refine dz_iand (pc := 77) C dX10_triesTowers_77 ?_
    refine dz_if_ne (pc := 78) (t := 90) C dX10_triesTowers_78 (by decide) h (fun h => ?_) (fun h => ?_)
    · refine dz_iconst (pc := 90) (v := (0 : Int32)) C dX10_triesTowers_90 (by decide) ?_
      refine dz_istore_n (pc := 91) C dX10_triesTowers_91 rfl (by decide) rfl ?_
      refine dz_sub [1, 2, 3, 0] rfl ?_
      exact tX10_triesTowers_92 C hr hGB hrc dt_F x1 x2 (0 : Int32) T h
    · refine dz_aload_n (pc := 81) C dX10_triesTowers_81 rfl 0 rfl ?_
      refine dz_iload_n (pc := 82) C dX10_triesTowers_82 rfl 1 rfl ?_
      refine dz_iload_n (pc := 83) C dX10_triesTowers_83 rfl 2 rfl ?_
      refine dz_iconst (pc := 84) (v := (1 : Int32)) C dX10_triesTowers_84 (by decide) ?_
      refine dz_iadd (pc := 85) C dX10_triesTowers_85 ?_
      obtain ⟨q2, eq2, h⟩ := dt_bind h
      refine dz_callVv (pc := 86) (st := []) (k := 18) (As := [.int x1, .int (x2 + (1 : Int32))]) (M' := (dt_put M 18 q2)) C Fc_X10 hk_18 mf_X10_triesTowers rfl ml_X10_326 (hrc _ _ _ _ eq2) rfl rfl (by omega) (by decide) (Nat.le_of_ble_eq_true rfl) dX10_triesTowers_86 ?_
      cases dt_some h
      exact dz_vret (pc := 89) C hr dX10_triesTowers_89
  · refine dz_aload_n (pc := 10) C dX10_triesTowers_10 rfl 0 rfl ?_
    obtain ⟨q3, eq3, h⟩ := dt_bind h
    refine dz_callVi (pc := 11) (st := []) (k := 18) (As := []) (M' := (dt_put M 18 q3.2)) C Fc_X10 hk_18 mf_X10_isTower rfl ml_X10_320 (m_X10_isTower l _ _ eq3) rfl rfl (by omega) (by decide) (Nat.le_of_ble_eq_true rfl) dX10_triesTowers_11 ?_
    refine dz_if_ne (pc := 14) (t := 18) C dX10_triesTowers_14 (by decide) h (fun h => ?_) (fun h => ?_)
    · refine dz_iconst (pc := 18) (v := (0 : Int32)) C dX10_triesTowers_18 (by decide) ?_
      refine dz_istore_n (pc := 19) C dX10_triesTowers_19 rfl (by decide) rfl ?_
      refine dz_sub [1, 3, 0] rfl ?_
      exact tX10_triesTowers_20 C hr hGB hrc dt_F x2 (0 : Int32) q3.2 h
    · cases dt_some h
      exact dz_vret (pc := 17) C hr dX10_triesTowers_17
theorem m_X10_triesTowers_n (l : Launch) : ∀ (n : Nat) (M : dt_M) (T : dt_Ob) (x1 : Int32) (x2 : Int32) {res : dt_Ob}, fX10_triesTowers n x1 x2 T = some res → dt_Met 1 l yX10_triesTowers cX10_triesTowers 5 none (5 + 1 * n) (fun G => [.ref (G.1 18 0), .int x1, .int x2]) (dt_put M 18 T) none (dt_put M 18 res) := by
  intro n
  induction n with
  | zero =>
    intro M T x1 x2 res h
    unfold fX10_triesTowers at h
    cases h
  | succ n ih =>
    intro M T x1 x2 res h
    unfold fX10_triesTowers at h
    have e0 : 5 + 1 * (n + 1) = 5 + 1 * n + 1 := by omega
    rw [e0]
    exact m_X10_triesTowers_b l  (by omega) (fun M T x1 x2 _ h => ih M T x1 x2 h) M T x1 x2 h
theorem m_X10_triesTowers (l : Launch) (M : dt_M) (n : Nat) (T : dt_Ob) (x1 : Int32) (x2 : Int32) {res : dt_Ob} (h : fX10_triesTowers n x1 x2 T = some res) : dt_Met 1 l yX10_triesTowers cX10_triesTowers 5 none (5 + 1 * n) (fun G => [.ref (G.1 18 0), .int x1, .int x2]) (dt_put M 18 T) none (dt_put M 18 res) := m_X10_triesTowers_n l  n M T x1 x2 h

def fX10_which_143  (x1 : Int32) (x3 : Int32) (s0 : Int32) (T : dt_Ob) : Option (Int32 × dt_Ob) := (if ((x1 >>> (s0 &&& 31)) &&& (1 : Int32)) = 0 then (some ((-1 : Int32), T)) else (if x3 = 0 then ((dt_ix s0 20).bind fun a10 => (some (((T 36) a10), T))) else ((dt_ix s0 20).bind fun a11 => (some (((T 35) a11), T)))))
set_option maxRecDepth 10000 in
set_option maxHeartbeats 4000000 in
theorem tX10_which_143 {G : dt_G} {A : Nat → Prop} {p : Program} {l : Launch} {e : Env} {s : State} {m : MethodId} {args : Array Value} {below : List Frame} {meth : Method} {c : Code} (C : dt_Cx 1 G A p s m args meth c cX10_which 5 RX10) (hr : meth.sig.returnType = (some .int)) {M : dt_M} {res : Int32 × dt_Ob}  : ∀ (x1 : Int32) (x3 : Int32) (s0 : Int32) (T : dt_Ob), fX10_which_143 x1 x3 s0 T = some res → dt_At G A p l e (dt_rm 30) s m args below meth c 5 (MQ below (dt_Post G A (some (.int res.1)) (dt_put M 18 res.2)) args s 0 0 A) 143 [(0, .ref (G.1 18 0)), (1, .int x1), (3, .int x3)] [.int s0] (dt_put M 18 T) := by
  intro x1 x3 s0 T h
  unfold fX10_which_143 at h
  refine dz_istore (pc := 143) C dX10_which_143 (by decide) rfl ?_
  refine dz_iload_n (pc := 145) C dX10_which_145 rfl 2 rfl ?_
  refine dz_iload (pc := 146) C dX10_which_146 0 rfl ?_
  refine dz_ishr (pc := 148) C dX10_which_148 ?_
  refine dz_iconst (pc := 149) (v := (1 : Int32)) C dX10_which_149 (by decide) ?_
  refine dz_iand (pc := 150) C dX10_which_150 ?_
  refine dz_if_ne (pc := 151) (t := 158) C dX10_which_151 (by decide) h (fun h => ?_) (fun h => ?_)
  · refine dz_iload_n (pc := 158) C dX10_which_158 rfl 3 rfl ?_
    refine dz_if_eq (pc := 159) (t := 172) C dX10_which_159 (by decide) h (fun h => ?_) (fun h => ?_)
    · refine dz_aload_n (pc := 172) C dX10_which_172 rfl 1 rfl ?_
      refine dz_getR (pc := 173) (k := 18) (j := 36) C Fc_X10 hk_18 (by decide) (by decide) rfl fl_X10_73 dX10_which_173 ?_
      refine dz_iload (pc := 176) C dX10_which_176 0 rfl ?_
      refine dz_iald (pc := 178) (k := 18) (j := 36) (n := 20) (f := (T 36)) C hk_18 (by decide) rfl (dt_rAf _ _ _ _) dX10_which_178 h (fun a10 h => ?_)
      cases dt_some h
      exact dz_iret (pc := 179) C hr dX10_which_179
    · refine dz_aload_n (pc := 162) C dX10_which_162 rfl 1 rfl ?_
      refine dz_getR (pc := 163) (k := 18) (j := 35) C Fc_X10 hk_18 (by decide) (by decide) rfl fl_X10_70 dX10_which_163 ?_
      refine dz_iload (pc := 166) C dX10_which_166 0 rfl ?_
      refine dz_iald (pc := 168) (k := 18) (j := 35) (n := 20) (f := (T 35)) C hk_18 (by decide) rfl (dt_rAf _ _ _ _) dX10_which_168 h (fun a11 h => ?_)
      refine dz_goto (pc := 169) (t := 179) C dX10_which_169 (by decide) ?_
      cases dt_some h
      exact dz_iret (pc := 179) C hr dX10_which_179
  · refine dz_iconst (pc := 154) (v := (-1 : Int32)) C dX10_which_154 (by decide) ?_
    refine dz_goto (pc := 155) (t := 179) C dX10_which_155 (by decide) ?_
    cases dt_some h
    exact dz_iret (pc := 179) C hr dX10_which_179
def fX10_which_128  (x1 : Int32) (x2 : Int32) (x3 : Int32) (T : dt_Ob) : Option (Int32 × dt_Ob) := (if x3 = 0 then (fX10_which_143 x1 x3 (x2 - (30 : Int32)) T) else (fX10_which_143 x1 x3 (x2 - (10 : Int32)) T))
set_option maxRecDepth 10000 in
set_option maxHeartbeats 4000000 in
theorem tX10_which_128 {G : dt_G} {A : Nat → Prop} {p : Program} {l : Launch} {e : Env} {s : State} {m : MethodId} {args : Array Value} {below : List Frame} {meth : Method} {c : Code} (C : dt_Cx 1 G A p s m args meth c cX10_which 5 RX10) (hr : meth.sig.returnType = (some .int)) {M : dt_M} {res : Int32 × dt_Ob}  : ∀ (x1 : Int32) (x2 : Int32) (x3 : Int32) (T : dt_Ob), fX10_which_128 x1 x2 x3 T = some res → dt_At G A p l e (dt_rm 30) s m args below meth c 5 (MQ below (dt_Post G A (some (.int res.1)) (dt_put M 18 res.2)) args s 0 0 A) 128 [(0, .ref (G.1 18 0)), (1, .int x1), (2, .int x2), (3, .int x3)] [] (dt_put M 18 T) := by
  intro x1 x2 x3 T h
  unfold fX10_which_128 at h
  refine dz_iload_n (pc := 128) C dX10_which_128 rfl 3 rfl ?_
  refine dz_if_eq (pc := 129) (t := 139) C dX10_which_129 (by decide) h (fun h => ?_) (fun h => ?_)
  · refine dz_iload_n (pc := 139) C dX10_which_139 rfl 2 rfl ?_
    refine dz_bipush (pc := 140) (v := (30 : Int32)) C dX10_which_140 (by decide) ?_
    refine dz_isub (pc := 142) C dX10_which_142 ?_
    refine dz_sub [0, 1, 3] rfl ?_
    exact tX10_which_143 C hr  x1 x3 (x2 - (30 : Int32)) T h
  · refine dz_iload_n (pc := 132) C dX10_which_132 rfl 2 rfl ?_
    refine dz_bipush (pc := 133) (v := (10 : Int32)) C dX10_which_133 (by decide) ?_
    refine dz_isub (pc := 135) C dX10_which_135 ?_
    refine dz_goto (pc := 136) (t := 143) C dX10_which_136 (by decide) ?_
    refine dz_sub [0, 1, 3] rfl ?_
    exact tX10_which_143 C hr  x1 x3 (x2 - (10 : Int32)) T h
def fX10_which_62 (r31 : Int32 → Int32 → Int32 → dt_Ob → Option (Int32 × dt_Ob)) (x1 : Int32) (x2 : Int32) (x3 : Int32) (T : dt_Ob) : Option (Int32 × dt_Ob) := ((dt_ix x3 20).bind fun a9 => (r31 x1 x2 (x3 + (1 : Int32)) (dt_set T 7 a9 (-1 : Int32))))
set_option maxRecDepth 10000 in
set_option maxHeartbeats 4000000 in
theorem tX10_which_62 {G : dt_G} {A : Nat → Prop} {p : Program} {l : Launch} {e : Env} {s : State} {m : MethodId} {args : Array Value} {below : List Frame} {meth : Method} {c : Code} (C : dt_Cx 1 G A p s m args meth c cX10_which 5 RX10) (hr : meth.sig.returnType = (some .int)) {M : dt_M} {res : Int32 × dt_Ob} {r31 : Int32 → Int32 → Int32 → dt_Ob → Option (Int32 × dt_Ob)} (hr31 : ∀ (x1 : Int32) (x2 : Int32) (x3 : Int32) (T : dt_Ob), r31 x1 x2 x3 T = some res → dt_At G A p l e (dt_rm 30) s m args below meth c 5 (MQ below (dt_Post G A (some (.int res.1)) (dt_put M 18 res.2)) args s 0 0 A) 31 [(0, .ref (G.1 18 0)), (1, .int x1), (2, .int x2), (3, .int x3)] [] (dt_put M 18 T)) : ∀ (x1 : Int32) (x2 : Int32) (x3 : Int32) (T : dt_Ob), fX10_which_62 r31 x1 x2 x3 T = some res → dt_At G A p l e (dt_rm 30) s m args below meth c 5 (MQ below (dt_Post G A (some (.int res.1)) (dt_put M 18 res.2)) args s 0 0 A) 62 [(0, .ref (G.1 18 0)), (1, .int x1), (2, .int x2), (3, .int x3)] [] (dt_put M 18 T) := by
  intro x1 x2 x3 T h
  unfold fX10_which_62 at h
  refine dz_aload_n (pc := 62) C dX10_which_62 rfl 0 rfl ?_
  refine dz_getR (pc := 63) (k := 18) (j := 7) C Fc_X10 hk_18 (by decide) (by decide) rfl fl_X10_23 dX10_which_63 ?_
  refine dz_iload_n (pc := 66) C dX10_which_66 rfl 3 rfl ?_
  refine dz_iconst (pc := 67) (v := (-1 : Int32)) C dX10_which_67 (by decide) ?_
  refine dz_iast (pc := 68) (k := 18) (j := 7) (n := 20) (M' := fun a9 => (dt_put M 18 (dt_set T 7 a9 (-1 : Int32)))) C hk_18 (by decide) rfl (fun a9 => (dt_wA _ _ _ _ _ _)) dX10_which_68 h (fun a9 h => ?_)
  refine dz_iinc (pc := 69) (v := (x3 + (1 : Int32))) C dX10_which_69 3 rfl rfl (by decide) rfl ?_
  refine dz_goto (pc := 72) (t := 31) C dX10_which_72 (by decide) ?_
  refine dz_sub [1, 2, 3, 0] rfl ?_
  exact hr31 x1 x2 (x3 + (1 : Int32)) (dt_set T 7 a9 (-1 : Int32)) h
def fX10_which_31  : Nat → Int32 → Int32 → Int32 → dt_Ob → Option (Int32 × dt_Ob)
  | 0, _, _, _, _ => none
  | n + 1, x1, x2, x3, T => ((dt_ix (1 : Int32) 1225).bind fun a4 => (if ((T 0) a4) ≤ x3 then ((fX10_triesTowers 24 x1 (0 : Int32) (dt_set T 37 0 (0 : Int32))).bind fun q5 => (if x2 = 0 then (some ((q5 37 0), q5)) else ((fX10_isIn x2 (10 : Int32) (29 : Int32)).bind fun q6 => (if (q5 37 0) = 0 then (some ((-1 : Int32), q5)) else (if q6 = 0 then ((fX10_isIn x2 (30 : Int32) (49 : Int32)).bind fun q7 => (if q7 = 0 then (some ((-1 : Int32), q5)) else (fX10_which_128 x1 x2 q6 q5))) else (fX10_which_128 x1 x2 q6 q5)))))) else (if ((x1 >>> (x3 &&& 31)) &&& (1 : Int32)) = (1 : Int32) then ((fX10_own x3 (5 : Int32) T).bind fun q8 => (if q8 = (-1 : Int32) then (fX10_which_62 (fX10_which_31 n) x1 x2 x3 T) else (some ((-1 : Int32), T)))) else (fX10_which_62 (fX10_which_31 n) x1 x2 x3 T))))
set_option maxRecDepth 10000 in
set_option maxHeartbeats 4000000 in
theorem tX10_which_31 {G : dt_G} {A : Nat → Prop} {p : Program} {l : Launch} {e : Env} {s : State} {m : MethodId} {args : Array Value} {below : List Frame} {meth : Method} {c : Code} (C : dt_Cx 1 G A p s m args meth c cX10_which 5 RX10) (hr : meth.sig.returnType = (some .int)) {M : dt_M} {res : Int32 × dt_Ob}  : ∀ (n : Nat) (x1 : Int32) (x2 : Int32) (x3 : Int32) (T : dt_Ob), fX10_which_31 n x1 x2 x3 T = some res → dt_At G A p l e (dt_rm 30) s m args below meth c 5 (MQ below (dt_Post G A (some (.int res.1)) (dt_put M 18 res.2)) args s 0 0 A) 31 [(0, .ref (G.1 18 0)), (1, .int x1), (2, .int x2), (3, .int x3)] [] (dt_put M 18 T) := by
  intro n
  induction n with
  | zero =>
    intro x1 x2 x3 T h
    unfold fX10_which_31 at h
    cases h
  | succ n ih =>
    intro x1 x2 x3 T h
    unfold fX10_which_31 at h
    refine dz_iload_n (pc := 31) C dX10_which_31 rfl 3 rfl ?_
    refine dz_aload_n (pc := 32) C dX10_which_32 rfl 0 rfl ?_
    refine dz_getR (pc := 33) (k := 18) (j := 0) C Fc_X10 hk_18 (by decide) (by decide) rfl fl_X10_7 dX10_which_33 ?_
    refine dz_iconst (pc := 36) (v := (1 : Int32)) C dX10_which_36 (by decide) ?_
    refine dz_iald (pc := 37) (k := 18) (j := 0) (n := 1225) (f := (T 0)) C hk_18 (by decide) rfl (dt_rAf _ _ _ _) dX10_which_37 h (fun a4 h => ?_)
    refine dz_icmp_ge (pc := 38) (t := 75) C dX10_which_38 (by decide) h (fun h => ?_) (fun h => ?_)
    · refine dz_aload_n (pc := 75) C dX10_which_75 rfl 0 rfl ?_
      refine dz_iconst (pc := 76) (v := (0 : Int32)) C dX10_which_76 (by decide) ?_
      refine dz_putI (pc := 77) (k := 18) (j := 37) (M' := (dt_put M 18 (dt_set T 37 0 (0 : Int32)))) C Fc_X10 hk_18 (by decide) rfl rfl rfl rfl fl_X10_323 (dt_wA _ _ _ _ _ _) dX10_which_77 ?_
      refine dz_aload_n (pc := 80) C dX10_which_80 rfl 0 rfl ?_
      refine dz_iload_n (pc := 81) C dX10_which_81 rfl 1 rfl ?_
      refine dz_iconst (pc := 82) (v := (0 : Int32)) C dX10_which_82 (by decide) ?_
      obtain ⟨q5, eq5, h⟩ := dt_bind h
      refine dz_callVv (pc := 83) (st := []) (k := 18) (As := [.int x1, .int (0 : Int32)]) (M' := (dt_put M 18 q5)) C Fc_X10 hk_18 mf_X10_triesTowers rfl ml_X10_326 (m_X10_triesTowers l _ 24 _ _ _ eq5) rfl rfl (by omega) (by decide) (Nat.le_of_ble_eq_true rfl) dX10_which_83 ?_
      refine dz_iload_n (pc := 86) C dX10_which_86 rfl 2 rfl ?_
      refine dz_if_ne (pc := 87) (t := 95) C dX10_which_87 (by decide) h (fun h => ?_) (fun h => ?_)
      · refine dz_iload_n (pc := 95) C dX10_which_95 rfl 2 rfl ?_
        refine dz_bipush (pc := 96) (v := (10 : Int32)) C dX10_which_96 (by decide) ?_
        refine dz_bipush (pc := 98) (v := (29 : Int32)) C dX10_which_98 (by decide) ?_
        obtain ⟨q6, eq6, h⟩ := dt_bind h
        refine dz_callSi (pc := 100) (st := []) (As := [.int x2, .int (10 : Int32), .int (29 : Int32)]) (M' := (dt_put M 18 q5)) C ms_X10_isIn ml_X10_76 (m_X10_isIn l _ _ _ _ eq6) rfl rfl (by omega) (by decide) (Nat.le_of_ble_eq_true rfl) dX10_which_100 ?_
        refine dz_istore_n (pc := 103) C dX10_which_103 rfl (by decide) rfl ?_
        refine dz_aload_n (pc := 104) C dX10_which_104 rfl 1 rfl ?_
        refine dz_getI (pc := 105) (k := 18) (j := 37) (v := (q5 37 0)) C Fc_X10 hk_18 (by decide) rfl rfl fl_X10_323 (dt_rA _ _ _ _ _) dX10_which_105 ?_
        refine dz_if_eq (pc := 108) (t := 126) C dX10_which_108 (by decide) h (fun h => ?_) (fun h => ?_)
        · refine dz_iconst (pc := 126) (v := (-1 : Int32)) C dX10_which_126 (by decide) ?_
          cases dt_some h
          exact dz_iret (pc := 127) C hr dX10_which_127
        · refine dz_iload_n (pc := 111) C dX10_which_111 rfl 0 rfl ?_
          refine dz_if_ne (pc := 112) (t := 128) C dX10_which_112 (by decide) h (fun h => ?_) (fun h => ?_)
          · refine dz_sub [1, 2, 3, 0] rfl ?_
            exact tX10_which_128 C hr  x1 x2 q6 q5 h
          · refine dz_iload_n (pc := 115) C dX10_which_115 rfl 3 rfl ?_
            refine dz_bipush (pc := 116) (v := (30 : Int32)) C dX10_which_116 (by decide) ?_
            refine dz_bipush (pc := 118) (v := (49 : Int32)) C dX10_which_118 (by decide) ?_
            obtain ⟨q7, eq7, h⟩ := dt_bind h
            refine dz_callSi (pc := 120) (st := []) (As := [.int x2, .int (30 : Int32), .int (49 : Int32)]) (M' := (dt_put M 18 q5)) C ms_X10_isIn ml_X10_76 (m_X10_isIn l _ _ _ _ eq7) rfl rfl (by omega) (by decide) (Nat.le_of_ble_eq_true rfl) dX10_which_120 ?_
            refine dz_if_ne (pc := 123) (t := 128) C dX10_which_123 (by decide) h (fun h => ?_) (fun h => ?_)
            · refine dz_sub [1, 2, 3, 0] rfl ?_
              exact tX10_which_128 C hr  x1 x2 q6 q5 h
            · refine dz_iconst (pc := 126) (v := (-1 : Int32)) C dX10_which_126 (by decide) ?_
              cases dt_some h
              exact dz_iret (pc := 127) C hr dX10_which_127
      · refine dz_aload_n (pc := 90) C dX10_which_90 rfl 0 rfl ?_
        refine dz_getI (pc := 91) (k := 18) (j := 37) (v := (q5 37 0)) C Fc_X10 hk_18 (by decide) rfl rfl fl_X10_323 (dt_rA _ _ _ _ _) dX10_which_91 ?_
        cases dt_some h
        exact dz_iret (pc := 94) C hr dX10_which_94
    · refine dz_iload_n (pc := 41) C dX10_which_41 rfl 1 rfl ?_
      refine dz_iload_n (pc := 42) C dX10_which_42 rfl 3 rfl ?_
      refine dz_ishr (pc := 43) C dX10_which_43 ?_
      refine dz_iconst (pc := 44) (v := (1 : Int32)) C dX10_which_44 (by decide) ?_
      refine dz_iand (pc := 45) C dX10_which_45 ?_
      refine dz_iconst (pc := 46) (v := (1 : Int32)) C dX10_which_46 (by decide) ?_
      refine dz_icmp_ne (pc := 47) (t := 62) C dX10_which_47 (by decide) h (fun h => ?_) (fun h => ?_)
      · exact tX10_which_62 C hr ih x1 x2 x3 T h
      · refine dz_aload_n (pc := 50) C dX10_which_50 rfl 0 rfl ?_
        refine dz_iload_n (pc := 51) C dX10_which_51 rfl 3 rfl ?_
        refine dz_iconst (pc := 52) (v := (5 : Int32)) C dX10_which_52 (by decide) ?_
        obtain ⟨q8, eq8, h⟩ := dt_bind h
        refine dz_callVi (pc := 53) (st := []) (k := 18) (As := [.int x3, .int (5 : Int32)]) (M' := (dt_put M 18 T)) C Fc_X10 hk_18 mf_X10_own rfl ml_X10_94 (m_X10_own l _ _ _ _ eq8) rfl rfl (by omega) (by decide) (Nat.le_of_ble_eq_true rfl) dX10_which_53 ?_
        refine dz_iconst (pc := 56) (v := (-1 : Int32)) C dX10_which_56 (by decide) ?_
        refine dz_icmp_eq (pc := 57) (t := 62) C dX10_which_57 (by decide) h (fun h => ?_) (fun h => ?_)
        · exact tX10_which_62 C hr ih x1 x2 x3 T h
        · refine dz_iconst (pc := 60) (v := (-1 : Int32)) C dX10_which_60 (by decide) ?_
          cases dt_some h
          exact dz_iret (pc := 61) C hr dX10_which_61
def fX10_which  (x1 : Int32) (x2 : Int32) (T : dt_Ob) : Option (Int32 × dt_Ob) := ((dt_ix (1 : Int32) 1225).bind fun a1 => ((fX10_isIn x1 (1 : Int32) (((1 : Int32) <<< (((T 0) a1) &&& 31)) - (1 : Int32))).bind fun q2 => (if q2 = 0 then (some ((-1 : Int32), T)) else ((fX10_count x1).bind fun q3 => (if q3 ≤ (6 : Int32) then (fX10_which_31 dt_F x1 x2 (0 : Int32) T) else (some ((-1 : Int32), T)))))))
set_option maxRecDepth 10000 in
set_option maxHeartbeats 4000000 in
theorem m_X10_which (l : Launch)  (M : dt_M) (T : dt_Ob)  (x1 : Int32) (x2 : Int32) {res : Int32 × dt_Ob} (h : fX10_which x1 x2 T = some res) : dt_Met 1 l yX10_which cX10_which 5 (some .int) 30 (fun G => [.ref (G.1 18 0), .int x1, .int x2]) (dt_put M 18 T) (some (.int res.1)) (dt_put M 18 res.2) := by
  refine dz_enter (lv := fun G => [(0, .ref (G.1 18 0)), (1, .int x1), (2, .int x2)]) (by decide) (fun _ => rfl) (fun _ => Nat.le_of_ble_eq_true rfl) (fun G A p e s m args below meth c C hr => ?_)
  unfold fX10_which at h
  refine dz_iload_n (pc := 0) C dX10_which_0 rfl 1 rfl ?_
  refine dz_iconst (pc := 1) (v := (1 : Int32)) C dX10_which_1 (by decide) ?_
  refine dz_iconst (pc := 2) (v := (1 : Int32)) C dX10_which_2 (by decide) ?_
  refine dz_aload_n (pc := 3) C dX10_which_3 rfl 0 rfl ?_
  refine dz_getR (pc := 4) (k := 18) (j := 0) C Fc_X10 hk_18 (by decide) (by decide) rfl fl_X10_7 dX10_which_4 ?_
  refine dz_iconst (pc := 7) (v := (1 : Int32)) C dX10_which_7 (by decide) ?_
  refine dz_iald (pc := 8) (k := 18) (j := 0) (n := 1225) (f := (T 0)) C hk_18 (by decide) rfl (dt_rAf _ _ _ _) dX10_which_8 h (fun a1 h => ?_)
  refine dz_ishl (pc := 9) C dX10_which_9 ?_
  refine dz_iconst (pc := 10) (v := (1 : Int32)) C dX10_which_10 (by decide) ?_
  refine dz_isub (pc := 11) C dX10_which_11 ?_
  obtain ⟨q2, eq2, h⟩ := dt_bind h
  refine dz_callSi (pc := 12) (st := []) (As := [.int x1, .int (1 : Int32), .int (((1 : Int32) <<< (((T 0) a1) &&& 31)) - (1 : Int32))]) (M' := (dt_put M 18 T)) C ms_X10_isIn ml_X10_76 (m_X10_isIn l _ _ _ _ eq2) rfl rfl (by omega) (by decide) (Nat.le_of_ble_eq_true rfl) dX10_which_12 ?_
  refine dz_if_eq (pc := 15) (t := 27) C dX10_which_15 (by decide) h (fun h => ?_) (fun h => ?_)
  · refine dz_iconst (pc := 27) (v := (-1 : Int32)) C dX10_which_27 (by decide) ?_
    cases dt_some h
    exact dz_iret (pc := 28) C hr dX10_which_28
  · refine dz_iload_n (pc := 18) C dX10_which_18 rfl 1 rfl ?_
    obtain ⟨q3, eq3, h⟩ := dt_bind h
    refine dz_callSi (pc := 19) (st := []) (As := [.int x1]) (M' := (dt_put M 18 T)) C ms_X10_count ml_X10_158 (m_X10_count l _ _ eq3) rfl rfl (by omega) (by decide) (Nat.le_of_ble_eq_true rfl) dX10_which_19 ?_
    refine dz_bipush (pc := 22) (v := (6 : Int32)) C dX10_which_22 (by decide) ?_
    refine dz_icmp_le (pc := 24) (t := 29) C dX10_which_24 (by decide) h (fun h => ?_) (fun h => ?_)
    · refine dz_iconst (pc := 29) (v := (0 : Int32)) C dX10_which_29 (by decide) ?_
      refine dz_istore_n (pc := 30) C dX10_which_30 rfl (by decide) rfl ?_
      refine dz_sub [1, 2, 3, 0] rfl ?_
      exact tX10_which_31 C hr dt_F x1 x2 (0 : Int32) T h
    · refine dz_iconst (pc := 27) (v := (-1 : Int32)) C dX10_which_27 (by decide) ?_
      cases dt_some h
      exact dz_iret (pc := 28) C hr dX10_which_28

def fX10_wind  (x1 : Int32) (x2 : Int32) (x3 : Int32) (T : dt_Ob) : Option (Int32 × dt_Ob) := ((fX10_isIn x1 (0 : Int32) (7 : Int32)).bind fun q1 => (if q1 = 0 then (some ((0 : Int32), T)) else ((fX10_isIn x2 (1 : Int32) (8 : Int32)).bind fun q2 => (if q2 = 0 then (some ((0 : Int32), T)) else ((fX10_isIn x3 (0 : Int32) (10 : Int32)).bind fun q3 => (if q3 = 0 then (some ((0 : Int32), T)) else ((dt_ix ((((260 : Int32) + ((8 : Int32) * x1)) + x2) - (1 : Int32)) 1225).bind fun a4 => (some ((1 : Int32), (dt_set T 0 a4 x3))))))))))
set_option maxRecDepth 10000 in
set_option maxHeartbeats 4000000 in
theorem m_X10_wind (l : Launch)  (M : dt_M) (T : dt_Ob)  (x1 : Int32) (x2 : Int32) (x3 : Int32) {res : Int32 × dt_Ob} (h : fX10_wind x1 x2 x3 T = some res) : dt_Met 1 l yX10_wind cX10_wind 4 (some .boolean) 2 (fun G => [.ref (G.1 18 0), .int x1, .int x2, .int x3]) (dt_put M 18 T) (some (.int res.1)) (dt_put M 18 res.2) := by
  refine dz_enter (lv := fun G => [(0, .ref (G.1 18 0)), (1, .int x1), (2, .int x2), (3, .int x3)]) (by decide) (fun _ => rfl) (fun _ => Nat.le_of_ble_eq_true rfl) (fun G A p e s m args below meth c C hr => ?_)
  unfold fX10_wind at h
  refine dz_iload_n (pc := 0) C dX10_wind_0 rfl 1 rfl ?_
  refine dz_iconst (pc := 1) (v := (0 : Int32)) C dX10_wind_1 (by decide) ?_
  refine dz_bipush (pc := 2) (v := (7 : Int32)) C dX10_wind_2 (by decide) ?_
  obtain ⟨q1, eq1, h⟩ := dt_bind h
  refine dz_callSi (pc := 4) (st := []) (As := [.int x1, .int (0 : Int32), .int (7 : Int32)]) (M' := (dt_put M 18 T)) C ms_X10_isIn ml_X10_76 (m_X10_isIn l _ _ _ _ eq1) rfl rfl (by omega) (by decide) (Nat.le_of_ble_eq_true rfl) dX10_wind_4 ?_
  refine dz_if_eq (pc := 7) (t := 30) C dX10_wind_7 (by decide) h (fun h => ?_) (fun h => ?_)
  · refine dz_iconst (pc := 30) (v := (0 : Int32)) C dX10_wind_30 (by decide) ?_
    cases dt_some h
    exact dz_zret (pc := 31) C hr (Or.inl rfl) dX10_wind_31
  · refine dz_iload_n (pc := 10) C dX10_wind_10 rfl 2 rfl ?_
    refine dz_iconst (pc := 11) (v := (1 : Int32)) C dX10_wind_11 (by decide) ?_
    refine dz_bipush (pc := 12) (v := (8 : Int32)) C dX10_wind_12 (by decide) ?_
    obtain ⟨q2, eq2, h⟩ := dt_bind h
    refine dz_callSi (pc := 14) (st := []) (As := [.int x2, .int (1 : Int32), .int (8 : Int32)]) (M' := (dt_put M 18 T)) C ms_X10_isIn ml_X10_76 (m_X10_isIn l _ _ _ _ eq2) rfl rfl (by omega) (by decide) (Nat.le_of_ble_eq_true rfl) dX10_wind_14 ?_
    refine dz_if_eq (pc := 17) (t := 30) C dX10_wind_17 (by decide) h (fun h => ?_) (fun h => ?_)
    · refine dz_iconst (pc := 30) (v := (0 : Int32)) C dX10_wind_30 (by decide) ?_
      cases dt_some h
      exact dz_zret (pc := 31) C hr (Or.inl rfl) dX10_wind_31
    · refine dz_iload_n (pc := 20) C dX10_wind_20 rfl 3 rfl ?_
      refine dz_iconst (pc := 21) (v := (0 : Int32)) C dX10_wind_21 (by decide) ?_
      refine dz_bipush (pc := 22) (v := (10 : Int32)) C dX10_wind_22 (by decide) ?_
      obtain ⟨q3, eq3, h⟩ := dt_bind h
      refine dz_callSi (pc := 24) (st := []) (As := [.int x3, .int (0 : Int32), .int (10 : Int32)]) (M' := (dt_put M 18 T)) C ms_X10_isIn ml_X10_76 (m_X10_isIn l _ _ _ _ eq3) rfl rfl (by omega) (by decide) (Nat.le_of_ble_eq_true rfl) dX10_wind_24 ?_
      refine dz_if_ne (pc := 27) (t := 32) C dX10_wind_27 (by decide) h (fun h => ?_) (fun h => ?_)
      · refine dz_aload_n (pc := 32) C dX10_wind_32 rfl 0 rfl ?_
        refine dz_getR (pc := 33) (k := 18) (j := 0) C Fc_X10 hk_18 (by decide) (by decide) rfl fl_X10_7 dX10_wind_33 ?_
        refine dz_sipush (pc := 36) (v := (260 : Int32)) C dX10_wind_36 (by decide) ?_
        refine dz_bipush (pc := 39) (v := (8 : Int32)) C dX10_wind_39 (by decide) ?_
        refine dz_iload_n (pc := 41) C dX10_wind_41 rfl 1 rfl ?_
        refine dz_imul (pc := 42) C dX10_wind_42 ?_
        refine dz_iadd (pc := 43) C dX10_wind_43 ?_
        refine dz_iload_n (pc := 44) C dX10_wind_44 rfl 2 rfl ?_
        refine dz_iadd (pc := 45) C dX10_wind_45 ?_
        refine dz_iconst (pc := 46) (v := (1 : Int32)) C dX10_wind_46 (by decide) ?_
        refine dz_isub (pc := 47) C dX10_wind_47 ?_
        refine dz_iload_n (pc := 48) C dX10_wind_48 rfl 3 rfl ?_
        refine dz_iast (pc := 49) (k := 18) (j := 0) (n := 1225) (M' := fun a4 => (dt_put M 18 (dt_set T 0 a4 x3))) C hk_18 (by decide) rfl (fun a4 => (dt_wA _ _ _ _ _ _)) dX10_wind_49 h (fun a4 h => ?_)
        refine dz_iconst (pc := 50) (v := (1 : Int32)) C dX10_wind_50 (by decide) ?_
        cases dt_some h
        exact dz_zret (pc := 51) C hr (Or.inr rfl) dX10_wind_51
      · refine dz_iconst (pc := 30) (v := (0 : Int32)) C dX10_wind_30 (by decide) ?_
        cases dt_some h
        exact dz_zret (pc := 31) C hr (Or.inl rfl) dX10_wind_31

def fX10_pay  (x1 : Int32) (x2 : Int32) (T : dt_Ob) : Option (Int32 × dt_Ob) := ((fX10_isIn x1 (0 : Int32) (8 : Int32)).bind fun q1 => (if q1 = 0 then (some ((0 : Int32), T)) else ((fX10_isIn x2 (0 : Int32) (999 : Int32)).bind fun q2 => (if q2 = 0 then (some ((0 : Int32), T)) else ((dt_ix ((330 : Int32) + x1) 1225).bind fun a3 => (some ((1 : Int32), (dt_set T 0 a3 x2))))))))
set_option maxRecDepth 10000 in
set_option maxHeartbeats 4000000 in
theorem m_X10_pay (l : Launch)  (M : dt_M) (T : dt_Ob)  (x1 : Int32) (x2 : Int32) {res : Int32 × dt_Ob} (h : fX10_pay x1 x2 T = some res) : dt_Met 1 l yX10_pay cX10_pay 3 (some .boolean) 2 (fun G => [.ref (G.1 18 0), .int x1, .int x2]) (dt_put M 18 T) (some (.int res.1)) (dt_put M 18 res.2) := by
  refine dz_enter (lv := fun G => [(0, .ref (G.1 18 0)), (1, .int x1), (2, .int x2)]) (by decide) (fun _ => rfl) (fun _ => Nat.le_of_ble_eq_true rfl) (fun G A p e s m args below meth c C hr => ?_)
  unfold fX10_pay at h
  refine dz_iload_n (pc := 0) C dX10_pay_0 rfl 1 rfl ?_
  refine dz_iconst (pc := 1) (v := (0 : Int32)) C dX10_pay_1 (by decide) ?_
  refine dz_bipush (pc := 2) (v := (8 : Int32)) C dX10_pay_2 (by decide) ?_
  obtain ⟨q1, eq1, h⟩ := dt_bind h
  refine dz_callSi (pc := 4) (st := []) (As := [.int x1, .int (0 : Int32), .int (8 : Int32)]) (M' := (dt_put M 18 T)) C ms_X10_isIn ml_X10_76 (m_X10_isIn l _ _ _ _ eq1) rfl rfl (by omega) (by decide) (Nat.le_of_ble_eq_true rfl) dX10_pay_4 ?_
  refine dz_if_eq (pc := 7) (t := 21) C dX10_pay_7 (by decide) h (fun h => ?_) (fun h => ?_)
  · refine dz_iconst (pc := 21) (v := (0 : Int32)) C dX10_pay_21 (by decide) ?_
    cases dt_some h
    exact dz_zret (pc := 22) C hr (Or.inl rfl) dX10_pay_22
  · refine dz_iload_n (pc := 10) C dX10_pay_10 rfl 2 rfl ?_
    refine dz_iconst (pc := 11) (v := (0 : Int32)) C dX10_pay_11 (by decide) ?_
    refine dz_sipush (pc := 12) (v := (999 : Int32)) C dX10_pay_12 (by decide) ?_
    obtain ⟨q2, eq2, h⟩ := dt_bind h
    refine dz_callSi (pc := 15) (st := []) (As := [.int x2, .int (0 : Int32), .int (999 : Int32)]) (M' := (dt_put M 18 T)) C ms_X10_isIn ml_X10_76 (m_X10_isIn l _ _ _ _ eq2) rfl rfl (by omega) (by decide) (Nat.le_of_ble_eq_true rfl) dX10_pay_15 ?_
    refine dz_if_ne (pc := 18) (t := 23) C dX10_pay_18 (by decide) h (fun h => ?_) (fun h => ?_)
    · refine dz_aload_n (pc := 23) C dX10_pay_23 rfl 0 rfl ?_
      refine dz_getR (pc := 24) (k := 18) (j := 0) C Fc_X10 hk_18 (by decide) (by decide) rfl fl_X10_7 dX10_pay_24 ?_
      refine dz_sipush (pc := 27) (v := (330 : Int32)) C dX10_pay_27 (by decide) ?_
      refine dz_iload_n (pc := 30) C dX10_pay_30 rfl 1 rfl ?_
      refine dz_iadd (pc := 31) C dX10_pay_31 ?_
      refine dz_iload_n (pc := 32) C dX10_pay_32 rfl 2 rfl ?_
      refine dz_iast (pc := 33) (k := 18) (j := 0) (n := 1225) (M' := fun a3 => (dt_put M 18 (dt_set T 0 a3 x2))) C hk_18 (by decide) rfl (fun a3 => (dt_wA _ _ _ _ _ _)) dX10_pay_33 h (fun a3 h => ?_)
      refine dz_iconst (pc := 34) (v := (1 : Int32)) C dX10_pay_34 (by decide) ?_
      cases dt_some h
      exact dz_zret (pc := 35) C hr (Or.inr rfl) dX10_pay_35
    · refine dz_iconst (pc := 21) (v := (0 : Int32)) C dX10_pay_21 (by decide) ?_
      cases dt_some h
      exact dz_zret (pc := 22) C hr (Or.inl rfl) dX10_pay_22

def fX10_tens_4  : Nat → Int32 → Int64 → Int32 → Option (Int64)
  | 0, _, _, _ => none
  | n + 1, x0, x1, x3 => (if x0 ≤ x3 then (some x1) else ((fX10_tens_4 n) x0 (x1 * (10 : Int64)) (x3 + (1 : Int32))))
set_option maxRecDepth 10000 in
set_option maxHeartbeats 4000000 in
theorem tX10_tens_4 {G : dt_G} {A : Nat → Prop} {p : Program} {l : Launch} {e : Env} {s : State} {m : MethodId} {args : Array Value} {below : List Frame} {meth : Method} {c : Code} (C : dt_Cx 1 G A p s m args meth c cX10_tens 4 RX10) (hr : meth.sig.returnType = (some .long)) {M : dt_M} {res : Int64}  : ∀ (n : Nat) (x0 : Int32) (x1 : Int64) (x3 : Int32), fX10_tens_4 n x0 x1 x3 = some res → dt_At G A p l e (dt_rm 1) s m args below meth c 4 (MQ below (dt_Post G A (some (.long res)) M) args s 0 0 A) 4 [(0, .int x0), (1, .long x1), (3, .int x3)] [] M := by
  intro n
  induction n with
  | zero =>
    intro x0 x1 x3 h
    unfold fX10_tens_4 at h
    cases h
  | succ n ih =>
    intro x0 x1 x3 h
    unfold fX10_tens_4 at h
    refine dz_iload_n (pc := 4) C dX10_tens_4 rfl 2 rfl ?_
    refine dz_iload_n (pc := 5) C dX10_tens_5 rfl 0 rfl ?_
    refine dz_icmp_ge (pc := 6) (t := 21) C dX10_tens_6 (by decide) h (fun h => ?_) (fun h => ?_)
    · refine dz_lload_n (pc := 21) C dX10_tens_21 rfl 1 rfl ?_
      cases dt_some h
      exact dz_lret (pc := 22) C hr dX10_tens_22
    · refine dz_lload_n (pc := 9) C dX10_tens_9 rfl 1 rfl ?_
      refine dz_ldc2 (pc := 10) C cl_X10_329 dX10_tens_10 ?_
      refine dz_lmul (pc := 13) C dX10_tens_13 ?_
      refine dz_lstore_n (pc := 14) C dX10_tens_14 rfl (by decide) rfl ?_
      refine dz_iinc (pc := 15) (v := (x3 + (1 : Int32))) C dX10_tens_15 2 rfl rfl (by decide) rfl ?_
      refine dz_goto (pc := 18) (t := 4) C dX10_tens_18 (by decide) ?_
      refine dz_sub [2, 1, 0] rfl ?_
      exact ih x0 (x1 * (10 : Int64)) (x3 + (1 : Int32)) h
def fX10_tens  (x0 : Int32) : Option (Int64) := (fX10_tens_4 dt_F x0 (1 : Int64) (0 : Int32))
set_option maxRecDepth 10000 in
set_option maxHeartbeats 4000000 in
theorem m_X10_tens (l : Launch)  (M : dt_M)   (x0 : Int32) {res : Int64} (h : fX10_tens x0 = some res) : dt_Met 1 l yX10_tens cX10_tens 4 (some .long) 1 (fun G => [.int x0]) M (some (.long res)) M := by
  refine dz_enter (lv := fun G => [(0, .int x0)]) (by decide) (fun _ => rfl) (fun _ => Nat.le_of_ble_eq_true rfl) (fun G A p e s m args below meth c C hr => ?_)
  unfold fX10_tens at h
  refine dz_lconst (pc := 0) (v := (1 : Int64)) C dX10_tens_0 (by decide) ?_
  refine dz_lstore_n (pc := 1) C dX10_tens_1 rfl (by decide) rfl ?_
  refine dz_iconst (pc := 2) (v := (0 : Int32)) C dX10_tens_2 (by decide) ?_
  refine dz_istore_n (pc := 3) C dX10_tens_3 rfl (by decide) rfl ?_
  refine dz_sub [2, 1, 0] rfl ?_
  exact tX10_tens_4 C hr dt_F x0 (1 : Int64) (0 : Int32) h

def fX10_falls  (x1 : Int32) (x2 : Int32) (T : dt_Ob) : Option (Int32) := ((dt_ix ((((260 : Int32) + ((8 : Int32) * x1)) + x2) - (1 : Int32)) 1225).bind fun a1 => (some ((T 0) a1)))
set_option maxRecDepth 10000 in
set_option maxHeartbeats 4000000 in
theorem m_X10_falls (l : Launch)  (M : dt_M) (T : dt_Ob)  (x1 : Int32) (x2 : Int32) {res : Int32} (h : fX10_falls x1 x2 T = some res) : dt_Met 1 l yX10_falls cX10_falls 3 (some .int) 1 (fun G => [.ref (G.1 18 0), .int x1, .int x2]) (dt_put M 18 T) (some (.int res)) (dt_put M 18 T) := by
  refine dz_enter (lv := fun G => [(0, .ref (G.1 18 0)), (1, .int x1), (2, .int x2)]) (by decide) (fun _ => rfl) (fun _ => Nat.le_of_ble_eq_true rfl) (fun G A p e s m args below meth c C hr => ?_)
  unfold fX10_falls at h
  refine dz_aload_n (pc := 0) C dX10_falls_0 rfl 0 rfl ?_
  refine dz_getR (pc := 1) (k := 18) (j := 0) C Fc_X10 hk_18 (by decide) (by decide) rfl fl_X10_7 dX10_falls_1 ?_
  refine dz_sipush (pc := 4) (v := (260 : Int32)) C dX10_falls_4 (by decide) ?_
  refine dz_bipush (pc := 7) (v := (8 : Int32)) C dX10_falls_7 (by decide) ?_
  refine dz_iload_n (pc := 9) C dX10_falls_9 rfl 1 rfl ?_
  refine dz_imul (pc := 10) C dX10_falls_10 ?_
  refine dz_iadd (pc := 11) C dX10_falls_11 ?_
  refine dz_iload_n (pc := 12) C dX10_falls_12 rfl 2 rfl ?_
  refine dz_iadd (pc := 13) C dX10_falls_13 ?_
  refine dz_iconst (pc := 14) (v := (1 : Int32)) C dX10_falls_14 (by decide) ?_
  refine dz_isub (pc := 15) C dX10_falls_15 ?_
  refine dz_iald (pc := 16) (k := 18) (j := 0) (n := 1225) (f := (T 0)) C hk_18 (by decide) rfl (dt_rAf _ _ _ _) dX10_falls_16 h (fun a1 h => ?_)
  cases dt_some h
  exact dz_iret (pc := 17) C hr dX10_falls_17

def fX10_goesOnFrom (rc : Int32 → Int32 → Int32 → dt_Ob → Option (Int64))  (x1 : Int32) (x2 : Int32) (x3 : Int32) (T : dt_Ob) : Option (Int64) := ((fX10_falls x2 (x3 + (1 : Int32)) T).bind fun q1 => ((rc x1 (x2 + (1 : Int32)) (x3 + (1 : Int32)) T).bind fun q2 => ((dt_ix (330 : Int32) 1225).bind fun a3 => ((fX10_tens ((x1 - x2) - (1 : Int32))).bind fun q4 => (some ((((10 : Int64) - (Int32.toInt64 q1)) * q2) + ((Int32.toInt64 (q1 * ((T 0) a3))) * q4)))))))
set_option maxRecDepth 10000 in
set_option maxHeartbeats 4000000 in
theorem m_X10_goesOnFrom (l : Launch) {hN : Nat} (hGB : 1 ≤ hN) {rc : Int32 → Int32 → Int32 → dt_Ob → Option (Int64)} (hrc : ∀ (M : dt_M) (T : dt_Ob) (x1 : Int32) (x2 : Int32) (x3 : Int32) {res : Int64}, rc x1 x2 x3 T = some res → dt_Met 1 l yX10_worthFrom cX10_worthFrom 8 (some .long) hN (fun G => [.ref (G.1 18 0), .int x1, .int x2, .int x3]) (dt_put M 18 T) (some (.long res)) (dt_put M 18 T)) (M : dt_M) (T : dt_Ob)  (x1 : Int32) (x2 : Int32) (x3 : Int32) {res : Int64} (h : fX10_goesOnFrom rc x1 x2 x3 T = some res) : dt_Met 1 l yX10_goesOnFrom cX10_goesOnFrom 5 (some .long) (hN + 1) (fun G => [.ref (G.1 18 0), .int x1, .int x2, .int x3]) (dt_put M 18 T) (some (.long res)) (dt_put M 18 T) := by
  refine dz_enter (lv := fun G => [(0, .ref (G.1 18 0)), (1, .int x1), (2, .int x2), (3, .int x3)]) (by decide) (fun _ => rfl) (fun _ => Nat.le_of_ble_eq_true rfl) (fun G A p e s m args below meth c C hr => ?_)
  unfold fX10_goesOnFrom at h
  refine dz_aload_n (pc := 0) C dX10_goesOnFrom_0 rfl 0 rfl ?_
  refine dz_iload_n (pc := 1) C dX10_goesOnFrom_1 rfl 2 rfl ?_
  refine dz_iload_n (pc := 2) C dX10_goesOnFrom_2 rfl 3 rfl ?_
  refine dz_iconst (pc := 3) (v := (1 : Int32)) C dX10_goesOnFrom_3 (by decide) ?_
  refine dz_iadd (pc := 4) C dX10_goesOnFrom_4 ?_
  obtain ⟨q1, eq1, h⟩ := dt_bind h
  refine dz_callVi (pc := 5) (st := []) (k := 18) (As := [.int x2, .int (x3 + (1 : Int32))]) (M' := (dt_put M 18 T)) C Fc_X10 hk_18 mf_X10_falls rfl ml_X10_331 (m_X10_falls l _ _ _ _ eq1) rfl rfl (by omega) (by decide) (Nat.le_of_ble_eq_true rfl) dX10_goesOnFrom_5 ?_
  refine dz_istore (pc := 8) C dX10_goesOnFrom_8 (by decide) rfl ?_
  refine dz_ldc2 (pc := 10) C cl_X10_329 dX10_goesOnFrom_10 ?_
  refine dz_iload (pc := 13) C dX10_goesOnFrom_13 0 rfl ?_
  refine dz_i2l (pc := 15) C dX10_goesOnFrom_15 ?_
  refine dz_lsub (pc := 16) C dX10_goesOnFrom_16 ?_
  refine dz_aload_n (pc := 17) C dX10_goesOnFrom_17 rfl 1 rfl ?_
  refine dz_iload_n (pc := 18) C dX10_goesOnFrom_18 rfl 2 rfl ?_
  refine dz_iload_n (pc := 19) C dX10_goesOnFrom_19 rfl 3 rfl ?_
  refine dz_iconst (pc := 20) (v := (1 : Int32)) C dX10_goesOnFrom_20 (by decide) ?_
  refine dz_iadd (pc := 21) C dX10_goesOnFrom_21 ?_
  refine dz_iload_n (pc := 22) C dX10_goesOnFrom_22 rfl 4 rfl ?_
  refine dz_iconst (pc := 23) (v := (1 : Int32)) C dX10_goesOnFrom_23 (by decide) ?_
  refine dz_iadd (pc := 24) C dX10_goesOnFrom_24 ?_
  obtain ⟨q2, eq2, h⟩ := dt_bind h
  refine dz_callVl (pc := 25) (st := [.long ((10 : Int64) - (Int32.toInt64 q1))]) (k := 18) (As := [.int x1, .int (x2 + (1 : Int32)), .int (x3 + (1 : Int32))]) (M' := (dt_put M 18 T)) C Fc_X10 hk_18 mf_X10_worthFrom rfl ml_X10_334 (hrc _ _ _ _ _ eq2) rfl rfl (by omega) (by decide) (Nat.le_of_ble_eq_true rfl) dX10_goesOnFrom_25 ?_
  refine dz_lmul (pc := 28) C dX10_goesOnFrom_28 ?_
  refine dz_iload (pc := 29) C dX10_goesOnFrom_29 0 rfl ?_
  refine dz_aload_n (pc := 31) C dX10_goesOnFrom_31 rfl 1 rfl ?_
  refine dz_getR (pc := 32) (k := 18) (j := 0) C Fc_X10 hk_18 (by decide) (by decide) rfl fl_X10_7 dX10_goesOnFrom_32 ?_
  refine dz_sipush (pc := 35) (v := (330 : Int32)) C dX10_goesOnFrom_35 (by decide) ?_
  refine dz_iald (pc := 38) (k := 18) (j := 0) (n := 1225) (f := (T 0)) C hk_18 (by decide) rfl (dt_rAf _ _ _ _) dX10_goesOnFrom_38 h (fun a3 h => ?_)
  refine dz_imul (pc := 39) C dX10_goesOnFrom_39 ?_
  refine dz_i2l (pc := 40) C dX10_goesOnFrom_40 ?_
  refine dz_iload_n (pc := 41) C dX10_goesOnFrom_41 rfl 2 rfl ?_
  refine dz_iload_n (pc := 42) C dX10_goesOnFrom_42 rfl 3 rfl ?_
  refine dz_isub (pc := 43) C dX10_goesOnFrom_43 ?_
  refine dz_iconst (pc := 44) (v := (1 : Int32)) C dX10_goesOnFrom_44 (by decide) ?_
  refine dz_isub (pc := 45) C dX10_goesOnFrom_45 ?_
  obtain ⟨q4, eq4, h⟩ := dt_bind h
  refine dz_callSl (pc := 46) (st := [.long (Int32.toInt64 (q1 * ((T 0) a3))), .long (((10 : Int64) - (Int32.toInt64 q1)) * q2)]) (As := [.int ((x1 - x2) - (1 : Int32))]) (M' := (dt_put M 18 T)) C ms_X10_tens ml_X10_338 (m_X10_tens l _ _ eq4) rfl rfl (by omega) (by decide) (Nat.le_of_ble_eq_true rfl) dX10_goesOnFrom_46 ?_
  refine dz_lmul (pc := 49) C dX10_goesOnFrom_49 ?_
  refine dz_ladd (pc := 50) C dX10_goesOnFrom_50 ?_
  cases dt_some h
  exact dz_lret (pc := 51) C hr dX10_goesOnFrom_51

def fX10_worthFrom_b (rc : Int32 → Int32 → Int32 → dt_Ob → Option (Int64))  (x1 : Int32) (x2 : Int32) (x3 : Int32) (T : dt_Ob) : Option (Int64) := ((dt_ix ((330 : Int32) + x3) 1225).bind fun a1 => ((fX10_tens (x1 - x2)).bind fun q2 => (if x2 = x1 then (some ((Int32.toInt64 ((T 0) a1)) * q2)) else (if x3 = (8 : Int32) then (some ((Int32.toInt64 ((T 0) a1)) * q2)) else ((fX10_goesOnFrom rc x1 x2 x3 T).bind fun q3 => (if (lg_cmp q3 ((Int32.toInt64 ((T 0) a1)) * q2)) ≤ 0 then (some ((Int32.toInt64 ((T 0) a1)) * q2)) else (some q3)))))))
def fX10_worthFrom  : Nat → Int32 → Int32 → Int32 → dt_Ob → Option (Int64)
  | 0, _, _, _, _ => none
  | n + 1, x1, x2, x3, T => fX10_worthFrom_b (fX10_worthFrom n) x1 x2 x3 T
set_option maxRecDepth 10000 in
set_option maxHeartbeats 4000000 in
theorem m_X10_worthFrom_b (l : Launch) {hN : Nat} (hGB : 1 ≤ hN) {rc : Int32 → Int32 → Int32 → dt_Ob → Option (Int64)} (hrc : ∀ (M : dt_M) (T : dt_Ob) (x1 : Int32) (x2 : Int32) (x3 : Int32) {res : Int64}, rc x1 x2 x3 T = some res → dt_Met 1 l yX10_worthFrom cX10_worthFrom 8 (some .long) hN (fun G => [.ref (G.1 18 0), .int x1, .int x2, .int x3]) (dt_put M 18 T) (some (.long res)) (dt_put M 18 T)) (M : dt_M) (T : dt_Ob) (x1 : Int32) (x2 : Int32) (x3 : Int32) {res : Int64} (h : fX10_worthFrom_b rc x1 x2 x3 T = some res) : dt_Met 1 l yX10_worthFrom cX10_worthFrom 8 (some .long) (hN + 2) (fun G => [.ref (G.1 18 0), .int x1, .int x2, .int x3]) (dt_put M 18 T) (some (.long res)) (dt_put M 18 T) := by
  refine dz_enter (lv := fun G => [(0, .ref (G.1 18 0)), (1, .int x1), (2, .int x2), (3, .int x3)]) (by decide) (fun _ => rfl) (fun _ => Nat.le_of_ble_eq_true rfl) (fun G A p e s m args below meth c C hr => ?_)
  unfold fX10_worthFrom_b at h
  refine dz_aload_n (pc := 0) C dX10_worthFrom_0 rfl 0 rfl ?_
  refine dz_getR (pc := 1) (k := 18) (j := 0) C Fc_X10 hk_18 (by decide) (by decide) rfl fl_X10_7 dX10_worthFrom_1 ?_
  refine dz_sipush (pc := 4) (v := (330 : Int32)) C dX10_worthFrom_4 (by decide) ?_
  refine dz_iload_n (pc := 7) C dX10_worthFrom_7 rfl 3 rfl ?_
  refine dz_iadd (pc := 8) C dX10_worthFrom_8 ?_
  refine dz_iald (pc := 9) (k := 18) (j := 0) (n := 1225) (f := (T 0)) C hk_18 (by decide) rfl (dt_rAf _ _ _ _) dX10_worthFrom_9 h (fun a1 h => ?_)
  refine dz_i2l (pc := 10) C dX10_worthFrom_10 ?_
  refine dz_iload_n (pc := 11) C dX10_worthFrom_11 rfl 1 rfl ?_
  refine dz_iload_n (pc := 12) C dX10_worthFrom_12 rfl 2 rfl ?_
  refine dz_isub (pc := 13) C dX10_worthFrom_13 ?_
  obtain ⟨q2, eq2, h⟩ := dt_bind h
  refine dz_callSl (pc := 14) (st := [.long (Int32.toInt64 ((T 0) a1))]) (As := [.int (x1 - x2)]) (M' := (dt_put M 18 T)) C ms_X10_tens ml_X10_338 (m_X10_tens l _ _ eq2) rfl rfl (by omega) (by decide) (Nat.le_of_ble_eq_true rfl) dX10_worthFrom_14 ?_
  refine dz_lmul (pc := 17) C dX10_worthFrom_17 ?_
  refine dz_lstore (pc := 18) C dX10_worthFrom_18 (by decide) rfl ?_
  refine dz_iload_n (pc := 20) C dX10_worthFrom_20 rfl 3 rfl ?_
  refine dz_iload_n (pc := 21) C dX10_worthFrom_21 rfl 2 rfl ?_
  refine dz_icmp_eq (pc := 22) (t := 31) C dX10_worthFrom_22 (by decide) h (fun h => ?_) (fun h => ?_)
  · refine dz_lload (pc := 31) C dX10_worthFrom_31 0 rfl ?_
    cases dt_some h
    exact dz_lret (pc := 33) C hr dX10_worthFrom_33
  · refine dz_iload_n (pc := 25) C dX10_worthFrom_25 rfl 4 rfl ?_
    refine dz_bipush (pc := 26) (v := (8 : Int32)) C dX10_worthFrom_26 (by decide) ?_
    refine dz_icmp_ne (pc := 28) (t := 34) C dX10_worthFrom_28 (by decide) h (fun h => ?_) (fun h => ?_)
    · refine dz_aload_n (pc := 34) C dX10_worthFrom_34 rfl 1 rfl ?_
      refine dz_iload_n (pc := 35) C dX10_worthFrom_35 rfl 2 rfl ?_
      refine dz_iload_n (pc := 36) C dX10_worthFrom_36 rfl 3 rfl ?_
      refine dz_iload_n (pc := 37) C dX10_worthFrom_37 rfl 4 rfl ?_
      obtain ⟨q3, eq3, h⟩ := dt_bind h
      refine dz_callVl (pc := 38) (st := []) (k := 18) (As := [.int x1, .int x2, .int x3]) (M' := (dt_put M 18 T)) C Fc_X10 hk_18 mf_X10_goesOnFrom rfl ml_X10_342 (m_X10_goesOnFrom l hGB hrc _ _ _ _ _ eq3) rfl rfl (by omega) (by decide) (Nat.le_of_ble_eq_true rfl) dX10_worthFrom_38 ?_
      refine dz_lstore (pc := 41) C dX10_worthFrom_41 (by decide) rfl ?_
      refine dz_lload (pc := 43) C dX10_worthFrom_43 0 rfl ?_
      refine dz_lload (pc := 45) C dX10_worthFrom_45 1 rfl ?_
      refine dz_lcmp (pc := 47) C dX10_worthFrom_47 ?_
      refine dz_if_le (pc := 48) (t := 56) C dX10_worthFrom_48 (by decide) h (fun h => ?_) (fun h => ?_)
      · refine dz_lload (pc := 56) C dX10_worthFrom_56 1 rfl ?_
        cases dt_some h
        exact dz_lret (pc := 58) C hr dX10_worthFrom_58
      · refine dz_lload (pc := 51) C dX10_worthFrom_51 0 rfl ?_
        refine dz_goto (pc := 53) (t := 58) C dX10_worthFrom_53 (by decide) ?_
        cases dt_some h
        exact dz_lret (pc := 58) C hr dX10_worthFrom_58
    · refine dz_lload (pc := 31) C dX10_worthFrom_31 0 rfl ?_
      cases dt_some h
      exact dz_lret (pc := 33) C hr dX10_worthFrom_33
theorem m_X10_worthFrom_n (l : Launch) : ∀ (n : Nat) (M : dt_M) (T : dt_Ob) (x1 : Int32) (x2 : Int32) (x3 : Int32) {res : Int64}, fX10_worthFrom n x1 x2 x3 T = some res → dt_Met 1 l yX10_worthFrom cX10_worthFrom 8 (some .long) (1 + 2 * n) (fun G => [.ref (G.1 18 0), .int x1, .int x2, .int x3]) (dt_put M 18 T) (some (.long res)) (dt_put M 18 T) := by
  intro n
  induction n with
  | zero =>
    intro M T x1 x2 x3 res h
    unfold fX10_worthFrom at h
    cases h
  | succ n ih =>
    intro M T x1 x2 x3 res h
    unfold fX10_worthFrom at h
    have e0 : 1 + 2 * (n + 1) = 1 + 2 * n + 2 := by omega
    rw [e0]
    exact m_X10_worthFrom_b l  (by omega) (fun M T x1 x2 x3 _ h => ih M T x1 x2 x3 h) M T x1 x2 x3 h
theorem m_X10_worthFrom (l : Launch) (M : dt_M) (n : Nat) (T : dt_Ob) (x1 : Int32) (x2 : Int32) (x3 : Int32) {res : Int64} (h : fX10_worthFrom n x1 x2 x3 T = some res) : dt_Met 1 l yX10_worthFrom cX10_worthFrom 8 (some .long) (1 + 2 * n) (fun G => [.ref (G.1 18 0), .int x1, .int x2, .int x3]) (dt_put M 18 T) (some (.long res)) (dt_put M 18 T) := m_X10_worthFrom_n l  n M T x1 x2 x3 h

def fX10_worth_39  (T : dt_Ob) : Option (Int64) := (some (-1 : Int64))
set_option maxRecDepth 10000 in
set_option maxHeartbeats 4000000 in
theorem tX10_worth_39 {G : dt_G} {A : Nat → Prop} {p : Program} {l : Launch} {e : Env} {s : State} {m : MethodId} {args : Array Value} {below : List Frame} {meth : Method} {c : Code} (C : dt_Cx 1 G A p s m args meth c cX10_worth 5 RX10) (hr : meth.sig.returnType = (some .long)) {M : dt_M} {res : Int64}  : ∀ (T : dt_Ob), fX10_worth_39 T = some res → dt_At G A p l e (dt_rm 51) s m args below meth c 5 (MQ below (dt_Post G A (some (.long res)) (dt_put M 18 T)) args s 0 0 A) 39 [] [] (dt_put M 18 T) := by
  intro T h
  unfold fX10_worth_39 at h
  refine dz_ldc2 (pc := 39) C cl_X10_345 dX10_worth_39 ?_
  cases dt_some h
  exact dz_lret (pc := 42) C hr dX10_worth_42
def fX10_worth  (x1 : Int32) (x2 : Int32) (x3 : Int32) (x4 : Int32) (T : dt_Ob) : Option (Int64) := ((fX10_isIn x1 (1 : Int32) (8 : Int32)).bind fun q1 => (if q1 = 0 then (fX10_worth_39 T) else ((fX10_isIn x2 (0 : Int32) x1).bind fun q2 => (if q2 = 0 then (fX10_worth_39 T) else ((fX10_isIn x3 (0 : Int32) (8 : Int32)).bind fun q3 => (if q3 = 0 then (fX10_worth_39 T) else ((fX10_isIn x4 (0 : Int32) (1 : Int32)).bind fun q4 => (if q4 = 0 then (fX10_worth_39 T) else (if x4 = 0 then ((fX10_worthFrom 24 x1 x2 x3 T).bind fun q8 => (some q8)) else (if x1 ≤ x2 then (some (0 : Int64)) else (if (8 : Int32) ≤ x3 then (some (0 : Int64)) else ((fX10_goesOnFrom (fX10_worthFrom 24) x1 x2 x3 T).bind fun q5 => ((dt_ix ((330 : Int32) + x3) 1225).bind fun a6 => ((fX10_tens (x1 - x2)).bind fun q7 => (if (lg_cmp q5 ((Int32.toInt64 ((T 0) a6)) * q7)) ≤ 0 then (some (0 : Int64)) else (some (1 : Int64)))))))))))))))))
set_option maxRecDepth 10000 in
set_option maxHeartbeats 4000000 in
theorem m_X10_worth (l : Launch)  (M : dt_M) (T : dt_Ob)  (x1 : Int32) (x2 : Int32) (x3 : Int32) (x4 : Int32) {res : Int64} (h : fX10_worth x1 x2 x3 x4 T = some res) : dt_Met 1 l yX10_worth cX10_worth 5 (some .long) 51 (fun G => [.ref (G.1 18 0), .int x1, .int x2, .int x3, .int x4]) (dt_put M 18 T) (some (.long res)) (dt_put M 18 T) := by
  refine dz_enter (lv := fun G => [(0, .ref (G.1 18 0)), (1, .int x1), (2, .int x2), (3, .int x3), (4, .int x4)]) (by decide) (fun _ => rfl) (fun _ => Nat.le_of_ble_eq_true rfl) (fun G A p e s m args below meth c C hr => ?_)
  unfold fX10_worth at h
  refine dz_iload_n (pc := 0) C dX10_worth_0 rfl 1 rfl ?_
  refine dz_iconst (pc := 1) (v := (1 : Int32)) C dX10_worth_1 (by decide) ?_
  refine dz_bipush (pc := 2) (v := (8 : Int32)) C dX10_worth_2 (by decide) ?_
  obtain ⟨q1, eq1, h⟩ := dt_bind h
  refine dz_callSi (pc := 4) (st := []) (As := [.int x1, .int (1 : Int32), .int (8 : Int32)]) (M' := (dt_put M 18 T)) C ms_X10_isIn ml_X10_76 (m_X10_isIn l _ _ _ _ eq1) rfl rfl (by omega) (by decide) (Nat.le_of_ble_eq_true rfl) dX10_worth_4 ?_
  refine dz_if_eq (pc := 7) (t := 39) C dX10_worth_7 (by decide) h (fun h => ?_) (fun h => ?_)
  · refine dz_sub [] rfl ?_
    exact tX10_worth_39 C hr  T h
  · refine dz_iload_n (pc := 10) C dX10_worth_10 rfl 2 rfl ?_
    refine dz_iconst (pc := 11) (v := (0 : Int32)) C dX10_worth_11 (by decide) ?_
    refine dz_iload_n (pc := 12) C dX10_worth_12 rfl 1 rfl ?_
    obtain ⟨q2, eq2, h⟩ := dt_bind h
    refine dz_callSi (pc := 13) (st := []) (As := [.int x2, .int (0 : Int32), .int x1]) (M' := (dt_put M 18 T)) C ms_X10_isIn ml_X10_76 (m_X10_isIn l _ _ _ _ eq2) rfl rfl (by omega) (by decide) (Nat.le_of_ble_eq_true rfl) dX10_worth_13 ?_
    refine dz_if_eq (pc := 16) (t := 39) C dX10_worth_16 (by decide) h (fun h => ?_) (fun h => ?_)
    · refine dz_sub [] rfl ?_
      exact tX10_worth_39 C hr  T h
    · refine dz_iload_n (pc := 19) C dX10_worth_19 rfl 3 rfl ?_
      refine dz_iconst (pc := 20) (v := (0 : Int32)) C dX10_worth_20 (by decide) ?_
      refine dz_bipush (pc := 21) (v := (8 : Int32)) C dX10_worth_21 (by decide) ?_
      obtain ⟨q3, eq3, h⟩ := dt_bind h
      refine dz_callSi (pc := 23) (st := []) (As := [.int x3, .int (0 : Int32), .int (8 : Int32)]) (M' := (dt_put M 18 T)) C ms_X10_isIn ml_X10_76 (m_X10_isIn l _ _ _ _ eq3) rfl rfl (by omega) (by decide) (Nat.le_of_ble_eq_true rfl) dX10_worth_23 ?_
      refine dz_if_eq (pc := 26) (t := 39) C dX10_worth_26 (by decide) h (fun h => ?_) (fun h => ?_)
      · refine dz_sub [] rfl ?_
        exact tX10_worth_39 C hr  T h
      · refine dz_iload (pc := 29) C dX10_worth_29 4 rfl ?_
        refine dz_iconst (pc := 31) (v := (0 : Int32)) C dX10_worth_31 (by decide) ?_
        refine dz_iconst (pc := 32) (v := (1 : Int32)) C dX10_worth_32 (by decide) ?_
        obtain ⟨q4, eq4, h⟩ := dt_bind h
        refine dz_callSi (pc := 33) (st := []) (As := [.int x4, .int (0 : Int32), .int (1 : Int32)]) (M' := (dt_put M 18 T)) C ms_X10_isIn ml_X10_76 (m_X10_isIn l _ _ _ _ eq4) rfl rfl (by omega) (by decide) (Nat.le_of_ble_eq_true rfl) dX10_worth_33 ?_
        refine dz_if_ne (pc := 36) (t := 43) C dX10_worth_36 (by decide) h (fun h => ?_) (fun h => ?_)
        · refine dz_iload (pc := 43) C dX10_worth_43 4 rfl ?_
          refine dz_if_ne (pc := 45) (t := 56) C dX10_worth_45 (by decide) h (fun h => ?_) (fun h => ?_)
          · refine dz_iload_n (pc := 56) C dX10_worth_56 rfl 2 rfl ?_
            refine dz_iload_n (pc := 57) C dX10_worth_57 rfl 1 rfl ?_
            refine dz_icmp_ge (pc := 58) (t := 100) C dX10_worth_58 (by decide) h (fun h => ?_) (fun h => ?_)
            · refine dz_lconst (pc := 100) (v := (0 : Int64)) C dX10_worth_100 (by decide) ?_
              cases dt_some h
              exact dz_lret (pc := 101) C hr dX10_worth_101
            · refine dz_iload_n (pc := 61) C dX10_worth_61 rfl 3 rfl ?_
              refine dz_bipush (pc := 62) (v := (8 : Int32)) C dX10_worth_62 (by decide) ?_
              refine dz_icmp_ge (pc := 64) (t := 100) C dX10_worth_64 (by decide) h (fun h => ?_) (fun h => ?_)
              · refine dz_lconst (pc := 100) (v := (0 : Int64)) C dX10_worth_100 (by decide) ?_
                cases dt_some h
                exact dz_lret (pc := 101) C hr dX10_worth_101
              · refine dz_aload_n (pc := 67) C dX10_worth_67 rfl 0 rfl ?_
                refine dz_iload_n (pc := 68) C dX10_worth_68 rfl 1 rfl ?_
                refine dz_iload_n (pc := 69) C dX10_worth_69 rfl 2 rfl ?_
                refine dz_iload_n (pc := 70) C dX10_worth_70 rfl 3 rfl ?_
                obtain ⟨q5, eq5, h⟩ := dt_bind h
                refine dz_callVl (pc := 71) (st := []) (k := 18) (As := [.int x1, .int x2, .int x3]) (M' := (dt_put M 18 T)) C Fc_X10 hk_18 mf_X10_goesOnFrom rfl ml_X10_342 (m_X10_goesOnFrom l (hN := 1 + 2 * 24) (by omega) (fun M T x1 x2 x3 _ h => m_X10_worthFrom l  M 24 T x1 x2 x3 h) _ _ _ _ _ eq5) rfl rfl (by omega) (by decide) (Nat.le_of_ble_eq_true rfl) dX10_worth_71 ?_
                refine dz_aload_n (pc := 74) C dX10_worth_74 rfl 0 rfl ?_
                refine dz_getR (pc := 75) (k := 18) (j := 0) C Fc_X10 hk_18 (by decide) (by decide) rfl fl_X10_7 dX10_worth_75 ?_
                refine dz_sipush (pc := 78) (v := (330 : Int32)) C dX10_worth_78 (by decide) ?_
                refine dz_iload_n (pc := 81) C dX10_worth_81 rfl 3 rfl ?_
                refine dz_iadd (pc := 82) C dX10_worth_82 ?_
                refine dz_iald (pc := 83) (k := 18) (j := 0) (n := 1225) (f := (T 0)) C hk_18 (by decide) rfl (dt_rAf _ _ _ _) dX10_worth_83 h (fun a6 h => ?_)
                refine dz_i2l (pc := 84) C dX10_worth_84 ?_
                refine dz_iload_n (pc := 85) C dX10_worth_85 rfl 1 rfl ?_
                refine dz_iload_n (pc := 86) C dX10_worth_86 rfl 2 rfl ?_
                refine dz_isub (pc := 87) C dX10_worth_87 ?_
                obtain ⟨q7, eq7, h⟩ := dt_bind h
                refine dz_callSl (pc := 88) (st := [.long (Int32.toInt64 ((T 0) a6)), .long q5]) (As := [.int (x1 - x2)]) (M' := (dt_put M 18 T)) C ms_X10_tens ml_X10_338 (m_X10_tens l _ _ eq7) rfl rfl (by omega) (by decide) (Nat.le_of_ble_eq_true rfl) dX10_worth_88 ?_
                refine dz_lmul (pc := 91) C dX10_worth_91 ?_
                refine dz_lcmp (pc := 92) C dX10_worth_92 ?_
                refine dz_if_le (pc := 93) (t := 100) C dX10_worth_93 (by decide) h (fun h => ?_) (fun h => ?_)
                · refine dz_lconst (pc := 100) (v := (0 : Int64)) C dX10_worth_100 (by decide) ?_
                  cases dt_some h
                  exact dz_lret (pc := 101) C hr dX10_worth_101
                · refine dz_lconst (pc := 96) (v := (1 : Int64)) C dX10_worth_96 (by decide) ?_
                  refine dz_goto (pc := 97) (t := 101) C dX10_worth_97 (by decide) ?_
                  cases dt_some h
                  exact dz_lret (pc := 101) C hr dX10_worth_101
          · refine dz_aload_n (pc := 48) C dX10_worth_48 rfl 0 rfl ?_
            refine dz_iload_n (pc := 49) C dX10_worth_49 rfl 1 rfl ?_
            refine dz_iload_n (pc := 50) C dX10_worth_50 rfl 2 rfl ?_
            refine dz_iload_n (pc := 51) C dX10_worth_51 rfl 3 rfl ?_
            obtain ⟨q8, eq8, h⟩ := dt_bind h
            refine dz_callVl (pc := 52) (st := []) (k := 18) (As := [.int x1, .int x2, .int x3]) (M' := (dt_put M 18 T)) C Fc_X10 hk_18 mf_X10_worthFrom rfl ml_X10_334 (m_X10_worthFrom l _ 24 _ _ _ _ eq8) rfl rfl (by omega) (by decide) (Nat.le_of_ble_eq_true rfl) dX10_worth_52 ?_
            cases dt_some h
            exact dz_lret (pc := 55) C hr dX10_worth_55
        · refine dz_sub [] rfl ?_
          exact tX10_worth_39 C hr  T h

def fX10_bet_20  (T : dt_Ob) : Option (Int64) := (some (-1 : Int64))
set_option maxRecDepth 10000 in
set_option maxHeartbeats 4000000 in
theorem tX10_bet_20 {G : dt_G} {A : Nat → Prop} {p : Program} {l : Launch} {e : Env} {s : State} {m : MethodId} {args : Array Value} {below : List Frame} {meth : Method} {c : Code} (C : dt_Cx 1 G A p s m args meth c cX10_bet 6 RX10) (hr : meth.sig.returnType = (some .long)) {M : dt_M} {res : Int64}  : ∀ (T : dt_Ob), fX10_bet_20 T = some res → dt_At G A p l e (dt_rm 2) s m args below meth c 6 (MQ below (dt_Post G A (some (.long res)) (dt_put M 18 T)) args s 0 0 A) 20 [] [] (dt_put M 18 T) := by
  intro T h
  unfold fX10_bet_20 at h
  refine dz_ldc2 (pc := 20) C cl_X10_345 dX10_bet_20 ?_
  cases dt_some h
  exact dz_lret (pc := 23) C hr dX10_bet_23
def fX10_bet_45  : Nat → Int32 → Int64 → Int32 → dt_Ob → Option (Int64)
  | 0, _, _, _, _ => none
  | n + 1, x1, x3, x5, T => (if x1 ≤ x5 then (some x3) else ((fX10_falls x5 (x5 + (1 : Int32)) T).bind fun q4 => ((fX10_bet_45 n) x1 (x3 * ((10 : Int64) - (Int32.toInt64 q4))) (x5 + (1 : Int32)) T)))
set_option maxRecDepth 10000 in
set_option maxHeartbeats 4000000 in
theorem tX10_bet_45 {G : dt_G} {A : Nat → Prop} {p : Program} {l : Launch} {e : Env} {s : State} {m : MethodId} {args : Array Value} {below : List Frame} {meth : Method} {c : Code} (C : dt_Cx 1 G A p s m args meth c cX10_bet 6 RX10) (hr : meth.sig.returnType = (some .long)) {M : dt_M} {res : Int64}  : ∀ (n : Nat) (x1 : Int32) (x3 : Int64) (x5 : Int32) (T : dt_Ob), fX10_bet_45 n x1 x3 x5 T = some res → dt_At G A p l e (dt_rm 2) s m args below meth c 6 (MQ below (dt_Post G A (some (.long res)) (dt_put M 18 T)) args s 0 0 A) 45 [(0, .ref (G.1 18 0)), (1, .int x1), (3, .long x3), (5, .int x5)] [] (dt_put M 18 T) := by
  intro n
  induction n with
  | zero =>
    intro x1 x3 x5 T h
    unfold fX10_bet_45 at h
    cases h
  | succ n ih =>
    intro x1 x3 x5 T h
    unfold fX10_bet_45 at h
    refine dz_iload (pc := 45) C dX10_bet_45 3 rfl ?_
    refine dz_iload_n (pc := 47) C dX10_bet_47 rfl 1 rfl ?_
    refine dz_icmp_ge (pc := 48) (t := 75) C dX10_bet_48 (by decide) h (fun h => ?_) (fun h => ?_)
    · refine dz_lload_n (pc := 75) C dX10_bet_75 rfl 2 rfl ?_
      cases dt_some h
      exact dz_lret (pc := 76) C hr dX10_bet_76
    · refine dz_lload_n (pc := 51) C dX10_bet_51 rfl 2 rfl ?_
      refine dz_ldc2 (pc := 52) C cl_X10_329 dX10_bet_52 ?_
      refine dz_aload_n (pc := 55) C dX10_bet_55 rfl 0 rfl ?_
      refine dz_iload (pc := 56) C dX10_bet_56 3 rfl ?_
      refine dz_iload (pc := 58) C dX10_bet_58 3 rfl ?_
      refine dz_iconst (pc := 60) (v := (1 : Int32)) C dX10_bet_60 (by decide) ?_
      refine dz_iadd (pc := 61) C dX10_bet_61 ?_
      obtain ⟨q4, eq4, h⟩ := dt_bind h
      refine dz_callVi (pc := 62) (st := [.long (10 : Int64), .long x3]) (k := 18) (As := [.int x5, .int (x5 + (1 : Int32))]) (M' := (dt_put M 18 T)) C Fc_X10 hk_18 mf_X10_falls rfl ml_X10_331 (m_X10_falls l _ _ _ _ eq4) rfl rfl (by omega) (by decide) (Nat.le_of_ble_eq_true rfl) dX10_bet_62 ?_
      refine dz_i2l (pc := 65) C dX10_bet_65 ?_
      refine dz_lsub (pc := 66) C dX10_bet_66 ?_
      refine dz_lmul (pc := 67) C dX10_bet_67 ?_
      refine dz_lstore_n (pc := 68) C dX10_bet_68 rfl (by decide) rfl ?_
      refine dz_iinc (pc := 69) (v := (x5 + (1 : Int32))) C dX10_bet_69 3 rfl rfl (by decide) rfl ?_
      refine dz_goto (pc := 72) (t := 45) C dX10_bet_72 (by decide) ?_
      refine dz_sub [2, 3, 1, 0] rfl ?_
      exact ih x1 (x3 * ((10 : Int64) - (Int32.toInt64 q4))) (x5 + (1 : Int32)) T h
def fX10_bet  (x1 : Int32) (x2 : Int32) (T : dt_Ob) : Option (Int64) := ((fX10_isIn x1 (1 : Int32) (8 : Int32)).bind fun q1 => (if q1 = 0 then (fX10_bet_20 T) else ((fX10_isIn x2 (0 : Int32) (8 : Int32)).bind fun q2 => (if q2 = 0 then (fX10_bet_20 T) else (if x2 = 0 then ((fX10_tens x1).bind fun q3 => (some q3)) else (if x2 ≤ x1 then (fX10_bet_45 dt_F x1 (1 : Int64) (0 : Int32) T) else (some (0 : Int64))))))))
set_option maxRecDepth 10000 in
set_option maxHeartbeats 4000000 in
theorem m_X10_bet (l : Launch)  (M : dt_M) (T : dt_Ob)  (x1 : Int32) (x2 : Int32) {res : Int64} (h : fX10_bet x1 x2 T = some res) : dt_Met 1 l yX10_bet cX10_bet 6 (some .long) 2 (fun G => [.ref (G.1 18 0), .int x1, .int x2]) (dt_put M 18 T) (some (.long res)) (dt_put M 18 T) := by
  refine dz_enter (lv := fun G => [(0, .ref (G.1 18 0)), (1, .int x1), (2, .int x2)]) (by decide) (fun _ => rfl) (fun _ => Nat.le_of_ble_eq_true rfl) (fun G A p e s m args below meth c C hr => ?_)
  unfold fX10_bet at h
  refine dz_iload_n (pc := 0) C dX10_bet_0 rfl 1 rfl ?_
  refine dz_iconst (pc := 1) (v := (1 : Int32)) C dX10_bet_1 (by decide) ?_
  refine dz_bipush (pc := 2) (v := (8 : Int32)) C dX10_bet_2 (by decide) ?_
  obtain ⟨q1, eq1, h⟩ := dt_bind h
  refine dz_callSi (pc := 4) (st := []) (As := [.int x1, .int (1 : Int32), .int (8 : Int32)]) (M' := (dt_put M 18 T)) C ms_X10_isIn ml_X10_76 (m_X10_isIn l _ _ _ _ eq1) rfl rfl (by omega) (by decide) (Nat.le_of_ble_eq_true rfl) dX10_bet_4 ?_
  refine dz_if_eq (pc := 7) (t := 20) C dX10_bet_7 (by decide) h (fun h => ?_) (fun h => ?_)
  · refine dz_sub [] rfl ?_
    exact tX10_bet_20 C hr  T h
  · refine dz_iload_n (pc := 10) C dX10_bet_10 rfl 2 rfl ?_
    refine dz_iconst (pc := 11) (v := (0 : Int32)) C dX10_bet_11 (by decide) ?_
    refine dz_bipush (pc := 12) (v := (8 : Int32)) C dX10_bet_12 (by decide) ?_
    obtain ⟨q2, eq2, h⟩ := dt_bind h
    refine dz_callSi (pc := 14) (st := []) (As := [.int x2, .int (0 : Int32), .int (8 : Int32)]) (M' := (dt_put M 18 T)) C ms_X10_isIn ml_X10_76 (m_X10_isIn l _ _ _ _ eq2) rfl rfl (by omega) (by decide) (Nat.le_of_ble_eq_true rfl) dX10_bet_14 ?_
    refine dz_if_ne (pc := 17) (t := 24) C dX10_bet_17 (by decide) h (fun h => ?_) (fun h => ?_)
    · refine dz_iload_n (pc := 24) C dX10_bet_24 rfl 2 rfl ?_
      refine dz_if_ne (pc := 25) (t := 33) C dX10_bet_25 (by decide) h (fun h => ?_) (fun h => ?_)
      · refine dz_iload_n (pc := 33) C dX10_bet_33 rfl 2 rfl ?_
        refine dz_iload_n (pc := 34) C dX10_bet_34 rfl 1 rfl ?_
        refine dz_icmp_le (pc := 35) (t := 40) C dX10_bet_35 (by decide) h (fun h => ?_) (fun h => ?_)
        · refine dz_lconst (pc := 40) (v := (1 : Int64)) C dX10_bet_40 (by decide) ?_
          refine dz_lstore_n (pc := 41) C dX10_bet_41 rfl (by decide) rfl ?_
          refine dz_iconst (pc := 42) (v := (0 : Int32)) C dX10_bet_42 (by decide) ?_
          refine dz_istore (pc := 43) C dX10_bet_43 (by decide) rfl ?_
          refine dz_sub [2, 3, 1, 0] rfl ?_
          exact tX10_bet_45 C hr dt_F x1 (1 : Int64) (0 : Int32) T h
        · refine dz_lconst (pc := 38) (v := (0 : Int64)) C dX10_bet_38 (by decide) ?_
          cases dt_some h
          exact dz_lret (pc := 39) C hr dX10_bet_39
      · refine dz_iload_n (pc := 28) C dX10_bet_28 rfl 1 rfl ?_
        obtain ⟨q3, eq3, h⟩ := dt_bind h
        refine dz_callSl (pc := 29) (st := []) (As := [.int x1]) (M' := (dt_put M 18 T)) C ms_X10_tens ml_X10_338 (m_X10_tens l _ _ eq3) rfl rfl (by omega) (by decide) (Nat.le_of_ble_eq_true rfl) dX10_bet_29 ?_
        cases dt_some h
        exact dz_lret (pc := 32) C hr dX10_bet_32
    · refine dz_sub [] rfl ?_
      exact tX10_bet_20 C hr  T h

def fX10_image_67  (T : dt_Ob) : Option (Int32 × dt_Ob) := (some ((1 : Int32), (dt_set T 6 0 (1 : Int32))))
set_option maxRecDepth 10000 in
set_option maxHeartbeats 4000000 in
theorem tX10_image_67 {G : dt_G} {A : Nat → Prop} {p : Program} {l : Launch} {e : Env} {s : State} {m : MethodId} {args : Array Value} {below : List Frame} {meth : Method} {c : Code} (C : dt_Cx 1 G A p s m args meth c cX10_image 3 RX10) (hr : meth.sig.returnType = (some .boolean)) {M : dt_M} {res : Int32 × dt_Ob}  : ∀ (T : dt_Ob), fX10_image_67 T = some res → dt_At G A p l e (dt_rm 2) s m args below meth c 3 (MQ below (dt_Post G A (some (.int res.1)) (dt_put M 18 res.2)) args s 0 0 A) 67 [(0, .ref (G.1 18 0))] [] (dt_put M 18 T) := by
  intro T h
  unfold fX10_image_67 at h
  refine dz_aload_n (pc := 67) C dX10_image_67 rfl 0 rfl ?_
  refine dz_iconst (pc := 68) (v := (1 : Int32)) C dX10_image_68 (by decide) ?_
  refine dz_putZ (pc := 69) (k := 18) (j := 6) (M' := (dt_put M 18 (dt_set T 6 0 (1 : Int32)))) C Fc_X10 hk_18 (by decide) rfl rfl (by decide) rfl rfl fl_X10_347 (dt_wA _ _ _ _ _ _) dX10_image_69 ?_
  refine dz_iconst (pc := 72) (v := (1 : Int32)) C dX10_image_72 (by decide) ?_
  cases dt_some h
  exact dz_zret (pc := 73) C hr (Or.inr rfl) dX10_image_73
def fX10_image_53 (r15 : Int32 → Int32 → dt_Ob → Option (Int32 × dt_Ob)) (x1 : Int32) (x2 : Int32) (T : dt_Ob) : Option (Int32 × dt_Ob) := (r15 x1 (x2 + (1 : Int32)) T)
set_option maxRecDepth 10000 in
set_option maxHeartbeats 4000000 in
theorem tX10_image_53 {G : dt_G} {A : Nat → Prop} {p : Program} {l : Launch} {e : Env} {s : State} {m : MethodId} {args : Array Value} {below : List Frame} {meth : Method} {c : Code} (C : dt_Cx 1 G A p s m args meth c cX10_image 3 RX10) (hr : meth.sig.returnType = (some .boolean)) {M : dt_M} {res : Int32 × dt_Ob} {r15 : Int32 → Int32 → dt_Ob → Option (Int32 × dt_Ob)} (hr15 : ∀ (x1 : Int32) (x2 : Int32) (T : dt_Ob), r15 x1 x2 T = some res → dt_At G A p l e (dt_rm 2) s m args below meth c 3 (MQ below (dt_Post G A (some (.int res.1)) (dt_put M 18 res.2)) args s 0 0 A) 15 [(0, .ref (G.1 18 0)), (1, .int x1), (2, .int x2)] [] (dt_put M 18 T)) : ∀ (x1 : Int32) (x2 : Int32) (T : dt_Ob), fX10_image_53 r15 x1 x2 T = some res → dt_At G A p l e (dt_rm 2) s m args below meth c 3 (MQ below (dt_Post G A (some (.int res.1)) (dt_put M 18 res.2)) args s 0 0 A) 53 [(0, .ref (G.1 18 0)), (1, .int x1), (2, .int x2)] [] (dt_put M 18 T) := by
  intro x1 x2 T h
  unfold fX10_image_53 at h
  refine dz_iinc (pc := 53) (v := (x2 + (1 : Int32))) C dX10_image_53 2 rfl rfl (by decide) rfl ?_
  refine dz_goto (pc := 56) (t := 15) C dX10_image_56 (by decide) ?_
  refine dz_sub [1, 2, 0] rfl ?_
  exact hr15 x1 (x2 + (1 : Int32)) T h
def fX10_image_15  : Nat → Int32 → Int32 → dt_Ob → Option (Int32 × dt_Ob)
  | 0, _, _, _ => none
  | n + 1, x1, x2, T => (if (1225 : Int32) ≤ x2 then (if x1 = 0 then ((fX10_forgets T).bind fun q1 => (fX10_image_67 q1)) else (fX10_image_67 T)) else (if x1 = 0 then ((dt_ix x2 1225).bind fun a2 => ((dt_ix x2 1225).bind fun a3 => (fX10_image_53 (fX10_image_15 n) x1 x2 (dt_set T 0 a3 ((T 1) a2))))) else ((dt_ix x2 1225).bind fun a4 => ((dt_ix x2 1225).bind fun a5 => (fX10_image_53 (fX10_image_15 n) x1 x2 (dt_set T 1 a5 ((T 0) a4)))))))
set_option maxRecDepth 10000 in
set_option maxHeartbeats 4000000 in
theorem tX10_image_15 {G : dt_G} {A : Nat → Prop} {p : Program} {l : Launch} {e : Env} {s : State} {m : MethodId} {args : Array Value} {below : List Frame} {meth : Method} {c : Code} (C : dt_Cx 1 G A p s m args meth c cX10_image 3 RX10) (hr : meth.sig.returnType = (some .boolean)) {M : dt_M} {res : Int32 × dt_Ob}  : ∀ (n : Nat) (x1 : Int32) (x2 : Int32) (T : dt_Ob), fX10_image_15 n x1 x2 T = some res → dt_At G A p l e (dt_rm 2) s m args below meth c 3 (MQ below (dt_Post G A (some (.int res.1)) (dt_put M 18 res.2)) args s 0 0 A) 15 [(0, .ref (G.1 18 0)), (1, .int x1), (2, .int x2)] [] (dt_put M 18 T) := by
  intro n
  induction n with
  | zero =>
    intro x1 x2 T h
    unfold fX10_image_15 at h
    cases h
  | succ n ih =>
    intro x1 x2 T h
    unfold fX10_image_15 at h
    refine dz_iload_n (pc := 15) C dX10_image_15 rfl 2 rfl ?_
    refine dz_sipush (pc := 16) (v := (1225 : Int32)) C dX10_image_16 (by decide) ?_
    refine dz_icmp_ge (pc := 19) (t := 59) C dX10_image_19 (by decide) h (fun h => ?_) (fun h => ?_)
    · refine dz_iload_n (pc := 59) C dX10_image_59 rfl 1 rfl ?_
      refine dz_if_ne (pc := 60) (t := 67) C dX10_image_60 (by decide) h (fun h => ?_) (fun h => ?_)
      · refine dz_sub [0] rfl ?_
        exact tX10_image_67 C hr  T h
      · refine dz_aload_n (pc := 63) C dX10_image_63 rfl 0 rfl ?_
        obtain ⟨q1, eq1, h⟩ := dt_bind h
        refine dz_callVv (pc := 64) (st := []) (k := 18) (As := []) (M' := (dt_put M 18 q1)) C Fc_X10 hk_18 mf_X10_forgets rfl ml_X10_83 (m_X10_forgets l _ _ eq1) rfl rfl (by omega) (by decide) (Nat.le_of_ble_eq_true rfl) dX10_image_64 ?_
        refine dz_sub [0] rfl ?_
        exact tX10_image_67 C hr  q1 h
    · refine dz_iload_n (pc := 22) C dX10_image_22 rfl 1 rfl ?_
      refine dz_if_eq (pc := 23) (t := 41) C dX10_image_23 (by decide) h (fun h => ?_) (fun h => ?_)
      · refine dz_aload_n (pc := 41) C dX10_image_41 rfl 0 rfl ?_
        refine dz_getR (pc := 42) (k := 18) (j := 0) C Fc_X10 hk_18 (by decide) (by decide) rfl fl_X10_7 dX10_image_42 ?_
        refine dz_iload_n (pc := 45) C dX10_image_45 rfl 2 rfl ?_
        refine dz_aload_n (pc := 46) C dX10_image_46 rfl 0 rfl ?_
        refine dz_getR (pc := 47) (k := 18) (j := 1) C Fc_X10 hk_18 (by decide) (by decide) rfl fl_X10_13 dX10_image_47 ?_
        refine dz_iload_n (pc := 50) C dX10_image_50 rfl 2 rfl ?_
        refine dz_iald (pc := 51) (k := 18) (j := 1) (n := 1225) (f := (T 1)) C hk_18 (by decide) rfl (dt_rAf _ _ _ _) dX10_image_51 h (fun a2 h => ?_)
        refine dz_iast (pc := 52) (k := 18) (j := 0) (n := 1225) (M' := fun a3 => (dt_put M 18 (dt_set T 0 a3 ((T 1) a2)))) C hk_18 (by decide) rfl (fun a3 => (dt_wA _ _ _ _ _ _)) dX10_image_52 h (fun a3 h => ?_)
        exact tX10_image_53 C hr ih x1 x2 (dt_set T 0 a3 ((T 1) a2)) h
      · refine dz_aload_n (pc := 26) C dX10_image_26 rfl 0 rfl ?_
        refine dz_getR (pc := 27) (k := 18) (j := 1) C Fc_X10 hk_18 (by decide) (by decide) rfl fl_X10_13 dX10_image_27 ?_
        refine dz_iload_n (pc := 30) C dX10_image_30 rfl 2 rfl ?_
        refine dz_aload_n (pc := 31) C dX10_image_31 rfl 0 rfl ?_
        refine dz_getR (pc := 32) (k := 18) (j := 0) C Fc_X10 hk_18 (by decide) (by decide) rfl fl_X10_7 dX10_image_32 ?_
        refine dz_iload_n (pc := 35) C dX10_image_35 rfl 2 rfl ?_
        refine dz_iald (pc := 36) (k := 18) (j := 0) (n := 1225) (f := (T 0)) C hk_18 (by decide) rfl (dt_rAf _ _ _ _) dX10_image_36 h (fun a4 h => ?_)
        refine dz_iast (pc := 37) (k := 18) (j := 1) (n := 1225) (M' := fun a5 => (dt_put M 18 (dt_set T 1 a5 ((T 0) a4)))) C hk_18 (by decide) rfl (fun a5 => (dt_wA _ _ _ _ _ _)) dX10_image_37 h (fun a5 h => ?_)
        refine dz_goto (pc := 38) (t := 53) C dX10_image_38 (by decide) ?_
        exact tX10_image_53 C hr ih x1 x2 (dt_set T 1 a5 ((T 0) a4)) h
def fX10_image_13  (x1 : Int32) (T : dt_Ob) : Option (Int32 × dt_Ob) := (fX10_image_15 dt_F x1 (0 : Int32) T)
set_option maxRecDepth 10000 in
set_option maxHeartbeats 4000000 in
theorem tX10_image_13 {G : dt_G} {A : Nat → Prop} {p : Program} {l : Launch} {e : Env} {s : State} {m : MethodId} {args : Array Value} {below : List Frame} {meth : Method} {c : Code} (C : dt_Cx 1 G A p s m args meth c cX10_image 3 RX10) (hr : meth.sig.returnType = (some .boolean)) {M : dt_M} {res : Int32 × dt_Ob}  : ∀ (x1 : Int32) (T : dt_Ob), fX10_image_13 x1 T = some res → dt_At G A p l e (dt_rm 2) s m args below meth c 3 (MQ below (dt_Post G A (some (.int res.1)) (dt_put M 18 res.2)) args s 0 0 A) 13 [(0, .ref (G.1 18 0)), (1, .int x1)] [] (dt_put M 18 T) := by
  intro x1 T h
  unfold fX10_image_13 at h
  refine dz_iconst (pc := 13) (v := (0 : Int32)) C dX10_image_13 (by decide) ?_
  refine dz_istore_n (pc := 14) C dX10_image_14 rfl (by decide) rfl ?_
  refine dz_sub [1, 2, 0] rfl ?_
  exact tX10_image_15 C hr dt_F x1 (0 : Int32) T h
def fX10_image  (x1 : Int32) (T : dt_Ob) : Option (Int32 × dt_Ob) := (if x1 = 0 then (if (T 6 0) = 0 then (some ((0 : Int32), T)) else (fX10_image_13 x1 T)) else (fX10_image_13 x1 T))
set_option maxRecDepth 10000 in
set_option maxHeartbeats 4000000 in
theorem m_X10_image (l : Launch)  (M : dt_M) (T : dt_Ob)  (x1 : Int32) {res : Int32 × dt_Ob} (h : fX10_image x1 T = some res) : dt_Met 1 l yX10_image cX10_image 3 (some .boolean) 2 (fun G => [.ref (G.1 18 0), .int x1]) (dt_put M 18 T) (some (.int res.1)) (dt_put M 18 res.2) := by
  refine dz_enter (lv := fun G => [(0, .ref (G.1 18 0)), (1, .int x1)]) (by decide) (fun _ => rfl) (fun _ => Nat.le_of_ble_eq_true rfl) (fun G A p e s m args below meth c C hr => ?_)
  unfold fX10_image at h
  refine dz_iload_n (pc := 0) C dX10_image_0 rfl 1 rfl ?_
  refine dz_if_ne (pc := 1) (t := 13) C dX10_image_1 (by decide) h (fun h => ?_) (fun h => ?_)
  · exact tX10_image_13 C hr  x1 T h
  · refine dz_aload_n (pc := 4) C dX10_image_4 rfl 0 rfl ?_
    refine dz_getI (pc := 5) (k := 18) (j := 6) (v := (T 6 0)) C Fc_X10 hk_18 (by decide) rfl rfl fl_X10_347 (dt_rA _ _ _ _ _) dX10_image_5 ?_
    refine dz_if_ne (pc := 8) (t := 13) C dX10_image_8 (by decide) h (fun h => ?_) (fun h => ?_)
    · exact tX10_image_13 C hr  x1 T h
    · refine dz_iconst (pc := 11) (v := (0 : Int32)) C dX10_image_11 (by decide) ?_
      cases dt_some h
      exact dz_zret (pc := 12) C hr (Or.inl rfl) dX10_image_12

def fX10_look  (x1 : Int32) (T : dt_Ob) : Option (Int32) := (if x1 = (0 : Int32) then ((dt_ix (0 : Int32) 1225).bind fun a2 => (some ((T 0) a2))) else (if x1 = (1 : Int32) then ((dt_ix (1 : Int32) 1225).bind fun a4 => (some ((T 0) a4))) else (if x1 = (2 : Int32) then ((fX10_inTower T).bind fun q6 => (some q6)) else (if x1 = (3 : Int32) then ((dt_ix (2 : Int32) 1225).bind fun a8 => (some ((T 0) a8))) else (if x1 = (4 : Int32) then ((dt_ix (3 : Int32) 1225).bind fun a10 => (some ((T 0) a10))) else (if x1 = (5 : Int32) then ((dt_ix (4 : Int32) 1225).bind fun a12 => (some ((T 0) a12))) else (if x1 = (6 : Int32) then ((dt_ix (5 : Int32) 1225).bind fun a14 => (some ((T 0) a14))) else (if x1 = (7 : Int32) then ((dt_ix (7 : Int32) 1225).bind fun a16 => (some ((T 0) a16))) else (if x1 = (8 : Int32) then ((dt_ix (8 : Int32) 1225).bind fun a18 => (some ((T 0) a18))) else (if x1 = (9 : Int32) then (some (T 3 0)) else (if x1 = (10 : Int32) then ((dt_ix (340 : Int32) 1225).bind fun a21 => (some ((T 0) a21))) else (some (-1 : Int32)))))))))))))
set_option maxRecDepth 10000 in
set_option maxHeartbeats 4000000 in
theorem m_X10_look (l : Launch)  (M : dt_M) (T : dt_Ob)  (x1 : Int32) {res : Int32} (h : fX10_look x1 T = some res) : dt_Met 1 l yX10_look cX10_look 2 (some .int) 3 (fun G => [.ref (G.1 18 0), .int x1]) (dt_put M 18 T) (some (.int res)) (dt_put M 18 T) := by
  refine dz_enter (lv := fun G => [(0, .ref (G.1 18 0)), (1, .int x1)]) (by decide) (fun _ => rfl) (fun _ => Nat.le_of_ble_eq_true rfl) (fun G A p e s m args below meth c C hr => ?_)
  unfold fX10_look at h
  refine dz_iload_n (pc := 0) C dX10_look_0 rfl 1 rfl ?_
  by_cases hc1 : x1 = (0 : Int32)
  · have h := dt_ifp h hc1
    refine dz_tsw (pc := 1) (off := 59) (t := 60) C dX10_look_1 (0) (by rw [hc1]; rfl) (by decide) (by decide) rfl (by decide) ?_
    refine dz_aload_n (pc := 60) C dX10_look_60 rfl 0 rfl ?_
    refine dz_getR (pc := 61) (k := 18) (j := 0) C Fc_X10 hk_18 (by decide) (by decide) rfl fl_X10_7 dX10_look_61 ?_
    refine dz_iconst (pc := 64) (v := (0 : Int32)) C dX10_look_64 (by decide) ?_
    refine dz_iald (pc := 65) (k := 18) (j := 0) (n := 1225) (f := (T 0)) C hk_18 (by decide) rfl (dt_rAf _ _ _ _) dX10_look_65 h (fun a2 h => ?_)
    cases dt_some h
    exact dz_iret (pc := 66) C hr dX10_look_66
  have h := dt_iff h hc1
  by_cases hc3 : x1 = (1 : Int32)
  · have h := dt_ifp h hc3
    refine dz_tsw (pc := 1) (off := 66) (t := 67) C dX10_look_1 (1) (by rw [hc3]; rfl) (by decide) (by decide) rfl (by decide) ?_
    refine dz_aload_n (pc := 67) C dX10_look_67 rfl 0 rfl ?_
    refine dz_getR (pc := 68) (k := 18) (j := 0) C Fc_X10 hk_18 (by decide) (by decide) rfl fl_X10_7 dX10_look_68 ?_
    refine dz_iconst (pc := 71) (v := (1 : Int32)) C dX10_look_71 (by decide) ?_
    refine dz_iald (pc := 72) (k := 18) (j := 0) (n := 1225) (f := (T 0)) C hk_18 (by decide) rfl (dt_rAf _ _ _ _) dX10_look_72 h (fun a4 h => ?_)
    cases dt_some h
    exact dz_iret (pc := 73) C hr dX10_look_73
  have h := dt_iff h hc3
  by_cases hc5 : x1 = (2 : Int32)
  · have h := dt_ifp h hc5
    refine dz_tsw (pc := 1) (off := 73) (t := 74) C dX10_look_1 (2) (by rw [hc5]; rfl) (by decide) (by decide) rfl (by decide) ?_
    refine dz_aload_n (pc := 74) C dX10_look_74 rfl 0 rfl ?_
    obtain ⟨q6, eq6, h⟩ := dt_bind h
    refine dz_callVi (pc := 75) (st := []) (k := 18) (As := []) (M' := (dt_put M 18 T)) C Fc_X10 hk_18 mf_X10_inTower rfl ml_X10_298 (m_X10_inTower l _ _ eq6) rfl rfl (by omega) (by decide) (Nat.le_of_ble_eq_true rfl) dX10_look_75 ?_
    cases dt_some h
    exact dz_iret (pc := 78) C hr dX10_look_78
  have h := dt_iff h hc5
  by_cases hc7 : x1 = (3 : Int32)
  · have h := dt_ifp h hc7
    refine dz_tsw (pc := 1) (off := 78) (t := 79) C dX10_look_1 (3) (by rw [hc7]; rfl) (by decide) (by decide) rfl (by decide) ?_
    refine dz_aload_n (pc := 79) C dX10_look_79 rfl 0 rfl ?_
    refine dz_getR (pc := 80) (k := 18) (j := 0) C Fc_X10 hk_18 (by decide) (by decide) rfl fl_X10_7 dX10_look_80 ?_
    refine dz_iconst (pc := 83) (v := (2 : Int32)) C dX10_look_83 (by decide) ?_
    refine dz_iald (pc := 84) (k := 18) (j := 0) (n := 1225) (f := (T 0)) C hk_18 (by decide) rfl (dt_rAf _ _ _ _) dX10_look_84 h (fun a8 h => ?_)
    cases dt_some h
    exact dz_iret (pc := 85) C hr dX10_look_85
  have h := dt_iff h hc7
  by_cases hc9 : x1 = (4 : Int32)
  · have h := dt_ifp h hc9
    refine dz_tsw (pc := 1) (off := 85) (t := 86) C dX10_look_1 (4) (by rw [hc9]; rfl) (by decide) (by decide) rfl (by decide) ?_
    refine dz_aload_n (pc := 86) C dX10_look_86 rfl 0 rfl ?_
    refine dz_getR (pc := 87) (k := 18) (j := 0) C Fc_X10 hk_18 (by decide) (by decide) rfl fl_X10_7 dX10_look_87 ?_
    refine dz_iconst (pc := 90) (v := (3 : Int32)) C dX10_look_90 (by decide) ?_
    refine dz_iald (pc := 91) (k := 18) (j := 0) (n := 1225) (f := (T 0)) C hk_18 (by decide) rfl (dt_rAf _ _ _ _) dX10_look_91 h (fun a10 h => ?_)
    cases dt_some h
    exact dz_iret (pc := 92) C hr dX10_look_92
  have h := dt_iff h hc9
  by_cases hc11 : x1 = (5 : Int32)
  · have h := dt_ifp h hc11
    refine dz_tsw (pc := 1) (off := 92) (t := 93) C dX10_look_1 (5) (by rw [hc11]; rfl) (by decide) (by decide) rfl (by decide) ?_
    refine dz_aload_n (pc := 93) C dX10_look_93 rfl 0 rfl ?_
    refine dz_getR (pc := 94) (k := 18) (j := 0) C Fc_X10 hk_18 (by decide) (by decide) rfl fl_X10_7 dX10_look_94 ?_
    refine dz_iconst (pc := 97) (v := (4 : Int32)) C dX10_look_97 (by decide) ?_
    refine dz_iald (pc := 98) (k := 18) (j := 0) (n := 1225) (f := (T 0)) C hk_18 (by decide) rfl (dt_rAf _ _ _ _) dX10_look_98 h (fun a12 h => ?_)
    cases dt_some h
    exact dz_iret (pc := 99) C hr dX10_look_99
  have h := dt_iff h hc11
  by_cases hc13 : x1 = (6 : Int32)
  · have h := dt_ifp h hc13
    refine dz_tsw (pc := 1) (off := 99) (t := 100) C dX10_look_1 (6) (by rw [hc13]; rfl) (by decide) (by decide) rfl (by decide) ?_
    refine dz_aload_n (pc := 100) C dX10_look_100 rfl 0 rfl ?_
    refine dz_getR (pc := 101) (k := 18) (j := 0) C Fc_X10 hk_18 (by decide) (by decide) rfl fl_X10_7 dX10_look_101 ?_
    refine dz_iconst (pc := 104) (v := (5 : Int32)) C dX10_look_104 (by decide) ?_
    refine dz_iald (pc := 105) (k := 18) (j := 0) (n := 1225) (f := (T 0)) C hk_18 (by decide) rfl (dt_rAf _ _ _ _) dX10_look_105 h (fun a14 h => ?_)
    cases dt_some h
    exact dz_iret (pc := 106) C hr dX10_look_106
  have h := dt_iff h hc13
  by_cases hc15 : x1 = (7 : Int32)
  · have h := dt_ifp h hc15
    refine dz_tsw (pc := 1) (off := 106) (t := 107) C dX10_look_1 (7) (by rw [hc15]; rfl) (by decide) (by decide) rfl (by decide) ?_
    refine dz_aload_n (pc := 107) C dX10_look_107 rfl 0 rfl ?_
    refine dz_getR (pc := 108) (k := 18) (j := 0) C Fc_X10 hk_18 (by decide) (by decide) rfl fl_X10_7 dX10_look_108 ?_
    refine dz_bipush (pc := 111) (v := (7 : Int32)) C dX10_look_111 (by decide) ?_
    refine dz_iald (pc := 113) (k := 18) (j := 0) (n := 1225) (f := (T 0)) C hk_18 (by decide) rfl (dt_rAf _ _ _ _) dX10_look_113 h (fun a16 h => ?_)
    cases dt_some h
    exact dz_iret (pc := 114) C hr dX10_look_114
  have h := dt_iff h hc15
  by_cases hc17 : x1 = (8 : Int32)
  · have h := dt_ifp h hc17
    refine dz_tsw (pc := 1) (off := 114) (t := 115) C dX10_look_1 (8) (by rw [hc17]; rfl) (by decide) (by decide) rfl (by decide) ?_
    refine dz_aload_n (pc := 115) C dX10_look_115 rfl 0 rfl ?_
    refine dz_getR (pc := 116) (k := 18) (j := 0) C Fc_X10 hk_18 (by decide) (by decide) rfl fl_X10_7 dX10_look_116 ?_
    refine dz_bipush (pc := 119) (v := (8 : Int32)) C dX10_look_119 (by decide) ?_
    refine dz_iald (pc := 121) (k := 18) (j := 0) (n := 1225) (f := (T 0)) C hk_18 (by decide) rfl (dt_rAf _ _ _ _) dX10_look_121 h (fun a18 h => ?_)
    cases dt_some h
    exact dz_iret (pc := 122) C hr dX10_look_122
  have h := dt_iff h hc17
  by_cases hc19 : x1 = (9 : Int32)
  · have h := dt_ifp h hc19
    refine dz_tsw (pc := 1) (off := 122) (t := 123) C dX10_look_1 (9) (by rw [hc19]; rfl) (by decide) (by decide) rfl (by decide) ?_
    refine dz_aload_n (pc := 123) C dX10_look_123 rfl 0 rfl ?_
    refine dz_getI (pc := 124) (k := 18) (j := 3) (v := (T 3 0)) C Fc_X10 hk_18 (by decide) rfl rfl fl_X10_80 (dt_rA _ _ _ _ _) dX10_look_124 ?_
    cases dt_some h
    exact dz_iret (pc := 127) C hr dX10_look_127
  have h := dt_iff h hc19
  by_cases hc20 : x1 = (10 : Int32)
  · have h := dt_ifp h hc20
    refine dz_tsw (pc := 1) (off := 127) (t := 128) C dX10_look_1 (10) (by rw [hc20]; rfl) (by decide) (by decide) rfl (by decide) ?_
    refine dz_aload_n (pc := 128) C dX10_look_128 rfl 0 rfl ?_
    refine dz_getR (pc := 129) (k := 18) (j := 0) C Fc_X10 hk_18 (by decide) (by decide) rfl fl_X10_7 dX10_look_129 ?_
    refine dz_sipush (pc := 132) (v := (340 : Int32)) C dX10_look_132 (by decide) ?_
    refine dz_iald (pc := 135) (k := 18) (j := 0) (n := 1225) (f := (T 0)) C hk_18 (by decide) rfl (dt_rAf _ _ _ _) dX10_look_135 h (fun a21 h => ?_)
    cases dt_some h
    exact dz_iret (pc := 136) C hr dX10_look_136
  have h := dt_iff h hc20
  refine dz_tswO (pc := 1) (t := 137) C dX10_look_1 (by have z0 := lv_neT hc1 (a := 0) rfl; have z1 := lv_neT hc3 (a := 1) rfl; have z2 := lv_neT hc5 (a := 2) rfl; have z3 := lv_neT hc7 (a := 3) rfl; have z4 := lv_neT hc9 (a := 4) rfl; have z5 := lv_neT hc11 (a := 5) rfl; have z6 := lv_neT hc13 (a := 6) rfl; have z7 := lv_neT hc15 (a := 7) rfl; have z8 := lv_neT hc17 (a := 8) rfl; have z9 := lv_neT hc19 (a := 9) rfl; have z10 := lv_neT hc20 (a := 10) rfl; omega) (by decide) ?_
  refine dz_iconst (pc := 137) (v := (-1 : Int32)) C dX10_look_137 (by decide) ?_
  cases dt_some h
  exact dz_iret (pc := 138) C hr dX10_look_138
