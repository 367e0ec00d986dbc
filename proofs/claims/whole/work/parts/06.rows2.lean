/-! ===== rows: switches, Math, copies, calls, returns, a method's entry ===== -/
theorem dt_wMax : Cond.static Lib.Math.max.name ∈ dt_tbl ∧ Cond.initialized "java/lang/Math" ∈ dt_tbl ∧ Cond.code Lib.Math.max.name Lib.Math.max.code 2 (some .int) ∈ dt_tbl := ⟨dt_tin (by decide +kernel) rfl, dt_tin (by decide +kernel) rfl, dt_tin (by decide +kernel) rfl⟩
theorem dt_wMin : Cond.static Lib.Math.min.name ∈ dt_tbl ∧ Cond.initialized "java/lang/Math" ∈ dt_tbl ∧ Cond.code Lib.Math.min.name Lib.Math.min.code 2 (some .int) ∈ dt_tbl := ⟨dt_tin (by decide +kernel) rfl, dt_tin (by decide +kernel) rfl, dt_tin (by decide +kernel) rfl⟩
theorem dt_wAbs : Cond.static Lib.Math.abs.name ∈ dt_tbl ∧ Cond.initialized "java/lang/Math" ∈ dt_tbl ∧ Cond.code Lib.Math.abs.name Lib.Math.abs.code 1 (some .int) ∈ dt_tbl := ⟨dt_tin (by decide +kernel) rfl, dt_tin (by decide +kernel) rfl, dt_tin (by decide +kernel) rfl⟩
theorem dt_wMaxL : Cond.static Lib.MathLoose.max_long.x ∈ dt_tbl ∧ Cond.initialized "java/lang/Math" ∈ dt_tbl ∧ Cond.code Lib.MathLoose.max_long.x Lib.MathLoose.max_long.code 4 (some .long) ∈ dt_tbl := ⟨dt_tin (by decide +kernel) rfl, dt_tin (by decide +kernel) rfl, dt_tin (by decide +kernel) rfl⟩
theorem dt_wCopy : Cond.native arraycopyName ∈ dt_tbl ∧ Cond.static arraycopyName ∈ dt_tbl ∧ Cond.initialized "java/lang/System" ∈ dt_tbl := ⟨dt_tin (by decide +kernel) rfl, dt_tin (by decide +kernel) rfl, dt_tin (by decide +kernel) rfl⟩
section ROWS2
variable {nb : Nat} {G : dt_G} {A : Nat → Prop} {p : Program} {l : Launch} {e : Env} {R : Room} {s : State} {m : MethodId} {args : Array Value} {below : List Frame} {meth : Method} {c : Code} {cc : ByteArray} {nL : Nat} {own : String} {Q : State → Prop} {pc : Nat} {lv lv' : List (Nat × Value)} {st : List Value} {M M' : dt_M} {hh : Nat}
theorem dz_tsw (C : dt_Cx nb G A p s m args meth c cc nL own) {dflt lo hi : Int} {offs : Array Int} {len : Nat} {x : Int32} {off : Int} {t : Nat} (d : decode cc pc = .ok (.tableswitch dflt lo hi offs, len)) (v : Int) (hv : x.toInt = v) (h1 : ¬ v < lo) (h2 : ¬ hi < v) (ho : offs[(v - lo).toNat]? = some off) (ht : (pc : Int) + off = (t : Int)) (k : dt_At G A p l e R s m args below meth c nL Q t lv st M) : dt_At G A p l e R s m args below meth c nL Q pc lv (.int x :: st) M :=
  fun H locs ls hl hM hS => lv_tableIn C.1.1 C.1.2.1 d (by rw [hv]; exact h1) (by rw [hv]; exact h2) (by rw [hv]; exact ho) ht (k H locs ls hl hM hS)
theorem dz_tswO (C : dt_Cx nb G A p s m args meth c cc nL own) {dflt lo hi : Int} {offs : Array Int} {len : Nat} {x : Int32} {t : Nat} (d : decode cc pc = .ok (.tableswitch dflt lo hi offs, len)) (h : x.toInt < lo ∨ hi < x.toInt) (ht : (pc : Int) + dflt = (t : Int)) (k : dt_At G A p l e R s m args below meth c nL Q t lv st M) : dt_At G A p l e R s m args below meth c nL Q pc lv (.int x :: st) M :=
  fun H locs ls hl hM hS => lv_tableOut C.1.1 C.1.2.1 d h ht (k H locs ls hl hM hS)
theorem dz_lsw (C : dt_Cx nb G A p s m args meth c cc nL own) {dflt : Int} {ps : Array (Int × Int)} {len : Nat} {x : Int32} {off : Int} {t : Nat} (d : decode cc pc = .ok (.lookupswitch dflt ps, len)) (hp : (ps.toList.zip (ps.toList.drop 1)).all (fun (a, next) => a.1 < next.1) = true) (ho : Op.lookupswitch.offset ps.toList dflt x.toInt = off) (ht : (pc : Int) + off = (t : Int)) (k : dt_At G A p l e R s m args below meth c nL Q t lv st M) : dt_At G A p l e R s m args below meth c nL Q pc lv (.int x :: st) M :=
  fun H locs ls hl hM hS => lv_lookup C.1.1 C.1.2.1 d hp ho ht (k H locs ls hl hM hS)
theorem dz_max (C : dt_Cx nb G A p s m args meth c cc nL own) {i : Nat} {x y : Int32} (w : Cond.methodLink own i Lib.Math.max.name ∈ dt_tbl) (h1 : 1 ≤ hh) (hs : (st.map fun v => v.category).sum ≤ 8) (d : decode cc pc = .ok (.invokestatic i, 3)) (k : dt_At G A p l e (dt_rm hh) s m args below meth c nL Q (pc + 3) lv (.int (if x < y then y else x) :: st) M) : dt_At G A p l e (dt_rm hh) s m args below meth c nL Q pc lv (.int y :: .int x :: st) M :=
  fun H locs ls hl hM hS => va_mmax C.1.1 C.1.2.1 (C.1.2.2.1.trans hl.1.symm) C.1.2.2.2.1 (C.1.2.2.2.2 _ w) (C.1.2.2.2.2 _ dt_wMax.1) (C.1.2.2.2.2 _ dt_wMax.2.1) (C.1.2.2.2.2 _ dt_wMax.2.2) h1 (by show _ ≤ 40 * hh; omega) (Nat.zero_le _) (Nat.zero_le _) d (k H locs ls hl hM hS)
theorem dz_min (C : dt_Cx nb G A p s m args meth c cc nL own) {i : Nat} {x y : Int32} (w : Cond.methodLink own i Lib.Math.min.name ∈ dt_tbl) (h1 : 1 ≤ hh) (hs : (st.map fun v => v.category).sum ≤ 8) (d : decode cc pc = .ok (.invokestatic i, 3)) (k : dt_At G A p l e (dt_rm hh) s m args below meth c nL Q (pc + 3) lv (.int (if y < x then y else x) :: st) M) : dt_At G A p l e (dt_rm hh) s m args below meth c nL Q pc lv (.int y :: .int x :: st) M :=
  fun H locs ls hl hM hS => va_mmin C.1.1 C.1.2.1 (C.1.2.2.1.trans hl.1.symm) C.1.2.2.2.1 (C.1.2.2.2.2 _ w) (C.1.2.2.2.2 _ dt_wMin.1) (C.1.2.2.2.2 _ dt_wMin.2.1) (C.1.2.2.2.2 _ dt_wMin.2.2) h1 (by show _ ≤ 40 * hh; omega) (Nat.zero_le _) (Nat.zero_le _) d (k H locs ls hl hM hS)
theorem dz_abs (C : dt_Cx nb G A p s m args meth c cc nL own) {i : Nat} {x : Int32} (w : Cond.methodLink own i Lib.Math.abs.name ∈ dt_tbl) (h1 : 1 ≤ hh) (hs : (st.map fun v => v.category).sum ≤ 8) (d : decode cc pc = .ok (.invokestatic i, 3)) (k : dt_At G A p l e (dt_rm hh) s m args below meth c nL Q (pc + 3) lv (.int (if 0 ≤ x then x else 0 - x) :: st) M) : dt_At G A p l e (dt_rm hh) s m args below meth c nL Q pc lv (.int x :: st) M :=
  fun H locs ls hl hM hS => va_mabs C.1.1 C.1.2.1 (C.1.2.2.1.trans hl.1.symm) C.1.2.2.2.1 (C.1.2.2.2.2 _ w) (C.1.2.2.2.2 _ dt_wAbs.1) (C.1.2.2.2.2 _ dt_wAbs.2.1) (C.1.2.2.2.2 _ dt_wAbs.2.2) h1 (by show _ ≤ 40 * hh; omega) (Nat.zero_le _) (Nat.zero_le _) d (k H locs ls hl hM hS)
theorem dz_maxL (C : dt_Cx nb G A p s m args meth c cc nL own) {i : Nat} {x y : Int64} (w : Cond.methodLink own i Lib.MathLoose.max_long.x ∈ dt_tbl) (h1 : 1 ≤ hh) (hs : (st.map fun v => v.category).sum ≤ 8) (d : decode cc pc = .ok (.invokestatic i, 3)) (k : dt_At G A p l e (dt_rm hh) s m args below meth c nL Q (pc + 3) lv (.long (if y < x then x else y) :: st) M) : dt_At G A p l e (dt_rm hh) s m args below meth c nL Q pc lv (.long y :: .long x :: st) M :=
  fun H locs ls hl hM hS => va_mmax_long C.1.1 C.1.2.1 (C.1.2.2.1.trans hl.1.symm) C.1.2.2.2.1 (C.1.2.2.2.2 _ w) (C.1.2.2.2.2 _ dt_wMaxL.1) (C.1.2.2.2.2 _ dt_wMaxL.2.1) (C.1.2.2.2.2 _ dt_wMaxL.2.2) h1 (by show _ ≤ 40 * hh; omega) (Nat.zero_le _) (Nat.zero_le _) d (k H locs ls hl hM hS)
/-- n ints of one array into another -/
theorem dz_copy (C : dt_Cx nb G A p s m args meth c cc nL own) {i k0 j0 c0 n0 k1 j1 c1 n1 : Nat} {sp dp n : Int32} {f g : Nat → Int32} (w : Cond.methodLink own i arraycopyName ∈ dt_tbl) (hk0 : k0 < 18 + nb ∧ dt_c k0 = c0) (hj0 : j0 < 46) (ht0 : dt_k c0 j0 = (1, n0)) (hf : M k0 j0 = f) (hk1 : k1 < 18 + nb ∧ dt_c k1 = c1) (hj1 : j1 < 46) (ht1 : dt_k c1 j1 = (1, n1)) (hg : M k1 j1 = g) (hn : ¬ sp < 0 ∧ ¬ dp < 0 ∧ ¬ n < 0 ∧ sp.toNatClampNeg + n.toNatClampNeg ≤ n0 ∧ dp.toNatClampNeg + n.toNatClampNeg ≤ n1) (h1 : 2 ≤ hh) (hs : (st.map fun v => v.category).sum ≤ 8) (hM' : dt_put M k1 (dt_setA (M k1) j1 (va_cpy f g sp.toNatClampNeg dp.toNatClampNeg n.toNatClampNeg)) = M') (d : decode cc pc = .ok (.invokestatic i, 3)) (k : dt_At G A p l e (dt_rm hh) s m args below meth c nL Q (pc + 3) lv st M') : dt_At G A p l e (dt_rm hh) s m args below meth c nL Q pc lv (.int n :: .int dp :: .ref (G.1 k1 (j1 + 1)) :: .int sp :: .ref (G.1 k0 (j0 + 1)) :: st) M :=
  fun H locs ls hl hM hS => by
    obtain ⟨q0, hq0⟩ := dt_inA (Nat.lt_of_lt_of_le hk0.1 C.2.2.2.2.1) hj0 (dt_isA_of hk0.2 ht0 (Or.inl rfl))
    obtain ⟨q1, hq1⟩ := dt_inA (Nat.lt_of_lt_of_le hk1.1 C.2.2.2.2.1) hj1 (dt_isA_of hk1.2 ht1 (Or.inl rfl))
    have he0 := dt_at (G := G) (M := M) hq0
    have he1 := dt_at (G := G) (M := M) hq1
    rw [dt_cellA] at he0 he1
    unfold dt_arr at he0 he1
    rw [hk0.2, ht0, if_pos rfl, hf] at he0
    rw [hk1.2, ht1, if_pos rfl, hg] at he1
    have hw : nativeFrameWords "java/lang/System" "arraycopy" 5 + 11 ≤ 72 := by decide +kernel
    refine va_copyi C.1.1 C.1.2.1 (C.1.2.2.1.trans hl.1.symm) C.1.2.2.2.1 (C.1.2.2.2.2 _ w) (C.1.2.2.2.2 _ dt_wCopy.1) (C.1.2.2.2.2 _ dt_wCopy.2.1) (C.1.2.2.2.2 _ dt_wCopy.2.2) C.2.1.1 hM (dt_D C.2.2.1) hS q0 q1 0 0 he0 he1 rfl rfl rfl hn.1 hn.2.1 hn.2.2.1 hn.2.2.2.1 hn.2.2.2.2 (fun _ _ => rfl) (by show 1 ≤ hh; omega) (by show _ ≤ 40 * hh; omega) d (fun H1 locs1 hP1 _ hS1 => k H1 locs1 ls hl ?_ hS1)
    rw [dt_wsA C.2.2.2.2.2 hq1 (by rw [hk1.2, ht1]; exact Nat.one_ne_zero) hM' (by unfold dt_arr; rw [hk1.2, ht1, if_pos rfl, ← hM', dt_put_s, dt_setA_s])] at hP1
    exact hP1
theorem dz_run {r : Option Value} {H : Heap} {locs : List Loc} {ls : Array Slot} {st0 : List Value} {a : Array Value} (hr : va_Run p l e R s m args below meth c H locs 0 0 0 0 (F0 m pc ls st0) st (dt_Post G A r M' a) A) (hS : va_S A s.heap H locs)
    (kk : ∀ (H1 : Heap) (locs1 : List Loc), va_P G.2.1 vwCl (dt_ws G M') H1 → va_S A s.heap H1 locs1 → W p l e R s m args below meth c H1 locs1 0 0 Q (F0 m (pc + 3) ls (r.toList ++ st))) : W p l e R s m args below meth c H locs 0 0 Q (F0 m pc ls st0) := by
  intro T hT X
  obtain ⟨v, st₀, t, T', L, h0, X', hL, e1, e2, ⟨hv, hp, hz, hk⟩, st1⟩ := hr T hT X
  cases hv
  rw [h0] at hz hk
  obtain ⟨t2, a1, b1⟩ := kk T'.heap (locs ++ L) (by rw [e1]; exact hp)
    ⟨Nat.le_trans hS.1 (by rw [e1]; exact hz), fun q h1 h2 => by rw [e1, hk q (Nat.lt_of_lt_of_le h1 hS.1) h2]; exact hS.2.1 q h1 h2, fun q hq => by
      rcases List.mem_append.mp hq with h | h
      · exact hS.2.2 q h
      · exact hL q h⟩ T' rfl X'
  exact ⟨t2, st1 t2 a1, b1⟩
theorem dt_preOf (hK : dt_K G A s) {H : Heap} {locs : List Loc} (hM : va_P G.2.1 vwCl (dt_ws G M) H) (hS : va_S A s.heap H locs) (av : List Value) : ∀ U : State, U.heap = H → s.WarmedH U.vm → dt_Pre G A av M av.toArray U :=
  fun U hU hW => ⟨rfl, by rw [hU]; exact hM, hK.to hW hU hS.2.1⟩
/-- a call of a method of an object of the system -/
theorem dz_callV (C : dt_Cx nb G A p s m args meth c cc nL own) {y : MethodName} {code : ByteArray} {nc hc n i k ci N : Nat} {ret : Option FieldType} {av : dt_G → List Value} {As : List Value} {r : Option Value} {Cn : String} {T : u_T} {ty : Nat → FieldType} (F : dt_Fc ci Cn T N ty) (hk : k < 18 + nb ∧ dt_c k = ci) (f : dt_mf y code nc ret n) (hy : y.cls = Cn) (w : Cond.methodLink own i y ∈ dt_tbl) (hm : dt_Met nb l y code nc ret hc av M r M') (hav : av G = .ref (G.1 k 0) :: As) (hn : As.length = n) (hlt : hc < hh) (hnc : nc ≤ 21) (hs : (st.map fun v => v.category).sum ≤ 8) (d : decode cc pc = .ok (.invokevirtual i, 3)) (kk : dt_At G A p l e (dt_rm hh) s m args below meth c nL Q (pc + 3) lv (r.toList ++ st) M') : dt_At G A p l e (dt_rm hh) s m args below meth c nL Q pc lv (As.reverse ++ .ref (G.1 k 0) :: st) M :=
  fun H locs ls hl hM hS => by
    have hD := C.2.2.1
    have hmt := hm G A C.2.2.2.2.1 C.2.2.2.2.2 hD
    rw [hav] at hmt
    obtain ⟨q, hq⟩ := dt_in0 (Nat.lt_of_lt_of_le hk.1 C.2.2.2.2.1)
    have he := dt_at (G := G) (M := M) hq
    rw [dt_cell0, hk.2] at he
    have hrecv := va_recv C.2.1.1 hM F.1 he
    refine dz_run (va_runV (As := As) (rest := st) (C := Cn) C.1 hmt ⟨callB_of n C.1.2.2.2.2 (dt_goodIn f.1) rfl rfl rfl (C.1.2.2.2.2 _ f.2.2.2.1) (C.1.2.2.2.2 _ w) f.2.2.2.2 ⟨hlt, by show 8 + (nc + 11) + 40 * hc ≤ 40 * hh; omega⟩, C.1.2.2.2.2 _ f.2.1, by rw [← hy]; exact C.1.2.2.2.2 _ f.2.2.1⟩ ⟨dt_blind, hrecv, dt_preOf C.2.1 hM hS _⟩ rfl hn hl.1 rfl (lv_room hs) d ⟨Nat.le_refl _, Nat.le_refl _⟩) hS (fun H1 locs1 hP1 hS1 => kk H1 locs1 ls hl hP1 hS1)
theorem dz_callS (C : dt_Cx nb G A p s m args meth c cc nL own) {y : MethodName} {code : ByteArray} {nc hc n i : Nat} {ret : Option FieldType} {av : dt_G → List Value} {As : List Value} {r : Option Value} (f : dt_ms y code nc ret n) (w : Cond.methodLink own i y ∈ dt_tbl) (hm : dt_Met nb l y code nc ret hc av M r M') (hav : av G = As) (hn : As.length = n) (hlt : hc < hh) (hnc : nc ≤ 21) (hs : (st.map fun v => v.category).sum ≤ 8) (d : decode cc pc = .ok (.invokestatic i, 3)) (kk : dt_At G A p l e (dt_rm hh) s m args below meth c nL Q (pc + 3) lv (r.toList ++ st) M') : dt_At G A p l e (dt_rm hh) s m args below meth c nL Q pc lv (As.reverse ++ st) M :=
  fun H locs ls hl hM hS => by
    have hD := C.2.2.1
    have hmt := hm G A C.2.2.2.2.1 C.2.2.2.2.2 hD
    rw [hav] at hmt
    refine dz_run (va_runS (As := As) (rest := st) C.1 hmt ⟨callB_of n C.1.2.2.2.2 (dt_goodIn f.1) rfl rfl rfl (C.1.2.2.2.2 _ f.2.2.1) (C.1.2.2.2.2 _ w) f.2.2.2 ⟨hlt, by show 8 + (nc + 11) + 40 * hc ≤ 40 * hh; omega⟩, C.1.2.2.2.2 _ f.2.1⟩ ⟨dt_blind, dt_preOf C.2.1 hM hS _⟩ rfl hn hl.1 rfl (lv_room hs) d ⟨Nat.le_refl _, Nat.le_refl _⟩) hS (fun H1 locs1 hP1 hS1 => kk H1 locs1 ls hl hP1 hS1)
theorem dz_callSN (C : dt_Cx nb G A p s m args meth c cc nL own) {y : MethodName} {code : ByteArray} {nc hc n i : Nat} {ret : Option FieldType} {av : dt_G → List Value} {As : List Value} {r : Option Value} {host : String} (f : dt_ms y code nc ret n) (w : va_Nw (.methodLinkNest own i y host) s) (hm : dt_Met nb l y code nc ret hc av M r M') (hav : av G = As) (hn : As.length = n) (hlt : hc < hh) (hnc : nc ≤ 21) (hs : (st.map fun v => v.category).sum ≤ 8) (d : decode cc pc = .ok (.invokestatic i, 3)) (kk : dt_At G A p l e (dt_rm hh) s m args below meth c nL Q (pc + 3) lv (r.toList ++ st) M') : dt_At G A p l e (dt_rm hh) s m args below meth c nL Q pc lv (As.reverse ++ st) M :=
  fun H locs ls hl hM hS => by
    have hD := C.2.2.1
    have hmt := hm G A C.2.2.2.2.1 C.2.2.2.2.2 hD
    rw [hav] at hmt
    refine dz_run (va_runSN (As := As) (rest := st) C.1 hmt ⟨va_cnB n C.1.2.2.2.2 (dt_goodIn f.1) rfl rfl rfl w (C.1.2.2.2.2 _ f.2.2.1) f.2.2.2 ⟨hlt, by show 8 + (nc + 11) + 40 * hc ≤ 40 * hh; omega⟩, C.1.2.2.2.2 _ f.2.1, trivial⟩ ⟨dt_blind, dt_preOf C.2.1 hM hS _⟩ rfl hn hl.1 rfl (lv_room hs) d ⟨Nat.le_refl _, Nat.le_refl _⟩) hS (fun H1 locs1 hP1 hS1 => kk H1 locs1 ls hl hP1 hS1)
theorem dz_iret (C : dt_Cx nb G A p s m args meth c cc nL own) (hr : meth.sig.returnType = some .int) {v : Int32} (d : decode cc pc = .ok (.ireturn, 1)) : dt_At G A p l e R s m args below meth c nL (MQ below (dt_Post G A (some (.int v)) M) args s 0 0 A) pc lv [.int v] M :=
  fun H locs ls hl hM hS => W.iret C.1.1 C.1.2.1 hr (fun t ht _ => ⟨rfl, by rw [ht]; exact hM, hS.F ht⟩) hS.2.2 d C.2.2.2.1
theorem dz_zret (C : dt_Cx nb G A p s m args meth c cc nL own) (hr : meth.sig.returnType = some .boolean) {v : Int32} (hz : v = 0 ∨ v = 1) (d : decode cc pc = .ok (.ireturn, 1)) : dt_At G A p l e R s m args below meth c nL (MQ below (dt_Post G A (some (.int v)) M) args s 0 0 A) pc lv [.int v] M :=
  fun H locs ls hl hM hS => W.zret C.1.1 C.1.2.1 hr (by rcases hz with rfl | rfl <;> decide) (fun t ht _ => ⟨rfl, by rw [ht]; exact hM, hS.F ht⟩) hS.2.2 d C.2.2.2.1
theorem dz_lret (C : dt_Cx nb G A p s m args meth c cc nL own) (hr : meth.sig.returnType = some .long) {v : Int64} (d : decode cc pc = .ok (.lreturn, 1)) : dt_At G A p l e R s m args below meth c nL (MQ below (dt_Post G A (some (.long v)) M) args s 0 0 A) pc lv [.long v] M :=
  fun H locs ls hl hM hS => W.lret C.1.1 C.1.2.1 hr (fun t ht _ => ⟨rfl, by rw [ht]; exact hM, hS.F ht⟩) hS.2.2 d C.2.2.2.1
theorem dz_vret (C : dt_Cx nb G A p s m args meth c cc nL own) (hr : meth.sig.returnType = none) (d : decode cc pc = .ok (.return_, 1)) : dt_At G A p l e R s m args below meth c nL (MQ below (dt_Post G A none M) args s 0 0 A) pc lv [] M :=
  fun H locs ls hl hM hS => W.vret C.1.1 C.1.2.1 hr (fun t ht _ => ⟨rfl, by rw [ht]; exact hM, hS.F ht⟩) hS.2.2 d C.2.2.2.1
end ROWS2
/-- a method's entry -/
theorem dz_enter {nb : Nat} {l : Launch} {y : MethodName} {code : ByteArray} {nL h : Nat} {ret : Option FieldType} {av : dt_G → List Value} {lv : dt_G → List (Nat × Value)} {M M' : dt_M} {r : Option Value} (hy : plainName y.cls = true) (hlv : ∀ G, lv_args 0 (av G) = lv G) (hn : ∀ G, (lg_sl (av G)).length ≤ nL)
    (body : ∀ (G : dt_G) (A : Nat → Prop) (p : Program) (e : Env) (s : State) (m : MethodId) (args : Array Value) (below : List Frame) (meth : Method) (c : Code), dt_Cx nb G A p s m args meth c code nL y.cls → meth.sig.returnType = ret → dt_At G A p l e (dt_rm h) s m args below meth c nL (MQ below (dt_Post G A r M') args s 0 0 A) 0 (lv G) [] M) : dt_Met nb l y code nL ret h av M r M' := by
  intro G A hN1 hN2 hD
  refine Met.ofW (cc := code) (maxL := nL) (ret := ret) hy rfl ?_
  intro p e s m args below meth c s₁ B hml hv
  obtain ⟨rfl, hP, hK⟩ := hv
  have hts := atoms_spec (ws := dt_wm y code nL ret) B.pre
  have hown : s.vm.findClass y.cls = some m.cls := findClass_of_methodNamed B.named
  have C : dt_Cx nb G A p s m (av G).toArray meth c code nL y.cls := ⟨⟨B.exec, B.bytes, hml, hown, fun w hw => hts w (List.mem_cons_of_mem _ hw)⟩, hK, hD, B.notSynchronized, hN1, hN2⟩
  have hl := lv_entry (av G) (n := nL) (hn G)
  rw [lg_entry_eq]
  rw [hlv G] at hl
  exact body G A p e s m _ below meth c C B.returns _ _ _ hl hP va_S.rf
/-! ===== readings and writings of the memory, by its forms ===== -/
def dt_F : Nat := 2000
def dt_sM (M : dt_M) (k j i : Nat) (v : Int32) : dt_M := dt_put M k (dt_set (M k) j i v)
theorem dt_rA (M : dt_M) (k : Nat) (T : dt_Ob) (j i : Nat) : dt_put M k T k j i = T j i := by rw [dt_put_s]
theorem dt_rAf (M : dt_M) (k : Nat) (T : dt_Ob) (j : Nat) : dt_put M k T k j = T j := by rw [dt_put_s]
theorem dt_rO {M : dt_M} {k o : Nat} (T : dt_Ob) {O : dt_Ob} (h : o ≠ k) (hO : M o = O) (j i : Nat) : dt_put M k T o j i = O j i := by rw [dt_put_n _ _ h, hO]
theorem dt_rOf {M : dt_M} {k o : Nat} (T : dt_Ob) {O : dt_Ob} (h : o ≠ k) (hO : M o = O) (j : Nat) : dt_put M k T o j = O j := by rw [dt_put_n _ _ h, hO]
theorem dt_rBf {M : dt_M} {k o j : Nat} (T : dt_Ob) {B : Nat → Int32} (h : o ≠ k) (hB : M o j = B) : dt_put M k T o j = B := by rw [dt_put_n _ _ h, hB]
theorem dt_wA (M : dt_M) (k : Nat) (T : dt_Ob) (j i : Nat) (v : Int32) : dt_put (dt_put M k T) k (dt_set (dt_put M k T k) j i v) = dt_put M k (dt_set T j i v) := by rw [dt_put_s, dt_put_put]
theorem dt_wAL (M : dt_M) (k : Nat) (T : dt_Ob) (j i : Nat) (v : Int64) : dt_put (dt_put M k T) k (dt_setL (dt_put M k T k) j i v) = dt_put M k (dt_setL T j i v) := by rw [dt_put_s, dt_put_put]
theorem dt_wAA (M : dt_M) (k : Nat) (T : dt_Ob) (j : Nat) (f : Nat → Int32) : dt_put (dt_put M k T) k (dt_setA (dt_put M k T k) j f) = dt_put M k (dt_setA T j f) := by rw [dt_put_s, dt_put_put]
theorem dt_wB (M : dt_M) {k o : Nat} (h : k ≠ o) (P T : dt_Ob) (j i : Nat) (v : Int32) : dt_put (dt_put (dt_put M k P) o T) k (dt_set (dt_put (dt_put M k P) o T k) j i v) = dt_put (dt_put M k (dt_set P j i v)) o T := by
  rw [dt_put_n _ _ h, dt_put_s, dt_put_comm _ _ _ (Ne.symm h), dt_put_put]
theorem dt_wBA (M : dt_M) {k o : Nat} (h : k ≠ o) (P T : dt_Ob) (j : Nat) (f : Nat → Int32) : dt_put (dt_put (dt_put M k P) o T) k (dt_setA (dt_put (dt_put M k P) o T k) j f) = dt_put (dt_put M k (dt_setA P j f)) o T := by
  rw [dt_put_n _ _ h, dt_put_s, dt_put_comm _ _ _ (Ne.symm h), dt_put_put]
theorem dt_ifn {α : Type} {c : Prop} [Decidable c] {x : Option α} {r : α} (h : (if c then x else none) = some r) : c ∧ x = some r := by
  by_cases hc : c
  · rw [if_pos hc] at h; exact ⟨hc, h⟩
  · rw [if_neg hc] at h; cases h
theorem dt_ifp {α : Type} {c : Prop} [Decidable c] {x y : Option α} {r : α} (h : (if c then x else y) = some r) (hc : c) : x = some r := by rw [if_pos hc] at h; exact h
theorem dt_iff {α : Type} {c : Prop} [Decidable c] {x y : Option α} {r : α} (h : (if c then x else y) = some r) (hc : ¬ c) : y = some r := by rw [if_neg hc] at h; exact h
def dt_fill (f : Nat → Int32) (n : Nat) (v : Int32) : Nat → Int32 := fun i => if i < n then v else f i
section ROWS3
variable {nb : Nat} {G : dt_G} {A : Nat → Prop} {p : Program} {l : Launch} {e : Env} {s : State} {m : MethodId} {args : Array Value} {below : List Frame} {meth : Method} {c : Code} {cc : ByteArray} {nL : Nat} {own : String} {Q : State → Prop} {pc : Nat} {lv : List (Nat × Value)} {st : List Value} {M M' : dt_M} {hh : Nat}
theorem dz_callVi (C : dt_Cx nb G A p s m args meth c cc nL own) {y : MethodName} {code : ByteArray} {nc hc n i k ci N : Nat} {ret : Option FieldType} {av : dt_G → List Value} {As : List Value} {r : Int32} {Cn : String} {T : u_T} {ty : Nat → FieldType} (F : dt_Fc ci Cn T N ty) (hk : k < 18 + nb ∧ dt_c k = ci) (f : dt_mf y code nc ret n) (hy : y.cls = Cn) (w : Cond.methodLink own i y ∈ dt_tbl) (hm : dt_Met nb l y code nc ret hc av M (some (.int r)) M') (hav : av G = .ref (G.1 k 0) :: As) (hn : As.length = n) (hlt : hc < hh) (hnc : nc ≤ 21) (hs : (st.map fun v => v.category).sum ≤ 8) (d : decode cc pc = .ok (.invokevirtual i, 3)) (kk : dt_At G A p l e (dt_rm hh) s m args below meth c nL Q (pc + 3) lv (.int r :: st) M') : dt_At G A p l e (dt_rm hh) s m args below meth c nL Q pc lv (As.reverse ++ .ref (G.1 k 0) :: st) M := dz_callV C F hk f hy w hm hav hn hlt hnc hs d kk
theorem dz_callVl (C : dt_Cx nb G A p s m args meth c cc nL own) {y : MethodName} {code : ByteArray} {nc hc n i k ci N : Nat} {ret : Option FieldType} {av : dt_G → List Value} {As : List Value} {r : Int64} {Cn : String} {T : u_T} {ty : Nat → FieldType} (F : dt_Fc ci Cn T N ty) (hk : k < 18 + nb ∧ dt_c k = ci) (f : dt_mf y code nc ret n) (hy : y.cls = Cn) (w : Cond.methodLink own i y ∈ dt_tbl) (hm : dt_Met nb l y code nc ret hc av M (some (.long r)) M') (hav : av G = .ref (G.1 k 0) :: As) (hn : As.length = n) (hlt : hc < hh) (hnc : nc ≤ 21) (hs : (st.map fun v => v.category).sum ≤ 8) (d : decode cc pc = .ok (.invokevirtual i, 3)) (kk : dt_At G A p l e (dt_rm hh) s m args below meth c nL Q (pc + 3) lv (.long r :: st) M') : dt_At G A p l e (dt_rm hh) s m args below meth c nL Q pc lv (As.reverse ++ .ref (G.1 k 0) :: st) M := dz_callV C F hk f hy w hm hav hn hlt hnc hs d kk
theorem dz_callVv (C : dt_Cx nb G A p s m args meth c cc nL own) {y : MethodName} {code : ByteArray} {nc hc n i k ci N : Nat} {ret : Option FieldType} {av : dt_G → List Value} {As : List Value} {Cn : String} {T : u_T} {ty : Nat → FieldType} (F : dt_Fc ci Cn T N ty) (hk : k < 18 + nb ∧ dt_c k = ci) (f : dt_mf y code nc ret n) (hy : y.cls = Cn) (w : Cond.methodLink own i y ∈ dt_tbl) (hm : dt_Met nb l y code nc ret hc av M none M') (hav : av G = .ref (G.1 k 0) :: As) (hn : As.length = n) (hlt : hc < hh) (hnc : nc ≤ 21) (hs : (st.map fun v => v.category).sum ≤ 8) (d : decode cc pc = .ok (.invokevirtual i, 3)) (kk : dt_At G A p l e (dt_rm hh) s m args below meth c nL Q (pc + 3) lv st M') : dt_At G A p l e (dt_rm hh) s m args below meth c nL Q pc lv (As.reverse ++ .ref (G.1 k 0) :: st) M := dz_callV C F hk f hy w hm hav hn hlt hnc hs d kk
theorem dz_callSi (C : dt_Cx nb G A p s m args meth c cc nL own) {y : MethodName} {code : ByteArray} {nc hc n i : Nat} {ret : Option FieldType} {av : dt_G → List Value} {As : List Value} {r : Int32} (f : dt_ms y code nc ret n) (w : Cond.methodLink own i y ∈ dt_tbl) (hm : dt_Met nb l y code nc ret hc av M (some (.int r)) M') (hav : av G = As) (hn : As.length = n) (hlt : hc < hh) (hnc : nc ≤ 21) (hs : (st.map fun v => v.category).sum ≤ 8) (d : decode cc pc = .ok (.invokestatic i, 3)) (kk : dt_At G A p l e (dt_rm hh) s m args below meth c nL Q (pc + 3) lv (.int r :: st) M') : dt_At G A p l e (dt_rm hh) s m args below meth c nL Q pc lv (As.reverse ++ st) M := dz_callS C f w hm hav hn hlt hnc hs d kk
theorem dz_callSl (C : dt_Cx nb G A p s m args meth c cc nL own) {y : MethodName} {code : ByteArray} {nc hc n i : Nat} {ret : Option FieldType} {av : dt_G → List Value} {As : List Value} {r : Int64} (f : dt_ms y code nc ret n) (w : Cond.methodLink own i y ∈ dt_tbl) (hm : dt_Met nb l y code nc ret hc av M (some (.long r)) M') (hav : av G = As) (hn : As.length = n) (hlt : hc < hh) (hnc : nc ≤ 21) (hs : (st.map fun v => v.category).sum ≤ 8) (d : decode cc pc = .ok (.invokestatic i, 3)) (kk : dt_At G A p l e (dt_rm hh) s m args below meth c nL Q (pc + 3) lv (.long r :: st) M') : dt_At G A p l e (dt_rm hh) s m args below meth c nL Q pc lv (As.reverse ++ st) M := dz_callS C f w hm hav hn hlt hnc hs d kk
theorem dz_callSv (C : dt_Cx nb G A p s m args meth c cc nL own) {y : MethodName} {code : ByteArray} {nc hc n i : Nat} {ret : Option FieldType} {av : dt_G → List Value} {As : List Value} (f : dt_ms y code nc ret n) (w : Cond.methodLink own i y ∈ dt_tbl) (hm : dt_Met nb l y code nc ret hc av M none M') (hav : av G = As) (hn : As.length = n) (hlt : hc < hh) (hnc : nc ≤ 21) (hs : (st.map fun v => v.category).sum ≤ 8) (d : decode cc pc = .ok (.invokestatic i, 3)) (kk : dt_At G A p l e (dt_rm hh) s m args below meth c nL Q (pc + 3) lv st M') : dt_At G A p l e (dt_rm hh) s m args below meth c nL Q pc lv (As.reverse ++ st) M := dz_callS C f w hm hav hn hlt hnc hs d kk
theorem dz_callSNi (C : dt_Cx nb G A p s m args meth c cc nL own) {y : MethodName} {code : ByteArray} {nc hc n i : Nat} {ret : Option FieldType} {av : dt_G → List Value} {As : List Value} {r : Int32} {host : String} (f : dt_ms y code nc ret n) (w : va_Nw (.methodLinkNest own i y host) s) (hm : dt_Met nb l y code nc ret hc av M (some (.int r)) M') (hav : av G = As) (hn : As.length = n) (hlt : hc < hh) (hnc : nc ≤ 21) (hs : (st.map fun v => v.category).sum ≤ 8) (d : decode cc pc = .ok (.invokestatic i, 3)) (kk : dt_At G A p l e (dt_rm hh) s m args below meth c nL Q (pc + 3) lv (.int r :: st) M') : dt_At G A p l e (dt_rm hh) s m args below meth c nL Q pc lv (As.reverse ++ st) M := dz_callSN C f w hm hav hn hlt hnc hs d kk
end ROWS3
theorem dt_ix_nI {i n : Nat} (h : i < n) (hn : n < 2 ^ 31) : dt_ix (nI i) n = some i := by
  unfold dt_ix
  have h2 : (nI i).toNatClampNeg = i := nI_clamp (by omega)
  have h3 : ¬ (nI i < 0 ∨ n ≤ (nI i).toNatClampNeg) := by
    rw [h2]
    intro z
    rcases z with z | z
    · exact nI_pos (by omega) z
    · omega
  rw [if_neg h3, h2]
theorem dt_fill_s (f : Nat → Int32) (i : Nat) (v : Int32) : upd (dt_fill f i v) i v = dt_fill f (i + 1) v := by
  funext q
  by_cases h : q = i
  · subst h
    rw [pk_us]
    unfold dt_fill
    rw [if_pos (by omega)]
  · rw [pk_un h]
    unfold dt_fill
    by_cases h2 : q < i
    · rw [if_pos h2, if_pos (by omega)]
    · rw [if_neg h2, if_neg (by omega)]
/-- Arrays.fill(int[], int) -/
theorem m_fill_loop {nb : Nat} {G : dt_G} {A : Nat → Prop} {p : Program} {l : Launch} {e : Env} {s : State} {m : MethodId} {args : Array Value} {below : List Frame} {meth : Method} {c : Code} (C : dt_Cx nb G A p s m args meth c cJ7_fill_53178 4 RJ7) (hr : meth.sig.returnType = none) {k j ci n : Nat} (hk : k < 18 + nb ∧ dt_c k = ci) (hj : j < 46) (ht : dt_k ci j = (1, n)) (hn : n < 2 ^ 31) {M : dt_M} {v : Int32} : ∀ (d i : Nat), i + d = n →
    dt_At G A p l e (dt_rm 1) s m args below meth c 4 (MQ below (dt_Post G A none (dt_put M k (dt_setA (M k) j (dt_fill (M k j) n v)))) args s 0 0 A) 5 [(2, .int (nI i)), (3, .int (nI n)), (0, .ref (G.1 k (j + 1))), (1, .int v)] [] (dt_put M k (dt_setA (M k) j (dt_fill (M k j) i v))) := by
  intro d
  induction d with
  | zero =>
    intro i hi
    have e0 : i = n := by omega
    subst e0
    refine dz_iload_n (pc := 5) C dJ7_fill_53178_5 rfl 0 rfl ?_
    refine dz_iload_n (pc := 6) C dJ7_fill_53178_6 rfl 1 rfl ?_
    refine dz_icmp_ge (pc := 7) (t := 20) (X := some ()) (Y := none) (res := ()) C dJ7_fill_53178_7 (by decide) (if_pos (nI_le (Nat.le_refl _) hn)) (fun _ => ?_) (fun h => by cases h)
    exact dz_vret (pc := 20) C hr dJ7_fill_53178_20
  | succ d ih =>
    intro i hi
    have hlt : i < n := by omega
    refine dz_iload_n (pc := 5) C dJ7_fill_53178_5 rfl 0 rfl ?_
    refine dz_iload_n (pc := 6) C dJ7_fill_53178_6 rfl 1 rfl ?_
    refine dz_icmp_ge (pc := 7) (t := 20) (X := none) (Y := some ()) (res := ()) C dJ7_fill_53178_7 (by decide) (if_neg (nI_ge hlt hn)) (fun h => by cases h) (fun _ => ?_)
    refine dz_aload_n (pc := 10) C dJ7_fill_53178_10 rfl 2 rfl ?_
    refine dz_iload_n (pc := 11) C dJ7_fill_53178_11 rfl 0 rfl ?_
    refine dz_iload_n (pc := 12) C dJ7_fill_53178_12 rfl 3 rfl ?_
    refine dz_iast (pc := 13) (res := i) (g := fun a => some a) (M' := fun a => dt_put M k (dt_setA (M k) j (upd (dt_fill (M k j) i v) a v))) C hk hj ht (fun a => ?_) dJ7_fill_53178_13 (by rw [dt_ix_nI hlt hn]; rfl) (fun a ha => ?_)
    · rw [dt_put_s, dt_put_put]
      unfold dt_set
      rw [dt_setA_s]
      congr 1
      funext j'
      by_cases h : j' = j
      · subst h; rw [dt_setA_s, dt_setA_s]
      · rw [dt_setA_n _ _ h, dt_setA_n _ _ h, dt_setA_n _ _ h]
    · have ea : a = i := Option.some.inj ha
      subst ea
      show dt_At G A p l e (dt_rm 1) s m args below meth c 4 _ 14 _ _ (dt_put M k (dt_setA (M k) j (upd (dt_fill (M k j) a v) a v)))
      rw [dt_fill_s]
      refine dz_iinc (pc := 14) (v := nI (a + 1)) C dJ7_fill_53178_14 0 rfl (nI_succ a).symm (by decide) rfl ?_
      refine dz_goto (pc := 17) (t := 5) C dJ7_fill_53178_17 (by decide) ?_
      exact ih (a + 1) (by omega)
theorem m_fill {nb : Nat} (l : Launch) {k j ci n : Nat} (hk : k < 18 + nb ∧ dt_c k = ci) (hj : j < 46) (ht : dt_k ci j = (1, n)) (hn : n < 2 ^ 31) (M : dt_M) (v : Int32) : dt_Met nb l yJ7_fill_53178 cJ7_fill_53178 4 none 1 (fun G => [.ref (G.1 k (j + 1)), .int v]) M none (dt_put M k (dt_setA (M k) j (dt_fill (M k j) n v))) := by
  refine dz_enter (lv := fun G => [(0, .ref (G.1 k (j + 1))), (1, .int v)]) (by decide) (fun _ => rfl) (fun _ => Nat.le_of_ble_eq_true rfl) (fun G A p e s m args below meth c C hr => ?_)
  refine dz_iconst (pc := 0) (v := 0) C dJ7_fill_53178_0 (by decide) ?_
  refine dz_istore_n (pc := 1) C dJ7_fill_53178_1 rfl (by decide) rfl ?_
  refine dz_aload_n (pc := 2) C dJ7_fill_53178_2 rfl 1 rfl ?_
  refine dz_alen (pc := 3) (v := nI n) C hk hj ht rfl rfl dJ7_fill_53178_3 ?_
  refine dz_istore_n (pc := 4) C dJ7_fill_53178_4 rfl (by decide) rfl ?_
  refine dz_sub [1, 0, 2, 3] rfl ?_
  have z := m_fill_loop (l := l) (e := e) (below := below) C hr hk hj ht hn (M := M) (v := v) n 0 (Nat.zero_add n)
  have e0 : dt_put M k (dt_setA (M k) j (dt_fill (M k j) 0 v)) = M := by
    have e1 : dt_setA (M k) j (dt_fill (M k j) 0 v) = M k := by
      funext j'
      by_cases h : j' = j
      · subst h
        rw [dt_setA_s]
        funext q
        unfold dt_fill
        rw [if_neg (by omega)]
      · rw [dt_setA_n _ _ h]
    rw [e1, dt_put_self]
  rw [e0, nI_0] at z
  exact z
