/-! ===== String constants: length, charAt, indexOf ===== -/
def dt_sln (n : Nat) : Nat := (dt_sb.getD n []).length
def dt_slen (n : Nat) : Int32 := nI (dt_sln n)
def dt_sch (n a : Nat) : Int32 := (dt_sb.getD n []).getD a 0
def dt_ixF (c : Int32) : List Int32 → Nat → Int32
  | [], _ => -1
  | b :: r, k => if b = c then nI k else dt_ixF c r (k + 1)
def dt_six (n : Nat) (c : Int32) : Int32 := if c < 0 then -1 else if 255 < c then -1 else dt_ixF c.toInt8.toInt32 (dt_sb.getD n []) 0
theorem dt_sn_len : ∀ n, n < 14 → dt_sn.getD n 0 = dt_sln n ∧ 0 < dt_sln n ∧ dt_sln n < 100 := by decide +kernel
theorem dt_sb_char : ∀ n, n < 14 → ∀ a, a < 62 → (((dt_sch n a) &&& 255).toUInt32 % 65536).toInt32 = dt_sch n a ∧ narrow .char (.int (dt_sch n a)) = .int (dt_sch n a) := by decide +kernel
theorem dt_sln_62 : ∀ n, n < 14 → dt_sln n ≤ 62 := by decide +kernel
theorem wf_CS : Cond.fieldLink RJ0 38 "java/lang/String" "COMPACT_STRINGS" "Z" ∈ dt_tbl := dt_tin (by decide +kernel) rfl
theorem wf_val : Cond.fieldLink RJ0 9 "java/lang/String" "value" "[B" ∈ dt_tbl := dt_tin (by decide +kernel) rfl
theorem wf_cod : Cond.fieldLink RJ0 15 "java/lang/String" "coder" "B" ∈ dt_tbl := dt_tin (by decide +kernel) rfl
theorem wf_SI : Cond.fieldLink RJ0 1053 "jdk/internal/util/Preconditions" "SIOOBE_FORMATTER" "Ljava/util/function/BiFunction;" ∈ dt_tbl := dt_tin (by decide +kernel) rfl
section ROWS9
variable {nb : Nat} {G : dt_G} {A : Nat → Prop} {p : Program} {l : Launch} {e : Env} {R : Room} {s : State} {m : MethodId} {args : Array Value} {below : List Frame} {meth : Method} {c : Code} {cc : ByteArray} {nL : Nat} {own : String} {Q : State → Prop} {pc : Nat} {lv : List (Nat × Value)} {st : List Value} {M M' : dt_M} {hh n : Nat}
theorem dz_gets (C : dt_Cx nb G A p s m args meth c cc nL own) {i : Nat} (w : Cond.fieldLink own i "java/lang/String" "COMPACT_STRINGS" "Z" ∈ dt_tbl) (d : decode cc pc = .ok (.getstatic i, 3)) (k : dt_At G A p l e R s m args below meth c nL Q (pc + 3) lv (.int 1 :: st) M) : dt_At G A p l e R s m args below meth c nL Q pc lv st M :=
  fun H locs ls hl hM hS => va_gets C.1.1 C.1.2.1 C.2.1.2.2.2.2.1 hS C.1.2.2.2.1 (C.1.2.2.2.2 _ w) (fun _ h => h) d (k H locs ls hl hM hS)
theorem dz_getsQ (C : dt_Cx nb G A p s m args meth c cc nL own) {i : Nat} (w : Cond.fieldLink own i "jdk/internal/util/Preconditions" "SIOOBE_FORMATTER" "Ljava/util/function/BiFunction;" ∈ dt_tbl) (d : decode cc pc = .ok (.getstatic i, 3)) (k : ∀ v : Value, v.category = 1 → dt_At G A p l e R s m args below meth c nL Q (pc + 3) lv (v :: st) M) : dt_At G A p l e R s m args below meth c nL Q pc lv st M :=
  fun H locs ls hl hM hS => by
    rcases C.2.1.2.2.2.2.2 with z | ⟨t, z⟩
    · exact va_gets C.1.1 C.1.2.1 z hS C.1.2.2.2.1 (C.1.2.2.2.2 _ w) (fun _ h => h) d (k .null rfl H locs ls hl hM hS)
    · exact va_gets C.1.1 C.1.2.1 z hS C.1.2.2.2.1 (C.1.2.2.2.2 _ w) (fun _ h => h) d (k (.ref t) rfl H locs ls hl hM hS)
theorem dz_sgetC (C : dt_Cx nb G A p s m args meth c cc nL own) (hn : n < 14) {i : Nat} (w : Cond.fieldLink own i "java/lang/String" "coder" "B" ∈ dt_tbl) (d : decode cc pc = .ok (.getfield i, 3)) (k : dt_At G A p l e R s m args below meth c nL Q (pc + 3) lv (.int 0 :: st) M) : dt_At G A p l e R s m args below meth c nL Q pc lv (.ref (G.2.2.2.1 n) :: st) M :=
  fun H locs ls hl hM hS => vk_getf C.1.1 C.1.2.1 (C.2.1.2.1.1 n hn).2.1 hS C.1.2.2.2.1 (C.1.2.2.2.2 _ w) (fun _ h => h) d (k H locs ls hl hM hS)
theorem dz_sgetV (C : dt_Cx nb G A p s m args meth c cc nL own) (hn : n < 14) {i : Nat} (w : Cond.fieldLink own i "java/lang/String" "value" "[B" ∈ dt_tbl) (d : decode cc pc = .ok (.getfield i, 3)) (k : dt_At G A p l e R s m args below meth c nL Q (pc + 3) lv (.ref (G.2.2.2.2 n) :: st) M) : dt_At G A p l e R s m args below meth c nL Q pc lv (.ref (G.2.2.2.1 n) :: st) M :=
  fun H locs ls hl hM hS => vk_getf C.1.1 C.1.2.1 (C.2.1.2.1.1 n hn).2.2.1 hS C.1.2.2.2.1 (C.1.2.2.2.2 _ w) (fun _ h => h) d (k H locs ls hl hM hS)
theorem dz_tlen (C : dt_Cx nb G A p s m args meth c cc nL own) (hn : n < 14) (d : decode cc pc = .ok (.arraylength, 1)) (k : dt_At G A p l e R s m args below meth c nL Q (pc + 1) lv (.int (dt_slen n) :: st) M) : dt_At G A p l e R s m args below meth c nL Q pc lv (.ref (G.2.2.2.2 n) :: st) M :=
  fun H locs ls hl hM hS => va_tlen C.1.1 C.1.2.1 (C.2.1.2.1.1 n hn).2.2.2 hS (by rw [(dt_sn_len n hn).1]; rfl) d (k H locs ls hl hM hS)
theorem dz_tb (C : dt_Cx nb G A p s m args meth c cc nL own) (hn : n < 14) {a : Nat} (ha : a < dt_sln n) (d : decode cc pc = .ok (.baload, 1)) (k : dt_At G A p l e R s m args below meth c nL Q (pc + 1) lv (.int (dt_sch n a) :: st) M) : dt_At G A p l e R s m args below meth c nL Q pc lv (.int (nI a) :: .ref (G.2.2.2.2 n) :: st) M :=
  fun H locs ls hl hM hS => by
    have h1 := dt_sn_len n hn
    refine va_tb C.1.1 C.1.2.1 (C.2.1.2.1.1 n hn).2.2.2 hS (i := nI a) (by rw [h1.1]; exact vp_in_nI ha (by omega)) (v := .int (dt_sch n a)) ?_ d (k H locs ls hl hM hS)
    rw [nI_clamp (by omega)]
    rfl
theorem dz_callVS (C : dt_Cx nb G A p s m args meth c cc nL own) (hn : n < 14) {y : MethodName} {code : ByteArray} {nc hc na i : Nat} {ret : Option FieldType} {av : dt_G → List Value} {As : List Value} {r : Int32} (f : dt_mf y code nc ret na) (hy : y.cls = "java/lang/String") (w : Cond.methodLink own i y ∈ dt_tbl) (hm : dt_Met nb l y code nc ret hc av M (some (.int r)) M) (hav : av G = .ref (G.2.2.2.1 n) :: As) (hna : As.length = na) (hlt : hc < hh) (hnc : nc ≤ 21) (hs : (st.map fun v => v.category).sum ≤ 8) (d : decode cc pc = .ok (.invokevirtual i, 3)) (kk : dt_At G A p l e (dt_rm hh) s m args below meth c nL Q (pc + 3) lv (.int r :: st) M) : dt_At G A p l e (dt_rm hh) s m args below meth c nL Q pc lv (As.reverse ++ .ref (G.2.2.2.1 n) :: st) M :=
  fun H locs ls hl hM hS => by
    have hD := C.2.2.1
    have hmt := hm G A C.2.2.2.2.1 C.2.2.2.2.2 hD
    rw [hav] at hmt
    have hrecv := vk_recv C.2.1.2.1 hn hS
    refine dz_run (va_runV (As := As) (rest := st) (C := "java/lang/String") C.1 hmt ⟨callB_of na C.1.2.2.2.2 (dt_goodIn f.1) rfl rfl rfl (C.1.2.2.2.2 _ f.2.2.2.1) (C.1.2.2.2.2 _ w) f.2.2.2.2 ⟨hlt, by show 8 + (nc + 11) + 40 * hc ≤ 40 * hh; omega⟩, C.1.2.2.2.2 _ f.2.1, by rw [← hy]; exact C.1.2.2.2.2 _ f.2.2.1⟩ ⟨dt_blind, hrecv, dt_preOf C.2.1 hM hS _⟩ rfl hna hl.1 rfl (lv_room hs) d ⟨Nat.le_refl _, Nat.le_refl _⟩) hS (fun H1 locs1 hP1 hS1 => kk H1 locs1 ls hl hP1 hS1)
theorem dz_nret (C : dt_Cx nb G A p s m args meth c cc nL own) {ty : FieldType} (hr : meth.sig.returnType = some ty) {v : Int32} (hz : narrow ty (.int v) = .int v) (d : decode cc pc = .ok (.ireturn, 1)) : dt_At G A p l e R s m args below meth c nL (MQ below (dt_Post G A (some (.int v)) M) args s 0 0 A) pc lv [.int v] M :=
  fun H locs ls hl hM hS => W.zret C.1.1 C.1.2.1 hr hz (fun t ht _ => ⟨rfl, by rw [ht]; exact hM, hS.F ht⟩) hS.2.2 d C.2.2.2.1
theorem dz_pop' (C : dt_Cx nb G A p s m args meth c cc nL own) {a : Value} (d : decode cc pc = .ok (.pop, 1)) (ha : a.category = 1) (k : dt_At G A p l e R s m args below meth c nL Q (pc + 1) lv st M) : dt_At G A p l e R s m args below meth c nL Q pc lv (a :: st) M :=
  fun H locs ls hl hM hS => lv_pop C.1.1 C.1.2.1 d ha (k H locs ls hl hM hS)
end ROWS9
theorem m_coder {nb : Nat} (l : Launch) {n : Nat} (hn : n < 14) (M : dt_M) : dt_Met nb l yJ0_coder_7d493 cJ0_coder_7d493 1 (some .byte) 1 (fun G => [.ref (G.2.2.2.1 n)]) M (some (.int 0)) M := by
  refine dz_enter (lv := fun G => [(0, .ref (G.2.2.2.1 n))]) (by decide) (fun _ => rfl) (fun _ => Nat.le_of_ble_eq_true rfl) (fun G A p e s m args below meth c C hr => ?_)
  refine dz_gets (pc := 0) C wf_CS dJ0_coder_7d493_0 ?_
  refine dz_if_eq (pc := 3) (t := 13) (X := none) (Y := some ()) (res := ()) C dJ0_coder_7d493_3 (by decide) (by decide) (fun h => by cases h) (fun _ => ?_)
  refine dz_aload_n (pc := 6) C dJ0_coder_7d493_6 rfl 0 rfl ?_
  refine dz_sgetC (pc := 7) C hn wf_cod dJ0_coder_7d493_7 ?_
  refine dz_goto (pc := 10) (t := 14) C dJ0_coder_7d493_10 (by decide) ?_
  exact dz_nret (pc := 14) C hr (by decide) dJ0_coder_7d493_14
theorem m_isLatin1 {nb : Nat} (l : Launch) {n : Nat} (hn : n < 14) (M : dt_M) : dt_Met nb l yJ0_isLatin1_aae02 cJ0_isLatin1_aae02 1 (some .boolean) 1 (fun G => [.ref (G.2.2.2.1 n)]) M (some (.int 1)) M := by
  refine dz_enter (lv := fun G => [(0, .ref (G.2.2.2.1 n))]) (by decide) (fun _ => rfl) (fun _ => Nat.le_of_ble_eq_true rfl) (fun G A p e s m args below meth c C hr => ?_)
  refine dz_gets (pc := 0) C wf_CS dJ0_isLatin1_aae02_0 ?_
  refine dz_if_eq (pc := 3) (t := 17) (X := none) (Y := some ()) (res := ()) C dJ0_isLatin1_aae02_3 (by decide) (by decide) (fun h => by cases h) (fun _ => ?_)
  refine dz_aload_n (pc := 6) C dJ0_isLatin1_aae02_6 rfl 0 rfl ?_
  refine dz_sgetC (pc := 7) C hn wf_cod dJ0_isLatin1_aae02_7 ?_
  refine dz_if_ne (pc := 10) (t := 17) (X := none) (Y := some ()) (res := ()) C dJ0_isLatin1_aae02_10 (by decide) (by decide) (fun h => by cases h) (fun _ => ?_)
  refine dz_iconst (pc := 13) (v := 1) C dJ0_isLatin1_aae02_13 (by decide) ?_
  refine dz_goto (pc := 14) (t := 18) C dJ0_isLatin1_aae02_14 (by decide) ?_
  exact dz_zret (pc := 18) C hr (Or.inr rfl) dJ0_isLatin1_aae02_18
theorem m_slen {nb : Nat} (l : Launch) {n : Nat} (hn : n < 14) (M : dt_M) : dt_Met nb l yJ0_length_8abf5 cJ0_length_8abf5 1 (some .int) 2 (fun G => [.ref (G.2.2.2.1 n)]) M (some (.int (dt_slen n))) M := by
  refine dz_enter (lv := fun G => [(0, .ref (G.2.2.2.1 n))]) (by decide) (fun _ => rfl) (fun _ => Nat.le_of_ble_eq_true rfl) (fun G A p e s m args below meth c C hr => ?_)
  refine dz_aload_n (pc := 0) C dJ0_length_8abf5_0 rfl 0 rfl ?_
  refine dz_sgetV (pc := 1) C hn wf_val dJ0_length_8abf5_1 ?_
  refine dz_tlen (pc := 4) C hn dJ0_length_8abf5_4 ?_
  refine dz_aload_n (pc := 5) C dJ0_length_8abf5_5 rfl 0 rfl ?_
  refine dz_callVS (pc := 6) (n := n) (As := []) (st := [.int (dt_slen n)]) C hn mf_J0_coder_7d493 rfl ml_J0_335 (m_coder l hn M) rfl rfl (by omega) (by decide) (Nat.le_of_ble_eq_true rfl) dJ0_length_8abf5_6 ?_
  refine dz_ishr (pc := 9) C dJ0_length_8abf5_9 ?_
  have e0 : dt_slen n >>> ((0 : Int32) &&& 31) = dt_slen n := sc_shr0 (by have := dt_sn_len n hn; omega)
  rw [e0]
  exact dz_iret (pc := 10) C hr dJ0_length_8abf5_10
theorem m_chk3 {nb : Nat} (l : Launch) {i n : Nat} (hi : i < n) (hn : n < 2 ^ 31) (v : Value) (hv : v.category = 1) (M : dt_M) : dt_Met nb l yJ3_checkIndex_8e157 cJ3_checkIndex_8e157 3 (some .int) 1 (fun _ => [.int (nI i), .int (nI n), v]) M (some (.int (nI i))) M := by
  refine dz_enter (lv := fun _ => [(0, .int (nI i)), (1, .int (nI n)), (2, v)]) (by decide) (fun _ => rfl) (fun _ => ?_) (fun G A p e s m args below meth c C hr => ?_)
  · show (lg_sl [.int (nI i), .int (nI n), v]).length ≤ 3
    have e1 : lg_sl [.int (nI i), .int (nI n), v] = [.val (.int (nI i)), .val (.int (nI n)), .val v] := by
      show [Slot.val (.int (nI i))] ++ ([Slot.val (.int (nI n))] ++ ((if v.category = 2 then [Slot.val v, Slot.second] else [Slot.val v]) ++ [])) = _
      rw [if_neg (by rw [hv]; decide)]
      rfl
    rw [e1]
    exact Nat.le_refl 3
  refine dz_iload_n (pc := 0) C dJ3_checkIndex_8e157_0 rfl 0 rfl ?_
  refine dz_if_lt (pc := 1) (t := 9) (X := none) (Y := some ()) (res := ()) C dJ3_checkIndex_8e157_1 (by decide) (if_neg (nI_pos (by omega))) (fun h => by cases h) (fun _ => ?_)
  refine dz_iload_n (pc := 4) C dJ3_checkIndex_8e157_4 rfl 0 rfl ?_
  refine dz_iload_n (pc := 5) C dJ3_checkIndex_8e157_5 rfl 1 rfl ?_
  refine dz_icmp_lt (pc := 6) (t := 16) (X := some ()) (Y := none) (res := ()) C dJ3_checkIndex_8e157_6 (by decide) (if_pos (nI_lt hi hn)) (fun _ => ?_) (fun h => by cases h)
  refine dz_iload_n (pc := 16) C dJ3_checkIndex_8e157_16 rfl 0 rfl ?_
  exact dz_iret (pc := 17) C hr dJ3_checkIndex_8e157_17
theorem m_chk0 {nb : Nat} (l : Launch) {i n : Nat} (hi : i < n) (hn : n < 2 ^ 31) (M : dt_M) : dt_Met nb l yJ0_checkIndex_df160 cJ0_checkIndex_df160 2 none 2 (fun _ => [.int (nI i), .int (nI n)]) M none M := by
  refine dz_enter (lv := fun _ => [(0, .int (nI i)), (1, .int (nI n))]) (by decide) (fun _ => rfl) (fun _ => Nat.le_of_ble_eq_true rfl) (fun G A p e s m args below meth c C hr => ?_)
  refine dz_iload_n (pc := 0) C dJ0_checkIndex_df160_0 rfl 0 rfl ?_
  refine dz_iload_n (pc := 1) C dJ0_checkIndex_df160_1 rfl 1 rfl ?_
  refine dz_getsQ (pc := 2) C wf_SI dJ0_checkIndex_df160_2 (fun v hv => ?_)
  refine dz_callSi (pc := 5) (As := [.int (nI i), .int (nI n), v]) (st := []) C ms_J3_checkIndex_8e157 ml_J0_1059 (m_chk3 l hi hn v hv M) rfl rfl (by omega) (by decide) (Nat.le_of_ble_eq_true rfl) dJ0_checkIndex_df160_5 ?_
  refine dz_pop (pc := 8) C dJ0_checkIndex_df160_8 rfl ?_
  exact dz_vret (pc := 9) C hr dJ0_checkIndex_df160_9
theorem m_char1 {nb : Nat} (l : Launch) {n a : Nat} (hn : n < 14) (ha : a < dt_sln n) (M : dt_M) : dt_Met nb l yJ1_charAt_3b067 cJ1_charAt_3b067 2 (some .char) 3 (fun G => [.ref (G.2.2.2.2 n), .int (nI a)]) M (some (.int (dt_sch n a))) M := by
  have h1 := dt_sn_len n hn
  have h2 := dt_sb_char n hn a (by have := dt_sln_62 n hn; omega)
  refine dz_enter (lv := fun G => [(0, .ref (G.2.2.2.2 n)), (1, .int (nI a))]) (by decide) (fun _ => rfl) (fun _ => Nat.le_of_ble_eq_true rfl) (fun G A p e s m args below meth c C hr => ?_)
  refine dz_iload_n (pc := 0) C dJ1_charAt_3b067_0 rfl 1 rfl ?_
  refine dz_aload_n (pc := 1) C dJ1_charAt_3b067_1 rfl 0 rfl ?_
  refine dz_tlen (pc := 2) C hn dJ1_charAt_3b067_2 ?_
  refine dz_callSv (pc := 3) (As := [.int (nI a), .int (nI (dt_sln n))]) (st := []) C ms_J0_checkIndex_df160 ml_J1_9 (m_chk0 l ha (by omega) M) rfl rfl (by omega) (by decide) (Nat.le_of_ble_eq_true rfl) dJ1_charAt_3b067_3 ?_
  refine dz_aload_n (pc := 6) C dJ1_charAt_3b067_6 rfl 0 rfl ?_
  refine dz_iload_n (pc := 7) C dJ1_charAt_3b067_7 rfl 1 rfl ?_
  refine dz_tb (pc := 8) C hn ha dJ1_charAt_3b067_8 ?_
  refine dz_sipush (pc := 9) (v := 255) C dJ1_charAt_3b067_9 (by decide) ?_
  refine dz_iand (pc := 12) C dJ1_charAt_3b067_12 ?_
  refine dz_i2c (pc := 13) C dJ1_charAt_3b067_13 ?_
  rw [h2.1]
  exact dz_nret (pc := 14) C hr h2.2 dJ1_charAt_3b067_14
theorem m_schar {nb : Nat} (l : Launch) {n a : Nat} (hn : n < 14) (ha : a < dt_sln n) (M : dt_M) : dt_Met nb l yJ0_charAt_5068e cJ0_charAt_5068e 2 (some .char) 4 (fun G => [.ref (G.2.2.2.1 n), .int (nI a)]) M (some (.int (dt_sch n a))) M := by
  have h2 := dt_sb_char n hn a (by have := dt_sln_62 n hn; omega)
  refine dz_enter (lv := fun G => [(0, .ref (G.2.2.2.1 n)), (1, .int (nI a))]) (by decide) (fun _ => rfl) (fun _ => Nat.le_of_ble_eq_true rfl) (fun G A p e s m args below meth c C hr => ?_)
  refine dz_aload_n (pc := 0) C dJ0_charAt_5068e_0 rfl 0 rfl ?_
  refine dz_callVS (pc := 1) (n := n) (As := []) (st := []) C hn mf_J0_isLatin1_aae02 rfl ml_J0_492 (m_isLatin1 l hn M) rfl rfl (by omega) (by decide) (Nat.le_of_ble_eq_true rfl) dJ0_charAt_5068e_1 ?_
  refine dz_if_eq (pc := 4) (t := 16) (X := none) (Y := some ()) (res := ()) C dJ0_charAt_5068e_4 (by decide) (by decide) (fun h => by cases h) (fun _ => ?_)
  refine dz_aload_n (pc := 7) C dJ0_charAt_5068e_7 rfl 0 rfl ?_
  refine dz_sgetV (pc := 8) C hn wf_val dJ0_charAt_5068e_8 ?_
  refine dz_iload_n (pc := 11) C dJ0_charAt_5068e_11 rfl 1 rfl ?_
  refine dz_callSi (pc := 12) (As := [.ref (G.2.2.2.2 n), .int (nI a)]) (st := []) C ms_J1_charAt_3b067 ml_J0_495 (m_char1 l hn ha M) rfl rfl (by omega) (by decide) (Nat.le_of_ble_eq_true rfl) dJ0_charAt_5068e_12 ?_
  exact dz_nret (pc := 15) C hr h2.2 dJ0_charAt_5068e_15
theorem m_ixc_loop {nb : Nat} {G : dt_G} {A : Nat → Prop} {p : Program} {l : Launch} {e : Env} {s : State} {m : MethodId} {args : Array Value} {below : List Frame} {meth : Method} {c : Code} (C : dt_Cx nb G A p s m args meth c cJ1_indexOfChar_4cfef 6 RJ1) (hr : meth.sig.returnType = some .int) {n : Nat} (hn : n < 14) {M : dt_M} {v x1 : Int32} : ∀ (r : List Int32) (k : Nat), (dt_sb.getD n []).drop k = r → k ≤ dt_sln n →
    dt_At G A p l e (dt_rm 1) s m args below meth c 6 (MQ below (dt_Post G A (some (.int (dt_ixF v r k))) M) args s 0 0 A) 7 [(5, .int (nI k)), (3, .int (dt_slen n)), (0, .ref (G.2.2.2.2 n)), (4, .int v)] [] M := by
  have h1 := dt_sn_len n hn
  intro r
  induction r with
  | nil =>
    intro k hd hk
    have e0 : dt_sln n ≤ k := List.drop_eq_nil_iff.mp hd
    refine dz_iload (pc := 7) C dJ1_indexOfChar_4cfef_7 0 rfl ?_
    refine dz_iload_n (pc := 9) C dJ1_indexOfChar_4cfef_9 rfl 1 rfl ?_
    refine dz_icmp_ge (pc := 10) (t := 31) (X := some ()) (Y := none) (res := ()) C dJ1_indexOfChar_4cfef_10 (by decide) (if_pos (nI_le e0 (by omega))) (fun _ => ?_) (fun h => by cases h)
    refine dz_iconst (pc := 31) (v := -1) C dJ1_indexOfChar_4cfef_31 (by decide) ?_
    exact dz_iret (pc := 32) C hr dJ1_indexOfChar_4cfef_32
  | cons b r ih =>
    intro k hd hk
    obtain ⟨g1, g2, g3, -⟩ := sc_dropC hd
    have hlt : k < dt_sln n := g1
    refine dz_iload (pc := 7) C dJ1_indexOfChar_4cfef_7 0 rfl ?_
    refine dz_iload_n (pc := 9) C dJ1_indexOfChar_4cfef_9 rfl 1 rfl ?_
    refine dz_icmp_ge (pc := 10) (t := 31) (X := none) (Y := some ()) (res := ()) C dJ1_indexOfChar_4cfef_10 (by decide) (if_neg (nI_ge hlt (by omega))) (fun h => by cases h) (fun _ => ?_)
    refine dz_aload_n (pc := 13) C dJ1_indexOfChar_4cfef_13 rfl 2 rfl ?_
    refine dz_iload (pc := 14) C dJ1_indexOfChar_4cfef_14 0 rfl ?_
    refine dz_tb (pc := 16) C hn hlt dJ1_indexOfChar_4cfef_16 ?_
    have eb : dt_sch n k = b := g2
    rw [eb]
    refine dz_iload (pc := 17) C dJ1_indexOfChar_4cfef_17 3 rfl ?_
    by_cases hb : b = v
    · refine dz_icmp_ne (pc := 19) (t := 25) (X := none) (Y := some ()) (res := ()) C dJ1_indexOfChar_4cfef_19 (by decide) (if_pos hb) (fun h => by cases h) (fun _ => ?_)
      refine dz_iload (pc := 22) C dJ1_indexOfChar_4cfef_22 0 rfl ?_
      have e1 : dt_ixF v (b :: r) k = nI k := if_pos hb
      rw [e1]
      exact dz_iret (pc := 24) C hr dJ1_indexOfChar_4cfef_24
    · refine dz_icmp_ne (pc := 19) (t := 25) (X := some ()) (Y := none) (res := ()) C dJ1_indexOfChar_4cfef_19 (by decide) (if_neg hb) (fun _ => ?_) (fun h => by cases h)
      refine dz_iinc (pc := 25) (v := nI (k + 1)) C dJ1_indexOfChar_4cfef_25 0 rfl (nI_succ k).symm (by decide) rfl ?_
      refine dz_goto (pc := 28) (t := 7) C dJ1_indexOfChar_4cfef_28 (by decide) ?_
      have e1 : dt_ixF v (b :: r) k = dt_ixF v r (k + 1) := if_neg hb
      rw [e1]
      exact ih (k + 1) g3 (by omega)
theorem m_ixc {nb : Nat} (l : Launch) {n : Nat} (hn : n < 14) (x : Int32) (M : dt_M) : dt_Met nb l yJ1_indexOfChar_4cfef cJ1_indexOfChar_4cfef 6 (some .int) 1 (fun G => [.ref (G.2.2.2.2 n), .int x, .int 0, .int (dt_slen n)]) M (some (.int (dt_ixF x.toInt8.toInt32 (dt_sb.getD n []) 0))) M := by
  refine dz_enter (lv := fun G => [(0, .ref (G.2.2.2.2 n)), (1, .int x), (2, .int 0), (3, .int (dt_slen n))]) (by decide) (fun _ => rfl) (fun _ => Nat.le_of_ble_eq_true rfl) (fun G A p e s m args below meth c C hr => ?_)
  refine dz_iload_n (pc := 0) C dJ1_indexOfChar_4cfef_0 rfl 1 rfl ?_
  refine dz_i2b (pc := 1) C dJ1_indexOfChar_4cfef_1 ?_
  refine dz_istore (pc := 2) C dJ1_indexOfChar_4cfef_2 (by decide) rfl ?_
  refine dz_iload_n (pc := 4) C dJ1_indexOfChar_4cfef_4 rfl 3 rfl ?_
  refine dz_istore (pc := 5) C dJ1_indexOfChar_4cfef_5 (by decide) rfl ?_
  refine dz_sub [0, 5, 2, 1] rfl ?_
  exact m_ixc_loop (x1 := x) C hr hn (dt_sb.getD n []) 0 rfl (Nat.zero_le _)
theorem m_ix1 {nb : Nat} (l : Launch) {n : Nat} (hn : n < 14) (x : Int32) (M : dt_M) : dt_Met nb l yJ1_indexOf_4cfef cJ1_indexOf_4cfef 4 (some .int) 2 (fun G => [.ref (G.2.2.2.2 n), .int x, .int 0, .int (dt_slen n)]) M (some (.int (dt_six n x))) M := by
  have h1 := dt_sn_len n hn
  refine dz_enter (lv := fun G => [(0, .ref (G.2.2.2.2 n)), (1, .int x), (2, .int 0), (3, .int (dt_slen n))]) (by decide) (fun _ => rfl) (fun _ => Nat.le_of_ble_eq_true rfl) (fun G A p e s m args below meth c C hr => ?_)
  refine dz_iload_n (pc := 0) C dJ1_indexOf_4cfef_0 rfl 1 rfl ?_
  have hlo : x < 0 ∨ 255 < x → dt_six n x = -1 := by
    intro h
    unfold dt_six
    by_cases hx : x < 0
    · rw [if_pos hx]
    · rw [if_neg hx, if_pos (h.resolve_left hx)]
  by_cases hx : x < 0 ∨ 255 < x
  · have hf : fJ1_canEncode_9a6ad x = some 0 := by
      unfold fJ1_canEncode_9a6ad
      by_cases hx1 : x < 0
      · rw [if_pos hx1]
      · rw [if_neg hx1, if_pos (hx.resolve_left hx1)]
    refine dz_callSi (pc := 1) (As := [.int x]) (st := []) C ms_J1_canEncode_9a6ad ml_J1_88 (m_J1_canEncode_9a6ad l M x hf) rfl rfl (by omega) (by decide) (Nat.le_of_ble_eq_true rfl) dJ1_indexOf_4cfef_1 ?_
    refine dz_if_ne (pc := 4) (t := 9) (X := none) (Y := some ()) (res := ()) C dJ1_indexOf_4cfef_4 (by decide) (by decide) (fun h => by cases h) (fun _ => ?_)
    refine dz_iconst (pc := 7) (v := -1) C dJ1_indexOf_4cfef_7 (by decide) ?_
    rw [hlo hx]
    exact dz_iret (pc := 8) C hr dJ1_indexOf_4cfef_8
  · have hx1 : ¬ x < 0 := fun z => hx (Or.inl z)
    have hx2 : ¬ 255 < x := fun z => hx (Or.inr z)
    have hf : fJ1_canEncode_9a6ad x = some 1 := by
      unfold fJ1_canEncode_9a6ad
      rw [if_neg hx1, if_neg hx2]
    have e1 : dt_six n x = dt_ixF x.toInt8.toInt32 (dt_sb.getD n []) 0 := by
      unfold dt_six
      rw [if_neg hx1, if_neg hx2]
    refine dz_callSi (pc := 1) (As := [.int x]) (st := []) C ms_J1_canEncode_9a6ad ml_J1_88 (m_J1_canEncode_9a6ad l M x hf) rfl rfl (by omega) (by decide) (Nat.le_of_ble_eq_true rfl) dJ1_indexOf_4cfef_1 ?_
    refine dz_if_ne (pc := 4) (t := 9) (X := some ()) (Y := none) (res := ()) C dJ1_indexOf_4cfef_4 (by decide) (by decide) (fun _ => ?_) (fun h => by cases h)
    refine dz_iload_n (pc := 9) C dJ1_indexOf_4cfef_9 rfl 2 rfl ?_
    refine dz_iconst (pc := 10) (v := 0) C dJ1_indexOf_4cfef_10 (by decide) ?_
    refine dz_max (pc := 11) C ml_J1_92 (by omega) (Nat.le_of_ble_eq_true rfl) dJ1_indexOf_4cfef_11 ?_
    have e2 : (if (0 : Int32) < 0 then (0 : Int32) else 0) = 0 := rfl
    rw [e2]
    refine dz_istore_n (pc := 14) C dJ1_indexOf_4cfef_14 rfl (by decide) rfl ?_
    refine dz_iload_n (pc := 15) C dJ1_indexOf_4cfef_15 rfl 3 rfl ?_
    refine dz_aload_n (pc := 16) C dJ1_indexOf_4cfef_16 rfl 1 rfl ?_
    refine dz_tlen (pc := 17) C hn dJ1_indexOf_4cfef_17 ?_
    refine dz_min (pc := 18) C ml_J1_38 (by omega) (Nat.le_of_ble_eq_true rfl) dJ1_indexOf_4cfef_18 ?_
    have e3 : (if dt_slen n < dt_slen n then dt_slen n else dt_slen n) = dt_slen n := by split <;> rfl
    rw [e3]
    refine dz_istore_n (pc := 21) C dJ1_indexOf_4cfef_21 rfl (by decide) rfl ?_
    refine dz_iload_n (pc := 22) C dJ1_indexOf_4cfef_22 rfl 1 rfl ?_
    refine dz_iload_n (pc := 23) C dJ1_indexOf_4cfef_23 rfl 0 rfl ?_
    refine dz_icmp_lt (pc := 24) (t := 29) (X := some ()) (Y := none) (res := ()) C dJ1_indexOf_4cfef_24 (by decide) (if_pos (nI_lt h1.2.1 (by omega))) (fun _ => ?_) (fun h => by cases h)
    refine dz_aload_n (pc := 29) C dJ1_indexOf_4cfef_29 rfl 2 rfl ?_
    refine dz_iload_n (pc := 30) C dJ1_indexOf_4cfef_30 rfl 3 rfl ?_
    refine dz_iload_n (pc := 31) C dJ1_indexOf_4cfef_31 rfl 1 rfl ?_
    refine dz_iload_n (pc := 32) C dJ1_indexOf_4cfef_32 rfl 0 rfl ?_
    refine dz_callSi (pc := 33) (As := [.ref (G.2.2.2.2 n), .int x, .int 0, .int (dt_slen n)]) (st := []) C ms_J1_indexOfChar_4cfef ml_J1_95 (m_ixc l hn x M) rfl rfl (by omega) (by decide) (Nat.le_of_ble_eq_true rfl) dJ1_indexOf_4cfef_33 ?_
    rw [e1]
    exact dz_iret (pc := 36) C hr dJ1_indexOf_4cfef_36
theorem m_ix2 {nb : Nat} (l : Launch) {n : Nat} (hn : n < 14) (x : Int32) (M : dt_M) : dt_Met nb l yJ0_indexOf_7cf53 cJ0_indexOf_7cf53 3 (some .int) 4 (fun G => [.ref (G.2.2.2.1 n), .int x, .int 0]) M (some (.int (dt_six n x))) M := by
  refine dz_enter (lv := fun G => [(0, .ref (G.2.2.2.1 n)), (1, .int x), (2, .int 0)]) (by decide) (fun _ => rfl) (fun _ => Nat.le_of_ble_eq_true rfl) (fun G A p e s m args below meth c C hr => ?_)
  refine dz_aload_n (pc := 0) C dJ0_indexOf_7cf53_0 rfl 0 rfl ?_
  refine dz_callVS (pc := 1) (n := n) (As := []) (st := []) C hn mf_J0_isLatin1_aae02 rfl ml_J0_492 (m_isLatin1 l hn M) rfl rfl (by omega) (by decide) (Nat.le_of_ble_eq_true rfl) dJ0_indexOf_7cf53_1 ?_
  refine dz_if_eq (pc := 4) (t := 23) (X := none) (Y := some ()) (res := ()) C dJ0_indexOf_7cf53_4 (by decide) (by decide) (fun h => by cases h) (fun _ => ?_)
  refine dz_aload_n (pc := 7) C dJ0_indexOf_7cf53_7 rfl 0 rfl ?_
  refine dz_sgetV (pc := 8) C hn wf_val dJ0_indexOf_7cf53_8 ?_
  refine dz_iload_n (pc := 11) C dJ0_indexOf_7cf53_11 rfl 1 rfl ?_
  refine dz_iload_n (pc := 12) C dJ0_indexOf_7cf53_12 rfl 2 rfl ?_
  refine dz_aload_n (pc := 13) C dJ0_indexOf_7cf53_13 rfl 0 rfl ?_
  refine dz_callVS (pc := 14) (n := n) (As := []) (st := [.int 0, .int x, .ref (G.2.2.2.2 n)]) C hn mf_J0_length_8abf5 rfl ml_J0_505 (m_slen l hn M) rfl rfl (by omega) (by decide) (Nat.le_of_ble_eq_true rfl) dJ0_indexOf_7cf53_14 ?_
  refine dz_callSi (pc := 17) (As := [.ref (G.2.2.2.2 n), .int x, .int 0, .int (dt_slen n)]) (st := []) C ms_J1_indexOf_4cfef ml_J0_637 (m_ix1 l hn x M) rfl rfl (by omega) (by decide) (Nat.le_of_ble_eq_true rfl) dJ0_indexOf_7cf53_17 ?_
  refine dz_goto (pc := 20) (t := 36) C dJ0_indexOf_7cf53_20 (by decide) ?_
  exact dz_iret (pc := 36) C hr dJ0_indexOf_7cf53_36
theorem m_ix0 {nb : Nat} (l : Launch) {n : Nat} (hn : n < 14) (x : Int32) (M : dt_M) : dt_Met nb l yJ0_indexOf_0f7a4 cJ0_indexOf_0f7a4 2 (some .int) 5 (fun G => [.ref (G.2.2.2.1 n), .int x]) M (some (.int (dt_six n x))) M := by
  refine dz_enter (lv := fun G => [(0, .ref (G.2.2.2.1 n)), (1, .int x)]) (by decide) (fun _ => rfl) (fun _ => Nat.le_of_ble_eq_true rfl) (fun G A p e s m args below meth c C hr => ?_)
  refine dz_aload_n (pc := 0) C dJ0_indexOf_0f7a4_0 rfl 0 rfl ?_
  refine dz_iload_n (pc := 1) C dJ0_indexOf_0f7a4_1 rfl 1 rfl ?_
  refine dz_iconst (pc := 2) (v := 0) C dJ0_indexOf_0f7a4_2 (by decide) ?_
  refine dz_callVS (pc := 3) (n := n) (As := [.int x, .int 0]) (st := []) C hn mf_J0_indexOf_7cf53 rfl ml_J0_633 (m_ix2 l hn x M) rfl rfl (by omega) (by decide) (Nat.le_of_ble_eq_true rfl) dJ0_indexOf_0f7a4_3 ?_
  exact dz_iret (pc := 6) C hr dJ0_indexOf_0f7a4_6
section ROWS9B
variable {nb : Nat} {G : dt_G} {A : Nat → Prop} {p : Program} {l : Launch} {e : Env} {s : State} {m : MethodId} {args : Array Value} {below : List Frame} {meth : Method} {c : Code} {cc : ByteArray} {nL : Nat} {own : String} {Q : State → Prop} {pc : Nat} {lv : List (Nat × Value)} {st : List Value} {M : dt_M} {hh n : Nat}
theorem dz_slen (C : dt_Cx nb G A p s m args meth c cc nL own) (hn : n < 14) {i : Nat} (w : Cond.methodLink own i yJ0_length_8abf5 ∈ dt_tbl) (hlt : 8 ≤ hh) (hs : (st.map fun v => v.category).sum ≤ 8) (d : decode cc pc = .ok (.invokevirtual i, 3)) (k : dt_At G A p l e (dt_rm hh) s m args below meth c nL Q (pc + 3) lv (.int (dt_slen n) :: st) M) : dt_At G A p l e (dt_rm hh) s m args below meth c nL Q pc lv (.ref (G.2.2.2.1 n) :: st) M :=
  dz_callVS (n := n) (As := []) (st := st) C hn mf_J0_length_8abf5 rfl w (m_slen l hn M) rfl rfl (by omega) (by decide) hs d k
theorem dz_schar (C : dt_Cx nb G A p s m args meth c cc nL own) (hn : n < 14) {ρ : Type} {res : ρ} {g : Nat → Option ρ} {i : Nat} {x : Int32} (w : Cond.methodLink own i yJ0_charAt_5068e ∈ dt_tbl) (hlt : 8 ≤ hh) (hs : (st.map fun v => v.category).sum ≤ 8) (d : decode cc pc = .ok (.invokevirtual i, 3)) (h : (dt_ix x (dt_sln n)).bind g = some res) (k : ∀ a, g a = some res → dt_At G A p l e (dt_rm hh) s m args below meth c nL Q (pc + 3) lv (.int (dt_sch n a) :: st) M) : dt_At G A p l e (dt_rm hh) s m args below meth c nL Q pc lv (.int x :: .ref (G.2.2.2.1 n) :: st) M := by
  obtain ⟨a, h1, h2⟩ := dt_bind h
  obtain ⟨h3, h4, h5⟩ := dt_ix_in h1
  have h6 := dt_sn_len n hn
  obtain ⟨j, hj, rfl⟩ := vp_in_of h3 (by omega)
  have e0 : j = a := by rw [← h4, nI_clamp (by omega)]
  subst e0
  exact dz_callVS (n := n) (As := [.int (nI j)]) (st := st) C hn mf_J0_charAt_5068e rfl w (m_schar l hn h5 M) rfl rfl (by omega) (by decide) hs d (k j h2)
theorem dz_sidx (C : dt_Cx nb G A p s m args meth c cc nL own) (hn : n < 14) {i : Nat} {x : Int32} (w : Cond.methodLink own i yJ0_indexOf_0f7a4 ∈ dt_tbl) (hlt : 8 ≤ hh) (hs : (st.map fun v => v.category).sum ≤ 8) (d : decode cc pc = .ok (.invokevirtual i, 3)) (k : dt_At G A p l e (dt_rm hh) s m args below meth c nL Q (pc + 3) lv (.int (dt_six n x) :: st) M) : dt_At G A p l e (dt_rm hh) s m args below meth c nL Q pc lv (.int x :: .ref (G.2.2.2.1 n) :: st) M :=
  dz_callVS (n := n) (As := [.int x]) (st := st) C hn mf_J0_indexOf_0f7a4 rfl w (m_ix0 l hn x M) rfl rfl (by omega) (by decide) hs d k
end ROWS9B
