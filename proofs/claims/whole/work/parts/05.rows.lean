/-! ===== rows over the memory: a row an instruction ===== -/
def dt_Cx (nb : Nat) (G : dt_G) (A : Nat → Prop) (p : Program) (s : State) (m : MethodId) (args : Array Value) (meth : Method) (c : Code) (cc : ByteArray) (nL : Nat) (own : String) : Prop :=
  CallFix p m c cc nL s args dt_tbl own ∧ dt_K G A s ∧ va_D A (dt_ws G (fun _ _ _ => 0)) ∧ meth.locks = false ∧ 18 + nb ≤ dt_n G ∧ (dt_n G = 18 ∨ dt_n G = 19)
def dt_At (G : dt_G) (A : Nat → Prop) (p : Program) (l : Launch) (e : Env) (R : Room) (s : State) (m : MethodId) (args : Array Value) (below : List Frame) (meth : Method) (c : Code) (nL : Nat) (Q : State → Prop) (pc : Nat) (lv : List (Nat × Value)) (st : List Value) (M : dt_M) : Prop :=
  ∀ (H : Heap) (locs : List Loc) (ls : Array Slot), lv_has ls nL lv → va_P G.2.1 vwCl (dt_ws G M) H → va_S A s.heap H locs → W p l e R s m args below meth c H locs 0 0 Q (F0 m pc ls st)
theorem dt_bind {α β : Type} {o : Option α} {g : α → Option β} {r : β} (h : o.bind g = some r) : ∃ q, o = some q ∧ g q = some r := by
  cases o with
  | none => cases h
  | some q => exact ⟨q, rfl, h⟩
theorem dt_some {α : Type} {a b : α} (h : some a = some b) : a = b := Option.some.inj h
section ROWS
variable {nb : Nat} {G : dt_G} {A : Nat → Prop} {p : Program} {l : Launch} {e : Env} {R : Room} {s : State} {m : MethodId} {args : Array Value} {below : List Frame} {meth : Method} {c : Code} {cc : ByteArray} {nL : Nat} {own : String} {Q : State → Prop} {pc : Nat} {lv lv' : List (Nat × Value)} {st : List Value} {M M' : dt_M}
theorem dz_sub (ks : List Nat) (h : lv_pick lv ks = lv') (k : dt_At G A p l e R s m args below meth c nL Q pc lv' st M) : dt_At G A p l e R s m args below meth c nL Q pc lv st M :=
  fun H locs ls hl hM hS => k H locs ls (lv_sub hl ks h) hM hS
theorem dz_iconst (C : dt_Cx nb G A p s m args meth c cc nL own) {n : Int} {v : Int32} (d : decode cc pc = .ok (.iconst n, 1)) (hv : Int32.ofInt n = v) (k : dt_At G A p l e R s m args below meth c nL Q (pc + 1) lv (.int v :: st) M) : dt_At G A p l e R s m args below meth c nL Q pc lv st M :=
  fun H locs ls hl hM hS => lv_iconst C.1.1 C.1.2.1 d hv (k H locs ls hl hM hS)
theorem dz_bipush (C : dt_Cx nb G A p s m args meth c cc nL own) {n : Int} {v : Int32} (d : decode cc pc = .ok (.bipush n, 2)) (hv : (Int8.ofInt n).toInt32 = v) (k : dt_At G A p l e R s m args below meth c nL Q (pc + 2) lv (.int v :: st) M) : dt_At G A p l e R s m args below meth c nL Q pc lv st M :=
  fun H locs ls hl hM hS => lv_bipush C.1.1 C.1.2.1 d hv (k H locs ls hl hM hS)
theorem dz_sipush (C : dt_Cx nb G A p s m args meth c cc nL own) {n : Int} {v : Int32} (d : decode cc pc = .ok (.sipush n, 3)) (hv : (Int16.ofInt n).toInt32 = v) (k : dt_At G A p l e R s m args below meth c nL Q (pc + 3) lv (.int v :: st) M) : dt_At G A p l e R s m args below meth c nL Q pc lv st M :=
  fun H locs ls hl hM hS => lv_sipush C.1.1 C.1.2.1 d hv (k H locs ls hl hM hS)
theorem dz_lconst (C : dt_Cx nb G A p s m args meth c cc nL own) {n : Fin 2} {v : Int64} (d : decode cc pc = .ok (.lconst n, 1)) (hv : Int64.ofNat (n : Nat) = v) (k : dt_At G A p l e R s m args below meth c nL Q (pc + 1) lv (.long v :: st) M) : dt_At G A p l e R s m args below meth c nL Q pc lv st M :=
  fun H locs ls hl hM hS => lv_lconst C.1.1 C.1.2.1 d hv (k H locs ls hl hM hS)
theorem dz_ldc (C : dt_Cx nb G A p s m args meth c cc nL own) {i : Nat} {v : Int32} (w : Cond.constant own i v ∈ dt_tbl) (d : decode cc pc = .ok (.ldc i, 2)) (k : dt_At G A p l e R s m args below meth c nL Q (pc + 2) lv (.int v :: st) M) : dt_At G A p l e R s m args below meth c nL Q pc lv st M :=
  fun H locs ls hl hM hS => lv_ldc C.1.1 C.1.2.1 C.1.2.2.2.1 (C.1.2.2.2.2 _ w) d (k H locs ls hl hM hS)
theorem dz_ldcw (C : dt_Cx nb G A p s m args meth c cc nL own) {i : Nat} {v : Int32} (w : Cond.constant own i v ∈ dt_tbl) (d : decode cc pc = .ok (.ldc_w i, 3)) (k : dt_At G A p l e R s m args below meth c nL Q (pc + 3) lv (.int v :: st) M) : dt_At G A p l e R s m args below meth c nL Q pc lv st M :=
  fun H locs ls hl hM hS => lv_ldcw C.1.1 C.1.2.1 C.1.2.2.2.1 (C.1.2.2.2.2 _ w) d (k H locs ls hl hM hS)
theorem dz_ldc2 (C : dt_Cx nb G A p s m args meth c cc nL own) {i : Nat} {v : Int64} (w : Cond.constantLong own i v ∈ dt_tbl) (d : decode cc pc = .ok (.ldc2_w i, 3)) (k : dt_At G A p l e R s m args below meth c nL Q (pc + 3) lv (.long v :: st) M) : dt_At G A p l e R s m args below meth c nL Q pc lv st M :=
  fun H locs ls hl hM hS => lv_ldc2 C.1.1 C.1.2.1 C.1.2.2.2.1 (C.1.2.2.2.2 _ w) d (k H locs ls hl hM hS)
theorem dz_ldcS (C : dt_Cx nb G A p s m args meth c cc nL own) {i n : Nat} {tx : String} (hq : dt_sl[n]? = some (own, i, tx)) (d : decode cc pc = .ok (.ldc i, 2)) (k : dt_At G A p l e R s m args below meth c nL Q (pc + 2) lv (.ref (G.2.2.2.1 n) :: st) M) : dt_At G A p l e R s m args below meth c nL Q pc lv st M :=
  fun H locs ls hl hM hS => va_ldcS C.1.1 C.1.2.1 C.1.2.2.2.1 (C.2.1.2.2.1 n _ hq) d (k H locs ls hl hM hS)
theorem dz_iload_n (C : dt_Cx nb G A p s m args meth c cc nL own) {x : Fin 4} {i : Nat} {v : Int32} (d : decode cc pc = .ok (.iload_n x, 1)) (hi : (x : Nat) = i) (q : Nat) (hq : lv[q]? = some (i, .int v)) (k : dt_At G A p l e R s m args below meth c nL Q (pc + 1) lv (.int v :: st) M) : dt_At G A p l e R s m args below meth c nL Q pc lv st M :=
  fun H locs ls hl hM hS => lv_iload_n C.1.1 C.1.2.1 d hi (lv_at hl q hq) (k H locs ls hl hM hS)
theorem dz_iload (C : dt_Cx nb G A p s m args meth c cc nL own) {i : Nat} {v : Int32} (d : decode cc pc = .ok (.iload i, 2)) (q : Nat) (hq : lv[q]? = some (i, .int v)) (k : dt_At G A p l e R s m args below meth c nL Q (pc + 2) lv (.int v :: st) M) : dt_At G A p l e R s m args below meth c nL Q pc lv st M :=
  fun H locs ls hl hM hS => lv_iload C.1.1 C.1.2.1 d (lv_at hl q hq) (k H locs ls hl hM hS)
theorem dz_lload_n (C : dt_Cx nb G A p s m args meth c cc nL own) {x : Fin 4} {i : Nat} {v : Int64} (d : decode cc pc = .ok (.lload_n x, 1)) (hi : (x : Nat) = i) (q : Nat) (hq : lv[q]? = some (i, .long v)) (k : dt_At G A p l e R s m args below meth c nL Q (pc + 1) lv (.long v :: st) M) : dt_At G A p l e R s m args below meth c nL Q pc lv st M :=
  fun H locs ls hl hM hS => lv_lload_n C.1.1 C.1.2.1 d hi (lv_at hl q hq) (k H locs ls hl hM hS)
theorem dz_lload (C : dt_Cx nb G A p s m args meth c cc nL own) {i : Nat} {v : Int64} (d : decode cc pc = .ok (.lload i, 2)) (q : Nat) (hq : lv[q]? = some (i, .long v)) (k : dt_At G A p l e R s m args below meth c nL Q (pc + 2) lv (.long v :: st) M) : dt_At G A p l e R s m args below meth c nL Q pc lv st M :=
  fun H locs ls hl hM hS => lv_lload C.1.1 C.1.2.1 d (lv_at hl q hq) (k H locs ls hl hM hS)
theorem dz_aload_n (C : dt_Cx nb G A p s m args meth c cc nL own) {x : Fin 4} {i : Nat} {v : Nat} (d : decode cc pc = .ok (.aload_n x, 1)) (hi : (x : Nat) = i) (q : Nat) (hq : lv[q]? = some (i, .ref v)) (k : dt_At G A p l e R s m args below meth c nL Q (pc + 1) lv (.ref v :: st) M) : dt_At G A p l e R s m args below meth c nL Q pc lv st M :=
  fun H locs ls hl hM hS => lv_aload_n C.1.1 C.1.2.1 d hi (lv_at hl q hq) (k H locs ls hl hM hS)
theorem dz_aload (C : dt_Cx nb G A p s m args meth c cc nL own) {i : Nat} {v : Nat} (d : decode cc pc = .ok (.aload i, 2)) (q : Nat) (hq : lv[q]? = some (i, .ref v)) (k : dt_At G A p l e R s m args below meth c nL Q (pc + 2) lv (.ref v :: st) M) : dt_At G A p l e R s m args below meth c nL Q pc lv st M :=
  fun H locs ls hl hM hS => lv_aload C.1.1 C.1.2.1 d (lv_at hl q hq) (k H locs ls hl hM hS)
theorem dz_istore_n (C : dt_Cx nb G A p s m args meth c cc nL own) {x : Fin 4} {i : Nat} {v : Int32} (d : decode cc pc = .ok (.istore_n x, 1)) (hi : (x : Nat) = i) (hn : i < nL) (hlv : (i, Value.int v) :: lv.filter (fun q => !(q.1 == i) && !(q.1 + 1 == i && q.2.category == 2)) = lv') (k : dt_At G A p l e R s m args below meth c nL Q (pc + 1) lv' st M) : dt_At G A p l e R s m args below meth c nL Q pc lv (.int v :: st) M :=
  fun H locs ls hl hM hS => lv_istore_n C.1.1 C.1.2.1 d hi hl hn hlv (fun ls' hl' => k H locs ls' hl' hM hS)
theorem dz_istore (C : dt_Cx nb G A p s m args meth c cc nL own) {i : Nat} {v : Int32} (d : decode cc pc = .ok (.istore i, 2)) (hn : i < nL) (hlv : (i, Value.int v) :: lv.filter (fun q => !(q.1 == i) && !(q.1 + 1 == i && q.2.category == 2)) = lv') (k : dt_At G A p l e R s m args below meth c nL Q (pc + 2) lv' st M) : dt_At G A p l e R s m args below meth c nL Q pc lv (.int v :: st) M :=
  fun H locs ls hl hM hS => lv_istore C.1.1 C.1.2.1 d hl hn hlv (fun ls' hl' => k H locs ls' hl' hM hS)
theorem dz_lstore_n (C : dt_Cx nb G A p s m args meth c cc nL own) {x : Fin 4} {i : Nat} {v : Int64} (d : decode cc pc = .ok (.lstore_n x, 1)) (hi : (x : Nat) = i) (hn : i + 1 < nL) (hlv : (i, Value.long v) :: lv.filter (fun q => !(q.1 == i) && (!(q.1 == i + 1) && !(q.1 + 1 == i && q.2.category == 2))) = lv') (k : dt_At G A p l e R s m args below meth c nL Q (pc + 1) lv' st M) : dt_At G A p l e R s m args below meth c nL Q pc lv (.long v :: st) M :=
  fun H locs ls hl hM hS => lv_lstore_n C.1.1 C.1.2.1 d hi hl hn hlv (fun ls' hl' => k H locs ls' hl' hM hS)
theorem dz_lstore (C : dt_Cx nb G A p s m args meth c cc nL own) {i : Nat} {v : Int64} (d : decode cc pc = .ok (.lstore i, 2)) (hn : i + 1 < nL) (hlv : (i, Value.long v) :: lv.filter (fun q => !(q.1 == i) && (!(q.1 == i + 1) && !(q.1 + 1 == i && q.2.category == 2))) = lv') (k : dt_At G A p l e R s m args below meth c nL Q (pc + 2) lv' st M) : dt_At G A p l e R s m args below meth c nL Q pc lv (.long v :: st) M :=
  fun H locs ls hl hM hS => lv_lstore C.1.1 C.1.2.1 d hl hn hlv (fun ls' hl' => k H locs ls' hl' hM hS)
theorem dz_astore_n (C : dt_Cx nb G A p s m args meth c cc nL own) {x : Fin 4} {i : Nat} {v : Nat} (d : decode cc pc = .ok (.astore_n x, 1)) (hi : (x : Nat) = i) (hn : i < nL) (hlv : (i, Value.ref v) :: lv.filter (fun q => !(q.1 == i) && !(q.1 + 1 == i && q.2.category == 2)) = lv') (k : dt_At G A p l e R s m args below meth c nL Q (pc + 1) lv' st M) : dt_At G A p l e R s m args below meth c nL Q pc lv (.ref v :: st) M :=
  fun H locs ls hl hM hS => lv_astore_n C.1.1 C.1.2.1 d hi hl hn hlv (fun ls' hl' => k H locs ls' hl' hM hS)
theorem dz_iinc (C : dt_Cx nb G A p s m args meth c cc nL own) {i : Nat} {n : Int} {x v : Int32} (d : decode cc pc = .ok (.iinc i n, 3)) (q : Nat) (hq : lv[q]? = some (i, .int x)) (hv : x + Int32.ofInt n = v) (hn : i < nL) (hlv : (i, Value.int v) :: lv.filter (fun q => !(q.1 == i) && !(q.1 + 1 == i && q.2.category == 2)) = lv') (k : dt_At G A p l e R s m args below meth c nL Q (pc + 3) lv' st M) : dt_At G A p l e R s m args below meth c nL Q pc lv st M :=
  fun H locs ls hl hM hS => lv_iinc C.1.1 C.1.2.1 d hl (k := q) hq hv hn hlv (fun ls' hl' => k H locs ls' hl' hM hS)
theorem dz_iadd (C : dt_Cx nb G A p s m args meth c cc nL own) {x y : Int32} (d : decode cc pc = .ok (.iadd, 1)) (k : dt_At G A p l e R s m args below meth c nL Q (pc + 1) lv (.int (x + y) :: st) M) : dt_At G A p l e R s m args below meth c nL Q pc lv (.int y :: .int x :: st) M :=
  fun H locs ls hl hM hS => lv_iadd C.1.1 C.1.2.1 d (k H locs ls hl hM hS)
theorem dz_isub (C : dt_Cx nb G A p s m args meth c cc nL own) {x y : Int32} (d : decode cc pc = .ok (.isub, 1)) (k : dt_At G A p l e R s m args below meth c nL Q (pc + 1) lv (.int (x - y) :: st) M) : dt_At G A p l e R s m args below meth c nL Q pc lv (.int y :: .int x :: st) M :=
  fun H locs ls hl hM hS => lv_isub C.1.1 C.1.2.1 d (k H locs ls hl hM hS)
theorem dz_imul (C : dt_Cx nb G A p s m args meth c cc nL own) {x y : Int32} (d : decode cc pc = .ok (.imul, 1)) (k : dt_At G A p l e R s m args below meth c nL Q (pc + 1) lv (.int (x * y) :: st) M) : dt_At G A p l e R s m args below meth c nL Q pc lv (.int y :: .int x :: st) M :=
  fun H locs ls hl hM hS => lv_imul C.1.1 C.1.2.1 d (k H locs ls hl hM hS)
theorem dz_iand (C : dt_Cx nb G A p s m args meth c cc nL own) {x y : Int32} (d : decode cc pc = .ok (.iand, 1)) (k : dt_At G A p l e R s m args below meth c nL Q (pc + 1) lv (.int (x &&& y) :: st) M) : dt_At G A p l e R s m args below meth c nL Q pc lv (.int y :: .int x :: st) M :=
  fun H locs ls hl hM hS => lv_iand C.1.1 C.1.2.1 d (k H locs ls hl hM hS)
theorem dz_ior (C : dt_Cx nb G A p s m args meth c cc nL own) {x y : Int32} (d : decode cc pc = .ok (.ior, 1)) (k : dt_At G A p l e R s m args below meth c nL Q (pc + 1) lv (.int (x ||| y) :: st) M) : dt_At G A p l e R s m args below meth c nL Q pc lv (.int y :: .int x :: st) M :=
  fun H locs ls hl hM hS => lv_ior C.1.1 C.1.2.1 d (k H locs ls hl hM hS)
theorem dz_ixor (C : dt_Cx nb G A p s m args meth c cc nL own) {x y : Int32} (d : decode cc pc = .ok (.ixor, 1)) (k : dt_At G A p l e R s m args below meth c nL Q (pc + 1) lv (.int (x ^^^ y) :: st) M) : dt_At G A p l e R s m args below meth c nL Q pc lv (.int y :: .int x :: st) M :=
  fun H locs ls hl hM hS => lv_ixor C.1.1 C.1.2.1 d (k H locs ls hl hM hS)
theorem dz_ishl (C : dt_Cx nb G A p s m args meth c cc nL own) {x y : Int32} (d : decode cc pc = .ok (.ishl, 1)) (k : dt_At G A p l e R s m args below meth c nL Q (pc + 1) lv (.int (x <<< (y &&& 31)) :: st) M) : dt_At G A p l e R s m args below meth c nL Q pc lv (.int y :: .int x :: st) M :=
  fun H locs ls hl hM hS => lv_ishl C.1.1 C.1.2.1 d (k H locs ls hl hM hS)
theorem dz_ishr (C : dt_Cx nb G A p s m args meth c cc nL own) {x y : Int32} (d : decode cc pc = .ok (.ishr, 1)) (k : dt_At G A p l e R s m args below meth c nL Q (pc + 1) lv (.int (x >>> (y &&& 31)) :: st) M) : dt_At G A p l e R s m args below meth c nL Q pc lv (.int y :: .int x :: st) M :=
  fun H locs ls hl hM hS => lv_ishr C.1.1 C.1.2.1 d (k H locs ls hl hM hS)
theorem dz_iushr (C : dt_Cx nb G A p s m args meth c cc nL own) {x y : Int32} (d : decode cc pc = .ok (.iushr, 1)) (k : dt_At G A p l e R s m args below meth c nL Q (pc + 1) lv (.int (x.toUInt32 >>> (y.toUInt32 &&& Int32.toUInt32 31)).toInt32 :: st) M) : dt_At G A p l e R s m args below meth c nL Q pc lv (.int y :: .int x :: st) M :=
  fun H locs ls hl hM hS => lv_iushr C.1.1 C.1.2.1 d rfl (k H locs ls hl hM hS)
theorem dz_ineg (C : dt_Cx nb G A p s m args meth c cc nL own) {x : Int32} (d : decode cc pc = .ok (.ineg, 1)) (k : dt_At G A p l e R s m args below meth c nL Q (pc + 1) lv (.int (-x) :: st) M) : dt_At G A p l e R s m args below meth c nL Q pc lv (.int x :: st) M :=
  fun H locs ls hl hM hS => lv_ineg C.1.1 C.1.2.1 d (k H locs ls hl hM hS)
theorem dz_i2b (C : dt_Cx nb G A p s m args meth c cc nL own) {x : Int32} (d : decode cc pc = .ok (.i2b, 1)) (k : dt_At G A p l e R s m args below meth c nL Q (pc + 1) lv (.int x.toInt8.toInt32 :: st) M) : dt_At G A p l e R s m args below meth c nL Q pc lv (.int x :: st) M :=
  fun H locs ls hl hM hS => lv_i2b C.1.1 C.1.2.1 d rfl (k H locs ls hl hM hS)
theorem dz_i2c (C : dt_Cx nb G A p s m args meth c cc nL own) {x : Int32} (d : decode cc pc = .ok (.i2c, 1)) (k : dt_At G A p l e R s m args below meth c nL Q (pc + 1) lv (.int (x.toUInt32 % 65536).toInt32 :: st) M) : dt_At G A p l e R s m args below meth c nL Q pc lv (.int x :: st) M :=
  fun H locs ls hl hM hS => lv_i2c C.1.1 C.1.2.1 d rfl (k H locs ls hl hM hS)
theorem dz_i2l (C : dt_Cx nb G A p s m args meth c cc nL own) {x : Int32} (d : decode cc pc = .ok (.i2l, 1)) (k : dt_At G A p l e R s m args below meth c nL Q (pc + 1) lv (.long x.toInt64 :: st) M) : dt_At G A p l e R s m args below meth c nL Q pc lv (.int x :: st) M :=
  fun H locs ls hl hM hS => lv_i2l C.1.1 C.1.2.1 d rfl (k H locs ls hl hM hS)
theorem dz_ladd (C : dt_Cx nb G A p s m args meth c cc nL own) {x y : Int64} (d : decode cc pc = .ok (.ladd, 1)) (k : dt_At G A p l e R s m args below meth c nL Q (pc + 1) lv (.long (x + y) :: st) M) : dt_At G A p l e R s m args below meth c nL Q pc lv (.long y :: .long x :: st) M :=
  fun H locs ls hl hM hS => lv_ladd C.1.1 C.1.2.1 d (k H locs ls hl hM hS)
theorem dz_lsub (C : dt_Cx nb G A p s m args meth c cc nL own) {x y : Int64} (d : decode cc pc = .ok (.lsub, 1)) (k : dt_At G A p l e R s m args below meth c nL Q (pc + 1) lv (.long (x - y) :: st) M) : dt_At G A p l e R s m args below meth c nL Q pc lv (.long y :: .long x :: st) M :=
  fun H locs ls hl hM hS => lv_lsub C.1.1 C.1.2.1 d (k H locs ls hl hM hS)
theorem dz_lmul (C : dt_Cx nb G A p s m args meth c cc nL own) {x y : Int64} (d : decode cc pc = .ok (.lmul, 1)) (k : dt_At G A p l e R s m args below meth c nL Q (pc + 1) lv (.long (x * y) :: st) M) : dt_At G A p l e R s m args below meth c nL Q pc lv (.long y :: .long x :: st) M :=
  fun H locs ls hl hM hS => lv_lmul C.1.1 C.1.2.1 d (k H locs ls hl hM hS)
theorem dz_lcmp (C : dt_Cx nb G A p s m args meth c cc nL own) {x y : Int64} (d : decode cc pc = .ok (.lcmp, 1)) (k : dt_At G A p l e R s m args below meth c nL Q (pc + 1) lv (.int (lg_cmp x y) :: st) M) : dt_At G A p l e R s m args below meth c nL Q pc lv (.long y :: .long x :: st) M :=
  fun H locs ls hl hM hS => W.lcmp C.1.1 C.1.2.1 d (k H locs ls hl hM hS)
theorem dz_dup (C : dt_Cx nb G A p s m args meth c cc nL own) {a : Value} (d : decode cc pc = .ok (.dup, 1)) (ha : a.category = 1) (k : dt_At G A p l e R s m args below meth c nL Q (pc + 1) lv (a :: a :: st) M) : dt_At G A p l e R s m args below meth c nL Q pc lv (a :: st) M :=
  fun H locs ls hl hM hS => lv_dup C.1.1 C.1.2.1 d ha (k H locs ls hl hM hS)
theorem dz_dup2 (C : dt_Cx nb G A p s m args meth c cc nL own) {a b : Value} (d : decode cc pc = .ok (.dup2, 1)) (ha : a.category = 1) (hb : b.category = 1) (k : dt_At G A p l e R s m args below meth c nL Q (pc + 1) lv (a :: b :: a :: b :: st) M) : dt_At G A p l e R s m args below meth c nL Q pc lv (a :: b :: st) M :=
  fun H locs ls hl hM hS => lv_dup2_11 C.1.1 C.1.2.1 d ha hb (k H locs ls hl hM hS)
theorem dz_pop (C : dt_Cx nb G A p s m args meth c cc nL own) {a : Value} (d : decode cc pc = .ok (.pop, 1)) (ha : a.category = 1) (k : dt_At G A p l e R s m args below meth c nL Q (pc + 1) lv st M) : dt_At G A p l e R s m args below meth c nL Q pc lv (a :: st) M :=
  fun H locs ls hl hM hS => lv_pop C.1.1 C.1.2.1 d ha (k H locs ls hl hM hS)
theorem dz_goto (C : dt_Cx nb G A p s m args meth c cc nL own) {off : Int} {t : Nat} (d : decode cc pc = .ok (.goto off, 3)) (ht : (pc : Int) + off = (t : Int)) (k : dt_At G A p l e R s m args below meth c nL Q t lv st M) : dt_At G A p l e R s m args below meth c nL Q pc lv st M :=
  fun H locs ls hl hM hS => lv_goto C.1.1 C.1.2.1 d ht (k H locs ls hl hM hS)
theorem dz_if_eq (C : dt_Cx nb G A p s m args meth c cc nL own) {ρ : Type} {res : ρ} {X Y : Option ρ} {x : Int32} {off : Int} {t : Nat} (d : decode cc pc = .ok (.ifCond .eq off, 3)) (ht : (pc : Int) + off = (t : Int)) (h : (if x = 0 then X else Y) = some res) (kt : X = some res → dt_At G A p l e R s m args below meth c nL Q t lv st M) (kf : Y = some res → dt_At G A p l e R s m args below meth c nL Q (pc + 3) lv st M) : dt_At G A p l e R s m args below meth c nL Q pc lv (.int x :: st) M :=
  fun H locs ls hl hM hS => lv_if_eq C.1.1 C.1.2.1 d ht (fun hc => kt (by rw [if_pos hc] at h; exact h) H locs ls hl hM hS) (fun hc => kf (by rw [if_neg hc] at h; exact h) H locs ls hl hM hS)
theorem dz_icmp_eq (C : dt_Cx nb G A p s m args meth c cc nL own) {ρ : Type} {res : ρ} {X Y : Option ρ} {x y : Int32} {off : Int} {t : Nat} (d : decode cc pc = .ok (.if_icmp .eq off, 3)) (ht : (pc : Int) + off = (t : Int)) (h : (if x = y then X else Y) = some res) (kt : X = some res → dt_At G A p l e R s m args below meth c nL Q t lv st M) (kf : Y = some res → dt_At G A p l e R s m args below meth c nL Q (pc + 3) lv st M) : dt_At G A p l e R s m args below meth c nL Q pc lv (.int y :: .int x :: st) M :=
  fun H locs ls hl hM hS => lv_icmp_eq C.1.1 C.1.2.1 d ht (fun hc => kt (by rw [if_pos hc] at h; exact h) H locs ls hl hM hS) (fun hc => kf (by rw [if_neg hc] at h; exact h) H locs ls hl hM hS)
theorem dz_if_ne (C : dt_Cx nb G A p s m args meth c cc nL own) {ρ : Type} {res : ρ} {X Y : Option ρ} {x : Int32} {off : Int} {t : Nat} (d : decode cc pc = .ok (.ifCond .ne off, 3)) (ht : (pc : Int) + off = (t : Int)) (h : (if x = 0 then Y else X) = some res) (kt : X = some res → dt_At G A p l e R s m args below meth c nL Q t lv st M) (kf : Y = some res → dt_At G A p l e R s m args below meth c nL Q (pc + 3) lv st M) : dt_At G A p l e R s m args below meth c nL Q pc lv (.int x :: st) M :=
  fun H locs ls hl hM hS => lv_if_ne C.1.1 C.1.2.1 d ht (fun hc => kt (by rw [if_neg hc] at h; exact h) H locs ls hl hM hS) (fun hc => kf (by rw [if_pos hc] at h; exact h) H locs ls hl hM hS)
theorem dz_icmp_ne (C : dt_Cx nb G A p s m args meth c cc nL own) {ρ : Type} {res : ρ} {X Y : Option ρ} {x y : Int32} {off : Int} {t : Nat} (d : decode cc pc = .ok (.if_icmp .ne off, 3)) (ht : (pc : Int) + off = (t : Int)) (h : (if x = y then Y else X) = some res) (kt : X = some res → dt_At G A p l e R s m args below meth c nL Q t lv st M) (kf : Y = some res → dt_At G A p l e R s m args below meth c nL Q (pc + 3) lv st M) : dt_At G A p l e R s m args below meth c nL Q pc lv (.int y :: .int x :: st) M :=
  fun H locs ls hl hM hS => lv_icmp_ne C.1.1 C.1.2.1 d ht (fun hc => kt (by rw [if_neg hc] at h; exact h) H locs ls hl hM hS) (fun hc => kf (by rw [if_pos hc] at h; exact h) H locs ls hl hM hS)
theorem dz_if_lt (C : dt_Cx nb G A p s m args meth c cc nL own) {ρ : Type} {res : ρ} {X Y : Option ρ} {x : Int32} {off : Int} {t : Nat} (d : decode cc pc = .ok (.ifCond .lt off, 3)) (ht : (pc : Int) + off = (t : Int)) (h : (if x < 0 then X else Y) = some res) (kt : X = some res → dt_At G A p l e R s m args below meth c nL Q t lv st M) (kf : Y = some res → dt_At G A p l e R s m args below meth c nL Q (pc + 3) lv st M) : dt_At G A p l e R s m args below meth c nL Q pc lv (.int x :: st) M :=
  fun H locs ls hl hM hS => lv_if_lt C.1.1 C.1.2.1 d ht (fun hc => kt (by rw [if_pos hc] at h; exact h) H locs ls hl hM hS) (fun hc => kf (by rw [if_neg hc] at h; exact h) H locs ls hl hM hS)
theorem dz_icmp_lt (C : dt_Cx nb G A p s m args meth c cc nL own) {ρ : Type} {res : ρ} {X Y : Option ρ} {x y : Int32} {off : Int} {t : Nat} (d : decode cc pc = .ok (.if_icmp .lt off, 3)) (ht : (pc : Int) + off = (t : Int)) (h : (if x < y then X else Y) = some res) (kt : X = some res → dt_At G A p l e R s m args below meth c nL Q t lv st M) (kf : Y = some res → dt_At G A p l e R s m args below meth c nL Q (pc + 3) lv st M) : dt_At G A p l e R s m args below meth c nL Q pc lv (.int y :: .int x :: st) M :=
  fun H locs ls hl hM hS => lv_icmp_lt C.1.1 C.1.2.1 d ht (fun hc => kt (by rw [if_pos hc] at h; exact h) H locs ls hl hM hS) (fun hc => kf (by rw [if_neg hc] at h; exact h) H locs ls hl hM hS)
theorem dz_if_ge (C : dt_Cx nb G A p s m args meth c cc nL own) {ρ : Type} {res : ρ} {X Y : Option ρ} {x : Int32} {off : Int} {t : Nat} (d : decode cc pc = .ok (.ifCond .ge off, 3)) (ht : (pc : Int) + off = (t : Int)) (h : (if 0 ≤ x then X else Y) = some res) (kt : X = some res → dt_At G A p l e R s m args below meth c nL Q t lv st M) (kf : Y = some res → dt_At G A p l e R s m args below meth c nL Q (pc + 3) lv st M) : dt_At G A p l e R s m args below meth c nL Q pc lv (.int x :: st) M :=
  fun H locs ls hl hM hS => lv_if_ge C.1.1 C.1.2.1 d ht (fun hc => kt (by rw [if_pos hc] at h; exact h) H locs ls hl hM hS) (fun hc => kf (by rw [if_neg hc] at h; exact h) H locs ls hl hM hS)
theorem dz_icmp_ge (C : dt_Cx nb G A p s m args meth c cc nL own) {ρ : Type} {res : ρ} {X Y : Option ρ} {x y : Int32} {off : Int} {t : Nat} (d : decode cc pc = .ok (.if_icmp .ge off, 3)) (ht : (pc : Int) + off = (t : Int)) (h : (if y ≤ x then X else Y) = some res) (kt : X = some res → dt_At G A p l e R s m args below meth c nL Q t lv st M) (kf : Y = some res → dt_At G A p l e R s m args below meth c nL Q (pc + 3) lv st M) : dt_At G A p l e R s m args below meth c nL Q pc lv (.int y :: .int x :: st) M :=
  fun H locs ls hl hM hS => lv_icmp_ge C.1.1 C.1.2.1 d ht (fun hc => kt (by rw [if_pos hc] at h; exact h) H locs ls hl hM hS) (fun hc => kf (by rw [if_neg hc] at h; exact h) H locs ls hl hM hS)
theorem dz_if_gt (C : dt_Cx nb G A p s m args meth c cc nL own) {ρ : Type} {res : ρ} {X Y : Option ρ} {x : Int32} {off : Int} {t : Nat} (d : decode cc pc = .ok (.ifCond .gt off, 3)) (ht : (pc : Int) + off = (t : Int)) (h : (if 0 < x then X else Y) = some res) (kt : X = some res → dt_At G A p l e R s m args below meth c nL Q t lv st M) (kf : Y = some res → dt_At G A p l e R s m args below meth c nL Q (pc + 3) lv st M) : dt_At G A p l e R s m args below meth c nL Q pc lv (.int x :: st) M :=
  fun H locs ls hl hM hS => lv_if_gt C.1.1 C.1.2.1 d ht (fun hc => kt (by rw [if_pos hc] at h; exact h) H locs ls hl hM hS) (fun hc => kf (by rw [if_neg hc] at h; exact h) H locs ls hl hM hS)
theorem dz_icmp_gt (C : dt_Cx nb G A p s m args meth c cc nL own) {ρ : Type} {res : ρ} {X Y : Option ρ} {x y : Int32} {off : Int} {t : Nat} (d : decode cc pc = .ok (.if_icmp .gt off, 3)) (ht : (pc : Int) + off = (t : Int)) (h : (if y < x then X else Y) = some res) (kt : X = some res → dt_At G A p l e R s m args below meth c nL Q t lv st M) (kf : Y = some res → dt_At G A p l e R s m args below meth c nL Q (pc + 3) lv st M) : dt_At G A p l e R s m args below meth c nL Q pc lv (.int y :: .int x :: st) M :=
  fun H locs ls hl hM hS => lv_icmp_gt C.1.1 C.1.2.1 d ht (fun hc => kt (by rw [if_pos hc] at h; exact h) H locs ls hl hM hS) (fun hc => kf (by rw [if_neg hc] at h; exact h) H locs ls hl hM hS)
theorem dz_if_le (C : dt_Cx nb G A p s m args meth c cc nL own) {ρ : Type} {res : ρ} {X Y : Option ρ} {x : Int32} {off : Int} {t : Nat} (d : decode cc pc = .ok (.ifCond .le off, 3)) (ht : (pc : Int) + off = (t : Int)) (h : (if x ≤ 0 then X else Y) = some res) (kt : X = some res → dt_At G A p l e R s m args below meth c nL Q t lv st M) (kf : Y = some res → dt_At G A p l e R s m args below meth c nL Q (pc + 3) lv st M) : dt_At G A p l e R s m args below meth c nL Q pc lv (.int x :: st) M :=
  fun H locs ls hl hM hS => lv_if_le C.1.1 C.1.2.1 d ht (fun hc => kt (by rw [if_pos hc] at h; exact h) H locs ls hl hM hS) (fun hc => kf (by rw [if_neg hc] at h; exact h) H locs ls hl hM hS)
theorem dz_icmp_le (C : dt_Cx nb G A p s m args meth c cc nL own) {ρ : Type} {res : ρ} {X Y : Option ρ} {x y : Int32} {off : Int} {t : Nat} (d : decode cc pc = .ok (.if_icmp .le off, 3)) (ht : (pc : Int) + off = (t : Int)) (h : (if x ≤ y then X else Y) = some res) (kt : X = some res → dt_At G A p l e R s m args below meth c nL Q t lv st M) (kf : Y = some res → dt_At G A p l e R s m args below meth c nL Q (pc + 3) lv st M) : dt_At G A p l e R s m args below meth c nL Q pc lv (.int y :: .int x :: st) M :=
  fun H locs ls hl hM hS => lv_icmp_le C.1.1 C.1.2.1 d ht (fun hc => kt (by rw [if_pos hc] at h; exact h) H locs ls hl hM hS) (fun hc => kf (by rw [if_neg hc] at h; exact h) H locs ls hl hM hS)
theorem dz_idiv (C : dt_Cx nb G A p s m args meth c cc nL own) {ρ : Type} {res : ρ} {X : Option ρ} {x y : Int32} (d : decode cc pc = .ok (.idiv, 1)) (h : (if y = 0 then none else X) = some res) (k : X = some res → dt_At G A p l e R s m args below meth c nL Q (pc + 1) lv (.int (x / y) :: st) M) : dt_At G A p l e R s m args below meth c nL Q pc lv (.int y :: .int x :: st) M :=
  fun H locs ls hl hM hS => by
    by_cases hy : y = 0
    · rw [if_pos hy] at h; cases h
    · rw [if_neg hy] at h
      exact lv_idiv C.1.1 C.1.2.1 d hy (k h H locs ls hl hM hS)
theorem dz_irem (C : dt_Cx nb G A p s m args meth c cc nL own) {ρ : Type} {res : ρ} {X : Option ρ} {x y : Int32} (d : decode cc pc = .ok (.irem, 1)) (h : (if y = 0 then none else X) = some res) (k : X = some res → dt_At G A p l e R s m args below meth c nL Q (pc + 1) lv (.int (x - x / y * y) :: st) M) : dt_At G A p l e R s m args below meth c nL Q pc lv (.int y :: .int x :: st) M :=
  fun H locs ls hl hM hS => by
    by_cases hy : y = 0
    · rw [if_pos hy] at h; cases h
    · rw [if_neg hy] at h
      exact lv_irem C.1.1 C.1.2.1 d hy (k h H locs ls hl hM hS)
theorem dz_idivc (C : dt_Cx nb G A p s m args meth c cc nL own) {x y : Int32} (d : decode cc pc = .ok (.idiv, 1)) (hy : ¬ y = 0) (k : dt_At G A p l e R s m args below meth c nL Q (pc + 1) lv (.int (x / y) :: st) M) : dt_At G A p l e R s m args below meth c nL Q pc lv (.int y :: .int x :: st) M :=
  fun H locs ls hl hM hS => lv_idiv C.1.1 C.1.2.1 d hy (k H locs ls hl hM hS)
theorem dz_iremc (C : dt_Cx nb G A p s m args meth c cc nL own) {x y : Int32} (d : decode cc pc = .ok (.irem, 1)) (hy : ¬ y = 0) (k : dt_At G A p l e R s m args below meth c nL Q (pc + 1) lv (.int (x - x / y * y) :: st) M) : dt_At G A p l e R s m args below meth c nL Q pc lv (.int y :: .int x :: st) M :=
  fun H locs ls hl hM hS => lv_irem C.1.1 C.1.2.1 d hy (k H locs ls hl hM hS)
theorem dt_cell0 (M : dt_M) (k : Nat) : dt_cell G M (k, 0) = (G.1 k 0, .inr (dt_c k, (List.range (dt_nf.getD (dt_c k) 0)).map (dt_fv G M k))) := by
  unfold dt_cell
  simp
theorem dt_cellA (M : dt_M) (k j : Nat) : dt_cell G M (k, j + 1) = (G.1 k (j + 1), dt_arr G M k j) := by
  unfold dt_cell
  simp
theorem dt_fvI {k j ci : Nat} (hc : dt_c k = ci) (ht : (dt_k ci j).1 = 0) : dt_fv G M k j = .int (M k j 0) := by
  unfold dt_fv
  rw [hc, if_pos ht]
theorem dt_fvO {k j ci : Nat} (hc : dt_c k = ci) (ht : (dt_k ci j).1 = 4) : dt_fv G M k j = .ref (G.1 (dt_ch k j) 0) := by
  unfold dt_fv
  rw [hc, if_neg (by rw [ht]; decide), if_pos ht]
theorem dt_fvR {k j ci : Nat} (hc : dt_c k = ci) (ht : (dt_k ci j).1 ≠ 0 ∧ (dt_k ci j).1 ≠ 4) : dt_fv G M k j = .ref (G.1 k (j + 1)) := by
  unfold dt_fv
  rw [hc, if_neg ht.1, if_neg ht.2]
theorem dz_get (C : dt_Cx nb G A p s m args meth c cc nL own) {k j ci N i : Nat} {Cn : String} {T : u_T} {ty : Nat → FieldType} {v : Value} (F : dt_Fc ci Cn T N ty) (hk : k < 18 + nb ∧ dt_c k = ci) (hj : j < N) (hT : (T j).1 = Cn) (w : Cond.fieldLink own i Cn (T j).2.1 (T j).2.2.1 ∈ dt_tbl) (hv : dt_fv G M k j = v) (d : decode cc pc = .ok (.getfield i, 3)) (kk : dt_At G A p l e R s m args below meth c nL Q (pc + 3) lv (v :: st) M) : dt_At G A p l e R s m args below meth c nL Q pc lv (.ref (G.1 k 0) :: st) M :=
  fun H locs ls hl hM hS => by
    obtain ⟨q, hq⟩ := dt_in0 (Nat.lt_of_lt_of_le hk.1 C.2.2.2.2.1)
    have he := dt_at (G := G) (M := M) hq
    rw [dt_cell0] at he
    rw [hk.2, F.2.1] at he
    refine va_get C.1.1 C.1.2.1 C.1.2.2.2.2 F.2.2.1 C.1.2.2.2.1 C.2.1.1 hM q he F.1 j hj (C.1.2.2.2.2 _ w) (fun x hx => by rw [hT] at hx; exact hx) (v := v) ?_ d (kk H locs ls hl hM hS)
    rw [List.getElem?_map, List.getElem?_range hj, ← hv]
    rfl
theorem dz_getI (C : dt_Cx nb G A p s m args meth c cc nL own) {k j ci N i : Nat} {Cn : String} {T : u_T} {ty : Nat → FieldType} {v : Int32} (F : dt_Fc ci Cn T N ty) (hk : k < 18 + nb ∧ dt_c k = ci) (hj : j < N) (ht : (dt_k ci j).1 = 0) (hT : (T j).1 = Cn) (w : Cond.fieldLink own i Cn (T j).2.1 (T j).2.2.1 ∈ dt_tbl) (hv : M k j 0 = v) (d : decode cc pc = .ok (.getfield i, 3)) (kk : dt_At G A p l e R s m args below meth c nL Q (pc + 3) lv (.int v :: st) M) : dt_At G A p l e R s m args below meth c nL Q pc lv (.ref (G.1 k 0) :: st) M :=
  dz_get C F hk hj hT w (by rw [dt_fvI hk.2 ht, hv]) d kk
theorem dz_getR (C : dt_Cx nb G A p s m args meth c cc nL own) {k j ci N i : Nat} {Cn : String} {T : u_T} {ty : Nat → FieldType} (F : dt_Fc ci Cn T N ty) (hk : k < 18 + nb ∧ dt_c k = ci) (hj : j < N) (ht : (dt_k ci j).1 ≠ 0 ∧ (dt_k ci j).1 ≠ 4) (hT : (T j).1 = Cn) (w : Cond.fieldLink own i Cn (T j).2.1 (T j).2.2.1 ∈ dt_tbl) (d : decode cc pc = .ok (.getfield i, 3)) (kk : dt_At G A p l e R s m args below meth c nL Q (pc + 3) lv (.ref (G.1 k (j + 1)) :: st) M) : dt_At G A p l e R s m args below meth c nL Q pc lv (.ref (G.1 k 0) :: st) M :=
  dz_get C F hk hj hT w (dt_fvR hk.2 ht) d kk
theorem dz_getO (C : dt_Cx nb G A p s m args meth c cc nL own) {k j ci N i o : Nat} {Cn : String} {T : u_T} {ty : Nat → FieldType} (F : dt_Fc ci Cn T N ty) (hk : k < 18 + nb ∧ dt_c k = ci) (hj : j < N) (ht : (dt_k ci j).1 = 4) (ho : dt_ch k j = o) (hT : (T j).1 = Cn) (w : Cond.fieldLink own i Cn (T j).2.1 (T j).2.2.1 ∈ dt_tbl) (d : decode cc pc = .ok (.getfield i, 3)) (kk : dt_At G A p l e R s m args below meth c nL Q (pc + 3) lv (.ref (G.1 o 0) :: st) M) : dt_At G A p l e R s m args below meth c nL Q pc lv (.ref (G.1 k 0) :: st) M :=
  dz_get C F hk hj hT w (by rw [dt_fvO hk.2 ht, ho]) d kk
/-- a memory that differs in one int field has the same cells but the object's -/
theorem dt_sameI {k j : Nat} {v : Int32} (h0 : (dt_k (dt_c k) j).1 = 0) {N : Nat} (y : Nat × Nat) (hy : y ∈ dt_all N) (hne : y ≠ (k, 0)) : dt_cell G (dt_put M k (dt_set (M k) j 0 v)) y = dt_cell G M y := by
  obtain ⟨a, b⟩ := y
  by_cases ha : a = k
  · subst ha
    cases b with
    | zero => exact absurd rfl hne
    | succ b =>
      rw [dt_cellA, dt_cellA]
      have hb : b ≠ j := by
        intro e
        subst e
        obtain ⟨k', h1, h2⟩ := List.mem_flatMap.mp hy
        rcases List.mem_cons.mp h2 with e | h3
        · cases e
        · obtain ⟨j', h4, h5⟩ := List.mem_map.mp h3
          cases h5
          have h6 := (List.mem_filter.mp h4).2
          unfold dt_isA at h6
          rw [h0] at h6
          cases h6
      unfold dt_arr
      rw [dt_put_s]
      unfold dt_set
      rw [dt_setA_n _ _ hb]
  · cases b with
    | zero =>
      rw [dt_cell0, dt_cell0]
      have e : dt_fv G (dt_put M k (dt_set (M k) j 0 v)) a = dt_fv G M a := by
        funext j'
        unfold dt_fv
        rw [dt_put_n _ _ ha]
      rw [e]
    | succ b =>
      rw [dt_cellA, dt_cellA]
      unfold dt_arr
      rw [dt_put_n _ _ ha]
/-- a memory that differs in one array has the same cells but the array's -/
theorem dt_sameA {k j : Nat} {f : Nat → Int32} (h0 : (dt_k (dt_c k) j).1 ≠ 0) (y : Nat × Nat) (hne : y ≠ (k, j + 1)) : dt_cell G (dt_put M k (dt_setA (M k) j f)) y = dt_cell G M y := by
  obtain ⟨a, b⟩ := y
  by_cases ha : a = k
  · subst ha
    cases b with
    | zero =>
      rw [dt_cell0, dt_cell0]
      have e : dt_fv G (dt_put M a (dt_setA (M a) j f)) a = dt_fv G M a := by
        funext j'
        unfold dt_fv
        by_cases hj : (dt_k (dt_c a) j').1 = 0
        · rw [if_pos hj, if_pos hj, dt_put_s, dt_setA_n]
          intro e
          subst e
          exact h0 hj
        · rw [if_neg hj, if_neg hj]
      rw [e]
    | succ b =>
      rw [dt_cellA, dt_cellA]
      have hb : b ≠ j := by
        intro e
        subst e
        exact hne rfl
      unfold dt_arr
      rw [dt_put_s, dt_setA_n _ _ hb]
  · cases b with
    | zero =>
      rw [dt_cell0, dt_cell0]
      have e : dt_fv G (dt_put M k (dt_setA (M k) j f)) a = dt_fv G M a := by
        funext j'
        unfold dt_fv
        rw [dt_put_n _ _ ha]
      rw [e]
    | succ b =>
      rw [dt_cellA, dt_cellA]
      unfold dt_arr
      rw [dt_put_n _ _ ha]
theorem dt_rangeset {α : Type} {f : Nat → α} {N j : Nat} {v : α} (hj : j < N) : ((List.range N).map f).set j v = (List.range N).map (fun i => if i = j then v else f i) := by
  apply List.ext_getElem?
  intro i
  by_cases h : i = j
  · subst h
    rw [List.getElem?_set_self (by simpa using hj), List.getElem?_map, List.getElem?_range hj]
    simp
  · rw [List.getElem?_set_ne (Ne.symm h), List.getElem?_map, List.getElem?_map]
    cases hx : (List.range N)[i]? with
    | none => rfl
    | some x =>
      have : x = i := by
        obtain ⟨a, b⟩ := List.getElem?_eq_some_iff.mp hx
        rw [List.getElem_range] at b
        exact b.symm
      subst this
      simp [h]
theorem dz_put (C : dt_Cx nb G A p s m args meth c cc nL own) {k j ci N i : Nat} {Cn : String} {T : u_T} {ty : Nat → FieldType} {v : Int32} (F : dt_Fc ci Cn T N ty) (hk : k < 18 + nb ∧ dt_c k = ci) (hj : j < N) (ht : (dt_k ci j).1 = 0) (hT : (T j).1 = Cn) (hfin : (T j).2.2.2 = false) (w : Cond.fieldLink own i Cn (T j).2.1 (T j).2.2.1 ∈ dt_tbl) (hn : narrow (ty j) (.int v) = .int v) (hft : fits (ty j) (.int v) = true) (hM' : dt_put M k (dt_set (M k) j 0 v) = M') (d : decode cc pc = .ok (.putfield i, 3)) (kk : dt_At G A p l e R s m args below meth c nL Q (pc + 3) lv st M') : dt_At G A p l e R s m args below meth c nL Q pc lv (.int v :: .ref (G.1 k 0) :: st) M :=
  fun H locs ls hl hM hS => by
    obtain ⟨q, hq⟩ := dt_in0 (Nat.lt_of_lt_of_le hk.1 C.2.2.2.2.1)
    have he := dt_at (G := G) (M := M) hq
    rw [dt_cell0] at he
    have he' := he
    rw [hk.2, F.2.1] at he
    refine va_put C.1.1 C.1.2.1 C.1.2.2.2.2 F.2.2.1 ty F.2.2.2.2 F.2.2.2.1 C.1.2.2.2.1 C.2.1.1 hM (dt_D C.2.2.1) hS q he F.1 j hj (C.1.2.2.2.2 _ w) (fun x hx => by rw [hT] at hx; exact hx) hfin (ty := ty j) (v := .int v) (F.2.2.2.2 j hj) hn hft (by rw [List.length_map, List.length_range]; exact hj) d (fun H1 locs1 hP1 _ hS1 => kk H1 locs1 ls hl ?_ hS1)
    have e1 : (G.1 k 0, (Sum.inr (ci, ((List.range N).map (dt_fv G M k)).set j (.int v)) : va_E)) = dt_cell G M' (k, 0) := by
      rw [dt_cell0, hk.2, F.2.1, dt_rangeset hj, ← hM']
      congr 3
      apply List.map_congr_left
      intro j' _
      by_cases hjj : j' = j
      · subst hjj
        rw [if_pos rfl, dt_fvI hk.2 ht, dt_put_s]
        unfold dt_set
        rw [dt_setA_s, pk_us]
      · rw [if_neg hjj]
        unfold dt_fv
        rw [dt_put_s]
        unfold dt_set
        rw [dt_setA_n _ _ hjj]
    rw [e1] at hP1
    rw [dt_ws_set C.2.2.2.2.2 hq (fun y hy hne => by rw [← hM']; exact dt_sameI (by rw [hk.2]; exact ht) y hy hne)] at hP1
    exact hP1
theorem dz_putI (C : dt_Cx nb G A p s m args meth c cc nL own) {k j ci N i : Nat} {Cn : String} {T : u_T} {ty : Nat → FieldType} {v : Int32} (F : dt_Fc ci Cn T N ty) (hk : k < 18 + nb ∧ dt_c k = ci) (hj : j < N) (ht : (dt_k ci j).1 = 0) (hty : ty j = .int) (hT : (T j).1 = Cn) (hfin : (T j).2.2.2 = false) (w : Cond.fieldLink own i Cn (T j).2.1 (T j).2.2.1 ∈ dt_tbl) (hM' : dt_put M k (dt_set (M k) j 0 v) = M') (d : decode cc pc = .ok (.putfield i, 3)) (kk : dt_At G A p l e R s m args below meth c nL Q (pc + 3) lv st M') : dt_At G A p l e R s m args below meth c nL Q pc lv (.int v :: .ref (G.1 k 0) :: st) M :=
  dz_put C F hk hj ht hT hfin w (by rw [hty]; rfl) (by rw [hty]; rfl) hM' d kk
theorem dz_putZ (C : dt_Cx nb G A p s m args meth c cc nL own) {k j ci N i : Nat} {Cn : String} {T : u_T} {ty : Nat → FieldType} {v : Int32} (F : dt_Fc ci Cn T N ty) (hk : k < 18 + nb ∧ dt_c k = ci) (hj : j < N) (ht : (dt_k ci j).1 = 0) (hty : ty j = .boolean) (hz : v = 0 ∨ v = 1) (hT : (T j).1 = Cn) (hfin : (T j).2.2.2 = false) (w : Cond.fieldLink own i Cn (T j).2.1 (T j).2.2.1 ∈ dt_tbl) (hM' : dt_put M k (dt_set (M k) j 0 v) = M') (d : decode cc pc = .ok (.putfield i, 3)) (kk : dt_At G A p l e R s m args below meth c nL Q (pc + 3) lv st M') : dt_At G A p l e R s m args below meth c nL Q pc lv (.int v :: .ref (G.1 k 0) :: st) M :=
  dz_put C F hk hj ht hT hfin w (by rw [hty]; rcases hz with rfl | rfl <;> decide) (by rw [hty]; rcases hz with rfl | rfl <;> decide) hM' d kk
/-- an index within a row of n, as a number -/
def dt_ix (i : Int32) (n : Nat) : Option Nat := if i < 0 ∨ n ≤ i.toNatClampNeg then none else some i.toNatClampNeg
theorem dt_ix_in {i : Int32} {n a : Nat} (h : dt_ix i n = some a) : vp_in i n ∧ i.toNatClampNeg = a ∧ a < n := by
  unfold dt_ix at h
  by_cases hc : i < 0 ∨ n ≤ i.toNatClampNeg
  · rw [if_pos hc] at h; cases h
  · rw [if_neg hc] at h
    have e := Option.some.inj h
    refine ⟨hc, e, ?_⟩
    rw [← e]
    exact Nat.not_le.mp (fun q => hc (Or.inr q))
theorem dt_isA_of {k j ci t n : Nat} (hc : dt_c k = ci) (ht : dt_k ci j = (t, n)) (h : t = 1 ∨ t = 2 ∨ t = 3 ∨ t = 5) : dt_isA k j = true := by
  unfold dt_isA
  rw [hc, ht]
  rcases h with rfl | rfl | rfl | rfl <;> rfl
theorem dz_iald (C : dt_Cx nb G A p s m args meth c cc nL own) {ρ : Type} {res : ρ} {g : Nat → Option ρ} {k j ci n : Nat} {i : Int32} {f : Nat → Int32} (hk : k < 18 + nb ∧ dt_c k = ci) (hj : j < 46) (ht : dt_k ci j = (1, n)) (hf : M k j = f) (d : decode cc pc = .ok (.iaload, 1)) (h : (dt_ix i n).bind g = some res) (kk : ∀ a, g a = some res → dt_At G A p l e R s m args below meth c nL Q (pc + 1) lv (.int (f a) :: st) M) : dt_At G A p l e R s m args below meth c nL Q pc lv (.int i :: .ref (G.1 k (j + 1)) :: st) M :=
  fun H locs ls hl hM hS => by
    obtain ⟨a, h1, h2⟩ := dt_bind h
    obtain ⟨h3, h4, -⟩ := dt_ix_in h1
    obtain ⟨q, hq⟩ := dt_inA (Nat.lt_of_lt_of_le hk.1 C.2.2.2.2.1) hj (dt_isA_of hk.2 ht (Or.inl rfl))
    have he := dt_at (G := G) (M := M) hq
    rw [dt_cellA] at he
    unfold dt_arr at he
    rw [hk.2, ht, if_pos rfl, hf] at he
    refine va_iald C.1.1 C.1.2.1 C.2.1.1 hM q 0 he rfl h3 d ?_
    rw [h4]
    exact kk a h2 H locs ls hl hM hS
theorem dz_bald (C : dt_Cx nb G A p s m args meth c cc nL own) {ρ : Type} {res : ρ} {g : Nat → Option ρ} {k j ci n : Nat} {i : Int32} {f : Nat → Int32} (hk : k < 18 + nb ∧ dt_c k = ci) (hj : j < 46) (ht : dt_k ci j = (2, n)) (hf : M k j = f) (d : decode cc pc = .ok (.baload, 1)) (h : (dt_ix i n).bind g = some res) (kk : ∀ a, g a = some res → dt_At G A p l e R s m args below meth c nL Q (pc + 1) lv (.int (f a) :: st) M) : dt_At G A p l e R s m args below meth c nL Q pc lv (.int i :: .ref (G.1 k (j + 1)) :: st) M :=
  fun H locs ls hl hM hS => by
    obtain ⟨a, h1, h2⟩ := dt_bind h
    obtain ⟨h3, h4, -⟩ := dt_ix_in h1
    obtain ⟨q, hq⟩ := dt_inA (Nat.lt_of_lt_of_le hk.1 C.2.2.2.2.1) hj (dt_isA_of hk.2 ht (Or.inr (Or.inl rfl)))
    have he := dt_at (G := G) (M := M) hq
    rw [dt_cellA] at he
    unfold dt_arr at he
    rw [hk.2, ht, if_neg (show ¬ (2 : Nat) = 1 by decide), if_pos rfl, hf] at he
    refine va_bald C.1.1 C.1.2.1 C.2.1.1 hM q 1 he rfl h3 d ?_
    rw [h4]
    exact kk a h2 H locs ls hl hM hS
theorem dz_lald (C : dt_Cx nb G A p s m args meth c cc nL own) {ρ : Type} {res : ρ} {g : Nat → Option ρ} {k j ci n : Nat} {i : Int32} {f : Nat → Int32} (hk : k < 18 + nb ∧ dt_c k = ci) (hj : j < 46) (ht : dt_k ci j = (3, n)) (hf : M k j = f) (d : decode cc pc = .ok (.laload, 1)) (h : (dt_ix i n).bind g = some res) (kk : ∀ a, g a = some res → dt_At G A p l e R s m args below meth c nL Q (pc + 1) lv (.long (dt_lg f a) :: st) M) : dt_At G A p l e R s m args below meth c nL Q pc lv (.int i :: .ref (G.1 k (j + 1)) :: st) M :=
  fun H locs ls hl hM hS => by
    obtain ⟨a, h1, h2⟩ := dt_bind h
    obtain ⟨h3, h4, -⟩ := dt_ix_in h1
    obtain ⟨q, hq⟩ := dt_inA (Nat.lt_of_lt_of_le hk.1 C.2.2.2.2.1) hj (dt_isA_of hk.2 ht (Or.inr (Or.inr (Or.inl rfl))))
    have he := dt_at (G := G) (M := M) hq
    rw [dt_cellA] at he
    unfold dt_arr at he
    rw [hk.2, ht, if_neg (show ¬ (3 : Nat) = 1 by decide), if_neg (show ¬ (3 : Nat) = 2 by decide), if_pos rfl, hf] at he
    refine va_lald C.1.1 C.1.2.1 C.2.1.1 hM q 2 he rfl h3 d ?_
    rw [h4]
    exact kk a h2 H locs ls hl hM hS
theorem dz_aald (C : dt_Cx nb G A p s m args meth c cc nL own) {ρ : Type} {res : ρ} {g : Nat → Option ρ} {k j ci n : Nat} {i : Int32} (hk : k < 18 + nb ∧ dt_c k = ci) (hj : j < 46) (ht : dt_k ci j = (5, n)) (d : decode cc pc = .ok (.aaload, 1)) (h : (dt_ix i n).bind g = some res) (kk : ∀ a, a < n → g a = some res → dt_At G A p l e R s m args below meth c nL Q (pc + 1) lv (.ref (G.1 k (38 + a + 1)) :: st) M) : dt_At G A p l e R s m args below meth c nL Q pc lv (.int i :: .ref (G.1 k (j + 1)) :: st) M :=
  fun H locs ls hl hM hS => by
    obtain ⟨a, h1, h2⟩ := dt_bind h
    obtain ⟨h3, h4, h5⟩ := dt_ix_in h1
    obtain ⟨q, hq⟩ := dt_inA (Nat.lt_of_lt_of_le hk.1 C.2.2.2.2.1) hj (dt_isA_of hk.2 ht (Or.inr (Or.inr (Or.inr rfl))))
    have he := dt_at (G := G) (M := M) hq
    rw [dt_cellA] at he
    unfold dt_arr at he
    rw [hk.2, ht, if_neg (show ¬ (5 : Nat) = 1 by decide), if_neg (show ¬ (5 : Nat) = 2 by decide), if_neg (show ¬ (5 : Nat) = 3 by decide)] at he
    have hlt : i.toNatClampNeg < n := by rw [h4]; exact h5
    refine W.aald (v := .ref (G.1 k (38 + a + 1))) C.1.1 C.1.2.1 (hM q _ he) ((C.2.1.1.2 3 _ rfl).1 n (fun z => va_rf (some (G.1 k (38 + z + 1))))) rfl (fun z => by cases z) (by show ¬ (i < 0 ∨ (arrV _ _ _).slots.size ≤ _); rw [arrV_size]; exact h3) (by show (arrV _ _ _).slots[_]? = _; rw [arrV_read _ _ hlt, h4]; rfl) rfl rfl d ?_
    exact kk a h5 h2 H locs ls hl hM hS
theorem dz_alen (C : dt_Cx nb G A p s m args meth c cc nL own) {k j ci t n : Nat} {v : Int32} (hk : k < 18 + nb ∧ dt_c k = ci) (hj : j < 46) (ht : dt_k ci j = (t, n)) (h1 : t = 1) (hv : Int32.ofNat n = v) (d : decode cc pc = .ok (.arraylength, 1)) (kk : dt_At G A p l e R s m args below meth c nL Q (pc + 1) lv (.int v :: st) M) : dt_At G A p l e R s m args below meth c nL Q pc lv (.ref (G.1 k (j + 1)) :: st) M :=
  fun H locs ls hl hM hS => by
    subst h1
    obtain ⟨q, hq⟩ := dt_inA (Nat.lt_of_lt_of_le hk.1 C.2.2.2.2.1) hj (dt_isA_of hk.2 ht (Or.inl rfl))
    have he := dt_at (G := G) (M := M) hq
    rw [dt_cellA] at he
    unfold dt_arr at he
    rw [hk.2, ht, if_pos rfl] at he
    exact va_alen C.1.1 C.1.2.1 C.2.1.1 hM q 0 he rfl hv d (kk H locs ls hl hM hS)
theorem dz_alenB (C : dt_Cx nb G A p s m args meth c cc nL own) {k j ci n : Nat} {v : Int32} (hk : k < 18 + nb ∧ dt_c k = ci) (hj : j < 46) (ht : dt_k ci j = (2, n)) (hv : Int32.ofNat n = v) (d : decode cc pc = .ok (.arraylength, 1)) (kk : dt_At G A p l e R s m args below meth c nL Q (pc + 1) lv (.int v :: st) M) : dt_At G A p l e R s m args below meth c nL Q pc lv (.ref (G.1 k (j + 1)) :: st) M :=
  fun H locs ls hl hM hS => by
    obtain ⟨q, hq⟩ := dt_inA (Nat.lt_of_lt_of_le hk.1 C.2.2.2.2.1) hj (dt_isA_of hk.2 ht (Or.inr (Or.inl rfl)))
    have he := dt_at (G := G) (M := M) hq
    rw [dt_cellA] at he
    unfold dt_arr at he
    rw [hk.2, ht, if_neg (show ¬ (2 : Nat) = 1 by decide), if_pos rfl] at he
    exact va_alen C.1.1 C.1.2.1 C.2.1.1 hM q 1 he rfl hv d (kk H locs ls hl hM hS)
theorem dt_wsA (hN : dt_n G = 18 ∨ dt_n G = 19) {k j q : Nat} {f : Nat → Int32} {E : va_E} (hq : (dt_all (dt_n G))[q]? = some (k, j + 1)) (h0 : (dt_k (dt_c k) j).1 ≠ 0) (hM' : dt_put M k (dt_setA (M k) j f) = M') (hE : dt_arr G M' k j = E) : (dt_ws G M).set q (G.1 k (j + 1), E) = dt_ws G M' := by
  rw [← hE, ← dt_cellA]
  exact dt_ws_set hN hq (fun y _ hne => by rw [← hM']; exact dt_sameA h0 y hne)
theorem dz_iast (C : dt_Cx nb G A p s m args meth c cc nL own) {ρ : Type} {res : ρ} {g : Nat → Option ρ} {k j ci n : Nat} {i x : Int32} {M' : Nat → dt_M} (hk : k < 18 + nb ∧ dt_c k = ci) (hj : j < 46) (ht : dt_k ci j = (1, n)) (hM' : ∀ a, dt_put M k (dt_set (M k) j a x) = M' a) (d : decode cc pc = .ok (.iastore, 1)) (h : (dt_ix i n).bind g = some res) (kk : ∀ a, g a = some res → dt_At G A p l e R s m args below meth c nL Q (pc + 1) lv st (M' a)) : dt_At G A p l e R s m args below meth c nL Q pc lv (.int x :: .int i :: .ref (G.1 k (j + 1)) :: st) M :=
  fun H locs ls hl hM hS => by
    obtain ⟨a, h1, h2⟩ := dt_bind h
    obtain ⟨h3, h4, -⟩ := dt_ix_in h1
    obtain ⟨q, hq⟩ := dt_inA (Nat.lt_of_lt_of_le hk.1 C.2.2.2.2.1) hj (dt_isA_of hk.2 ht (Or.inl rfl))
    have he := dt_at (G := G) (M := M) hq
    rw [dt_cellA] at he
    unfold dt_arr at he
    rw [hk.2, ht, if_pos rfl] at he
    refine va_iast C.1.1 C.1.2.1 C.2.1.1 hM (dt_D C.2.2.1) hS q 0 he rfl h3 d (fun H1 locs1 hP1 _ hS1 => kk a h2 H1 locs1 ls hl ?_ hS1)
    rw [h4] at hP1
    rw [dt_wsA C.2.2.2.2.2 hq (by rw [hk.2, ht]; exact Nat.one_ne_zero) (hM' a) (by unfold dt_arr; rw [hk.2, ht, if_pos rfl, ← hM' a, dt_put_s]; unfold dt_set; rw [dt_setA_s])] at hP1
    exact hP1
theorem dz_bast (C : dt_Cx nb G A p s m args meth c cc nL own) {ρ : Type} {res : ρ} {g : Nat → Option ρ} {k j ci n : Nat} {i x : Int32} {M' : Nat → dt_M} (hk : k < 18 + nb ∧ dt_c k = ci) (hj : j < 46) (ht : dt_k ci j = (2, n)) (hM' : ∀ a, dt_put M k (dt_set (M k) j a x.toInt8.toInt32) = M' a) (d : decode cc pc = .ok (.bastore, 1)) (h : (dt_ix i n).bind g = some res) (kk : ∀ a, g a = some res → dt_At G A p l e R s m args below meth c nL Q (pc + 1) lv st (M' a)) : dt_At G A p l e R s m args below meth c nL Q pc lv (.int x :: .int i :: .ref (G.1 k (j + 1)) :: st) M :=
  fun H locs ls hl hM hS => by
    obtain ⟨a, h1, h2⟩ := dt_bind h
    obtain ⟨h3, h4, -⟩ := dt_ix_in h1
    obtain ⟨q, hq⟩ := dt_inA (Nat.lt_of_lt_of_le hk.1 C.2.2.2.2.1) hj (dt_isA_of hk.2 ht (Or.inr (Or.inl rfl)))
    have he := dt_at (G := G) (M := M) hq
    rw [dt_cellA] at he
    unfold dt_arr at he
    rw [hk.2, ht, if_neg (show ¬ (2 : Nat) = 1 by decide), if_pos rfl] at he
    refine va_bast C.1.1 C.1.2.1 C.2.1.1 hM (dt_D C.2.2.1) hS q 1 he rfl h3 d (fun H1 locs1 hP1 _ hS1 => kk a h2 H1 locs1 ls hl ?_ hS1)
    rw [h4, vp_nar_byte] at hP1
    rw [dt_wsA C.2.2.2.2.2 hq (by rw [hk.2, ht]; exact Nat.succ_ne_zero 1) (hM' a) (by unfold dt_arr; rw [hk.2, ht, if_neg (show ¬ (2 : Nat) = 1 by decide), if_pos rfl, ← hM' a, dt_put_s]; unfold dt_set; rw [dt_setA_s])] at hP1
    exact hP1
theorem dz_last (C : dt_Cx nb G A p s m args meth c cc nL own) {ρ : Type} {res : ρ} {g : Nat → Option ρ} {k j ci n : Nat} {i : Int32} {x : Int64} {M' : Nat → dt_M} (hk : k < 18 + nb ∧ dt_c k = ci) (hj : j < 46) (ht : dt_k ci j = (3, n)) (hM' : ∀ a, dt_put M k (dt_setL (M k) j a x) = M' a) (d : decode cc pc = .ok (.lastore, 1)) (h : (dt_ix i n).bind g = some res) (kk : ∀ a, g a = some res → dt_At G A p l e R s m args below meth c nL Q (pc + 1) lv st (M' a)) : dt_At G A p l e R s m args below meth c nL Q pc lv (.long x :: .int i :: .ref (G.1 k (j + 1)) :: st) M :=
  fun H locs ls hl hM hS => by
    obtain ⟨a, h1, h2⟩ := dt_bind h
    obtain ⟨h3, h4, -⟩ := dt_ix_in h1
    obtain ⟨q, hq⟩ := dt_inA (Nat.lt_of_lt_of_le hk.1 C.2.2.2.2.1) hj (dt_isA_of hk.2 ht (Or.inr (Or.inr (Or.inl rfl))))
    have he := dt_at (G := G) (M := M) hq
    rw [dt_cellA] at he
    unfold dt_arr at he
    rw [hk.2, ht, if_neg (show ¬ (3 : Nat) = 1 by decide), if_neg (show ¬ (3 : Nat) = 2 by decide), if_pos rfl] at he
    refine va_last C.1.1 C.1.2.1 C.2.1.1 hM (dt_D C.2.2.1) hS q 2 he rfl h3 d (fun H1 locs1 hP1 _ hS1 => kk a h2 H1 locs1 ls hl ?_ hS1)
    rw [h4] at hP1
    rw [dt_wsA C.2.2.2.2.2 hq (by rw [hk.2, ht]; exact Nat.succ_ne_zero 2) (hM' a) (by unfold dt_arr; rw [hk.2, ht, if_neg (show ¬ (3 : Nat) = 1 by decide), if_neg (show ¬ (3 : Nat) = 2 by decide), if_pos rfl, ← hM' a, dt_put_s]; unfold dt_setL; rw [dt_setA_s, dt_lg_set])] at hP1
    exact hP1
end ROWS
