/-! ===== rows for constructors: worlds of cells that grow ===== -/
def dt_ty (cy : Nat → ClassId) : List (ClassId × FieldType) := [(cy 0, .int), (cy 1, .byte), (cy 2, .long), (cy 3, .array .int)]
def dt_nl : List (String × Nat × MethodName) := [(RX8, 18, yX1_init), (RX8, 25, yX7_init), (RX8, 32, yX0_init), (RX8, 39, yX4_init), (RX8, 9, yX5_init), (RX9, 25, yX6_init), (RX9, 40, yX7_init), (RX9, 53, yX5_init), (RX9, 60, yX3_init), (RX9, 67, yX2_init), (RX9, 9, yX8_init)]
def dt_N (U : State) : Prop := (∀ q : String × Nat × MethodName, q ∈ dt_nl → va_Nw (.methodLinkNest q.1 q.2.1 q.2.2 "DuskTower") U) ∧ (Cond.arrayOver (.array .int)).before #[] U = true
theorem dt_N.to {s U : State} (h : dt_N s) (hW : s.WarmedH U.vm) : dt_N U := ⟨fun q hq => va_Nw.warmM hW (h.1 q hq), over_moved hW.alike h.2⟩
theorem dt_N.call {U : State} (h : dt_N U) (g : JFrame) (mk : MethodId) (a : Array Value) : dt_N (U.calling g mk a) := ⟨fun q hq => va_Nw.same rfl rfl (h.1 q hq), over_moved (u := U) (E := U.calling g mk a) (Vm.Alike.refl _) h.2⟩
def dt_Bx (D : va_G) (cy : Nat → ClassId) (A : Nat → Prop) (p : Program) (s : State) (m : MethodId) (args : Array Value) (meth : Method) (c : Code) (cc : ByteArray) (nL : Nat) (own : String) : Prop :=
  CallFix p m c cc nL s args dt_tbl own ∧ va_K D vwCl (dt_ty cy) s ∧ (∀ q, s.heap.size ≤ q → A q) ∧ meth.locks = false ∧ meth.name = "<init>" ∧ dt_N s
def dt_Bt (D : va_G) (A : Nat → Prop) (p : Program) (l : Launch) (e : Env) (R : Room) (s : State) (m : MethodId) (args : Array Value) (below : List Frame) (meth : Method) (c : Code) (nL : Nat) (Q : State → Prop) (cs ss pc : Nat) (lv : List (Nat × Value)) (st : List Value) (X : va_W) : Prop :=
  ∀ (H : Heap) (locs : List Loc) (ls : Array Slot), lv_has ls nL lv → va_P D vwCl X H → va_D A X → va_S A s.heap H locs → W p l e R s m args below meth c H locs cs ss Q (F0 m pc ls st)
def dt_Ct (l : Launch) (y : MethodName) (code : ByteArray) (ci : Nat) (fs0 : List Value) (h mc ms : Nat) (res : (Nat → ClassId) → (Nat → Nat) → Nat → va_W) : Prop :=
  ∀ (D : va_G) (cy : Nat → ClassId) (h0 sz : Nat), Met l y (dt_wm y code 1 none) { frames := h, cells := mc, slots := ms, locals := 40 * h }
    (fun v U => v = #[.ref h0] ∧ U.heap.size = sz ∧ va_P D vwCl [(h0, .inr (ci, fs0))] U.heap ∧ va_K D vwCl (dt_ty cy) U ∧ dt_N U)
    (fun _ st o t => (o = .returned none ∧ ∃ f : Nat → Nat, va_P D vwCl (res cy f h0) t.heap ∧ va_D (va_A [(h0, .inr (ci, fs0))] sz) (res cy f h0)) ∧ va_F (va_A [(h0, .inr (ci, fs0))] sz) st t)
    mc ms (va_A [(h0, .inr (ci, fs0))] sz)
theorem dt_wObj : Cond.instanceMethod objectInit ∈ dt_tbl ∧ Cond.code objectInit ⟨#[0xb1]⟩ 1 none ∈ dt_tbl := ⟨dt_tin (by decide +kernel) rfl, dt_tin (by decide +kernel) rfl⟩
theorem dt_wArr : Cond.arrayClass .int ∈ dt_tbl ∧ Cond.arrayClass .byte ∈ dt_tbl ∧ Cond.arrayClass .long ∈ dt_tbl := ⟨dt_tin (by decide +kernel) rfl, dt_tin (by decide +kernel) rfl, dt_tin (by decide +kernel) rfl⟩
theorem va_nd_range (n : Nat) : va_nd (List.range n) = true := by
  have key : ∀ l : List Nat, l.Nodup → va_nd l = true := by
    intro l
    induction l with
    | nil => intro _; rfl
    | cons a l ih =>
      intro h
      have h2 := List.nodup_cons.mp h
      simp only [va_nd, Bool.and_eq_true, decide_eq_true_eq]
      exact ⟨h2.1, ih h2.2⟩
  exact key _ List.nodup_range
theorem dt_last {Y : va_W} {x : Nat × va_E} : [Y.length].map (fun i => (Y ++ [x])[i]?) = [x].map some := by simp
theorem dt_front {Y : va_W} {x : Nat × va_E} : (List.range Y.length).map (fun i => (Y ++ [x])[i]?) = Y.map some := by
  apply List.ext_getElem?
  intro i
  rw [List.getElem?_map, List.getElem?_map]
  by_cases h : i < Y.length
  · rw [List.getElem?_range h, Option.map_some, List.getElem?_append_left h, List.getElem?_eq_getElem h]
    rfl
  · rw [List.getElem?_eq_none (by rw [List.length_range]; omega), List.getElem?_eq_none (by omega)]
    rfl
section ROWSB
variable {D : va_G} {cy : Nat → ClassId} {A : Nat → Prop} {p : Program} {l : Launch} {e : Env} {R : Room} {s : State} {m : MethodId} {args : Array Value} {below : List Frame} {meth : Method} {c : Code} {cc : ByteArray} {nL : Nat} {own : String} {Q : State → Prop} {cs ss pc : Nat} {lv : List (Nat × Value)} {st : List Value} {X X' : va_W}
theorem bz_aload_n (B : dt_Bx D cy A p s m args meth c cc nL own) {x : Fin 4} {i : Nat} {v : Nat} (d : decode cc pc = .ok (.aload_n x, 1)) (hi : (x : Nat) = i) (q : Nat) (hq : lv[q]? = some (i, .ref v)) (k : dt_Bt D A p l e R s m args below meth c nL Q cs ss (pc + 1) lv (.ref v :: st) X) : dt_Bt D A p l e R s m args below meth c nL Q cs ss pc lv st X :=
  fun H locs ls hl hP hD hS => lv_aload_n B.1.1 B.1.2.1 d hi (lv_at hl q hq) (k H locs ls hl hP hD hS)
theorem bz_iconst (B : dt_Bx D cy A p s m args meth c cc nL own) {n : Int} {v : Int32} (d : decode cc pc = .ok (.iconst n, 1)) (hv : Int32.ofInt n = v) (k : dt_Bt D A p l e R s m args below meth c nL Q cs ss (pc + 1) lv (.int v :: st) X) : dt_Bt D A p l e R s m args below meth c nL Q cs ss pc lv st X :=
  fun H locs ls hl hP hD hS => lv_iconst B.1.1 B.1.2.1 d hv (k H locs ls hl hP hD hS)
theorem bz_bipush (B : dt_Bx D cy A p s m args meth c cc nL own) {n : Int} {v : Int32} (d : decode cc pc = .ok (.bipush n, 2)) (hv : (Int8.ofInt n).toInt32 = v) (k : dt_Bt D A p l e R s m args below meth c nL Q cs ss (pc + 2) lv (.int v :: st) X) : dt_Bt D A p l e R s m args below meth c nL Q cs ss pc lv st X :=
  fun H locs ls hl hP hD hS => lv_bipush B.1.1 B.1.2.1 d hv (k H locs ls hl hP hD hS)
theorem bz_sipush (B : dt_Bx D cy A p s m args meth c cc nL own) {n : Int} {v : Int32} (d : decode cc pc = .ok (.sipush n, 3)) (hv : (Int16.ofInt n).toInt32 = v) (k : dt_Bt D A p l e R s m args below meth c nL Q cs ss (pc + 3) lv (.int v :: st) X) : dt_Bt D A p l e R s m args below meth c nL Q cs ss pc lv st X :=
  fun H locs ls hl hP hD hS => lv_sipush B.1.1 B.1.2.1 d hv (k H locs ls hl hP hD hS)
theorem bz_dup (B : dt_Bx D cy A p s m args meth c cc nL own) {a : Value} (d : decode cc pc = .ok (.dup, 1)) (ha : a.category = 1) (k : dt_Bt D A p l e R s m args below meth c nL Q cs ss (pc + 1) lv (a :: a :: st) X) : dt_Bt D A p l e R s m args below meth c nL Q cs ss pc lv (a :: st) X :=
  fun H locs ls hl hP hD hS => lv_dup B.1.1 B.1.2.1 d ha (k H locs ls hl hP hD hS)
theorem bz_obj (B : dt_Bx D cy A p s m args meth c cc nL own) {i a : Nat} (w : Cond.methodLink own i objectInit ∈ dt_tbl) (hst : (st.map fun v => v.category).sum ≤ 8) (h1 : 1 ≤ R.frames) (h2 : 40 ≤ R.locals) (d : decode cc pc = .ok (.invokespecial i, 3)) (k : dt_Bt D A p l e R s m args below meth c nL Q cs ss (pc + 3) lv st X) : dt_Bt D A p l e R s m args below meth c nL Q cs ss pc lv (.ref a :: st) X :=
  fun H locs ls hl hP hD hS => by
    refine W.objInit B.1.1 B.1.2.1 B.1.2.2.2.1 (B.1.2.2.2.2 _ w) (B.1.2.2.2.2 _ dt_wObj.1) (B.1.2.2.2.2 _ dt_wObj.2) rfl (hl.1.trans B.1.2.2.1.symm) rfl d h1 (by have := lv_room (m := m) (pc := pc) (ls := ls) (rest := .ref a :: st) hst; omega) ?_
    exact W.eq (g2 := F0 m (pc + 3) ls st) rfl (k H locs ls hl hP hD hS)
theorem bz_put (B : dt_Bx D cy A p s m args meth c cc nL own) {a j ci N i q0 : Nat} {Cn : String} {T : u_T} {ty : Nat → FieldType} {fs : List Value} {v : Value} (F : dt_Fc ci Cn T N ty) (he : X[q0]? = some (a, .inr (ci, fs))) (hj : j < N) (hT : (T j).1 = Cn) (hfin : (T j).2.2.2 = false) (w : Cond.fieldLink own i Cn (T j).2.1 (T j).2.2.1 ∈ dt_tbl) (hn : narrow (ty j) v = v) (hft : fits (ty j) v = true) (hlen : j < fs.length) (hX : X.set q0 (a, .inr (ci, fs.set j v)) = X') (d : decode cc pc = .ok (.putfield i, 3)) (k : dt_Bt D A p l e R s m args below meth c nL Q cs ss (pc + 3) lv st X') : dt_Bt D A p l e R s m args below meth c nL Q cs ss pc lv (v :: .ref a :: st) X :=
  fun H locs ls hl hP hD hS => va_put B.1.1 B.1.2.1 B.1.2.2.2.2 F.2.2.1 ty F.2.2.2.2 F.2.2.2.1 B.1.2.2.2.1 B.2.1 hP hD hS q0 he F.1 j hj (B.1.2.2.2.2 _ w) (fun x hx => by rw [hT] at hx; exact hx) hfin (F.2.2.2.2 j hj) hn hft hlen d (fun H1 locs1 hP1 hD1 hS1 => by rw [hX] at hP1 hD1; exact k H1 locs1 ls hl hP1 hD1 hS1)
theorem bz_putF (B : dt_Bx D cy A p s m args meth c cc nL own) {a j ci N i q0 : Nat} {T : u_T} {ty : Nat → FieldType} {fs : List Value} {v : Value} (F : dt_Fc ci own T N ty) (he : X[q0]? = some (a, .inr (ci, fs))) (hj : j < N) (hT : (T j).1 = own) (hfin : (T j).2.2.2 = true) (w : Cond.fieldLink own i own (T j).2.1 (T j).2.2.1 ∈ dt_tbl) (hn : narrow (ty j) v = v) (hft : fits (ty j) v = true) (hlen : j < fs.length) (hX : X.set q0 (a, .inr (ci, fs.set j v)) = X') (d : decode cc pc = .ok (.putfield i, 3)) (k : dt_Bt D A p l e R s m args below meth c nL Q cs ss (pc + 3) lv st X') : dt_Bt D A p l e R s m args below meth c nL Q cs ss pc lv (v :: .ref a :: st) X :=
  fun H locs ls hl hP hD hS => va_putF B.1.1 B.1.2.1 B.1.2.2.2.2 F.2.2.1 ty F.2.2.2.2 F.2.2.2.1 B.1.2.2.2.1 B.2.1 hP hD hS q0 he F.1 j hj (B.1.2.2.2.2 _ w) (fun x hx => by rw [hT] at hx; exact hx) hfin B.2.2.2.2.1 hT (F.2.2.2.2 j hj) hn hft hlen d (fun H1 locs1 hP1 hD1 hS1 => by rw [hX] at hP1 hD1; exact k H1 locs1 ls hl hP1 hD1 hS1)
theorem bz_newI (B : dt_Bx D cy A p s m args meth c cc nL own) {n : Int32} {N : Nat} (hn : ¬ n < 0) (hN : n.toNatClampNeg = N) (hb : N * 4 ≤ 536870912) (hc : cs + 1 ≤ R.cells) (hs : ss + N ≤ R.slots) (d : decode cc pc = .ok (.newarray .int, 2)) (k : ∀ q, dt_Bt D A p l e R s m args below meth c nL Q (cs + 1) (ss + N) (pc + 2) lv (.ref q :: st) (X ++ [(q, .inl (cy 0, N, .inl (fun _ => 0)))])) : dt_Bt D A p l e R s m args below meth c nL Q cs ss pc lv (.int n :: st) X :=
  fun H locs ls hl hP hD hS => va_newa (atype := .int) B.1.1 B.1.2.1 (B.1.2.2.2.2 _ dt_wArr.1) rfl B.2.1 hP hD hS B.2.2.1 (a0 := (N, .inl (fun _ => 0))) (fun _ => rfl) hn hN hb hc hs d (fun q cA H1 hK1 hP1 hD1 hS1 => by
    have e1 : s.vm.findClass ("[" ++ FieldType.int.toString) = some cA := (hK1.2 4 (cA, .int) rfl).2
    have e2 : s.vm.findClass ("[" ++ FieldType.int.toString) = some (cy 0) := (B.2.1.2 0 _ rfl).2
    cases Option.some.inj (e1.symm.trans e2)
    exact k q H1 locs ls hl hP1 hD1 hS1)
theorem bz_newB (B : dt_Bx D cy A p s m args meth c cc nL own) {n : Int32} {N : Nat} (hn : ¬ n < 0) (hN : n.toNatClampNeg = N) (hb : N * 1 ≤ 536870912) (hc : cs + 1 ≤ R.cells) (hs : ss + N ≤ R.slots) (d : decode cc pc = .ok (.newarray .byte, 2)) (k : ∀ q, dt_Bt D A p l e R s m args below meth c nL Q (cs + 1) (ss + N) (pc + 2) lv (.ref q :: st) (X ++ [(q, .inl (cy 1, N, .inl (fun _ => 0)))])) : dt_Bt D A p l e R s m args below meth c nL Q cs ss pc lv (.int n :: st) X :=
  fun H locs ls hl hP hD hS => va_newa (atype := .byte) B.1.1 B.1.2.1 (B.1.2.2.2.2 _ dt_wArr.2.1) rfl B.2.1 hP hD hS B.2.2.1 (a0 := (N, .inl (fun _ => 0))) (fun _ => rfl) hn hN hb hc hs d (fun q cA H1 hK1 hP1 hD1 hS1 => by
    have e1 : s.vm.findClass ("[" ++ FieldType.byte.toString) = some cA := (hK1.2 4 (cA, .byte) rfl).2
    have e2 : s.vm.findClass ("[" ++ FieldType.byte.toString) = some (cy 1) := (B.2.1.2 1 _ rfl).2
    cases Option.some.inj (e1.symm.trans e2)
    exact k q H1 locs ls hl hP1 hD1 hS1)
theorem bz_newJ (B : dt_Bx D cy A p s m args meth c cc nL own) {n : Int32} {N : Nat} (hn : ¬ n < 0) (hN : n.toNatClampNeg = N) (hb : N * 8 ≤ 536870912) (hc : cs + 1 ≤ R.cells) (hs : ss + N ≤ R.slots) (d : decode cc pc = .ok (.newarray .long, 2)) (k : ∀ q, dt_Bt D A p l e R s m args below meth c nL Q (cs + 1) (ss + N) (pc + 2) lv (.ref q :: st) (X ++ [(q, .inl (cy 2, N, .inr (.inl (fun _ => 0))))])) : dt_Bt D A p l e R s m args below meth c nL Q cs ss pc lv (.int n :: st) X :=
  fun H locs ls hl hP hD hS => va_newa (atype := .long) B.1.1 B.1.2.1 (B.1.2.2.2.2 _ dt_wArr.2.2) rfl B.2.1 hP hD hS B.2.2.1 (a0 := (N, .inr (.inl (fun _ => 0)))) (fun _ => rfl) hn hN hb hc hs d (fun q cA H1 hK1 hP1 hD1 hS1 => by
    have e1 : s.vm.findClass ("[" ++ FieldType.long.toString) = some cA := (hK1.2 4 (cA, .long) rfl).2
    have e2 : s.vm.findClass ("[" ++ FieldType.long.toString) = some (cy 2) := (B.2.1.2 2 _ rfl).2
    cases Option.some.inj (e1.symm.trans e2)
    exact k q H1 locs ls hl hP1 hD1 hS1)
theorem bz_new (B : dt_Bx D cy A p s m args meth c cc nL own) {ci N i : Nat} {Cn : String} {T : u_T} {ty : Nat → FieldType} {fs : List Value} (F : dt_Fc ci Cn T N ty) (w : Cond.classLink own i Cn ∈ dt_tbl) (w2 : Cond.instantiable Cn N ∈ dt_tbl) (w3 : Cond.initialized Cn ∈ dt_tbl) (hfs : ∀ j, j < N → defaultValue (ty j) = vp_V fs j) (hc : cs + 1 ≤ R.cells) (hs : ss + N ≤ R.slots) (d : decode cc pc = .ok (.new i, 3)) (k : ∀ q, dt_Bt D A p l e R s m args below meth c nL Q (cs + 1) (ss + N) (pc + 3) lv (.ref q :: st) (X ++ [(q, .inr (ci, fs))])) : dt_Bt D A p l e R s m args below meth c nL Q cs ss pc lv st X :=
  fun H locs ls hl hP hD hS => va_new B.1.1 B.1.2.1 B.1.2.2.2.2 F.2.2.1 ty F.2.2.2.2 B.1.2.2.2.1 (B.1.2.2.2.2 _ w) (B.1.2.2.2.2 _ w2) (B.1.2.2.2.2 _ w3) B.2.1 hP hD hS B.2.2.1 F.1 hfs hc hs d (fun q H1 hP1 hD1 hS1 => k q H1 locs ls hl hP1 hD1 hS1)
theorem bz_call (B : dt_Bx D cy A p s m args meth c cc nL own) {y : MethodName} {code : ByteArray} {ci h mc ms i q : Nat} {fs0 : List Value} {res : (Nat → ClassId) → (Nat → Nat) → Nat → va_W} {Y : va_W} (hm : dt_Ct l y code ci fs0 h mc ms res) (f1 : Cond.code y code 1 none ∈ dt_tbl) (f2 : Cond.instanceMethod y ∈ dt_tbl) (f3 : Cond.initialized y.cls ∈ dt_tbl) (hd : y.cls ≠ "java/lang/invoke/MethodHandle" ∧ y.cls ≠ "java/lang/invoke/VarHandle" ∧ (parseMethodDescriptor y.desc).map (fun d => d.parameters.length) = some 0) (hy1 : y.name = "<init>") (w : (own, i, y) ∈ dt_nl) (hR : h + 1 ≤ R.frames ∧ 8 + (1 + 11) + 40 * h ≤ R.locals) (hcs : cs + mc ≤ R.cells ∧ ss + ms ≤ R.slots) (hst : (st.map fun v => v.category).sum ≤ 8) (d : decode cc pc = .ok (.invokespecial i, 3)) (k : ∀ f : Nat → Nat, dt_Bt D A p l e R s m args below meth c nL Q (cs + mc) (ss + ms) (pc + 3) lv st (Y ++ res cy f q)) : dt_Bt D A p l e R s m args below meth c nL Q cs ss pc lv (.ref q :: st) (Y ++ [(q, .inr (ci, fs0))]) := by
  intro H locs ls hl hP hD hS T hT Xs
  have hF := va_free (wc := [(q, .inr (ci, fs0))]) hD hS B.2.2.1 [Y.length] dt_last
  have hPc : va_P D vwCl [(q, .inr (ci, fs0))] H := hP.sub [Y.length] (by simp)
  have run := va_runIN (e := e) (below := below) (meth := meth) (H := H) (locs := locs) (cells := cs) (slots := ss) (g := F0 m pc ls (.ref q :: st)) (As := []) (rest := st) B.1 (hm D cy q H.size) ⟨va_cnB (R := R) 0 B.1.2.2.2.2 (dt_goodIn f1) rfl rfl rfl (B.2.2.2.2.2.1 _ w) (B.1.2.2.2.2 _ f3) hd hR, hy1, B.1.2.2.2.2 _ f2⟩
    ⟨fun a U g mk h => ⟨h.1, h.2.1, h.2.2.1, va_K.moved (u := U) (U := U.calling g mk a) (Vm.Alike.refl _) h.2.2.2.1, h.2.2.2.2.call g mk a⟩, fun U hU hW => ⟨rfl, by rw [hU], by rw [hU]; exact hPc, va_K.moved hW.alike B.2.1, B.2.2.2.2.2.to hW⟩⟩ rfl rfl hl.1 rfl (lv_room hst) d hcs
  obtain ⟨v, st₀, t, T', L, h0, X', hL, e1, e2, ⟨⟨hv, f, hp, hdd⟩, hz, hk⟩, st1⟩ := run T hT Xs
  cases hv
  rw [h0] at hz hk
  have hk2 : ∀ a : Nat, a < H.size → ¬ va_A [(q, .inr (ci, fs0))] H.size a → T'.heap[a]? = H[a]? := fun a h1 h2 => by rw [e1]; exact hk a h1 h2
  obtain ⟨hP2, hD2⟩ := va_join (wr := Y) (w1 := res cy f q) hP hD [Y.length] (List.range Y.length) dt_last dt_front (va_nd_range _) (fun i hi z => by have h1 := List.mem_range.mp hi; have h2 := List.mem_singleton.mp z; omega) hk2 hF (by rw [e1]; exact hp) hdd
  obtain ⟨t2, a1, b1⟩ := k f T'.heap (locs ++ L) ls hl hP2 hD2 ⟨Nat.le_trans hS.1 (by rw [e1]; exact hz), fun a h1 h2 => by
      have h3 : a < H.size := Nat.lt_of_lt_of_le h1 hS.1
      rw [hk2 a h3 (fun z => h2 (hF a z))]
      exact hS.2.1 a h1 h2, fun a ha => by
      rcases List.mem_append.mp ha with h | h
      · exact hS.2.2 a h
      · exact hF _ (hL a h)⟩ T' rfl X'
  exact ⟨t2, st1 t2 a1, b1⟩
theorem bz_getR (B : dt_Bx D cy A p s m args meth c cc nL own) {a j ci N i q0 : Nat} {Cn : String} {T : u_T} {ty : Nat → FieldType} {fs : List Value} {v : Value} (F : dt_Fc ci Cn T N ty) (he : X[q0]? = some (a, .inr (ci, fs))) (hj : j < N) (hT : (T j).1 = Cn) (w : Cond.fieldLink own i Cn (T j).2.1 (T j).2.2.1 ∈ dt_tbl) (hv : fs[j]? = some v) (d : decode cc pc = .ok (.getfield i, 3)) (k : dt_Bt D A p l e R s m args below meth c nL Q cs ss (pc + 3) lv (v :: st) X) : dt_Bt D A p l e R s m args below meth c nL Q cs ss pc lv (.ref a :: st) X :=
  fun H locs ls hl hP hD hS => va_get B.1.1 B.1.2.1 B.1.2.2.2.2 F.2.2.1 B.1.2.2.2.1 B.2.1 hP q0 he F.1 j hj (B.1.2.2.2.2 _ w) (fun x hx => by rw [hT] at hx; exact hx) hv d (k H locs ls hl hP hD hS)
theorem bz_iast (B : dt_Bx D cy A p s m args meth c cc nL own) {a n q0 : Nat} {f : Nat → Int32} {i x : Int32} (he : X[q0]? = some (a, .inl (cy 0, n, .inl f))) (hin : vp_in i n) (hX : X.set q0 (a, .inl (cy 0, n, .inl (upd f i.toNatClampNeg x))) = X') (d : decode cc pc = .ok (.iastore, 1)) (k : dt_Bt D A p l e R s m args below meth c nL Q cs ss (pc + 1) lv st X') : dt_Bt D A p l e R s m args below meth c nL Q cs ss pc lv (.int x :: .int i :: .ref a :: st) X :=
  fun H locs ls hl hP hD hS => va_iast B.1.1 B.1.2.1 B.2.1 hP hD hS q0 0 he rfl hin d (fun H1 locs1 hP1 hD1 hS1 => by rw [hX] at hP1 hD1; exact k H1 locs1 ls hl hP1 hD1 hS1)
/-- new int[8][21] -/
def dt_rows (cy : Nat → ClassId) (q : Nat) : va_W := [(q, .inl (cy 3, 8, .inr (.inr (.inr (.inr (fun i => some (q + 1 + i))))))), (q + 1 + 0, .inl (cy 0, 21, .inl (fun _ => 0))), (q + 1 + 1, .inl (cy 0, 21, .inl (fun _ => 0))), (q + 1 + 2, .inl (cy 0, 21, .inl (fun _ => 0))), (q + 1 + 3, .inl (cy 0, 21, .inl (fun _ => 0))), (q + 1 + 4, .inl (cy 0, 21, .inl (fun _ => 0))), (q + 1 + 5, .inl (cy 0, 21, .inl (fun _ => 0))), (q + 1 + 6, .inl (cy 0, 21, .inl (fun _ => 0))), (q + 1 + 7, .inl (cy 0, 21, .inl (fun _ => 0)))]
theorem dt_rows_at (cy : Nat → ClassId) (q : Nat) : ∀ (i : Nat) (x : Nat × va_E), (dt_rows cy q)[i]? = some x → x.1 = q + i ∧ ((i = 0 ∧ x.2 = .inl (cy 3, 8, .inr (.inr (.inr (.inr (fun i => some (q + 1 + i))))))) ∨ ∃ j, j < 8 ∧ i = j + 1 ∧ x.2 = .inl (cy 0, 21, .inl (fun _ => 0))) := by
  intro i x h
  have hl : i < 9 := (List.getElem?_eq_some_iff.mp h).1
  rcases (show i = 0 ∨ i = 1 ∨ i = 2 ∨ i = 3 ∨ i = 4 ∨ i = 5 ∨ i = 6 ∨ i = 7 ∨ i = 8 by omega) with rfl | rfl | rfl | rfl | rfl | rfl | rfl | rfl | rfl <;> cases h
  · exact ⟨rfl, Or.inl ⟨rfl, rfl⟩⟩
  · exact ⟨by show q + 1 + 0 = q + 1; omega, Or.inr ⟨0, by omega, rfl, rfl⟩⟩
  · exact ⟨by show q + 1 + 1 = q + 2; omega, Or.inr ⟨1, by omega, rfl, rfl⟩⟩
  · exact ⟨by show q + 1 + 2 = q + 3; omega, Or.inr ⟨2, by omega, rfl, rfl⟩⟩
  · exact ⟨by show q + 1 + 3 = q + 4; omega, Or.inr ⟨3, by omega, rfl, rfl⟩⟩
  · exact ⟨by show q + 1 + 4 = q + 5; omega, Or.inr ⟨4, by omega, rfl, rfl⟩⟩
  · exact ⟨by show q + 1 + 5 = q + 6; omega, Or.inr ⟨5, by omega, rfl, rfl⟩⟩
  · exact ⟨by show q + 1 + 6 = q + 7; omega, Or.inr ⟨6, by omega, rfl, rfl⟩⟩
  · exact ⟨by show q + 1 + 7 = q + 8; omega, Or.inr ⟨7, by omega, rfl, rfl⟩⟩
theorem dt_outer (c : ClassId) (N h0 : Nat) : ∀ i : Nat, Jvm.Free.Multi.outerC c N h0 i = arrV c N (fun j => if j < i then .ref (h0 + 1 + j) else .null) := by
  intro i
  induction i with
  | zero =>
    show ({ cls := c, slots := Array.replicate N .null, vm := .none } : Cell) = _
    rw [arrV_new]
    refine congrArg (arrV c N) (funext fun j => ?_)
    rw [if_neg (Nat.not_lt_zero j)]
  | succ i ih =>
    show (Jvm.Free.Multi.outerC c N h0 i).setSlot i (.ref (h0 + 1 + i)) = _
    rw [ih, arrV_store]
    refine congrArg (arrV c N) (funext fun j => ?_)
    unfold updV
    by_cases e : j = i
    · subst e
      simp
    · by_cases h : j < i
      · simp [e, h, Nat.lt_succ_of_lt h]
      · simp [e, h, show ¬ j < i + 1 by omega]
theorem dt_arrV_congr {c : ClassId} {N : Nat} {f g : Nat → Value} (h : ∀ j, j < N → f j = g j) : arrV c N f = arrV c N g := by
  unfold arrV
  congr 1
  congr 1
  funext j
  exact h j.1 j.2
theorem bz_mna (B : dt_Bx D cy A p s m args meth c cc nL own) {i : Nat} (w : Cond.classLink own i "[[I" ∈ dt_tbl) (hc : cs + (1 + 8) ≤ R.cells) (hs : ss + (8 + 8 * 21) ≤ R.slots) (d : decode cc pc = .ok (.multianewarray i 2, 4)) (k : ∀ q, dt_Bt D A p l e R s m args below meth c nL Q (cs + 1 + 8) (ss + 8 + 8 * 21) (pc + 4) lv (.ref q :: st) (X ++ dt_rows cy q)) : dt_Bt D A p l e R s m args below meth c nL Q cs ss pc lv (.int 21 :: .int 8 :: st) X := by
  intro H locs ls hl hP hD hS T hT Xs
  have h8 : (8 : Int32).toNatClampNeg = 8 := by decide
  have h21 : (21 : Int32).toNatClampNeg = 21 := by decide
  obtain ⟨vm₁, cA, comp, -, fA, fC, -, -, X', step⟩ := Xs.multianewarray2F B.1.1 (ty := .int) (n := 8) (k := 21) (rest := st) B.1.2.2.2.1 (B.1.2.2.2.2 _ w) (over_moved (u := s) (E := s) (Vm.Alike.refl _) B.2.2.2.2.2.2) (B.1.2.2.2.2 _ dt_wArr.1) (g := F0 m pc ls (.int 21 :: .int 8 :: st)) rfl (by rw [B.1.2.1]; exact d) rfl (by decide) (by decide) (by rw [h8]; decide) (by rw [h21]; decide) (by rw [h21]; decide) rfl rfl (by rw [h8]; exact hc) (by rw [h8, h21]; exact hs)
  rw [h8, h21] at X' step
  have eA : cA = cy 3 := by
    have e2 : s.vm.findClass ("[" ++ (FieldType.array .int).toString) = some (cy 3) := (B.2.1.2 3 _ rfl).2
    exact Option.some.inj (fA.symm.trans e2)
  have eC : comp = cy 0 := by
    have e2 : s.vm.findClass ("[" ++ FieldType.int.toString) = some (cy 0) := (B.2.1.2 0 _ rfl).2
    exact Option.some.inj (fC.symm.trans e2)
  subst eA
  subst eC
  have hTh : (T.setVm vm₁).heap = H := hT
  obtain ⟨f1, f2, -, -⟩ := Jvm.Free.Multi.fill_facts (T.setVm vm₁) (cy 3) (cy 0) 8 21 (defaultValue .int) 8
  have fold := fun (a : Nat) (ha : a < H.size) => Jvm.Free.Multi.fill_old (T.setVm vm₁) (cy 3) (cy 0) 8 21 (defaultValue .int) (a := a) (by rw [hTh]; exact ha) 8
  have finn := fun (j : Nat) (hj : j < 8) => Jvm.Free.Multi.fill_inner (T.setVm vm₁) (cy 3) (cy 0) 8 21 (defaultValue .int) 8 j hj
  rw [hTh] at f1 f2 fold finn
  generalize hF : Jvm.Free.Multi.fill (T.setVm vm₁) (cy 3) (cy 0) 8 21 (defaultValue .int) 8 = F at X' step f1 f2 fold finn
  have hP1 : va_P D vwCl (X ++ dt_rows (cy) H.size) F.heap := by
    refine (hP.kept (fun k9 x hx => fold x.1 ((hP k9 x hx).lt))).app (fun i x hx => ?_)
    obtain ⟨g1, g2⟩ := dt_rows_at cy H.size i x hx
    obtain ⟨a, E⟩ := x
    dsimp only at g1 g2
    rcases g2 with ⟨rfl, rfl⟩ | ⟨j, hj, rfl, rfl⟩
    · subst g1
      show F.heap[H.size + 0]? = some (vp_cell _ _)
      rw [Nat.add_zero, f2, dt_outer, vp_cell_q]
      refine congrArg some (dt_arrV_congr (fun j hj => ?_))
      rw [if_pos hj]
      rfl
    · subst g1
      show F.heap[H.size + (j + 1)]? = some (vp_cell _ _)
      rw [show H.size + (j + 1) = H.size + 1 + j by omega, finn j hj, vp_cell_i]
      exact congrArg some (arrV_new _ _ _)
  have hD1 : va_D A (X ++ dt_rows cy H.size) := by
    refine hD.app ⟨fun i j x y hx hy e => ?_, fun i x hx => ?_⟩ (fun i j x y hx hy e => ?_)
    · have g1 := (dt_rows_at cy H.size i x hx).1
      have g2 := (dt_rows_at cy H.size j y hy).1
      omega
    · have g1 := (dt_rows_at cy H.size i x hx).1
      exact B.2.2.1 _ (by have := hS.1; omega)
    · have g1 := (hP i x hx).lt
      have g2 := (dt_rows_at cy H.size j y hy).1
      omega
  obtain ⟨t, a1, b1⟩ := k H.size F.heap locs ls hl hP1 hD1 ⟨by rw [f1]; have := hS.1; omega, fun x h1 h2 => (fold x (Nat.lt_of_lt_of_le h1 hS.1)).trans (hS.2.1 x h1 h2), hS.2.2⟩ F rfl X'
  refine ⟨t, step t ?_, b1⟩
  rw [show T.heap.size = H.size by rw [hT]]
  exact a1
end ROWSB
/-- the end of a constructor -/
theorem bz_vret {D : va_G} {cy : Nat → ClassId} {A : Nat → Prop} {p : Program} {l : Launch} {e : Env} {R : Room} {s : State} {m : MethodId} {args : Array Value} {below : List Frame} {meth : Method} {c : Code} {cc : ByteArray} {nL : Nat} {own : String} {cs ss pc : Nat} {lv : List (Nat × Value)} {X : va_W} (B : dt_Bx D cy A p s m args meth c cc nL own) (hr : meth.sig.returnType = none) {res : (Nat → Nat) → va_W} (f : Nat → Nat) (hX : X = res f) (d : decode cc pc = .ok (.return_, 1)) :
    dt_Bt D A p l e R s m args below meth c nL (MQ below (fun _ st o t => (o = .returned none ∧ ∃ f : Nat → Nat, va_P D vwCl (res f) t.heap ∧ va_D A (res f)) ∧ va_F A st t) args s cs ss A) cs ss pc lv [] X :=
  fun H locs ls hl hP hD hS => by
    subst hX
    exact W.vret B.1.1 B.1.2.1 hr (fun t ht _ => ⟨⟨rfl, f, by rw [ht]; exact hP, hD⟩, hS.F ht⟩) hS.2.2 d B.2.2.2.1
theorem bz_enter {l : Launch} {y : MethodName} {code : ByteArray} {ci h mc ms : Nat} {fs0 : List Value} {res : (Nat → ClassId) → (Nat → Nat) → Nat → va_W} (hy : plainName y.cls = true) (hi : y.name = "<init>")
    (body : ∀ (D : va_G) (cy : Nat → ClassId) (A : Nat → Prop) (h0 : Nat) (p : Program) (e : Env) (s : State) (m : MethodId) (args : Array Value) (below : List Frame) (meth : Method) (c : Code), dt_Bx D cy A p s m args meth c code 1 y.cls → meth.sig.returnType = none → dt_Bt D A p l e { frames := h, cells := mc, slots := ms, locals := 40 * h } s m args below meth c 1 (MQ below (fun _ st o t => (o = .returned none ∧ ∃ f : Nat → Nat, va_P D vwCl (res cy f h0) t.heap ∧ va_D A (res cy f h0)) ∧ va_F A st t) args s mc ms A) 0 0 0 [(0, .ref h0)] [] [(h0, .inr (ci, fs0))]) : dt_Ct l y code ci fs0 h mc ms res := by
  intro D cy h0 sz
  refine Met.ofW (cc := code) (maxL := 1) (ret := none) hy rfl ?_
  intro p e s m args below meth c s₁ B hml hv
  obtain ⟨rfl, hsz, hP, hK, hN⟩ := hv
  have hts := atoms_spec (ws := dt_wm y code 1 none) B.pre
  have hown : s.vm.findClass y.cls = some m.cls := findClass_of_methodNamed B.named
  have hin : meth.name = "<init>" := (name_of_methodNamed B.named B.method).1.trans hi
  subst hsz
  have hD0 : va_D (fun _ => True) [(h0, (.inr (ci, fs0) : va_E))] := ⟨fun i j x y hi hj _ => by
    have h1 := (List.getElem?_eq_some_iff.mp hi).1
    have h2 := (List.getElem?_eq_some_iff.mp hj).1
    simp at h1 h2
    omega, fun _ _ _ => trivial⟩
  have hD := hD0.self (sz := s.heap.size)
  have hA : ∀ q : Nat, s.heap.size ≤ q → va_A [(h0, (.inr (ci, fs0) : va_E))] s.heap.size q := fun q h => Or.inr h
  have C : dt_Bx D cy (va_A [(h0, .inr (ci, fs0))] s.heap.size) p s m #[.ref h0] meth c code 1 y.cls := ⟨⟨B.exec, B.bytes, hml, hown, fun w hw => hts w (List.mem_cons_of_mem _ hw)⟩, hK, hA, B.notSynchronized, hin, hN⟩
  have hl := lv_entry ([.ref h0]) (n := 1) (Nat.le_of_ble_eq_true rfl)
  have hE := lg_entry_eq m [.ref h0] 1
  rw [show (#[Value.ref h0] : Array Value) = [Value.ref h0].toArray from rfl, hE]
  exact body D cy _ h0 p e s m _ below meth c C B.returns s.heap [] _ hl hP hD va_S.rf
