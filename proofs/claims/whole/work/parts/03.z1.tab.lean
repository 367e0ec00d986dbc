/-! objects: 0 the DuskTower; 1..5 world's tower, day, vow, crew, sky; 6..10 kept's; 11 trail; 12 draft; 13 trial; 14 planner; 15 finder; 16 world; 17 kept; 18 the model -/
def dt_cls : List Nat := [9, 5, 1, 7, 0, 4, 5, 1, 7, 0, 4, 6, 7, 5, 3, 2, 8, 8, 10]
def dt_c (k : Nat) : Nat := dt_cls.getD k 0
def dt_nf : List Nat := [3, 6, 8, 7, 3, 13, 6, 8, 5, 12, 38]
/-- the kind of a field: (0, 0) an int, (0, 1) a boolean, (1, n) ints, (2, n) bytes, (3, n) longs, (4, 0) an object, (5, n) rows -/
def dt_tab : List (List (Nat × Nat)) := [
  [(0, 0), (1, 8), (1, 8)],
  [(0, 0), (0, 0), (0, 0), (0, 0), (0, 1), (0, 0)],
  [(1, 6), (1, 6), (1, 6), (1, 6), (1, 20), (1, 20), (0, 0), (0, 0)],
  [(1, 5), (1, 5), (1, 5), (1, 5), (0, 0), (0, 0), (0, 0)],
  [(1, 72), (1, 9), (3, 9)],
  [(0, 0), (0, 0), (1, 20), (1, 20), (1, 20), (1, 20), (1, 20), (1, 20), (1, 20), (1, 8), (1, 160), (1, 20), (0, 0)],
  [(1, 12), (1, 12), (1, 12), (1, 12), (0, 0), (0, 0)],
  [(1, 401), (1, 401), (0, 0), (0, 0), (1, 7), (0, 0), (0, 0), (0, 0)],
  [(4, 0), (4, 0), (4, 0), (4, 0), (4, 0)],
  [(4, 0), (4, 0), (0, 1), (4, 0), (2, 400), (0, 0), (4, 0), (0, 0), (0, 0), (4, 0), (4, 0), (4, 0)],
  [(1, 1225), (1, 1225), (1, 60), (0, 0), (0, 0), (0, 0), (0, 1), (1, 20), (1, 20), (1, 20), (5, 8), (1, 48), (1, 820), (1, 400), (1, 420), (1, 8), (0, 0), (0, 0), (0, 0), (0, 0), (0, 0), (0, 0), (0, 0), (0, 0), (0, 0), (0, 0), (0, 0), (0, 0), (1, 6), (1, 5), (1, 5), (1, 5), (1, 5), (0, 0), (0, 0), (1, 20), (1, 20), (0, 0), (1, 21), (1, 21), (1, 21), (1, 21), (1, 21), (1, 21), (1, 21), (1, 21)]]
def dt_k (c j : Nat) : Nat × Nat := (dt_tab.getD c []).getD j (9, 0)
/-- the words that stay: all of the tables that a callee may ask for -/
def dt_tbl : List Cond := lw_tbl.filter goodWord
theorem dt_tin {w : Cond} (h : w ∈ lw_tbl) (hg : goodWord w = true) : w ∈ dt_tbl := List.mem_filter.mpr ⟨h, hg⟩
/-- what the tables say of a method that is called -/
def dt_mf (y : MethodName) (code : ByteArray) (nL : Nat) (ret : Option FieldType) (n : Nat) : Prop := Cond.code y code nL ret ∈ dt_tbl ∧ Cond.instanceMethod y ∈ dt_tbl ∧ Cond.selects y.cls y y ∈ dt_tbl ∧ Cond.initialized y.cls ∈ dt_tbl ∧ (y.cls ≠ "java/lang/invoke/MethodHandle" ∧ y.cls ≠ "java/lang/invoke/VarHandle" ∧ (parseMethodDescriptor y.desc).map (fun d => d.parameters.length) = some n)
def dt_ms (y : MethodName) (code : ByteArray) (nL : Nat) (ret : Option FieldType) (n : Nat) : Prop := Cond.code y code nL ret ∈ dt_tbl ∧ Cond.static y ∈ dt_tbl ∧ Cond.initialized y.cls ∈ dt_tbl ∧ (y.cls ≠ "java/lang/invoke/MethodHandle" ∧ y.cls ≠ "java/lang/invoke/VarHandle" ∧ (parseMethodDescriptor y.desc).map (fun d => d.parameters.length) = some n)
/-- what is fixed of a class -/
def dt_Fc (ci : Nat) (C : String) (T : u_T) (N : Nat) (ty : Nat → FieldType) : Prop := vwCl[ci]? = some (C, T, N) ∧ dt_nf.getD ci 0 = N ∧ (∀ w ∈ u_ws C T N, w ∈ dt_tbl) ∧ (∀ a, a < N → ∀ b, b < N → a ≠ b → (T a).2.1 ≠ (T b).2.1) ∧ (∀ k, k < N → parseFieldDescriptor (T k).2.2.1 = some (ty k))
