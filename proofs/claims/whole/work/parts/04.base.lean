/-! ===== the memory of the system: ints by object, field and place; and the world of cells that it stands for ===== -/
abbrev dt_Ob : Type := Nat → Nat → Int32
abbrev dt_M : Type := Nat → dt_Ob
def dt_put (M : dt_M) (k : Nat) (T : dt_Ob) : dt_M := fun k' => if k' = k then T else M k'
def dt_setA (T : dt_Ob) (j : Nat) (f : Nat → Int32) : dt_Ob := fun j' => if j' = j then f else T j'
def dt_set (T : dt_Ob) (j i : Nat) (v : Int32) : dt_Ob := dt_setA T j (upd (T j) i v)
def dt_hi (v : Int64) : Int32 := Int32.ofBitVec (v.toBitVec.extractLsb' 32 32)
def dt_lo (v : Int64) : Int32 := Int32.ofBitVec (v.toBitVec.extractLsb' 0 32)
def dt_two (a b : Int32) : Int64 := Int64.ofBitVec (a.toBitVec ++ b.toBitVec)
def dt_lg (f : Nat → Int32) (i : Nat) : Int64 := dt_two (f (2 * i)) (f (2 * i + 1))
def dt_setL (T : dt_Ob) (j i : Nat) (v : Int64) : dt_Ob := dt_setA T j (upd (upd (T j) (2 * i) (dt_hi v)) (2 * i + 1) (dt_lo v))
theorem dt_put_s (M : dt_M) (k : Nat) (T : dt_Ob) : dt_put M k T k = T := if_pos rfl
theorem dt_put_n (M : dt_M) {k k' : Nat} (T : dt_Ob) (h : k' ≠ k) : dt_put M k T k' = M k' := if_neg h
theorem dt_put_put (M : dt_M) (k : Nat) (T T' : dt_Ob) : dt_put (dt_put M k T) k T' = dt_put M k T' := by
  funext q
  by_cases h : q = k
  · subst h; rw [dt_put_s, dt_put_s]
  · rw [dt_put_n _ _ h, dt_put_n _ _ h, dt_put_n _ _ h]
theorem dt_put_self (M : dt_M) (k : Nat) : dt_put M k (M k) = M := by
  funext q
  by_cases h : q = k
  · subst h; rw [dt_put_s]
  · rw [dt_put_n _ _ h]
theorem dt_put_comm (M : dt_M) {k k' : Nat} (T T' : dt_Ob) (h : k ≠ k') : dt_put (dt_put M k T) k' T' = dt_put (dt_put M k' T') k T := by
  funext q
  by_cases h1 : q = k
  · subst h1; rw [dt_put_n _ _ h, dt_put_s, dt_put_s]
  · by_cases h2 : q = k'
    · subst h2; rw [dt_put_s, dt_put_n _ _ h1, dt_put_s]
    · rw [dt_put_n _ _ h2, dt_put_n _ _ h1, dt_put_n _ _ h1, dt_put_n _ _ h2]
theorem dt_setA_s (T : dt_Ob) (j : Nat) (f : Nat → Int32) : dt_setA T j f j = f := if_pos rfl
theorem dt_setA_n (T : dt_Ob) {j j' : Nat} (f : Nat → Int32) (h : j' ≠ j) : dt_setA T j f j' = T j' := if_neg h
theorem dt_two_hl (v : Int64) : dt_two (dt_hi v) (dt_lo v) = v := by
  unfold dt_two dt_hi dt_lo
  apply Int64.toBitVec_inj.mp
  show (v.toBitVec.extractLsb' 32 32 ++ v.toBitVec.extractLsb' 0 32 : BitVec 64) = v.toBitVec
  apply BitVec.eq_of_getLsbD_eq
  intro i hi
  rw [BitVec.getLsbD_append]
  by_cases h : i < 32
  · simp [h]
  · simp only [h, decide_false, cond_false, BitVec.getLsbD_extractLsb']
    have h1 : i - 32 < 32 := by omega
    have h2 : 32 + (i - 32) = i := by omega
    simp [h1, h2]
theorem dt_lg_set (f : Nat → Int32) (i : Nat) (v : Int64) : dt_lg (upd (upd f (2 * i) (dt_hi v)) (2 * i + 1) (dt_lo v)) = vp_updL (dt_lg f) i v := by
  funext k
  by_cases h : k = i
  · subst h
    rw [pk_uLs]
    show dt_two (upd (upd f (2 * k) (dt_hi v)) (2 * k + 1) (dt_lo v) (2 * k)) (upd (upd f (2 * k) (dt_hi v)) (2 * k + 1) (dt_lo v) (2 * k + 1)) = v
    rw [pk_un (by omega), pk_us, pk_us, dt_two_hl]
  · rw [pk_uLn h]
    show dt_two (upd (upd f (2 * i) (dt_hi v)) (2 * i + 1) (dt_lo v) (2 * k)) (upd (upd f (2 * i) (dt_hi v)) (2 * i + 1) (dt_lo v) (2 * k + 1)) = _
    rw [pk_un (by omega), pk_un (by omega), pk_un (by omega), pk_un (by omega)]
    rfl
def dt_ch (k j : Nat) : Nat := if k = 0 then [16, 17, 0, 11, 0, 0, 12, 0, 0, 13, 14, 15].getD j 0 else if k = 16 then j + 1 else j + 6
/-- addresses by object and place (0 the object, j + 1 the array of field j); classes' numbers; the arrays' classes; String constants' addresses -/
abbrev dt_G : Type := (Nat → Nat → Nat) × va_G × (Nat → ClassId) × (Nat → Nat) × (Nat → Nat)
def dt_fv (G : dt_G) (M : dt_M) (k j : Nat) : Value := if (dt_k (dt_c k) j).1 = 0 then .int (M k j 0) else if (dt_k (dt_c k) j).1 = 4 then .ref (G.1 (dt_ch k j) 0) else .ref (G.1 k (j + 1))
def dt_arr (G : dt_G) (M : dt_M) (k j : Nat) : va_E :=
  if (dt_k (dt_c k) j).1 = 1 then .inl (G.2.2.1 0, (dt_k (dt_c k) j).2, .inl (M k j))
  else if (dt_k (dt_c k) j).1 = 2 then .inl (G.2.2.1 1, (dt_k (dt_c k) j).2, .inl (M k j))
  else if (dt_k (dt_c k) j).1 = 3 then .inl (G.2.2.1 2, (dt_k (dt_c k) j).2, .inr (.inl (dt_lg (M k j))))
  else .inl (G.2.2.1 3, (dt_k (dt_c k) j).2, .inr (.inr (.inr (.inr (fun i => some (G.1 k (38 + i + 1)))))))
def dt_cell (G : dt_G) (M : dt_M) (q : Nat × Nat) : Nat × va_E := (G.1 q.1 q.2, if q.2 = 0 then .inr (dt_c q.1, (List.range (dt_nf.getD (dt_c q.1) 0)).map (dt_fv G M q.1)) else dt_arr G M q.1 (q.2 - 1))
def dt_isA (k j : Nat) : Bool := (dt_k (dt_c k) j).1 == 1 || (dt_k (dt_c k) j).1 == 2 || (dt_k (dt_c k) j).1 == 3 || (dt_k (dt_c k) j).1 == 5
def dt_all (N : Nat) : List (Nat × Nat) := (List.range N).flatMap fun k => (k, 0) :: ((List.range 46).filter (dt_isA k)).map fun j => (k, j + 1)
/-- how many objects there are: 18 without the model, 19 with it -/
def dt_n (G : dt_G) : Nat := G.2.2.2.1 14
def dt_ws (G : dt_G) (M : dt_M) : va_W := (dt_all (dt_n G)).map (dt_cell G M)
def dt_tys (G : dt_G) : List (ClassId × FieldType) := [(G.2.2.1 0, .int), (G.2.2.1 1, .byte), (G.2.2.1 2, .long), (G.2.2.1 3, .array .int)]
theorem dt_nodup {N : Nat} (h : N = 18 ∨ N = 19) : (dt_all N).Nodup := by
  rcases h with rfl | rfl
  · decide +kernel
  · decide +kernel
theorem dt_in0 {k N : Nat} (h : k < N) : ∃ q : Nat, (dt_all N)[q]? = some (k, 0) := by
  refine List.getElem?_of_mem (List.mem_flatMap.mpr ⟨k, List.mem_range.mpr h, List.mem_cons_self⟩)
theorem dt_inA {k j N : Nat} (h : k < N) (hj : j < 46) (ha : dt_isA k j = true) : ∃ q : Nat, (dt_all N)[q]? = some (k, j + 1) := by
  refine List.getElem?_of_mem (List.mem_flatMap.mpr ⟨k, List.mem_range.mpr h, List.mem_cons_of_mem _ ?_⟩)
  exact List.mem_map.mpr ⟨j, List.mem_filter.mpr ⟨List.mem_range.mpr hj, ha⟩, rfl⟩
theorem dt_at {G : dt_G} {M : dt_M} {q : Nat} {x : Nat × Nat} (h : (dt_all (dt_n G))[q]? = some x) : (dt_ws G M)[q]? = some (dt_cell G M x) := by
  unfold dt_ws
  rw [List.getElem?_map, h]
  rfl
/-- one cell set: the world of the memory that differs there alone -/
theorem dt_map_set {α β : Type} (L : List α) (hL : L.Nodup) {f f' : α → β} {q : Nat} {x : α} (h : L[q]? = some x) (hd : ∀ y, y ∈ L → y ≠ x → f' y = f y) : (L.map f).set q (f' x) = L.map f' := by
  apply List.ext_getElem?
  intro i
  have hl := (List.getElem?_eq_some_iff.mp h).1
  by_cases hi : i = q
  · subst hi
    rw [List.getElem?_set_self (by rw [List.length_map]; exact hl), List.getElem?_map, h]
    rfl
  · rw [List.getElem?_set_ne (Ne.symm hi), List.getElem?_map, List.getElem?_map]
    cases hy : L[i]? with
    | none => rfl
    | some y =>
      have hne : y ≠ x := by
        intro e
        subst e
        obtain ⟨a, b⟩ := List.getElem?_eq_some_iff.mp hy
        obtain ⟨a', b'⟩ := List.getElem?_eq_some_iff.mp h
        have hp := List.pairwise_iff_getElem.mp hL
        rcases Nat.lt_or_gt_of_ne hi with z | z
        · exact hp i q a a' z (b.trans b'.symm)
        · exact hp q i a' a z (b'.trans b.symm)
      show some (f y) = some (f' y)
      rw [hd y (List.mem_of_getElem? hy) hne]
theorem dt_ws_set {G : dt_G} {M M' : dt_M} {q : Nat} {x : Nat × Nat} (hN : dt_n G = 18 ∨ dt_n G = 19) (h : (dt_all (dt_n G))[q]? = some x) (hd : ∀ y, y ∈ dt_all (dt_n G) → y ≠ x → dt_cell G M' y = dt_cell G M y) : (dt_ws G M).set q (dt_cell G M' x) = dt_ws G M' := by
  unfold dt_ws
  exact dt_map_set (f := dt_cell G M) (f' := dt_cell G M') (dt_all (dt_n G)) (dt_nodup hN) h hd
def dt_wm (y : MethodName) (code : ByteArray) (nL : Nat) (ret : Option FieldType) : List Cond := .code y code nL ret :: dt_tbl
theorem dt_goodIn {y : MethodName} {code : ByteArray} {nL : Nat} {ret : Option FieldType} (h : Cond.code y code nL ret ∈ dt_tbl) : GoodIn dt_tbl (dt_wm y code nL ret) := by
  intro w hw
  have hm : w ∈ dt_tbl := by
    rcases List.mem_cons.mp hw with e | e
    · rw [e]; exact h
    · exact e
  exact ⟨hm, good_of_word (List.mem_filter.mp hm).2⟩
/-- String constants -/
def dt_sl : List (String × Nat × String) := [("DuskTower$Vow", 78, ";+-*/()<=>"), ("DuskTower$Vow", 86, "noon dusk or and not height blocks carries cost holy seen day "), ("DuskTowerModel", 188, "height"), ("DuskTowerModel", 194, "blocks"), ("DuskTowerModel", 196, "carries"), ("DuskTowerModel", 197, "cost"), ("DuskTowerModel", 199, "holy"), ("DuskTowerModel", 201, "seen"), ("DuskTowerModel", 203, "day"), ("DuskTowerModel", 205, "or"), ("DuskTowerModel", 207, "and"), ("DuskTowerModel", 209, "not"), ("DuskTowerModel", 211, "noon"), ("DuskTowerModel", 213, "dusk")]
def dt_sb : List (List Int32) := [[59, 43, 45, 42, 47, 40, 41, 60, 61, 62],
  [110, 111, 111, 110, 32, 100, 117, 115, 107, 32, 111, 114, 32, 97, 110, 100, 32, 110, 111, 116, 32, 104, 101, 105, 103, 104, 116, 32, 98, 108, 111, 99, 107, 115, 32, 99, 97, 114, 114, 105, 101, 115, 32, 99, 111, 115, 116, 32, 104, 111, 108, 121, 32, 115, 101, 101, 110, 32, 100, 97, 121, 32],
  [104, 101, 105, 103, 104, 116], [98, 108, 111, 99, 107, 115], [99, 97, 114, 114, 105, 101, 115], [99, 111, 115, 116], [104, 111, 108, 121], [115, 101, 101, 110], [100, 97, 121], [111, 114], [97, 110, 100], [110, 111, 116], [110, 111, 111, 110], [100, 117, 115, 107]]
def dt_sn : List Nat := dt_sb.map List.length
/-- what is said of the tables, beside the words: classes and arrays' classes, String constants, the nest mate's link -/
def dt_K (G : dt_G) (A : Nat → Prop) (U : State) : Prop := va_K G.2.1 vwCl (dt_tys G) U ∧ vk_S 14 dt_sn dt_sb G.2.2.2.1 G.2.2.2.2 A U U.heap ∧ (∀ i q, dt_sl[i]? = some q → vk_R q.1 q.2.1 q.2.2 (G.2.2.2.1 i) U) ∧ va_Nw (.methodLinkNest "DuskTower$Planner" 65 yX9_costOf "DuskTower") U ∧ va_Z "java/lang/String" "COMPACT_STRINGS" "Z" (.int 1) A U U.heap ∧ va_Zq "jdk/internal/util/Preconditions" "SIOOBE_FORMATTER" "Ljava/util/function/BiFunction;" A U U.heap
theorem dt_K.to {G : dt_G} {A : Nat → Prop} {s U : State} (h : dt_K G A s) (hW : s.WarmedH U.vm) {H : Heap} (hU : U.heap = H) (hk : ∀ q : Nat, q < s.heap.size → ¬ A q → H[q]? = s.heap[q]?) : dt_K G A U := by
  subst hU
  exact ⟨va_K.moved hW.alike h.1, (h.2.1.moved hW.alike).kept hk, fun i q hq => (h.2.2.1 i q hq).warm hW, va_Nw.warmM hW h.2.2.2.1, (va_Z.moved hW.alike h.2.2.2.2.1).kept hk, (va_Zq.moved hW.alike h.2.2.2.2.2).kept hk⟩
theorem dt_K.call {G : dt_G} {A : Nat → Prop} {U : State} (h : dt_K G A U) (g : JFrame) (mk : MethodId) (a : Array Value) : dt_K G A (U.calling g mk a) := by
  refine ⟨va_K.moved (u := U) (U := U.calling g mk a) (Vm.Alike.refl _) h.1, ?_, fun i q hq => (h.2.2.1 i q hq).same rfl, va_Nw.same rfl rfl h.2.2.2.1, va_Z.moved (u := U) (U := U.calling g mk a) (Vm.Alike.refl _) h.2.2.2.2.1, va_Zq.moved (u := U) (U := U.calling g mk a) (Vm.Alike.refl _) h.2.2.2.2.2⟩
  exact vk_S.moved (u := U) (U := U.calling g mk a) (Vm.Alike.refl _) h.2.1
/-- a contract over the memory -/
def dt_Pre (G : dt_G) (A : Nat → Prop) (av : List Value) (M : dt_M) : Array Value → State → Prop := fun v U => v = av.toArray ∧ va_P G.2.1 vwCl (dt_ws G M) U.heap ∧ dt_K G A U
def dt_Post (G : dt_G) (A : Nat → Prop) (r : Option Value) (M : dt_M) : Array Value → State → Outcome → State → Prop := fun _ st o t => o = .returned r ∧ va_P G.2.1 vwCl (dt_ws G M) t.heap ∧ va_F A st t
theorem dt_blind {G : dt_G} {A : Nat → Prop} {av : List Value} {M : dt_M} : FrameBlind (dt_Pre G A av M) := fun a _ g mk h => ⟨h.1, h.2.1, h.2.2.call g mk a⟩
def dt_rm (h : Nat) : Room := { frames := h, cells := 0, slots := 0, locals := 40 * h }
def dt_Met (nb : Nat) (l : Launch) (y : MethodName) (code : ByteArray) (nL : Nat) (ret : Option FieldType) (h : Nat) (av : dt_G → List Value) (M : dt_M) (r : Option Value) (M' : dt_M) : Prop :=
  ∀ (G : dt_G) (A : Nat → Prop), 18 + nb ≤ dt_n G → (dt_n G = 18 ∨ dt_n G = 19) → va_D A (dt_ws G (fun _ _ _ => 0)) → Met l y (dt_wm y code nL ret) (dt_rm h) (dt_Pre G A (av G) M) (dt_Post G A r M') 0 0 A
theorem dt_map_D {α : Type} (L : List α) {f f' : α → Nat × va_E} (hf : ∀ x, (f x).1 = (f' x).1) {A : Nat → Prop} (h : va_D A (L.map f)) : va_D A (L.map f') := by
  have key : ∀ (k : Nat) (q : Nat × va_E), (L.map f')[k]? = some q → ∃ q' : Nat × va_E, (L.map f)[k]? = some q' ∧ q'.1 = q.1 := by
    intro k q hq
    rw [List.getElem?_map] at hq ⊢
    cases hx : L[k]? with
    | none => rw [hx] at hq; cases hq
    | some x =>
      rw [hx] at hq
      cases hq
      exact ⟨_, rfl, hf x⟩
  refine ⟨fun i j x y hi hj e => ?_, fun k q hq => ?_⟩
  · obtain ⟨x', h1, h2⟩ := key i x hi
    obtain ⟨y', h3, h4⟩ := key j y hj
    exact h.1 i j x' y' h1 h3 (h2.trans (e.trans h4.symm))
  · obtain ⟨q', h1, h2⟩ := key k q hq
    rw [← h2]
    exact h.2 k q' h1
theorem dt_D {A : Nat → Prop} {G : dt_G} {M M' : dt_M} (h : va_D A (dt_ws G M)) : va_D A (dt_ws G M') := by
  unfold dt_ws at h ⊢
  exact dt_map_D (f := dt_cell G M) (f' := dt_cell G M') (dt_all (dt_n G)) (fun _ => rfl) h
