def dt_adm (f2 : Nat → Nat) (q2 c : Nat) : Nat := if 39 ≤ c then f2 6 + 1 + (c - 39) else (q2 :: f2 0 :: f2 1 :: f2 2 :: 0 :: 0 :: 0 :: 0 :: f2 3 :: f2 4 :: f2 5 :: f2 6 :: f2 7 :: f2 8 :: f2 9 :: f2 10 :: f2 11 :: 0 :: 0 :: 0 :: 0 :: 0 :: 0 :: 0 :: 0 :: 0 :: 0 :: 0 :: 0 :: f2 12 :: f2 13 :: f2 14 :: f2 15 :: f2 16 :: 0 :: 0 :: f2 17 :: f2 18 :: 0 :: []).getD c 0
def dt_Gl (D : va_G) (cy : Nat → ClassId) (adK adV f : Nat → Nat) (q1 : Nat) (f2 : Nat → Nat) (q2 : Nat) : dt_G := (fun k c => if k = 18 then dt_adm f2 q2 c else dt_adx f q1 k c, D, cy, fun i => if i = 14 then 19 else adK i, adV)
def dt_o18 : List (Nat × Nat) := (18, 0) :: ((List.range 46).filter (dt_isA 18)).map fun j => (18, j + 1)
theorem dt_all_19 : dt_all 19 = dt_all 18 ++ dt_o18 := by decide +kernel
def dt_om1 : List (Nat × Nat) := (18, 0) :: (18, 1) :: (18, 2) :: (18, 3) :: (18, 8) :: (18, 9) :: (18, 10) :: []
def dt_om2 : List (Nat × Nat) := (18, 39) :: (18, 40) :: (18, 41) :: (18, 42) :: (18, 43) :: (18, 44) :: (18, 45) :: (18, 46) :: (18, 12) :: (18, 13) :: (18, 14) :: (18, 15) :: (18, 16) :: (18, 29) :: (18, 30) :: (18, 31) :: (18, 32) :: (18, 33) :: (18, 36) :: (18, 37) :: []
theorem dt_om_perm : (dt_om1 ++ ((18, 11) :: dt_om2)).Perm dt_o18 := by decide +kernel
theorem dt_o18_nodup : (dt_all 19).Nodup := dt_nodup (Or.inr rfl)
set_option maxRecDepth 20000 in
theorem dt_row_cell (D : va_G) (cy : Nat → ClassId) (adK adV f : Nat → Nat) (q1 : Nat) (f2 : Nat → Nat) (q2 : Nat) : dt_cell (dt_Gl D cy adK adV f q1 f2 q2) dt_M1 (18, 11) = (f2 6, .inl (cy 3, 8, .inr (.inr (.inr (.inr (fun i => some (f2 6 + 1 + i))))))) := by
  have e : (fun i => some ((dt_Gl D cy adK adV f q1 f2 q2).1 18 (38 + i + 1))) = fun i => some (f2 6 + 1 + i) := by
    funext i
    show some (dt_adm f2 q2 (38 + i + 1)) = _
    unfold dt_adm
    rw [if_pos (by omega), show 38 + i + 1 - 39 = i by omega]
  rw [← e]
  rfl
set_option maxRecDepth 20000 in
theorem dt_res10 (D : va_G) (cy : Nat → ClassId) (adK adV f : Nat → Nat) (q1 : Nat) (f2 : Nat → Nat) (q2 : Nat) : (dt_om1 ++ ((18, 11) :: dt_om2)).map (dt_cell (dt_Gl D cy adK adV f q1 f2 q2) dt_M1) = res_X10 cy f2 q2 := by
  rw [List.map_append, List.map_cons, dt_row_cell]
  rfl
theorem dt_cell_x (D : va_G) (cy : Nat → ClassId) (adK adV f : Nat → Nat) (q1 : Nat) (f2 : Nat → Nat) (q2 : Nat) (M : dt_M) (y : Nat × Nat) (hy : y ∈ dt_all 18) : dt_cell (dt_Gl D cy adK adV f q1 f2 q2) M y = dt_cell (dt_Gx D cy adK adV f q1) M y := by
  obtain ⟨k, c⟩ := y
  have hk : k < 18 := by
    obtain ⟨k', h1, h2⟩ := List.mem_flatMap.mp hy
    rcases List.mem_cons.mp h2 with e | h3
    · cases e; exact List.mem_range.mp h1
    · obtain ⟨j', -, h5⟩ := List.mem_map.mp h3
      cases h5; exact List.mem_range.mp h1
  have e1 : ∀ c, (dt_Gl D cy adK adV f q1 f2 q2).1 k c = (dt_Gx D cy adK adV f q1).1 k c := fun c => if_neg (by omega)
  cases c with
  | zero =>
    rw [dt_cell0, dt_cell0, e1]
    have e2 : ∀ j, j ∈ List.range (dt_nf.getD (dt_c k) 0) → dt_fv (dt_Gl D cy adK adV f q1 f2 q2) M k j = dt_fv (dt_Gx D cy adK adV f q1) M k j := by
      intro j hj
      unfold dt_fv
      rw [e1]
      by_cases h4 : (dt_k (dt_c k) j).1 = 4
      · have hch : dt_ch k j ≠ 18 := by
          have key : ∀ k, k < 18 → ∀ j, j < 13 → (dt_k (dt_c k) j).1 = 4 → dt_ch k j ≠ 18 := by decide +kernel
          have hn : ∀ k, k < 18 → dt_nf.getD (dt_c k) 0 ≤ 13 := by decide +kernel
          exact key k hk j (Nat.lt_of_lt_of_le (List.mem_range.mp hj) (hn k hk)) h4
        have e3 : (dt_Gl D cy adK adV f q1 f2 q2).1 (dt_ch k j) 0 = (dt_Gx D cy adK adV f q1).1 (dt_ch k j) 0 := if_neg hch
        rw [e3]
      · rw [if_neg h4, if_neg h4]
    rw [List.map_congr_left e2]
  | succ c =>
    rw [dt_cellA, dt_cellA, e1]
    unfold dt_arr
    have e4 : (fun i => some ((dt_Gl D cy adK adV f q1 f2 q2).1 k (38 + i + 1))) = fun i => some ((dt_Gx D cy adK adV f q1).1 k (38 + i + 1)) := funext fun i => by rw [e1]
    rw [e4]
    rfl
theorem cl_L_7 : Cond.classLink RL 7 RX9 ∈ dt_tbl := dt_tin (List.mem_of_getElem? (i := 102) (by decide +kernel)) rfl
theorem cl_L_10 : Cond.classLink RL 10 RX10 ∈ dt_tbl := dt_tin (List.mem_of_getElem? (i := 1092) (by decide +kernel)) rfl
theorem dt_arrOf {s : State} {cA : ClassId} {kA : Class} {comp : ClassId} {ty : FieldType} (h1 : s.vm.classes[cA]? = some kA) (h2 : kA.kind = .array comp ty) : ArrOfT s cA ty := fun n z => ⟨(fun _ h => by cases h), kA, h1, comp, h2⟩
/-- the law's callee: a constructor whose contract is its own cells' -/
theorem lw_callI {D : va_G} {cy : Nat → ClassId} {A : Nat → Prop} {p : Program} {l : Launch} {e : Env} {R : Room} {s : State} {m : MethodId} {args : Array Value} {below : List Frame} {meth : Method} {c : Code} {cc : ByteArray} {nL : Nat} {own : String} {Q : State → Prop} {cs ss pc : Nat} {st : List Value} (S : CallFix p m c cc nL s args dt_tbl own) (hK : va_K D vwCl (dt_ty cy) s) (hA : ∀ q, s.heap.size ≤ q → A q) (hN : dt_N s) {y : MethodName} {code : ByteArray} {ci h mc ms i q : Nat} {fs0 : List Value} {res : (Nat → ClassId) → (Nat → Nat) → Nat → va_W} {Y : va_W} (hm : dt_Ct l y code ci fs0 h mc ms res) (f1 : Cond.code y code 1 none ∈ dt_tbl) (f2 : Cond.instanceMethod y ∈ dt_tbl) (f3 : Cond.initialized y.cls ∈ dt_tbl) (hd : y.cls ≠ "java/lang/invoke/MethodHandle" ∧ y.cls ≠ "java/lang/invoke/VarHandle" ∧ (parseMethodDescriptor y.desc).map (fun d => d.parameters.length) = some 0) (hy1 : y.name = "<init>") (w : Cond.methodLink own i y ∈ dt_tbl) (hR : h + 1 ≤ R.frames ∧ 8 + (1 + 11) + 40 * h ≤ R.locals) (hcs : cs + mc ≤ R.cells ∧ ss + ms ≤ R.slots) (hst : (st.map fun v => v.category).sum ≤ 8) (d : decode cc pc = .ok (.invokespecial i, 3)) {H : Heap} {locs : List Loc} {ls : Array Slot} (hsz : ls.size = nL) (hP : va_P D vwCl (Y ++ [(q, .inr (ci, fs0))]) H) (hD : va_D A (Y ++ [(q, .inr (ci, fs0))])) (hS : va_S A s.heap H locs) (k : ∀ (f : Nat → Nat) (H1 : Heap) (locs1 : List Loc), va_P D vwCl (Y ++ res cy f q) H1 → va_D A (Y ++ res cy f q) → va_S A s.heap H1 locs1 → W p l e R s m args below meth c H1 locs1 (cs + mc) (ss + ms) Q (F0 m (pc + 3) ls st)) : W p l e R s m args below meth c H locs cs ss Q (F0 m pc ls (.ref q :: st)) := by
  intro T hT Xs
  have hF := va_free (wc := [(q, .inr (ci, fs0))]) hD hS hA [Y.length] dt_last
  have hPc : va_P D vwCl [(q, .inr (ci, fs0))] H := hP.sub [Y.length] (by simp)
  have run := va_runI (e := e) (below := below) (meth := meth) (H := H) (locs := locs) (cells := cs) (slots := ss) (g := F0 m pc ls (.ref q :: st)) (As := []) (rest := st) S (hm D cy q H.size) (cwI (R := R) 0 S.2.2.2.2 (dt_goodIn f1) rfl rfl rfl (S.2.2.2.2 _ f3) (S.2.2.2.2 _ w) (S.2.2.2.2 _ f2) hy1 hd hR)
    ⟨fun a U g mk h => ⟨h.1, h.2.1, h.2.2.1, va_K.moved (u := U) (U := U.calling g mk a) (Vm.Alike.refl _) h.2.2.2.1, h.2.2.2.2.call g mk a⟩, fun U hU hW => ⟨rfl, by rw [hU], by rw [hU]; exact hPc, va_K.moved hW.alike hK, hN.to hW⟩⟩ rfl rfl hsz rfl (lv_room hst) d hcs
  obtain ⟨v, st₀, t, T', L, h0, X', hL, e1, e2, ⟨⟨hv, f, hp, hdd⟩, hz, hk⟩, st1⟩ := run T hT Xs
  cases hv
  rw [h0] at hz hk
  have hk2 : ∀ a : Nat, a < H.size → ¬ va_A [(q, .inr (ci, fs0))] H.size a → T'.heap[a]? = H[a]? := fun a h1 h2 => by rw [e1]; exact hk a h1 h2
  obtain ⟨hP2, hD2⟩ := va_join (wr := Y) (w1 := res cy f q) hP hD [Y.length] (List.range Y.length) dt_last dt_front (va_nd_range _) (fun i hi z => by have h1 := List.mem_range.mp hi; have h2 := List.mem_singleton.mp z; omega) hk2 hF (by rw [e1]; exact hp) hdd
  obtain ⟨t2, a1, b1⟩ := k f T'.heap (locs ++ L) hP2 hD2 ⟨Nat.le_trans hS.1 (by rw [e1]; exact hz), fun a h1 h2 => by
      have h3 : a < H.size := Nat.lt_of_lt_of_le h1 hS.1
      rw [hk2 a h3 (fun z => h2 (hF a z))]
      exact hS.2.1 a h1 h2, fun a ha => by
      rcases List.mem_append.mp ha with h | h
      · exact hS.2.2 a h
      · exact hF _ (hL a h)⟩ T' rfl X'
  exact ⟨t2, st1 t2 a1, b1⟩
set_option maxHeartbeats 4000000 in
set_option maxRecDepth 100000 in
/-- the law from its entry, over any invariant that the operations keep -/
theorem whole_start_of {I : dt_M → Prop} (hI0 : I dt_M1) (hst : dt_Steps I) {p : Program} {e : Env} {s : State} {m : MethodId} {below : List Frame} {meth : Method} {c : Code} (l : Launch) {b L : Nat} {xs : Nat → Int32} (hL : L ≤ 3072) (C0 : lw_At p s m meth c b L xs) : W p l e room_1 s m #[Value.ref b] below meth c s.heap [] 0 0 (lw_Z below #[Value.ref b] s) (entryFrame m ([Value.ref b] : List Value).toArray 4) := by
  obtain ⟨hx, hb, hr, hml, hown, hts0, hX, hbl, hlocks, hgv⟩ := id C0
  have hts : ∀ w ∈ dt_tbl, w.before #[Value.ref b] s = true := fun w hw => hts0 w (List.mem_filter.mp hw).1
  have hnar : ∀ w ∈ dt_nar, w.before #[Value.ref b] s = true := flat_of_before _ hgv
  have hA : ∀ q : Nat, s.heap.size ≤ q → (fun q : Nat => s.heap.size ≤ q) q := fun _ h => h
  have hnA : ∀ a : Nat, a < s.heap.size → ¬ (fun q : Nat => s.heap.size ≤ q) a := fun a h => Nat.not_le.mpr h
  obtain ⟨c0, iS0, hKn0⟩ := u_known (C := RX0) (T := TX0) (N := 3) (n := 3) hts uw_X0 (hts _ wi_X0)
  obtain ⟨c1, iS1, hKn1⟩ := u_known (C := RX1) (T := TX1) (N := 6) (n := 6) hts uw_X1 (hts _ wi_X1)
  obtain ⟨c2, iS2, hKn2⟩ := u_known (C := RX2) (T := TX2) (N := 8) (n := 8) hts uw_X2 (hts _ wi_X2)
  obtain ⟨c3, iS3, hKn3⟩ := u_known (C := RX3) (T := TX3) (N := 7) (n := 7) hts uw_X3 (hts _ wi_X3)
  obtain ⟨c4, iS4, hKn4⟩ := u_known (C := RX4) (T := TX4) (N := 3) (n := 3) hts uw_X4 (hts _ wi_X4)
  obtain ⟨c5, iS5, hKn5⟩ := u_known (C := RX5) (T := TX5) (N := 13) (n := 13) hts uw_X5 (hts _ wi_X5)
  obtain ⟨c6, iS6, hKn6⟩ := u_known (C := RX6) (T := TX6) (N := 6) (n := 6) hts uw_X6 (hts _ wi_X6)
  obtain ⟨c7, iS7, hKn7⟩ := u_known (C := RX7) (T := TX7) (N := 8) (n := 8) hts uw_X7 (hts _ wi_X7)
  obtain ⟨c8, iS8, hKn8⟩ := u_known (C := RX8) (T := TX8) (N := 5) (n := 5) hts uw_X8 (hts _ wi_X8)
  obtain ⟨c9, iS9, hKn9⟩ := u_known (C := RX9) (T := TX9) (N := 12) (n := 12) hts uw_X9 (hts _ wi_X9)
  obtain ⟨c10, iS10, hKn10⟩ := u_known (C := RX10) (T := TX10) (N := 38) (n := 38) hts uw_X10 (hts _ wi_X10)
  obtain ⟨dC, dI, hKc⟩ : ∃ (dC : Nat → ClassId) (dI : Nat → Nat → Nat), ∀ (k : Nat) (q : vw_C), vwCl[k]? = some q → u_Kn s q.1 q.2.1 q.2.2 (dC k) (dI k) := by
    refine ⟨fun k => [c0, c1, c2, c3, c4, c5, c6, c7, c8, c9, c10].getD k c0, fun k => [iS0, iS1, iS2, iS3, iS4, iS5, iS6, iS7, iS8, iS9, iS10].getD k iS0, ?_⟩
    intro k q hq
    match k, hq with
    | 0, hq => cases hq; exact hKn0
    | 1, hq => cases hq; exact hKn1
    | 2, hq => cases hq; exact hKn2
    | 3, hq => cases hq; exact hKn3
    | 4, hq => cases hq; exact hKn4
    | 5, hq => cases hq; exact hKn5
    | 6, hq => cases hq; exact hKn6
    | 7, hq => cases hq; exact hKn7
    | 8, hq => cases hq; exact hKn8
    | 9, hq => cases hq; exact hKn9
    | 10, hq => cases hq; exact hKn10
    | k + 11, hq => simp [vwCl] at hq
  obtain ⟨cI, kI, cmI, aI1, aI2, aI3⟩ := Cond.arrayClass_spec (hts _ dt_wArr.1)
  obtain ⟨cB, kB, cmB, aB1, aB2, aB3⟩ := Cond.arrayClass_spec (hts _ dt_wArr.2.1)
  obtain ⟨cJ, kJ, cmJ, aJ1, aJ2, aJ3⟩ := Cond.arrayClass_spec (hts _ dt_wArr.2.2)
  obtain ⟨cmG, cG, kG, aG0, -, aG2, aG3, aG1⟩ := arrayOverA_spec (hts0 _ tbl_over)
  obtain ⟨cy, e0, e1, e2, e3⟩ : ∃ cy : Nat → ClassId, cy 0 = cI ∧ cy 1 = cB ∧ cy 2 = cJ ∧ cy 3 = cG := ⟨fun i => [cI, cB, cJ, cG].getD i cI, rfl, rfl, rfl, rfl⟩
  subst e0
  subst e1
  subst e2
  subst e3
  have hK : va_K (dC, dI) vwCl (dt_ty cy) s := ⟨hKc, fun k q hq => by
    match k, hq with
    | 0, hq => cases hq; exact ⟨dt_arrOf aI2 aI3, aI1⟩
    | 1, hq => cases hq; exact ⟨dt_arrOf aB2 aB3, aB1⟩
    | 2, hq => cases hq; exact ⟨dt_arrOf aJ2 aJ3, aJ1⟩
    | 3, hq => cases hq; exact ⟨dt_arrOf aG2 aG3, aG1⟩
    | k + 4, hq => simp [dt_ty] at hq⟩
  obtain ⟨adK, adV, hstr, hev⟩ := vk_Sof (args := #[Value.ref b]) (s := s) (N := 14) (tm := dt_tm) (len := dt_sn) (byt := dt_sb) (A := fun q : Nat => s.heap.size ≤ q) (by decide +kernel) (fun i hi => hnar _ (nar_1 i hi)) (fun i hi => hnar _ (nar_2 i hi)) (fun i hi => hnar _ (nar_3 i hi)) (fun i hi => hnar _ (nar_4 i hi)) (fun i hi j hj => hnar _ (nar_5 i hi j hj)) (fun i j hi hj hne => (nar_6 i hi j hj hne).imp (hnar _) (hnar _)) hnA
  have hN : dt_N s := ⟨fun q hq => va_Nw.of rfl (hts0 _ (tbl_nest q hq)), over_moved (u := s) (E := s) (Vm.Alike.refl _) (hts0 _ tbl_over)⟩
  have hKK : dt_K ((fun _ _ => 0), (dC, dI), cy, adK, adV) (fun q : Nat => s.heap.size ≤ q) s := by
    refine ⟨hK, hstr, fun i q hq => ?_, va_Nw.of rfl (hts0 _ tbl_cost), va_Zof (hts0 _ tbl_s1.1) (hts0 _ tbl_s1.2) (va_eqi (hnar _ nar_7)) hnA, va_Zqof (hts0 _ tbl_s2.1) (hts0 _ tbl_s2.2) (hnar _ nar_8) hnA⟩
    have hi : i < 14 := (List.getElem?_eq_some_iff.mp hq).1
    have hg : dt_sl.getD i ("", 0, "") = q := by rw [List.getD_eq_getElem?_getD, hq]; rfl
    have h1 := tbl_str i hi
    have h2 := hev i hi
    unfold dt_tm at h2
    rw [hg] at h1 h2
    exact vk_R.of (hts0 _ h1) h2
  have hS : va_S (fun q : Nat => s.heap.size ≤ q) s.heap s.heap [] := va_S.rf
  have hP : va_P (dC, dI) vwCl [] s.heap := fun k q h => by simp at h
  have hD : va_D (fun q : Nat => s.heap.size ≤ q) [] := ⟨fun i j p q h => by simp at h, fun k q h => by simp at h⟩
  have hl := lv_entry ([.ref b]) (n := 4) (Nat.le_of_ble_eq_true rfl)
  rw [lg_entry_eq]
  generalize (lg_sl ([.ref b]) ++ List.replicate (4 - (lg_sl ([.ref b])).length) Slot.unset).toArray = ls at hl ⊢
  have hl : lv_has ls 4 [(0, .ref b)] := hl
  have S : CallFix p m c code 4 s #[Value.ref b] dt_tbl RL := ⟨hx, hb, hml, hown, hts⟩
  refine va_new (ci := 9) (fs := [.null, .null, .int 0, .null, .null, .int 0, .null, .int 0, .int 0, .null, .null, .null]) hx hb hts uw_X9 tyX9 tyX9_ok hown (hts _ cl_L_7) (hts _ wi_X9) (hts _ wn_X9) hK hP hD hS hA rfl dv_X9 (by show 0 + 1 ≤ 600000; omega) (by show 0 + 12 ≤ 7302250; omega) dL_law_0 (fun q1 H hP hD hS => ?_)
  refine lv_dup hx hb dL_law_3 rfl ?_
  intro T hT Xs
  have hA1 : s.heap.size ≤ q1 := hD.2 0 _ rfl
  have run := va_runI (e := e) (below := below) (meth := meth) (R := room_1) (H := H) (locs := []) (cells := 0 + 1) (slots := 0 + 12) (g := F0 m (0 + 3 + 1) ls [.ref q1, .ref q1]) (As := []) (rest := [.ref q1]) S (ct_X9 l (dC, dI) cy adK adV (fun q : Nat => s.heap.size ≤ q) q1) (cwI (R := room_1) 0 hts (dt_goodIn mi_X9.1) rfl rfl rfl (hts _ wn_X9) (hts _ ml_L_9) (hts _ mi_X9.2) rfl (by decide) ⟨by show 5 + 1 ≤ 2048; omega, by show 8 + (1 + 11) + 40 * 5 ≤ 84000; omega⟩)
    ⟨fun a U g mk h => ⟨h.1, h.2.1, va_K.moved (u := U) (U := U.calling g mk a) (Vm.Alike.refl _) h.2.2.1, h.2.2.2.1.call g mk a, h.2.2.2.2.1, h.2.2.2.2.2.1, h.2.2.2.2.2.2.call g mk a⟩, fun U hU hW => ⟨rfl, by rw [hU]; exact hP, va_K.moved hW.alike hK, hN.to hW, fun q hq => by rw [hU] at hq; exact Nat.le_trans hS.1 hq, hA1, hKK.to hW hU hS.2.1⟩⟩ rfl rfl hl.1 rfl (lv_room (Nat.le_of_ble_eq_true rfl)) dL_law_4 ⟨by show 0 + 1 + 81 ≤ 600000; omega, by show 0 + 12 + 4273 ≤ 7302250; omega⟩
  obtain ⟨v, st₀, t, T', L1, h0, X', hL1, ee1, ee2, ⟨⟨hv, f, hp, hdd⟩, hz, hk⟩, st1⟩ := run T hT Xs
  cases hv
  rw [h0] at hz hk
  have hS2 : va_S (fun q : Nat => s.heap.size ≤ q) s.heap T'.heap ([] ++ L1) := ⟨Nat.le_trans hS.1 (by rw [ee1]; exact hz), fun a h1 h2 => by rw [ee1, hk a (Nat.lt_of_lt_of_le h1 hS.1) h2]; exact hS.2.1 a h1 h2, fun a ha => by
      rcases List.mem_append.mp ha with h | h
      · exact hS.2.2 a h
      · exact hL1 a h⟩
  have hP2 : va_P (dC, dI) vwCl (dt_ws (dt_Gx (dC, dI) cy adK adV f q1) dt_M1) T'.heap := by rw [ee1]; exact hp
  suffices K2 : W p l e room_1 s m #[Value.ref b] below meth c T'.heap ([] ++ L1) (0 + 1 + 81) (0 + 12 + 4273) (lw_Z below #[Value.ref b] s) (F0 m 7 ls [.ref q1]) by
    obtain ⟨t2, b1, b2⟩ := K2 T' rfl X'
    exact ⟨t2, st1 t2 b1, b2⟩
  refine lv_astore_n (lv' := [(1, .ref q1), (0, .ref b)]) hx hb dL_law_7 rfl hl (by decide) rfl (fun ls hl => ?_)
  refine va_new (ci := 10) (fs := [.null, .null, .null, .int 0, .int 0, .int 0, .int 0, .null, .null, .null, .null, .null, .null, .null, .null, .null, .int 0, .int 0, .int 0, .int 0, .int 0, .int 0, .int 0, .int 0, .int 0, .int 0, .int 0, .int 0, .null, .null, .null, .null, .null, .int 0, .int 0, .null, .null, .int 0]) hx hb hts uw_X10 tyX10 tyX10_ok hown (hts _ cl_L_10) (hts _ wi_X10) (hts _ wn_X10) hK hP2 (dt_D hdd) hS2 hA rfl dv_X10 (by show 0 + 1 + 81 + 1 ≤ 600000; omega) (by show 0 + 12 + 4273 + 38 ≤ 7302250; omega) dL_law_8 (fun q2 H2 hP3 hD3 hS3 => ?_)
  refine lv_dup hx hb dL_law_11 rfl ?_
  refine lw_callI (pc := 12) (st := [.ref q2]) (q := q2) (Y := dt_ws (dt_Gx (dC, dI) cy adK adV f q1) dt_M1) S hK hA hN (ct_X10 l) mi_X10.1 mi_X10.2 wn_X10 (by decide) rfl ml_L_12 ⟨by show 1 + 1 ≤ 2048; omega, by show 8 + (1 + 11) + 40 * 1 ≤ 84000; omega⟩ ⟨by show 0 + 1 + 81 + 1 + 27 ≤ 600000; omega, by show 0 + 12 + 4273 + 38 + 4508 ≤ 7302250; omega⟩ (Nat.le_of_ble_eq_true rfl) dL_law_12 hl.1 hP3 hD3 hS3 (fun f2 H4 locs4 hP4 hD4 hS4 => ?_)
  refine lv_astore_n (lv' := [(2, .ref q2), (1, .ref q1), (0, .ref b)]) hx hb dL_law_15 rfl hl (by decide) rfl (fun ls hl => ?_)
  refine lv_iconst (v := 0) hx hb dL_law_16 (by decide) ?_
  refine lv_istore_n (lv' := [(3, .int 0), (2, .ref q2), (1, .ref q1), (0, .ref b)]) hx hb dL_law_17 rfl hl (by decide) rfl (fun ls hl => ?_)
  have eY : dt_ws (dt_Gx (dC, dI) cy adK adV f q1) dt_M1 ++ res_X10 cy f2 q2 = (dt_all 18 ++ (dt_om1 ++ ((18, 11) :: dt_om2))).map (dt_cell (dt_Gl (dC, dI) cy adK adV f q1 f2 q2) dt_M1) := by
    rw [List.map_append, dt_res10]
    have e9 : dt_ws (dt_Gx (dC, dI) cy adK adV f q1) dt_M1 = (dt_all 18).map (dt_cell (dt_Gl (dC, dI) cy adK adV f q1 f2 q2) dt_M1) := by
      unfold dt_ws
      exact (List.map_congr_left (fun y hy => dt_cell_x (dC, dI) cy adK adV f q1 f2 q2 dt_M1 y hy)).symm
    rw [e9]
  have hperm : (dt_all 18 ++ (dt_om1 ++ ((18, 11) :: dt_om2))).Perm (dt_all 19) := by
    rw [dt_all_19]
    exact List.Perm.append_left _ dt_om_perm
  rw [eY] at hP4 hD4
  have hP5 : va_P (dC, dI) vwCl (dt_ws (dt_Gl (dC, dI) cy adK adV f q1 f2 q2) dt_M1) H4 := dt_perm_P hperm hP4
  have hD5 : va_D (fun q : Nat => s.heap.size ≤ q) (dt_ws (dt_Gl (dC, dI) cy adK adV f q1 f2 q2) dt_M1) := dt_perm_D hperm dt_o18_nodup hD4
  have hK5 : dt_K (dt_Gl (dC, dI) cy adK adV f q1 f2 q2) (fun q : Nat => s.heap.size ≤ q) s := hKK.ad rfl rfl (fun i hi => if_neg (by omega)) rfl
  have C : dt_Cx 1 (dt_Gl (dC, dI) cy adK adV f q1 f2 q2) (fun q : Nat => s.heap.size ≤ q) p s m #[Value.ref b] meth c code 4 RL := ⟨S, hK5, dt_D hD5, hlocks, Nat.le_refl 19, Or.inr rfl⟩
  exact law_loop C hX hbl hL hr hst (L + 7) 0 dt_M1 (Nat.zero_le _) (by omega) hI0 H4 locs4 ls (lv_sub hl [0, 3, 2, 1] rfl) hP5 hS4

