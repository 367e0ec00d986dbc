
/-! THE CLAIM OUT OF ONE WALK OF THE LAW'S BODY. Your part is whole_start (and what it stands on); all else here is the same for every law, but numbers. -/
def R_law : String := "DuskTowerLaw"
def lw_P (b : Addr) (xs : List Int32) (args : Array Value) (s : State) : Prop := args = #[.ref b] ∧ s.IntsAt b xs ∧ xs.length ≤ 3072 ∧ (Jvm.Cond.and given_1 narrow_1).before args s = true
def lw_Q (_ : Array Value) (s : State) (o : Outcome) (t : State) : Prop := o = .returned (some (.int 1)) ∧ Framed s o t [] 600000 7302250
def lw_Z (below : List Frame) (a : Array Value) (s : State) : State → Prop := fun t => ∃ o, t.status = .running ∧ Ended t below o ∧ lw_Q a s o t
/-- the law's own end, with 1 on the stack, nothing written that was there before, its room as the claim has it -/
theorem lw_ret {p : Program} {l : Launch} {e : Env} {s : State} {m : MethodId} {below : List Frame} {meth : Method} {c : Code} {b : Nat} (hx : p.tables.exec = Jvm.exec) (hb : c.code = code) (hr : meth.sig.returnType = ret) (hlocks : meth.locks = false) {pc : Nat} {H : Heap} {ls : Array Slot} (hdg : decode code pc = .ok (.ireturn, 1)) : W p l e room_1 s m #[Value.ref b] below meth c H [] 600000 7302250 (lw_Z below #[Value.ref b] s) (F0 m pc ls [.int 1]) := by
  intro T hT X
  obtain ⟨fs, hret, hrun, hended, hW, hframe⟩ := X.leave (v := some (.int 1)) (hlocks := hlocks) (fun h => by rw [hr] at h; cases h)
  have hmeth' : T.vm.method? m = some meth := X.method'
  refine ⟨T.setFrames fs, ?_, .returned (some (.int 1)), hrun, hended, rfl, ⟨_, rfl⟩, hW, hframe⟩
  jvm_step X.here [X.here.top, hx, hb, hdg, hmeth', hr, ret, narrow_b1]
  (try refine ⟨rfl, ?_⟩); (try refine ⟨rfl, ?_⟩)
  first | (intro acts; rw [hret _ acts rfl rfl rfl]) | rw [hret _ _ rfl rfl rfl]
  exact Steps.refl _
/-- what holds at the law's entry: the machine, the code, the tables' words (any of lw_tbl by 'hts w (by decide +kernel)'), the script of L ints xs at the cell b, what the Statement gives of the start (any of its parts by flat_of_before) -/
def lw_At (p : Program) (s : State) (m : MethodId) (meth : Method) (c : Code) (b L : Nat) (xs : Nat → Int32) : Prop :=
  p.tables.exec = Jvm.exec ∧ c.code = code ∧ meth.sig.returnType = ret ∧ c.maxLocals = 4 ∧ s.vm.findClass R_law = some m.cls ∧ (∀ w ∈ lw_tbl, w.before #[Value.ref b] s = true) ∧ va_X b L xs s s.heap ∧ b < s.heap.size ∧ meth.locks = false ∧ (Jvm.Cond.and given_1 narrow_1).before #[Value.ref b] s = true

def St_columns (I : dt_M → Prop) : Prop := ∀ (M : dt_M) (a1 : Int32) , I M → ∃ (r : Int32) (M1 : dt_M) (T : dt_Ob), fX9_columns a1 M = some (r, M1) ∧ fX10_columns a1 (M1 18) = some (r, T) ∧ I (dt_put M1 18 T)
def St_block (I : dt_M → Prop) : Prop := ∀ (M : dt_M) (a1 a2 a3 a4 a5 : Int32) , I M → ∃ (r : Int32) (M1 : dt_M) (T : dt_Ob), fX9_block a1 a2 a3 a4 a5 M = some (r, M1) ∧ fX10_block a1 a2 a3 a4 a5 (M1 18) = some (r, T) ∧ I (dt_put M1 18 T)
def St_put (I : dt_M → Prop) : Prop := ∀ (M : dt_M) (a1 a2 : Int32) , I M → ∃ (r : Int32) (M1 : dt_M) (T : dt_Ob), fX9_put a1 a2 M = some (r, M1) ∧ fX10_put a1 a2 (M1 18) = some (r, T) ∧ I (dt_put M1 18 T)
def St_take (I : dt_M → Prop) : Prop := ∀ (M : dt_M) (a1 a2 : Int32) , I M → ∃ (r : Int32) (M1 : dt_M) (T : dt_Ob), fX9_take a1 a2 M = some (r, M1) ∧ fX10_take a1 a2 (M1 18) = some (r, T) ∧ I (dt_put M1 18 T)
def St_refused (I : dt_M → Prop) : Prop := ∀ (M : dt_M) (a1 : Int32) , I M → ∃ (r : Int32), fX9_refused a1 M = some r ∧ fX10_refused a1 (M 18) = some r ∧ I M
def St_of (I : dt_M → Prop) : Prop := ∀ (M : dt_M) (a1 a2 : Int32) , I M → ∃ (r : Int32) (M1 : dt_M) (T : dt_Ob), fX9_of a1 a2 M = some (r, M1) ∧ fX10_of a1 a2 (M1 18) = some (r, T) ∧ I (dt_put M1 18 T)
def St_height (I : dt_M → Prop) : Prop := ∀ (M : dt_M) (a1 : Int32) , I M → ∃ (r : Int32) (T : dt_Ob), fX9_height a1 M = some r ∧ fX10_height a1 (M 18) = some (r, T) ∧ I (dt_put M 18 T)
def St_noon (I : dt_M → Prop) : Prop := ∀ (M : dt_M) , I M → ∃ (r : Int32) (M1 : dt_M) (T : dt_Ob), fX9_noon M = some (r, M1) ∧ fX10_noon (M1 18) = some (r, T) ∧ I (dt_put M1 18 T)
def St_dusk (I : dt_M → Prop) : Prop := ∀ (M : dt_M) , I M → ∃ (r : Int32) (M1 : dt_M) (T : dt_Ob), fX9_dusk M = some (r, M1) ∧ fX10_dusk (M1 18) = some (r, T) ∧ I (dt_put M1 18 T)
def St_feed (I : dt_M → Prop) : Prop := ∀ (M : dt_M) (a1 a2 a3 a4 a5 : Int32) , I M → ∃ (r : Int32) (M1 : dt_M) (T : dt_Ob), fX9_feed a1 a2 a3 a4 a5 M = some (r, M1) ∧ fX10_feed a1 a2 a3 a4 a5 (M1 18) = some (r, T) ∧ I (dt_put M1 18 T)
def St_end (I : dt_M → Prop) : Prop := ∀ (M : dt_M) (a1 : Int32) , I M → ∃ (r : Int32) (M1 : dt_M) (T : dt_Ob), fX9_end a1 M = some (r, M1) ∧ fX10_end a1 (M1 18) = some (r, T) ∧ I (dt_put M1 18 T)
def St_text (I : dt_M → Prop) : Prop := ∀ (M : dt_M) , I M → ∃ (r : Int32) (M1 : dt_M) (T : dt_Ob), fX9_text M = some (r, M1) ∧ fX10_text (M1 18) = some (r, T) ∧ I (dt_put M1 18 T)
def St_fault (I : dt_M → Prop) : Prop := ∀ (M : dt_M) (a1 : Int32) , I M → ∃ (r : Int32), fX9_fault a1 M = some r ∧ fX10_fault a1 (M 18) = some r ∧ I M
def St_plan (I : dt_M → Prop) : Prop := ∀ (M : dt_M) (a1 a2 : Int32) , I M → ∃ (r : Int32) (M1 : dt_M) (T : dt_Ob), fX9_plan a1 a2 M = some (r, M1) ∧ fX10_plan a1 a2 (M1 18) = some (r, T) ∧ I (dt_put M1 18 T)
def St_down (I : dt_M → Prop) : Prop := ∀ (M : dt_M) (a1 : Int32) , I M → ∃ (r : Int32) (M1 : dt_M) (T : dt_Ob), fX9_down a1 M = some (r, M1) ∧ fX10_down a1 (M1 18) = some (r, T) ∧ I (dt_put M1 18 T)
def St_which (I : dt_M → Prop) : Prop := ∀ (M : dt_M) (a1 a2 : Int32) , I M → ∃ (r : Int32) (M1 : dt_M) (T : dt_Ob), fX9_which a1 a2 M = some (r, M1) ∧ fX10_which a1 a2 (M1 18) = some (r, T) ∧ I (dt_put M1 18 T)
def St_hand (I : dt_M → Prop) : Prop := ∀ (M : dt_M) (a1 : Int32) , I M → ∃ (r : Int32) (M1 : dt_M) (T : dt_Ob), fX9_hand a1 M = some (r, M1) ∧ fX10_hand a1 (M1 18) = some (r, T) ∧ I (dt_put M1 18 T)
def St_quarrel (I : dt_M → Prop) : Prop := ∀ (M : dt_M) (a1 a2 a3 : Int32) , I M → (a3 = 0 ∨ a3 = 1) → ∃ (r : Int32) (M1 : dt_M) (T : dt_Ob), fX9_quarrel a1 a2 a3 M = some (r, M1) ∧ fX10_quarrel a1 a2 a3 (M1 18) = some (r, T) ∧ I (dt_put M1 18 T)
def St_wind (I : dt_M → Prop) : Prop := ∀ (M : dt_M) (a1 a2 a3 : Int32) , I M → ∃ (r : Int32) (M1 : dt_M) (T : dt_Ob), fX9_wind a1 a2 a3 M = some (r, M1) ∧ fX10_wind a1 a2 a3 (M1 18) = some (r, T) ∧ I (dt_put M1 18 T)
def St_pay (I : dt_M → Prop) : Prop := ∀ (M : dt_M) (a1 a2 : Int32) , I M → ∃ (r : Int32) (M1 : dt_M) (T : dt_Ob), fX9_pay a1 a2 M = some (r, M1) ∧ fX10_pay a1 a2 (M1 18) = some (r, T) ∧ I (dt_put M1 18 T)
def St_worth (I : dt_M → Prop) : Prop := ∀ (M : dt_M) (a1 a2 a3 a4 : Int32) , I M → ∃ (r : Int64) (M1 : dt_M), fX9_worth a1 a2 a3 a4 M = some (r, M1) ∧ fX10_worth a1 a2 a3 a4 (M1 18) = some r ∧ I M1
def St_bet (I : dt_M → Prop) : Prop := ∀ (M : dt_M) (a1 a2 : Int32) , I M → ∃ (r : Int64), fX9_bet a1 a2 M = some r ∧ fX10_bet a1 a2 (M 18) = some r ∧ I M
def St_undo (I : dt_M → Prop) : Prop := ∀ (M : dt_M) , I M → ∃ (r : Int32) (M1 : dt_M) (T : dt_Ob), fX9_undo M = some (r, M1) ∧ fX10_undo (M1 18) = some (r, T) ∧ I (dt_put M1 18 T)
def St_image (I : dt_M → Prop) : Prop := ∀ (M : dt_M) (a1 : Int32) , I M → (a1 = 0 ∨ a1 = 1) → ∃ (r : Int32) (M1 : dt_M) (T : dt_Ob), fX9_image a1 M = some (r, M1) ∧ fX10_image a1 (M1 18) = some (r, T) ∧ I (dt_put M1 18 T)
def St_look (I : dt_M → Prop) : Prop := ∀ (M : dt_M) (a1 : Int32) , I M → ∃ (r : Int32), fX9_look a1 M = some r ∧ fX10_look a1 (M 18) = some r ∧ I M
def dt_Steps (I : dt_M → Prop) : Prop := St_columns I ∧ St_block I ∧ St_put I ∧ St_take I ∧ St_refused I ∧ St_of I ∧ St_height I ∧ St_noon I ∧ St_dusk I ∧ St_feed I ∧ St_end I ∧ St_text I ∧ St_fault I ∧ St_plan I ∧ St_down I ∧ St_which I ∧ St_hand I ∧ St_quarrel I ∧ St_wind I ∧ St_pay I ∧ St_worth I ∧ St_bet I ∧ St_undo I ∧ St_image I ∧ St_look I
theorem rm_fr {hc nc : Nat} (h : hc ≤ 200) (h2 : nc ≤ 21) : hc + 1 ≤ room_1.frames ∧ 8 + (nc + 11) + 40 * hc ≤ room_1.locals := ⟨by show hc + 1 ≤ 2048; omega, by show _ ≤ 84000; omega⟩
theorem rm_cells : 110 + 0 ≤ room_1.cells ∧ 8831 + 0 ≤ room_1.slots := ⟨by show 110 + 0 ≤ 600000; omega, by show 8831 + 0 ≤ 7302250; omega⟩
theorem lg_cmp_self (x : Int64) : lg_cmp x x = 0 := by
  unfold lg_cmp
  simp
set_option maxRecDepth 10000 in
set_option maxHeartbeats 4000000 in
theorem lw_c_columns {p : Program} {l : Launch} {e : Env} {s : State} {m : MethodId} {below : List Frame} {meth : Method} {c : Code} {b L : Nat} {xs : Nat → Int32} {G : dt_G} (C : dt_Cx 1 G (fun q : Nat => s.heap.size ≤ q) p s m #[Value.ref b] meth c code 4 RL) (hX : va_X b L xs s s.heap) (hbl : b < s.heap.size) (hL : L ≤ 3072) {I : dt_M → Prop} (hst : St_columns I) {i : Nat} (hi : i + 6 ≤ L) {M : dt_M} (hM : I M) (hgo : ∀ M2 : dt_M, I M2 → dt_Au 110 8831 G (fun q : Nat => s.heap.size ≤ q) p l e room_1 s m #[Value.ref b] below meth c 4 (lw_Z below #[Value.ref b] s) 937 [(3, .int (nI i)), (0, .ref b), (1, .ref (G.1 0 0)), (2, .ref (G.1 18 0))] [] M2) : dt_Au 110 8831 G (fun q : Nat => s.heap.size ≤ q) p l e room_1 s m #[Value.ref b] below meth c 4 (lw_Z below #[Value.ref b] s) 148 [(3, .int (nI i)), (0, .ref b), (1, .ref (G.1 0 0)), (2, .ref (G.1 18 0))] [] M := by
  have hi1 : vp_in (nI i + 1) L := by rw [show nI i + 1 = nI (i + 1) from nI_add i 1]; exact vp_in_nI (by omega) (by omega)
  have hi2 : vp_in (nI i + 2) L := by rw [show nI i + 2 = nI (i + 2) from nI_add i 2]; exact vp_in_nI (by omega) (by omega)
  have hi3 : vp_in (nI i + 3) L := by rw [show nI i + 3 = nI (i + 3) from nI_add i 3]; exact vp_in_nI (by omega) (by omega)
  have hi4 : vp_in (nI i + 4) L := by rw [show nI i + 4 = nI (i + 4) from nI_add i 4]; exact vp_in_nI (by omega) (by omega)
  have hi5 : vp_in (nI i + 5) L := by rw [show nI i + 5 = nI (i + 5) from nI_add i 5]; exact vp_in_nI (by omega) (by omega)
  obtain ⟨r, M1, T, h1, h2, h3⟩ := hst M ((xs (nI i + 1).toNatClampNeg)) hM
  refine du_aload_n (pc := 148) C dL_law_148 rfl 2 rfl ?_
  refine du_aload_n (pc := 149) C dL_law_149 rfl 1 rfl ?_
  refine du_iload_n (pc := 150) C dL_law_150 rfl 0 rfl ?_
  refine du_iconst (pc := 151) (v := 1) C dL_law_151 (by decide) ?_
  refine du_iadd (pc := 152) C dL_law_152 ?_
  refine du_sld (pc := 153) C hX hbl (Nat.not_le.mpr hbl) hi1 dL_law_153 ?_
  have hm1 : dt_Met 1 l yX9_columns cX9_columns 2 (some .boolean) 5 (fun G => [.ref (G.1 0 0), .int (xs (nI i + 1).toNatClampNeg)]) M (some (.int r)) M1 := m_X9_columns (nb := 1) l M ((xs (nI i + 1).toNatClampNeg)) h1
  refine du_calli (pc := 154) (st := []) (k := 0) (As := [.int (xs (nI i + 1).toNatClampNeg)]) (M' := M1) C Fc_X9 hk_0 mf_X9_columns rfl ml_L_13 hm1 rfl rfl (rm_fr (Nat.le_of_ble_eq_true rfl) (Nat.le_of_ble_eq_true rfl)) rm_cells (Nat.le_of_ble_eq_true rfl) dL_law_154 ?_
  refine du_aload_n (pc := 157) C dL_law_157 rfl 3 rfl ?_
  refine du_aload_n (pc := 158) C dL_law_158 rfl 1 rfl ?_
  refine du_iload_n (pc := 159) C dL_law_159 rfl 0 rfl ?_
  refine du_iconst (pc := 160) (v := 1) C dL_law_160 (by decide) ?_
  refine du_iadd (pc := 161) C dL_law_161 ?_
  refine du_sld (pc := 162) C hX hbl (Nat.not_le.mpr hbl) hi1 dL_law_162 ?_
  have hm2 : dt_Met 1 l yX10_columns cX10_columns 3 (some .boolean) 2 (fun G => [.ref (G.1 18 0), .int (xs (nI i + 1).toNatClampNeg)]) M1 (some (.int r)) (dt_put M1 18 T) := dt_c1 (m_X10_columns l M1 (M1 18) ((xs (nI i + 1).toNatClampNeg)) h2)
  refine du_calli (pc := 163) (st := [.int r]) (k := 18) (As := [.int (xs (nI i + 1).toNatClampNeg)]) (M' := (dt_put M1 18 T)) C Fc_X10 hk_18 mf_X10_columns rfl ml_L_17 hm2 rfl rfl (rm_fr (Nat.le_of_ble_eq_true rfl) (Nat.le_of_ble_eq_true rfl)) rm_cells (Nat.le_of_ble_eq_true rfl) dL_law_163 ?_
  refine du_icmp_eq (pc := 166) (t := 937) (X := some ()) (Y := none) (res := ()) C dL_law_166 (by decide) (if_pos rfl) (fun _ => ?_) (fun h => by cases h)
  exact hgo _ h3
set_option maxRecDepth 10000 in
set_option maxHeartbeats 4000000 in
theorem lw_c_block {p : Program} {l : Launch} {e : Env} {s : State} {m : MethodId} {below : List Frame} {meth : Method} {c : Code} {b L : Nat} {xs : Nat → Int32} {G : dt_G} (C : dt_Cx 1 G (fun q : Nat => s.heap.size ≤ q) p s m #[Value.ref b] meth c code 4 RL) (hX : va_X b L xs s s.heap) (hbl : b < s.heap.size) (hL : L ≤ 3072) {I : dt_M → Prop} (hst : St_block I) {i : Nat} (hi : i + 6 ≤ L) {M : dt_M} (hM : I M) (hgo : ∀ M2 : dt_M, I M2 → dt_Au 110 8831 G (fun q : Nat => s.heap.size ≤ q) p l e room_1 s m #[Value.ref b] below meth c 4 (lw_Z below #[Value.ref b] s) 937 [(3, .int (nI i)), (0, .ref b), (1, .ref (G.1 0 0)), (2, .ref (G.1 18 0))] [] M2) : dt_Au 110 8831 G (fun q : Nat => s.heap.size ≤ q) p l e room_1 s m #[Value.ref b] below meth c 4 (lw_Z below #[Value.ref b] s) 171 [(3, .int (nI i)), (0, .ref b), (1, .ref (G.1 0 0)), (2, .ref (G.1 18 0))] [] M := by
  have hi1 : vp_in (nI i + 1) L := by rw [show nI i + 1 = nI (i + 1) from nI_add i 1]; exact vp_in_nI (by omega) (by omega)
  have hi2 : vp_in (nI i + 2) L := by rw [show nI i + 2 = nI (i + 2) from nI_add i 2]; exact vp_in_nI (by omega) (by omega)
  have hi3 : vp_in (nI i + 3) L := by rw [show nI i + 3 = nI (i + 3) from nI_add i 3]; exact vp_in_nI (by omega) (by omega)
  have hi4 : vp_in (nI i + 4) L := by rw [show nI i + 4 = nI (i + 4) from nI_add i 4]; exact vp_in_nI (by omega) (by omega)
  have hi5 : vp_in (nI i + 5) L := by rw [show nI i + 5 = nI (i + 5) from nI_add i 5]; exact vp_in_nI (by omega) (by omega)
  obtain ⟨r, M1, T, h1, h2, h3⟩ := hst M ((xs (nI i + 1).toNatClampNeg)) ((xs (nI i + 2).toNatClampNeg)) ((xs (nI i + 3).toNatClampNeg)) ((xs (nI i + 4).toNatClampNeg)) ((xs (nI i + 5).toNatClampNeg)) hM
  refine du_aload_n (pc := 171) C dL_law_171 rfl 2 rfl ?_
  refine du_aload_n (pc := 172) C dL_law_172 rfl 1 rfl ?_
  refine du_iload_n (pc := 173) C dL_law_173 rfl 0 rfl ?_
  refine du_iconst (pc := 174) (v := 1) C dL_law_174 (by decide) ?_
  refine du_iadd (pc := 175) C dL_law_175 ?_
  refine du_sld (pc := 176) C hX hbl (Nat.not_le.mpr hbl) hi1 dL_law_176 ?_
  refine du_aload_n (pc := 177) C dL_law_177 rfl 1 rfl ?_
  refine du_iload_n (pc := 178) C dL_law_178 rfl 0 rfl ?_
  refine du_iconst (pc := 179) (v := 2) C dL_law_179 (by decide) ?_
  refine du_iadd (pc := 180) C dL_law_180 ?_
  refine du_sld (pc := 181) C hX hbl (Nat.not_le.mpr hbl) hi2 dL_law_181 ?_
  refine du_aload_n (pc := 182) C dL_law_182 rfl 1 rfl ?_
  refine du_iload_n (pc := 183) C dL_law_183 rfl 0 rfl ?_
  refine du_iconst (pc := 184) (v := 3) C dL_law_184 (by decide) ?_
  refine du_iadd (pc := 185) C dL_law_185 ?_
  refine du_sld (pc := 186) C hX hbl (Nat.not_le.mpr hbl) hi3 dL_law_186 ?_
  refine du_aload_n (pc := 187) C dL_law_187 rfl 1 rfl ?_
  refine du_iload_n (pc := 188) C dL_law_188 rfl 0 rfl ?_
  refine du_iconst (pc := 189) (v := 4) C dL_law_189 (by decide) ?_
  refine du_iadd (pc := 190) C dL_law_190 ?_
  refine du_sld (pc := 191) C hX hbl (Nat.not_le.mpr hbl) hi4 dL_law_191 ?_
  refine du_aload_n (pc := 192) C dL_law_192 rfl 1 rfl ?_
  refine du_iload_n (pc := 193) C dL_law_193 rfl 0 rfl ?_
  refine du_iconst (pc := 194) (v := 5) C dL_law_194 (by decide) ?_
  refine du_iadd (pc := 195) C dL_law_195 ?_
  refine du_sld (pc := 196) C hX hbl (Nat.not_le.mpr hbl) hi5 dL_law_196 ?_
  have hm1 : dt_Met 1 l yX9_block cX9_block 9 (some .int) 2 (fun G => [.ref (G.1 0 0), .int (xs (nI i + 1).toNatClampNeg), .int (xs (nI i + 2).toNatClampNeg), .int (xs (nI i + 3).toNatClampNeg), .int (xs (nI i + 4).toNatClampNeg), .int (xs (nI i + 5).toNatClampNeg)]) M (some (.int r)) M1 := m_X9_block (nb := 1) l M ((xs (nI i + 1).toNatClampNeg)) ((xs (nI i + 2).toNatClampNeg)) ((xs (nI i + 3).toNatClampNeg)) ((xs (nI i + 4).toNatClampNeg)) ((xs (nI i + 5).toNatClampNeg)) h1
  refine du_calli (pc := 197) (st := []) (k := 0) (As := [.int (xs (nI i + 1).toNatClampNeg), .int (xs (nI i + 2).toNatClampNeg), .int (xs (nI i + 3).toNatClampNeg), .int (xs (nI i + 4).toNatClampNeg), .int (xs (nI i + 5).toNatClampNeg)]) (M' := M1) C Fc_X9 hk_0 mf_X9_block rfl ml_L_18 hm1 rfl rfl (rm_fr (Nat.le_of_ble_eq_true rfl) (Nat.le_of_ble_eq_true rfl)) rm_cells (Nat.le_of_ble_eq_true rfl) dL_law_197 ?_
  refine du_aload_n (pc := 200) C dL_law_200 rfl 3 rfl ?_
  refine du_aload_n (pc := 201) C dL_law_201 rfl 1 rfl ?_
  refine du_iload_n (pc := 202) C dL_law_202 rfl 0 rfl ?_
  refine du_iconst (pc := 203) (v := 1) C dL_law_203 (by decide) ?_
  refine du_iadd (pc := 204) C dL_law_204 ?_
  refine du_sld (pc := 205) C hX hbl (Nat.not_le.mpr hbl) hi1 dL_law_205 ?_
  refine du_aload_n (pc := 206) C dL_law_206 rfl 1 rfl ?_
  refine du_iload_n (pc := 207) C dL_law_207 rfl 0 rfl ?_
  refine du_iconst (pc := 208) (v := 2) C dL_law_208 (by decide) ?_
  refine du_iadd (pc := 209) C dL_law_209 ?_
  refine du_sld (pc := 210) C hX hbl (Nat.not_le.mpr hbl) hi2 dL_law_210 ?_
  refine du_aload_n (pc := 211) C dL_law_211 rfl 1 rfl ?_
  refine du_iload_n (pc := 212) C dL_law_212 rfl 0 rfl ?_
  refine du_iconst (pc := 213) (v := 3) C dL_law_213 (by decide) ?_
  refine du_iadd (pc := 214) C dL_law_214 ?_
  refine du_sld (pc := 215) C hX hbl (Nat.not_le.mpr hbl) hi3 dL_law_215 ?_
  refine du_aload_n (pc := 216) C dL_law_216 rfl 1 rfl ?_
  refine du_iload_n (pc := 217) C dL_law_217 rfl 0 rfl ?_
  refine du_iconst (pc := 218) (v := 4) C dL_law_218 (by decide) ?_
  refine du_iadd (pc := 219) C dL_law_219 ?_
  refine du_sld (pc := 220) C hX hbl (Nat.not_le.mpr hbl) hi4 dL_law_220 ?_
  refine du_aload_n (pc := 221) C dL_law_221 rfl 1 rfl ?_
  refine du_iload_n (pc := 222) C dL_law_222 rfl 0 rfl ?_
  refine du_iconst (pc := 223) (v := 5) C dL_law_223 (by decide) ?_
  refine du_iadd (pc := 224) C dL_law_224 ?_
  refine du_sld (pc := 225) C hX hbl (Nat.not_le.mpr hbl) hi5 dL_law_225 ?_
  have hm2 : dt_Met 1 l yX10_block cX10_block 7 (some .int) 2 (fun G => [.ref (G.1 18 0), .int (xs (nI i + 1).toNatClampNeg), .int (xs (nI i + 2).toNatClampNeg), .int (xs (nI i + 3).toNatClampNeg), .int (xs (nI i + 4).toNatClampNeg), .int (xs (nI i + 5).toNatClampNeg)]) M1 (some (.int r)) (dt_put M1 18 T) := dt_c1 (m_X10_block l M1 (M1 18) ((xs (nI i + 1).toNatClampNeg)) ((xs (nI i + 2).toNatClampNeg)) ((xs (nI i + 3).toNatClampNeg)) ((xs (nI i + 4).toNatClampNeg)) ((xs (nI i + 5).toNatClampNeg)) h2)
  refine du_calli (pc := 226) (st := [.int r]) (k := 18) (As := [.int (xs (nI i + 1).toNatClampNeg), .int (xs (nI i + 2).toNatClampNeg), .int (xs (nI i + 3).toNatClampNeg), .int (xs (nI i + 4).toNatClampNeg), .int (xs (nI i + 5).toNatClampNeg)]) (M' := (dt_put M1 18 T)) C Fc_X10 hk_18 mf_X10_block rfl ml_L_22 hm2 rfl rfl (rm_fr (Nat.le_of_ble_eq_true rfl) (Nat.le_of_ble_eq_true rfl)) rm_cells (Nat.le_of_ble_eq_true rfl) dL_law_226 ?_
  refine du_icmp_eq (pc := 229) (t := 937) (X := some ()) (Y := none) (res := ()) C dL_law_229 (by decide) (if_pos rfl) (fun _ => ?_) (fun h => by cases h)
  exact hgo _ h3
set_option maxRecDepth 10000 in
set_option maxHeartbeats 4000000 in
theorem lw_c_put {p : Program} {l : Launch} {e : Env} {s : State} {m : MethodId} {below : List Frame} {meth : Method} {c : Code} {b L : Nat} {xs : Nat → Int32} {G : dt_G} (C : dt_Cx 1 G (fun q : Nat => s.heap.size ≤ q) p s m #[Value.ref b] meth c code 4 RL) (hX : va_X b L xs s s.heap) (hbl : b < s.heap.size) (hL : L ≤ 3072) {I : dt_M → Prop} (hst : St_put I) {i : Nat} (hi : i + 6 ≤ L) {M : dt_M} (hM : I M) (hgo : ∀ M2 : dt_M, I M2 → dt_Au 110 8831 G (fun q : Nat => s.heap.size ≤ q) p l e room_1 s m #[Value.ref b] below meth c 4 (lw_Z below #[Value.ref b] s) 937 [(3, .int (nI i)), (0, .ref b), (1, .ref (G.1 0 0)), (2, .ref (G.1 18 0))] [] M2) : dt_Au 110 8831 G (fun q : Nat => s.heap.size ≤ q) p l e room_1 s m #[Value.ref b] below meth c 4 (lw_Z below #[Value.ref b] s) 234 [(3, .int (nI i)), (0, .ref b), (1, .ref (G.1 0 0)), (2, .ref (G.1 18 0))] [] M := by
  have hi1 : vp_in (nI i + 1) L := by rw [show nI i + 1 = nI (i + 1) from nI_add i 1]; exact vp_in_nI (by omega) (by omega)
  have hi2 : vp_in (nI i + 2) L := by rw [show nI i + 2 = nI (i + 2) from nI_add i 2]; exact vp_in_nI (by omega) (by omega)
  have hi3 : vp_in (nI i + 3) L := by rw [show nI i + 3 = nI (i + 3) from nI_add i 3]; exact vp_in_nI (by omega) (by omega)
  have hi4 : vp_in (nI i + 4) L := by rw [show nI i + 4 = nI (i + 4) from nI_add i 4]; exact vp_in_nI (by omega) (by omega)
  have hi5 : vp_in (nI i + 5) L := by rw [show nI i + 5 = nI (i + 5) from nI_add i 5]; exact vp_in_nI (by omega) (by omega)
  obtain ⟨r, M1, T, h1, h2, h3⟩ := hst M ((xs (nI i + 1).toNatClampNeg)) ((xs (nI i + 2).toNatClampNeg)) hM
  refine du_aload_n (pc := 234) C dL_law_234 rfl 2 rfl ?_
  refine du_aload_n (pc := 235) C dL_law_235 rfl 1 rfl ?_
  refine du_iload_n (pc := 236) C dL_law_236 rfl 0 rfl ?_
  refine du_iconst (pc := 237) (v := 1) C dL_law_237 (by decide) ?_
  refine du_iadd (pc := 238) C dL_law_238 ?_
  refine du_sld (pc := 239) C hX hbl (Nat.not_le.mpr hbl) hi1 dL_law_239 ?_
  refine du_aload_n (pc := 240) C dL_law_240 rfl 1 rfl ?_
  refine du_iload_n (pc := 241) C dL_law_241 rfl 0 rfl ?_
  refine du_iconst (pc := 242) (v := 2) C dL_law_242 (by decide) ?_
  refine du_iadd (pc := 243) C dL_law_243 ?_
  refine du_sld (pc := 244) C hX hbl (Nat.not_le.mpr hbl) hi2 dL_law_244 ?_
  have hm1 : dt_Met 1 l yX9_put cX9_put 8 (some .int) 5 (fun G => [.ref (G.1 0 0), .int (xs (nI i + 1).toNatClampNeg), .int (xs (nI i + 2).toNatClampNeg)]) M (some (.int r)) M1 := m_X9_put (nb := 1) l M ((xs (nI i + 1).toNatClampNeg)) ((xs (nI i + 2).toNatClampNeg)) h1
  refine du_calli (pc := 245) (st := []) (k := 0) (As := [.int (xs (nI i + 1).toNatClampNeg), .int (xs (nI i + 2).toNatClampNeg)]) (M' := M1) C Fc_X9 hk_0 mf_X9_put rfl ml_L_23 hm1 rfl rfl (rm_fr (Nat.le_of_ble_eq_true rfl) (Nat.le_of_ble_eq_true rfl)) rm_cells (Nat.le_of_ble_eq_true rfl) dL_law_245 ?_
  refine du_aload_n (pc := 248) C dL_law_248 rfl 3 rfl ?_
  refine du_aload_n (pc := 249) C dL_law_249 rfl 1 rfl ?_
  refine du_iload_n (pc := 250) C dL_law_250 rfl 0 rfl ?_
  refine du_iconst (pc := 251) (v := 1) C dL_law_251 (by decide) ?_
  refine du_iadd (pc := 252) C dL_law_252 ?_
  refine du_sld (pc := 253) C hX hbl (Nat.not_le.mpr hbl) hi1 dL_law_253 ?_
  refine du_aload_n (pc := 254) C dL_law_254 rfl 1 rfl ?_
  refine du_iload_n (pc := 255) C dL_law_255 rfl 0 rfl ?_
  refine du_iconst (pc := 256) (v := 2) C dL_law_256 (by decide) ?_
  refine du_iadd (pc := 257) C dL_law_257 ?_
  refine du_sld (pc := 258) C hX hbl (Nat.not_le.mpr hbl) hi2 dL_law_258 ?_
  have hm2 : dt_Met 1 l yX10_put cX10_put 3 (some .int) 6 (fun G => [.ref (G.1 18 0), .int (xs (nI i + 1).toNatClampNeg), .int (xs (nI i + 2).toNatClampNeg)]) M1 (some (.int r)) (dt_put M1 18 T) := dt_c1 (m_X10_put l M1 (M1 18) ((xs (nI i + 1).toNatClampNeg)) ((xs (nI i + 2).toNatClampNeg)) h2)
  refine du_calli (pc := 259) (st := [.int r]) (k := 18) (As := [.int (xs (nI i + 1).toNatClampNeg), .int (xs (nI i + 2).toNatClampNeg)]) (M' := (dt_put M1 18 T)) C Fc_X10 hk_18 mf_X10_put rfl ml_L_27 hm2 rfl rfl (rm_fr (Nat.le_of_ble_eq_true rfl) (Nat.le_of_ble_eq_true rfl)) rm_cells (Nat.le_of_ble_eq_true rfl) dL_law_259 ?_
  refine du_icmp_eq (pc := 262) (t := 937) (X := some ()) (Y := none) (res := ()) C dL_law_262 (by decide) (if_pos rfl) (fun _ => ?_) (fun h => by cases h)
  exact hgo _ h3
set_option maxRecDepth 10000 in
set_option maxHeartbeats 4000000 in
theorem lw_c_take {p : Program} {l : Launch} {e : Env} {s : State} {m : MethodId} {below : List Frame} {meth : Method} {c : Code} {b L : Nat} {xs : Nat → Int32} {G : dt_G} (C : dt_Cx 1 G (fun q : Nat => s.heap.size ≤ q) p s m #[Value.ref b] meth c code 4 RL) (hX : va_X b L xs s s.heap) (hbl : b < s.heap.size) (hL : L ≤ 3072) {I : dt_M → Prop} (hst : St_take I) {i : Nat} (hi : i + 6 ≤ L) {M : dt_M} (hM : I M) (hgo : ∀ M2 : dt_M, I M2 → dt_Au 110 8831 G (fun q : Nat => s.heap.size ≤ q) p l e room_1 s m #[Value.ref b] below meth c 4 (lw_Z below #[Value.ref b] s) 937 [(3, .int (nI i)), (0, .ref b), (1, .ref (G.1 0 0)), (2, .ref (G.1 18 0))] [] M2) : dt_Au 110 8831 G (fun q : Nat => s.heap.size ≤ q) p l e room_1 s m #[Value.ref b] below meth c 4 (lw_Z below #[Value.ref b] s) 267 [(3, .int (nI i)), (0, .ref b), (1, .ref (G.1 0 0)), (2, .ref (G.1 18 0))] [] M := by
  have hi1 : vp_in (nI i + 1) L := by rw [show nI i + 1 = nI (i + 1) from nI_add i 1]; exact vp_in_nI (by omega) (by omega)
  have hi2 : vp_in (nI i + 2) L := by rw [show nI i + 2 = nI (i + 2) from nI_add i 2]; exact vp_in_nI (by omega) (by omega)
  have hi3 : vp_in (nI i + 3) L := by rw [show nI i + 3 = nI (i + 3) from nI_add i 3]; exact vp_in_nI (by omega) (by omega)
  have hi4 : vp_in (nI i + 4) L := by rw [show nI i + 4 = nI (i + 4) from nI_add i 4]; exact vp_in_nI (by omega) (by omega)
  have hi5 : vp_in (nI i + 5) L := by rw [show nI i + 5 = nI (i + 5) from nI_add i 5]; exact vp_in_nI (by omega) (by omega)
  obtain ⟨r, M1, T, h1, h2, h3⟩ := hst M ((xs (nI i + 1).toNatClampNeg)) ((xs (nI i + 2).toNatClampNeg)) hM
  refine du_aload_n (pc := 267) C dL_law_267 rfl 2 rfl ?_
  refine du_aload_n (pc := 268) C dL_law_268 rfl 1 rfl ?_
  refine du_iload_n (pc := 269) C dL_law_269 rfl 0 rfl ?_
  refine du_iconst (pc := 270) (v := 1) C dL_law_270 (by decide) ?_
  refine du_iadd (pc := 271) C dL_law_271 ?_
  refine du_sld (pc := 272) C hX hbl (Nat.not_le.mpr hbl) hi1 dL_law_272 ?_
  refine du_aload_n (pc := 273) C dL_law_273 rfl 1 rfl ?_
  refine du_iload_n (pc := 274) C dL_law_274 rfl 0 rfl ?_
  refine du_iconst (pc := 275) (v := 2) C dL_law_275 (by decide) ?_
  refine du_iadd (pc := 276) C dL_law_276 ?_
  refine du_sld (pc := 277) C hX hbl (Nat.not_le.mpr hbl) hi2 dL_law_277 ?_
  have hm1 : dt_Met 1 l yX9_take cX9_take 6 (some .boolean) 4 (fun G => [.ref (G.1 0 0), .int (xs (nI i + 1).toNatClampNeg), .int (xs (nI i + 2).toNatClampNeg)]) M (some (.int r)) M1 := m_X9_take (nb := 1) l M ((xs (nI i + 1).toNatClampNeg)) ((xs (nI i + 2).toNatClampNeg)) h1
  refine du_calli (pc := 278) (st := []) (k := 0) (As := [.int (xs (nI i + 1).toNatClampNeg), .int (xs (nI i + 2).toNatClampNeg)]) (M' := M1) C Fc_X9 hk_0 mf_X9_take rfl ml_L_28 hm1 rfl rfl (rm_fr (Nat.le_of_ble_eq_true rfl) (Nat.le_of_ble_eq_true rfl)) rm_cells (Nat.le_of_ble_eq_true rfl) dL_law_278 ?_
  refine du_aload_n (pc := 281) C dL_law_281 rfl 3 rfl ?_
  refine du_aload_n (pc := 282) C dL_law_282 rfl 1 rfl ?_
  refine du_iload_n (pc := 283) C dL_law_283 rfl 0 rfl ?_
  refine du_iconst (pc := 284) (v := 1) C dL_law_284 (by decide) ?_
  refine du_iadd (pc := 285) C dL_law_285 ?_
  refine du_sld (pc := 286) C hX hbl (Nat.not_le.mpr hbl) hi1 dL_law_286 ?_
  refine du_aload_n (pc := 287) C dL_law_287 rfl 1 rfl ?_
  refine du_iload_n (pc := 288) C dL_law_288 rfl 0 rfl ?_
  refine du_iconst (pc := 289) (v := 2) C dL_law_289 (by decide) ?_
  refine du_iadd (pc := 290) C dL_law_290 ?_
  refine du_sld (pc := 291) C hX hbl (Nat.not_le.mpr hbl) hi2 dL_law_291 ?_
  have hm2 : dt_Met 1 l yX10_take cX10_take 3 (some .boolean) 4 (fun G => [.ref (G.1 18 0), .int (xs (nI i + 1).toNatClampNeg), .int (xs (nI i + 2).toNatClampNeg)]) M1 (some (.int r)) (dt_put M1 18 T) := dt_c1 (m_X10_take l M1 (M1 18) ((xs (nI i + 1).toNatClampNeg)) ((xs (nI i + 2).toNatClampNeg)) h2)
  refine du_calli (pc := 292) (st := [.int r]) (k := 18) (As := [.int (xs (nI i + 1).toNatClampNeg), .int (xs (nI i + 2).toNatClampNeg)]) (M' := (dt_put M1 18 T)) C Fc_X10 hk_18 mf_X10_take rfl ml_L_32 hm2 rfl rfl (rm_fr (Nat.le_of_ble_eq_true rfl) (Nat.le_of_ble_eq_true rfl)) rm_cells (Nat.le_of_ble_eq_true rfl) dL_law_292 ?_
  refine du_icmp_eq (pc := 295) (t := 937) (X := some ()) (Y := none) (res := ()) C dL_law_295 (by decide) (if_pos rfl) (fun _ => ?_) (fun h => by cases h)
  exact hgo _ h3
set_option maxRecDepth 10000 in
set_option maxHeartbeats 4000000 in
theorem lw_c_refused {p : Program} {l : Launch} {e : Env} {s : State} {m : MethodId} {below : List Frame} {meth : Method} {c : Code} {b L : Nat} {xs : Nat → Int32} {G : dt_G} (C : dt_Cx 1 G (fun q : Nat => s.heap.size ≤ q) p s m #[Value.ref b] meth c code 4 RL) (hX : va_X b L xs s s.heap) (hbl : b < s.heap.size) (hL : L ≤ 3072) {I : dt_M → Prop} (hst : St_refused I) {i : Nat} (hi : i + 6 ≤ L) {M : dt_M} (hM : I M) (hgo : ∀ M2 : dt_M, I M2 → dt_Au 110 8831 G (fun q : Nat => s.heap.size ≤ q) p l e room_1 s m #[Value.ref b] below meth c 4 (lw_Z below #[Value.ref b] s) 937 [(3, .int (nI i)), (0, .ref b), (1, .ref (G.1 0 0)), (2, .ref (G.1 18 0))] [] M2) : dt_Au 110 8831 G (fun q : Nat => s.heap.size ≤ q) p l e room_1 s m #[Value.ref b] below meth c 4 (lw_Z below #[Value.ref b] s) 300 [(3, .int (nI i)), (0, .ref b), (1, .ref (G.1 0 0)), (2, .ref (G.1 18 0))] [] M := by
  have hi1 : vp_in (nI i + 1) L := by rw [show nI i + 1 = nI (i + 1) from nI_add i 1]; exact vp_in_nI (by omega) (by omega)
  have hi2 : vp_in (nI i + 2) L := by rw [show nI i + 2 = nI (i + 2) from nI_add i 2]; exact vp_in_nI (by omega) (by omega)
  have hi3 : vp_in (nI i + 3) L := by rw [show nI i + 3 = nI (i + 3) from nI_add i 3]; exact vp_in_nI (by omega) (by omega)
  have hi4 : vp_in (nI i + 4) L := by rw [show nI i + 4 = nI (i + 4) from nI_add i 4]; exact vp_in_nI (by omega) (by omega)
  have hi5 : vp_in (nI i + 5) L := by rw [show nI i + 5 = nI (i + 5) from nI_add i 5]; exact vp_in_nI (by omega) (by omega)
  obtain ⟨r, h1, h2, h3⟩ := hst M ((xs (nI i + 1).toNatClampNeg)) hM
  refine du_aload_n (pc := 300) C dL_law_300 rfl 2 rfl ?_
  refine du_aload_n (pc := 301) C dL_law_301 rfl 1 rfl ?_
  refine du_iload_n (pc := 302) C dL_law_302 rfl 0 rfl ?_
  refine du_iconst (pc := 303) (v := 1) C dL_law_303 (by decide) ?_
  refine du_iadd (pc := 304) C dL_law_304 ?_
  refine du_sld (pc := 305) C hX hbl (Nat.not_le.mpr hbl) hi1 dL_law_305 ?_
  have hm1 : dt_Met 1 l yX9_refused cX9_refused 2 (some .int) 1 (fun G => [.ref (G.1 0 0), .int (xs (nI i + 1).toNatClampNeg)]) M (some (.int r)) M := m_X9_refused (nb := 1) l M ((xs (nI i + 1).toNatClampNeg)) h1
  refine du_calli (pc := 306) (st := []) (k := 0) (As := [.int (xs (nI i + 1).toNatClampNeg)]) (M' := M) C Fc_X9 hk_0 mf_X9_refused rfl ml_L_33 hm1 rfl rfl (rm_fr (Nat.le_of_ble_eq_true rfl) (Nat.le_of_ble_eq_true rfl)) rm_cells (Nat.le_of_ble_eq_true rfl) dL_law_306 ?_
  refine du_aload_n (pc := 309) C dL_law_309 rfl 3 rfl ?_
  refine du_aload_n (pc := 310) C dL_law_310 rfl 1 rfl ?_
  refine du_iload_n (pc := 311) C dL_law_311 rfl 0 rfl ?_
  refine du_iconst (pc := 312) (v := 1) C dL_law_312 (by decide) ?_
  refine du_iadd (pc := 313) C dL_law_313 ?_
  refine du_sld (pc := 314) C hX hbl (Nat.not_le.mpr hbl) hi1 dL_law_314 ?_
  have hm2 : dt_Met 1 l yX10_refused cX10_refused 2 (some .int) 1 (fun G => [.ref (G.1 18 0), .int (xs (nI i + 1).toNatClampNeg)]) M (some (.int r)) M := dt_c0 (m_X10_refused l M (M 18) ((xs (nI i + 1).toNatClampNeg)) h2)
  refine du_calli (pc := 315) (st := [.int r]) (k := 18) (As := [.int (xs (nI i + 1).toNatClampNeg)]) (M' := M) C Fc_X10 hk_18 mf_X10_refused rfl ml_L_37 hm2 rfl rfl (rm_fr (Nat.le_of_ble_eq_true rfl) (Nat.le_of_ble_eq_true rfl)) rm_cells (Nat.le_of_ble_eq_true rfl) dL_law_315 ?_
  refine du_icmp_eq (pc := 318) (t := 937) (X := some ()) (Y := none) (res := ()) C dL_law_318 (by decide) (if_pos rfl) (fun _ => ?_) (fun h => by cases h)
  exact hgo _ h3
set_option maxRecDepth 10000 in
set_option maxHeartbeats 4000000 in
theorem lw_c_of {p : Program} {l : Launch} {e : Env} {s : State} {m : MethodId} {below : List Frame} {meth : Method} {c : Code} {b L : Nat} {xs : Nat → Int32} {G : dt_G} (C : dt_Cx 1 G (fun q : Nat => s.heap.size ≤ q) p s m #[Value.ref b] meth c code 4 RL) (hX : va_X b L xs s s.heap) (hbl : b < s.heap.size) (hL : L ≤ 3072) {I : dt_M → Prop} (hst : St_of I) {i : Nat} (hi : i + 6 ≤ L) {M : dt_M} (hM : I M) (hgo : ∀ M2 : dt_M, I M2 → dt_Au 110 8831 G (fun q : Nat => s.heap.size ≤ q) p l e room_1 s m #[Value.ref b] below meth c 4 (lw_Z below #[Value.ref b] s) 937 [(3, .int (nI i)), (0, .ref b), (1, .ref (G.1 0 0)), (2, .ref (G.1 18 0))] [] M2) : dt_Au 110 8831 G (fun q : Nat => s.heap.size ≤ q) p l e room_1 s m #[Value.ref b] below meth c 4 (lw_Z below #[Value.ref b] s) 323 [(3, .int (nI i)), (0, .ref b), (1, .ref (G.1 0 0)), (2, .ref (G.1 18 0))] [] M := by
  have hi1 : vp_in (nI i + 1) L := by rw [show nI i + 1 = nI (i + 1) from nI_add i 1]; exact vp_in_nI (by omega) (by omega)
  have hi2 : vp_in (nI i + 2) L := by rw [show nI i + 2 = nI (i + 2) from nI_add i 2]; exact vp_in_nI (by omega) (by omega)
  have hi3 : vp_in (nI i + 3) L := by rw [show nI i + 3 = nI (i + 3) from nI_add i 3]; exact vp_in_nI (by omega) (by omega)
  have hi4 : vp_in (nI i + 4) L := by rw [show nI i + 4 = nI (i + 4) from nI_add i 4]; exact vp_in_nI (by omega) (by omega)
  have hi5 : vp_in (nI i + 5) L := by rw [show nI i + 5 = nI (i + 5) from nI_add i 5]; exact vp_in_nI (by omega) (by omega)
  obtain ⟨r, M1, T, h1, h2, h3⟩ := hst M ((xs (nI i + 1).toNatClampNeg)) ((xs (nI i + 2).toNatClampNeg)) hM
  refine du_aload_n (pc := 323) C dL_law_323 rfl 2 rfl ?_
  refine du_aload_n (pc := 324) C dL_law_324 rfl 1 rfl ?_
  refine du_iload_n (pc := 325) C dL_law_325 rfl 0 rfl ?_
  refine du_iconst (pc := 326) (v := 1) C dL_law_326 (by decide) ?_
  refine du_iadd (pc := 327) C dL_law_327 ?_
  refine du_sld (pc := 328) C hX hbl (Nat.not_le.mpr hbl) hi1 dL_law_328 ?_
  refine du_aload_n (pc := 329) C dL_law_329 rfl 1 rfl ?_
  refine du_iload_n (pc := 330) C dL_law_330 rfl 0 rfl ?_
  refine du_iconst (pc := 331) (v := 2) C dL_law_331 (by decide) ?_
  refine du_iadd (pc := 332) C dL_law_332 ?_
  refine du_sld (pc := 333) C hX hbl (Nat.not_le.mpr hbl) hi2 dL_law_333 ?_
  have hm1 : dt_Met 1 l yX9_of cX9_of 4 (some .int) 5 (fun G => [.ref (G.1 0 0), .int (xs (nI i + 1).toNatClampNeg), .int (xs (nI i + 2).toNatClampNeg)]) M (some (.int r)) M1 := m_X9_of (nb := 1) l M ((xs (nI i + 1).toNatClampNeg)) ((xs (nI i + 2).toNatClampNeg)) h1
  refine du_calli (pc := 334) (st := []) (k := 0) (As := [.int (xs (nI i + 1).toNatClampNeg), .int (xs (nI i + 2).toNatClampNeg)]) (M' := M1) C Fc_X9 hk_0 mf_X9_of rfl ml_L_38 hm1 rfl rfl (rm_fr (Nat.le_of_ble_eq_true rfl) (Nat.le_of_ble_eq_true rfl)) rm_cells (Nat.le_of_ble_eq_true rfl) dL_law_334 ?_
  refine du_aload_n (pc := 337) C dL_law_337 rfl 3 rfl ?_
  refine du_aload_n (pc := 338) C dL_law_338 rfl 1 rfl ?_
  refine du_iload_n (pc := 339) C dL_law_339 rfl 0 rfl ?_
  refine du_iconst (pc := 340) (v := 1) C dL_law_340 (by decide) ?_
  refine du_iadd (pc := 341) C dL_law_341 ?_
  refine du_sld (pc := 342) C hX hbl (Nat.not_le.mpr hbl) hi1 dL_law_342 ?_
  refine du_aload_n (pc := 343) C dL_law_343 rfl 1 rfl ?_
  refine du_iload_n (pc := 344) C dL_law_344 rfl 0 rfl ?_
  refine du_iconst (pc := 345) (v := 2) C dL_law_345 (by decide) ?_
  refine du_iadd (pc := 346) C dL_law_346 ?_
  refine du_sld (pc := 347) C hX hbl (Nat.not_le.mpr hbl) hi2 dL_law_347 ?_
  have hm2 : dt_Met 1 l yX10_of cX10_of 3 (some .int) 4 (fun G => [.ref (G.1 18 0), .int (xs (nI i + 1).toNatClampNeg), .int (xs (nI i + 2).toNatClampNeg)]) M1 (some (.int r)) (dt_put M1 18 T) := dt_c1 (m_X10_of l M1 (M1 18) ((xs (nI i + 1).toNatClampNeg)) ((xs (nI i + 2).toNatClampNeg)) h2)
  refine du_calli (pc := 348) (st := [.int r]) (k := 18) (As := [.int (xs (nI i + 1).toNatClampNeg), .int (xs (nI i + 2).toNatClampNeg)]) (M' := (dt_put M1 18 T)) C Fc_X10 hk_18 mf_X10_of rfl ml_L_41 hm2 rfl rfl (rm_fr (Nat.le_of_ble_eq_true rfl) (Nat.le_of_ble_eq_true rfl)) rm_cells (Nat.le_of_ble_eq_true rfl) dL_law_348 ?_
  refine du_icmp_eq (pc := 351) (t := 937) (X := some ()) (Y := none) (res := ()) C dL_law_351 (by decide) (if_pos rfl) (fun _ => ?_) (fun h => by cases h)
  exact hgo _ h3
set_option maxRecDepth 10000 in
set_option maxHeartbeats 4000000 in
theorem lw_c_height {p : Program} {l : Launch} {e : Env} {s : State} {m : MethodId} {below : List Frame} {meth : Method} {c : Code} {b L : Nat} {xs : Nat → Int32} {G : dt_G} (C : dt_Cx 1 G (fun q : Nat => s.heap.size ≤ q) p s m #[Value.ref b] meth c code 4 RL) (hX : va_X b L xs s s.heap) (hbl : b < s.heap.size) (hL : L ≤ 3072) {I : dt_M → Prop} (hst : St_height I) {i : Nat} (hi : i + 6 ≤ L) {M : dt_M} (hM : I M) (hgo : ∀ M2 : dt_M, I M2 → dt_Au 110 8831 G (fun q : Nat => s.heap.size ≤ q) p l e room_1 s m #[Value.ref b] below meth c 4 (lw_Z below #[Value.ref b] s) 937 [(3, .int (nI i)), (0, .ref b), (1, .ref (G.1 0 0)), (2, .ref (G.1 18 0))] [] M2) : dt_Au 110 8831 G (fun q : Nat => s.heap.size ≤ q) p l e room_1 s m #[Value.ref b] below meth c 4 (lw_Z below #[Value.ref b] s) 356 [(3, .int (nI i)), (0, .ref b), (1, .ref (G.1 0 0)), (2, .ref (G.1 18 0))] [] M := by
  have hi1 : vp_in (nI i + 1) L := by rw [show nI i + 1 = nI (i + 1) from nI_add i 1]; exact vp_in_nI (by omega) (by omega)
  have hi2 : vp_in (nI i + 2) L := by rw [show nI i + 2 = nI (i + 2) from nI_add i 2]; exact vp_in_nI (by omega) (by omega)
  have hi3 : vp_in (nI i + 3) L := by rw [show nI i + 3 = nI (i + 3) from nI_add i 3]; exact vp_in_nI (by omega) (by omega)
  have hi4 : vp_in (nI i + 4) L := by rw [show nI i + 4 = nI (i + 4) from nI_add i 4]; exact vp_in_nI (by omega) (by omega)
  have hi5 : vp_in (nI i + 5) L := by rw [show nI i + 5 = nI (i + 5) from nI_add i 5]; exact vp_in_nI (by omega) (by omega)
  obtain ⟨r, T, h1, h2, h3⟩ := hst M ((xs (nI i + 1).toNatClampNeg)) hM
  refine du_aload_n (pc := 356) C dL_law_356 rfl 2 rfl ?_
  refine du_aload_n (pc := 357) C dL_law_357 rfl 1 rfl ?_
  refine du_iload_n (pc := 358) C dL_law_358 rfl 0 rfl ?_
  refine du_iconst (pc := 359) (v := 1) C dL_law_359 (by decide) ?_
  refine du_iadd (pc := 360) C dL_law_360 ?_
  refine du_sld (pc := 361) C hX hbl (Nat.not_le.mpr hbl) hi1 dL_law_361 ?_
  have hm1 : dt_Met 1 l yX9_height cX9_height 3 (some .int) 2 (fun G => [.ref (G.1 0 0), .int (xs (nI i + 1).toNatClampNeg)]) M (some (.int r)) M := m_X9_height (nb := 1) l M ((xs (nI i + 1).toNatClampNeg)) h1
  refine du_calli (pc := 362) (st := []) (k := 0) (As := [.int (xs (nI i + 1).toNatClampNeg)]) (M' := M) C Fc_X9 hk_0 mf_X9_height rfl ml_L_42 hm1 rfl rfl (rm_fr (Nat.le_of_ble_eq_true rfl) (Nat.le_of_ble_eq_true rfl)) rm_cells (Nat.le_of_ble_eq_true rfl) dL_law_362 ?_
  refine du_aload_n (pc := 365) C dL_law_365 rfl 3 rfl ?_
  refine du_aload_n (pc := 366) C dL_law_366 rfl 1 rfl ?_
  refine du_iload_n (pc := 367) C dL_law_367 rfl 0 rfl ?_
  refine du_iconst (pc := 368) (v := 1) C dL_law_368 (by decide) ?_
  refine du_iadd (pc := 369) C dL_law_369 ?_
  refine du_sld (pc := 370) C hX hbl (Nat.not_le.mpr hbl) hi1 dL_law_370 ?_
  have hm2 : dt_Met 1 l yX10_height cX10_height 2 (some .int) 3 (fun G => [.ref (G.1 18 0), .int (xs (nI i + 1).toNatClampNeg)]) M (some (.int r)) (dt_put M 18 T) := dt_c1 (m_X10_height l M (M 18) ((xs (nI i + 1).toNatClampNeg)) h2)
  refine du_calli (pc := 371) (st := [.int r]) (k := 18) (As := [.int (xs (nI i + 1).toNatClampNeg)]) (M' := (dt_put M 18 T)) C Fc_X10 hk_18 mf_X10_height rfl ml_L_45 hm2 rfl rfl (rm_fr (Nat.le_of_ble_eq_true rfl) (Nat.le_of_ble_eq_true rfl)) rm_cells (Nat.le_of_ble_eq_true rfl) dL_law_371 ?_
  refine du_icmp_eq (pc := 374) (t := 937) (X := some ()) (Y := none) (res := ()) C dL_law_374 (by decide) (if_pos rfl) (fun _ => ?_) (fun h => by cases h)
  exact hgo _ h3
set_option maxRecDepth 10000 in
set_option maxHeartbeats 4000000 in
theorem lw_c_noon {p : Program} {l : Launch} {e : Env} {s : State} {m : MethodId} {below : List Frame} {meth : Method} {c : Code} {b L : Nat} {xs : Nat → Int32} {G : dt_G} (C : dt_Cx 1 G (fun q : Nat => s.heap.size ≤ q) p s m #[Value.ref b] meth c code 4 RL) (hX : va_X b L xs s s.heap) (hbl : b < s.heap.size) (hL : L ≤ 3072) {I : dt_M → Prop} (hst : St_noon I) {i : Nat} (hi : i + 6 ≤ L) {M : dt_M} (hM : I M) (hgo : ∀ M2 : dt_M, I M2 → dt_Au 110 8831 G (fun q : Nat => s.heap.size ≤ q) p l e room_1 s m #[Value.ref b] below meth c 4 (lw_Z below #[Value.ref b] s) 937 [(3, .int (nI i)), (0, .ref b), (1, .ref (G.1 0 0)), (2, .ref (G.1 18 0))] [] M2) : dt_Au 110 8831 G (fun q : Nat => s.heap.size ≤ q) p l e room_1 s m #[Value.ref b] below meth c 4 (lw_Z below #[Value.ref b] s) 379 [(3, .int (nI i)), (0, .ref b), (1, .ref (G.1 0 0)), (2, .ref (G.1 18 0))] [] M := by
  have hi1 : vp_in (nI i + 1) L := by rw [show nI i + 1 = nI (i + 1) from nI_add i 1]; exact vp_in_nI (by omega) (by omega)
  have hi2 : vp_in (nI i + 2) L := by rw [show nI i + 2 = nI (i + 2) from nI_add i 2]; exact vp_in_nI (by omega) (by omega)
  have hi3 : vp_in (nI i + 3) L := by rw [show nI i + 3 = nI (i + 3) from nI_add i 3]; exact vp_in_nI (by omega) (by omega)
  have hi4 : vp_in (nI i + 4) L := by rw [show nI i + 4 = nI (i + 4) from nI_add i 4]; exact vp_in_nI (by omega) (by omega)
  have hi5 : vp_in (nI i + 5) L := by rw [show nI i + 5 = nI (i + 5) from nI_add i 5]; exact vp_in_nI (by omega) (by omega)
  obtain ⟨r, M1, T, h1, h2, h3⟩ := hst M  hM
  refine du_aload_n (pc := 379) C dL_law_379 rfl 2 rfl ?_
  have hm1 : dt_Met 1 l yX9_noon cX9_noon 2 (some .int) 55 (fun G => [.ref (G.1 0 0)]) M (some (.int r)) M1 := m_X9_noon (nb := 1) l M  h1
  refine du_calli (pc := 380) (st := []) (k := 0) (As := []) (M' := M1) C Fc_X9 hk_0 mf_X9_noon rfl ml_L_46 hm1 rfl rfl (rm_fr (Nat.le_of_ble_eq_true rfl) (Nat.le_of_ble_eq_true rfl)) rm_cells (Nat.le_of_ble_eq_true rfl) dL_law_380 ?_
  refine du_aload_n (pc := 383) C dL_law_383 rfl 3 rfl ?_
  have hm2 : dt_Met 1 l yX10_noon cX10_noon 1 (some .int) 4 (fun G => [.ref (G.1 18 0)]) M1 (some (.int r)) (dt_put M1 18 T) := dt_c1 (m_X10_noon l M1 (M1 18)  h2)
  refine du_calli (pc := 384) (st := [.int r]) (k := 18) (As := []) (M' := (dt_put M1 18 T)) C Fc_X10 hk_18 mf_X10_noon rfl ml_L_50 hm2 rfl rfl (rm_fr (Nat.le_of_ble_eq_true rfl) (Nat.le_of_ble_eq_true rfl)) rm_cells (Nat.le_of_ble_eq_true rfl) dL_law_384 ?_
  refine du_icmp_eq (pc := 387) (t := 937) (X := some ()) (Y := none) (res := ()) C dL_law_387 (by decide) (if_pos rfl) (fun _ => ?_) (fun h => by cases h)
  exact hgo _ h3
set_option maxRecDepth 10000 in
set_option maxHeartbeats 4000000 in
theorem lw_c_dusk {p : Program} {l : Launch} {e : Env} {s : State} {m : MethodId} {below : List Frame} {meth : Method} {c : Code} {b L : Nat} {xs : Nat → Int32} {G : dt_G} (C : dt_Cx 1 G (fun q : Nat => s.heap.size ≤ q) p s m #[Value.ref b] meth c code 4 RL) (hX : va_X b L xs s s.heap) (hbl : b < s.heap.size) (hL : L ≤ 3072) {I : dt_M → Prop} (hst : St_dusk I) {i : Nat} (hi : i + 6 ≤ L) {M : dt_M} (hM : I M) (hgo : ∀ M2 : dt_M, I M2 → dt_Au 110 8831 G (fun q : Nat => s.heap.size ≤ q) p l e room_1 s m #[Value.ref b] below meth c 4 (lw_Z below #[Value.ref b] s) 937 [(3, .int (nI i)), (0, .ref b), (1, .ref (G.1 0 0)), (2, .ref (G.1 18 0))] [] M2) : dt_Au 110 8831 G (fun q : Nat => s.heap.size ≤ q) p l e room_1 s m #[Value.ref b] below meth c 4 (lw_Z below #[Value.ref b] s) 392 [(3, .int (nI i)), (0, .ref b), (1, .ref (G.1 0 0)), (2, .ref (G.1 18 0))] [] M := by
  have hi1 : vp_in (nI i + 1) L := by rw [show nI i + 1 = nI (i + 1) from nI_add i 1]; exact vp_in_nI (by omega) (by omega)
  have hi2 : vp_in (nI i + 2) L := by rw [show nI i + 2 = nI (i + 2) from nI_add i 2]; exact vp_in_nI (by omega) (by omega)
  have hi3 : vp_in (nI i + 3) L := by rw [show nI i + 3 = nI (i + 3) from nI_add i 3]; exact vp_in_nI (by omega) (by omega)
  have hi4 : vp_in (nI i + 4) L := by rw [show nI i + 4 = nI (i + 4) from nI_add i 4]; exact vp_in_nI (by omega) (by omega)
  have hi5 : vp_in (nI i + 5) L := by rw [show nI i + 5 = nI (i + 5) from nI_add i 5]; exact vp_in_nI (by omega) (by omega)
  obtain ⟨r, M1, T, h1, h2, h3⟩ := hst M  hM
  refine du_aload_n (pc := 392) C dL_law_392 rfl 2 rfl ?_
  have hm1 : dt_Met 1 l yX9_dusk cX9_dusk 2 (some .int) 55 (fun G => [.ref (G.1 0 0)]) M (some (.int r)) M1 := m_X9_dusk (nb := 1) l M  h1
  refine du_calli (pc := 393) (st := []) (k := 0) (As := []) (M' := M1) C Fc_X9 hk_0 mf_X9_dusk rfl ml_L_51 hm1 rfl rfl (rm_fr (Nat.le_of_ble_eq_true rfl) (Nat.le_of_ble_eq_true rfl)) rm_cells (Nat.le_of_ble_eq_true rfl) dL_law_393 ?_
  refine du_aload_n (pc := 396) C dL_law_396 rfl 3 rfl ?_
  have hm2 : dt_Met 1 l yX10_dusk cX10_dusk 4 (some .int) 4 (fun G => [.ref (G.1 18 0)]) M1 (some (.int r)) (dt_put M1 18 T) := dt_c1 (m_X10_dusk l M1 (M1 18)  h2)
  refine du_calli (pc := 397) (st := [.int r]) (k := 18) (As := []) (M' := (dt_put M1 18 T)) C Fc_X10 hk_18 mf_X10_dusk rfl ml_L_54 hm2 rfl rfl (rm_fr (Nat.le_of_ble_eq_true rfl) (Nat.le_of_ble_eq_true rfl)) rm_cells (Nat.le_of_ble_eq_true rfl) dL_law_397 ?_
  refine du_icmp_eq (pc := 400) (t := 937) (X := some ()) (Y := none) (res := ()) C dL_law_400 (by decide) (if_pos rfl) (fun _ => ?_) (fun h => by cases h)
  exact hgo _ h3
set_option maxRecDepth 10000 in
set_option maxHeartbeats 4000000 in
theorem lw_c_feed {p : Program} {l : Launch} {e : Env} {s : State} {m : MethodId} {below : List Frame} {meth : Method} {c : Code} {b L : Nat} {xs : Nat → Int32} {G : dt_G} (C : dt_Cx 1 G (fun q : Nat => s.heap.size ≤ q) p s m #[Value.ref b] meth c code 4 RL) (hX : va_X b L xs s s.heap) (hbl : b < s.heap.size) (hL : L ≤ 3072) {I : dt_M → Prop} (hst : St_feed I) {i : Nat} (hi : i + 6 ≤ L) {M : dt_M} (hM : I M) (hgo : ∀ M2 : dt_M, I M2 → dt_Au 110 8831 G (fun q : Nat => s.heap.size ≤ q) p l e room_1 s m #[Value.ref b] below meth c 4 (lw_Z below #[Value.ref b] s) 937 [(3, .int (nI i)), (0, .ref b), (1, .ref (G.1 0 0)), (2, .ref (G.1 18 0))] [] M2) : dt_Au 110 8831 G (fun q : Nat => s.heap.size ≤ q) p l e room_1 s m #[Value.ref b] below meth c 4 (lw_Z below #[Value.ref b] s) 405 [(3, .int (nI i)), (0, .ref b), (1, .ref (G.1 0 0)), (2, .ref (G.1 18 0))] [] M := by
  have hi1 : vp_in (nI i + 1) L := by rw [show nI i + 1 = nI (i + 1) from nI_add i 1]; exact vp_in_nI (by omega) (by omega)
  have hi2 : vp_in (nI i + 2) L := by rw [show nI i + 2 = nI (i + 2) from nI_add i 2]; exact vp_in_nI (by omega) (by omega)
  have hi3 : vp_in (nI i + 3) L := by rw [show nI i + 3 = nI (i + 3) from nI_add i 3]; exact vp_in_nI (by omega) (by omega)
  have hi4 : vp_in (nI i + 4) L := by rw [show nI i + 4 = nI (i + 4) from nI_add i 4]; exact vp_in_nI (by omega) (by omega)
  have hi5 : vp_in (nI i + 5) L := by rw [show nI i + 5 = nI (i + 5) from nI_add i 5]; exact vp_in_nI (by omega) (by omega)
  obtain ⟨r, M1, T, h1, h2, h3⟩ := hst M ((xs (nI i + 1).toNatClampNeg)) ((xs (nI i + 2).toNatClampNeg)) ((xs (nI i + 3).toNatClampNeg)) ((xs (nI i + 4).toNatClampNeg)) ((xs (nI i + 5).toNatClampNeg)) hM
  refine du_aload_n (pc := 405) C dL_law_405 rfl 2 rfl ?_
  refine du_aload_n (pc := 406) C dL_law_406 rfl 1 rfl ?_
  refine du_iload_n (pc := 407) C dL_law_407 rfl 0 rfl ?_
  refine du_iconst (pc := 408) (v := 1) C dL_law_408 (by decide) ?_
  refine du_iadd (pc := 409) C dL_law_409 ?_
  refine du_sld (pc := 410) C hX hbl (Nat.not_le.mpr hbl) hi1 dL_law_410 ?_
  refine du_aload_n (pc := 411) C dL_law_411 rfl 1 rfl ?_
  refine du_iload_n (pc := 412) C dL_law_412 rfl 0 rfl ?_
  refine du_iconst (pc := 413) (v := 2) C dL_law_413 (by decide) ?_
  refine du_iadd (pc := 414) C dL_law_414 ?_
  refine du_sld (pc := 415) C hX hbl (Nat.not_le.mpr hbl) hi2 dL_law_415 ?_
  refine du_aload_n (pc := 416) C dL_law_416 rfl 1 rfl ?_
  refine du_iload_n (pc := 417) C dL_law_417 rfl 0 rfl ?_
  refine du_iconst (pc := 418) (v := 3) C dL_law_418 (by decide) ?_
  refine du_iadd (pc := 419) C dL_law_419 ?_
  refine du_sld (pc := 420) C hX hbl (Nat.not_le.mpr hbl) hi3 dL_law_420 ?_
  refine du_aload_n (pc := 421) C dL_law_421 rfl 1 rfl ?_
  refine du_iload_n (pc := 422) C dL_law_422 rfl 0 rfl ?_
  refine du_iconst (pc := 423) (v := 4) C dL_law_423 (by decide) ?_
  refine du_iadd (pc := 424) C dL_law_424 ?_
  refine du_sld (pc := 425) C hX hbl (Nat.not_le.mpr hbl) hi4 dL_law_425 ?_
  refine du_aload_n (pc := 426) C dL_law_426 rfl 1 rfl ?_
  refine du_iload_n (pc := 427) C dL_law_427 rfl 0 rfl ?_
  refine du_iconst (pc := 428) (v := 5) C dL_law_428 (by decide) ?_
  refine du_iadd (pc := 429) C dL_law_429 ?_
  refine du_sld (pc := 430) C hX hbl (Nat.not_le.mpr hbl) hi5 dL_law_430 ?_
  have hm1 : dt_Met 1 l yX9_feed cX9_feed 6 (some .int) 2 (fun G => [.ref (G.1 0 0), .int (xs (nI i + 1).toNatClampNeg), .int (xs (nI i + 2).toNatClampNeg), .int (xs (nI i + 3).toNatClampNeg), .int (xs (nI i + 4).toNatClampNeg), .int (xs (nI i + 5).toNatClampNeg)]) M (some (.int r)) M1 := m_X9_feed (nb := 1) l M ((xs (nI i + 1).toNatClampNeg)) ((xs (nI i + 2).toNatClampNeg)) ((xs (nI i + 3).toNatClampNeg)) ((xs (nI i + 4).toNatClampNeg)) ((xs (nI i + 5).toNatClampNeg)) h1
  refine du_calli (pc := 431) (st := []) (k := 0) (As := [.int (xs (nI i + 1).toNatClampNeg), .int (xs (nI i + 2).toNatClampNeg), .int (xs (nI i + 3).toNatClampNeg), .int (xs (nI i + 4).toNatClampNeg), .int (xs (nI i + 5).toNatClampNeg)]) (M' := M1) C Fc_X9 hk_0 mf_X9_feed rfl ml_L_55 hm1 rfl rfl (rm_fr (Nat.le_of_ble_eq_true rfl) (Nat.le_of_ble_eq_true rfl)) rm_cells (Nat.le_of_ble_eq_true rfl) dL_law_431 ?_
  refine du_aload_n (pc := 434) C dL_law_434 rfl 3 rfl ?_
  refine du_aload_n (pc := 435) C dL_law_435 rfl 1 rfl ?_
  refine du_iload_n (pc := 436) C dL_law_436 rfl 0 rfl ?_
  refine du_iconst (pc := 437) (v := 1) C dL_law_437 (by decide) ?_
  refine du_iadd (pc := 438) C dL_law_438 ?_
  refine du_sld (pc := 439) C hX hbl (Nat.not_le.mpr hbl) hi1 dL_law_439 ?_
  refine du_aload_n (pc := 440) C dL_law_440 rfl 1 rfl ?_
  refine du_iload_n (pc := 441) C dL_law_441 rfl 0 rfl ?_
  refine du_iconst (pc := 442) (v := 2) C dL_law_442 (by decide) ?_
  refine du_iadd (pc := 443) C dL_law_443 ?_
  refine du_sld (pc := 444) C hX hbl (Nat.not_le.mpr hbl) hi2 dL_law_444 ?_
  refine du_aload_n (pc := 445) C dL_law_445 rfl 1 rfl ?_
  refine du_iload_n (pc := 446) C dL_law_446 rfl 0 rfl ?_
  refine du_iconst (pc := 447) (v := 3) C dL_law_447 (by decide) ?_
  refine du_iadd (pc := 448) C dL_law_448 ?_
  refine du_sld (pc := 449) C hX hbl (Nat.not_le.mpr hbl) hi3 dL_law_449 ?_
  refine du_aload_n (pc := 450) C dL_law_450 rfl 1 rfl ?_
  refine du_iload_n (pc := 451) C dL_law_451 rfl 0 rfl ?_
  refine du_iconst (pc := 452) (v := 4) C dL_law_452 (by decide) ?_
  refine du_iadd (pc := 453) C dL_law_453 ?_
  refine du_sld (pc := 454) C hX hbl (Nat.not_le.mpr hbl) hi4 dL_law_454 ?_
  refine du_aload_n (pc := 455) C dL_law_455 rfl 1 rfl ?_
  refine du_iload_n (pc := 456) C dL_law_456 rfl 0 rfl ?_
  refine du_iconst (pc := 457) (v := 5) C dL_law_457 (by decide) ?_
  refine du_iadd (pc := 458) C dL_law_458 ?_
  refine du_sld (pc := 459) C hX hbl (Nat.not_le.mpr hbl) hi5 dL_law_459 ?_
  have hm2 : dt_Met 1 l yX10_feed cX10_feed 8 (some .int) 1 (fun G => [.ref (G.1 18 0), .int (xs (nI i + 1).toNatClampNeg), .int (xs (nI i + 2).toNatClampNeg), .int (xs (nI i + 3).toNatClampNeg), .int (xs (nI i + 4).toNatClampNeg), .int (xs (nI i + 5).toNatClampNeg)]) M1 (some (.int r)) (dt_put M1 18 T) := dt_c1 (m_X10_feed l M1 (M1 18) ((xs (nI i + 1).toNatClampNeg)) ((xs (nI i + 2).toNatClampNeg)) ((xs (nI i + 3).toNatClampNeg)) ((xs (nI i + 4).toNatClampNeg)) ((xs (nI i + 5).toNatClampNeg)) h2)
  refine du_calli (pc := 460) (st := [.int r]) (k := 18) (As := [.int (xs (nI i + 1).toNatClampNeg), .int (xs (nI i + 2).toNatClampNeg), .int (xs (nI i + 3).toNatClampNeg), .int (xs (nI i + 4).toNatClampNeg), .int (xs (nI i + 5).toNatClampNeg)]) (M' := (dt_put M1 18 T)) C Fc_X10 hk_18 mf_X10_feed rfl ml_L_58 hm2 rfl rfl (rm_fr (Nat.le_of_ble_eq_true rfl) (Nat.le_of_ble_eq_true rfl)) rm_cells (Nat.le_of_ble_eq_true rfl) dL_law_460 ?_
  refine du_icmp_eq (pc := 463) (t := 937) (X := some ()) (Y := none) (res := ()) C dL_law_463 (by decide) (if_pos rfl) (fun _ => ?_) (fun h => by cases h)
  exact hgo _ h3
set_option maxRecDepth 10000 in
set_option maxHeartbeats 4000000 in
theorem lw_c_end {p : Program} {l : Launch} {e : Env} {s : State} {m : MethodId} {below : List Frame} {meth : Method} {c : Code} {b L : Nat} {xs : Nat → Int32} {G : dt_G} (C : dt_Cx 1 G (fun q : Nat => s.heap.size ≤ q) p s m #[Value.ref b] meth c code 4 RL) (hX : va_X b L xs s s.heap) (hbl : b < s.heap.size) (hL : L ≤ 3072) {I : dt_M → Prop} (hst : St_end I) {i : Nat} (hi : i + 6 ≤ L) {M : dt_M} (hM : I M) (hgo : ∀ M2 : dt_M, I M2 → dt_Au 110 8831 G (fun q : Nat => s.heap.size ≤ q) p l e room_1 s m #[Value.ref b] below meth c 4 (lw_Z below #[Value.ref b] s) 937 [(3, .int (nI i)), (0, .ref b), (1, .ref (G.1 0 0)), (2, .ref (G.1 18 0))] [] M2) : dt_Au 110 8831 G (fun q : Nat => s.heap.size ≤ q) p l e room_1 s m #[Value.ref b] below meth c 4 (lw_Z below #[Value.ref b] s) 468 [(3, .int (nI i)), (0, .ref b), (1, .ref (G.1 0 0)), (2, .ref (G.1 18 0))] [] M := by
  have hi1 : vp_in (nI i + 1) L := by rw [show nI i + 1 = nI (i + 1) from nI_add i 1]; exact vp_in_nI (by omega) (by omega)
  have hi2 : vp_in (nI i + 2) L := by rw [show nI i + 2 = nI (i + 2) from nI_add i 2]; exact vp_in_nI (by omega) (by omega)
  have hi3 : vp_in (nI i + 3) L := by rw [show nI i + 3 = nI (i + 3) from nI_add i 3]; exact vp_in_nI (by omega) (by omega)
  have hi4 : vp_in (nI i + 4) L := by rw [show nI i + 4 = nI (i + 4) from nI_add i 4]; exact vp_in_nI (by omega) (by omega)
  have hi5 : vp_in (nI i + 5) L := by rw [show nI i + 5 = nI (i + 5) from nI_add i 5]; exact vp_in_nI (by omega) (by omega)
  obtain ⟨r, M1, T, h1, h2, h3⟩ := hst M ((xs (nI i + 1).toNatClampNeg)) hM
  refine du_aload_n (pc := 468) C dL_law_468 rfl 2 rfl ?_
  refine du_aload_n (pc := 469) C dL_law_469 rfl 1 rfl ?_
  refine du_iload_n (pc := 470) C dL_law_470 rfl 0 rfl ?_
  refine du_iconst (pc := 471) (v := 1) C dL_law_471 (by decide) ?_
  refine du_iadd (pc := 472) C dL_law_472 ?_
  refine du_sld (pc := 473) C hX hbl (Nat.not_le.mpr hbl) hi1 dL_law_473 ?_
  have hm1 : dt_Met 1 l yX9_end cX9_end 2 (some .boolean) 1 (fun G => [.ref (G.1 0 0), .int (xs (nI i + 1).toNatClampNeg)]) M (some (.int r)) M1 := m_X9_end (nb := 1) l M ((xs (nI i + 1).toNatClampNeg)) h1
  refine du_calli (pc := 474) (st := []) (k := 0) (As := [.int (xs (nI i + 1).toNatClampNeg)]) (M' := M1) C Fc_X9 hk_0 mf_X9_end rfl ml_L_59 hm1 rfl rfl (rm_fr (Nat.le_of_ble_eq_true rfl) (Nat.le_of_ble_eq_true rfl)) rm_cells (Nat.le_of_ble_eq_true rfl) dL_law_474 ?_
  refine du_aload_n (pc := 477) C dL_law_477 rfl 3 rfl ?_
  refine du_aload_n (pc := 478) C dL_law_478 rfl 1 rfl ?_
  refine du_iload_n (pc := 479) C dL_law_479 rfl 0 rfl ?_
  refine du_iconst (pc := 480) (v := 1) C dL_law_480 (by decide) ?_
  refine du_iadd (pc := 481) C dL_law_481 ?_
  refine du_sld (pc := 482) C hX hbl (Nat.not_le.mpr hbl) hi1 dL_law_482 ?_
  have hm2 : dt_Met 1 l yX10_end cX10_end 2 (some .boolean) 2 (fun G => [.ref (G.1 18 0), .int (xs (nI i + 1).toNatClampNeg)]) M1 (some (.int r)) (dt_put M1 18 T) := dt_c1 (m_X10_end l M1 (M1 18) ((xs (nI i + 1).toNatClampNeg)) h2)
  refine du_calli (pc := 483) (st := [.int r]) (k := 18) (As := [.int (xs (nI i + 1).toNatClampNeg)]) (M' := (dt_put M1 18 T)) C Fc_X10 hk_18 mf_X10_end rfl ml_L_62 hm2 rfl rfl (rm_fr (Nat.le_of_ble_eq_true rfl) (Nat.le_of_ble_eq_true rfl)) rm_cells (Nat.le_of_ble_eq_true rfl) dL_law_483 ?_
  refine du_icmp_eq (pc := 486) (t := 937) (X := some ()) (Y := none) (res := ()) C dL_law_486 (by decide) (if_pos rfl) (fun _ => ?_) (fun h => by cases h)
  exact hgo _ h3
set_option maxRecDepth 10000 in
set_option maxHeartbeats 4000000 in
theorem lw_c_text {p : Program} {l : Launch} {e : Env} {s : State} {m : MethodId} {below : List Frame} {meth : Method} {c : Code} {b L : Nat} {xs : Nat → Int32} {G : dt_G} (C : dt_Cx 1 G (fun q : Nat => s.heap.size ≤ q) p s m #[Value.ref b] meth c code 4 RL) (hX : va_X b L xs s s.heap) (hbl : b < s.heap.size) (hL : L ≤ 3072) {I : dt_M → Prop} (hst : St_text I) {i : Nat} (hi : i + 6 ≤ L) {M : dt_M} (hM : I M) (hgo : ∀ M2 : dt_M, I M2 → dt_Au 110 8831 G (fun q : Nat => s.heap.size ≤ q) p l e room_1 s m #[Value.ref b] below meth c 4 (lw_Z below #[Value.ref b] s) 937 [(3, .int (nI i)), (0, .ref b), (1, .ref (G.1 0 0)), (2, .ref (G.1 18 0))] [] M2) : dt_Au 110 8831 G (fun q : Nat => s.heap.size ≤ q) p l e room_1 s m #[Value.ref b] below meth c 4 (lw_Z below #[Value.ref b] s) 491 [(3, .int (nI i)), (0, .ref b), (1, .ref (G.1 0 0)), (2, .ref (G.1 18 0))] [] M := by
  have hi1 : vp_in (nI i + 1) L := by rw [show nI i + 1 = nI (i + 1) from nI_add i 1]; exact vp_in_nI (by omega) (by omega)
  have hi2 : vp_in (nI i + 2) L := by rw [show nI i + 2 = nI (i + 2) from nI_add i 2]; exact vp_in_nI (by omega) (by omega)
  have hi3 : vp_in (nI i + 3) L := by rw [show nI i + 3 = nI (i + 3) from nI_add i 3]; exact vp_in_nI (by omega) (by omega)
  have hi4 : vp_in (nI i + 4) L := by rw [show nI i + 4 = nI (i + 4) from nI_add i 4]; exact vp_in_nI (by omega) (by omega)
  have hi5 : vp_in (nI i + 5) L := by rw [show nI i + 5 = nI (i + 5) from nI_add i 5]; exact vp_in_nI (by omega) (by omega)
  obtain ⟨r, M1, T, h1, h2, h3⟩ := hst M  hM
  refine du_aload_n (pc := 491) C dL_law_491 rfl 2 rfl ?_
  have hm1 : dt_Met 1 l yX9_text cX9_text 1 (some .int) 54 (fun G => [.ref (G.1 0 0)]) M (some (.int r)) M1 := m_X9_text (nb := 1) l M  h1
  refine du_calli (pc := 492) (st := []) (k := 0) (As := []) (M' := M1) C Fc_X9 hk_0 mf_X9_text rfl ml_L_63 hm1 rfl rfl (rm_fr (Nat.le_of_ble_eq_true rfl) (Nat.le_of_ble_eq_true rfl)) rm_cells (Nat.le_of_ble_eq_true rfl) dL_law_492 ?_
  refine du_aload_n (pc := 495) C dL_law_495 rfl 3 rfl ?_
  have hm2 : dt_Met 1 l yX10_text cX10_text 3 (some .int) 95 (fun G => [.ref (G.1 18 0)]) M1 (some (.int r)) (dt_put M1 18 T) := dt_c1 (m_X10_text l M1 (M1 18)  h2)
  refine du_calli (pc := 496) (st := [.int r]) (k := 18) (As := []) (M' := (dt_put M1 18 T)) C Fc_X10 hk_18 mf_X10_text rfl ml_L_66 hm2 rfl rfl (rm_fr (Nat.le_of_ble_eq_true rfl) (Nat.le_of_ble_eq_true rfl)) rm_cells (Nat.le_of_ble_eq_true rfl) dL_law_496 ?_
  refine du_icmp_eq (pc := 499) (t := 937) (X := some ()) (Y := none) (res := ()) C dL_law_499 (by decide) (if_pos rfl) (fun _ => ?_) (fun h => by cases h)
  exact hgo _ h3
set_option maxRecDepth 10000 in
set_option maxHeartbeats 4000000 in
theorem lw_c_fault {p : Program} {l : Launch} {e : Env} {s : State} {m : MethodId} {below : List Frame} {meth : Method} {c : Code} {b L : Nat} {xs : Nat → Int32} {G : dt_G} (C : dt_Cx 1 G (fun q : Nat => s.heap.size ≤ q) p s m #[Value.ref b] meth c code 4 RL) (hX : va_X b L xs s s.heap) (hbl : b < s.heap.size) (hL : L ≤ 3072) {I : dt_M → Prop} (hst : St_fault I) {i : Nat} (hi : i + 6 ≤ L) {M : dt_M} (hM : I M) (hgo : ∀ M2 : dt_M, I M2 → dt_Au 110 8831 G (fun q : Nat => s.heap.size ≤ q) p l e room_1 s m #[Value.ref b] below meth c 4 (lw_Z below #[Value.ref b] s) 937 [(3, .int (nI i)), (0, .ref b), (1, .ref (G.1 0 0)), (2, .ref (G.1 18 0))] [] M2) : dt_Au 110 8831 G (fun q : Nat => s.heap.size ≤ q) p l e room_1 s m #[Value.ref b] below meth c 4 (lw_Z below #[Value.ref b] s) 504 [(3, .int (nI i)), (0, .ref b), (1, .ref (G.1 0 0)), (2, .ref (G.1 18 0))] [] M := by
  have hi1 : vp_in (nI i + 1) L := by rw [show nI i + 1 = nI (i + 1) from nI_add i 1]; exact vp_in_nI (by omega) (by omega)
  have hi2 : vp_in (nI i + 2) L := by rw [show nI i + 2 = nI (i + 2) from nI_add i 2]; exact vp_in_nI (by omega) (by omega)
  have hi3 : vp_in (nI i + 3) L := by rw [show nI i + 3 = nI (i + 3) from nI_add i 3]; exact vp_in_nI (by omega) (by omega)
  have hi4 : vp_in (nI i + 4) L := by rw [show nI i + 4 = nI (i + 4) from nI_add i 4]; exact vp_in_nI (by omega) (by omega)
  have hi5 : vp_in (nI i + 5) L := by rw [show nI i + 5 = nI (i + 5) from nI_add i 5]; exact vp_in_nI (by omega) (by omega)
  obtain ⟨r, h1, h2, h3⟩ := hst M ((xs (nI i + 1).toNatClampNeg)) hM
  refine du_aload_n (pc := 504) C dL_law_504 rfl 2 rfl ?_
  refine du_aload_n (pc := 505) C dL_law_505 rfl 1 rfl ?_
  refine du_iload_n (pc := 506) C dL_law_506 rfl 0 rfl ?_
  refine du_iconst (pc := 507) (v := 1) C dL_law_507 (by decide) ?_
  refine du_iadd (pc := 508) C dL_law_508 ?_
  refine du_sld (pc := 509) C hX hbl (Nat.not_le.mpr hbl) hi1 dL_law_509 ?_
  have hm1 : dt_Met 1 l yX9_fault cX9_fault 2 (some .int) 1 (fun G => [.ref (G.1 0 0), .int (xs (nI i + 1).toNatClampNeg)]) M (some (.int r)) M := m_X9_fault (nb := 1) l M ((xs (nI i + 1).toNatClampNeg)) h1
  refine du_calli (pc := 510) (st := []) (k := 0) (As := [.int (xs (nI i + 1).toNatClampNeg)]) (M' := M) C Fc_X9 hk_0 mf_X9_fault rfl ml_L_67 hm1 rfl rfl (rm_fr (Nat.le_of_ble_eq_true rfl) (Nat.le_of_ble_eq_true rfl)) rm_cells (Nat.le_of_ble_eq_true rfl) dL_law_510 ?_
  refine du_aload_n (pc := 513) C dL_law_513 rfl 3 rfl ?_
  refine du_aload_n (pc := 514) C dL_law_514 rfl 1 rfl ?_
  refine du_iload_n (pc := 515) C dL_law_515 rfl 0 rfl ?_
  refine du_iconst (pc := 516) (v := 1) C dL_law_516 (by decide) ?_
  refine du_iadd (pc := 517) C dL_law_517 ?_
  refine du_sld (pc := 518) C hX hbl (Nat.not_le.mpr hbl) hi1 dL_law_518 ?_
  have hm2 : dt_Met 1 l yX10_fault cX10_fault 2 (some .int) 1 (fun G => [.ref (G.1 18 0), .int (xs (nI i + 1).toNatClampNeg)]) M (some (.int r)) M := dt_c0 (m_X10_fault l M (M 18) ((xs (nI i + 1).toNatClampNeg)) h2)
  refine du_calli (pc := 519) (st := [.int r]) (k := 18) (As := [.int (xs (nI i + 1).toNatClampNeg)]) (M' := M) C Fc_X10 hk_18 mf_X10_fault rfl ml_L_70 hm2 rfl rfl (rm_fr (Nat.le_of_ble_eq_true rfl) (Nat.le_of_ble_eq_true rfl)) rm_cells (Nat.le_of_ble_eq_true rfl) dL_law_519 ?_
  refine du_icmp_eq (pc := 522) (t := 937) (X := some ()) (Y := none) (res := ()) C dL_law_522 (by decide) (if_pos rfl) (fun _ => ?_) (fun h => by cases h)
  exact hgo _ h3
set_option maxRecDepth 10000 in
set_option maxHeartbeats 4000000 in
theorem lw_c_plan {p : Program} {l : Launch} {e : Env} {s : State} {m : MethodId} {below : List Frame} {meth : Method} {c : Code} {b L : Nat} {xs : Nat → Int32} {G : dt_G} (C : dt_Cx 1 G (fun q : Nat => s.heap.size ≤ q) p s m #[Value.ref b] meth c code 4 RL) (hX : va_X b L xs s s.heap) (hbl : b < s.heap.size) (hL : L ≤ 3072) {I : dt_M → Prop} (hst : St_plan I) {i : Nat} (hi : i + 6 ≤ L) {M : dt_M} (hM : I M) (hgo : ∀ M2 : dt_M, I M2 → dt_Au 110 8831 G (fun q : Nat => s.heap.size ≤ q) p l e room_1 s m #[Value.ref b] below meth c 4 (lw_Z below #[Value.ref b] s) 937 [(3, .int (nI i)), (0, .ref b), (1, .ref (G.1 0 0)), (2, .ref (G.1 18 0))] [] M2) : dt_Au 110 8831 G (fun q : Nat => s.heap.size ≤ q) p l e room_1 s m #[Value.ref b] below meth c 4 (lw_Z below #[Value.ref b] s) 527 [(3, .int (nI i)), (0, .ref b), (1, .ref (G.1 0 0)), (2, .ref (G.1 18 0))] [] M := by
  have hi1 : vp_in (nI i + 1) L := by rw [show nI i + 1 = nI (i + 1) from nI_add i 1]; exact vp_in_nI (by omega) (by omega)
  have hi2 : vp_in (nI i + 2) L := by rw [show nI i + 2 = nI (i + 2) from nI_add i 2]; exact vp_in_nI (by omega) (by omega)
  have hi3 : vp_in (nI i + 3) L := by rw [show nI i + 3 = nI (i + 3) from nI_add i 3]; exact vp_in_nI (by omega) (by omega)
  have hi4 : vp_in (nI i + 4) L := by rw [show nI i + 4 = nI (i + 4) from nI_add i 4]; exact vp_in_nI (by omega) (by omega)
  have hi5 : vp_in (nI i + 5) L := by rw [show nI i + 5 = nI (i + 5) from nI_add i 5]; exact vp_in_nI (by omega) (by omega)
  obtain ⟨r, M1, T, h1, h2, h3⟩ := hst M ((xs (nI i + 1).toNatClampNeg)) ((xs (nI i + 2).toNatClampNeg)) hM
  refine du_aload_n (pc := 527) C dL_law_527 rfl 2 rfl ?_
  refine du_aload_n (pc := 528) C dL_law_528 rfl 1 rfl ?_
  refine du_iload_n (pc := 529) C dL_law_529 rfl 0 rfl ?_
  refine du_iconst (pc := 530) (v := 1) C dL_law_530 (by decide) ?_
  refine du_iadd (pc := 531) C dL_law_531 ?_
  refine du_sld (pc := 532) C hX hbl (Nat.not_le.mpr hbl) hi1 dL_law_532 ?_
  refine du_aload_n (pc := 533) C dL_law_533 rfl 1 rfl ?_
  refine du_iload_n (pc := 534) C dL_law_534 rfl 0 rfl ?_
  refine du_iconst (pc := 535) (v := 2) C dL_law_535 (by decide) ?_
  refine du_iadd (pc := 536) C dL_law_536 ?_
  refine du_sld (pc := 537) C hX hbl (Nat.not_le.mpr hbl) hi2 dL_law_537 ?_
  have hm1 : dt_Met 1 l yX9_plan cX9_plan 4 (some .int) 54 (fun G => [.ref (G.1 0 0), .int (xs (nI i + 1).toNatClampNeg), .int (xs (nI i + 2).toNatClampNeg)]) M (some (.int r)) M1 := m_X9_plan (nb := 1) l M ((xs (nI i + 1).toNatClampNeg)) ((xs (nI i + 2).toNatClampNeg)) h1
  refine du_calli (pc := 538) (st := []) (k := 0) (As := [.int (xs (nI i + 1).toNatClampNeg), .int (xs (nI i + 2).toNatClampNeg)]) (M' := M1) C Fc_X9 hk_0 mf_X9_plan rfl ml_L_71 hm1 rfl rfl (rm_fr (Nat.le_of_ble_eq_true rfl) (Nat.le_of_ble_eq_true rfl)) rm_cells (Nat.le_of_ble_eq_true rfl) dL_law_538 ?_
  refine du_aload_n (pc := 541) C dL_law_541 rfl 3 rfl ?_
  refine du_aload_n (pc := 542) C dL_law_542 rfl 1 rfl ?_
  refine du_iload_n (pc := 543) C dL_law_543 rfl 0 rfl ?_
  refine du_iconst (pc := 544) (v := 1) C dL_law_544 (by decide) ?_
  refine du_iadd (pc := 545) C dL_law_545 ?_
  refine du_sld (pc := 546) C hX hbl (Nat.not_le.mpr hbl) hi1 dL_law_546 ?_
  refine du_aload_n (pc := 547) C dL_law_547 rfl 1 rfl ?_
  refine du_iload_n (pc := 548) C dL_law_548 rfl 0 rfl ?_
  refine du_iconst (pc := 549) (v := 2) C dL_law_549 (by decide) ?_
  refine du_iadd (pc := 550) C dL_law_550 ?_
  refine du_sld (pc := 551) C hX hbl (Nat.not_le.mpr hbl) hi2 dL_law_551 ?_
  have hm2 : dt_Met 1 l yX10_plan cX10_plan 4 (some .int) 31 (fun G => [.ref (G.1 18 0), .int (xs (nI i + 1).toNatClampNeg), .int (xs (nI i + 2).toNatClampNeg)]) M1 (some (.int r)) (dt_put M1 18 T) := dt_c1 (m_X10_plan l M1 (M1 18) ((xs (nI i + 1).toNatClampNeg)) ((xs (nI i + 2).toNatClampNeg)) h2)
  refine du_calli (pc := 552) (st := [.int r]) (k := 18) (As := [.int (xs (nI i + 1).toNatClampNeg), .int (xs (nI i + 2).toNatClampNeg)]) (M' := (dt_put M1 18 T)) C Fc_X10 hk_18 mf_X10_plan rfl ml_L_74 hm2 rfl rfl (rm_fr (Nat.le_of_ble_eq_true rfl) (Nat.le_of_ble_eq_true rfl)) rm_cells (Nat.le_of_ble_eq_true rfl) dL_law_552 ?_
  refine du_icmp_eq (pc := 555) (t := 937) (X := some ()) (Y := none) (res := ()) C dL_law_555 (by decide) (if_pos rfl) (fun _ => ?_) (fun h => by cases h)
  exact hgo _ h3
set_option maxRecDepth 10000 in
set_option maxHeartbeats 4000000 in
theorem lw_c_down {p : Program} {l : Launch} {e : Env} {s : State} {m : MethodId} {below : List Frame} {meth : Method} {c : Code} {b L : Nat} {xs : Nat → Int32} {G : dt_G} (C : dt_Cx 1 G (fun q : Nat => s.heap.size ≤ q) p s m #[Value.ref b] meth c code 4 RL) (hX : va_X b L xs s s.heap) (hbl : b < s.heap.size) (hL : L ≤ 3072) {I : dt_M → Prop} (hst : St_down I) {i : Nat} (hi : i + 6 ≤ L) {M : dt_M} (hM : I M) (hgo : ∀ M2 : dt_M, I M2 → dt_Au 110 8831 G (fun q : Nat => s.heap.size ≤ q) p l e room_1 s m #[Value.ref b] below meth c 4 (lw_Z below #[Value.ref b] s) 937 [(3, .int (nI i)), (0, .ref b), (1, .ref (G.1 0 0)), (2, .ref (G.1 18 0))] [] M2) : dt_Au 110 8831 G (fun q : Nat => s.heap.size ≤ q) p l e room_1 s m #[Value.ref b] below meth c 4 (lw_Z below #[Value.ref b] s) 560 [(3, .int (nI i)), (0, .ref b), (1, .ref (G.1 0 0)), (2, .ref (G.1 18 0))] [] M := by
  have hi1 : vp_in (nI i + 1) L := by rw [show nI i + 1 = nI (i + 1) from nI_add i 1]; exact vp_in_nI (by omega) (by omega)
  have hi2 : vp_in (nI i + 2) L := by rw [show nI i + 2 = nI (i + 2) from nI_add i 2]; exact vp_in_nI (by omega) (by omega)
  have hi3 : vp_in (nI i + 3) L := by rw [show nI i + 3 = nI (i + 3) from nI_add i 3]; exact vp_in_nI (by omega) (by omega)
  have hi4 : vp_in (nI i + 4) L := by rw [show nI i + 4 = nI (i + 4) from nI_add i 4]; exact vp_in_nI (by omega) (by omega)
  have hi5 : vp_in (nI i + 5) L := by rw [show nI i + 5 = nI (i + 5) from nI_add i 5]; exact vp_in_nI (by omega) (by omega)
  obtain ⟨r, M1, T, h1, h2, h3⟩ := hst M ((xs (nI i + 1).toNatClampNeg)) hM
  refine du_aload_n (pc := 560) C dL_law_560 rfl 2 rfl ?_
  refine du_aload_n (pc := 561) C dL_law_561 rfl 1 rfl ?_
  refine du_iload_n (pc := 562) C dL_law_562 rfl 0 rfl ?_
  refine du_iconst (pc := 563) (v := 1) C dL_law_563 (by decide) ?_
  refine du_iadd (pc := 564) C dL_law_564 ?_
  refine du_sld (pc := 565) C hX hbl (Nat.not_le.mpr hbl) hi1 dL_law_565 ?_
  have hm1 : dt_Met 1 l yX9_down cX9_down 4 (some .int) 4 (fun G => [.ref (G.1 0 0), .int (xs (nI i + 1).toNatClampNeg)]) M (some (.int r)) M1 := m_X9_down (nb := 1) l M ((xs (nI i + 1).toNatClampNeg)) h1
  refine du_calli (pc := 566) (st := []) (k := 0) (As := [.int (xs (nI i + 1).toNatClampNeg)]) (M' := M1) C Fc_X9 hk_0 mf_X9_down rfl ml_L_75 hm1 rfl rfl (rm_fr (Nat.le_of_ble_eq_true rfl) (Nat.le_of_ble_eq_true rfl)) rm_cells (Nat.le_of_ble_eq_true rfl) dL_law_566 ?_
  refine du_aload_n (pc := 569) C dL_law_569 rfl 3 rfl ?_
  refine du_aload_n (pc := 570) C dL_law_570 rfl 1 rfl ?_
  refine du_iload_n (pc := 571) C dL_law_571 rfl 0 rfl ?_
  refine du_iconst (pc := 572) (v := 1) C dL_law_572 (by decide) ?_
  refine du_iadd (pc := 573) C dL_law_573 ?_
  refine du_sld (pc := 574) C hX hbl (Nat.not_le.mpr hbl) hi1 dL_law_574 ?_
  have hm2 : dt_Met 1 l yX10_down cX10_down 4 (some .int) 3 (fun G => [.ref (G.1 18 0), .int (xs (nI i + 1).toNatClampNeg)]) M1 (some (.int r)) (dt_put M1 18 T) := dt_c1 (m_X10_down l M1 (M1 18) ((xs (nI i + 1).toNatClampNeg)) h2)
  refine du_calli (pc := 575) (st := [.int r]) (k := 18) (As := [.int (xs (nI i + 1).toNatClampNeg)]) (M' := (dt_put M1 18 T)) C Fc_X10 hk_18 mf_X10_down rfl ml_L_78 hm2 rfl rfl (rm_fr (Nat.le_of_ble_eq_true rfl) (Nat.le_of_ble_eq_true rfl)) rm_cells (Nat.le_of_ble_eq_true rfl) dL_law_575 ?_
  refine du_icmp_eq (pc := 578) (t := 937) (X := some ()) (Y := none) (res := ()) C dL_law_578 (by decide) (if_pos rfl) (fun _ => ?_) (fun h => by cases h)
  exact hgo _ h3
set_option maxRecDepth 10000 in
set_option maxHeartbeats 4000000 in
theorem lw_c_which {p : Program} {l : Launch} {e : Env} {s : State} {m : MethodId} {below : List Frame} {meth : Method} {c : Code} {b L : Nat} {xs : Nat → Int32} {G : dt_G} (C : dt_Cx 1 G (fun q : Nat => s.heap.size ≤ q) p s m #[Value.ref b] meth c code 4 RL) (hX : va_X b L xs s s.heap) (hbl : b < s.heap.size) (hL : L ≤ 3072) {I : dt_M → Prop} (hst : St_which I) {i : Nat} (hi : i + 6 ≤ L) {M : dt_M} (hM : I M) (hgo : ∀ M2 : dt_M, I M2 → dt_Au 110 8831 G (fun q : Nat => s.heap.size ≤ q) p l e room_1 s m #[Value.ref b] below meth c 4 (lw_Z below #[Value.ref b] s) 937 [(3, .int (nI i)), (0, .ref b), (1, .ref (G.1 0 0)), (2, .ref (G.1 18 0))] [] M2) : dt_Au 110 8831 G (fun q : Nat => s.heap.size ≤ q) p l e room_1 s m #[Value.ref b] below meth c 4 (lw_Z below #[Value.ref b] s) 583 [(3, .int (nI i)), (0, .ref b), (1, .ref (G.1 0 0)), (2, .ref (G.1 18 0))] [] M := by
  have hi1 : vp_in (nI i + 1) L := by rw [show nI i + 1 = nI (i + 1) from nI_add i 1]; exact vp_in_nI (by omega) (by omega)
  have hi2 : vp_in (nI i + 2) L := by rw [show nI i + 2 = nI (i + 2) from nI_add i 2]; exact vp_in_nI (by omega) (by omega)
  have hi3 : vp_in (nI i + 3) L := by rw [show nI i + 3 = nI (i + 3) from nI_add i 3]; exact vp_in_nI (by omega) (by omega)
  have hi4 : vp_in (nI i + 4) L := by rw [show nI i + 4 = nI (i + 4) from nI_add i 4]; exact vp_in_nI (by omega) (by omega)
  have hi5 : vp_in (nI i + 5) L := by rw [show nI i + 5 = nI (i + 5) from nI_add i 5]; exact vp_in_nI (by omega) (by omega)
  obtain ⟨r, M1, T, h1, h2, h3⟩ := hst M ((xs (nI i + 1).toNatClampNeg)) ((xs (nI i + 2).toNatClampNeg)) hM
  refine du_aload_n (pc := 583) C dL_law_583 rfl 2 rfl ?_
  refine du_aload_n (pc := 584) C dL_law_584 rfl 1 rfl ?_
  refine du_iload_n (pc := 585) C dL_law_585 rfl 0 rfl ?_
  refine du_iconst (pc := 586) (v := 1) C dL_law_586 (by decide) ?_
  refine du_iadd (pc := 587) C dL_law_587 ?_
  refine du_sld (pc := 588) C hX hbl (Nat.not_le.mpr hbl) hi1 dL_law_588 ?_
  refine du_aload_n (pc := 589) C dL_law_589 rfl 1 rfl ?_
  refine du_iload_n (pc := 590) C dL_law_590 rfl 0 rfl ?_
  refine du_iconst (pc := 591) (v := 2) C dL_law_591 (by decide) ?_
  refine du_iadd (pc := 592) C dL_law_592 ?_
  refine du_sld (pc := 593) C hX hbl (Nat.not_le.mpr hbl) hi2 dL_law_593 ?_
  have hm1 : dt_Met 1 l yX9_which cX9_which 3 (some .int) 31 (fun G => [.ref (G.1 0 0), .int (xs (nI i + 1).toNatClampNeg), .int (xs (nI i + 2).toNatClampNeg)]) M (some (.int r)) M1 := m_X9_which (nb := 1) l M ((xs (nI i + 1).toNatClampNeg)) ((xs (nI i + 2).toNatClampNeg)) h1
  refine du_calli (pc := 594) (st := []) (k := 0) (As := [.int (xs (nI i + 1).toNatClampNeg), .int (xs (nI i + 2).toNatClampNeg)]) (M' := M1) C Fc_X9 hk_0 mf_X9_which rfl ml_L_79 hm1 rfl rfl (rm_fr (Nat.le_of_ble_eq_true rfl) (Nat.le_of_ble_eq_true rfl)) rm_cells (Nat.le_of_ble_eq_true rfl) dL_law_594 ?_
  refine du_aload_n (pc := 597) C dL_law_597 rfl 3 rfl ?_
  refine du_aload_n (pc := 598) C dL_law_598 rfl 1 rfl ?_
  refine du_iload_n (pc := 599) C dL_law_599 rfl 0 rfl ?_
  refine du_iconst (pc := 600) (v := 1) C dL_law_600 (by decide) ?_
  refine du_iadd (pc := 601) C dL_law_601 ?_
  refine du_sld (pc := 602) C hX hbl (Nat.not_le.mpr hbl) hi1 dL_law_602 ?_
  refine du_aload_n (pc := 603) C dL_law_603 rfl 1 rfl ?_
  refine du_iload_n (pc := 604) C dL_law_604 rfl 0 rfl ?_
  refine du_iconst (pc := 605) (v := 2) C dL_law_605 (by decide) ?_
  refine du_iadd (pc := 606) C dL_law_606 ?_
  refine du_sld (pc := 607) C hX hbl (Nat.not_le.mpr hbl) hi2 dL_law_607 ?_
  have hm2 : dt_Met 1 l yX10_which cX10_which 5 (some .int) 30 (fun G => [.ref (G.1 18 0), .int (xs (nI i + 1).toNatClampNeg), .int (xs (nI i + 2).toNatClampNeg)]) M1 (some (.int r)) (dt_put M1 18 T) := dt_c1 (m_X10_which l M1 (M1 18) ((xs (nI i + 1).toNatClampNeg)) ((xs (nI i + 2).toNatClampNeg)) h2)
  refine du_calli (pc := 608) (st := [.int r]) (k := 18) (As := [.int (xs (nI i + 1).toNatClampNeg), .int (xs (nI i + 2).toNatClampNeg)]) (M' := (dt_put M1 18 T)) C Fc_X10 hk_18 mf_X10_which rfl ml_L_82 hm2 rfl rfl (rm_fr (Nat.le_of_ble_eq_true rfl) (Nat.le_of_ble_eq_true rfl)) rm_cells (Nat.le_of_ble_eq_true rfl) dL_law_608 ?_
  refine du_icmp_eq (pc := 611) (t := 937) (X := some ()) (Y := none) (res := ()) C dL_law_611 (by decide) (if_pos rfl) (fun _ => ?_) (fun h => by cases h)
  exact hgo _ h3
set_option maxRecDepth 10000 in
set_option maxHeartbeats 4000000 in
theorem lw_c_hand {p : Program} {l : Launch} {e : Env} {s : State} {m : MethodId} {below : List Frame} {meth : Method} {c : Code} {b L : Nat} {xs : Nat → Int32} {G : dt_G} (C : dt_Cx 1 G (fun q : Nat => s.heap.size ≤ q) p s m #[Value.ref b] meth c code 4 RL) (hX : va_X b L xs s s.heap) (hbl : b < s.heap.size) (hL : L ≤ 3072) {I : dt_M → Prop} (hst : St_hand I) {i : Nat} (hi : i + 6 ≤ L) {M : dt_M} (hM : I M) (hgo : ∀ M2 : dt_M, I M2 → dt_Au 110 8831 G (fun q : Nat => s.heap.size ≤ q) p l e room_1 s m #[Value.ref b] below meth c 4 (lw_Z below #[Value.ref b] s) 937 [(3, .int (nI i)), (0, .ref b), (1, .ref (G.1 0 0)), (2, .ref (G.1 18 0))] [] M2) : dt_Au 110 8831 G (fun q : Nat => s.heap.size ≤ q) p l e room_1 s m #[Value.ref b] below meth c 4 (lw_Z below #[Value.ref b] s) 616 [(3, .int (nI i)), (0, .ref b), (1, .ref (G.1 0 0)), (2, .ref (G.1 18 0))] [] M := by
  have hi1 : vp_in (nI i + 1) L := by rw [show nI i + 1 = nI (i + 1) from nI_add i 1]; exact vp_in_nI (by omega) (by omega)
  have hi2 : vp_in (nI i + 2) L := by rw [show nI i + 2 = nI (i + 2) from nI_add i 2]; exact vp_in_nI (by omega) (by omega)
  have hi3 : vp_in (nI i + 3) L := by rw [show nI i + 3 = nI (i + 3) from nI_add i 3]; exact vp_in_nI (by omega) (by omega)
  have hi4 : vp_in (nI i + 4) L := by rw [show nI i + 4 = nI (i + 4) from nI_add i 4]; exact vp_in_nI (by omega) (by omega)
  have hi5 : vp_in (nI i + 5) L := by rw [show nI i + 5 = nI (i + 5) from nI_add i 5]; exact vp_in_nI (by omega) (by omega)
  obtain ⟨r, M1, T, h1, h2, h3⟩ := hst M ((xs (nI i + 1).toNatClampNeg)) hM
  refine du_aload_n (pc := 616) C dL_law_616 rfl 2 rfl ?_
  refine du_aload_n (pc := 617) C dL_law_617 rfl 1 rfl ?_
  refine du_iload_n (pc := 618) C dL_law_618 rfl 0 rfl ?_
  refine du_iconst (pc := 619) (v := 1) C dL_law_619 (by decide) ?_
  refine du_iadd (pc := 620) C dL_law_620 ?_
  refine du_sld (pc := 621) C hX hbl (Nat.not_le.mpr hbl) hi1 dL_law_621 ?_
  have hm1 : dt_Met 1 l yX9_hand cX9_hand 2 (some .int) 2 (fun G => [.ref (G.1 0 0), .int (xs (nI i + 1).toNatClampNeg)]) M (some (.int r)) M1 := m_X9_hand (nb := 1) l M ((xs (nI i + 1).toNatClampNeg)) h1
  refine du_calli (pc := 622) (st := []) (k := 0) (As := [.int (xs (nI i + 1).toNatClampNeg)]) (M' := M1) C Fc_X9 hk_0 mf_X9_hand rfl ml_L_83 hm1 rfl rfl (rm_fr (Nat.le_of_ble_eq_true rfl) (Nat.le_of_ble_eq_true rfl)) rm_cells (Nat.le_of_ble_eq_true rfl) dL_law_622 ?_
  refine du_aload_n (pc := 625) C dL_law_625 rfl 3 rfl ?_
  refine du_aload_n (pc := 626) C dL_law_626 rfl 1 rfl ?_
  refine du_iload_n (pc := 627) C dL_law_627 rfl 0 rfl ?_
  refine du_iconst (pc := 628) (v := 1) C dL_law_628 (by decide) ?_
  refine du_iadd (pc := 629) C dL_law_629 ?_
  refine du_sld (pc := 630) C hX hbl (Nat.not_le.mpr hbl) hi1 dL_law_630 ?_
  have hm2 : dt_Met 1 l yX10_hand cX10_hand 2 (some .int) 2 (fun G => [.ref (G.1 18 0), .int (xs (nI i + 1).toNatClampNeg)]) M1 (some (.int r)) (dt_put M1 18 T) := dt_c1 (m_X10_hand l M1 (M1 18) ((xs (nI i + 1).toNatClampNeg)) h2)
  refine du_calli (pc := 631) (st := [.int r]) (k := 18) (As := [.int (xs (nI i + 1).toNatClampNeg)]) (M' := (dt_put M1 18 T)) C Fc_X10 hk_18 mf_X10_hand rfl ml_L_86 hm2 rfl rfl (rm_fr (Nat.le_of_ble_eq_true rfl) (Nat.le_of_ble_eq_true rfl)) rm_cells (Nat.le_of_ble_eq_true rfl) dL_law_631 ?_
  refine du_icmp_eq (pc := 634) (t := 937) (X := some ()) (Y := none) (res := ()) C dL_law_634 (by decide) (if_pos rfl) (fun _ => ?_) (fun h => by cases h)
  exact hgo _ h3
set_option maxRecDepth 10000 in
set_option maxHeartbeats 4000000 in
theorem lw_c_quarrel {p : Program} {l : Launch} {e : Env} {s : State} {m : MethodId} {below : List Frame} {meth : Method} {c : Code} {b L : Nat} {xs : Nat → Int32} {G : dt_G} (C : dt_Cx 1 G (fun q : Nat => s.heap.size ≤ q) p s m #[Value.ref b] meth c code 4 RL) (hX : va_X b L xs s s.heap) (hbl : b < s.heap.size) (hL : L ≤ 3072) {I : dt_M → Prop} (hst : St_quarrel I) {i : Nat} (hi : i + 6 ≤ L) {M : dt_M} (hM : I M) (hgo : ∀ M2 : dt_M, I M2 → dt_Au 110 8831 G (fun q : Nat => s.heap.size ≤ q) p l e room_1 s m #[Value.ref b] below meth c 4 (lw_Z below #[Value.ref b] s) 937 [(3, .int (nI i)), (0, .ref b), (1, .ref (G.1 0 0)), (2, .ref (G.1 18 0))] [] M2) : dt_Au 110 8831 G (fun q : Nat => s.heap.size ≤ q) p l e room_1 s m #[Value.ref b] below meth c 4 (lw_Z below #[Value.ref b] s) 639 [(3, .int (nI i)), (0, .ref b), (1, .ref (G.1 0 0)), (2, .ref (G.1 18 0))] [] M := by
  have hi1 : vp_in (nI i + 1) L := by rw [show nI i + 1 = nI (i + 1) from nI_add i 1]; exact vp_in_nI (by omega) (by omega)
  have hi2 : vp_in (nI i + 2) L := by rw [show nI i + 2 = nI (i + 2) from nI_add i 2]; exact vp_in_nI (by omega) (by omega)
  have hi3 : vp_in (nI i + 3) L := by rw [show nI i + 3 = nI (i + 3) from nI_add i 3]; exact vp_in_nI (by omega) (by omega)
  have hi4 : vp_in (nI i + 4) L := by rw [show nI i + 4 = nI (i + 4) from nI_add i 4]; exact vp_in_nI (by omega) (by omega)
  have hi5 : vp_in (nI i + 5) L := by rw [show nI i + 5 = nI (i + 5) from nI_add i 5]; exact vp_in_nI (by omega) (by omega)
  by_cases hz : xs (nI i + 3).toNatClampNeg = 0
  · obtain ⟨r, M1, T, h1, h2, h3⟩ := hst M ((xs (nI i + 1).toNatClampNeg)) ((xs (nI i + 2).toNatClampNeg)) 0 hM (Or.inl rfl)
    refine du_aload_n (pc := 639) C dL_law_639 rfl 2 rfl ?_
    refine du_aload_n (pc := 640) C dL_law_640 rfl 1 rfl ?_
    refine du_iload_n (pc := 641) C dL_law_641 rfl 0 rfl ?_
    refine du_iconst (pc := 642) (v := 1) C dL_law_642 (by decide) ?_
    refine du_iadd (pc := 643) C dL_law_643 ?_
    refine du_sld (pc := 644) C hX hbl (Nat.not_le.mpr hbl) hi1 dL_law_644 ?_
    refine du_aload_n (pc := 645) C dL_law_645 rfl 1 rfl ?_
    refine du_iload_n (pc := 646) C dL_law_646 rfl 0 rfl ?_
    refine du_iconst (pc := 647) (v := 2) C dL_law_647 (by decide) ?_
    refine du_iadd (pc := 648) C dL_law_648 ?_
    refine du_sld (pc := 649) C hX hbl (Nat.not_le.mpr hbl) hi2 dL_law_649 ?_
    refine du_aload_n (pc := 650) C dL_law_650 rfl 1 rfl ?_
    refine du_iload_n (pc := 651) C dL_law_651 rfl 0 rfl ?_
    refine du_iconst (pc := 652) (v := 3) C dL_law_652 (by decide) ?_
    refine du_iadd (pc := 653) C dL_law_653 ?_
    refine du_sld (pc := 654) C hX hbl (Nat.not_le.mpr hbl) hi3 dL_law_654 ?_
    refine du_if_eq (pc := 655) (t := 662) (X := some ()) (Y := none) (res := ()) C dL_law_655 (by decide) (if_pos hz) (fun _ => ?_) (fun h => by cases h)
    refine du_iconst (pc := 662) (v := 0) C dL_law_662 (by decide) ?_
    have hm1 : dt_Met 1 l yX9_quarrel cX9_quarrel 4 (some .boolean) 2 (fun G => [.ref (G.1 0 0), .int (xs (nI i + 1).toNatClampNeg), .int (xs (nI i + 2).toNatClampNeg), .int 0]) M (some (.int r)) M1 := m_X9_quarrel (nb := 1) l M ((xs (nI i + 1).toNatClampNeg)) ((xs (nI i + 2).toNatClampNeg)) (0) h1
    refine du_calli (pc := 663) (st := []) (k := 0) (As := [.int (xs (nI i + 1).toNatClampNeg), .int (xs (nI i + 2).toNatClampNeg), .int 0]) (M' := M1) C Fc_X9 hk_0 mf_X9_quarrel rfl ml_L_87 hm1 rfl rfl (rm_fr (Nat.le_of_ble_eq_true rfl) (Nat.le_of_ble_eq_true rfl)) rm_cells (Nat.le_of_ble_eq_true rfl) dL_law_663 ?_
    refine du_aload_n (pc := 666) C dL_law_666 rfl 3 rfl ?_
    refine du_aload_n (pc := 667) C dL_law_667 rfl 1 rfl ?_
    refine du_iload_n (pc := 668) C dL_law_668 rfl 0 rfl ?_
    refine du_iconst (pc := 669) (v := 1) C dL_law_669 (by decide) ?_
    refine du_iadd (pc := 670) C dL_law_670 ?_
    refine du_sld (pc := 671) C hX hbl (Nat.not_le.mpr hbl) hi1 dL_law_671 ?_
    refine du_aload_n (pc := 672) C dL_law_672 rfl 1 rfl ?_
    refine du_iload_n (pc := 673) C dL_law_673 rfl 0 rfl ?_
    refine du_iconst (pc := 674) (v := 2) C dL_law_674 (by decide) ?_
    refine du_iadd (pc := 675) C dL_law_675 ?_
    refine du_sld (pc := 676) C hX hbl (Nat.not_le.mpr hbl) hi2 dL_law_676 ?_
    refine du_aload_n (pc := 677) C dL_law_677 rfl 1 rfl ?_
    refine du_iload_n (pc := 678) C dL_law_678 rfl 0 rfl ?_
    refine du_iconst (pc := 679) (v := 3) C dL_law_679 (by decide) ?_
    refine du_iadd (pc := 680) C dL_law_680 ?_
    refine du_sld (pc := 681) C hX hbl (Nat.not_le.mpr hbl) hi3 dL_law_681 ?_
    refine du_if_eq (pc := 682) (t := 689) (X := some ()) (Y := none) (res := ()) C dL_law_682 (by decide) (if_pos hz) (fun _ => ?_) (fun h => by cases h)
    refine du_iconst (pc := 689) (v := 0) C dL_law_689 (by decide) ?_
    have hm2 : dt_Met 1 l yX10_quarrel cX10_quarrel 4 (some .boolean) 3 (fun G => [.ref (G.1 18 0), .int (xs (nI i + 1).toNatClampNeg), .int (xs (nI i + 2).toNatClampNeg), .int 0]) M1 (some (.int r)) (dt_put M1 18 T) := dt_c1 (m_X10_quarrel l M1 (M1 18) ((xs (nI i + 1).toNatClampNeg)) ((xs (nI i + 2).toNatClampNeg)) (0) h2)
    refine du_calli (pc := 690) (st := [.int r]) (k := 18) (As := [.int (xs (nI i + 1).toNatClampNeg), .int (xs (nI i + 2).toNatClampNeg), .int 0]) (M' := (dt_put M1 18 T)) C Fc_X10 hk_18 mf_X10_quarrel rfl ml_L_91 hm2 rfl rfl (rm_fr (Nat.le_of_ble_eq_true rfl) (Nat.le_of_ble_eq_true rfl)) rm_cells (Nat.le_of_ble_eq_true rfl) dL_law_690 ?_
    refine du_icmp_eq (pc := 693) (t := 937) (X := some ()) (Y := none) (res := ()) C dL_law_693 (by decide) (if_pos rfl) (fun _ => ?_) (fun h => by cases h)
    exact hgo _ h3
  · obtain ⟨r, M1, T, h1, h2, h3⟩ := hst M ((xs (nI i + 1).toNatClampNeg)) ((xs (nI i + 2).toNatClampNeg)) 1 hM (Or.inr rfl)
    refine du_aload_n (pc := 639) C dL_law_639 rfl 2 rfl ?_
    refine du_aload_n (pc := 640) C dL_law_640 rfl 1 rfl ?_
    refine du_iload_n (pc := 641) C dL_law_641 rfl 0 rfl ?_
    refine du_iconst (pc := 642) (v := 1) C dL_law_642 (by decide) ?_
    refine du_iadd (pc := 643) C dL_law_643 ?_
    refine du_sld (pc := 644) C hX hbl (Nat.not_le.mpr hbl) hi1 dL_law_644 ?_
    refine du_aload_n (pc := 645) C dL_law_645 rfl 1 rfl ?_
    refine du_iload_n (pc := 646) C dL_law_646 rfl 0 rfl ?_
    refine du_iconst (pc := 647) (v := 2) C dL_law_647 (by decide) ?_
    refine du_iadd (pc := 648) C dL_law_648 ?_
    refine du_sld (pc := 649) C hX hbl (Nat.not_le.mpr hbl) hi2 dL_law_649 ?_
    refine du_aload_n (pc := 650) C dL_law_650 rfl 1 rfl ?_
    refine du_iload_n (pc := 651) C dL_law_651 rfl 0 rfl ?_
    refine du_iconst (pc := 652) (v := 3) C dL_law_652 (by decide) ?_
    refine du_iadd (pc := 653) C dL_law_653 ?_
    refine du_sld (pc := 654) C hX hbl (Nat.not_le.mpr hbl) hi3 dL_law_654 ?_
    refine du_if_eq (pc := 655) (t := 662) (X := none) (Y := some ()) (res := ()) C dL_law_655 (by decide) (if_neg hz) (fun h => by cases h) (fun _ => ?_)
    refine du_iconst (pc := 658) (v := 1) C dL_law_658 (by decide) ?_
    refine du_goto (pc := 659) (t := 663) C dL_law_659 (by decide) ?_
    have hm1 : dt_Met 1 l yX9_quarrel cX9_quarrel 4 (some .boolean) 2 (fun G => [.ref (G.1 0 0), .int (xs (nI i + 1).toNatClampNeg), .int (xs (nI i + 2).toNatClampNeg), .int 1]) M (some (.int r)) M1 := m_X9_quarrel (nb := 1) l M ((xs (nI i + 1).toNatClampNeg)) ((xs (nI i + 2).toNatClampNeg)) (1) h1
    refine du_calli (pc := 663) (st := []) (k := 0) (As := [.int (xs (nI i + 1).toNatClampNeg), .int (xs (nI i + 2).toNatClampNeg), .int 1]) (M' := M1) C Fc_X9 hk_0 mf_X9_quarrel rfl ml_L_87 hm1 rfl rfl (rm_fr (Nat.le_of_ble_eq_true rfl) (Nat.le_of_ble_eq_true rfl)) rm_cells (Nat.le_of_ble_eq_true rfl) dL_law_663 ?_
    refine du_aload_n (pc := 666) C dL_law_666 rfl 3 rfl ?_
    refine du_aload_n (pc := 667) C dL_law_667 rfl 1 rfl ?_
    refine du_iload_n (pc := 668) C dL_law_668 rfl 0 rfl ?_
    refine du_iconst (pc := 669) (v := 1) C dL_law_669 (by decide) ?_
    refine du_iadd (pc := 670) C dL_law_670 ?_
    refine du_sld (pc := 671) C hX hbl (Nat.not_le.mpr hbl) hi1 dL_law_671 ?_
    refine du_aload_n (pc := 672) C dL_law_672 rfl 1 rfl ?_
    refine du_iload_n (pc := 673) C dL_law_673 rfl 0 rfl ?_
    refine du_iconst (pc := 674) (v := 2) C dL_law_674 (by decide) ?_
    refine du_iadd (pc := 675) C dL_law_675 ?_
    refine du_sld (pc := 676) C hX hbl (Nat.not_le.mpr hbl) hi2 dL_law_676 ?_
    refine du_aload_n (pc := 677) C dL_law_677 rfl 1 rfl ?_
    refine du_iload_n (pc := 678) C dL_law_678 rfl 0 rfl ?_
    refine du_iconst (pc := 679) (v := 3) C dL_law_679 (by decide) ?_
    refine du_iadd (pc := 680) C dL_law_680 ?_
    refine du_sld (pc := 681) C hX hbl (Nat.not_le.mpr hbl) hi3 dL_law_681 ?_
    refine du_if_eq (pc := 682) (t := 689) (X := none) (Y := some ()) (res := ()) C dL_law_682 (by decide) (if_neg hz) (fun h => by cases h) (fun _ => ?_)
    refine du_iconst (pc := 685) (v := 1) C dL_law_685 (by decide) ?_
    refine du_goto (pc := 686) (t := 690) C dL_law_686 (by decide) ?_
    have hm2 : dt_Met 1 l yX10_quarrel cX10_quarrel 4 (some .boolean) 3 (fun G => [.ref (G.1 18 0), .int (xs (nI i + 1).toNatClampNeg), .int (xs (nI i + 2).toNatClampNeg), .int 1]) M1 (some (.int r)) (dt_put M1 18 T) := dt_c1 (m_X10_quarrel l M1 (M1 18) ((xs (nI i + 1).toNatClampNeg)) ((xs (nI i + 2).toNatClampNeg)) (1) h2)
    refine du_calli (pc := 690) (st := [.int r]) (k := 18) (As := [.int (xs (nI i + 1).toNatClampNeg), .int (xs (nI i + 2).toNatClampNeg), .int 1]) (M' := (dt_put M1 18 T)) C Fc_X10 hk_18 mf_X10_quarrel rfl ml_L_91 hm2 rfl rfl (rm_fr (Nat.le_of_ble_eq_true rfl) (Nat.le_of_ble_eq_true rfl)) rm_cells (Nat.le_of_ble_eq_true rfl) dL_law_690 ?_
    refine du_icmp_eq (pc := 693) (t := 937) (X := some ()) (Y := none) (res := ()) C dL_law_693 (by decide) (if_pos rfl) (fun _ => ?_) (fun h => by cases h)
    exact hgo _ h3
set_option maxRecDepth 10000 in
set_option maxHeartbeats 4000000 in
theorem lw_c_wind {p : Program} {l : Launch} {e : Env} {s : State} {m : MethodId} {below : List Frame} {meth : Method} {c : Code} {b L : Nat} {xs : Nat → Int32} {G : dt_G} (C : dt_Cx 1 G (fun q : Nat => s.heap.size ≤ q) p s m #[Value.ref b] meth c code 4 RL) (hX : va_X b L xs s s.heap) (hbl : b < s.heap.size) (hL : L ≤ 3072) {I : dt_M → Prop} (hst : St_wind I) {i : Nat} (hi : i + 6 ≤ L) {M : dt_M} (hM : I M) (hgo : ∀ M2 : dt_M, I M2 → dt_Au 110 8831 G (fun q : Nat => s.heap.size ≤ q) p l e room_1 s m #[Value.ref b] below meth c 4 (lw_Z below #[Value.ref b] s) 937 [(3, .int (nI i)), (0, .ref b), (1, .ref (G.1 0 0)), (2, .ref (G.1 18 0))] [] M2) : dt_Au 110 8831 G (fun q : Nat => s.heap.size ≤ q) p l e room_1 s m #[Value.ref b] below meth c 4 (lw_Z below #[Value.ref b] s) 698 [(3, .int (nI i)), (0, .ref b), (1, .ref (G.1 0 0)), (2, .ref (G.1 18 0))] [] M := by
  have hi1 : vp_in (nI i + 1) L := by rw [show nI i + 1 = nI (i + 1) from nI_add i 1]; exact vp_in_nI (by omega) (by omega)
  have hi2 : vp_in (nI i + 2) L := by rw [show nI i + 2 = nI (i + 2) from nI_add i 2]; exact vp_in_nI (by omega) (by omega)
  have hi3 : vp_in (nI i + 3) L := by rw [show nI i + 3 = nI (i + 3) from nI_add i 3]; exact vp_in_nI (by omega) (by omega)
  have hi4 : vp_in (nI i + 4) L := by rw [show nI i + 4 = nI (i + 4) from nI_add i 4]; exact vp_in_nI (by omega) (by omega)
  have hi5 : vp_in (nI i + 5) L := by rw [show nI i + 5 = nI (i + 5) from nI_add i 5]; exact vp_in_nI (by omega) (by omega)
  obtain ⟨r, M1, T, h1, h2, h3⟩ := hst M ((xs (nI i + 1).toNatClampNeg)) ((xs (nI i + 2).toNatClampNeg)) ((xs (nI i + 3).toNatClampNeg)) hM
  refine du_aload_n (pc := 698) C dL_law_698 rfl 2 rfl ?_
  refine du_aload_n (pc := 699) C dL_law_699 rfl 1 rfl ?_
  refine du_iload_n (pc := 700) C dL_law_700 rfl 0 rfl ?_
  refine du_iconst (pc := 701) (v := 1) C dL_law_701 (by decide) ?_
  refine du_iadd (pc := 702) C dL_law_702 ?_
  refine du_sld (pc := 703) C hX hbl (Nat.not_le.mpr hbl) hi1 dL_law_703 ?_
  refine du_aload_n (pc := 704) C dL_law_704 rfl 1 rfl ?_
  refine du_iload_n (pc := 705) C dL_law_705 rfl 0 rfl ?_
  refine du_iconst (pc := 706) (v := 2) C dL_law_706 (by decide) ?_
  refine du_iadd (pc := 707) C dL_law_707 ?_
  refine du_sld (pc := 708) C hX hbl (Nat.not_le.mpr hbl) hi2 dL_law_708 ?_
  refine du_aload_n (pc := 709) C dL_law_709 rfl 1 rfl ?_
  refine du_iload_n (pc := 710) C dL_law_710 rfl 0 rfl ?_
  refine du_iconst (pc := 711) (v := 3) C dL_law_711 (by decide) ?_
  refine du_iadd (pc := 712) C dL_law_712 ?_
  refine du_sld (pc := 713) C hX hbl (Nat.not_le.mpr hbl) hi3 dL_law_713 ?_
  have hm1 : dt_Met 1 l yX9_wind cX9_wind 4 (some .boolean) 2 (fun G => [.ref (G.1 0 0), .int (xs (nI i + 1).toNatClampNeg), .int (xs (nI i + 2).toNatClampNeg), .int (xs (nI i + 3).toNatClampNeg)]) M (some (.int r)) M1 := m_X9_wind (nb := 1) l M ((xs (nI i + 1).toNatClampNeg)) ((xs (nI i + 2).toNatClampNeg)) ((xs (nI i + 3).toNatClampNeg)) h1
  refine du_calli (pc := 714) (st := []) (k := 0) (As := [.int (xs (nI i + 1).toNatClampNeg), .int (xs (nI i + 2).toNatClampNeg), .int (xs (nI i + 3).toNatClampNeg)]) (M' := M1) C Fc_X9 hk_0 mf_X9_wind rfl ml_L_92 hm1 rfl rfl (rm_fr (Nat.le_of_ble_eq_true rfl) (Nat.le_of_ble_eq_true rfl)) rm_cells (Nat.le_of_ble_eq_true rfl) dL_law_714 ?_
  refine du_aload_n (pc := 717) C dL_law_717 rfl 3 rfl ?_
  refine du_aload_n (pc := 718) C dL_law_718 rfl 1 rfl ?_
  refine du_iload_n (pc := 719) C dL_law_719 rfl 0 rfl ?_
  refine du_iconst (pc := 720) (v := 1) C dL_law_720 (by decide) ?_
  refine du_iadd (pc := 721) C dL_law_721 ?_
  refine du_sld (pc := 722) C hX hbl (Nat.not_le.mpr hbl) hi1 dL_law_722 ?_
  refine du_aload_n (pc := 723) C dL_law_723 rfl 1 rfl ?_
  refine du_iload_n (pc := 724) C dL_law_724 rfl 0 rfl ?_
  refine du_iconst (pc := 725) (v := 2) C dL_law_725 (by decide) ?_
  refine du_iadd (pc := 726) C dL_law_726 ?_
  refine du_sld (pc := 727) C hX hbl (Nat.not_le.mpr hbl) hi2 dL_law_727 ?_
  refine du_aload_n (pc := 728) C dL_law_728 rfl 1 rfl ?_
  refine du_iload_n (pc := 729) C dL_law_729 rfl 0 rfl ?_
  refine du_iconst (pc := 730) (v := 3) C dL_law_730 (by decide) ?_
  refine du_iadd (pc := 731) C dL_law_731 ?_
  refine du_sld (pc := 732) C hX hbl (Nat.not_le.mpr hbl) hi3 dL_law_732 ?_
  have hm2 : dt_Met 1 l yX10_wind cX10_wind 4 (some .boolean) 2 (fun G => [.ref (G.1 18 0), .int (xs (nI i + 1).toNatClampNeg), .int (xs (nI i + 2).toNatClampNeg), .int (xs (nI i + 3).toNatClampNeg)]) M1 (some (.int r)) (dt_put M1 18 T) := dt_c1 (m_X10_wind l M1 (M1 18) ((xs (nI i + 1).toNatClampNeg)) ((xs (nI i + 2).toNatClampNeg)) ((xs (nI i + 3).toNatClampNeg)) h2)
  refine du_calli (pc := 733) (st := [.int r]) (k := 18) (As := [.int (xs (nI i + 1).toNatClampNeg), .int (xs (nI i + 2).toNatClampNeg), .int (xs (nI i + 3).toNatClampNeg)]) (M' := (dt_put M1 18 T)) C Fc_X10 hk_18 mf_X10_wind rfl ml_L_96 hm2 rfl rfl (rm_fr (Nat.le_of_ble_eq_true rfl) (Nat.le_of_ble_eq_true rfl)) rm_cells (Nat.le_of_ble_eq_true rfl) dL_law_733 ?_
  refine du_icmp_eq (pc := 736) (t := 937) (X := some ()) (Y := none) (res := ()) C dL_law_736 (by decide) (if_pos rfl) (fun _ => ?_) (fun h => by cases h)
  exact hgo _ h3
set_option maxRecDepth 10000 in
set_option maxHeartbeats 4000000 in
theorem lw_c_pay {p : Program} {l : Launch} {e : Env} {s : State} {m : MethodId} {below : List Frame} {meth : Method} {c : Code} {b L : Nat} {xs : Nat → Int32} {G : dt_G} (C : dt_Cx 1 G (fun q : Nat => s.heap.size ≤ q) p s m #[Value.ref b] meth c code 4 RL) (hX : va_X b L xs s s.heap) (hbl : b < s.heap.size) (hL : L ≤ 3072) {I : dt_M → Prop} (hst : St_pay I) {i : Nat} (hi : i + 6 ≤ L) {M : dt_M} (hM : I M) (hgo : ∀ M2 : dt_M, I M2 → dt_Au 110 8831 G (fun q : Nat => s.heap.size ≤ q) p l e room_1 s m #[Value.ref b] below meth c 4 (lw_Z below #[Value.ref b] s) 937 [(3, .int (nI i)), (0, .ref b), (1, .ref (G.1 0 0)), (2, .ref (G.1 18 0))] [] M2) : dt_Au 110 8831 G (fun q : Nat => s.heap.size ≤ q) p l e room_1 s m #[Value.ref b] below meth c 4 (lw_Z below #[Value.ref b] s) 741 [(3, .int (nI i)), (0, .ref b), (1, .ref (G.1 0 0)), (2, .ref (G.1 18 0))] [] M := by
  have hi1 : vp_in (nI i + 1) L := by rw [show nI i + 1 = nI (i + 1) from nI_add i 1]; exact vp_in_nI (by omega) (by omega)
  have hi2 : vp_in (nI i + 2) L := by rw [show nI i + 2 = nI (i + 2) from nI_add i 2]; exact vp_in_nI (by omega) (by omega)
  have hi3 : vp_in (nI i + 3) L := by rw [show nI i + 3 = nI (i + 3) from nI_add i 3]; exact vp_in_nI (by omega) (by omega)
  have hi4 : vp_in (nI i + 4) L := by rw [show nI i + 4 = nI (i + 4) from nI_add i 4]; exact vp_in_nI (by omega) (by omega)
  have hi5 : vp_in (nI i + 5) L := by rw [show nI i + 5 = nI (i + 5) from nI_add i 5]; exact vp_in_nI (by omega) (by omega)
  obtain ⟨r, M1, T, h1, h2, h3⟩ := hst M ((xs (nI i + 1).toNatClampNeg)) ((xs (nI i + 2).toNatClampNeg)) hM
  refine du_aload_n (pc := 741) C dL_law_741 rfl 2 rfl ?_
  refine du_aload_n (pc := 742) C dL_law_742 rfl 1 rfl ?_
  refine du_iload_n (pc := 743) C dL_law_743 rfl 0 rfl ?_
  refine du_iconst (pc := 744) (v := 1) C dL_law_744 (by decide) ?_
  refine du_iadd (pc := 745) C dL_law_745 ?_
  refine du_sld (pc := 746) C hX hbl (Nat.not_le.mpr hbl) hi1 dL_law_746 ?_
  refine du_aload_n (pc := 747) C dL_law_747 rfl 1 rfl ?_
  refine du_iload_n (pc := 748) C dL_law_748 rfl 0 rfl ?_
  refine du_iconst (pc := 749) (v := 2) C dL_law_749 (by decide) ?_
  refine du_iadd (pc := 750) C dL_law_750 ?_
  refine du_sld (pc := 751) C hX hbl (Nat.not_le.mpr hbl) hi2 dL_law_751 ?_
  have hm1 : dt_Met 1 l yX9_pay cX9_pay 3 (some .boolean) 2 (fun G => [.ref (G.1 0 0), .int (xs (nI i + 1).toNatClampNeg), .int (xs (nI i + 2).toNatClampNeg)]) M (some (.int r)) M1 := m_X9_pay (nb := 1) l M ((xs (nI i + 1).toNatClampNeg)) ((xs (nI i + 2).toNatClampNeg)) h1
  refine du_calli (pc := 752) (st := []) (k := 0) (As := [.int (xs (nI i + 1).toNatClampNeg), .int (xs (nI i + 2).toNatClampNeg)]) (M' := M1) C Fc_X9 hk_0 mf_X9_pay rfl ml_L_97 hm1 rfl rfl (rm_fr (Nat.le_of_ble_eq_true rfl) (Nat.le_of_ble_eq_true rfl)) rm_cells (Nat.le_of_ble_eq_true rfl) dL_law_752 ?_
  refine du_aload_n (pc := 755) C dL_law_755 rfl 3 rfl ?_
  refine du_aload_n (pc := 756) C dL_law_756 rfl 1 rfl ?_
  refine du_iload_n (pc := 757) C dL_law_757 rfl 0 rfl ?_
  refine du_iconst (pc := 758) (v := 1) C dL_law_758 (by decide) ?_
  refine du_iadd (pc := 759) C dL_law_759 ?_
  refine du_sld (pc := 760) C hX hbl (Nat.not_le.mpr hbl) hi1 dL_law_760 ?_
  refine du_aload_n (pc := 761) C dL_law_761 rfl 1 rfl ?_
  refine du_iload_n (pc := 762) C dL_law_762 rfl 0 rfl ?_
  refine du_iconst (pc := 763) (v := 2) C dL_law_763 (by decide) ?_
  refine du_iadd (pc := 764) C dL_law_764 ?_
  refine du_sld (pc := 765) C hX hbl (Nat.not_le.mpr hbl) hi2 dL_law_765 ?_
  have hm2 : dt_Met 1 l yX10_pay cX10_pay 3 (some .boolean) 2 (fun G => [.ref (G.1 18 0), .int (xs (nI i + 1).toNatClampNeg), .int (xs (nI i + 2).toNatClampNeg)]) M1 (some (.int r)) (dt_put M1 18 T) := dt_c1 (m_X10_pay l M1 (M1 18) ((xs (nI i + 1).toNatClampNeg)) ((xs (nI i + 2).toNatClampNeg)) h2)
  refine du_calli (pc := 766) (st := [.int r]) (k := 18) (As := [.int (xs (nI i + 1).toNatClampNeg), .int (xs (nI i + 2).toNatClampNeg)]) (M' := (dt_put M1 18 T)) C Fc_X10 hk_18 mf_X10_pay rfl ml_L_100 hm2 rfl rfl (rm_fr (Nat.le_of_ble_eq_true rfl) (Nat.le_of_ble_eq_true rfl)) rm_cells (Nat.le_of_ble_eq_true rfl) dL_law_766 ?_
  refine du_icmp_eq (pc := 769) (t := 937) (X := some ()) (Y := none) (res := ()) C dL_law_769 (by decide) (if_pos rfl) (fun _ => ?_) (fun h => by cases h)
  exact hgo _ h3
set_option maxRecDepth 10000 in
set_option maxHeartbeats 4000000 in
theorem lw_c_worth {p : Program} {l : Launch} {e : Env} {s : State} {m : MethodId} {below : List Frame} {meth : Method} {c : Code} {b L : Nat} {xs : Nat → Int32} {G : dt_G} (C : dt_Cx 1 G (fun q : Nat => s.heap.size ≤ q) p s m #[Value.ref b] meth c code 4 RL) (hX : va_X b L xs s s.heap) (hbl : b < s.heap.size) (hL : L ≤ 3072) {I : dt_M → Prop} (hst : St_worth I) {i : Nat} (hi : i + 6 ≤ L) {M : dt_M} (hM : I M) (hgo : ∀ M2 : dt_M, I M2 → dt_Au 110 8831 G (fun q : Nat => s.heap.size ≤ q) p l e room_1 s m #[Value.ref b] below meth c 4 (lw_Z below #[Value.ref b] s) 937 [(3, .int (nI i)), (0, .ref b), (1, .ref (G.1 0 0)), (2, .ref (G.1 18 0))] [] M2) : dt_Au 110 8831 G (fun q : Nat => s.heap.size ≤ q) p l e room_1 s m #[Value.ref b] below meth c 4 (lw_Z below #[Value.ref b] s) 774 [(3, .int (nI i)), (0, .ref b), (1, .ref (G.1 0 0)), (2, .ref (G.1 18 0))] [] M := by
  have hi1 : vp_in (nI i + 1) L := by rw [show nI i + 1 = nI (i + 1) from nI_add i 1]; exact vp_in_nI (by omega) (by omega)
  have hi2 : vp_in (nI i + 2) L := by rw [show nI i + 2 = nI (i + 2) from nI_add i 2]; exact vp_in_nI (by omega) (by omega)
  have hi3 : vp_in (nI i + 3) L := by rw [show nI i + 3 = nI (i + 3) from nI_add i 3]; exact vp_in_nI (by omega) (by omega)
  have hi4 : vp_in (nI i + 4) L := by rw [show nI i + 4 = nI (i + 4) from nI_add i 4]; exact vp_in_nI (by omega) (by omega)
  have hi5 : vp_in (nI i + 5) L := by rw [show nI i + 5 = nI (i + 5) from nI_add i 5]; exact vp_in_nI (by omega) (by omega)
  obtain ⟨r, M1, h1, h2, h3⟩ := hst M ((xs (nI i + 1).toNatClampNeg)) ((xs (nI i + 2).toNatClampNeg)) ((xs (nI i + 3).toNatClampNeg)) ((xs (nI i + 4).toNatClampNeg)) hM
  refine du_aload_n (pc := 774) C dL_law_774 rfl 2 rfl ?_
  refine du_aload_n (pc := 775) C dL_law_775 rfl 1 rfl ?_
  refine du_iload_n (pc := 776) C dL_law_776 rfl 0 rfl ?_
  refine du_iconst (pc := 777) (v := 1) C dL_law_777 (by decide) ?_
  refine du_iadd (pc := 778) C dL_law_778 ?_
  refine du_sld (pc := 779) C hX hbl (Nat.not_le.mpr hbl) hi1 dL_law_779 ?_
  refine du_aload_n (pc := 780) C dL_law_780 rfl 1 rfl ?_
  refine du_iload_n (pc := 781) C dL_law_781 rfl 0 rfl ?_
  refine du_iconst (pc := 782) (v := 2) C dL_law_782 (by decide) ?_
  refine du_iadd (pc := 783) C dL_law_783 ?_
  refine du_sld (pc := 784) C hX hbl (Nat.not_le.mpr hbl) hi2 dL_law_784 ?_
  refine du_aload_n (pc := 785) C dL_law_785 rfl 1 rfl ?_
  refine du_iload_n (pc := 786) C dL_law_786 rfl 0 rfl ?_
  refine du_iconst (pc := 787) (v := 3) C dL_law_787 (by decide) ?_
  refine du_iadd (pc := 788) C dL_law_788 ?_
  refine du_sld (pc := 789) C hX hbl (Nat.not_le.mpr hbl) hi3 dL_law_789 ?_
  refine du_aload_n (pc := 790) C dL_law_790 rfl 1 rfl ?_
  refine du_iload_n (pc := 791) C dL_law_791 rfl 0 rfl ?_
  refine du_iconst (pc := 792) (v := 4) C dL_law_792 (by decide) ?_
  refine du_iadd (pc := 793) C dL_law_793 ?_
  refine du_sld (pc := 794) C hX hbl (Nat.not_le.mpr hbl) hi4 dL_law_794 ?_
  have hm1 : dt_Met 1 l yX9_worth cX9_worth 6 (some .long) 4 (fun G => [.ref (G.1 0 0), .int (xs (nI i + 1).toNatClampNeg), .int (xs (nI i + 2).toNatClampNeg), .int (xs (nI i + 3).toNatClampNeg), .int (xs (nI i + 4).toNatClampNeg)]) M (some (.long r)) M1 := m_X9_worth (nb := 1) l M ((xs (nI i + 1).toNatClampNeg)) ((xs (nI i + 2).toNatClampNeg)) ((xs (nI i + 3).toNatClampNeg)) ((xs (nI i + 4).toNatClampNeg)) h1
  refine du_calll (pc := 795) (st := []) (k := 0) (As := [.int (xs (nI i + 1).toNatClampNeg), .int (xs (nI i + 2).toNatClampNeg), .int (xs (nI i + 3).toNatClampNeg), .int (xs (nI i + 4).toNatClampNeg)]) (M' := M1) C Fc_X9 hk_0 mf_X9_worth rfl ml_L_101 hm1 rfl rfl (rm_fr (Nat.le_of_ble_eq_true rfl) (Nat.le_of_ble_eq_true rfl)) rm_cells (Nat.le_of_ble_eq_true rfl) dL_law_795 ?_
  refine du_aload_n (pc := 798) C dL_law_798 rfl 3 rfl ?_
  refine du_aload_n (pc := 799) C dL_law_799 rfl 1 rfl ?_
  refine du_iload_n (pc := 800) C dL_law_800 rfl 0 rfl ?_
  refine du_iconst (pc := 801) (v := 1) C dL_law_801 (by decide) ?_
  refine du_iadd (pc := 802) C dL_law_802 ?_
  refine du_sld (pc := 803) C hX hbl (Nat.not_le.mpr hbl) hi1 dL_law_803 ?_
  refine du_aload_n (pc := 804) C dL_law_804 rfl 1 rfl ?_
  refine du_iload_n (pc := 805) C dL_law_805 rfl 0 rfl ?_
  refine du_iconst (pc := 806) (v := 2) C dL_law_806 (by decide) ?_
  refine du_iadd (pc := 807) C dL_law_807 ?_
  refine du_sld (pc := 808) C hX hbl (Nat.not_le.mpr hbl) hi2 dL_law_808 ?_
  refine du_aload_n (pc := 809) C dL_law_809 rfl 1 rfl ?_
  refine du_iload_n (pc := 810) C dL_law_810 rfl 0 rfl ?_
  refine du_iconst (pc := 811) (v := 3) C dL_law_811 (by decide) ?_
  refine du_iadd (pc := 812) C dL_law_812 ?_
  refine du_sld (pc := 813) C hX hbl (Nat.not_le.mpr hbl) hi3 dL_law_813 ?_
  refine du_aload_n (pc := 814) C dL_law_814 rfl 1 rfl ?_
  refine du_iload_n (pc := 815) C dL_law_815 rfl 0 rfl ?_
  refine du_iconst (pc := 816) (v := 4) C dL_law_816 (by decide) ?_
  refine du_iadd (pc := 817) C dL_law_817 ?_
  refine du_sld (pc := 818) C hX hbl (Nat.not_le.mpr hbl) hi4 dL_law_818 ?_
  have hm2 : dt_Met 1 l yX10_worth cX10_worth 5 (some .long) 51 (fun G => [.ref (G.1 18 0), .int (xs (nI i + 1).toNatClampNeg), .int (xs (nI i + 2).toNatClampNeg), .int (xs (nI i + 3).toNatClampNeg), .int (xs (nI i + 4).toNatClampNeg)]) M1 (some (.long r)) M1 := dt_c0 (m_X10_worth l M1 (M1 18) ((xs (nI i + 1).toNatClampNeg)) ((xs (nI i + 2).toNatClampNeg)) ((xs (nI i + 3).toNatClampNeg)) ((xs (nI i + 4).toNatClampNeg)) h2)
  refine du_calll (pc := 819) (st := [.long r]) (k := 18) (As := [.int (xs (nI i + 1).toNatClampNeg), .int (xs (nI i + 2).toNatClampNeg), .int (xs (nI i + 3).toNatClampNeg), .int (xs (nI i + 4).toNatClampNeg)]) (M' := M1) C Fc_X10 hk_18 mf_X10_worth rfl ml_L_105 hm2 rfl rfl (rm_fr (Nat.le_of_ble_eq_true rfl) (Nat.le_of_ble_eq_true rfl)) rm_cells (Nat.le_of_ble_eq_true rfl) dL_law_819 ?_
  refine du_lcmp (pc := 822) C dL_law_822 ?_
  refine du_if_eq (pc := 823) (t := 937) (X := some ()) (Y := none) (res := ()) C dL_law_823 (by decide) (if_pos (lg_cmp_self _)) (fun _ => ?_) (fun h => by cases h)
  exact hgo _ h3
set_option maxRecDepth 10000 in
set_option maxHeartbeats 4000000 in
theorem lw_c_bet {p : Program} {l : Launch} {e : Env} {s : State} {m : MethodId} {below : List Frame} {meth : Method} {c : Code} {b L : Nat} {xs : Nat → Int32} {G : dt_G} (C : dt_Cx 1 G (fun q : Nat => s.heap.size ≤ q) p s m #[Value.ref b] meth c code 4 RL) (hX : va_X b L xs s s.heap) (hbl : b < s.heap.size) (hL : L ≤ 3072) {I : dt_M → Prop} (hst : St_bet I) {i : Nat} (hi : i + 6 ≤ L) {M : dt_M} (hM : I M) (hgo : ∀ M2 : dt_M, I M2 → dt_Au 110 8831 G (fun q : Nat => s.heap.size ≤ q) p l e room_1 s m #[Value.ref b] below meth c 4 (lw_Z below #[Value.ref b] s) 937 [(3, .int (nI i)), (0, .ref b), (1, .ref (G.1 0 0)), (2, .ref (G.1 18 0))] [] M2) : dt_Au 110 8831 G (fun q : Nat => s.heap.size ≤ q) p l e room_1 s m #[Value.ref b] below meth c 4 (lw_Z below #[Value.ref b] s) 828 [(3, .int (nI i)), (0, .ref b), (1, .ref (G.1 0 0)), (2, .ref (G.1 18 0))] [] M := by
  have hi1 : vp_in (nI i + 1) L := by rw [show nI i + 1 = nI (i + 1) from nI_add i 1]; exact vp_in_nI (by omega) (by omega)
  have hi2 : vp_in (nI i + 2) L := by rw [show nI i + 2 = nI (i + 2) from nI_add i 2]; exact vp_in_nI (by omega) (by omega)
  have hi3 : vp_in (nI i + 3) L := by rw [show nI i + 3 = nI (i + 3) from nI_add i 3]; exact vp_in_nI (by omega) (by omega)
  have hi4 : vp_in (nI i + 4) L := by rw [show nI i + 4 = nI (i + 4) from nI_add i 4]; exact vp_in_nI (by omega) (by omega)
  have hi5 : vp_in (nI i + 5) L := by rw [show nI i + 5 = nI (i + 5) from nI_add i 5]; exact vp_in_nI (by omega) (by omega)
  obtain ⟨r, h1, h2, h3⟩ := hst M ((xs (nI i + 1).toNatClampNeg)) ((xs (nI i + 2).toNatClampNeg)) hM
  refine du_aload_n (pc := 828) C dL_law_828 rfl 2 rfl ?_
  refine du_aload_n (pc := 829) C dL_law_829 rfl 1 rfl ?_
  refine du_iload_n (pc := 830) C dL_law_830 rfl 0 rfl ?_
  refine du_iconst (pc := 831) (v := 1) C dL_law_831 (by decide) ?_
  refine du_iadd (pc := 832) C dL_law_832 ?_
  refine du_sld (pc := 833) C hX hbl (Nat.not_le.mpr hbl) hi1 dL_law_833 ?_
  refine du_aload_n (pc := 834) C dL_law_834 rfl 1 rfl ?_
  refine du_iload_n (pc := 835) C dL_law_835 rfl 0 rfl ?_
  refine du_iconst (pc := 836) (v := 2) C dL_law_836 (by decide) ?_
  refine du_iadd (pc := 837) C dL_law_837 ?_
  refine du_sld (pc := 838) C hX hbl (Nat.not_le.mpr hbl) hi2 dL_law_838 ?_
  have hm1 : dt_Met 1 l yX9_bet cX9_bet 3 (some .long) 3 (fun G => [.ref (G.1 0 0), .int (xs (nI i + 1).toNatClampNeg), .int (xs (nI i + 2).toNatClampNeg)]) M (some (.long r)) M := m_X9_bet (nb := 1) l M ((xs (nI i + 1).toNatClampNeg)) ((xs (nI i + 2).toNatClampNeg)) h1
  refine du_calll (pc := 839) (st := []) (k := 0) (As := [.int (xs (nI i + 1).toNatClampNeg), .int (xs (nI i + 2).toNatClampNeg)]) (M' := M) C Fc_X9 hk_0 mf_X9_bet rfl ml_L_106 hm1 rfl rfl (rm_fr (Nat.le_of_ble_eq_true rfl) (Nat.le_of_ble_eq_true rfl)) rm_cells (Nat.le_of_ble_eq_true rfl) dL_law_839 ?_
  refine du_aload_n (pc := 842) C dL_law_842 rfl 3 rfl ?_
  refine du_aload_n (pc := 843) C dL_law_843 rfl 1 rfl ?_
  refine du_iload_n (pc := 844) C dL_law_844 rfl 0 rfl ?_
  refine du_iconst (pc := 845) (v := 1) C dL_law_845 (by decide) ?_
  refine du_iadd (pc := 846) C dL_law_846 ?_
  refine du_sld (pc := 847) C hX hbl (Nat.not_le.mpr hbl) hi1 dL_law_847 ?_
  refine du_aload_n (pc := 848) C dL_law_848 rfl 1 rfl ?_
  refine du_iload_n (pc := 849) C dL_law_849 rfl 0 rfl ?_
  refine du_iconst (pc := 850) (v := 2) C dL_law_850 (by decide) ?_
  refine du_iadd (pc := 851) C dL_law_851 ?_
  refine du_sld (pc := 852) C hX hbl (Nat.not_le.mpr hbl) hi2 dL_law_852 ?_
  have hm2 : dt_Met 1 l yX10_bet cX10_bet 6 (some .long) 2 (fun G => [.ref (G.1 18 0), .int (xs (nI i + 1).toNatClampNeg), .int (xs (nI i + 2).toNatClampNeg)]) M (some (.long r)) M := dt_c0 (m_X10_bet l M (M 18) ((xs (nI i + 1).toNatClampNeg)) ((xs (nI i + 2).toNatClampNeg)) h2)
  refine du_calll (pc := 853) (st := [.long r]) (k := 18) (As := [.int (xs (nI i + 1).toNatClampNeg), .int (xs (nI i + 2).toNatClampNeg)]) (M' := M) C Fc_X10 hk_18 mf_X10_bet rfl ml_L_110 hm2 rfl rfl (rm_fr (Nat.le_of_ble_eq_true rfl) (Nat.le_of_ble_eq_true rfl)) rm_cells (Nat.le_of_ble_eq_true rfl) dL_law_853 ?_
  refine du_lcmp (pc := 856) C dL_law_856 ?_
  refine du_if_eq (pc := 857) (t := 937) (X := some ()) (Y := none) (res := ()) C dL_law_857 (by decide) (if_pos (lg_cmp_self _)) (fun _ => ?_) (fun h => by cases h)
  exact hgo _ h3
set_option maxRecDepth 10000 in
set_option maxHeartbeats 4000000 in
theorem lw_c_undo {p : Program} {l : Launch} {e : Env} {s : State} {m : MethodId} {below : List Frame} {meth : Method} {c : Code} {b L : Nat} {xs : Nat → Int32} {G : dt_G} (C : dt_Cx 1 G (fun q : Nat => s.heap.size ≤ q) p s m #[Value.ref b] meth c code 4 RL) (hX : va_X b L xs s s.heap) (hbl : b < s.heap.size) (hL : L ≤ 3072) {I : dt_M → Prop} (hst : St_undo I) {i : Nat} (hi : i + 6 ≤ L) {M : dt_M} (hM : I M) (hgo : ∀ M2 : dt_M, I M2 → dt_Au 110 8831 G (fun q : Nat => s.heap.size ≤ q) p l e room_1 s m #[Value.ref b] below meth c 4 (lw_Z below #[Value.ref b] s) 937 [(3, .int (nI i)), (0, .ref b), (1, .ref (G.1 0 0)), (2, .ref (G.1 18 0))] [] M2) : dt_Au 110 8831 G (fun q : Nat => s.heap.size ≤ q) p l e room_1 s m #[Value.ref b] below meth c 4 (lw_Z below #[Value.ref b] s) 862 [(3, .int (nI i)), (0, .ref b), (1, .ref (G.1 0 0)), (2, .ref (G.1 18 0))] [] M := by
  have hi1 : vp_in (nI i + 1) L := by rw [show nI i + 1 = nI (i + 1) from nI_add i 1]; exact vp_in_nI (by omega) (by omega)
  have hi2 : vp_in (nI i + 2) L := by rw [show nI i + 2 = nI (i + 2) from nI_add i 2]; exact vp_in_nI (by omega) (by omega)
  have hi3 : vp_in (nI i + 3) L := by rw [show nI i + 3 = nI (i + 3) from nI_add i 3]; exact vp_in_nI (by omega) (by omega)
  have hi4 : vp_in (nI i + 4) L := by rw [show nI i + 4 = nI (i + 4) from nI_add i 4]; exact vp_in_nI (by omega) (by omega)
  have hi5 : vp_in (nI i + 5) L := by rw [show nI i + 5 = nI (i + 5) from nI_add i 5]; exact vp_in_nI (by omega) (by omega)
  obtain ⟨r, M1, T, h1, h2, h3⟩ := hst M  hM
  refine du_aload_n (pc := 862) C dL_law_862 rfl 2 rfl ?_
  have hm1 : dt_Met 1 l yX9_undo cX9_undo 3 (some .boolean) 4 (fun G => [.ref (G.1 0 0)]) M (some (.int r)) M1 := m_X9_undo (nb := 1) l M  h1
  refine du_calli (pc := 863) (st := []) (k := 0) (As := []) (M' := M1) C Fc_X9 hk_0 mf_X9_undo rfl ml_L_111 hm1 rfl rfl (rm_fr (Nat.le_of_ble_eq_true rfl) (Nat.le_of_ble_eq_true rfl)) rm_cells (Nat.le_of_ble_eq_true rfl) dL_law_863 ?_
  refine du_aload_n (pc := 866) C dL_law_866 rfl 3 rfl ?_
  have hm2 : dt_Met 1 l yX10_undo cX10_undo 2 (some .boolean) 2 (fun G => [.ref (G.1 18 0)]) M1 (some (.int r)) (dt_put M1 18 T) := dt_c1 (m_X10_undo l M1 (M1 18)  h2)
  refine du_calli (pc := 867) (st := [.int r]) (k := 18) (As := []) (M' := (dt_put M1 18 T)) C Fc_X10 hk_18 mf_X10_undo rfl ml_L_115 hm2 rfl rfl (rm_fr (Nat.le_of_ble_eq_true rfl) (Nat.le_of_ble_eq_true rfl)) rm_cells (Nat.le_of_ble_eq_true rfl) dL_law_867 ?_
  refine du_icmp_eq (pc := 870) (t := 937) (X := some ()) (Y := none) (res := ()) C dL_law_870 (by decide) (if_pos rfl) (fun _ => ?_) (fun h => by cases h)
  exact hgo _ h3
set_option maxRecDepth 10000 in
set_option maxHeartbeats 4000000 in
theorem lw_c_image {p : Program} {l : Launch} {e : Env} {s : State} {m : MethodId} {below : List Frame} {meth : Method} {c : Code} {b L : Nat} {xs : Nat → Int32} {G : dt_G} (C : dt_Cx 1 G (fun q : Nat => s.heap.size ≤ q) p s m #[Value.ref b] meth c code 4 RL) (hX : va_X b L xs s s.heap) (hbl : b < s.heap.size) (hL : L ≤ 3072) {I : dt_M → Prop} (hst : St_image I) {i : Nat} (hi : i + 6 ≤ L) {M : dt_M} (hM : I M) (hgo : ∀ M2 : dt_M, I M2 → dt_Au 110 8831 G (fun q : Nat => s.heap.size ≤ q) p l e room_1 s m #[Value.ref b] below meth c 4 (lw_Z below #[Value.ref b] s) 937 [(3, .int (nI i)), (0, .ref b), (1, .ref (G.1 0 0)), (2, .ref (G.1 18 0))] [] M2) : dt_Au 110 8831 G (fun q : Nat => s.heap.size ≤ q) p l e room_1 s m #[Value.ref b] below meth c 4 (lw_Z below #[Value.ref b] s) 875 [(3, .int (nI i)), (0, .ref b), (1, .ref (G.1 0 0)), (2, .ref (G.1 18 0))] [] M := by
  have hi1 : vp_in (nI i + 1) L := by rw [show nI i + 1 = nI (i + 1) from nI_add i 1]; exact vp_in_nI (by omega) (by omega)
  have hi2 : vp_in (nI i + 2) L := by rw [show nI i + 2 = nI (i + 2) from nI_add i 2]; exact vp_in_nI (by omega) (by omega)
  have hi3 : vp_in (nI i + 3) L := by rw [show nI i + 3 = nI (i + 3) from nI_add i 3]; exact vp_in_nI (by omega) (by omega)
  have hi4 : vp_in (nI i + 4) L := by rw [show nI i + 4 = nI (i + 4) from nI_add i 4]; exact vp_in_nI (by omega) (by omega)
  have hi5 : vp_in (nI i + 5) L := by rw [show nI i + 5 = nI (i + 5) from nI_add i 5]; exact vp_in_nI (by omega) (by omega)
  by_cases hz : xs (nI i + 1).toNatClampNeg = 0
  · obtain ⟨r, M1, T, h1, h2, h3⟩ := hst M 0 hM (Or.inl rfl)
    refine du_aload_n (pc := 875) C dL_law_875 rfl 2 rfl ?_
    refine du_aload_n (pc := 876) C dL_law_876 rfl 1 rfl ?_
    refine du_iload_n (pc := 877) C dL_law_877 rfl 0 rfl ?_
    refine du_iconst (pc := 878) (v := 1) C dL_law_878 (by decide) ?_
    refine du_iadd (pc := 879) C dL_law_879 ?_
    refine du_sld (pc := 880) C hX hbl (Nat.not_le.mpr hbl) hi1 dL_law_880 ?_
    refine du_if_eq (pc := 881) (t := 888) (X := some ()) (Y := none) (res := ()) C dL_law_881 (by decide) (if_pos hz) (fun _ => ?_) (fun h => by cases h)
    refine du_iconst (pc := 888) (v := 0) C dL_law_888 (by decide) ?_
    have hm1 : dt_Met 1 l yX9_image cX9_image 2 (some .boolean) 4 (fun G => [.ref (G.1 0 0), .int 0]) M (some (.int r)) M1 := m_X9_image (nb := 1) l M (0) h1
    refine du_calli (pc := 889) (st := []) (k := 0) (As := [.int 0]) (M' := M1) C Fc_X9 hk_0 mf_X9_image rfl ml_L_116 hm1 rfl rfl (rm_fr (Nat.le_of_ble_eq_true rfl) (Nat.le_of_ble_eq_true rfl)) rm_cells (Nat.le_of_ble_eq_true rfl) dL_law_889 ?_
    refine du_aload_n (pc := 892) C dL_law_892 rfl 3 rfl ?_
    refine du_aload_n (pc := 893) C dL_law_893 rfl 1 rfl ?_
    refine du_iload_n (pc := 894) C dL_law_894 rfl 0 rfl ?_
    refine du_iconst (pc := 895) (v := 1) C dL_law_895 (by decide) ?_
    refine du_iadd (pc := 896) C dL_law_896 ?_
    refine du_sld (pc := 897) C hX hbl (Nat.not_le.mpr hbl) hi1 dL_law_897 ?_
    refine du_if_eq (pc := 898) (t := 905) (X := some ()) (Y := none) (res := ()) C dL_law_898 (by decide) (if_pos hz) (fun _ => ?_) (fun h => by cases h)
    refine du_iconst (pc := 905) (v := 0) C dL_law_905 (by decide) ?_
    have hm2 : dt_Met 1 l yX10_image cX10_image 3 (some .boolean) 2 (fun G => [.ref (G.1 18 0), .int 0]) M1 (some (.int r)) (dt_put M1 18 T) := dt_c1 (m_X10_image l M1 (M1 18) (0) h2)
    refine du_calli (pc := 906) (st := [.int r]) (k := 18) (As := [.int 0]) (M' := (dt_put M1 18 T)) C Fc_X10 hk_18 mf_X10_image rfl ml_L_120 hm2 rfl rfl (rm_fr (Nat.le_of_ble_eq_true rfl) (Nat.le_of_ble_eq_true rfl)) rm_cells (Nat.le_of_ble_eq_true rfl) dL_law_906 ?_
    refine du_icmp_eq (pc := 909) (t := 937) (X := some ()) (Y := none) (res := ()) C dL_law_909 (by decide) (if_pos rfl) (fun _ => ?_) (fun h => by cases h)
    exact hgo _ h3
  · obtain ⟨r, M1, T, h1, h2, h3⟩ := hst M 1 hM (Or.inr rfl)
    refine du_aload_n (pc := 875) C dL_law_875 rfl 2 rfl ?_
    refine du_aload_n (pc := 876) C dL_law_876 rfl 1 rfl ?_
    refine du_iload_n (pc := 877) C dL_law_877 rfl 0 rfl ?_
    refine du_iconst (pc := 878) (v := 1) C dL_law_878 (by decide) ?_
    refine du_iadd (pc := 879) C dL_law_879 ?_
    refine du_sld (pc := 880) C hX hbl (Nat.not_le.mpr hbl) hi1 dL_law_880 ?_
    refine du_if_eq (pc := 881) (t := 888) (X := none) (Y := some ()) (res := ()) C dL_law_881 (by decide) (if_neg hz) (fun h => by cases h) (fun _ => ?_)
    refine du_iconst (pc := 884) (v := 1) C dL_law_884 (by decide) ?_
    refine du_goto (pc := 885) (t := 889) C dL_law_885 (by decide) ?_
    have hm1 : dt_Met 1 l yX9_image cX9_image 2 (some .boolean) 4 (fun G => [.ref (G.1 0 0), .int 1]) M (some (.int r)) M1 := m_X9_image (nb := 1) l M (1) h1
    refine du_calli (pc := 889) (st := []) (k := 0) (As := [.int 1]) (M' := M1) C Fc_X9 hk_0 mf_X9_image rfl ml_L_116 hm1 rfl rfl (rm_fr (Nat.le_of_ble_eq_true rfl) (Nat.le_of_ble_eq_true rfl)) rm_cells (Nat.le_of_ble_eq_true rfl) dL_law_889 ?_
    refine du_aload_n (pc := 892) C dL_law_892 rfl 3 rfl ?_
    refine du_aload_n (pc := 893) C dL_law_893 rfl 1 rfl ?_
    refine du_iload_n (pc := 894) C dL_law_894 rfl 0 rfl ?_
    refine du_iconst (pc := 895) (v := 1) C dL_law_895 (by decide) ?_
    refine du_iadd (pc := 896) C dL_law_896 ?_
    refine du_sld (pc := 897) C hX hbl (Nat.not_le.mpr hbl) hi1 dL_law_897 ?_
    refine du_if_eq (pc := 898) (t := 905) (X := none) (Y := some ()) (res := ()) C dL_law_898 (by decide) (if_neg hz) (fun h => by cases h) (fun _ => ?_)
    refine du_iconst (pc := 901) (v := 1) C dL_law_901 (by decide) ?_
    refine du_goto (pc := 902) (t := 906) C dL_law_902 (by decide) ?_
    have hm2 : dt_Met 1 l yX10_image cX10_image 3 (some .boolean) 2 (fun G => [.ref (G.1 18 0), .int 1]) M1 (some (.int r)) (dt_put M1 18 T) := dt_c1 (m_X10_image l M1 (M1 18) (1) h2)
    refine du_calli (pc := 906) (st := [.int r]) (k := 18) (As := [.int 1]) (M' := (dt_put M1 18 T)) C Fc_X10 hk_18 mf_X10_image rfl ml_L_120 hm2 rfl rfl (rm_fr (Nat.le_of_ble_eq_true rfl) (Nat.le_of_ble_eq_true rfl)) rm_cells (Nat.le_of_ble_eq_true rfl) dL_law_906 ?_
    refine du_icmp_eq (pc := 909) (t := 937) (X := some ()) (Y := none) (res := ()) C dL_law_909 (by decide) (if_pos rfl) (fun _ => ?_) (fun h => by cases h)
    exact hgo _ h3
set_option maxRecDepth 10000 in
set_option maxHeartbeats 4000000 in
theorem lw_c_look {p : Program} {l : Launch} {e : Env} {s : State} {m : MethodId} {below : List Frame} {meth : Method} {c : Code} {b L : Nat} {xs : Nat → Int32} {G : dt_G} (C : dt_Cx 1 G (fun q : Nat => s.heap.size ≤ q) p s m #[Value.ref b] meth c code 4 RL) (hX : va_X b L xs s s.heap) (hbl : b < s.heap.size) (hL : L ≤ 3072) {I : dt_M → Prop} (hst : St_look I) {i : Nat} (hi : i + 6 ≤ L) {M : dt_M} (hM : I M) (hgo : ∀ M2 : dt_M, I M2 → dt_Au 110 8831 G (fun q : Nat => s.heap.size ≤ q) p l e room_1 s m #[Value.ref b] below meth c 4 (lw_Z below #[Value.ref b] s) 937 [(3, .int (nI i)), (0, .ref b), (1, .ref (G.1 0 0)), (2, .ref (G.1 18 0))] [] M2) : dt_Au 110 8831 G (fun q : Nat => s.heap.size ≤ q) p l e room_1 s m #[Value.ref b] below meth c 4 (lw_Z below #[Value.ref b] s) 914 [(3, .int (nI i)), (0, .ref b), (1, .ref (G.1 0 0)), (2, .ref (G.1 18 0))] [] M := by
  have hi1 : vp_in (nI i + 1) L := by rw [show nI i + 1 = nI (i + 1) from nI_add i 1]; exact vp_in_nI (by omega) (by omega)
  have hi2 : vp_in (nI i + 2) L := by rw [show nI i + 2 = nI (i + 2) from nI_add i 2]; exact vp_in_nI (by omega) (by omega)
  have hi3 : vp_in (nI i + 3) L := by rw [show nI i + 3 = nI (i + 3) from nI_add i 3]; exact vp_in_nI (by omega) (by omega)
  have hi4 : vp_in (nI i + 4) L := by rw [show nI i + 4 = nI (i + 4) from nI_add i 4]; exact vp_in_nI (by omega) (by omega)
  have hi5 : vp_in (nI i + 5) L := by rw [show nI i + 5 = nI (i + 5) from nI_add i 5]; exact vp_in_nI (by omega) (by omega)
  obtain ⟨r, h1, h2, h3⟩ := hst M ((xs (nI i + 1).toNatClampNeg)) hM
  refine du_aload_n (pc := 914) C dL_law_914 rfl 2 rfl ?_
  refine du_aload_n (pc := 915) C dL_law_915 rfl 1 rfl ?_
  refine du_iload_n (pc := 916) C dL_law_916 rfl 0 rfl ?_
  refine du_iconst (pc := 917) (v := 1) C dL_law_917 (by decide) ?_
  refine du_iadd (pc := 918) C dL_law_918 ?_
  refine du_sld (pc := 919) C hX hbl (Nat.not_le.mpr hbl) hi1 dL_law_919 ?_
  have hm1 : dt_Met 1 l yX9_look cX9_look 2 (some .int) 3 (fun G => [.ref (G.1 0 0), .int (xs (nI i + 1).toNatClampNeg)]) M (some (.int r)) M := m_X9_look (nb := 1) l M ((xs (nI i + 1).toNatClampNeg)) h1
  refine du_calli (pc := 920) (st := []) (k := 0) (As := [.int (xs (nI i + 1).toNatClampNeg)]) (M' := M) C Fc_X9 hk_0 mf_X9_look rfl ml_L_121 hm1 rfl rfl (rm_fr (Nat.le_of_ble_eq_true rfl) (Nat.le_of_ble_eq_true rfl)) rm_cells (Nat.le_of_ble_eq_true rfl) dL_law_920 ?_
  refine du_aload_n (pc := 923) C dL_law_923 rfl 3 rfl ?_
  refine du_aload_n (pc := 924) C dL_law_924 rfl 1 rfl ?_
  refine du_iload_n (pc := 925) C dL_law_925 rfl 0 rfl ?_
  refine du_iconst (pc := 926) (v := 1) C dL_law_926 (by decide) ?_
  refine du_iadd (pc := 927) C dL_law_927 ?_
  refine du_sld (pc := 928) C hX hbl (Nat.not_le.mpr hbl) hi1 dL_law_928 ?_
  have hm2 : dt_Met 1 l yX10_look cX10_look 2 (some .int) 3 (fun G => [.ref (G.1 18 0), .int (xs (nI i + 1).toNatClampNeg)]) M (some (.int r)) M := dt_c0 (m_X10_look l M (M 18) ((xs (nI i + 1).toNatClampNeg)) h2)
  refine du_calli (pc := 929) (st := [.int r]) (k := 18) (As := [.int (xs (nI i + 1).toNatClampNeg)]) (M' := M) C Fc_X10 hk_18 mf_X10_look rfl ml_L_124 hm2 rfl rfl (rm_fr (Nat.le_of_ble_eq_true rfl) (Nat.le_of_ble_eq_true rfl)) rm_cells (Nat.le_of_ble_eq_true rfl) dL_law_929 ?_
  refine du_icmp_eq (pc := 932) (t := 937) (X := some ()) (Y := none) (res := ()) C dL_law_932 (by decide) (if_pos rfl) (fun _ => ?_) (fun h => by cases h)
  exact hgo _ h3
set_option maxRecDepth 10000 in
set_option maxHeartbeats 4000000 in
theorem law_loop {p : Program} {l : Launch} {e : Env} {s : State} {m : MethodId} {below : List Frame} {meth : Method} {c : Code} {b L : Nat} {xs : Nat → Int32} {G : dt_G} (C : dt_Cx 1 G (fun q : Nat => s.heap.size ≤ q) p s m #[Value.ref b] meth c code 4 RL) (hX : va_X b L xs s s.heap) (hbl : b < s.heap.size) (hL : L ≤ 3072) (hr : meth.sig.returnType = ret) {I : dt_M → Prop} (hst : dt_Steps I) : ∀ (n i : Nat) (M : dt_M), i ≤ L + 6 → L + 6 - i < n → I M → dt_Au 110 8831 G (fun q : Nat => s.heap.size ≤ q) p l e room_1 s m #[Value.ref b] below meth c 4 (lw_Z below #[Value.ref b] s) 18 [(3, .int (nI i)), (0, .ref b), (1, .ref (G.1 0 0)), (2, .ref (G.1 18 0))] [] M := by
  intro n
  induction n with
  | zero => intro i M h1 h2; exact absurd h2 (Nat.not_lt_zero _)
  | succ n ih =>
    intro i M h1 h2 hM
    refine du_iload_n (pc := 18) C dL_law_18 rfl 0 rfl ?_
    refine du_aload_n (pc := 19) C dL_law_19 rfl 1 rfl ?_
    refine du_slen (pc := 20) C hX hbl (Nat.not_le.mpr hbl) dL_law_20 ?_
    refine du_bipush (pc := 21) (v := 6) C dL_law_21 (by decide) ?_
    refine du_isub (pc := 23) C dL_law_23 ?_
    have e0 : (nI L - 6).toInt = (L : Int) - 6 := by
      have := pk_sub_toInt (a := L) (b := 6) (by omega) (by omega)
      exact this
    have e1 : (nI i).toInt = (i : Int) := nI_toInt (by omega)
    by_cases hi : i + 6 ≤ L
    · have hc : ¬ nI L - 6 < nI i := by rw [Int32.lt_iff_toInt_lt, e0, e1]; omega
      refine du_icmp_gt (pc := 24) (t := 943) (X := none) (Y := some ()) (res := ()) C dL_law_24 (by decide) (if_neg hc) (fun h => by cases h) (fun _ => ?_)
      have hgo : ∀ M2 : dt_M, I M2 → dt_Au 110 8831 G (fun q : Nat => s.heap.size ≤ q) p l e room_1 s m #[Value.ref b] below meth c 4 (lw_Z below #[Value.ref b] s) 937 [(3, .int (nI i)), (0, .ref b), (1, .ref (G.1 0 0)), (2, .ref (G.1 18 0))] [] M2 := by
        intro M2 hM2
        refine du_iinc (pc := 937) (v := nI (i + 6)) C dL_law_937 0 rfl (nI_add i 6) (by decide) rfl ?_
        refine du_goto (pc := 940) (t := 18) C dL_law_940 (by decide) ?_
        exact ih (i + 6) M2 (by omega) (by omega) hM2
      refine du_aload_n (pc := 27) C dL_law_27 rfl 1 rfl ?_
      refine du_iload_n (pc := 28) C dL_law_28 rfl 0 rfl ?_
      refine du_sld (pc := 29) C hX hbl (Nat.not_le.mpr hbl) (vp_in_nI (by omega) (by omega)) dL_law_29 ?_
      refine du_bipush (pc := 30) (v := 31) C dL_law_30 (by decide) ?_
      refine du_iand (pc := 32) C dL_law_32 ?_
      generalize (xs (nI i).toNatClampNeg &&& 31) = v
      by_cases hc0 : v = 0
      · refine du_tsw (pc := 33) (off := 115) (t := 148) C dL_law_33 0 (by rw [hc0]; rfl) (by decide) (by decide) rfl (by decide) ?_
        exact lw_c_columns C hX hbl hL hst.1 hi hM hgo
      by_cases hc1 : v = 1
      · refine du_tsw (pc := 33) (off := 138) (t := 171) C dL_law_33 1 (by rw [hc1]; rfl) (by decide) (by decide) rfl (by decide) ?_
        exact lw_c_block C hX hbl hL hst.2.1 hi hM hgo
      by_cases hc2 : v = 2
      · refine du_tsw (pc := 33) (off := 201) (t := 234) C dL_law_33 2 (by rw [hc2]; rfl) (by decide) (by decide) rfl (by decide) ?_
        exact lw_c_put C hX hbl hL hst.2.2.1 hi hM hgo
      by_cases hc3 : v = 3
      · refine du_tsw (pc := 33) (off := 234) (t := 267) C dL_law_33 3 (by rw [hc3]; rfl) (by decide) (by decide) rfl (by decide) ?_
        exact lw_c_take C hX hbl hL hst.2.2.2.1 hi hM hgo
      by_cases hc4 : v = 4
      · refine du_tsw (pc := 33) (off := 267) (t := 300) C dL_law_33 4 (by rw [hc4]; rfl) (by decide) (by decide) rfl (by decide) ?_
        exact lw_c_refused C hX hbl hL hst.2.2.2.2.1 hi hM hgo
      by_cases hc5 : v = 5
      · refine du_tsw (pc := 33) (off := 290) (t := 323) C dL_law_33 5 (by rw [hc5]; rfl) (by decide) (by decide) rfl (by decide) ?_
        exact lw_c_of C hX hbl hL hst.2.2.2.2.2.1 hi hM hgo
      by_cases hc6 : v = 6
      · refine du_tsw (pc := 33) (off := 323) (t := 356) C dL_law_33 6 (by rw [hc6]; rfl) (by decide) (by decide) rfl (by decide) ?_
        exact lw_c_height C hX hbl hL hst.2.2.2.2.2.2.1 hi hM hgo
      by_cases hc7 : v = 7
      · refine du_tsw (pc := 33) (off := 346) (t := 379) C dL_law_33 7 (by rw [hc7]; rfl) (by decide) (by decide) rfl (by decide) ?_
        exact lw_c_noon C hX hbl hL hst.2.2.2.2.2.2.2.1 hi hM hgo
      by_cases hc8 : v = 8
      · refine du_tsw (pc := 33) (off := 359) (t := 392) C dL_law_33 8 (by rw [hc8]; rfl) (by decide) (by decide) rfl (by decide) ?_
        exact lw_c_dusk C hX hbl hL hst.2.2.2.2.2.2.2.2.1 hi hM hgo
      by_cases hc9 : v = 9
      · refine du_tsw (pc := 33) (off := 372) (t := 405) C dL_law_33 9 (by rw [hc9]; rfl) (by decide) (by decide) rfl (by decide) ?_
        exact lw_c_feed C hX hbl hL hst.2.2.2.2.2.2.2.2.2.1 hi hM hgo
      by_cases hc10 : v = 10
      · refine du_tsw (pc := 33) (off := 435) (t := 468) C dL_law_33 10 (by rw [hc10]; rfl) (by decide) (by decide) rfl (by decide) ?_
        exact lw_c_end C hX hbl hL hst.2.2.2.2.2.2.2.2.2.2.1 hi hM hgo
      by_cases hc11 : v = 11
      · refine du_tsw (pc := 33) (off := 458) (t := 491) C dL_law_33 11 (by rw [hc11]; rfl) (by decide) (by decide) rfl (by decide) ?_
        exact lw_c_text C hX hbl hL hst.2.2.2.2.2.2.2.2.2.2.2.1 hi hM hgo
      by_cases hc12 : v = 12
      · refine du_tsw (pc := 33) (off := 471) (t := 504) C dL_law_33 12 (by rw [hc12]; rfl) (by decide) (by decide) rfl (by decide) ?_
        exact lw_c_fault C hX hbl hL hst.2.2.2.2.2.2.2.2.2.2.2.2.1 hi hM hgo
      by_cases hc13 : v = 13
      · refine du_tsw (pc := 33) (off := 494) (t := 527) C dL_law_33 13 (by rw [hc13]; rfl) (by decide) (by decide) rfl (by decide) ?_
        exact lw_c_plan C hX hbl hL hst.2.2.2.2.2.2.2.2.2.2.2.2.2.1 hi hM hgo
      by_cases hc14 : v = 14
      · refine du_tsw (pc := 33) (off := 527) (t := 560) C dL_law_33 14 (by rw [hc14]; rfl) (by decide) (by decide) rfl (by decide) ?_
        exact lw_c_down C hX hbl hL hst.2.2.2.2.2.2.2.2.2.2.2.2.2.2.1 hi hM hgo
      by_cases hc15 : v = 15
      · refine du_tsw (pc := 33) (off := 550) (t := 583) C dL_law_33 15 (by rw [hc15]; rfl) (by decide) (by decide) rfl (by decide) ?_
        exact lw_c_which C hX hbl hL hst.2.2.2.2.2.2.2.2.2.2.2.2.2.2.2.1 hi hM hgo
      by_cases hc16 : v = 16
      · refine du_tsw (pc := 33) (off := 583) (t := 616) C dL_law_33 16 (by rw [hc16]; rfl) (by decide) (by decide) rfl (by decide) ?_
        exact lw_c_hand C hX hbl hL hst.2.2.2.2.2.2.2.2.2.2.2.2.2.2.2.2.1 hi hM hgo
      by_cases hc17 : v = 17
      · refine du_tsw (pc := 33) (off := 606) (t := 639) C dL_law_33 17 (by rw [hc17]; rfl) (by decide) (by decide) rfl (by decide) ?_
        exact lw_c_quarrel C hX hbl hL hst.2.2.2.2.2.2.2.2.2.2.2.2.2.2.2.2.2.1 hi hM hgo
      by_cases hc18 : v = 18
      · refine du_tsw (pc := 33) (off := 665) (t := 698) C dL_law_33 18 (by rw [hc18]; rfl) (by decide) (by decide) rfl (by decide) ?_
        exact lw_c_wind C hX hbl hL hst.2.2.2.2.2.2.2.2.2.2.2.2.2.2.2.2.2.2.1 hi hM hgo
      by_cases hc19 : v = 19
      · refine du_tsw (pc := 33) (off := 708) (t := 741) C dL_law_33 19 (by rw [hc19]; rfl) (by decide) (by decide) rfl (by decide) ?_
        exact lw_c_pay C hX hbl hL hst.2.2.2.2.2.2.2.2.2.2.2.2.2.2.2.2.2.2.2.1 hi hM hgo
      by_cases hc20 : v = 20
      · refine du_tsw (pc := 33) (off := 741) (t := 774) C dL_law_33 20 (by rw [hc20]; rfl) (by decide) (by decide) rfl (by decide) ?_
        exact lw_c_worth C hX hbl hL hst.2.2.2.2.2.2.2.2.2.2.2.2.2.2.2.2.2.2.2.2.1 hi hM hgo
      by_cases hc21 : v = 21
      · refine du_tsw (pc := 33) (off := 795) (t := 828) C dL_law_33 21 (by rw [hc21]; rfl) (by decide) (by decide) rfl (by decide) ?_
        exact lw_c_bet C hX hbl hL hst.2.2.2.2.2.2.2.2.2.2.2.2.2.2.2.2.2.2.2.2.2.1 hi hM hgo
      by_cases hc22 : v = 22
      · refine du_tsw (pc := 33) (off := 829) (t := 862) C dL_law_33 22 (by rw [hc22]; rfl) (by decide) (by decide) rfl (by decide) ?_
        exact lw_c_undo C hX hbl hL hst.2.2.2.2.2.2.2.2.2.2.2.2.2.2.2.2.2.2.2.2.2.2.1 hi hM hgo
      by_cases hc23 : v = 23
      · refine du_tsw (pc := 33) (off := 842) (t := 875) C dL_law_33 23 (by rw [hc23]; rfl) (by decide) (by decide) rfl (by decide) ?_
        exact lw_c_image C hX hbl hL hst.2.2.2.2.2.2.2.2.2.2.2.2.2.2.2.2.2.2.2.2.2.2.2.1 hi hM hgo
      by_cases hc24 : v = 24
      · refine du_tsw (pc := 33) (off := 881) (t := 914) C dL_law_33 24 (by rw [hc24]; rfl) (by decide) (by decide) rfl (by decide) ?_
        exact lw_c_look C hX hbl hL hst.2.2.2.2.2.2.2.2.2.2.2.2.2.2.2.2.2.2.2.2.2.2.2.2 hi hM hgo
      refine du_tswO (pc := 33) (t := 937) C dL_law_33 (by have z0 := lv_neT hc0 (a := 0) rfl; have z1 := lv_neT hc1 (a := 1) rfl; have z2 := lv_neT hc2 (a := 2) rfl; have z3 := lv_neT hc3 (a := 3) rfl; have z4 := lv_neT hc4 (a := 4) rfl; have z5 := lv_neT hc5 (a := 5) rfl; have z6 := lv_neT hc6 (a := 6) rfl; have z7 := lv_neT hc7 (a := 7) rfl; have z8 := lv_neT hc8 (a := 8) rfl; have z9 := lv_neT hc9 (a := 9) rfl; have z10 := lv_neT hc10 (a := 10) rfl; have z11 := lv_neT hc11 (a := 11) rfl; have z12 := lv_neT hc12 (a := 12) rfl; have z13 := lv_neT hc13 (a := 13) rfl; have z14 := lv_neT hc14 (a := 14) rfl; have z15 := lv_neT hc15 (a := 15) rfl; have z16 := lv_neT hc16 (a := 16) rfl; have z17 := lv_neT hc17 (a := 17) rfl; have z18 := lv_neT hc18 (a := 18) rfl; have z19 := lv_neT hc19 (a := 19) rfl; have z20 := lv_neT hc20 (a := 20) rfl; have z21 := lv_neT hc21 (a := 21) rfl; have z22 := lv_neT hc22 (a := 22) rfl; have z23 := lv_neT hc23 (a := 23) rfl; have z24 := lv_neT hc24 (a := 24) rfl; omega) (by decide) ?_
      exact hgo M hM
    · have hc : nI L - 6 < nI i := by rw [Int32.lt_iff_toInt_lt, e0, e1]; omega
      refine du_icmp_gt (pc := 24) (t := 943) (X := some ()) (Y := none) (res := ()) C dL_law_24 (by decide) (if_pos hc) (fun _ => ?_) (fun h => by cases h)
      refine du_iconst (pc := 943) (v := 1) C dL_law_943 (by decide) ?_
      intro H locs ls hl hM2 hS
      refine va_forget (fun q hq => hS.2.2 q hq) ?_
      refine W.widen (k := 600000) (n := 7302250) (by omega) (by omega) ?_
      exact lw_ret C.1.1 C.1.2.1 hr C.2.2.2.1 dL_law_944
