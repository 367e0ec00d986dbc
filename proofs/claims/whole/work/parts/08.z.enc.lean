/-! ===== lifted: 08.z.enc ===== -/
def fJ1_canEncode_9a6ad  (x0 : Int32) : Option (Int32) := (if x0 < 0 then (some (0 : Int32)) else (if (255 : Int32) < x0 then (some (0 : Int32)) else (some (1 : Int32))))
set_option maxRecDepth 10000 in
set_option maxHeartbeats 4000000 in
theorem m_J1_canEncode_9a6ad {nb : Nat} (l : Launch)  (M : dt_M)   (x0 : Int32) {res : Int32} (h : fJ1_canEncode_9a6ad x0 = some res) : dt_Met nb l yJ1_canEncode_9a6ad cJ1_canEncode_9a6ad 1 (some .boolean) 1 (fun G => [.int x0]) M (some (.int res)) M := by
  refine dz_enter (lv := fun G => [(0, .int x0)]) (by decide) (fun _ => rfl) (fun _ => Nat.le_of_ble_eq_true rfl) (fun G A p e s m args below meth c C hr => ?_)
  unfold fJ1_canEncode_9a6ad at h
  refine dz_iload_n (pc := 0) C dJ1_canEncode_9a6ad_0 rfl 0 rfl ?_
  refine dz_if_lt (pc := 1) (t := 15) C dJ1_canEncode_9a6ad_1 (by decide) h (fun h => ?_) (fun h => ?_)
  · refine dz_iconst (pc := 15) (v := (0 : Int32)) C dJ1_canEncode_9a6ad_15 (by decide) ?_
    cases dt_some h
    exact dz_zret (pc := 16) C hr (Or.inl rfl) dJ1_canEncode_9a6ad_16
  · refine dz_iload_n (pc := 4) C dJ1_canEncode_9a6ad_4 rfl 0 rfl ?_
    refine dz_sipush (pc := 5) (v := (255 : Int32)) C dJ1_canEncode_9a6ad_5 (by decide) ?_
    refine dz_icmp_gt (pc := 8) (t := 15) C dJ1_canEncode_9a6ad_8 (by decide) h (fun h => ?_) (fun h => ?_)
    · refine dz_iconst (pc := 15) (v := (0 : Int32)) C dJ1_canEncode_9a6ad_15 (by decide) ?_
      cases dt_some h
      exact dz_zret (pc := 16) C hr (Or.inl rfl) dJ1_canEncode_9a6ad_16
    · refine dz_iconst (pc := 11) (v := (1 : Int32)) C dJ1_canEncode_9a6ad_11 (by decide) ?_
      refine dz_goto (pc := 12) (t := 16) C dJ1_canEncode_9a6ad_12 (by decide) ?_
      cases dt_some h
      exact dz_zret (pc := 16) C hr (Or.inr rfl) dJ1_canEncode_9a6ad_16
