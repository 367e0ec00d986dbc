def dt_nar : List Cond := flatC (Jvm.Cond.and given_1 narrow_1)
def dt_tm (i : Nat) : Term := .string (dt_sl.getD i ("", 0, "")).1 (dt_sl.getD i ("", 0, "")).2.1
theorem nar_1 : ∀ i, i < 14 → Cond.exactly (dt_tm i) "java/lang/String" ∈ dt_nar := by decide +kernel
theorem nar_2 : ∀ i, i < 14 → Cond.eq (.field (dt_tm i) "java/lang/String" "coder" "B") (.int 0) ∈ dt_nar := by decide +kernel
theorem nar_3 : ∀ i, i < 14 → Cond.arrayOf (.field (dt_tm i) "java/lang/String" "value" "[B") .byte ∈ dt_nar := by decide +kernel
theorem nar_4 : ∀ i, i < 14 → Cond.eq (.length (.field (dt_tm i) "java/lang/String" "value" "[B")) (.int (Int32.ofNat (dt_sn.getD i 0))) ∈ dt_nar := by decide +kernel
theorem nar_5 : ∀ i, i < 14 → ∀ j, j < dt_sn.getD i 0 → Cond.eq (.elem (.field (dt_tm i) "java/lang/String" "value" "[B") (.int (Int32.ofNat j))) (.int ((dt_sb.getD i []).getD j 0)) ∈ dt_nar := by decide +kernel
theorem nar_6_0 : ∀ j, j < 14 → 0 ≠ j → Cond.not (Cond.eq (dt_tm 0) (dt_tm j)) ∈ dt_nar ∨ Cond.not (Cond.eq (dt_tm j) (dt_tm 0)) ∈ dt_nar := by decide +kernel
theorem nar_6_1 : ∀ j, j < 14 → 1 ≠ j → Cond.not (Cond.eq (dt_tm 1) (dt_tm j)) ∈ dt_nar ∨ Cond.not (Cond.eq (dt_tm j) (dt_tm 1)) ∈ dt_nar := by decide +kernel
theorem nar_6_2 : ∀ j, j < 14 → 2 ≠ j → Cond.not (Cond.eq (dt_tm 2) (dt_tm j)) ∈ dt_nar ∨ Cond.not (Cond.eq (dt_tm j) (dt_tm 2)) ∈ dt_nar := by decide +kernel
theorem nar_6_3 : ∀ j, j < 14 → 3 ≠ j → Cond.not (Cond.eq (dt_tm 3) (dt_tm j)) ∈ dt_nar ∨ Cond.not (Cond.eq (dt_tm j) (dt_tm 3)) ∈ dt_nar := by decide +kernel
theorem nar_6_4 : ∀ j, j < 14 → 4 ≠ j → Cond.not (Cond.eq (dt_tm 4) (dt_tm j)) ∈ dt_nar ∨ Cond.not (Cond.eq (dt_tm j) (dt_tm 4)) ∈ dt_nar := by decide +kernel
theorem nar_6_5 : ∀ j, j < 14 → 5 ≠ j → Cond.not (Cond.eq (dt_tm 5) (dt_tm j)) ∈ dt_nar ∨ Cond.not (Cond.eq (dt_tm j) (dt_tm 5)) ∈ dt_nar := by decide +kernel
theorem nar_6_6 : ∀ j, j < 14 → 6 ≠ j → Cond.not (Cond.eq (dt_tm 6) (dt_tm j)) ∈ dt_nar ∨ Cond.not (Cond.eq (dt_tm j) (dt_tm 6)) ∈ dt_nar := by decide +kernel
theorem nar_6_7 : ∀ j, j < 14 → 7 ≠ j → Cond.not (Cond.eq (dt_tm 7) (dt_tm j)) ∈ dt_nar ∨ Cond.not (Cond.eq (dt_tm j) (dt_tm 7)) ∈ dt_nar := by decide +kernel
theorem nar_6_8 : ∀ j, j < 14 → 8 ≠ j → Cond.not (Cond.eq (dt_tm 8) (dt_tm j)) ∈ dt_nar ∨ Cond.not (Cond.eq (dt_tm j) (dt_tm 8)) ∈ dt_nar := by decide +kernel
theorem nar_6_9 : ∀ j, j < 14 → 9 ≠ j → Cond.not (Cond.eq (dt_tm 9) (dt_tm j)) ∈ dt_nar ∨ Cond.not (Cond.eq (dt_tm j) (dt_tm 9)) ∈ dt_nar := by decide +kernel
theorem nar_6_10 : ∀ j, j < 14 → 10 ≠ j → Cond.not (Cond.eq (dt_tm 10) (dt_tm j)) ∈ dt_nar ∨ Cond.not (Cond.eq (dt_tm j) (dt_tm 10)) ∈ dt_nar := by decide +kernel
theorem nar_6_11 : ∀ j, j < 14 → 11 ≠ j → Cond.not (Cond.eq (dt_tm 11) (dt_tm j)) ∈ dt_nar ∨ Cond.not (Cond.eq (dt_tm j) (dt_tm 11)) ∈ dt_nar := by decide +kernel
theorem nar_6_12 : ∀ j, j < 14 → 12 ≠ j → Cond.not (Cond.eq (dt_tm 12) (dt_tm j)) ∈ dt_nar ∨ Cond.not (Cond.eq (dt_tm j) (dt_tm 12)) ∈ dt_nar := by decide +kernel
theorem nar_6_13 : ∀ j, j < 14 → 13 ≠ j → Cond.not (Cond.eq (dt_tm 13) (dt_tm j)) ∈ dt_nar ∨ Cond.not (Cond.eq (dt_tm j) (dt_tm 13)) ∈ dt_nar := by decide +kernel
theorem nar_6 (i : Nat) (hi : i < 14) (j : Nat) (hj : j < 14) (hne : i ≠ j) : Cond.not (Cond.eq (dt_tm i) (dt_tm j)) ∈ dt_nar ∨ Cond.not (Cond.eq (dt_tm j) (dt_tm i)) ∈ dt_nar := by
  rcases (show i = 0 ∨ i = 1 ∨ i = 2 ∨ i = 3 ∨ i = 4 ∨ i = 5 ∨ i = 6 ∨ i = 7 ∨ i = 8 ∨ i = 9 ∨ i = 10 ∨ i = 11 ∨ i = 12 ∨ i = 13 by omega) with rfl | rfl | rfl | rfl | rfl | rfl | rfl | rfl | rfl | rfl | rfl | rfl | rfl | rfl
  · exact nar_6_0 j hj hne
  · exact nar_6_1 j hj hne
  · exact nar_6_2 j hj hne
  · exact nar_6_3 j hj hne
  · exact nar_6_4 j hj hne
  · exact nar_6_5 j hj hne
  · exact nar_6_6 j hj hne
  · exact nar_6_7 j hj hne
  · exact nar_6_8 j hj hne
  · exact nar_6_9 j hj hne
  · exact nar_6_10 j hj hne
  · exact nar_6_11 j hj hne
  · exact nar_6_12 j hj hne
  · exact nar_6_13 j hj hne
theorem nar_7 : Cond.eq (.static "java/lang/String" "COMPACT_STRINGS" "Z") (.int 1) ∈ dt_nar := by decide +kernel
theorem nar_8 : Cond.isRef (.static "jdk/internal/util/Preconditions" "SIOOBE_FORMATTER" "Ljava/util/function/BiFunction;") ∈ dt_nar := by decide +kernel
theorem tbl_s1 : Cond.laysStatic "java/lang/String" "COMPACT_STRINGS" "Z" ∈ lw_tbl ∧ Cond.initialized "java/lang/String" ∈ lw_tbl := ⟨by decide +kernel, by decide +kernel⟩
theorem tbl_s2 : Cond.laysStatic "jdk/internal/util/Preconditions" "SIOOBE_FORMATTER" "Ljava/util/function/BiFunction;" ∈ lw_tbl ∧ Cond.initialized "jdk/internal/util/Preconditions" ∈ lw_tbl := ⟨by decide +kernel, by decide +kernel⟩
theorem tbl_str : ∀ i, i < 14 → Cond.stringRef (dt_sl.getD i ("", 0, "")).1 (dt_sl.getD i ("", 0, "")).2.1 (dt_sl.getD i ("", 0, "")).2.2 ∈ lw_tbl := by decide +kernel
theorem tbl_nest : ∀ q, q ∈ dt_nl → Cond.methodLinkNest q.1 q.2.1 q.2.2 "DuskTower" ∈ lw_tbl := by decide +kernel
theorem tbl_cost : Cond.methodLinkNest "DuskTower$Planner" 65 yX9_costOf "DuskTower" ∈ lw_tbl := by decide +kernel
theorem tbl_over : Cond.arrayOver (.array .int) ∈ lw_tbl := by decide +kernel
