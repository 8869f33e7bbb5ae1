theorem d_EL_isCell_0 : decode zb_EL_isCell 0 = .ok (.iload_n 0, 1) := by decide +kernel
theorem d_EL_isCell_1 : decode zb_EL_isCell 1 = .ok (.ifCond .lt 13, 3) := by decide +kernel
theorem d_EL_isCell_4 : decode zb_EL_isCell 4 = .ok (.iload_n 0, 1) := by decide +kernel
theorem d_EL_isCell_5 : decode zb_EL_isCell 5 = .ok (.bipush 100, 2) := by decide +kernel
theorem d_EL_isCell_7 : decode zb_EL_isCell 7 = .ok (.if_icmp .ge 7, 3) := by decide +kernel
theorem d_EL_isCell_10 : decode zb_EL_isCell 10 = .ok (.iconst 1, 1) := by decide +kernel
theorem d_EL_isCell_11 : decode zb_EL_isCell 11 = .ok (.goto 4, 3) := by decide +kernel
theorem d_EL_isCell_14 : decode zb_EL_isCell 14 = .ok (.iconst 0, 1) := by decide +kernel
theorem d_EL_isCell_15 : decode zb_EL_isCell 15 = .ok (.ireturn, 1) := by decide +kernel
def k_EL_isCell (l0 : Int32) : Option (Int32) := (if l0 < 0 then some ((0 : Int32)) else (if l0 < (100 : Int32) then some ((1 : Int32)) else some ((0 : Int32))))
set_option maxRecDepth 20000 in
theorem c_EL_isCell (c : zY) (l0 : Int32) {out : Int32} (h : k_EL_isCell l0 = some out) : KM zy_EL_isCell zb_EL_isCell 1 (some .boolean) 0 c [.int l0] [] [] (some (.int out)) := zK_of zp_EL rfl (Nat.le_of_ble_eq_true rfl) rfl (fun X hX hR => by
  show Go X [] [(0, .int l0)] 0 []
  rw [k_EL_isCell] at h
  refine g_iload_n (pc := 0) hX d_EL_isCell_0 rfl 0 rfl ?_
  refine g_if_lt (pc := 1) (tgt := 14) hX d_EL_isCell_1 (by decide) h (fun c1 h => ?_) (fun c1 h => ?_)
  · refine g_iconst (pc := 14) hX d_EL_isCell_14 zc_0 ?_
    obtain rfl := Option.some.inj h
    exact g_zret (pc := 15) hX hR (Or.inl rfl) d_EL_isCell_15
  · refine g_iload_n (pc := 4) hX d_EL_isCell_4 rfl 0 rfl ?_
    refine g_bipush (pc := 5) hX d_EL_isCell_5 ze_100 ?_
    refine g_icmp_ge (pc := 7) (tgt := 14) hX d_EL_isCell_7 (by decide) h (fun c2 h => ?_) (fun c2 h => ?_)
    · refine g_iconst (pc := 14) hX d_EL_isCell_14 zc_0 ?_
      obtain rfl := Option.some.inj h
      exact g_zret (pc := 15) hX hR (Or.inl rfl) d_EL_isCell_15
    · refine g_iconst (pc := 10) hX d_EL_isCell_10 zc_1 ?_
      refine g_goto (pc := 11) (tgt := 15) hX d_EL_isCell_11 (by decide) ?_
      obtain rfl := Option.some.inj h
      exact g_zret (pc := 15) hX hR (Or.inr rfl) d_EL_isCell_15)
theorem d_EL_isDirection_0 : decode zb_EL_isDirection 0 = .ok (.iload_n 0, 1) := by decide +kernel
theorem d_EL_isDirection_1 : decode zb_EL_isDirection 1 = .ok (.ifCond .lt 12, 3) := by decide +kernel
theorem d_EL_isDirection_4 : decode zb_EL_isDirection 4 = .ok (.iload_n 0, 1) := by decide +kernel
theorem d_EL_isDirection_5 : decode zb_EL_isDirection 5 = .ok (.iconst 4, 1) := by decide +kernel
theorem d_EL_isDirection_6 : decode zb_EL_isDirection 6 = .ok (.if_icmp .ge 7, 3) := by decide +kernel
theorem d_EL_isDirection_9 : decode zb_EL_isDirection 9 = .ok (.iconst 1, 1) := by decide +kernel
theorem d_EL_isDirection_10 : decode zb_EL_isDirection 10 = .ok (.goto 4, 3) := by decide +kernel
theorem d_EL_isDirection_13 : decode zb_EL_isDirection 13 = .ok (.iconst 0, 1) := by decide +kernel
theorem d_EL_isDirection_14 : decode zb_EL_isDirection 14 = .ok (.ireturn, 1) := by decide +kernel
def k_EL_isDirection (l0 : Int32) : Option (Int32) := (if l0 < 0 then some ((0 : Int32)) else (if l0 < (4 : Int32) then some ((1 : Int32)) else some ((0 : Int32))))
set_option maxRecDepth 20000 in
theorem c_EL_isDirection (c : zY) (l0 : Int32) {out : Int32} (h : k_EL_isDirection l0 = some out) : KM zy_EL_isDirection zb_EL_isDirection 1 (some .boolean) 0 c [.int l0] [] [] (some (.int out)) := zK_of zp_EL rfl (Nat.le_of_ble_eq_true rfl) rfl (fun X hX hR => by
  show Go X [] [(0, .int l0)] 0 []
  rw [k_EL_isDirection] at h
  refine g_iload_n (pc := 0) hX d_EL_isDirection_0 rfl 0 rfl ?_
  refine g_if_lt (pc := 1) (tgt := 13) hX d_EL_isDirection_1 (by decide) h (fun c1 h => ?_) (fun c1 h => ?_)
  · refine g_iconst (pc := 13) hX d_EL_isDirection_13 zc_0 ?_
    obtain rfl := Option.some.inj h
    exact g_zret (pc := 14) hX hR (Or.inl rfl) d_EL_isDirection_14
  · refine g_iload_n (pc := 4) hX d_EL_isDirection_4 rfl 0 rfl ?_
    refine g_iconst (pc := 5) hX d_EL_isDirection_5 zc_4 ?_
    refine g_icmp_ge (pc := 6) (tgt := 13) hX d_EL_isDirection_6 (by decide) h (fun c2 h => ?_) (fun c2 h => ?_)
    · refine g_iconst (pc := 13) hX d_EL_isDirection_13 zc_0 ?_
      obtain rfl := Option.some.inj h
      exact g_zret (pc := 14) hX hR (Or.inl rfl) d_EL_isDirection_14
    · refine g_iconst (pc := 9) hX d_EL_isDirection_9 zc_1 ?_
      refine g_goto (pc := 10) (tgt := 14) hX d_EL_isDirection_10 (by decide) ?_
      obtain rfl := Option.some.inj h
      exact g_zret (pc := 14) hX hR (Or.inr rfl) d_EL_isDirection_14)
theorem d_EL_isByte_0 : decode zb_EL_isByte 0 = .ok (.iload_n 0, 1) := by decide +kernel
theorem d_EL_isByte_1 : decode zb_EL_isByte 1 = .ok (.ifCond .lt 13, 3) := by decide +kernel
theorem d_EL_isByte_4 : decode zb_EL_isByte 4 = .ok (.iload_n 0, 1) := by decide +kernel
theorem d_EL_isByte_5 : decode zb_EL_isByte 5 = .ok (.bipush 127, 2) := by decide +kernel
theorem d_EL_isByte_7 : decode zb_EL_isByte 7 = .ok (.if_icmp .gt 7, 3) := by decide +kernel
theorem d_EL_isByte_10 : decode zb_EL_isByte 10 = .ok (.iconst 1, 1) := by decide +kernel
theorem d_EL_isByte_11 : decode zb_EL_isByte 11 = .ok (.goto 4, 3) := by decide +kernel
theorem d_EL_isByte_14 : decode zb_EL_isByte 14 = .ok (.iconst 0, 1) := by decide +kernel
theorem d_EL_isByte_15 : decode zb_EL_isByte 15 = .ok (.ireturn, 1) := by decide +kernel
def k_EL_isByte (l0 : Int32) : Option (Int32) := (if l0 < 0 then some ((0 : Int32)) else (if (127 : Int32) < l0 then some ((0 : Int32)) else some ((1 : Int32))))
set_option maxRecDepth 20000 in
theorem c_EL_isByte (c : zY) (l0 : Int32) {out : Int32} (h : k_EL_isByte l0 = some out) : KM zy_EL_isByte zb_EL_isByte 1 (some .boolean) 0 c [.int l0] [] [] (some (.int out)) := zK_of zp_EL rfl (Nat.le_of_ble_eq_true rfl) rfl (fun X hX hR => by
  show Go X [] [(0, .int l0)] 0 []
  rw [k_EL_isByte] at h
  refine g_iload_n (pc := 0) hX d_EL_isByte_0 rfl 0 rfl ?_
  refine g_if_lt (pc := 1) (tgt := 14) hX d_EL_isByte_1 (by decide) h (fun c1 h => ?_) (fun c1 h => ?_)
  · refine g_iconst (pc := 14) hX d_EL_isByte_14 zc_0 ?_
    obtain rfl := Option.some.inj h
    exact g_zret (pc := 15) hX hR (Or.inl rfl) d_EL_isByte_15
  · refine g_iload_n (pc := 4) hX d_EL_isByte_4 rfl 0 rfl ?_
    refine g_bipush (pc := 5) hX d_EL_isByte_5 ze_127 ?_
    refine g_icmp_gt (pc := 7) (tgt := 14) hX d_EL_isByte_7 (by decide) h (fun c2 h => ?_) (fun c2 h => ?_)
    · refine g_iconst (pc := 14) hX d_EL_isByte_14 zc_0 ?_
      obtain rfl := Option.some.inj h
      exact g_zret (pc := 15) hX hR (Or.inl rfl) d_EL_isByte_15
    · refine g_iconst (pc := 10) hX d_EL_isByte_10 zc_1 ?_
      refine g_goto (pc := 11) (tgt := 15) hX d_EL_isByte_11 (by decide) ?_
      obtain rfl := Option.some.inj h
      exact g_zret (pc := 15) hX hR (Or.inr rfl) d_EL_isByte_15)
theorem d_EL_columnStep_0 : decode zb_EL_columnStep 0 = .ok (.iload_n 0, 1) := by decide +kernel
theorem d_EL_columnStep_1 : decode zb_EL_columnStep 1 = .ok (.ifCond .ne 7, 3) := by decide +kernel
theorem d_EL_columnStep_4 : decode zb_EL_columnStep 4 = .ok (.iconst 1, 1) := by decide +kernel
theorem d_EL_columnStep_5 : decode zb_EL_columnStep 5 = .ok (.goto 13, 3) := by decide +kernel
theorem d_EL_columnStep_8 : decode zb_EL_columnStep 8 = .ok (.iload_n 0, 1) := by decide +kernel
theorem d_EL_columnStep_9 : decode zb_EL_columnStep 9 = .ok (.iconst 2, 1) := by decide +kernel
theorem d_EL_columnStep_10 : decode zb_EL_columnStep 10 = .ok (.if_icmp .ne 7, 3) := by decide +kernel
theorem d_EL_columnStep_13 : decode zb_EL_columnStep 13 = .ok (.iconst (-1), 1) := by decide +kernel
theorem d_EL_columnStep_14 : decode zb_EL_columnStep 14 = .ok (.goto 4, 3) := by decide +kernel
theorem d_EL_columnStep_17 : decode zb_EL_columnStep 17 = .ok (.iconst 0, 1) := by decide +kernel
theorem d_EL_columnStep_18 : decode zb_EL_columnStep 18 = .ok (.ireturn, 1) := by decide +kernel
def k_EL_columnStep (l0 : Int32) : Option (Int32) := (if l0 = 0 then some ((1 : Int32)) else (if l0 = (2 : Int32) then some ((-1 : Int32)) else some ((0 : Int32))))
set_option maxRecDepth 20000 in
theorem c_EL_columnStep (c : zY) (l0 : Int32) {out : Int32} (h : k_EL_columnStep l0 = some out) : KM zy_EL_columnStep zb_EL_columnStep 1 (some .int) 0 c [.int l0] [] [] (some (.int out)) := zK_of zp_EL rfl (Nat.le_of_ble_eq_true rfl) rfl (fun X hX hR => by
  show Go X [] [(0, .int l0)] 0 []
  rw [k_EL_columnStep] at h
  refine g_iload_n (pc := 0) hX d_EL_columnStep_0 rfl 0 rfl ?_
  refine g_if_ne (pc := 1) (tgt := 8) hX d_EL_columnStep_1 (by decide) h (fun c1 h => ?_) (fun c1 h => ?_)
  · refine g_iload_n (pc := 8) hX d_EL_columnStep_8 rfl 0 rfl ?_
    refine g_iconst (pc := 9) hX d_EL_columnStep_9 zc_2 ?_
    refine g_icmp_ne (pc := 10) (tgt := 17) hX d_EL_columnStep_10 (by decide) h (fun c2 h => ?_) (fun c2 h => ?_)
    · refine g_iconst (pc := 17) hX d_EL_columnStep_17 zc_0 ?_
      obtain rfl := Option.some.inj h
      exact g_iret (pc := 18) hX hR d_EL_columnStep_18
    · refine g_iconst (pc := 13) hX d_EL_columnStep_13 zc_m1 ?_
      refine g_goto (pc := 14) (tgt := 18) hX d_EL_columnStep_14 (by decide) ?_
      obtain rfl := Option.some.inj h
      exact g_iret (pc := 18) hX hR d_EL_columnStep_18
  · refine g_iconst (pc := 4) hX d_EL_columnStep_4 zc_1 ?_
    refine g_goto (pc := 5) (tgt := 18) hX d_EL_columnStep_5 (by decide) ?_
    obtain rfl := Option.some.inj h
    exact g_iret (pc := 18) hX hR d_EL_columnStep_18)
theorem d_EL_rowStep_0 : decode zb_EL_rowStep 0 = .ok (.iload_n 0, 1) := by decide +kernel
theorem d_EL_rowStep_1 : decode zb_EL_rowStep 1 = .ok (.iconst 1, 1) := by decide +kernel
theorem d_EL_rowStep_2 : decode zb_EL_rowStep 2 = .ok (.if_icmp .ne 7, 3) := by decide +kernel
theorem d_EL_rowStep_5 : decode zb_EL_rowStep 5 = .ok (.iconst 1, 1) := by decide +kernel
theorem d_EL_rowStep_6 : decode zb_EL_rowStep 6 = .ok (.goto 13, 3) := by decide +kernel
theorem d_EL_rowStep_9 : decode zb_EL_rowStep 9 = .ok (.iload_n 0, 1) := by decide +kernel
theorem d_EL_rowStep_10 : decode zb_EL_rowStep 10 = .ok (.iconst 3, 1) := by decide +kernel
theorem d_EL_rowStep_11 : decode zb_EL_rowStep 11 = .ok (.if_icmp .ne 7, 3) := by decide +kernel
theorem d_EL_rowStep_14 : decode zb_EL_rowStep 14 = .ok (.iconst (-1), 1) := by decide +kernel
theorem d_EL_rowStep_15 : decode zb_EL_rowStep 15 = .ok (.goto 4, 3) := by decide +kernel
theorem d_EL_rowStep_18 : decode zb_EL_rowStep 18 = .ok (.iconst 0, 1) := by decide +kernel
theorem d_EL_rowStep_19 : decode zb_EL_rowStep 19 = .ok (.ireturn, 1) := by decide +kernel
def k_EL_rowStep (l0 : Int32) : Option (Int32) := (if l0 = (1 : Int32) then some ((1 : Int32)) else (if l0 = (3 : Int32) then some ((-1 : Int32)) else some ((0 : Int32))))
set_option maxRecDepth 20000 in
theorem c_EL_rowStep (c : zY) (l0 : Int32) {out : Int32} (h : k_EL_rowStep l0 = some out) : KM zy_EL_rowStep zb_EL_rowStep 1 (some .int) 0 c [.int l0] [] [] (some (.int out)) := zK_of zp_EL rfl (Nat.le_of_ble_eq_true rfl) rfl (fun X hX hR => by
  show Go X [] [(0, .int l0)] 0 []
  rw [k_EL_rowStep] at h
  refine g_iload_n (pc := 0) hX d_EL_rowStep_0 rfl 0 rfl ?_
  refine g_iconst (pc := 1) hX d_EL_rowStep_1 zc_1 ?_
  refine g_icmp_ne (pc := 2) (tgt := 9) hX d_EL_rowStep_2 (by decide) h (fun c1 h => ?_) (fun c1 h => ?_)
  · refine g_iload_n (pc := 9) hX d_EL_rowStep_9 rfl 0 rfl ?_
    refine g_iconst (pc := 10) hX d_EL_rowStep_10 zc_3 ?_
    refine g_icmp_ne (pc := 11) (tgt := 18) hX d_EL_rowStep_11 (by decide) h (fun c2 h => ?_) (fun c2 h => ?_)
    · refine g_iconst (pc := 18) hX d_EL_rowStep_18 zc_0 ?_
      obtain rfl := Option.some.inj h
      exact g_iret (pc := 19) hX hR d_EL_rowStep_19
    · refine g_iconst (pc := 14) hX d_EL_rowStep_14 zc_m1 ?_
      refine g_goto (pc := 15) (tgt := 19) hX d_EL_rowStep_15 (by decide) ?_
      obtain rfl := Option.some.inj h
      exact g_iret (pc := 19) hX hR d_EL_rowStep_19
  · refine g_iconst (pc := 5) hX d_EL_rowStep_5 zc_1 ?_
    refine g_goto (pc := 6) (tgt := 19) hX d_EL_rowStep_6 (by decide) ?_
    obtain rfl := Option.some.inj h
    exact g_iret (pc := 19) hX hR d_EL_rowStep_19)
theorem d_EL_isInArea_0 : decode zb_EL_isInArea 0 = .ok (.iload 4, 2) := by decide +kernel
theorem d_EL_isInArea_2 : decode zb_EL_isInArea 2 = .ok (.bipush 10, 2) := by decide +kernel
theorem d_EL_isInArea_4 : decode zb_EL_isInArea 4 = .ok (.irem, 1) := by decide +kernel
theorem d_EL_isInArea_5 : decode zb_EL_isInArea 5 = .ok (.iload_n 1, 1) := by decide +kernel
theorem d_EL_isInArea_6 : decode zb_EL_isInArea 6 = .ok (.bipush 10, 2) := by decide +kernel
theorem d_EL_isInArea_8 : decode zb_EL_isInArea 8 = .ok (.irem, 1) := by decide +kernel
theorem d_EL_isInArea_9 : decode zb_EL_isInArea 9 = .ok (.isub, 1) := by decide +kernel
theorem d_EL_isInArea_10 : decode zb_EL_isInArea 10 = .ok (.istore 5, 2) := by decide +kernel
theorem d_EL_isInArea_12 : decode zb_EL_isInArea 12 = .ok (.iload 4, 2) := by decide +kernel
theorem d_EL_isInArea_14 : decode zb_EL_isInArea 14 = .ok (.bipush 10, 2) := by decide +kernel
theorem d_EL_isInArea_16 : decode zb_EL_isInArea 16 = .ok (.idiv, 1) := by decide +kernel
theorem d_EL_isInArea_17 : decode zb_EL_isInArea 17 = .ok (.iload_n 1, 1) := by decide +kernel
theorem d_EL_isInArea_18 : decode zb_EL_isInArea 18 = .ok (.bipush 10, 2) := by decide +kernel
theorem d_EL_isInArea_20 : decode zb_EL_isInArea 20 = .ok (.idiv, 1) := by decide +kernel
theorem d_EL_isInArea_21 : decode zb_EL_isInArea 21 = .ok (.isub, 1) := by decide +kernel
theorem d_EL_isInArea_22 : decode zb_EL_isInArea 22 = .ok (.istore 6, 2) := by decide +kernel
theorem d_EL_isInArea_24 : decode zb_EL_isInArea 24 = .ok (.iload 5, 2) := by decide +kernel
theorem d_EL_isInArea_26 : decode zb_EL_isInArea 26 = .ok (.iload_n 2, 1) := by decide +kernel
theorem d_EL_isInArea_27 : decode zb_EL_isInArea 27 = .ok (.invokestatic 351, 3) := by decide +kernel
theorem d_EL_isInArea_30 : decode zb_EL_isInArea 30 = .ok (.imul, 1) := by decide +kernel
theorem d_EL_isInArea_31 : decode zb_EL_isInArea 31 = .ok (.iload 6, 2) := by decide +kernel
theorem d_EL_isInArea_33 : decode zb_EL_isInArea 33 = .ok (.iload_n 2, 1) := by decide +kernel
theorem d_EL_isInArea_34 : decode zb_EL_isInArea 34 = .ok (.invokestatic 354, 3) := by decide +kernel
theorem d_EL_isInArea_37 : decode zb_EL_isInArea 37 = .ok (.imul, 1) := by decide +kernel
theorem d_EL_isInArea_38 : decode zb_EL_isInArea 38 = .ok (.iadd, 1) := by decide +kernel
theorem d_EL_isInArea_39 : decode zb_EL_isInArea 39 = .ok (.istore 7, 2) := by decide +kernel
theorem d_EL_isInArea_41 : decode zb_EL_isInArea 41 = .ok (.iload 5, 2) := by decide +kernel
theorem d_EL_isInArea_43 : decode zb_EL_isInArea 43 = .ok (.iload_n 2, 1) := by decide +kernel
theorem d_EL_isInArea_44 : decode zb_EL_isInArea 44 = .ok (.invokestatic 354, 3) := by decide +kernel
theorem d_EL_isInArea_47 : decode zb_EL_isInArea 47 = .ok (.imul, 1) := by decide +kernel
theorem d_EL_isInArea_48 : decode zb_EL_isInArea 48 = .ok (.iload 6, 2) := by decide +kernel
theorem d_EL_isInArea_50 : decode zb_EL_isInArea 50 = .ok (.iload_n 2, 1) := by decide +kernel
theorem d_EL_isInArea_51 : decode zb_EL_isInArea 51 = .ok (.invokestatic 351, 3) := by decide +kernel
theorem d_EL_isInArea_54 : decode zb_EL_isInArea 54 = .ok (.imul, 1) := by decide +kernel
theorem d_EL_isInArea_55 : decode zb_EL_isInArea 55 = .ok (.iadd, 1) := by decide +kernel
theorem d_EL_isInArea_56 : decode zb_EL_isInArea 56 = .ok (.invokestatic 357, 3) := by decide +kernel
theorem d_EL_isInArea_59 : decode zb_EL_isInArea 59 = .ok (.istore 8, 2) := by decide +kernel
theorem d_EL_isInArea_61 : decode zb_EL_isInArea 61 = .ok (.iload_n 0, 1) := by decide +kernel
theorem d_EL_isInArea_62 : decode zb_EL_isInArea 62 = .ok (.tableswitch 124 0 3 #[30, 53, 74, 101], 30) := by decide +kernel
theorem d_EL_isInArea_92 : decode zb_EL_isInArea 92 = .ok (.iload 5, 2) := by decide +kernel
theorem d_EL_isInArea_94 : decode zb_EL_isInArea 94 = .ok (.invokestatic 357, 3) := by decide +kernel
theorem d_EL_isInArea_97 : decode zb_EL_isInArea 97 = .ok (.iload 6, 2) := by decide +kernel
theorem d_EL_isInArea_99 : decode zb_EL_isInArea 99 = .ok (.invokestatic 357, 3) := by decide +kernel
theorem d_EL_isInArea_102 : decode zb_EL_isInArea 102 = .ok (.invokestatic 329, 3) := by decide +kernel
theorem d_EL_isInArea_105 : decode zb_EL_isInArea 105 = .ok (.iload_n 3, 1) := by decide +kernel
theorem d_EL_isInArea_106 : decode zb_EL_isInArea 106 = .ok (.if_icmp .gt 7, 3) := by decide +kernel
theorem d_EL_isInArea_109 : decode zb_EL_isInArea 109 = .ok (.iconst 1, 1) := by decide +kernel
theorem d_EL_isInArea_110 : decode zb_EL_isInArea 110 = .ok (.goto 4, 3) := by decide +kernel
theorem d_EL_isInArea_113 : decode zb_EL_isInArea 113 = .ok (.iconst 0, 1) := by decide +kernel
theorem d_EL_isInArea_114 : decode zb_EL_isInArea 114 = .ok (.ireturn, 1) := by decide +kernel
theorem d_EL_isInArea_115 : decode zb_EL_isInArea 115 = .ok (.iload 5, 2) := by decide +kernel
theorem d_EL_isInArea_117 : decode zb_EL_isInArea 117 = .ok (.invokestatic 357, 3) := by decide +kernel
theorem d_EL_isInArea_120 : decode zb_EL_isInArea 120 = .ok (.iload 6, 2) := by decide +kernel
theorem d_EL_isInArea_122 : decode zb_EL_isInArea 122 = .ok (.invokestatic 357, 3) := by decide +kernel
theorem d_EL_isInArea_125 : decode zb_EL_isInArea 125 = .ok (.iadd, 1) := by decide +kernel
theorem d_EL_isInArea_126 : decode zb_EL_isInArea 126 = .ok (.iload_n 3, 1) := by decide +kernel
theorem d_EL_isInArea_127 : decode zb_EL_isInArea 127 = .ok (.if_icmp .gt 7, 3) := by decide +kernel
theorem d_EL_isInArea_130 : decode zb_EL_isInArea 130 = .ok (.iconst 1, 1) := by decide +kernel
theorem d_EL_isInArea_131 : decode zb_EL_isInArea 131 = .ok (.goto 4, 3) := by decide +kernel
theorem d_EL_isInArea_134 : decode zb_EL_isInArea 134 = .ok (.iconst 0, 1) := by decide +kernel
theorem d_EL_isInArea_135 : decode zb_EL_isInArea 135 = .ok (.ireturn, 1) := by decide +kernel
theorem d_EL_isInArea_136 : decode zb_EL_isInArea 136 = .ok (.iload 7, 2) := by decide +kernel
theorem d_EL_isInArea_138 : decode zb_EL_isInArea 138 = .ok (.iconst 1, 1) := by decide +kernel
theorem d_EL_isInArea_139 : decode zb_EL_isInArea 139 = .ok (.if_icmp .lt 22, 3) := by decide +kernel
theorem d_EL_isInArea_142 : decode zb_EL_isInArea 142 = .ok (.iload 7, 2) := by decide +kernel
theorem d_EL_isInArea_144 : decode zb_EL_isInArea 144 = .ok (.iload_n 3, 1) := by decide +kernel
theorem d_EL_isInArea_145 : decode zb_EL_isInArea 145 = .ok (.if_icmp .gt 16, 3) := by decide +kernel
theorem d_EL_isInArea_148 : decode zb_EL_isInArea 148 = .ok (.iload 8, 2) := by decide +kernel
theorem d_EL_isInArea_150 : decode zb_EL_isInArea 150 = .ok (.iload 7, 2) := by decide +kernel
theorem d_EL_isInArea_152 : decode zb_EL_isInArea 152 = .ok (.iconst 2, 1) := by decide +kernel
theorem d_EL_isInArea_153 : decode zb_EL_isInArea 153 = .ok (.idiv, 1) := by decide +kernel
theorem d_EL_isInArea_154 : decode zb_EL_isInArea 154 = .ok (.if_icmp .gt 7, 3) := by decide +kernel
theorem d_EL_isInArea_157 : decode zb_EL_isInArea 157 = .ok (.iconst 1, 1) := by decide +kernel
theorem d_EL_isInArea_158 : decode zb_EL_isInArea 158 = .ok (.goto 4, 3) := by decide +kernel
theorem d_EL_isInArea_161 : decode zb_EL_isInArea 161 = .ok (.iconst 0, 1) := by decide +kernel
theorem d_EL_isInArea_162 : decode zb_EL_isInArea 162 = .ok (.ireturn, 1) := by decide +kernel
theorem d_EL_isInArea_163 : decode zb_EL_isInArea 163 = .ok (.iload 7, 2) := by decide +kernel
theorem d_EL_isInArea_165 : decode zb_EL_isInArea 165 = .ok (.iconst 1, 1) := by decide +kernel
theorem d_EL_isInArea_166 : decode zb_EL_isInArea 166 = .ok (.if_icmp .lt 18, 3) := by decide +kernel
theorem d_EL_isInArea_169 : decode zb_EL_isInArea 169 = .ok (.iload 7, 2) := by decide +kernel
theorem d_EL_isInArea_171 : decode zb_EL_isInArea 171 = .ok (.iload_n 3, 1) := by decide +kernel
theorem d_EL_isInArea_172 : decode zb_EL_isInArea 172 = .ok (.if_icmp .gt 12, 3) := by decide +kernel
theorem d_EL_isInArea_175 : decode zb_EL_isInArea 175 = .ok (.iload 8, 2) := by decide +kernel
theorem d_EL_isInArea_177 : decode zb_EL_isInArea 177 = .ok (.ifCond .ne 7, 3) := by decide +kernel
theorem d_EL_isInArea_180 : decode zb_EL_isInArea 180 = .ok (.iconst 1, 1) := by decide +kernel
theorem d_EL_isInArea_181 : decode zb_EL_isInArea 181 = .ok (.goto 4, 3) := by decide +kernel
theorem d_EL_isInArea_184 : decode zb_EL_isInArea 184 = .ok (.iconst 0, 1) := by decide +kernel
theorem d_EL_isInArea_185 : decode zb_EL_isInArea 185 = .ok (.ireturn, 1) := by decide +kernel
theorem d_EL_isInArea_186 : decode zb_EL_isInArea 186 = .ok (.iconst 0, 1) := by decide +kernel
theorem d_EL_isInArea_187 : decode zb_EL_isInArea 187 = .ok (.ireturn, 1) := by decide +kernel
def k_EL_isInArea (l0 : Int32) (l1 : Int32) (l2 : Int32) (l3 : Int32) (l4 : Int32) : Option (Int32) := (k_EL_columnStep l2).bind fun o1 => (k_EL_rowStep l2).bind fun o2 => (k_EL_rowStep l2).bind fun o3 => (k_EL_columnStep l2).bind fun o4 => (if l0 = (0 : Int32) then (if l3 < (zmax ((zabs (((zrem l4 (10 : Int32)) - (zrem l1 (10 : Int32)))))) ((zabs (((l4 / (10 : Int32)) - (l1 / (10 : Int32))))))) then some ((0 : Int32)) else some ((1 : Int32))) else (if l0 = (1 : Int32) then (if l3 < ((zabs (((zrem l4 (10 : Int32)) - (zrem l1 (10 : Int32))))) + (zabs (((l4 / (10 : Int32)) - (l1 / (10 : Int32)))))) then some ((0 : Int32)) else some ((1 : Int32))) else (if l0 = (2 : Int32) then (if ((((zrem l4 (10 : Int32)) - (zrem l1 (10 : Int32))) * o1) + (((l4 / (10 : Int32)) - (l1 / (10 : Int32))) * o2)) < (1 : Int32) then some ((0 : Int32)) else (if l3 < ((((zrem l4 (10 : Int32)) - (zrem l1 (10 : Int32))) * o1) + (((l4 / (10 : Int32)) - (l1 / (10 : Int32))) * o2)) then some ((0 : Int32)) else (if (((((zrem l4 (10 : Int32)) - (zrem l1 (10 : Int32))) * o1) + (((l4 / (10 : Int32)) - (l1 / (10 : Int32))) * o2)) / (2 : Int32)) < (zabs (((((zrem l4 (10 : Int32)) - (zrem l1 (10 : Int32))) * o3) + (((l4 / (10 : Int32)) - (l1 / (10 : Int32))) * o4)))) then some ((0 : Int32)) else some ((1 : Int32))))) else (if l0 = (3 : Int32) then (if ((((zrem l4 (10 : Int32)) - (zrem l1 (10 : Int32))) * o1) + (((l4 / (10 : Int32)) - (l1 / (10 : Int32))) * o2)) < (1 : Int32) then some ((0 : Int32)) else (if l3 < ((((zrem l4 (10 : Int32)) - (zrem l1 (10 : Int32))) * o1) + (((l4 / (10 : Int32)) - (l1 / (10 : Int32))) * o2)) then some ((0 : Int32)) else (if (zabs (((((zrem l4 (10 : Int32)) - (zrem l1 (10 : Int32))) * o3) + (((l4 / (10 : Int32)) - (l1 / (10 : Int32))) * o4)))) = 0 then some ((1 : Int32)) else some ((0 : Int32))))) else some ((0 : Int32))))))
set_option maxRecDepth 20000 in
theorem c_EL_isInArea (c : zY) (l0 : Int32) (l1 : Int32) (l2 : Int32) (l3 : Int32) (l4 : Int32) {out : Int32} (h : k_EL_isInArea l0 l1 l2 l3 l4 = some out) : KM zy_EL_isInArea zb_EL_isInArea 9 (some .boolean) 1 c [.int l0, .int l1, .int l2, .int l3, .int l4] [] [] (some (.int out)) := zK_of zp_EL rfl (Nat.le_of_ble_eq_true rfl) rfl (fun X hX hR => by
  show Go X [] [(0, .int l0), (1, .int l1), (2, .int l2), (3, .int l3), (4, .int l4)] 0 []
  rw [k_EL_isInArea] at h
  refine g_iload (pc := 0) hX d_EL_isInArea_0 4 rfl ?_
  refine g_bipush (pc := 2) hX d_EL_isInArea_2 ze_10 ?_
  refine g_irem (pc := 4) hX d_EL_isInArea_4 (by decide) ?_
  refine g_iload_n (pc := 5) hX d_EL_isInArea_5 rfl 1 rfl ?_
  refine g_bipush (pc := 6) hX d_EL_isInArea_6 ze_10 ?_
  refine g_irem (pc := 8) hX d_EL_isInArea_8 (by decide) ?_
  refine g_isub (pc := 9) hX d_EL_isInArea_9 ?_
  refine g_istore (pc := 10) (L' := [(5, .int (((zrem l4 (10 : Int32)) - (zrem l1 (10 : Int32))))), (0, .int l0), (1, .int l1), (2, .int l2), (3, .int l3), (4, .int l4)]) hX d_EL_isInArea_10 rfl rfl ?_
  refine g_iload (pc := 12) hX d_EL_isInArea_12 5 rfl ?_
  refine g_bipush (pc := 14) hX d_EL_isInArea_14 ze_10 ?_
  refine g_idiv (pc := 16) hX d_EL_isInArea_16 (by decide) ?_
  refine g_iload_n (pc := 17) hX d_EL_isInArea_17 rfl 2 rfl ?_
  refine g_bipush (pc := 18) hX d_EL_isInArea_18 ze_10 ?_
  refine g_idiv (pc := 20) hX d_EL_isInArea_20 (by decide) ?_
  refine g_isub (pc := 21) hX d_EL_isInArea_21 ?_
  refine g_istore (pc := 22) (L' := [(6, .int (((l4 / (10 : Int32)) - (l1 / (10 : Int32))))), (5, .int (((zrem l4 (10 : Int32)) - (zrem l1 (10 : Int32))))), (0, .int l0), (1, .int l1), (2, .int l2), (3, .int l3), (4, .int l4)]) hX d_EL_isInArea_22 rfl rfl ?_
  refine g_iload (pc := 24) hX d_EL_isInArea_24 1 rfl ?_
  refine g_iload_n (pc := 26) hX d_EL_isInArea_26 rfl 4 rfl ?_
  obtain ⟨o1, e1, h⟩ := zbind h
  refine g_csI (pc := 27) (st := [.int (((zrem l4 (10 : Int32)) - (zrem l1 (10 : Int32))))]) hX zk_EL_columnStep zL_EL_351 (c_EL_columnStep c l2 e1) rfl rfl rfl rfl rfl d_EL_isInArea_27 ?_
  refine g_imul (pc := 30) hX d_EL_isInArea_30 ?_
  refine g_iload (pc := 31) hX d_EL_isInArea_31 0 rfl ?_
  refine g_iload_n (pc := 33) hX d_EL_isInArea_33 rfl 4 rfl ?_
  obtain ⟨o2, e2, h⟩ := zbind h
  refine g_csI (pc := 34) (st := [.int (((l4 / (10 : Int32)) - (l1 / (10 : Int32)))), .int ((((zrem l4 (10 : Int32)) - (zrem l1 (10 : Int32))) * o1))]) hX zk_EL_rowStep zL_EL_354 (c_EL_rowStep c l2 e2) rfl rfl rfl rfl rfl d_EL_isInArea_34 ?_
  refine g_imul (pc := 37) hX d_EL_isInArea_37 ?_
  refine g_iadd (pc := 38) hX d_EL_isInArea_38 ?_
  refine g_istore (pc := 39) (L' := [(7, .int (((((zrem l4 (10 : Int32)) - (zrem l1 (10 : Int32))) * o1) + (((l4 / (10 : Int32)) - (l1 / (10 : Int32))) * o2)))), (6, .int (((l4 / (10 : Int32)) - (l1 / (10 : Int32))))), (5, .int (((zrem l4 (10 : Int32)) - (zrem l1 (10 : Int32))))), (0, .int l0), (1, .int l1), (2, .int l2), (3, .int l3), (4, .int l4)]) hX d_EL_isInArea_39 rfl rfl ?_
  refine g_iload (pc := 41) hX d_EL_isInArea_41 2 rfl ?_
  refine g_iload_n (pc := 43) hX d_EL_isInArea_43 rfl 5 rfl ?_
  obtain ⟨o3, e3, h⟩ := zbind h
  refine g_csI (pc := 44) (st := [.int (((zrem l4 (10 : Int32)) - (zrem l1 (10 : Int32))))]) hX zk_EL_rowStep zL_EL_354 (c_EL_rowStep c l2 e3) rfl rfl rfl rfl rfl d_EL_isInArea_44 ?_
  refine g_imul (pc := 47) hX d_EL_isInArea_47 ?_
  refine g_iload (pc := 48) hX d_EL_isInArea_48 1 rfl ?_
  refine g_iload_n (pc := 50) hX d_EL_isInArea_50 rfl 5 rfl ?_
  obtain ⟨o4, e4, h⟩ := zbind h
  refine g_csI (pc := 51) (st := [.int (((l4 / (10 : Int32)) - (l1 / (10 : Int32)))), .int ((((zrem l4 (10 : Int32)) - (zrem l1 (10 : Int32))) * o3))]) hX zk_EL_columnStep zL_EL_351 (c_EL_columnStep c l2 e4) rfl rfl rfl rfl rfl d_EL_isInArea_51 ?_
  refine g_imul (pc := 54) hX d_EL_isInArea_54 ?_
  refine g_iadd (pc := 55) hX d_EL_isInArea_55 ?_
  refine g_mabs (pc := 56) hX zL_EL_357 rfl rfl d_EL_isInArea_56 ?_
  refine g_istore (pc := 59) (L' := [(8, .int ((zabs (((((zrem l4 (10 : Int32)) - (zrem l1 (10 : Int32))) * o3) + (((l4 / (10 : Int32)) - (l1 / (10 : Int32))) * o4)))))), (7, .int (((((zrem l4 (10 : Int32)) - (zrem l1 (10 : Int32))) * o1) + (((l4 / (10 : Int32)) - (l1 / (10 : Int32))) * o2)))), (6, .int (((l4 / (10 : Int32)) - (l1 / (10 : Int32))))), (5, .int (((zrem l4 (10 : Int32)) - (zrem l1 (10 : Int32))))), (0, .int l0), (1, .int l1), (2, .int l2), (3, .int l3), (4, .int l4)]) hX d_EL_isInArea_59 rfl rfl ?_
  refine g_iload_n (pc := 61) hX d_EL_isInArea_61 rfl 4 rfl ?_
  by_cases c5 : l0 = (0 : Int32)
  · rw [if_pos c5] at h
    refine g_tswIn (pc := 62) (tgt := 92) (off := 30) hX d_EL_isInArea_62 (0 : Int32) c5 (by decide) (by decide) rfl (by decide) ?_
    refine g_iload (pc := 92) hX d_EL_isInArea_92 3 rfl ?_
    refine g_mabs (pc := 94) hX zL_EL_357 rfl rfl d_EL_isInArea_94 ?_
    refine g_iload (pc := 97) hX d_EL_isInArea_97 2 rfl ?_
    refine g_mabs (pc := 99) hX zL_EL_357 rfl rfl d_EL_isInArea_99 ?_
    refine g_mmax (pc := 102) hX zL_EL_329 rfl rfl d_EL_isInArea_102 ?_
    refine g_iload_n (pc := 105) hX d_EL_isInArea_105 rfl 7 rfl ?_
    refine g_icmp_gt (pc := 106) (tgt := 113) hX d_EL_isInArea_106 (by decide) h (fun c6 h => ?_) (fun c6 h => ?_)
    · refine g_iconst (pc := 113) hX d_EL_isInArea_113 zc_0 ?_
      obtain rfl := Option.some.inj h
      exact g_zret (pc := 114) hX hR (Or.inl rfl) d_EL_isInArea_114
    · refine g_iconst (pc := 109) hX d_EL_isInArea_109 zc_1 ?_
      refine g_goto (pc := 110) (tgt := 114) hX d_EL_isInArea_110 (by decide) ?_
      obtain rfl := Option.some.inj h
      exact g_zret (pc := 114) hX hR (Or.inr rfl) d_EL_isInArea_114
  rw [if_neg c5] at h
  by_cases c7 : l0 = (1 : Int32)
  · rw [if_pos c7] at h
    refine g_tswIn (pc := 62) (tgt := 115) (off := 53) hX d_EL_isInArea_62 (1 : Int32) c7 (by decide) (by decide) rfl (by decide) ?_
    refine g_iload (pc := 115) hX d_EL_isInArea_115 3 rfl ?_
    refine g_mabs (pc := 117) hX zL_EL_357 rfl rfl d_EL_isInArea_117 ?_
    refine g_iload (pc := 120) hX d_EL_isInArea_120 2 rfl ?_
    refine g_mabs (pc := 122) hX zL_EL_357 rfl rfl d_EL_isInArea_122 ?_
    refine g_iadd (pc := 125) hX d_EL_isInArea_125 ?_
    refine g_iload_n (pc := 126) hX d_EL_isInArea_126 rfl 7 rfl ?_
    refine g_icmp_gt (pc := 127) (tgt := 134) hX d_EL_isInArea_127 (by decide) h (fun c8 h => ?_) (fun c8 h => ?_)
    · refine g_iconst (pc := 134) hX d_EL_isInArea_134 zc_0 ?_
      obtain rfl := Option.some.inj h
      exact g_zret (pc := 135) hX hR (Or.inl rfl) d_EL_isInArea_135
    · refine g_iconst (pc := 130) hX d_EL_isInArea_130 zc_1 ?_
      refine g_goto (pc := 131) (tgt := 135) hX d_EL_isInArea_131 (by decide) ?_
      obtain rfl := Option.some.inj h
      exact g_zret (pc := 135) hX hR (Or.inr rfl) d_EL_isInArea_135
  rw [if_neg c7] at h
  by_cases c9 : l0 = (2 : Int32)
  · rw [if_pos c9] at h
    refine g_tswIn (pc := 62) (tgt := 136) (off := 74) hX d_EL_isInArea_62 (2 : Int32) c9 (by decide) (by decide) rfl (by decide) ?_
    refine g_iload (pc := 136) hX d_EL_isInArea_136 1 rfl ?_
    refine g_iconst (pc := 138) hX d_EL_isInArea_138 zc_1 ?_
    refine g_icmp_lt (pc := 139) (tgt := 161) hX d_EL_isInArea_139 (by decide) h (fun c10 h => ?_) (fun c10 h => ?_)
    · refine g_iconst (pc := 161) hX d_EL_isInArea_161 zc_0 ?_
      obtain rfl := Option.some.inj h
      exact g_zret (pc := 162) hX hR (Or.inl rfl) d_EL_isInArea_162
    · refine g_iload (pc := 142) hX d_EL_isInArea_142 1 rfl ?_
      refine g_iload_n (pc := 144) hX d_EL_isInArea_144 rfl 7 rfl ?_
      refine g_icmp_gt (pc := 145) (tgt := 161) hX d_EL_isInArea_145 (by decide) h (fun c11 h => ?_) (fun c11 h => ?_)
      · refine g_iconst (pc := 161) hX d_EL_isInArea_161 zc_0 ?_
        obtain rfl := Option.some.inj h
        exact g_zret (pc := 162) hX hR (Or.inl rfl) d_EL_isInArea_162
      · refine g_iload (pc := 148) hX d_EL_isInArea_148 0 rfl ?_
        refine g_iload (pc := 150) hX d_EL_isInArea_150 1 rfl ?_
        refine g_iconst (pc := 152) hX d_EL_isInArea_152 zc_2 ?_
        refine g_idiv (pc := 153) hX d_EL_isInArea_153 (by decide) ?_
        refine g_icmp_gt (pc := 154) (tgt := 161) hX d_EL_isInArea_154 (by decide) h (fun c12 h => ?_) (fun c12 h => ?_)
        · refine g_iconst (pc := 161) hX d_EL_isInArea_161 zc_0 ?_
          obtain rfl := Option.some.inj h
          exact g_zret (pc := 162) hX hR (Or.inl rfl) d_EL_isInArea_162
        · refine g_iconst (pc := 157) hX d_EL_isInArea_157 zc_1 ?_
          refine g_goto (pc := 158) (tgt := 162) hX d_EL_isInArea_158 (by decide) ?_
          obtain rfl := Option.some.inj h
          exact g_zret (pc := 162) hX hR (Or.inr rfl) d_EL_isInArea_162
  rw [if_neg c9] at h
  by_cases c13 : l0 = (3 : Int32)
  · rw [if_pos c13] at h
    refine g_tswIn (pc := 62) (tgt := 163) (off := 101) hX d_EL_isInArea_62 (3 : Int32) c13 (by decide) (by decide) rfl (by decide) ?_
    refine g_iload (pc := 163) hX d_EL_isInArea_163 1 rfl ?_
    refine g_iconst (pc := 165) hX d_EL_isInArea_165 zc_1 ?_
    refine g_icmp_lt (pc := 166) (tgt := 184) hX d_EL_isInArea_166 (by decide) h (fun c14 h => ?_) (fun c14 h => ?_)
    · refine g_iconst (pc := 184) hX d_EL_isInArea_184 zc_0 ?_
      obtain rfl := Option.some.inj h
      exact g_zret (pc := 185) hX hR (Or.inl rfl) d_EL_isInArea_185
    · refine g_iload (pc := 169) hX d_EL_isInArea_169 1 rfl ?_
      refine g_iload_n (pc := 171) hX d_EL_isInArea_171 rfl 7 rfl ?_
      refine g_icmp_gt (pc := 172) (tgt := 184) hX d_EL_isInArea_172 (by decide) h (fun c15 h => ?_) (fun c15 h => ?_)
      · refine g_iconst (pc := 184) hX d_EL_isInArea_184 zc_0 ?_
        obtain rfl := Option.some.inj h
        exact g_zret (pc := 185) hX hR (Or.inl rfl) d_EL_isInArea_185
      · refine g_iload (pc := 175) hX d_EL_isInArea_175 0 rfl ?_
        refine g_if_ne (pc := 177) (tgt := 184) hX d_EL_isInArea_177 (by decide) h (fun c16 h => ?_) (fun c16 h => ?_)
        · refine g_iconst (pc := 184) hX d_EL_isInArea_184 zc_0 ?_
          obtain rfl := Option.some.inj h
          exact g_zret (pc := 185) hX hR (Or.inl rfl) d_EL_isInArea_185
        · refine g_iconst (pc := 180) hX d_EL_isInArea_180 zc_1 ?_
          refine g_goto (pc := 181) (tgt := 185) hX d_EL_isInArea_181 (by decide) ?_
          obtain rfl := Option.some.inj h
          exact g_zret (pc := 185) hX hR (Or.inr rfl) d_EL_isInArea_185
  rw [if_neg c13] at h
  refine g_tswOut (pc := 62) (tgt := 186) hX d_EL_isInArea_62 (by have a5 := lv_neT c5 (a := 0) (by decide); have a7 := lv_neT c7 (a := 1) (by decide); have a9 := lv_neT c9 (a := 2) (by decide); have a13 := lv_neT c13 (a := 3) (by decide); omega) (by decide) ?_
  refine g_iconst (pc := 186) hX d_EL_isInArea_186 zc_0 ?_
  obtain rfl := Option.some.inj h
  exact g_zret (pc := 187) hX hR (Or.inl rfl) d_EL_isInArea_187)
theorem d_Wa_reach_0 : decode zb_Wa_reach 0 = .ok (.iload_n 1, 1) := by decide +kernel
theorem d_Wa_reach_1 : decode zb_Wa_reach 1 = .ok (.ifCond .lt 26, 3) := by decide +kernel
theorem d_Wa_reach_4 : decode zb_Wa_reach 4 = .ok (.iload_n 1, 1) := by decide +kernel
theorem d_Wa_reach_5 : decode zb_Wa_reach 5 = .ok (.aload_n 0, 1) := by decide +kernel
theorem d_Wa_reach_6 : decode zb_Wa_reach 6 = .ok (.getfield 9, 3) := by decide +kernel
theorem d_Wa_reach_9 : decode zb_Wa_reach 9 = .ok (.arraylength, 1) := by decide +kernel
theorem d_Wa_reach_10 : decode zb_Wa_reach 10 = .ok (.if_icmp .ge 17, 3) := by decide +kernel
theorem d_Wa_reach_13 : decode zb_Wa_reach 13 = .ok (.aload_n 0, 1) := by decide +kernel
theorem d_Wa_reach_14 : decode zb_Wa_reach 14 = .ok (.getfield 9, 3) := by decide +kernel
theorem d_Wa_reach_17 : decode zb_Wa_reach 17 = .ok (.iload_n 1, 1) := by decide +kernel
theorem d_Wa_reach_18 : decode zb_Wa_reach 18 = .ok (.iaload, 1) := by decide +kernel
theorem d_Wa_reach_19 : decode zb_Wa_reach 19 = .ok (.iconst (-1), 1) := by decide +kernel
theorem d_Wa_reach_20 : decode zb_Wa_reach 20 = .ok (.if_icmp .ne 7, 3) := by decide +kernel
theorem d_Wa_reach_23 : decode zb_Wa_reach 23 = .ok (.iconst 1, 1) := by decide +kernel
theorem d_Wa_reach_24 : decode zb_Wa_reach 24 = .ok (.goto 4, 3) := by decide +kernel
theorem d_Wa_reach_27 : decode zb_Wa_reach 27 = .ok (.iconst 0, 1) := by decide +kernel
theorem d_Wa_reach_28 : decode zb_Wa_reach 28 = .ok (.istore_n 3, 1) := by decide +kernel
theorem d_Wa_reach_29 : decode zb_Wa_reach 29 = .ok (.iload_n 3, 1) := by decide +kernel
theorem d_Wa_reach_30 : decode zb_Wa_reach 30 = .ok (.ifCond .eq 49, 3) := by decide +kernel
theorem d_Wa_reach_33 : decode zb_Wa_reach 33 = .ok (.aload_n 0, 1) := by decide +kernel
theorem d_Wa_reach_34 : decode zb_Wa_reach 34 = .ok (.getfield 18, 3) := by decide +kernel
theorem d_Wa_reach_37 : decode zb_Wa_reach 37 = .ok (.ifCond .lt 42, 3) := by decide +kernel
theorem d_Wa_reach_40 : decode zb_Wa_reach 40 = .ok (.aload_n 0, 1) := by decide +kernel
theorem d_Wa_reach_41 : decode zb_Wa_reach 41 = .ok (.getfield 18, 3) := by decide +kernel
theorem d_Wa_reach_44 : decode zb_Wa_reach 44 = .ok (.aload_n 0, 1) := by decide +kernel
theorem d_Wa_reach_45 : decode zb_Wa_reach 45 = .ok (.getfield 15, 3) := by decide +kernel
theorem d_Wa_reach_48 : decode zb_Wa_reach 48 = .ok (.arraylength, 1) := by decide +kernel
theorem d_Wa_reach_49 : decode zb_Wa_reach 49 = .ok (.if_icmp .ge 30, 3) := by decide +kernel
theorem d_Wa_reach_52 : decode zb_Wa_reach 52 = .ok (.aload_n 0, 1) := by decide +kernel
theorem d_Wa_reach_53 : decode zb_Wa_reach 53 = .ok (.getfield 9, 3) := by decide +kernel
theorem d_Wa_reach_56 : decode zb_Wa_reach 56 = .ok (.iload_n 1, 1) := by decide +kernel
theorem d_Wa_reach_57 : decode zb_Wa_reach 57 = .ok (.iload_n 2, 1) := by decide +kernel
theorem d_Wa_reach_58 : decode zb_Wa_reach 58 = .ok (.iastore, 1) := by decide +kernel
theorem d_Wa_reach_59 : decode zb_Wa_reach 59 = .ok (.aload_n 0, 1) := by decide +kernel
theorem d_Wa_reach_60 : decode zb_Wa_reach 60 = .ok (.getfield 15, 3) := by decide +kernel
theorem d_Wa_reach_63 : decode zb_Wa_reach 63 = .ok (.aload_n 0, 1) := by decide +kernel
theorem d_Wa_reach_64 : decode zb_Wa_reach 64 = .ok (.getfield 18, 3) := by decide +kernel
theorem d_Wa_reach_67 : decode zb_Wa_reach 67 = .ok (.iload_n 1, 1) := by decide +kernel
theorem d_Wa_reach_68 : decode zb_Wa_reach 68 = .ok (.iastore, 1) := by decide +kernel
theorem d_Wa_reach_69 : decode zb_Wa_reach 69 = .ok (.aload_n 0, 1) := by decide +kernel
theorem d_Wa_reach_70 : decode zb_Wa_reach 70 = .ok (.dup, 1) := by decide +kernel
theorem d_Wa_reach_71 : decode zb_Wa_reach 71 = .ok (.getfield 18, 3) := by decide +kernel
theorem d_Wa_reach_74 : decode zb_Wa_reach 74 = .ok (.iconst 1, 1) := by decide +kernel
theorem d_Wa_reach_75 : decode zb_Wa_reach 75 = .ok (.iadd, 1) := by decide +kernel
theorem d_Wa_reach_76 : decode zb_Wa_reach 76 = .ok (.putfield 18, 3) := by decide +kernel
theorem d_Wa_reach_79 : decode zb_Wa_reach 79 = .ok (.return_, 1) := by decide +kernel
def k_Wa_reach_28 (l1 : Int32) (l2 : Int32) (s0 : Int32) (x : zsW) : Option (zsW) := (if s0 = 0 then some x else (if x.2.2 < 0 then some x else (if x.2.2 < (100 : Int32) then (if zOut l1 100 then none else (if zOut x.2.2 100 then none else some (((upd x.1 l1.toNatClampNeg l2), (upd x.2.1 x.2.2.toNatClampNeg l1), (x.2.2 + (1 : Int32)))))) else some x)))
set_option maxRecDepth 20000 in
theorem w_Wa_reach_28 {X : zX} {c : zY} {a0 a1 a2 : Nat} {l1 : Int32} {l2 : Int32} {out : zsW} (hX : Ok X zr_Wa zb_Wa_reach 4 0 c) (hR : Rt X none none (zwW c a0 a1 a2 out)) : ∀ (s0 : Int32) (x : zsW), k_Wa_reach_28 l1 l2 s0 x = some out → Go X (zwW c a0 a1 a2 x) [(0, .ref a0), (1, .int l1), (2, .int l2)] 28 [.int s0] := by
  intro s0 x h
  rw [k_Wa_reach_28] at h
  refine g_istore_n (pc := 28) (L' := [(3, .int s0), (0, .ref a0), (1, .int l1), (2, .int l2)]) hX d_Wa_reach_28 rfl rfl rfl ?_
  refine g_iload_n (pc := 29) hX d_Wa_reach_29 rfl 0 rfl ?_
  refine g_if_eq (pc := 30) (tgt := 79) hX d_Wa_reach_30 (by decide) h (fun c2 h => ?_) (fun c2 h => ?_)
  · obtain rfl := Option.some.inj h
    exact g_vret (pc := 79) hX hR d_Wa_reach_79
  · refine g_aload_n (pc := 33) hX d_Wa_reach_33 rfl 1 rfl ?_
    refine gf_Wa_18 (pc := 34) (v := .int x.2.2) hX 0 rfl rfl d_Wa_reach_34 ?_
    refine g_if_lt (pc := 37) (tgt := 79) hX d_Wa_reach_37 (by decide) h (fun c3 h => ?_) (fun c3 h => ?_)
    · obtain rfl := Option.some.inj h
      exact g_vret (pc := 79) hX hR d_Wa_reach_79
    · refine g_aload_n (pc := 40) hX d_Wa_reach_40 rfl 1 rfl ?_
      refine gf_Wa_18 (pc := 41) (v := .int x.2.2) hX 0 rfl rfl d_Wa_reach_41 ?_
      refine g_aload_n (pc := 44) hX d_Wa_reach_44 rfl 1 rfl ?_
      refine gf_Wa_15 (pc := 45) (v := .ref a2) hX 0 rfl rfl d_Wa_reach_45 ?_
      refine g_alen (pc := 48) (v := (100 : Int32)) hX 2 rfl rfl d_Wa_reach_48 ?_
      refine g_icmp_ge (pc := 49) (tgt := 79) hX d_Wa_reach_49 (by decide) h (fun c4 h => ?_) (fun c4 h => ?_)
      · obtain rfl := Option.some.inj h
        exact g_vret (pc := 79) hX hR d_Wa_reach_79
      · refine g_aload_n (pc := 52) hX d_Wa_reach_52 rfl 1 rfl ?_
        refine gf_Wa_9 (pc := 53) (v := .ref a1) hX 0 rfl rfl d_Wa_reach_53 ?_
        refine g_iload_n (pc := 56) hX d_Wa_reach_56 rfl 2 rfl ?_
        refine g_iload_n (pc := 57) hX d_Wa_reach_57 rfl 3 rfl ?_
        refine g_iast (pc := 58) (f := x.1) (w' := (zwW c a0 a1 a2 (((upd x.1 l1.toNatClampNeg l2), x.2.1, x.2.2)))) hX 1 rfl h (sa_Wa_1 c a0 a1 a2 x (upd x.1 l1.toNatClampNeg l2)) d_Wa_reach_58 (fun h => ?_)
        refine g_aload_n (pc := 59) hX d_Wa_reach_59 rfl 1 rfl ?_
        refine gf_Wa_15 (pc := 60) (v := .ref a2) hX 0 rfl rfl d_Wa_reach_60 ?_
        refine g_aload_n (pc := 63) hX d_Wa_reach_63 rfl 1 rfl ?_
        refine gf_Wa_18 (pc := 64) (v := .int x.2.2) hX 0 rfl rfl d_Wa_reach_64 ?_
        refine g_iload_n (pc := 67) hX d_Wa_reach_67 rfl 2 rfl ?_
        refine g_iast (pc := 68) (f := x.2.1) (w' := (zwW c a0 a1 a2 (((upd x.1 l1.toNatClampNeg l2), (upd x.2.1 x.2.2.toNatClampNeg l1), x.2.2)))) hX 2 rfl h (sa_Wa_2 c a0 a1 a2 (((upd x.1 l1.toNatClampNeg l2), x.2.1, x.2.2)) (upd x.2.1 x.2.2.toNatClampNeg l1)) d_Wa_reach_68 (fun h => ?_)
        refine g_aload_n (pc := 69) hX d_Wa_reach_69 rfl 1 rfl ?_
        refine g_dup (pc := 70) hX d_Wa_reach_70 rfl ?_
        refine gf_Wa_18 (pc := 71) (v := .int x.2.2) hX 0 rfl rfl d_Wa_reach_71 ?_
        refine g_iconst (pc := 74) hX d_Wa_reach_74 zc_1 ?_
        refine g_iadd (pc := 75) hX d_Wa_reach_75 ?_
        refine pf_Wa_18 (pc := 76) (w2 := (zwW c a0 a1 a2 (((upd x.1 l1.toNatClampNeg l2), (upd x.2.1 x.2.2.toNatClampNeg l1), (x.2.2 + (1 : Int32)))))) hX 0 rfl rfl (su_Wa_0_2 c a0 a1 a2 (((upd x.1 l1.toNatClampNeg l2), (upd x.2.1 x.2.2.toNatClampNeg l1), x.2.2)) ((x.2.2 + (1 : Int32)))) d_Wa_reach_76 ?_
        obtain rfl := Option.some.inj h
        exact g_vret (pc := 79) hX hR d_Wa_reach_79
def k_Wa_reach (x : zsW) (l1 : Int32) (l2 : Int32) : Option (zsW) := (if l1 < 0 then k_Wa_reach_28 l1 l2 ((0 : Int32)) x else (if l1 < (100 : Int32) then (if zOut l1 100 then none else (if (x.1 l1.toNatClampNeg) = (-1 : Int32) then k_Wa_reach_28 l1 l2 ((1 : Int32)) x else k_Wa_reach_28 l1 l2 ((0 : Int32)) x)) else k_Wa_reach_28 l1 l2 ((0 : Int32)) x))
set_option maxRecDepth 20000 in
theorem c_Wa_reach (c : zY) (a0 a1 a2 : Nat) (x : zsW) (l1 : Int32) (l2 : Int32) {out : zsW} (h : k_Wa_reach x l1 l2 = some out) : KM zy_Wa_reach zb_Wa_reach 4 none 0 c [.ref a0, .int l1, .int l2] (zwW c a0 a1 a2 x) (zwW c a0 a1 a2 out) none := zK_of zp_Wa rfl (Nat.le_of_ble_eq_true rfl) (zq_Wa c a0 a1 a2 _ _) (fun X hX hR => by
  show Go X (zwW c a0 a1 a2 x) [(0, .ref a0), (1, .int l1), (2, .int l2)] 0 []
  rw [k_Wa_reach] at h
  refine g_iload_n (pc := 0) hX d_Wa_reach_0 rfl 1 rfl ?_
  refine g_if_lt (pc := 1) (tgt := 27) hX d_Wa_reach_1 (by decide) h (fun c1 h => ?_) (fun c1 h => ?_)
  · refine g_iconst (pc := 27) hX d_Wa_reach_27 zc_0 ?_
    exact w_Wa_reach_28 hX hR _ _ h
  · refine g_iload_n (pc := 4) hX d_Wa_reach_4 rfl 1 rfl ?_
    refine g_aload_n (pc := 5) hX d_Wa_reach_5 rfl 0 rfl ?_
    refine gf_Wa_9 (pc := 6) (v := .ref a1) hX 0 rfl rfl d_Wa_reach_6 ?_
    refine g_alen (pc := 9) (v := (100 : Int32)) hX 1 rfl rfl d_Wa_reach_9 ?_
    refine g_icmp_ge (pc := 10) (tgt := 27) hX d_Wa_reach_10 (by decide) h (fun c5 h => ?_) (fun c5 h => ?_)
    · refine g_iconst (pc := 27) hX d_Wa_reach_27 zc_0 ?_
      exact w_Wa_reach_28 hX hR _ _ h
    · refine g_aload_n (pc := 13) hX d_Wa_reach_13 rfl 0 rfl ?_
      refine gf_Wa_9 (pc := 14) (v := .ref a1) hX 0 rfl rfl d_Wa_reach_14 ?_
      refine g_iload_n (pc := 17) hX d_Wa_reach_17 rfl 1 rfl ?_
      refine g_iald (pc := 18) (f := x.1) hX 1 rfl h d_Wa_reach_18 (fun h => ?_)
      refine g_iconst (pc := 19) hX d_Wa_reach_19 zc_m1 ?_
      refine g_icmp_ne (pc := 20) (tgt := 27) hX d_Wa_reach_20 (by decide) h (fun c6 h => ?_) (fun c6 h => ?_)
      · refine g_iconst (pc := 27) hX d_Wa_reach_27 zc_0 ?_
        exact w_Wa_reach_28 hX hR _ _ h
      · refine g_iconst (pc := 23) hX d_Wa_reach_23 zc_1 ?_
        refine g_goto (pc := 24) (tgt := 28) hX d_Wa_reach_24 (by decide) ?_
        exact w_Wa_reach_28 hX hR _ _ h)
theorem d_Wa_reachNeighbors_0 : decode zb_Wa_reachNeighbors 0 = .ok (.iload_n 1, 1) := by decide +kernel
theorem d_Wa_reachNeighbors_1 : decode zb_Wa_reachNeighbors 1 = .ok (.ifCond .lt 23, 3) := by decide +kernel
theorem d_Wa_reachNeighbors_4 : decode zb_Wa_reachNeighbors 4 = .ok (.iload_n 1, 1) := by decide +kernel
theorem d_Wa_reachNeighbors_5 : decode zb_Wa_reachNeighbors 5 = .ok (.aload_n 0, 1) := by decide +kernel
theorem d_Wa_reachNeighbors_6 : decode zb_Wa_reachNeighbors 6 = .ok (.getfield 9, 3) := by decide +kernel
theorem d_Wa_reachNeighbors_9 : decode zb_Wa_reachNeighbors 9 = .ok (.arraylength, 1) := by decide +kernel
theorem d_Wa_reachNeighbors_10 : decode zb_Wa_reachNeighbors 10 = .ok (.if_icmp .ge 14, 3) := by decide +kernel
theorem d_Wa_reachNeighbors_13 : decode zb_Wa_reachNeighbors 13 = .ok (.aload_n 0, 1) := by decide +kernel
theorem d_Wa_reachNeighbors_14 : decode zb_Wa_reachNeighbors 14 = .ok (.getfield 9, 3) := by decide +kernel
theorem d_Wa_reachNeighbors_17 : decode zb_Wa_reachNeighbors 17 = .ok (.iload_n 1, 1) := by decide +kernel
theorem d_Wa_reachNeighbors_18 : decode zb_Wa_reachNeighbors 18 = .ok (.iaload, 1) := by decide +kernel
theorem d_Wa_reachNeighbors_19 : decode zb_Wa_reachNeighbors 19 = .ok (.iconst 1, 1) := by decide +kernel
theorem d_Wa_reachNeighbors_20 : decode zb_Wa_reachNeighbors 20 = .ok (.iadd, 1) := by decide +kernel
theorem d_Wa_reachNeighbors_21 : decode zb_Wa_reachNeighbors 21 = .ok (.goto 4, 3) := by decide +kernel
theorem d_Wa_reachNeighbors_24 : decode zb_Wa_reachNeighbors 24 = .ok (.iconst 0, 1) := by decide +kernel
theorem d_Wa_reachNeighbors_25 : decode zb_Wa_reachNeighbors 25 = .ok (.istore_n 2, 1) := by decide +kernel
theorem d_Wa_reachNeighbors_26 : decode zb_Wa_reachNeighbors 26 = .ok (.iconst 0, 1) := by decide +kernel
theorem d_Wa_reachNeighbors_27 : decode zb_Wa_reachNeighbors 27 = .ok (.istore_n 3, 1) := by decide +kernel
theorem d_Wa_reachNeighbors_28 : decode zb_Wa_reachNeighbors 28 = .ok (.iload_n 3, 1) := by decide +kernel
theorem d_Wa_reachNeighbors_29 : decode zb_Wa_reachNeighbors 29 = .ok (.iconst 4, 1) := by decide +kernel
theorem d_Wa_reachNeighbors_30 : decode zb_Wa_reachNeighbors 30 = .ok (.if_icmp .ge 68, 3) := by decide +kernel
theorem d_Wa_reachNeighbors_33 : decode zb_Wa_reachNeighbors 33 = .ok (.iload_n 1, 1) := by decide +kernel
theorem d_Wa_reachNeighbors_34 : decode zb_Wa_reachNeighbors 34 = .ok (.bipush 10, 2) := by decide +kernel
theorem d_Wa_reachNeighbors_36 : decode zb_Wa_reachNeighbors 36 = .ok (.irem, 1) := by decide +kernel
theorem d_Wa_reachNeighbors_37 : decode zb_Wa_reachNeighbors 37 = .ok (.iload_n 3, 1) := by decide +kernel
theorem d_Wa_reachNeighbors_38 : decode zb_Wa_reachNeighbors 38 = .ok (.invokestatic 67, 3) := by decide +kernel
theorem d_Wa_reachNeighbors_41 : decode zb_Wa_reachNeighbors 41 = .ok (.iadd, 1) := by decide +kernel
theorem d_Wa_reachNeighbors_42 : decode zb_Wa_reachNeighbors 42 = .ok (.istore 4, 2) := by decide +kernel
theorem d_Wa_reachNeighbors_44 : decode zb_Wa_reachNeighbors 44 = .ok (.iload_n 1, 1) := by decide +kernel
theorem d_Wa_reachNeighbors_45 : decode zb_Wa_reachNeighbors 45 = .ok (.bipush 10, 2) := by decide +kernel
theorem d_Wa_reachNeighbors_47 : decode zb_Wa_reachNeighbors 47 = .ok (.idiv, 1) := by decide +kernel
theorem d_Wa_reachNeighbors_48 : decode zb_Wa_reachNeighbors 48 = .ok (.iload_n 3, 1) := by decide +kernel
theorem d_Wa_reachNeighbors_49 : decode zb_Wa_reachNeighbors 49 = .ok (.invokestatic 71, 3) := by decide +kernel
theorem d_Wa_reachNeighbors_52 : decode zb_Wa_reachNeighbors 52 = .ok (.iadd, 1) := by decide +kernel
theorem d_Wa_reachNeighbors_53 : decode zb_Wa_reachNeighbors 53 = .ok (.istore 5, 2) := by decide +kernel
theorem d_Wa_reachNeighbors_55 : decode zb_Wa_reachNeighbors 55 = .ok (.iload 4, 2) := by decide +kernel
theorem d_Wa_reachNeighbors_57 : decode zb_Wa_reachNeighbors 57 = .ok (.ifCond .lt 35, 3) := by decide +kernel
theorem d_Wa_reachNeighbors_60 : decode zb_Wa_reachNeighbors 60 = .ok (.iload 4, 2) := by decide +kernel
theorem d_Wa_reachNeighbors_62 : decode zb_Wa_reachNeighbors 62 = .ok (.bipush 10, 2) := by decide +kernel
theorem d_Wa_reachNeighbors_64 : decode zb_Wa_reachNeighbors 64 = .ok (.if_icmp .ge 28, 3) := by decide +kernel
theorem d_Wa_reachNeighbors_67 : decode zb_Wa_reachNeighbors 67 = .ok (.iload 5, 2) := by decide +kernel
theorem d_Wa_reachNeighbors_69 : decode zb_Wa_reachNeighbors 69 = .ok (.ifCond .lt 23, 3) := by decide +kernel
theorem d_Wa_reachNeighbors_72 : decode zb_Wa_reachNeighbors 72 = .ok (.iload 5, 2) := by decide +kernel
theorem d_Wa_reachNeighbors_74 : decode zb_Wa_reachNeighbors 74 = .ok (.bipush 10, 2) := by decide +kernel
theorem d_Wa_reachNeighbors_76 : decode zb_Wa_reachNeighbors 76 = .ok (.if_icmp .ge 16, 3) := by decide +kernel
theorem d_Wa_reachNeighbors_79 : decode zb_Wa_reachNeighbors 79 = .ok (.aload_n 0, 1) := by decide +kernel
theorem d_Wa_reachNeighbors_80 : decode zb_Wa_reachNeighbors 80 = .ok (.bipush 10, 2) := by decide +kernel
theorem d_Wa_reachNeighbors_82 : decode zb_Wa_reachNeighbors 82 = .ok (.iload 5, 2) := by decide +kernel
theorem d_Wa_reachNeighbors_84 : decode zb_Wa_reachNeighbors 84 = .ok (.imul, 1) := by decide +kernel
theorem d_Wa_reachNeighbors_85 : decode zb_Wa_reachNeighbors 85 = .ok (.iload 4, 2) := by decide +kernel
theorem d_Wa_reachNeighbors_87 : decode zb_Wa_reachNeighbors 87 = .ok (.iadd, 1) := by decide +kernel
theorem d_Wa_reachNeighbors_88 : decode zb_Wa_reachNeighbors 88 = .ok (.iload_n 2, 1) := by decide +kernel
theorem d_Wa_reachNeighbors_89 : decode zb_Wa_reachNeighbors 89 = .ok (.invokevirtual 38, 3) := by decide +kernel
theorem d_Wa_reachNeighbors_92 : decode zb_Wa_reachNeighbors 92 = .ok (.iinc 3 1, 3) := by decide +kernel
theorem d_Wa_reachNeighbors_95 : decode zb_Wa_reachNeighbors 95 = .ok (.goto (-67), 3) := by decide +kernel
theorem d_Wa_reachNeighbors_98 : decode zb_Wa_reachNeighbors 98 = .ok (.return_, 1) := by decide +kernel
def k_Wa_reachNeighbors_28 (l1 : Int32) : Nat → Int32 → Int32 → zsW → Option (zsW)
  | 0, _, _, _ => none
  | fu + 1, l2, l3, x => (if l3 < (4 : Int32) then (k_EL_columnStep l3).bind fun o3 => (k_EL_rowStep l3).bind fun o4 => (if ((zrem l1 (10 : Int32)) + o3) < 0 then k_Wa_reachNeighbors_28 l1 fu l2 ((l3 + (1 : Int32))) x else (if ((zrem l1 (10 : Int32)) + o3) < (10 : Int32) then (if ((l1 / (10 : Int32)) + o4) < 0 then k_Wa_reachNeighbors_28 l1 fu l2 ((l3 + (1 : Int32))) x else (if ((l1 / (10 : Int32)) + o4) < (10 : Int32) then (k_Wa_reach x ((((10 : Int32) * ((l1 / (10 : Int32)) + o4)) + ((zrem l1 (10 : Int32)) + o3))) l2).bind fun o9 => k_Wa_reachNeighbors_28 l1 fu l2 ((l3 + (1 : Int32))) o9 else k_Wa_reachNeighbors_28 l1 fu l2 ((l3 + (1 : Int32))) x)) else k_Wa_reachNeighbors_28 l1 fu l2 ((l3 + (1 : Int32))) x)) else some x)
set_option maxRecDepth 20000 in
theorem w_Wa_reachNeighbors_28 {X : zX} {c : zY} {a0 a1 a2 : Nat} {l1 : Int32} {out : zsW} (hX : Ok X zr_Wa zb_Wa_reachNeighbors 6 1 c) (hR : Rt X none none (zwW c a0 a1 a2 out)) : ∀ (fu : Nat) (l2 : Int32) (l3 : Int32) (x : zsW), k_Wa_reachNeighbors_28 l1 fu l2 l3 x = some out → Go X (zwW c a0 a1 a2 x) [(0, .ref a0), (1, .int l1), (2, .int l2), (3, .int l3)] 28 [] := by
  intro fu
  induction fu with
  | zero => intro l2 l3 x h; rw [k_Wa_reachNeighbors_28] at h; cases h
  | succ fu ih =>
    intro l2 l3 x h
    rw [k_Wa_reachNeighbors_28] at h
    refine g_iload_n (pc := 28) hX d_Wa_reachNeighbors_28 rfl 3 rfl ?_
    refine g_iconst (pc := 29) hX d_Wa_reachNeighbors_29 zc_4 ?_
    refine g_icmp_ge (pc := 30) (tgt := 98) hX d_Wa_reachNeighbors_30 (by decide) h (fun c2 h => ?_) (fun c2 h => ?_)
    · obtain rfl := Option.some.inj h
      exact g_vret (pc := 98) hX hR d_Wa_reachNeighbors_98
    · refine g_iload_n (pc := 33) hX d_Wa_reachNeighbors_33 rfl 1 rfl ?_
      refine g_bipush (pc := 34) hX d_Wa_reachNeighbors_34 ze_10 ?_
      refine g_irem (pc := 36) hX d_Wa_reachNeighbors_36 (by decide) ?_
      refine g_iload_n (pc := 37) hX d_Wa_reachNeighbors_37 rfl 3 rfl ?_
      obtain ⟨o3, e3, h⟩ := zbind h
      refine g_csNI (pc := 38) (st := [.int ((zrem l1 (10 : Int32)))]) (host := "EncounterLedger") hX zk_EL_columnStep (List.mem_of_getElem? (i := 3) rfl) (c_EL_columnStep c l3 e3) rfl rfl rfl rfl rfl d_Wa_reachNeighbors_38 ?_
      refine g_iadd (pc := 41) hX d_Wa_reachNeighbors_41 ?_
      refine g_istore (pc := 42) (L' := [(4, .int (((zrem l1 (10 : Int32)) + o3))), (0, .ref a0), (1, .int l1), (2, .int l2), (3, .int l3)]) hX d_Wa_reachNeighbors_42 rfl rfl ?_
      refine g_iload_n (pc := 44) hX d_Wa_reachNeighbors_44 rfl 2 rfl ?_
      refine g_bipush (pc := 45) hX d_Wa_reachNeighbors_45 ze_10 ?_
      refine g_idiv (pc := 47) hX d_Wa_reachNeighbors_47 (by decide) ?_
      refine g_iload_n (pc := 48) hX d_Wa_reachNeighbors_48 rfl 4 rfl ?_
      obtain ⟨o4, e4, h⟩ := zbind h
      refine g_csNI (pc := 49) (st := [.int ((l1 / (10 : Int32)))]) (host := "EncounterLedger") hX zk_EL_rowStep (List.mem_of_getElem? (i := 4) rfl) (c_EL_rowStep c l3 e4) rfl rfl rfl rfl rfl d_Wa_reachNeighbors_49 ?_
      refine g_iadd (pc := 52) hX d_Wa_reachNeighbors_52 ?_
      refine g_istore (pc := 53) (L' := [(5, .int (((l1 / (10 : Int32)) + o4))), (4, .int (((zrem l1 (10 : Int32)) + o3))), (0, .ref a0), (1, .int l1), (2, .int l2), (3, .int l3)]) hX d_Wa_reachNeighbors_53 rfl rfl ?_
      refine g_iload (pc := 55) hX d_Wa_reachNeighbors_55 1 rfl ?_
      refine g_if_lt (pc := 57) (tgt := 92) hX d_Wa_reachNeighbors_57 (by decide) h (fun c5 h => ?_) (fun c5 h => ?_)
      · refine g_iinc (pc := 92) (q := 5) (L' := [(3, .int ((l3 + (1 : Int32)))), (5, .int (((l1 / (10 : Int32)) + o4))), (4, .int (((zrem l1 (10 : Int32)) + o3))), (0, .ref a0), (1, .int l1), (2, .int l2)]) hX d_Wa_reachNeighbors_92 rfl zc_1 rfl rfl ?_
        refine g_goto (pc := 95) (tgt := 28) hX d_Wa_reachNeighbors_95 (by decide) ?_
        refine g_ls (L' := [(0, .ref a0), (1, .int l1), (2, .int l2), (3, .int ((l3 + (1 : Int32))))]) [3, 4, 5, 0] rfl ?_
        exact ih _ _ _ h
      · refine g_iload (pc := 60) hX d_Wa_reachNeighbors_60 1 rfl ?_
        refine g_bipush (pc := 62) hX d_Wa_reachNeighbors_62 ze_10 ?_
        refine g_icmp_ge (pc := 64) (tgt := 92) hX d_Wa_reachNeighbors_64 (by decide) h (fun c6 h => ?_) (fun c6 h => ?_)
        · refine g_iinc (pc := 92) (q := 5) (L' := [(3, .int ((l3 + (1 : Int32)))), (5, .int (((l1 / (10 : Int32)) + o4))), (4, .int (((zrem l1 (10 : Int32)) + o3))), (0, .ref a0), (1, .int l1), (2, .int l2)]) hX d_Wa_reachNeighbors_92 rfl zc_1 rfl rfl ?_
          refine g_goto (pc := 95) (tgt := 28) hX d_Wa_reachNeighbors_95 (by decide) ?_
          refine g_ls (L' := [(0, .ref a0), (1, .int l1), (2, .int l2), (3, .int ((l3 + (1 : Int32))))]) [3, 4, 5, 0] rfl ?_
          exact ih _ _ _ h
        · refine g_iload (pc := 67) hX d_Wa_reachNeighbors_67 0 rfl ?_
          refine g_if_lt (pc := 69) (tgt := 92) hX d_Wa_reachNeighbors_69 (by decide) h (fun c7 h => ?_) (fun c7 h => ?_)
          · refine g_iinc (pc := 92) (q := 5) (L' := [(3, .int ((l3 + (1 : Int32)))), (5, .int (((l1 / (10 : Int32)) + o4))), (4, .int (((zrem l1 (10 : Int32)) + o3))), (0, .ref a0), (1, .int l1), (2, .int l2)]) hX d_Wa_reachNeighbors_92 rfl zc_1 rfl rfl ?_
            refine g_goto (pc := 95) (tgt := 28) hX d_Wa_reachNeighbors_95 (by decide) ?_
            refine g_ls (L' := [(0, .ref a0), (1, .int l1), (2, .int l2), (3, .int ((l3 + (1 : Int32))))]) [3, 4, 5, 0] rfl ?_
            exact ih _ _ _ h
          · refine g_iload (pc := 72) hX d_Wa_reachNeighbors_72 0 rfl ?_
            refine g_bipush (pc := 74) hX d_Wa_reachNeighbors_74 ze_10 ?_
            refine g_icmp_ge (pc := 76) (tgt := 92) hX d_Wa_reachNeighbors_76 (by decide) h (fun c8 h => ?_) (fun c8 h => ?_)
            · refine g_iinc (pc := 92) (q := 5) (L' := [(3, .int ((l3 + (1 : Int32)))), (5, .int (((l1 / (10 : Int32)) + o4))), (4, .int (((zrem l1 (10 : Int32)) + o3))), (0, .ref a0), (1, .int l1), (2, .int l2)]) hX d_Wa_reachNeighbors_92 rfl zc_1 rfl rfl ?_
              refine g_goto (pc := 95) (tgt := 28) hX d_Wa_reachNeighbors_95 (by decide) ?_
              refine g_ls (L' := [(0, .ref a0), (1, .int l1), (2, .int l2), (3, .int ((l3 + (1 : Int32))))]) [3, 4, 5, 0] rfl ?_
              exact ih _ _ _ h
            · refine g_aload_n (pc := 79) hX d_Wa_reachNeighbors_79 rfl 2 rfl ?_
              refine g_bipush (pc := 80) hX d_Wa_reachNeighbors_80 ze_10 ?_
              refine g_iload (pc := 82) hX d_Wa_reachNeighbors_82 0 rfl ?_
              refine g_imul (pc := 84) hX d_Wa_reachNeighbors_84 ?_
              refine g_iload (pc := 85) hX d_Wa_reachNeighbors_85 1 rfl ?_
              refine g_iadd (pc := 87) hX d_Wa_reachNeighbors_87 ?_
              refine g_iload_n (pc := 88) hX d_Wa_reachNeighbors_88 rfl 4 rfl ?_
              obtain ⟨o9, e9, h⟩ := zbind h
              refine g_cvV (pc := 89) (w1 := []) (w2 := []) (st := []) (w' := (zwW c a0 a1 a2 o9)) hX zk_Wa_reach zs_Wa_reach zL_Wa_38 (c_Wa_reach c a0 a1 a2 x ((((10 : Int32) * ((l1 / (10 : Int32)) + o4)) + ((zrem l1 (10 : Int32)) + o3))) l2 e9) rfl rfl rfl rfl (zself _) (zself _).symm 0 8 rfl rfl rfl d_Wa_reachNeighbors_89 ?_
              refine g_iinc (pc := 92) (q := 5) (L' := [(3, .int ((l3 + (1 : Int32)))), (5, .int (((l1 / (10 : Int32)) + o4))), (4, .int (((zrem l1 (10 : Int32)) + o3))), (0, .ref a0), (1, .int l1), (2, .int l2)]) hX d_Wa_reachNeighbors_92 rfl zc_1 rfl rfl ?_
              refine g_goto (pc := 95) (tgt := 28) hX d_Wa_reachNeighbors_95 (by decide) ?_
              refine g_ls (L' := [(0, .ref a0), (1, .int l1), (2, .int l2), (3, .int ((l3 + (1 : Int32))))]) [3, 4, 5, 0] rfl ?_
              exact ih _ _ _ h
def k_Wa_reachNeighbors (x : zsW) (l1 : Int32) : Option (zsW) := (if l1 < 0 then k_Wa_reachNeighbors_28 l1 zFu ((0 : Int32)) ((0 : Int32)) x else (if l1 < (100 : Int32) then (if zOut l1 100 then none else k_Wa_reachNeighbors_28 l1 zFu (((x.1 l1.toNatClampNeg) + (1 : Int32))) ((0 : Int32)) x) else k_Wa_reachNeighbors_28 l1 zFu ((0 : Int32)) ((0 : Int32)) x))
set_option maxRecDepth 20000 in
theorem c_Wa_reachNeighbors (c : zY) (a0 a1 a2 : Nat) (x : zsW) (l1 : Int32) {out : zsW} (h : k_Wa_reachNeighbors x l1 = some out) : KM zy_Wa_reachNeighbors zb_Wa_reachNeighbors 6 none 1 c [.ref a0, .int l1] (zwW c a0 a1 a2 x) (zwW c a0 a1 a2 out) none := zK_of zp_Wa rfl (Nat.le_of_ble_eq_true rfl) (zq_Wa c a0 a1 a2 _ _) (fun X hX hR => by
  show Go X (zwW c a0 a1 a2 x) [(0, .ref a0), (1, .int l1)] 0 []
  rw [k_Wa_reachNeighbors] at h
  refine g_iload_n (pc := 0) hX d_Wa_reachNeighbors_0 rfl 1 rfl ?_
  refine g_if_lt (pc := 1) (tgt := 24) hX d_Wa_reachNeighbors_1 (by decide) h (fun c1 h => ?_) (fun c1 h => ?_)
  · refine g_iconst (pc := 24) hX d_Wa_reachNeighbors_24 zc_0 ?_
    refine g_istore_n (pc := 25) (L' := [(2, .int ((0 : Int32))), (0, .ref a0), (1, .int l1)]) hX d_Wa_reachNeighbors_25 rfl rfl rfl ?_
    refine g_iconst (pc := 26) hX d_Wa_reachNeighbors_26 zc_0 ?_
    refine g_istore_n (pc := 27) (L' := [(3, .int ((0 : Int32))), (2, .int ((0 : Int32))), (0, .ref a0), (1, .int l1)]) hX d_Wa_reachNeighbors_27 rfl rfl rfl ?_
    refine g_ls (L' := [(0, .ref a0), (1, .int l1), (2, .int ((0 : Int32))), (3, .int ((0 : Int32)))]) [2, 3, 1, 0] rfl ?_
    exact w_Wa_reachNeighbors_28 hX hR _ _ _ _ h
  · refine g_iload_n (pc := 4) hX d_Wa_reachNeighbors_4 rfl 1 rfl ?_
    refine g_aload_n (pc := 5) hX d_Wa_reachNeighbors_5 rfl 0 rfl ?_
    refine gf_Wa_9 (pc := 6) (v := .ref a1) hX 0 rfl rfl d_Wa_reachNeighbors_6 ?_
    refine g_alen (pc := 9) (v := (100 : Int32)) hX 1 rfl rfl d_Wa_reachNeighbors_9 ?_
    refine g_icmp_ge (pc := 10) (tgt := 24) hX d_Wa_reachNeighbors_10 (by decide) h (fun c10 h => ?_) (fun c10 h => ?_)
    · refine g_iconst (pc := 24) hX d_Wa_reachNeighbors_24 zc_0 ?_
      refine g_istore_n (pc := 25) (L' := [(2, .int ((0 : Int32))), (0, .ref a0), (1, .int l1)]) hX d_Wa_reachNeighbors_25 rfl rfl rfl ?_
      refine g_iconst (pc := 26) hX d_Wa_reachNeighbors_26 zc_0 ?_
      refine g_istore_n (pc := 27) (L' := [(3, .int ((0 : Int32))), (2, .int ((0 : Int32))), (0, .ref a0), (1, .int l1)]) hX d_Wa_reachNeighbors_27 rfl rfl rfl ?_
      refine g_ls (L' := [(0, .ref a0), (1, .int l1), (2, .int ((0 : Int32))), (3, .int ((0 : Int32)))]) [2, 3, 1, 0] rfl ?_
      exact w_Wa_reachNeighbors_28 hX hR _ _ _ _ h
    · refine g_aload_n (pc := 13) hX d_Wa_reachNeighbors_13 rfl 0 rfl ?_
      refine gf_Wa_9 (pc := 14) (v := .ref a1) hX 0 rfl rfl d_Wa_reachNeighbors_14 ?_
      refine g_iload_n (pc := 17) hX d_Wa_reachNeighbors_17 rfl 1 rfl ?_
      refine g_iald (pc := 18) (f := x.1) hX 1 rfl h d_Wa_reachNeighbors_18 (fun h => ?_)
      refine g_iconst (pc := 19) hX d_Wa_reachNeighbors_19 zc_1 ?_
      refine g_iadd (pc := 20) hX d_Wa_reachNeighbors_20 ?_
      refine g_goto (pc := 21) (tgt := 25) hX d_Wa_reachNeighbors_21 (by decide) ?_
      refine g_istore_n (pc := 25) (L' := [(2, .int (((x.1 l1.toNatClampNeg) + (1 : Int32)))), (0, .ref a0), (1, .int l1)]) hX d_Wa_reachNeighbors_25 rfl rfl rfl ?_
      refine g_iconst (pc := 26) hX d_Wa_reachNeighbors_26 zc_0 ?_
      refine g_istore_n (pc := 27) (L' := [(3, .int ((0 : Int32))), (2, .int (((x.1 l1.toNatClampNeg) + (1 : Int32)))), (0, .ref a0), (1, .int l1)]) hX d_Wa_reachNeighbors_27 rfl rfl rfl ?_
      refine g_ls (L' := [(0, .ref a0), (1, .int l1), (2, .int (((x.1 l1.toNatClampNeg) + (1 : Int32)))), (3, .int ((0 : Int32)))]) [2, 3, 1, 0] rfl ?_
      exact w_Wa_reachNeighbors_28 hX hR _ _ _ _ h)
theorem d_Wa_markClosed_0 : decode zb_Wa_markClosed 0 = .ok (.iconst 0, 1) := by decide +kernel
theorem d_Wa_markClosed_1 : decode zb_Wa_markClosed 1 = .ok (.istore_n 3, 1) := by decide +kernel
theorem d_Wa_markClosed_2 : decode zb_Wa_markClosed 2 = .ok (.iload_n 3, 1) := by decide +kernel
theorem d_Wa_markClosed_3 : decode zb_Wa_markClosed 3 = .ok (.aload_n 0, 1) := by decide +kernel
theorem d_Wa_markClosed_4 : decode zb_Wa_markClosed 4 = .ok (.getfield 9, 3) := by decide +kernel
theorem d_Wa_markClosed_7 : decode zb_Wa_markClosed 7 = .ok (.arraylength, 1) := by decide +kernel
theorem d_Wa_markClosed_8 : decode zb_Wa_markClosed 8 = .ok (.if_icmp .ge 34, 3) := by decide +kernel
theorem d_Wa_markClosed_11 : decode zb_Wa_markClosed 11 = .ok (.aload_n 0, 1) := by decide +kernel
theorem d_Wa_markClosed_12 : decode zb_Wa_markClosed 12 = .ok (.getfield 9, 3) := by decide +kernel
theorem d_Wa_markClosed_15 : decode zb_Wa_markClosed 15 = .ok (.iload_n 3, 1) := by decide +kernel
theorem d_Wa_markClosed_16 : decode zb_Wa_markClosed 16 = .ok (.aload_n 1, 1) := by decide +kernel
theorem d_Wa_markClosed_17 : decode zb_Wa_markClosed 17 = .ok (.getfield 46, 3) := by decide +kernel
theorem d_Wa_markClosed_20 : decode zb_Wa_markClosed 20 = .ok (.iload_n 3, 1) := by decide +kernel
theorem d_Wa_markClosed_21 : decode zb_Wa_markClosed 21 = .ok (.iconst 0, 1) := by decide +kernel
theorem d_Wa_markClosed_22 : decode zb_Wa_markClosed 22 = .ok (.invokevirtual 50, 3) := by decide +kernel
theorem d_Wa_markClosed_25 : decode zb_Wa_markClosed 25 = .ok (.iconst 1, 1) := by decide +kernel
theorem d_Wa_markClosed_26 : decode zb_Wa_markClosed 26 = .ok (.if_icmp .ne 8, 3) := by decide +kernel
theorem d_Wa_markClosed_29 : decode zb_Wa_markClosed 29 = .ok (.bipush (-2), 2) := by decide +kernel
theorem d_Wa_markClosed_31 : decode zb_Wa_markClosed 31 = .ok (.goto 4, 3) := by decide +kernel
theorem d_Wa_markClosed_34 : decode zb_Wa_markClosed 34 = .ok (.iconst (-1), 1) := by decide +kernel
theorem d_Wa_markClosed_35 : decode zb_Wa_markClosed 35 = .ok (.iastore, 1) := by decide +kernel
theorem d_Wa_markClosed_36 : decode zb_Wa_markClosed 36 = .ok (.iinc 3 1, 3) := by decide +kernel
theorem d_Wa_markClosed_39 : decode zb_Wa_markClosed 39 = .ok (.goto (-37), 3) := by decide +kernel
theorem d_Wa_markClosed_42 : decode zb_Wa_markClosed 42 = .ok (.iconst 0, 1) := by decide +kernel
theorem d_Wa_markClosed_43 : decode zb_Wa_markClosed 43 = .ok (.istore_n 3, 1) := by decide +kernel
theorem d_Wa_markClosed_44 : decode zb_Wa_markClosed 44 = .ok (.iload_n 3, 1) := by decide +kernel
theorem d_Wa_markClosed_45 : decode zb_Wa_markClosed 45 = .ok (.aload_n 1, 1) := by decide +kernel
theorem d_Wa_markClosed_46 : decode zb_Wa_markClosed 46 = .ok (.getfield 26, 3) := by decide +kernel
theorem d_Wa_markClosed_49 : decode zb_Wa_markClosed 49 = .ok (.invokevirtual 55, 3) := by decide +kernel
theorem d_Wa_markClosed_52 : decode zb_Wa_markClosed 52 = .ok (.if_icmp .ge 79, 3) := by decide +kernel
theorem d_Wa_markClosed_55 : decode zb_Wa_markClosed 55 = .ok (.aload_n 1, 1) := by decide +kernel
theorem d_Wa_markClosed_56 : decode zb_Wa_markClosed 56 = .ok (.getfield 26, 3) := by decide +kernel
theorem d_Wa_markClosed_59 : decode zb_Wa_markClosed 59 = .ok (.iload_n 3, 1) := by decide +kernel
theorem d_Wa_markClosed_60 : decode zb_Wa_markClosed 60 = .ok (.iconst 1, 1) := by decide +kernel
theorem d_Wa_markClosed_61 : decode zb_Wa_markClosed 61 = .ok (.invokevirtual 34, 3) := by decide +kernel
theorem d_Wa_markClosed_64 : decode zb_Wa_markClosed 64 = .ok (.istore 4, 2) := by decide +kernel
theorem d_Wa_markClosed_66 : decode zb_Wa_markClosed 66 = .ok (.aload_n 1, 1) := by decide +kernel
theorem d_Wa_markClosed_67 : decode zb_Wa_markClosed 67 = .ok (.getfield 26, 3) := by decide +kernel
theorem d_Wa_markClosed_70 : decode zb_Wa_markClosed 70 = .ok (.iload_n 2, 1) := by decide +kernel
theorem d_Wa_markClosed_71 : decode zb_Wa_markClosed 71 = .ok (.iload_n 3, 1) := by decide +kernel
theorem d_Wa_markClosed_72 : decode zb_Wa_markClosed 72 = .ok (.invokevirtual 59, 3) := by decide +kernel
theorem d_Wa_markClosed_75 : decode zb_Wa_markClosed 75 = .ok (.ifCond .eq 18, 3) := by decide +kernel
theorem d_Wa_markClosed_78 : decode zb_Wa_markClosed 78 = .ok (.aload_n 1, 1) := by decide +kernel
theorem d_Wa_markClosed_79 : decode zb_Wa_markClosed 79 = .ok (.getfield 26, 3) := by decide +kernel
theorem d_Wa_markClosed_82 : decode zb_Wa_markClosed 82 = .ok (.iload_n 3, 1) := by decide +kernel
theorem d_Wa_markClosed_83 : decode zb_Wa_markClosed 83 = .ok (.invokevirtual 63, 3) := by decide +kernel
theorem d_Wa_markClosed_86 : decode zb_Wa_markClosed 86 = .ok (.ifCond .ne 7, 3) := by decide +kernel
theorem d_Wa_markClosed_89 : decode zb_Wa_markClosed 89 = .ok (.iconst 1, 1) := by decide +kernel
theorem d_Wa_markClosed_90 : decode zb_Wa_markClosed 90 = .ok (.goto 4, 3) := by decide +kernel
theorem d_Wa_markClosed_93 : decode zb_Wa_markClosed 93 = .ok (.iconst 0, 1) := by decide +kernel
theorem d_Wa_markClosed_94 : decode zb_Wa_markClosed 94 = .ok (.istore 5, 2) := by decide +kernel
theorem d_Wa_markClosed_96 : decode zb_Wa_markClosed 96 = .ok (.iload 5, 2) := by decide +kernel
theorem d_Wa_markClosed_98 : decode zb_Wa_markClosed 98 = .ok (.ifCond .eq 27, 3) := by decide +kernel
theorem d_Wa_markClosed_101 : decode zb_Wa_markClosed 101 = .ok (.iload 4, 2) := by decide +kernel
theorem d_Wa_markClosed_103 : decode zb_Wa_markClosed 103 = .ok (.ifCond .lt 22, 3) := by decide +kernel
theorem d_Wa_markClosed_106 : decode zb_Wa_markClosed 106 = .ok (.iload 4, 2) := by decide +kernel
theorem d_Wa_markClosed_108 : decode zb_Wa_markClosed 108 = .ok (.aload_n 0, 1) := by decide +kernel
theorem d_Wa_markClosed_109 : decode zb_Wa_markClosed 109 = .ok (.getfield 9, 3) := by decide +kernel
theorem d_Wa_markClosed_112 : decode zb_Wa_markClosed 112 = .ok (.arraylength, 1) := by decide +kernel
theorem d_Wa_markClosed_113 : decode zb_Wa_markClosed 113 = .ok (.if_icmp .ge 12, 3) := by decide +kernel
theorem d_Wa_markClosed_116 : decode zb_Wa_markClosed 116 = .ok (.aload_n 0, 1) := by decide +kernel
theorem d_Wa_markClosed_117 : decode zb_Wa_markClosed 117 = .ok (.getfield 9, 3) := by decide +kernel
theorem d_Wa_markClosed_120 : decode zb_Wa_markClosed 120 = .ok (.iload 4, 2) := by decide +kernel
theorem d_Wa_markClosed_122 : decode zb_Wa_markClosed 122 = .ok (.bipush (-2), 2) := by decide +kernel
theorem d_Wa_markClosed_124 : decode zb_Wa_markClosed 124 = .ok (.iastore, 1) := by decide +kernel
theorem d_Wa_markClosed_125 : decode zb_Wa_markClosed 125 = .ok (.iinc 3 1, 3) := by decide +kernel
theorem d_Wa_markClosed_128 : decode zb_Wa_markClosed 128 = .ok (.goto (-84), 3) := by decide +kernel
theorem d_Wa_markClosed_131 : decode zb_Wa_markClosed 131 = .ok (.return_, 1) := by decide +kernel
def k_Wa_markClosed_94 (y : zsS) (l2 : Int32) (kf_44 : Int32 → zsW → Option (zsW)) (l3 : Int32) (l4 : Int32) (s0 : Int32) (x : zsW) : Option (zsW) := (if s0 = 0 then kf_44 ((l3 + (1 : Int32))) x else (if l4 < 0 then kf_44 ((l3 + (1 : Int32))) x else (if l4 < (100 : Int32) then (if zOut l4 100 then none else kf_44 ((l3 + (1 : Int32))) (((upd x.1 l4.toNatClampNeg ((-2 : Int32))), x.2.1, x.2.2))) else kf_44 ((l3 + (1 : Int32))) x)))
set_option maxRecDepth 20000 in
theorem w_Wa_markClosed_94 {X : zX} {c : zY} {a0 a1 a2 : Nat} {q : Nat → Nat} {y : zsS} {l2 : Int32} {out : zsW} {kf_44 : Int32 → zsW → Option (zsW)} (hX : Ok X zr_Wa zb_Wa_markClosed 6 2 c) (hR : Rt X none none (zwWS c a0 a1 a2 q y out)) (hk_44 : ∀ (l3 : Int32) (x : zsW), kf_44 l3 x = some out → Go X (zwWS c a0 a1 a2 q y x) [(0, .ref a0), (1, .ref ((q 12))), (2, .int l2), (3, .int l3)] 44 []) : ∀ (l3 : Int32) (l4 : Int32) (s0 : Int32) (x : zsW), k_Wa_markClosed_94 y l2 kf_44 l3 l4 s0 x = some out → Go X (zwWS c a0 a1 a2 q y x) [(0, .ref a0), (1, .ref ((q 12))), (2, .int l2), (3, .int l3), (4, .int l4)] 94 [.int s0] := by
  intro l3 l4 s0 x h
  rw [k_Wa_markClosed_94] at h
  refine g_istore (pc := 94) (L' := [(5, .int s0), (0, .ref a0), (1, .ref ((q 12))), (2, .int l2), (3, .int l3), (4, .int l4)]) hX d_Wa_markClosed_94 rfl rfl ?_
  refine g_iload (pc := 96) hX d_Wa_markClosed_96 0 rfl ?_
  refine g_if_eq (pc := 98) (tgt := 125) hX d_Wa_markClosed_98 (by decide) h (fun c7 h => ?_) (fun c7 h => ?_)
  · refine g_iinc (pc := 125) (q := 4) (L' := [(3, .int ((l3 + (1 : Int32)))), (5, .int s0), (0, .ref a0), (1, .ref ((q 12))), (2, .int l2), (4, .int l4)]) hX d_Wa_markClosed_125 rfl zc_1 rfl rfl ?_
    refine g_goto (pc := 128) (tgt := 44) hX d_Wa_markClosed_128 (by decide) ?_
    refine g_ls (L' := [(0, .ref a0), (1, .ref ((q 12))), (2, .int l2), (3, .int ((l3 + (1 : Int32))))]) [2, 3, 4, 0] rfl ?_
    exact hk_44 _ _ h
  · refine g_iload (pc := 101) hX d_Wa_markClosed_101 5 rfl ?_
    refine g_if_lt (pc := 103) (tgt := 125) hX d_Wa_markClosed_103 (by decide) h (fun c8 h => ?_) (fun c8 h => ?_)
    · refine g_iinc (pc := 125) (q := 4) (L' := [(3, .int ((l3 + (1 : Int32)))), (5, .int s0), (0, .ref a0), (1, .ref ((q 12))), (2, .int l2), (4, .int l4)]) hX d_Wa_markClosed_125 rfl zc_1 rfl rfl ?_
      refine g_goto (pc := 128) (tgt := 44) hX d_Wa_markClosed_128 (by decide) ?_
      refine g_ls (L' := [(0, .ref a0), (1, .ref ((q 12))), (2, .int l2), (3, .int ((l3 + (1 : Int32))))]) [2, 3, 4, 0] rfl ?_
      exact hk_44 _ _ h
    · refine g_iload (pc := 106) hX d_Wa_markClosed_106 5 rfl ?_
      refine g_aload_n (pc := 108) hX d_Wa_markClosed_108 rfl 1 rfl ?_
      refine gf_Wa_9 (pc := 109) (v := .ref a1) hX 0 rfl rfl d_Wa_markClosed_109 ?_
      refine g_alen (pc := 112) (v := (100 : Int32)) hX 1 rfl rfl d_Wa_markClosed_112 ?_
      refine g_icmp_ge (pc := 113) (tgt := 125) hX d_Wa_markClosed_113 (by decide) h (fun c9 h => ?_) (fun c9 h => ?_)
      · refine g_iinc (pc := 125) (q := 4) (L' := [(3, .int ((l3 + (1 : Int32)))), (5, .int s0), (0, .ref a0), (1, .ref ((q 12))), (2, .int l2), (4, .int l4)]) hX d_Wa_markClosed_125 rfl zc_1 rfl rfl ?_
        refine g_goto (pc := 128) (tgt := 44) hX d_Wa_markClosed_128 (by decide) ?_
        refine g_ls (L' := [(0, .ref a0), (1, .ref ((q 12))), (2, .int l2), (3, .int ((l3 + (1 : Int32))))]) [2, 3, 4, 0] rfl ?_
        exact hk_44 _ _ h
      · refine g_aload_n (pc := 116) hX d_Wa_markClosed_116 rfl 1 rfl ?_
        refine gf_Wa_9 (pc := 117) (v := .ref a1) hX 0 rfl rfl d_Wa_markClosed_117 ?_
        refine g_iload (pc := 120) hX d_Wa_markClosed_120 5 rfl ?_
        refine g_bipush (pc := 122) hX d_Wa_markClosed_122 ze_m2 ?_
        refine g_iast (pc := 124) (f := x.1) (w' := (zwWS c a0 a1 a2 q y (((upd x.1 l4.toNatClampNeg ((-2 : Int32))), x.2.1, x.2.2)))) hX 1 rfl h (sa_WS_1 c a0 a1 a2 q y x (upd x.1 l4.toNatClampNeg ((-2 : Int32)))) d_Wa_markClosed_124 (fun h => ?_)
        refine g_iinc (pc := 125) (q := 4) (L' := [(3, .int ((l3 + (1 : Int32)))), (5, .int s0), (0, .ref a0), (1, .ref ((q 12))), (2, .int l2), (4, .int l4)]) hX d_Wa_markClosed_125 rfl zc_1 rfl rfl ?_
        refine g_goto (pc := 128) (tgt := 44) hX d_Wa_markClosed_128 (by decide) ?_
        refine g_ls (L' := [(0, .ref a0), (1, .ref ((q 12))), (2, .int l2), (3, .int ((l3 + (1 : Int32))))]) [2, 3, 4, 0] rfl ?_
        exact hk_44 _ _ h
def k_Wa_markClosed_44 (y : zsS) (l2 : Int32) : Nat → Int32 → zsW → Option (zsW)
  | 0, _, _ => none
  | fu + 1, l3, x => (k_Fi_size y.1.1).bind fun o2 => (if l3 < o2 then (k_Fi_at y.1.1 l3 ((1 : Int32))).bind fun o4 => (k_Fi_areFoes y.1.1 l2 l3).bind fun o5 => (if o5 = 0 then k_Wa_markClosed_94 y l2 (k_Wa_markClosed_44 y l2 fu) l3 o4 ((0 : Int32)) x else (k_Fi_isDown y.1.1 l3).bind fun o10 => (if o10 = 0 then k_Wa_markClosed_94 y l2 (k_Wa_markClosed_44 y l2 fu) l3 o4 ((1 : Int32)) x else k_Wa_markClosed_94 y l2 (k_Wa_markClosed_44 y l2 fu) l3 o4 ((0 : Int32)) x)) else some x)
set_option maxRecDepth 20000 in
theorem w_Wa_markClosed_44 {X : zX} {c : zY} {a0 a1 a2 : Nat} {q : Nat → Nat} {y : zsS} {l2 : Int32} {out : zsW} (hX : Ok X zr_Wa zb_Wa_markClosed 6 2 c) (hR : Rt X none none (zwWS c a0 a1 a2 q y out)) : ∀ (fu : Nat) (l3 : Int32) (x : zsW), k_Wa_markClosed_44 y l2 fu l3 x = some out → Go X (zwWS c a0 a1 a2 q y x) [(0, .ref a0), (1, .ref ((q 12))), (2, .int l2), (3, .int l3)] 44 [] := by
  intro fu
  induction fu with
  | zero => intro l3 x h; rw [k_Wa_markClosed_44] at h; cases h
  | succ fu ih =>
    intro l3 x h
    rw [k_Wa_markClosed_44] at h
    refine g_iload_n (pc := 44) hX d_Wa_markClosed_44 rfl 3 rfl ?_
    refine g_aload_n (pc := 45) hX d_Wa_markClosed_45 rfl 1 rfl ?_
    refine gf_Wa_26 (pc := 46) (v := .ref ((q 6))) hX 15 rfl rfl d_Wa_markClosed_46 ?_
    obtain ⟨o2, e2, h⟩ := zbind h
    refine g_cvI (pc := 49)  (st := [.int l3]) (w' := (zwWS c a0 a1 a2 q y x)) hX zk_Fi_size zs_Fi_size zL_Wa_55 (c_Fi_size c q y.1.1 e2) rfl rfl rfl rfl (sp_WS_Fi_3 c a0 a1 a2 q y x) (sp_WS_Fi_3 c a0 a1 a2 q y x).symm 9 3 rfl rfl rfl d_Wa_markClosed_49 ?_
    refine g_icmp_ge (pc := 52) (tgt := 131) hX d_Wa_markClosed_52 (by decide) h (fun c3 h => ?_) (fun c3 h => ?_)
    · obtain rfl := Option.some.inj h
      exact g_vret (pc := 131) hX hR d_Wa_markClosed_131
    · refine g_aload_n (pc := 55) hX d_Wa_markClosed_55 rfl 1 rfl ?_
      refine gf_Wa_26 (pc := 56) (v := .ref ((q 6))) hX 15 rfl rfl d_Wa_markClosed_56 ?_
      refine g_iload_n (pc := 59) hX d_Wa_markClosed_59 rfl 3 rfl ?_
      refine g_iconst (pc := 60) hX d_Wa_markClosed_60 zc_1 ?_
      obtain ⟨o4, e4, h⟩ := zbind h
      refine g_cvI (pc := 61)  (st := []) (w' := (zwWS c a0 a1 a2 q y x)) hX zk_Fi_at zs_Fi_at zL_Wa_34 (c_Fi_at c q y.1.1 l3 ((1 : Int32)) e4) rfl rfl rfl rfl (sp_WS_Fi_3 c a0 a1 a2 q y x) (sp_WS_Fi_3 c a0 a1 a2 q y x).symm 9 3 rfl rfl rfl d_Wa_markClosed_61 ?_
      refine g_istore (pc := 64) (L' := [(4, .int o4), (0, .ref a0), (1, .ref ((q 12))), (2, .int l2), (3, .int l3)]) hX d_Wa_markClosed_64 rfl rfl ?_
      refine g_aload_n (pc := 66) hX d_Wa_markClosed_66 rfl 2 rfl ?_
      refine gf_Wa_26 (pc := 67) (v := .ref ((q 6))) hX 15 rfl rfl d_Wa_markClosed_67 ?_
      refine g_iload_n (pc := 70) hX d_Wa_markClosed_70 rfl 3 rfl ?_
      refine g_iload_n (pc := 71) hX d_Wa_markClosed_71 rfl 4 rfl ?_
      obtain ⟨o5, e5, h⟩ := zbind h
      refine g_cvI (pc := 72)  (st := []) (w' := (zwWS c a0 a1 a2 q y x)) hX zk_Fi_areFoes zs_Fi_areFoes zL_Wa_59 (c_Fi_areFoes c q y.1.1 l2 l3 e5) rfl rfl rfl rfl (sp_WS_Fi_3 c a0 a1 a2 q y x) (sp_WS_Fi_3 c a0 a1 a2 q y x).symm 9 3 rfl rfl rfl d_Wa_markClosed_72 ?_
      refine g_if_eq (pc := 75) (tgt := 93) hX d_Wa_markClosed_75 (by decide) h (fun c6 h => ?_) (fun c6 h => ?_)
      · refine g_iconst (pc := 93) hX d_Wa_markClosed_93 zc_0 ?_
        refine g_ls (L' := [(0, .ref a0), (1, .ref ((q 12))), (2, .int l2), (3, .int l3), (4, .int o4)]) [1, 2, 3, 4, 0] rfl ?_
        exact w_Wa_markClosed_94 hX hR ih _ _ _ _ h
      · refine g_aload_n (pc := 78) hX d_Wa_markClosed_78 rfl 2 rfl ?_
        refine gf_Wa_26 (pc := 79) (v := .ref ((q 6))) hX 15 rfl rfl d_Wa_markClosed_79 ?_
        refine g_iload_n (pc := 82) hX d_Wa_markClosed_82 rfl 4 rfl ?_
        obtain ⟨o10, e10, h⟩ := zbind h
        refine g_cvI (pc := 83)  (st := []) (w' := (zwWS c a0 a1 a2 q y x)) hX zk_Fi_isDown zs_Fi_isDown zL_Wa_63 (c_Fi_isDown c q y.1.1 l3 e10) rfl rfl rfl rfl (sp_WS_Fi_3 c a0 a1 a2 q y x) (sp_WS_Fi_3 c a0 a1 a2 q y x).symm 9 3 rfl rfl rfl d_Wa_markClosed_83 ?_
        refine g_if_ne (pc := 86) (tgt := 93) hX d_Wa_markClosed_86 (by decide) h (fun c11 h => ?_) (fun c11 h => ?_)
        · refine g_iconst (pc := 93) hX d_Wa_markClosed_93 zc_0 ?_
          refine g_ls (L' := [(0, .ref a0), (1, .ref ((q 12))), (2, .int l2), (3, .int l3), (4, .int o4)]) [1, 2, 3, 4, 0] rfl ?_
          exact w_Wa_markClosed_94 hX hR ih _ _ _ _ h
        · refine g_iconst (pc := 89) hX d_Wa_markClosed_89 zc_1 ?_
          refine g_goto (pc := 90) (tgt := 94) hX d_Wa_markClosed_90 (by decide) ?_
          refine g_ls (L' := [(0, .ref a0), (1, .ref ((q 12))), (2, .int l2), (3, .int l3), (4, .int o4)]) [1, 2, 3, 4, 0] rfl ?_
          exact w_Wa_markClosed_94 hX hR ih _ _ _ _ h
def k_Wa_markClosed_35 (y : zsS) (l2 : Int32) (kf_2 : Int32 → zsW → Option (zsW)) (l3 : Int32) (s0 : Int32) (s1 : Int32) (x : zsW) : Option (zsW) := (if zOut s1 100 then none else kf_2 ((l3 + (1 : Int32))) (((upd x.1 s1.toNatClampNeg s0), x.2.1, x.2.2)))
set_option maxRecDepth 20000 in
theorem w_Wa_markClosed_35 {X : zX} {c : zY} {a0 a1 a2 : Nat} {q : Nat → Nat} {y : zsS} {l2 : Int32} {out : zsW} {kf_2 : Int32 → zsW → Option (zsW)} (hX : Ok X zr_Wa zb_Wa_markClosed 6 2 c) (hR : Rt X none none (zwWS c a0 a1 a2 q y out)) (hk_2 : ∀ (l3 : Int32) (x : zsW), kf_2 l3 x = some out → Go X (zwWS c a0 a1 a2 q y x) [(0, .ref a0), (1, .ref ((q 12))), (2, .int l2), (3, .int l3)] 2 []) : ∀ (l3 : Int32) (s0 : Int32) (s1 : Int32) (x : zsW), k_Wa_markClosed_35 y l2 kf_2 l3 s0 s1 x = some out → Go X (zwWS c a0 a1 a2 q y x) [(0, .ref a0), (1, .ref ((q 12))), (2, .int l2), (3, .int l3)] 35 [.int s0, .int s1, .ref a1] := by
  intro l3 s0 s1 x h
  rw [k_Wa_markClosed_35] at h
  refine g_iast (pc := 35) (f := x.1) (w' := (zwWS c a0 a1 a2 q y (((upd x.1 s1.toNatClampNeg s0), x.2.1, x.2.2)))) hX 1 rfl h (sa_WS_1 c a0 a1 a2 q y x (upd x.1 s1.toNatClampNeg s0)) d_Wa_markClosed_35 (fun h => ?_)
  refine g_iinc (pc := 36) (q := 3) (L' := [(3, .int ((l3 + (1 : Int32)))), (0, .ref a0), (1, .ref ((q 12))), (2, .int l2)]) hX d_Wa_markClosed_36 rfl zc_1 rfl rfl ?_
  refine g_goto (pc := 39) (tgt := 2) hX d_Wa_markClosed_39 (by decide) ?_
  refine g_ls (L' := [(0, .ref a0), (1, .ref ((q 12))), (2, .int l2), (3, .int ((l3 + (1 : Int32))))]) [1, 2, 3, 0] rfl ?_
  exact hk_2 _ _ h
def k_Wa_markClosed_2 (y : zsS) (l2 : Int32) : Nat → Int32 → zsW → Option (zsW)
  | 0, _, _ => none
  | fu + 1, l3, x => (if l3 < (100 : Int32) then (k_Ta_get 1 100 y.2.1 l3 ((0 : Int32))).bind fun o12 => (if o12 = (1 : Int32) then k_Wa_markClosed_35 y l2 (k_Wa_markClosed_2 y l2 fu) l3 ((-2 : Int32)) l3 x else k_Wa_markClosed_35 y l2 (k_Wa_markClosed_2 y l2 fu) l3 ((-1 : Int32)) l3 x) else k_Wa_markClosed_44 y l2 zFu ((0 : Int32)) x)
set_option maxRecDepth 20000 in
theorem w_Wa_markClosed_2 {X : zX} {c : zY} {a0 a1 a2 : Nat} {q : Nat → Nat} {y : zsS} {l2 : Int32} {out : zsW} (hX : Ok X zr_Wa zb_Wa_markClosed 6 2 c) (hR : Rt X none none (zwWS c a0 a1 a2 q y out)) : ∀ (fu : Nat) (l3 : Int32) (x : zsW), k_Wa_markClosed_2 y l2 fu l3 x = some out → Go X (zwWS c a0 a1 a2 q y x) [(0, .ref a0), (1, .ref ((q 12))), (2, .int l2), (3, .int l3)] 2 [] := by
  intro fu
  induction fu with
  | zero => intro l3 x h; rw [k_Wa_markClosed_2] at h; cases h
  | succ fu ih =>
    intro l3 x h
    rw [k_Wa_markClosed_2] at h
    refine g_iload_n (pc := 2) hX d_Wa_markClosed_2 rfl 3 rfl ?_
    refine g_aload_n (pc := 3) hX d_Wa_markClosed_3 rfl 0 rfl ?_
    refine gf_Wa_9 (pc := 4) (v := .ref a1) hX 0 rfl rfl d_Wa_markClosed_4 ?_
    refine g_alen (pc := 7) (v := (100 : Int32)) hX 1 rfl rfl d_Wa_markClosed_7 ?_
    refine g_icmp_ge (pc := 8) (tgt := 42) hX d_Wa_markClosed_8 (by decide) h (fun c1 h => ?_) (fun c1 h => ?_)
    · refine g_iconst (pc := 42) hX d_Wa_markClosed_42 zc_0 ?_
      refine g_istore_n (pc := 43) (L' := [(3, .int ((0 : Int32))), (0, .ref a0), (1, .ref ((q 12))), (2, .int l2)]) hX d_Wa_markClosed_43 rfl rfl rfl ?_
      refine g_ls (L' := [(0, .ref a0), (1, .ref ((q 12))), (2, .int l2), (3, .int ((0 : Int32)))]) [1, 2, 3, 0] rfl ?_
      exact w_Wa_markClosed_44 hX hR _ _ _ h
    · refine g_aload_n (pc := 11) hX d_Wa_markClosed_11 rfl 0 rfl ?_
      refine gf_Wa_9 (pc := 12) (v := .ref a1) hX 0 rfl rfl d_Wa_markClosed_12 ?_
      refine g_iload_n (pc := 15) hX d_Wa_markClosed_15 rfl 3 rfl ?_
      refine g_aload_n (pc := 16) hX d_Wa_markClosed_16 rfl 1 rfl ?_
      refine gf_Wa_46 (pc := 17) (v := .ref ((q 13))) hX 15 rfl rfl d_Wa_markClosed_17 ?_
      refine g_iload_n (pc := 20) hX d_Wa_markClosed_20 rfl 3 rfl ?_
      refine g_iconst (pc := 21) hX d_Wa_markClosed_21 zc_0 ?_
      obtain ⟨o12, e12, h⟩ := zbind h
      refine g_cvI (pc := 22)  (st := [.int l3, .ref a1]) (w' := (zwWS c a0 a1 a2 q y x)) hX zk_Ta_get zs_Ta_get zL_Wa_50 (c_Ta_get c (q 13) (q 14) 1 100 y.2.1 l3 ((0 : Int32)) e12) rfl rfl rfl rfl (sp_WS_Ta_16 c a0 a1 a2 q y x) (sp_WS_Ta_16 c a0 a1 a2 q y x).symm 16 6 rfl rfl rfl d_Wa_markClosed_22 ?_
      refine g_iconst (pc := 25) hX d_Wa_markClosed_25 zc_1 ?_
      refine g_icmp_ne (pc := 26) (tgt := 34) hX d_Wa_markClosed_26 (by decide) h (fun c13 h => ?_) (fun c13 h => ?_)
      · refine g_iconst (pc := 34) hX d_Wa_markClosed_34 zc_m1 ?_
        exact w_Wa_markClosed_35 hX hR ih _ _ _ _ h
      · refine g_bipush (pc := 29) hX d_Wa_markClosed_29 ze_m2 ?_
        refine g_goto (pc := 31) (tgt := 35) hX d_Wa_markClosed_31 (by decide) ?_
        exact w_Wa_markClosed_35 hX hR ih _ _ _ _ h
def k_Wa_markClosed (y : zsS) (x : zsW) (l2 : Int32) : Option (zsW) := k_Wa_markClosed_2 y l2 zFu ((0 : Int32)) x
set_option maxRecDepth 20000 in
theorem c_Wa_markClosed (c : zY) (a0 a1 a2 : Nat) (q : Nat → Nat) (y : zsS) (x : zsW) (l2 : Int32) {out : zsW} (h : k_Wa_markClosed y x l2 = some out) : KM zy_Wa_markClosed zb_Wa_markClosed 6 none 2 c [.ref a0, .ref ((q 12)), .int l2] (zwWS c a0 a1 a2 q y x) (zwWS c a0 a1 a2 q y out) none := zK_of zp_Wa rfl (Nat.le_of_ble_eq_true rfl) (zq_WS c a0 a1 a2 q y _ _) (fun X hX hR => by
  show Go X (zwWS c a0 a1 a2 q y x) [(0, .ref a0), (1, .ref ((q 12))), (2, .int l2)] 0 []
  rw [k_Wa_markClosed] at h
  refine g_iconst (pc := 0) hX d_Wa_markClosed_0 zc_0 ?_
  refine g_istore_n (pc := 1) (L' := [(3, .int ((0 : Int32))), (0, .ref a0), (1, .ref ((q 12))), (2, .int l2)]) hX d_Wa_markClosed_1 rfl rfl rfl ?_
  refine g_ls (L' := [(0, .ref a0), (1, .ref ((q 12))), (2, .int l2), (3, .int ((0 : Int32)))]) [1, 2, 3, 0] rfl ?_
  exact w_Wa_markClosed_2 hX hR _ _ _ h)
theorem d_Wa_measure_0 : decode zb_Wa_measure 0 = .ok (.aload_n 0, 1) := by decide +kernel
theorem d_Wa_measure_1 : decode zb_Wa_measure 1 = .ok (.iconst 0, 1) := by decide +kernel
theorem d_Wa_measure_2 : decode zb_Wa_measure 2 = .ok (.putfield 18, 3) := by decide +kernel
theorem d_Wa_measure_5 : decode zb_Wa_measure 5 = .ok (.aload_n 0, 1) := by decide +kernel
theorem d_Wa_measure_6 : decode zb_Wa_measure 6 = .ok (.aload_n 1, 1) := by decide +kernel
theorem d_Wa_measure_7 : decode zb_Wa_measure 7 = .ok (.iload_n 2, 1) := by decide +kernel
theorem d_Wa_measure_8 : decode zb_Wa_measure 8 = .ok (.invokevirtual 22, 3) := by decide +kernel
theorem d_Wa_measure_11 : decode zb_Wa_measure 11 = .ok (.aload_n 0, 1) := by decide +kernel
theorem d_Wa_measure_12 : decode zb_Wa_measure 12 = .ok (.aload_n 1, 1) := by decide +kernel
theorem d_Wa_measure_13 : decode zb_Wa_measure 13 = .ok (.getfield 26, 3) := by decide +kernel
theorem d_Wa_measure_16 : decode zb_Wa_measure 16 = .ok (.iload_n 2, 1) := by decide +kernel
theorem d_Wa_measure_17 : decode zb_Wa_measure 17 = .ok (.iconst 1, 1) := by decide +kernel
theorem d_Wa_measure_18 : decode zb_Wa_measure 18 = .ok (.invokevirtual 34, 3) := by decide +kernel
theorem d_Wa_measure_21 : decode zb_Wa_measure 21 = .ok (.iconst 0, 1) := by decide +kernel
theorem d_Wa_measure_22 : decode zb_Wa_measure 22 = .ok (.invokevirtual 38, 3) := by decide +kernel
theorem d_Wa_measure_25 : decode zb_Wa_measure 25 = .ok (.iconst 0, 1) := by decide +kernel
theorem d_Wa_measure_26 : decode zb_Wa_measure 26 = .ok (.istore 4, 2) := by decide +kernel
theorem d_Wa_measure_28 : decode zb_Wa_measure 28 = .ok (.iload 4, 2) := by decide +kernel
theorem d_Wa_measure_30 : decode zb_Wa_measure 30 = .ok (.aload_n 0, 1) := by decide +kernel
theorem d_Wa_measure_31 : decode zb_Wa_measure 31 = .ok (.getfield 18, 3) := by decide +kernel
theorem d_Wa_measure_34 : decode zb_Wa_measure 34 = .ok (.if_icmp .ge 30, 3) := by decide +kernel
theorem d_Wa_measure_37 : decode zb_Wa_measure 37 = .ok (.iload 4, 2) := by decide +kernel
theorem d_Wa_measure_39 : decode zb_Wa_measure 39 = .ok (.aload_n 0, 1) := by decide +kernel
theorem d_Wa_measure_40 : decode zb_Wa_measure 40 = .ok (.getfield 15, 3) := by decide +kernel
theorem d_Wa_measure_43 : decode zb_Wa_measure 43 = .ok (.arraylength, 1) := by decide +kernel
theorem d_Wa_measure_44 : decode zb_Wa_measure 44 = .ok (.if_icmp .ge 20, 3) := by decide +kernel
theorem d_Wa_measure_47 : decode zb_Wa_measure 47 = .ok (.aload_n 0, 1) := by decide +kernel
theorem d_Wa_measure_48 : decode zb_Wa_measure 48 = .ok (.aload_n 0, 1) := by decide +kernel
theorem d_Wa_measure_49 : decode zb_Wa_measure 49 = .ok (.getfield 15, 3) := by decide +kernel
theorem d_Wa_measure_52 : decode zb_Wa_measure 52 = .ok (.iload 4, 2) := by decide +kernel
theorem d_Wa_measure_54 : decode zb_Wa_measure 54 = .ok (.iaload, 1) := by decide +kernel
theorem d_Wa_measure_55 : decode zb_Wa_measure 55 = .ok (.invokevirtual 42, 3) := by decide +kernel
theorem d_Wa_measure_58 : decode zb_Wa_measure 58 = .ok (.iinc 4 1, 3) := by decide +kernel
theorem d_Wa_measure_61 : decode zb_Wa_measure 61 = .ok (.goto (-33), 3) := by decide +kernel
theorem d_Wa_measure_64 : decode zb_Wa_measure 64 = .ok (.iload_n 3, 1) := by decide +kernel
theorem d_Wa_measure_65 : decode zb_Wa_measure 65 = .ok (.ifCond .lt 25, 3) := by decide +kernel
theorem d_Wa_measure_68 : decode zb_Wa_measure 68 = .ok (.iload_n 3, 1) := by decide +kernel
theorem d_Wa_measure_69 : decode zb_Wa_measure 69 = .ok (.aload_n 0, 1) := by decide +kernel
theorem d_Wa_measure_70 : decode zb_Wa_measure 70 = .ok (.getfield 9, 3) := by decide +kernel
theorem d_Wa_measure_73 : decode zb_Wa_measure 73 = .ok (.arraylength, 1) := by decide +kernel
theorem d_Wa_measure_74 : decode zb_Wa_measure 74 = .ok (.if_icmp .ge 16, 3) := by decide +kernel
theorem d_Wa_measure_77 : decode zb_Wa_measure 77 = .ok (.aload_n 0, 1) := by decide +kernel
theorem d_Wa_measure_78 : decode zb_Wa_measure 78 = .ok (.getfield 9, 3) := by decide +kernel
theorem d_Wa_measure_81 : decode zb_Wa_measure 81 = .ok (.iload_n 3, 1) := by decide +kernel
theorem d_Wa_measure_82 : decode zb_Wa_measure 82 = .ok (.iaload, 1) := by decide +kernel
theorem d_Wa_measure_83 : decode zb_Wa_measure 83 = .ok (.ifCond .lt 7, 3) := by decide +kernel
theorem d_Wa_measure_86 : decode zb_Wa_measure 86 = .ok (.iconst 1, 1) := by decide +kernel
theorem d_Wa_measure_87 : decode zb_Wa_measure 87 = .ok (.goto 4, 3) := by decide +kernel
theorem d_Wa_measure_90 : decode zb_Wa_measure 90 = .ok (.iconst 0, 1) := by decide +kernel
theorem d_Wa_measure_91 : decode zb_Wa_measure 91 = .ok (.istore 4, 2) := by decide +kernel
theorem d_Wa_measure_93 : decode zb_Wa_measure 93 = .ok (.iload 4, 2) := by decide +kernel
theorem d_Wa_measure_95 : decode zb_Wa_measure 95 = .ok (.ifCond .eq 12, 3) := by decide +kernel
theorem d_Wa_measure_98 : decode zb_Wa_measure 98 = .ok (.aload_n 0, 1) := by decide +kernel
theorem d_Wa_measure_99 : decode zb_Wa_measure 99 = .ok (.getfield 9, 3) := by decide +kernel
theorem d_Wa_measure_102 : decode zb_Wa_measure 102 = .ok (.iload_n 3, 1) := by decide +kernel
theorem d_Wa_measure_103 : decode zb_Wa_measure 103 = .ok (.iaload, 1) := by decide +kernel
theorem d_Wa_measure_104 : decode zb_Wa_measure 104 = .ok (.goto 5, 3) := by decide +kernel
theorem d_Wa_measure_107 : decode zb_Wa_measure 107 = .ok (.bipush (-5), 2) := by decide +kernel
theorem d_Wa_measure_109 : decode zb_Wa_measure 109 = .ok (.ireturn, 1) := by decide +kernel
def k_Wa_measure_91 (y : zsS) (l2 : Int32) (l3 : Int32) (s0 : Int32) (x : zsW) : Option (Int32 × zsW) := (if s0 = 0 then some ((-5 : Int32), x) else (if zOut l3 100 then none else some ((x.1 l3.toNatClampNeg), x)))
set_option maxRecDepth 20000 in
theorem w_Wa_measure_91 {X : zX} {c : zY} {a0 a1 a2 : Nat} {q : Nat → Nat} {y : zsS} {l2 : Int32} {l3 : Int32} {out : Int32 × zsW} (hX : Ok X zr_Wa zb_Wa_measure 5 3 c) (hR : Rt X (some .int) (some (.int out.1)) (zwWS c a0 a1 a2 q y out.2)) : ∀ (s0 : Int32) (x : zsW), k_Wa_measure_91 y l2 l3 s0 x = some out → Go X (zwWS c a0 a1 a2 q y x) [(0, .ref a0), (3, .int l3)] 91 [.int s0] := by
  intro s0 x h
  rw [k_Wa_measure_91] at h
  refine g_istore (pc := 91) (L' := [(4, .int s0), (0, .ref a0), (3, .int l3)]) hX d_Wa_measure_91 rfl rfl ?_
  refine g_iload (pc := 93) hX d_Wa_measure_93 0 rfl ?_
  refine g_if_eq (pc := 95) (tgt := 107) hX d_Wa_measure_95 (by decide) h (fun c6 h => ?_) (fun c6 h => ?_)
  · refine g_bipush (pc := 107) hX d_Wa_measure_107 ze_m5 ?_
    obtain rfl := Option.some.inj h
    exact g_iret (pc := 109) hX hR d_Wa_measure_109
  · refine g_aload_n (pc := 98) hX d_Wa_measure_98 rfl 1 rfl ?_
    refine gf_Wa_9 (pc := 99) (v := .ref a1) hX 0 rfl rfl d_Wa_measure_99 ?_
    refine g_iload_n (pc := 102) hX d_Wa_measure_102 rfl 2 rfl ?_
    refine g_iald (pc := 103) (f := x.1) hX 1 rfl h d_Wa_measure_103 (fun h => ?_)
    refine g_goto (pc := 104) (tgt := 109) hX d_Wa_measure_104 (by decide) ?_
    obtain rfl := Option.some.inj h
    exact g_iret (pc := 109) hX hR d_Wa_measure_109
def k_Wa_measure_64 (y : zsS) (l2 : Int32) (l3 : Int32) (x : zsW) : Option (Int32 × zsW) := (if l3 < 0 then k_Wa_measure_91 y l2 l3 ((0 : Int32)) x else (if l3 < (100 : Int32) then (if zOut l3 100 then none else (if (x.1 l3.toNatClampNeg) < 0 then k_Wa_measure_91 y l2 l3 ((0 : Int32)) x else k_Wa_measure_91 y l2 l3 ((1 : Int32)) x)) else k_Wa_measure_91 y l2 l3 ((0 : Int32)) x))
set_option maxRecDepth 20000 in
theorem w_Wa_measure_64 {X : zX} {c : zY} {a0 a1 a2 : Nat} {q : Nat → Nat} {y : zsS} {l2 : Int32} {l3 : Int32} {out : Int32 × zsW} (hX : Ok X zr_Wa zb_Wa_measure 5 3 c) (hR : Rt X (some .int) (some (.int out.1)) (zwWS c a0 a1 a2 q y out.2)) : ∀ (x : zsW), k_Wa_measure_64 y l2 l3 x = some out → Go X (zwWS c a0 a1 a2 q y x) [(0, .ref a0), (3, .int l3)] 64 [] := by
  intro x h
  rw [k_Wa_measure_64] at h
  refine g_iload_n (pc := 64) hX d_Wa_measure_64 rfl 1 rfl ?_
  refine g_if_lt (pc := 65) (tgt := 90) hX d_Wa_measure_65 (by decide) h (fun c5 h => ?_) (fun c5 h => ?_)
  · refine g_iconst (pc := 90) hX d_Wa_measure_90 zc_0 ?_
    exact w_Wa_measure_91 hX hR _ _ h
  · refine g_iload_n (pc := 68) hX d_Wa_measure_68 rfl 1 rfl ?_
    refine g_aload_n (pc := 69) hX d_Wa_measure_69 rfl 0 rfl ?_
    refine gf_Wa_9 (pc := 70) (v := .ref a1) hX 0 rfl rfl d_Wa_measure_70 ?_
    refine g_alen (pc := 73) (v := (100 : Int32)) hX 1 rfl rfl d_Wa_measure_73 ?_
    refine g_icmp_ge (pc := 74) (tgt := 90) hX d_Wa_measure_74 (by decide) h (fun c7 h => ?_) (fun c7 h => ?_)
    · refine g_iconst (pc := 90) hX d_Wa_measure_90 zc_0 ?_
      exact w_Wa_measure_91 hX hR _ _ h
    · refine g_aload_n (pc := 77) hX d_Wa_measure_77 rfl 0 rfl ?_
      refine gf_Wa_9 (pc := 78) (v := .ref a1) hX 0 rfl rfl d_Wa_measure_78 ?_
      refine g_iload_n (pc := 81) hX d_Wa_measure_81 rfl 1 rfl ?_
      refine g_iald (pc := 82) (f := x.1) hX 1 rfl h d_Wa_measure_82 (fun h => ?_)
      refine g_if_lt (pc := 83) (tgt := 90) hX d_Wa_measure_83 (by decide) h (fun c8 h => ?_) (fun c8 h => ?_)
      · refine g_iconst (pc := 90) hX d_Wa_measure_90 zc_0 ?_
        exact w_Wa_measure_91 hX hR _ _ h
      · refine g_iconst (pc := 86) hX d_Wa_measure_86 zc_1 ?_
        refine g_goto (pc := 87) (tgt := 91) hX d_Wa_measure_87 (by decide) ?_
        exact w_Wa_measure_91 hX hR _ _ h
def k_Wa_measure_28 (y : zsS) (l2 : Int32) (l3 : Int32) : Nat → Int32 → zsW → Option (Int32 × zsW)
  | 0, _, _ => none
  | fu + 1, l4, x => (if l4 < x.2.2 then (if l4 < (100 : Int32) then (if zOut l4 100 then none else (k_Wa_reachNeighbors x ((x.2.1 l4.toNatClampNeg))).bind fun o10 => k_Wa_measure_28 y l2 l3 fu ((l4 + (1 : Int32))) o10) else k_Wa_measure_64 y l2 l3 x) else k_Wa_measure_64 y l2 l3 x)
set_option maxRecDepth 20000 in
theorem w_Wa_measure_28 {X : zX} {c : zY} {a0 a1 a2 : Nat} {q : Nat → Nat} {y : zsS} {l2 : Int32} {l3 : Int32} {out : Int32 × zsW} (hX : Ok X zr_Wa zb_Wa_measure 5 3 c) (hR : Rt X (some .int) (some (.int out.1)) (zwWS c a0 a1 a2 q y out.2)) : ∀ (fu : Nat) (l4 : Int32) (x : zsW), k_Wa_measure_28 y l2 l3 fu l4 x = some out → Go X (zwWS c a0 a1 a2 q y x) [(0, .ref a0), (3, .int l3), (4, .int l4)] 28 [] := by
  intro fu
  induction fu with
  | zero => intro l4 x h; rw [k_Wa_measure_28] at h; cases h
  | succ fu ih =>
    intro l4 x h
    rw [k_Wa_measure_28] at h
    refine g_iload (pc := 28) hX d_Wa_measure_28 2 rfl ?_
    refine g_aload_n (pc := 30) hX d_Wa_measure_30 rfl 0 rfl ?_
    refine gf_Wa_18 (pc := 31) (v := .int x.2.2) hX 0 rfl rfl d_Wa_measure_31 ?_
    refine g_icmp_ge (pc := 34) (tgt := 64) hX d_Wa_measure_34 (by decide) h (fun c4 h => ?_) (fun c4 h => ?_)
    · refine g_ls (L' := [(0, .ref a0), (3, .int l3)]) [0, 1] rfl ?_
      exact w_Wa_measure_64 hX hR _ h
    · refine g_iload (pc := 37) hX d_Wa_measure_37 2 rfl ?_
      refine g_aload_n (pc := 39) hX d_Wa_measure_39 rfl 0 rfl ?_
      refine gf_Wa_15 (pc := 40) (v := .ref a2) hX 0 rfl rfl d_Wa_measure_40 ?_
      refine g_alen (pc := 43) (v := (100 : Int32)) hX 2 rfl rfl d_Wa_measure_43 ?_
      refine g_icmp_ge (pc := 44) (tgt := 64) hX d_Wa_measure_44 (by decide) h (fun c9 h => ?_) (fun c9 h => ?_)
      · refine g_ls (L' := [(0, .ref a0), (3, .int l3)]) [0, 1] rfl ?_
        exact w_Wa_measure_64 hX hR _ h
      · refine g_aload_n (pc := 47) hX d_Wa_measure_47 rfl 0 rfl ?_
        refine g_aload_n (pc := 48) hX d_Wa_measure_48 rfl 0 rfl ?_
        refine gf_Wa_15 (pc := 49) (v := .ref a2) hX 0 rfl rfl d_Wa_measure_49 ?_
        refine g_iload (pc := 52) hX d_Wa_measure_52 2 rfl ?_
        refine g_iald (pc := 54) (f := x.2.1) hX 2 rfl h d_Wa_measure_54 (fun h => ?_)
        obtain ⟨o10, e10, h⟩ := zbind h
        refine g_cvV (pc := 55)  (st := []) (w' := (zwWS c a0 a1 a2 q y o10)) hX zk_Wa_reachNeighbors zs_Wa_reachNeighbors zL_Wa_42 (c_Wa_reachNeighbors c a0 a1 a2 x ((x.2.1 l4.toNatClampNeg)) e10) rfl rfl rfl rfl (sp_WS_Wa_0 c a0 a1 a2 q y x) (sq_WS_Wa_0 c a0 a1 a2 q y x o10) 0 8 rfl rfl rfl d_Wa_measure_55 ?_
        refine g_iinc (pc := 58) (q := 2) (L' := [(4, .int ((l4 + (1 : Int32)))), (0, .ref a0), (3, .int l3)]) hX d_Wa_measure_58 rfl zc_1 rfl rfl ?_
        refine g_goto (pc := 61) (tgt := 28) hX d_Wa_measure_61 (by decide) ?_
        refine g_ls (L' := [(0, .ref a0), (3, .int l3), (4, .int ((l4 + (1 : Int32))))]) [1, 2, 0] rfl ?_
        exact ih _ _ h
def k_Wa_measure (y : zsS) (x : zsW) (l2 : Int32) (l3 : Int32) : Option (Int32 × zsW) := (k_Wa_markClosed y ((x.1, x.2.1, (0 : Int32))) l2).bind fun o1 => (k_Fi_at y.1.1 l2 ((1 : Int32))).bind fun o2 => (k_Wa_reach o1 o2 ((0 : Int32))).bind fun o3 => k_Wa_measure_28 y l2 l3 zFu ((0 : Int32)) o3
set_option maxRecDepth 20000 in
theorem c_Wa_measure (c : zY) (a0 a1 a2 : Nat) (q : Nat → Nat) (y : zsS) (x : zsW) (l2 : Int32) (l3 : Int32) {out : Int32 × zsW} (h : k_Wa_measure y x l2 l3 = some out) : KM zy_Wa_measure zb_Wa_measure 5 (some .int) 3 c [.ref a0, .ref ((q 12)), .int l2, .int l3] (zwWS c a0 a1 a2 q y x) (zwWS c a0 a1 a2 q y out.2) (some (.int out.1)) := zK_of zp_Wa rfl (Nat.le_of_ble_eq_true rfl) (zq_WS c a0 a1 a2 q y _ _) (fun X hX hR => by
  show Go X (zwWS c a0 a1 a2 q y x) [(0, .ref a0), (1, .ref ((q 12))), (2, .int l2), (3, .int l3)] 0 []
  rw [k_Wa_measure] at h
  refine g_aload_n (pc := 0) hX d_Wa_measure_0 rfl 0 rfl ?_
  refine g_iconst (pc := 1) hX d_Wa_measure_1 zc_0 ?_
  refine pf_Wa_18 (pc := 2) (w2 := (zwWS c a0 a1 a2 q y ((x.1, x.2.1, (0 : Int32))))) hX 0 rfl rfl (su_WS_0_2 c a0 a1 a2 q y x ((0 : Int32))) d_Wa_measure_2 ?_
  refine g_aload_n (pc := 5) hX d_Wa_measure_5 rfl 0 rfl ?_
  refine g_aload_n (pc := 6) hX d_Wa_measure_6 rfl 1 rfl ?_
  refine g_iload_n (pc := 7) hX d_Wa_measure_7 rfl 2 rfl ?_
  obtain ⟨o1, e1, h⟩ := zbind h
  refine g_cvV (pc := 8) (w1 := []) (w2 := []) (st := []) (w' := (zwWS c a0 a1 a2 q y o1)) hX zk_Wa_markClosed zs_Wa_markClosed zL_Wa_22 (c_Wa_markClosed c a0 a1 a2 q y ((x.1, x.2.1, (0 : Int32))) l2 e1) rfl rfl rfl rfl (zself _) (zself _).symm 0 8 rfl rfl rfl d_Wa_measure_8 ?_
  refine g_aload_n (pc := 11) hX d_Wa_measure_11 rfl 0 rfl ?_
  refine g_aload_n (pc := 12) hX d_Wa_measure_12 rfl 1 rfl ?_
  refine gf_Wa_26 (pc := 13) (v := .ref ((q 6))) hX 15 rfl rfl d_Wa_measure_13 ?_
  refine g_iload_n (pc := 16) hX d_Wa_measure_16 rfl 2 rfl ?_
  refine g_iconst (pc := 17) hX d_Wa_measure_17 zc_1 ?_
  obtain ⟨o2, e2, h⟩ := zbind h
  refine g_cvI (pc := 18)  (st := [.ref a0]) (w' := (zwWS c a0 a1 a2 q y o1)) hX zk_Fi_at zs_Fi_at zL_Wa_34 (c_Fi_at c q y.1.1 l2 ((1 : Int32)) e2) rfl rfl rfl rfl (sp_WS_Fi_3 c a0 a1 a2 q y o1) (sp_WS_Fi_3 c a0 a1 a2 q y o1).symm 9 3 rfl rfl rfl d_Wa_measure_18 ?_
  refine g_iconst (pc := 21) hX d_Wa_measure_21 zc_0 ?_
  obtain ⟨o3, e3, h⟩ := zbind h
  refine g_cvV (pc := 22)  (st := []) (w' := (zwWS c a0 a1 a2 q y o3)) hX zk_Wa_reach zs_Wa_reach zL_Wa_38 (c_Wa_reach c a0 a1 a2 o1 o2 ((0 : Int32)) e3) rfl rfl rfl rfl (sp_WS_Wa_0 c a0 a1 a2 q y o1) (sq_WS_Wa_0 c a0 a1 a2 q y o1 o3) 0 8 rfl rfl rfl d_Wa_measure_22 ?_
  refine g_iconst (pc := 25) hX d_Wa_measure_25 zc_0 ?_
  refine g_istore (pc := 26) (L' := [(4, .int ((0 : Int32))), (0, .ref a0), (1, .ref ((q 12))), (2, .int l2), (3, .int l3)]) hX d_Wa_measure_26 rfl rfl ?_
  refine g_ls (L' := [(0, .ref a0), (3, .int l3), (4, .int ((0 : Int32)))]) [1, 4, 0] rfl ?_
  exact w_Wa_measure_28 hX hR _ _ _ h)
