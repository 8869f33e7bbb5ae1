theorem d_Mo_isBetween_0 : decode zb_Mo_isBetween 0 = .ok (.iload_n 0, 1) := by decide +kernel
theorem d_Mo_isBetween_1 : decode zb_Mo_isBetween 1 = .ok (.iload_n 1, 1) := by decide +kernel
theorem d_Mo_isBetween_2 : decode zb_Mo_isBetween 2 = .ok (.if_icmp .lt 12, 3) := by decide +kernel
theorem d_Mo_isBetween_5 : decode zb_Mo_isBetween 5 = .ok (.iload_n 0, 1) := by decide +kernel
theorem d_Mo_isBetween_6 : decode zb_Mo_isBetween 6 = .ok (.iload_n 2, 1) := by decide +kernel
theorem d_Mo_isBetween_7 : decode zb_Mo_isBetween 7 = .ok (.if_icmp .gt 7, 3) := by decide +kernel
theorem d_Mo_isBetween_10 : decode zb_Mo_isBetween 10 = .ok (.iconst 1, 1) := by decide +kernel
theorem d_Mo_isBetween_11 : decode zb_Mo_isBetween 11 = .ok (.goto 4, 3) := by decide +kernel
theorem d_Mo_isBetween_14 : decode zb_Mo_isBetween 14 = .ok (.iconst 0, 1) := by decide +kernel
theorem d_Mo_isBetween_15 : decode zb_Mo_isBetween 15 = .ok (.ireturn, 1) := by decide +kernel
def k_Mo_isBetween (l0 : Int32) (l1 : Int32) (l2 : Int32) : Option (Int32) := (if l0 < l1 then some ((0 : Int32)) else (if l2 < l0 then some ((0 : Int32)) else some ((1 : Int32))))
set_option maxRecDepth 20000 in
theorem c_Mo_isBetween (c : zY) (l0 : Int32) (l1 : Int32) (l2 : Int32) {out : Int32} (h : k_Mo_isBetween l0 l1 l2 = some out) : KM zy_Mo_isBetween zb_Mo_isBetween 3 (some .boolean) 0 c [.int l0, .int l1, .int l2] [] [] (some (.int out)) := zK_of zp_Mo rfl (Nat.le_of_ble_eq_true rfl) rfl (fun X hX hR => by
  show Go X [] [(0, .int l0), (1, .int l1), (2, .int l2)] 0 []
  rw [k_Mo_isBetween] at h
  refine g_iload_n (pc := 0) hX d_Mo_isBetween_0 rfl 0 rfl ?_
  refine g_iload_n (pc := 1) hX d_Mo_isBetween_1 rfl 1 rfl ?_
  refine g_icmp_lt (pc := 2) (tgt := 14) hX d_Mo_isBetween_2 (by decide) h (fun c1 h => ?_) (fun c1 h => ?_)
  · refine g_iconst (pc := 14) hX d_Mo_isBetween_14 zc_0 ?_
    obtain rfl := Option.some.inj h
    exact g_zret (pc := 15) hX hR (Or.inl rfl) d_Mo_isBetween_15
  · refine g_iload_n (pc := 5) hX d_Mo_isBetween_5 rfl 0 rfl ?_
    refine g_iload_n (pc := 6) hX d_Mo_isBetween_6 rfl 2 rfl ?_
    refine g_icmp_gt (pc := 7) (tgt := 14) hX d_Mo_isBetween_7 (by decide) h (fun c2 h => ?_) (fun c2 h => ?_)
    · refine g_iconst (pc := 14) hX d_Mo_isBetween_14 zc_0 ?_
      obtain rfl := Option.some.inj h
      exact g_zret (pc := 15) hX hR (Or.inl rfl) d_Mo_isBetween_15
    · refine g_iconst (pc := 10) hX d_Mo_isBetween_10 zc_1 ?_
      refine g_goto (pc := 11) (tgt := 15) hX d_Mo_isBetween_11 (by decide) ?_
      obtain rfl := Option.some.inj h
      exact g_zret (pc := 15) hX hR (Or.inr rfl) d_Mo_isBetween_15)
theorem d_Mo_isFighter_0 : decode zb_Mo_isFighter 0 = .ok (.iload_n 1, 1) := by decide +kernel
theorem d_Mo_isFighter_1 : decode zb_Mo_isFighter 1 = .ok (.ifCond .lt 15, 3) := by decide +kernel
theorem d_Mo_isFighter_4 : decode zb_Mo_isFighter 4 = .ok (.iload_n 1, 1) := by decide +kernel
theorem d_Mo_isFighter_5 : decode zb_Mo_isFighter 5 = .ok (.aload_n 0, 1) := by decide +kernel
theorem d_Mo_isFighter_6 : decode zb_Mo_isFighter 6 = .ok (.getfield 81, 3) := by decide +kernel
theorem d_Mo_isFighter_9 : decode zb_Mo_isFighter 9 = .ok (.if_icmp .ge 7, 3) := by decide +kernel
theorem d_Mo_isFighter_12 : decode zb_Mo_isFighter 12 = .ok (.iconst 1, 1) := by decide +kernel
theorem d_Mo_isFighter_13 : decode zb_Mo_isFighter 13 = .ok (.goto 4, 3) := by decide +kernel
theorem d_Mo_isFighter_16 : decode zb_Mo_isFighter 16 = .ok (.iconst 0, 1) := by decide +kernel
theorem d_Mo_isFighter_17 : decode zb_Mo_isFighter 17 = .ok (.ireturn, 1) := by decide +kernel
def k_Mo_isFighter (x : zsM) (l1 : Int32) : Option (Int32) := (if l1 < 0 then some ((0 : Int32)) else (if l1 < (x.1 11) then some ((1 : Int32)) else some ((0 : Int32))))
set_option maxRecDepth 20000 in
theorem c_Mo_isFighter (c : zY) (q : Nat → Nat) (x : zsM) (l1 : Int32) {out : Int32} (h : k_Mo_isFighter x l1 = some out) : KM zy_Mo_isFighter zb_Mo_isFighter 2 (some .boolean) 0 c [.ref ((q 0)), .int l1] (zwM c q x) (zwM c q x) (some (.int out)) := zK_of zp_Mo rfl (Nat.le_of_ble_eq_true rfl) (zq_Mo c q _ _) (fun X hX hR => by
  show Go X (zwM c q x) [(0, .ref ((q 0))), (1, .int l1)] 0 []
  rw [k_Mo_isFighter] at h
  refine g_iload_n (pc := 0) hX d_Mo_isFighter_0 rfl 1 rfl ?_
  refine g_if_lt (pc := 1) (tgt := 16) hX d_Mo_isFighter_1 (by decide) h (fun c1 h => ?_) (fun c1 h => ?_)
  · refine g_iconst (pc := 16) hX d_Mo_isFighter_16 zc_0 ?_
    obtain rfl := Option.some.inj h
    exact g_zret (pc := 17) hX hR (Or.inl rfl) d_Mo_isFighter_17
  · refine g_iload_n (pc := 4) hX d_Mo_isFighter_4 rfl 1 rfl ?_
    refine g_aload_n (pc := 5) hX d_Mo_isFighter_5 rfl 0 rfl ?_
    refine gf_Mo_81 (pc := 6) (v := .int ((x.1 11))) hX 0 rfl rfl d_Mo_isFighter_6 ?_
    refine g_icmp_ge (pc := 9) (tgt := 16) hX d_Mo_isFighter_9 (by decide) h (fun c2 h => ?_) (fun c2 h => ?_)
    · refine g_iconst (pc := 16) hX d_Mo_isFighter_16 zc_0 ?_
      obtain rfl := Option.some.inj h
      exact g_zret (pc := 17) hX hR (Or.inl rfl) d_Mo_isFighter_17
    · refine g_iconst (pc := 12) hX d_Mo_isFighter_12 zc_1 ?_
      refine g_goto (pc := 13) (tgt := 17) hX d_Mo_isFighter_13 (by decide) ?_
      obtain rfl := Option.some.inj h
      exact g_zret (pc := 17) hX hR (Or.inr rfl) d_Mo_isFighter_17)
theorem d_Mo_isCell_0 : decode zb_Mo_isCell 0 = .ok (.iload_n 0, 1) := by decide +kernel
theorem d_Mo_isCell_1 : decode zb_Mo_isCell 1 = .ok (.ifCond .lt 13, 3) := by decide +kernel
theorem d_Mo_isCell_4 : decode zb_Mo_isCell 4 = .ok (.iload_n 0, 1) := by decide +kernel
theorem d_Mo_isCell_5 : decode zb_Mo_isCell 5 = .ok (.bipush 100, 2) := by decide +kernel
theorem d_Mo_isCell_7 : decode zb_Mo_isCell 7 = .ok (.if_icmp .ge 7, 3) := by decide +kernel
theorem d_Mo_isCell_10 : decode zb_Mo_isCell 10 = .ok (.iconst 1, 1) := by decide +kernel
theorem d_Mo_isCell_11 : decode zb_Mo_isCell 11 = .ok (.goto 4, 3) := by decide +kernel
theorem d_Mo_isCell_14 : decode zb_Mo_isCell 14 = .ok (.iconst 0, 1) := by decide +kernel
theorem d_Mo_isCell_15 : decode zb_Mo_isCell 15 = .ok (.ireturn, 1) := by decide +kernel
def k_Mo_isCell (l0 : Int32) : Option (Int32) := (if l0 < 0 then some ((0 : Int32)) else (if l0 < (100 : Int32) then some ((1 : Int32)) else some ((0 : Int32))))
set_option maxRecDepth 20000 in
theorem c_Mo_isCell (c : zY) (l0 : Int32) {out : Int32} (h : k_Mo_isCell l0 = some out) : KM zy_Mo_isCell zb_Mo_isCell 1 (some .boolean) 0 c [.int l0] [] [] (some (.int out)) := zK_of zp_Mo rfl (Nat.le_of_ble_eq_true rfl) rfl (fun X hX hR => by
  show Go X [] [(0, .int l0)] 0 []
  rw [k_Mo_isCell] at h
  refine g_iload_n (pc := 0) hX d_Mo_isCell_0 rfl 0 rfl ?_
  refine g_if_lt (pc := 1) (tgt := 14) hX d_Mo_isCell_1 (by decide) h (fun c1 h => ?_) (fun c1 h => ?_)
  · refine g_iconst (pc := 14) hX d_Mo_isCell_14 zc_0 ?_
    obtain rfl := Option.some.inj h
    exact g_zret (pc := 15) hX hR (Or.inl rfl) d_Mo_isCell_15
  · refine g_iload_n (pc := 4) hX d_Mo_isCell_4 rfl 0 rfl ?_
    refine g_bipush (pc := 5) hX d_Mo_isCell_5 ze_100 ?_
    refine g_icmp_ge (pc := 7) (tgt := 14) hX d_Mo_isCell_7 (by decide) h (fun c2 h => ?_) (fun c2 h => ?_)
    · refine g_iconst (pc := 14) hX d_Mo_isCell_14 zc_0 ?_
      obtain rfl := Option.some.inj h
      exact g_zret (pc := 15) hX hR (Or.inl rfl) d_Mo_isCell_15
    · refine g_iconst (pc := 10) hX d_Mo_isCell_10 zc_1 ?_
      refine g_goto (pc := 11) (tgt := 15) hX d_Mo_isCell_11 (by decide) ?_
      obtain rfl := Option.some.inj h
      exact g_zret (pc := 15) hX hR (Or.inr rfl) d_Mo_isCell_15)
theorem d_Mo_beside_0 : decode zb_Mo_beside 0 = .ok (.iload_n 0, 1) := by decide +kernel
theorem d_Mo_beside_1 : decode zb_Mo_beside 1 = .ok (.bipush 10, 2) := by decide +kernel
theorem d_Mo_beside_3 : decode zb_Mo_beside 3 = .ok (.irem, 1) := by decide +kernel
theorem d_Mo_beside_4 : decode zb_Mo_beside 4 = .ok (.iload_n 1, 1) := by decide +kernel
theorem d_Mo_beside_5 : decode zb_Mo_beside 5 = .ok (.ifCond .ne 7, 3) := by decide +kernel
theorem d_Mo_beside_8 : decode zb_Mo_beside 8 = .ok (.iconst 1, 1) := by decide +kernel
theorem d_Mo_beside_9 : decode zb_Mo_beside 9 = .ok (.goto 13, 3) := by decide +kernel
theorem d_Mo_beside_12 : decode zb_Mo_beside 12 = .ok (.iload_n 1, 1) := by decide +kernel
theorem d_Mo_beside_13 : decode zb_Mo_beside 13 = .ok (.iconst 2, 1) := by decide +kernel
theorem d_Mo_beside_14 : decode zb_Mo_beside 14 = .ok (.if_icmp .ne 7, 3) := by decide +kernel
theorem d_Mo_beside_17 : decode zb_Mo_beside 17 = .ok (.iconst (-1), 1) := by decide +kernel
theorem d_Mo_beside_18 : decode zb_Mo_beside 18 = .ok (.goto 4, 3) := by decide +kernel
theorem d_Mo_beside_21 : decode zb_Mo_beside 21 = .ok (.iconst 0, 1) := by decide +kernel
theorem d_Mo_beside_22 : decode zb_Mo_beside 22 = .ok (.iadd, 1) := by decide +kernel
theorem d_Mo_beside_23 : decode zb_Mo_beside 23 = .ok (.istore_n 2, 1) := by decide +kernel
theorem d_Mo_beside_24 : decode zb_Mo_beside 24 = .ok (.iload_n 0, 1) := by decide +kernel
theorem d_Mo_beside_25 : decode zb_Mo_beside 25 = .ok (.bipush 10, 2) := by decide +kernel
theorem d_Mo_beside_27 : decode zb_Mo_beside 27 = .ok (.idiv, 1) := by decide +kernel
theorem d_Mo_beside_28 : decode zb_Mo_beside 28 = .ok (.iload_n 1, 1) := by decide +kernel
theorem d_Mo_beside_29 : decode zb_Mo_beside 29 = .ok (.iconst 1, 1) := by decide +kernel
theorem d_Mo_beside_30 : decode zb_Mo_beside 30 = .ok (.if_icmp .ne 7, 3) := by decide +kernel
theorem d_Mo_beside_33 : decode zb_Mo_beside 33 = .ok (.iconst 1, 1) := by decide +kernel
theorem d_Mo_beside_34 : decode zb_Mo_beside 34 = .ok (.goto 13, 3) := by decide +kernel
theorem d_Mo_beside_37 : decode zb_Mo_beside 37 = .ok (.iload_n 1, 1) := by decide +kernel
theorem d_Mo_beside_38 : decode zb_Mo_beside 38 = .ok (.iconst 3, 1) := by decide +kernel
theorem d_Mo_beside_39 : decode zb_Mo_beside 39 = .ok (.if_icmp .ne 7, 3) := by decide +kernel
theorem d_Mo_beside_42 : decode zb_Mo_beside 42 = .ok (.iconst (-1), 1) := by decide +kernel
theorem d_Mo_beside_43 : decode zb_Mo_beside 43 = .ok (.goto 4, 3) := by decide +kernel
theorem d_Mo_beside_46 : decode zb_Mo_beside 46 = .ok (.iconst 0, 1) := by decide +kernel
theorem d_Mo_beside_47 : decode zb_Mo_beside 47 = .ok (.iadd, 1) := by decide +kernel
theorem d_Mo_beside_48 : decode zb_Mo_beside 48 = .ok (.istore_n 3, 1) := by decide +kernel
theorem d_Mo_beside_49 : decode zb_Mo_beside 49 = .ok (.iload_n 2, 1) := by decide +kernel
theorem d_Mo_beside_50 : decode zb_Mo_beside 50 = .ok (.iconst 0, 1) := by decide +kernel
theorem d_Mo_beside_51 : decode zb_Mo_beside 51 = .ok (.bipush 9, 2) := by decide +kernel
theorem d_Mo_beside_53 : decode zb_Mo_beside 53 = .ok (.invokestatic 84, 3) := by decide +kernel
theorem d_Mo_beside_56 : decode zb_Mo_beside 56 = .ok (.ifCond .eq 22, 3) := by decide +kernel
theorem d_Mo_beside_59 : decode zb_Mo_beside 59 = .ok (.iload_n 3, 1) := by decide +kernel
theorem d_Mo_beside_60 : decode zb_Mo_beside 60 = .ok (.iconst 0, 1) := by decide +kernel
theorem d_Mo_beside_61 : decode zb_Mo_beside 61 = .ok (.bipush 9, 2) := by decide +kernel
theorem d_Mo_beside_63 : decode zb_Mo_beside 63 = .ok (.invokestatic 84, 3) := by decide +kernel
theorem d_Mo_beside_66 : decode zb_Mo_beside 66 = .ok (.ifCond .eq 12, 3) := by decide +kernel
theorem d_Mo_beside_69 : decode zb_Mo_beside 69 = .ok (.bipush 10, 2) := by decide +kernel
theorem d_Mo_beside_71 : decode zb_Mo_beside 71 = .ok (.iload_n 3, 1) := by decide +kernel
theorem d_Mo_beside_72 : decode zb_Mo_beside 72 = .ok (.imul, 1) := by decide +kernel
theorem d_Mo_beside_73 : decode zb_Mo_beside 73 = .ok (.iload_n 2, 1) := by decide +kernel
theorem d_Mo_beside_74 : decode zb_Mo_beside 74 = .ok (.iadd, 1) := by decide +kernel
theorem d_Mo_beside_75 : decode zb_Mo_beside 75 = .ok (.goto 4, 3) := by decide +kernel
theorem d_Mo_beside_78 : decode zb_Mo_beside 78 = .ok (.iconst (-1), 1) := by decide +kernel
theorem d_Mo_beside_79 : decode zb_Mo_beside 79 = .ok (.ireturn, 1) := by decide +kernel
def k_Mo_beside_47 (l0 : Int32) (l1 : Int32) (l2 : Int32) (s0 : Int32) (s1 : Int32) : Option (Int32) := (k_Mo_isBetween l2 ((0 : Int32)) ((9 : Int32))).bind fun o5 => (if o5 = 0 then some ((-1 : Int32)) else (k_Mo_isBetween ((s1 + s0)) ((0 : Int32)) ((9 : Int32))).bind fun o7 => (if o7 = 0 then some ((-1 : Int32)) else some ((((10 : Int32) * (s1 + s0)) + l2))))
set_option maxRecDepth 20000 in
theorem w_Mo_beside_47 {X : zX} {c : zY} {l0 : Int32} {l1 : Int32} {out : Int32} (hX : Ok X zr_Mo zb_Mo_beside 4 1 c) (hR : Rt X (some .int) (some (.int out)) []) : ∀ (l2 : Int32) (s0 : Int32) (s1 : Int32), k_Mo_beside_47 l0 l1 l2 s0 s1 = some out → Go X [] [(2, .int l2)] 47 [.int s0, .int s1] := by
  intro l2 s0 s1 h
  rw [k_Mo_beside_47] at h
  refine g_iadd (pc := 47) hX d_Mo_beside_47 ?_
  refine g_istore_n (pc := 48) (L' := [(3, .int ((s1 + s0))), (2, .int l2)]) hX d_Mo_beside_48 rfl rfl rfl ?_
  refine g_iload_n (pc := 49) hX d_Mo_beside_49 rfl 1 rfl ?_
  refine g_iconst (pc := 50) hX d_Mo_beside_50 zc_0 ?_
  refine g_bipush (pc := 51) hX d_Mo_beside_51 ze_9 ?_
  obtain ⟨o5, e5, h⟩ := zbind h
  refine g_csI (pc := 53) (st := []) hX zk_Mo_isBetween zL_Mo_84 (c_Mo_isBetween c l2 ((0 : Int32)) ((9 : Int32)) e5) rfl rfl rfl rfl rfl d_Mo_beside_53 ?_
  refine g_if_eq (pc := 56) (tgt := 78) hX d_Mo_beside_56 (by decide) h (fun c6 h => ?_) (fun c6 h => ?_)
  · refine g_iconst (pc := 78) hX d_Mo_beside_78 zc_m1 ?_
    obtain rfl := Option.some.inj h
    exact g_iret (pc := 79) hX hR d_Mo_beside_79
  · refine g_iload_n (pc := 59) hX d_Mo_beside_59 rfl 0 rfl ?_
    refine g_iconst (pc := 60) hX d_Mo_beside_60 zc_0 ?_
    refine g_bipush (pc := 61) hX d_Mo_beside_61 ze_9 ?_
    obtain ⟨o7, e7, h⟩ := zbind h
    refine g_csI (pc := 63) (st := []) hX zk_Mo_isBetween zL_Mo_84 (c_Mo_isBetween c ((s1 + s0)) ((0 : Int32)) ((9 : Int32)) e7) rfl rfl rfl rfl rfl d_Mo_beside_63 ?_
    refine g_if_eq (pc := 66) (tgt := 78) hX d_Mo_beside_66 (by decide) h (fun c8 h => ?_) (fun c8 h => ?_)
    · refine g_iconst (pc := 78) hX d_Mo_beside_78 zc_m1 ?_
      obtain rfl := Option.some.inj h
      exact g_iret (pc := 79) hX hR d_Mo_beside_79
    · refine g_bipush (pc := 69) hX d_Mo_beside_69 ze_10 ?_
      refine g_iload_n (pc := 71) hX d_Mo_beside_71 rfl 0 rfl ?_
      refine g_imul (pc := 72) hX d_Mo_beside_72 ?_
      refine g_iload_n (pc := 73) hX d_Mo_beside_73 rfl 1 rfl ?_
      refine g_iadd (pc := 74) hX d_Mo_beside_74 ?_
      refine g_goto (pc := 75) (tgt := 79) hX d_Mo_beside_75 (by decide) ?_
      obtain rfl := Option.some.inj h
      exact g_iret (pc := 79) hX hR d_Mo_beside_79
def k_Mo_beside_22 (l0 : Int32) (l1 : Int32) (s0 : Int32) (s1 : Int32) : Option (Int32) := (if l1 = (1 : Int32) then k_Mo_beside_47 l0 l1 ((s1 + s0)) ((1 : Int32)) ((l0 / (10 : Int32))) else (if l1 = (3 : Int32) then k_Mo_beside_47 l0 l1 ((s1 + s0)) ((-1 : Int32)) ((l0 / (10 : Int32))) else k_Mo_beside_47 l0 l1 ((s1 + s0)) ((0 : Int32)) ((l0 / (10 : Int32)))))
set_option maxRecDepth 20000 in
theorem w_Mo_beside_22 {X : zX} {c : zY} {l0 : Int32} {l1 : Int32} {out : Int32} (hX : Ok X zr_Mo zb_Mo_beside 4 1 c) (hR : Rt X (some .int) (some (.int out)) []) : ∀ (s0 : Int32) (s1 : Int32), k_Mo_beside_22 l0 l1 s0 s1 = some out → Go X [] [(0, .int l0), (1, .int l1)] 22 [.int s0, .int s1] := by
  intro s0 s1 h
  rw [k_Mo_beside_22] at h
  refine g_iadd (pc := 22) hX d_Mo_beside_22 ?_
  refine g_istore_n (pc := 23) (L' := [(2, .int ((s1 + s0))), (0, .int l0), (1, .int l1)]) hX d_Mo_beside_23 rfl rfl rfl ?_
  refine g_iload_n (pc := 24) hX d_Mo_beside_24 rfl 1 rfl ?_
  refine g_bipush (pc := 25) hX d_Mo_beside_25 ze_10 ?_
  refine g_idiv (pc := 27) hX d_Mo_beside_27 (by decide) ?_
  refine g_iload_n (pc := 28) hX d_Mo_beside_28 rfl 2 rfl ?_
  refine g_iconst (pc := 29) hX d_Mo_beside_29 zc_1 ?_
  refine g_icmp_ne (pc := 30) (tgt := 37) hX d_Mo_beside_30 (by decide) h (fun c3 h => ?_) (fun c3 h => ?_)
  · refine g_iload_n (pc := 37) hX d_Mo_beside_37 rfl 2 rfl ?_
    refine g_iconst (pc := 38) hX d_Mo_beside_38 zc_3 ?_
    refine g_icmp_ne (pc := 39) (tgt := 46) hX d_Mo_beside_39 (by decide) h (fun c4 h => ?_) (fun c4 h => ?_)
    · refine g_iconst (pc := 46) hX d_Mo_beside_46 zc_0 ?_
      refine g_ls (L' := [(2, .int ((s1 + s0)))]) [0] rfl ?_
      exact w_Mo_beside_47 hX hR _ _ _ h
    · refine g_iconst (pc := 42) hX d_Mo_beside_42 zc_m1 ?_
      refine g_goto (pc := 43) (tgt := 47) hX d_Mo_beside_43 (by decide) ?_
      refine g_ls (L' := [(2, .int ((s1 + s0)))]) [0] rfl ?_
      exact w_Mo_beside_47 hX hR _ _ _ h
  · refine g_iconst (pc := 33) hX d_Mo_beside_33 zc_1 ?_
    refine g_goto (pc := 34) (tgt := 47) hX d_Mo_beside_34 (by decide) ?_
    refine g_ls (L' := [(2, .int ((s1 + s0)))]) [0] rfl ?_
    exact w_Mo_beside_47 hX hR _ _ _ h
def k_Mo_beside (l0 : Int32) (l1 : Int32) : Option (Int32) := (if l1 = 0 then k_Mo_beside_22 l0 l1 ((1 : Int32)) ((zrem l0 (10 : Int32))) else (if l1 = (2 : Int32) then k_Mo_beside_22 l0 l1 ((-1 : Int32)) ((zrem l0 (10 : Int32))) else k_Mo_beside_22 l0 l1 ((0 : Int32)) ((zrem l0 (10 : Int32)))))
set_option maxRecDepth 20000 in
theorem c_Mo_beside (c : zY) (l0 : Int32) (l1 : Int32) {out : Int32} (h : k_Mo_beside l0 l1 = some out) : KM zy_Mo_beside zb_Mo_beside 4 (some .int) 1 c [.int l0, .int l1] [] [] (some (.int out)) := zK_of zp_Mo rfl (Nat.le_of_ble_eq_true rfl) rfl (fun X hX hR => by
  show Go X [] [(0, .int l0), (1, .int l1)] 0 []
  rw [k_Mo_beside] at h
  refine g_iload_n (pc := 0) hX d_Mo_beside_0 rfl 0 rfl ?_
  refine g_bipush (pc := 1) hX d_Mo_beside_1 ze_10 ?_
  refine g_irem (pc := 3) hX d_Mo_beside_3 (by decide) ?_
  refine g_iload_n (pc := 4) hX d_Mo_beside_4 rfl 1 rfl ?_
  refine g_if_ne (pc := 5) (tgt := 12) hX d_Mo_beside_5 (by decide) h (fun c1 h => ?_) (fun c1 h => ?_)
  · refine g_iload_n (pc := 12) hX d_Mo_beside_12 rfl 1 rfl ?_
    refine g_iconst (pc := 13) hX d_Mo_beside_13 zc_2 ?_
    refine g_icmp_ne (pc := 14) (tgt := 21) hX d_Mo_beside_14 (by decide) h (fun c2 h => ?_) (fun c2 h => ?_)
    · refine g_iconst (pc := 21) hX d_Mo_beside_21 zc_0 ?_
      exact w_Mo_beside_22 hX hR _ _ h
    · refine g_iconst (pc := 17) hX d_Mo_beside_17 zc_m1 ?_
      refine g_goto (pc := 18) (tgt := 22) hX d_Mo_beside_18 (by decide) ?_
      exact w_Mo_beside_22 hX hR _ _ h
  · refine g_iconst (pc := 8) hX d_Mo_beside_8 zc_1 ?_
    refine g_goto (pc := 9) (tgt := 22) hX d_Mo_beside_9 (by decide) ?_
    exact w_Mo_beside_22 hX hR _ _ h)
theorem d_Mo_fighterOn_0 : decode zb_Mo_fighterOn 0 = .ok (.iconst 0, 1) := by decide +kernel
theorem d_Mo_fighterOn_1 : decode zb_Mo_fighterOn 1 = .ok (.istore_n 2, 1) := by decide +kernel
theorem d_Mo_fighterOn_2 : decode zb_Mo_fighterOn 2 = .ok (.iload_n 2, 1) := by decide +kernel
theorem d_Mo_fighterOn_3 : decode zb_Mo_fighterOn 3 = .ok (.aload_n 0, 1) := by decide +kernel
theorem d_Mo_fighterOn_4 : decode zb_Mo_fighterOn 4 = .ok (.getfield 81, 3) := by decide +kernel
theorem d_Mo_fighterOn_7 : decode zb_Mo_fighterOn 7 = .ok (.if_icmp .ge 21, 3) := by decide +kernel
theorem d_Mo_fighterOn_10 : decode zb_Mo_fighterOn 10 = .ok (.aload_n 0, 1) := by decide +kernel
theorem d_Mo_fighterOn_11 : decode zb_Mo_fighterOn 11 = .ok (.getfield 16, 3) := by decide +kernel
theorem d_Mo_fighterOn_14 : decode zb_Mo_fighterOn 14 = .ok (.iload_n 2, 1) := by decide +kernel
theorem d_Mo_fighterOn_15 : decode zb_Mo_fighterOn 15 = .ok (.iaload, 1) := by decide +kernel
theorem d_Mo_fighterOn_16 : decode zb_Mo_fighterOn 16 = .ok (.iload_n 1, 1) := by decide +kernel
theorem d_Mo_fighterOn_17 : decode zb_Mo_fighterOn 17 = .ok (.if_icmp .ne 5, 3) := by decide +kernel
theorem d_Mo_fighterOn_20 : decode zb_Mo_fighterOn 20 = .ok (.iload_n 2, 1) := by decide +kernel
theorem d_Mo_fighterOn_21 : decode zb_Mo_fighterOn 21 = .ok (.ireturn, 1) := by decide +kernel
theorem d_Mo_fighterOn_22 : decode zb_Mo_fighterOn 22 = .ok (.iinc 2 1, 3) := by decide +kernel
theorem d_Mo_fighterOn_25 : decode zb_Mo_fighterOn 25 = .ok (.goto (-23), 3) := by decide +kernel
theorem d_Mo_fighterOn_28 : decode zb_Mo_fighterOn 28 = .ok (.iconst (-1), 1) := by decide +kernel
theorem d_Mo_fighterOn_29 : decode zb_Mo_fighterOn 29 = .ok (.ireturn, 1) := by decide +kernel
def k_Mo_fighterOn_2 (x : zsM) (l1 : Int32) : Nat → Int32 → Option (Int32)
  | 0, _ => none
  | fu + 1, l2 => (if l2 < (x.1 11) then (if zOut l2 8 then none else (if (((x.2 2)) l2.toNatClampNeg) = l1 then some l2 else k_Mo_fighterOn_2 x l1 fu ((l2 + (1 : Int32))))) else some ((-1 : Int32)))
set_option maxRecDepth 20000 in
theorem w_Mo_fighterOn_2 {X : zX} {c : zY} {q : Nat → Nat} {x : zsM} {l1 : Int32} {out : Int32} (hX : Ok X zr_Mo zb_Mo_fighterOn 3 0 c) (hR : Rt X (some .int) (some (.int out)) (zwM c q x)) : ∀ (fu : Nat) (l2 : Int32), k_Mo_fighterOn_2 x l1 fu l2 = some out → Go X (zwM c q x) [(0, .ref ((q 0))), (1, .int l1), (2, .int l2)] 2 [] := by
  intro fu
  induction fu with
  | zero => intro l2 h; rw [k_Mo_fighterOn_2] at h; cases h
  | succ fu ih =>
    intro l2 h
    rw [k_Mo_fighterOn_2] at h
    refine g_iload_n (pc := 2) hX d_Mo_fighterOn_2 rfl 2 rfl ?_
    refine g_aload_n (pc := 3) hX d_Mo_fighterOn_3 rfl 0 rfl ?_
    refine gf_Mo_81 (pc := 4) (v := .int ((x.1 11))) hX 0 rfl rfl d_Mo_fighterOn_4 ?_
    refine g_icmp_ge (pc := 7) (tgt := 28) hX d_Mo_fighterOn_7 (by decide) h (fun c1 h => ?_) (fun c1 h => ?_)
    · refine g_iconst (pc := 28) hX d_Mo_fighterOn_28 zc_m1 ?_
      obtain rfl := Option.some.inj h
      exact g_iret (pc := 29) hX hR d_Mo_fighterOn_29
    · refine g_aload_n (pc := 10) hX d_Mo_fighterOn_10 rfl 0 rfl ?_
      refine gf_Mo_16 (pc := 11) (v := .ref ((q 3))) hX 0 rfl rfl d_Mo_fighterOn_11 ?_
      refine g_iload_n (pc := 14) hX d_Mo_fighterOn_14 rfl 2 rfl ?_
      refine g_iald (pc := 15) (f := (x.2 2)) hX 3 rfl h d_Mo_fighterOn_15 (fun h => ?_)
      refine g_iload_n (pc := 16) hX d_Mo_fighterOn_16 rfl 1 rfl ?_
      refine g_icmp_ne (pc := 17) (tgt := 22) hX d_Mo_fighterOn_17 (by decide) h (fun c2 h => ?_) (fun c2 h => ?_)
      · refine g_iinc (pc := 22) (q := 2) (L' := [(2, .int ((l2 + (1 : Int32)))), (0, .ref ((q 0))), (1, .int l1)]) hX d_Mo_fighterOn_22 rfl zc_1 rfl rfl ?_
        refine g_goto (pc := 25) (tgt := 2) hX d_Mo_fighterOn_25 (by decide) ?_
        refine g_ls (L' := [(0, .ref ((q 0))), (1, .int l1), (2, .int ((l2 + (1 : Int32))))]) [1, 2, 0] rfl ?_
        exact ih _ h
      · refine g_iload_n (pc := 20) hX d_Mo_fighterOn_20 rfl 2 rfl ?_
        obtain rfl := Option.some.inj h
        exact g_iret (pc := 21) hX hR d_Mo_fighterOn_21
def k_Mo_fighterOn (x : zsM) (l1 : Int32) : Option (Int32) := k_Mo_fighterOn_2 x l1 zFu ((0 : Int32))
set_option maxRecDepth 20000 in
theorem c_Mo_fighterOn (c : zY) (q : Nat → Nat) (x : zsM) (l1 : Int32) {out : Int32} (h : k_Mo_fighterOn x l1 = some out) : KM zy_Mo_fighterOn zb_Mo_fighterOn 3 (some .int) 0 c [.ref ((q 0)), .int l1] (zwM c q x) (zwM c q x) (some (.int out)) := zK_of zp_Mo rfl (Nat.le_of_ble_eq_true rfl) (zq_Mo c q _ _) (fun X hX hR => by
  show Go X (zwM c q x) [(0, .ref ((q 0))), (1, .int l1)] 0 []
  rw [k_Mo_fighterOn] at h
  refine g_iconst (pc := 0) hX d_Mo_fighterOn_0 zc_0 ?_
  refine g_istore_n (pc := 1) (L' := [(2, .int ((0 : Int32))), (0, .ref ((q 0))), (1, .int l1)]) hX d_Mo_fighterOn_1 rfl rfl rfl ?_
  refine g_ls (L' := [(0, .ref ((q 0))), (1, .int l1), (2, .int ((0 : Int32)))]) [1, 2, 0] rfl ?_
  exact w_Mo_fighterOn_2 hX hR _ _ h)
theorem d_Mo_isFree_0 : decode zb_Mo_isFree 0 = .ok (.aload_n 0, 1) := by decide +kernel
theorem d_Mo_isFree_1 : decode zb_Mo_isFree 1 = .ok (.getfield 7, 3) := by decide +kernel
theorem d_Mo_isFree_4 : decode zb_Mo_isFree 4 = .ok (.iload_n 1, 1) := by decide +kernel
theorem d_Mo_isFree_5 : decode zb_Mo_isFree 5 = .ok (.iaload, 1) := by decide +kernel
theorem d_Mo_isFree_6 : decode zb_Mo_isFree 6 = .ok (.ifCond .ne 15, 3) := by decide +kernel
theorem d_Mo_isFree_9 : decode zb_Mo_isFree 9 = .ok (.aload_n 0, 1) := by decide +kernel
theorem d_Mo_isFree_10 : decode zb_Mo_isFree 10 = .ok (.iload_n 1, 1) := by decide +kernel
theorem d_Mo_isFree_11 : decode zb_Mo_isFree 11 = .ok (.invokevirtual 88, 3) := by decide +kernel
theorem d_Mo_isFree_14 : decode zb_Mo_isFree 14 = .ok (.ifCond .ge 7, 3) := by decide +kernel
theorem d_Mo_isFree_17 : decode zb_Mo_isFree 17 = .ok (.iconst 1, 1) := by decide +kernel
theorem d_Mo_isFree_18 : decode zb_Mo_isFree 18 = .ok (.goto 4, 3) := by decide +kernel
theorem d_Mo_isFree_21 : decode zb_Mo_isFree 21 = .ok (.iconst 0, 1) := by decide +kernel
theorem d_Mo_isFree_22 : decode zb_Mo_isFree 22 = .ok (.ireturn, 1) := by decide +kernel
def k_Mo_isFree (x : zsM) (l1 : Int32) : Option (Int32) := (if zOut l1 100 then none else (if (((x.2 0)) l1.toNatClampNeg) = 0 then (k_Mo_fighterOn x l1).bind fun o2 => (if o2 < 0 then some ((1 : Int32)) else some ((0 : Int32))) else some ((0 : Int32))))
set_option maxRecDepth 20000 in
theorem c_Mo_isFree (c : zY) (q : Nat → Nat) (x : zsM) (l1 : Int32) {out : Int32} (h : k_Mo_isFree x l1 = some out) : KM zy_Mo_isFree zb_Mo_isFree 2 (some .boolean) 1 c [.ref ((q 0)), .int l1] (zwM c q x) (zwM c q x) (some (.int out)) := zK_of zp_Mo rfl (Nat.le_of_ble_eq_true rfl) (zq_Mo c q _ _) (fun X hX hR => by
  show Go X (zwM c q x) [(0, .ref ((q 0))), (1, .int l1)] 0 []
  rw [k_Mo_isFree] at h
  refine g_aload_n (pc := 0) hX d_Mo_isFree_0 rfl 0 rfl ?_
  refine gf_Mo_7 (pc := 1) (v := .ref ((q 1))) hX 0 rfl rfl d_Mo_isFree_1 ?_
  refine g_iload_n (pc := 4) hX d_Mo_isFree_4 rfl 1 rfl ?_
  refine g_iald (pc := 5) (f := (x.2 0)) hX 1 rfl h d_Mo_isFree_5 (fun h => ?_)
  refine g_if_ne (pc := 6) (tgt := 21) hX d_Mo_isFree_6 (by decide) h (fun c1 h => ?_) (fun c1 h => ?_)
  · refine g_iconst (pc := 21) hX d_Mo_isFree_21 zc_0 ?_
    obtain rfl := Option.some.inj h
    exact g_zret (pc := 22) hX hR (Or.inl rfl) d_Mo_isFree_22
  · refine g_aload_n (pc := 9) hX d_Mo_isFree_9 rfl 0 rfl ?_
    refine g_iload_n (pc := 10) hX d_Mo_isFree_10 rfl 1 rfl ?_
    obtain ⟨o2, e2, h⟩ := zbind h
    refine g_cvI (pc := 11) (w1 := []) (w2 := []) (st := []) (w' := (zwM c q x)) hX zk_Mo_fighterOn zs_Mo_fighterOn zL_Mo_88 (c_Mo_fighterOn c q x l1 e2) rfl rfl rfl rfl (zself _) (zself _).symm 0 10 rfl rfl rfl d_Mo_isFree_11 ?_
    refine g_if_ge (pc := 14) (tgt := 21) hX d_Mo_isFree_14 (by decide) h (fun c3 h => ?_) (fun c3 h => ?_)
    · refine g_iconst (pc := 21) hX d_Mo_isFree_21 zc_0 ?_
      obtain rfl := Option.some.inj h
      exact g_zret (pc := 22) hX hR (Or.inl rfl) d_Mo_isFree_22
    · refine g_iconst (pc := 17) hX d_Mo_isFree_17 zc_1 ?_
      refine g_goto (pc := 18) (tgt := 22) hX d_Mo_isFree_18 (by decide) ?_
      obtain rfl := Option.some.inj h
      exact g_zret (pc := 22) hX hR (Or.inr rfl) d_Mo_isFree_22)
theorem d_Mo_isDown_0 : decode zb_Mo_isDown 0 = .ok (.aload_n 0, 1) := by decide +kernel
theorem d_Mo_isDown_1 : decode zb_Mo_isDown 1 = .ok (.getfield 22, 3) := by decide +kernel
theorem d_Mo_isDown_4 : decode zb_Mo_isDown 4 = .ok (.iload_n 1, 1) := by decide +kernel
theorem d_Mo_isDown_5 : decode zb_Mo_isDown 5 = .ok (.iaload, 1) := by decide +kernel
theorem d_Mo_isDown_6 : decode zb_Mo_isDown 6 = .ok (.ifCond .ne 7, 3) := by decide +kernel
theorem d_Mo_isDown_9 : decode zb_Mo_isDown 9 = .ok (.iconst 1, 1) := by decide +kernel
theorem d_Mo_isDown_10 : decode zb_Mo_isDown 10 = .ok (.goto 4, 3) := by decide +kernel
theorem d_Mo_isDown_13 : decode zb_Mo_isDown 13 = .ok (.iconst 0, 1) := by decide +kernel
theorem d_Mo_isDown_14 : decode zb_Mo_isDown 14 = .ok (.ireturn, 1) := by decide +kernel
def k_Mo_isDown (x : zsM) (l1 : Int32) : Option (Int32) := (if zOut l1 8 then none else (if (((x.2 4)) l1.toNatClampNeg) = 0 then some ((1 : Int32)) else some ((0 : Int32))))
set_option maxRecDepth 20000 in
theorem c_Mo_isDown (c : zY) (q : Nat → Nat) (x : zsM) (l1 : Int32) {out : Int32} (h : k_Mo_isDown x l1 = some out) : KM zy_Mo_isDown zb_Mo_isDown 2 (some .boolean) 0 c [.ref ((q 0)), .int l1] (zwM c q x) (zwM c q x) (some (.int out)) := zK_of zp_Mo rfl (Nat.le_of_ble_eq_true rfl) (zq_Mo c q _ _) (fun X hX hR => by
  show Go X (zwM c q x) [(0, .ref ((q 0))), (1, .int l1)] 0 []
  rw [k_Mo_isDown] at h
  refine g_aload_n (pc := 0) hX d_Mo_isDown_0 rfl 0 rfl ?_
  refine gf_Mo_22 (pc := 1) (v := .ref ((q 5))) hX 0 rfl rfl d_Mo_isDown_1 ?_
  refine g_iload_n (pc := 4) hX d_Mo_isDown_4 rfl 1 rfl ?_
  refine g_iald (pc := 5) (f := (x.2 4)) hX 5 rfl h d_Mo_isDown_5 (fun h => ?_)
  refine g_if_ne (pc := 6) (tgt := 13) hX d_Mo_isDown_6 (by decide) h (fun c1 h => ?_) (fun c1 h => ?_)
  · refine g_iconst (pc := 13) hX d_Mo_isDown_13 zc_0 ?_
    obtain rfl := Option.some.inj h
    exact g_zret (pc := 14) hX hR (Or.inl rfl) d_Mo_isDown_14
  · refine g_iconst (pc := 9) hX d_Mo_isDown_9 zc_1 ?_
    refine g_goto (pc := 10) (tgt := 14) hX d_Mo_isDown_10 (by decide) ?_
    obtain rfl := Option.some.inj h
    exact g_zret (pc := 14) hX hR (Or.inr rfl) d_Mo_isDown_14)
theorem d_Mo_refuses_0 : decode zb_Mo_refuses 0 = .ok (.aload_n 0, 1) := by decide +kernel
theorem d_Mo_refuses_1 : decode zb_Mo_refuses 1 = .ok (.iload_n 1, 1) := by decide +kernel
theorem d_Mo_refuses_2 : decode zb_Mo_refuses 2 = .ok (.putfield 43, 3) := by decide +kernel
theorem d_Mo_refuses_5 : decode zb_Mo_refuses 5 = .ok (.bipush (-3), 2) := by decide +kernel
theorem d_Mo_refuses_7 : decode zb_Mo_refuses 7 = .ok (.ireturn, 1) := by decide +kernel
def k_Mo_refuses (x : zsM) (l1 : Int32) : Option (Int32 × zsM) := some ((-3 : Int32), ((upd x.1 12 l1), x.2))
set_option maxRecDepth 20000 in
theorem c_Mo_refuses (c : zY) (q : Nat → Nat) (x : zsM) (l1 : Int32) {out : Int32 × zsM} (h : k_Mo_refuses x l1 = some out) : KM zy_Mo_refuses zb_Mo_refuses 2 (some .int) 0 c [.ref ((q 0)), .int l1] (zwM c q x) (zwM c q out.2) (some (.int out.1)) := zK_of zp_Mo rfl (Nat.le_of_ble_eq_true rfl) (zq_Mo c q _ _) (fun X hX hR => by
  show Go X (zwM c q x) [(0, .ref ((q 0))), (1, .int l1)] 0 []
  rw [k_Mo_refuses] at h
  refine g_aload_n (pc := 0) hX d_Mo_refuses_0 rfl 0 rfl ?_
  refine g_iload_n (pc := 1) hX d_Mo_refuses_1 rfl 1 rfl ?_
  refine pf_Mo_43 (pc := 2) (w2 := (zwM c q (((upd x.1 12 l1), x.2)))) hX 0 rfl rfl (su_Mo_0_12 c q x l1) d_Mo_refuses_2 ?_
  refine g_bipush (pc := 5) hX d_Mo_refuses_5 ze_m3 ?_
  obtain rfl := Option.some.inj h
  exact g_iret (pc := 7) hX hR d_Mo_refuses_7)
theorem d_Mo_notes_0 : decode zb_Mo_notes 0 = .ok (.aload_n 0, 1) := by decide +kernel
theorem d_Mo_notes_1 : decode zb_Mo_notes 1 = .ok (.getfield 92, 3) := by decide +kernel
theorem d_Mo_notes_4 : decode zb_Mo_notes 4 = .ok (.sipush 300, 3) := by decide +kernel
theorem d_Mo_notes_7 : decode zb_Mo_notes 7 = .ok (.if_icmp .ge 24, 3) := by decide +kernel
theorem d_Mo_notes_10 : decode zb_Mo_notes 10 = .ok (.aload_n 0, 1) := by decide +kernel
theorem d_Mo_notes_11 : decode zb_Mo_notes 11 = .ok (.getfield 47, 3) := by decide +kernel
theorem d_Mo_notes_14 : decode zb_Mo_notes 14 = .ok (.aload_n 0, 1) := by decide +kernel
theorem d_Mo_notes_15 : decode zb_Mo_notes 15 = .ok (.getfield 92, 3) := by decide +kernel
theorem d_Mo_notes_18 : decode zb_Mo_notes 18 = .ok (.sipush 1000, 3) := by decide +kernel
theorem d_Mo_notes_21 : decode zb_Mo_notes 21 = .ok (.bipush 8, 2) := by decide +kernel
theorem d_Mo_notes_23 : decode zb_Mo_notes 23 = .ok (.iload_n 1, 1) := by decide +kernel
theorem d_Mo_notes_24 : decode zb_Mo_notes 24 = .ok (.imul, 1) := by decide +kernel
theorem d_Mo_notes_25 : decode zb_Mo_notes 25 = .ok (.iload_n 2, 1) := by decide +kernel
theorem d_Mo_notes_26 : decode zb_Mo_notes 26 = .ok (.iadd, 1) := by decide +kernel
theorem d_Mo_notes_27 : decode zb_Mo_notes 27 = .ok (.imul, 1) := by decide +kernel
theorem d_Mo_notes_28 : decode zb_Mo_notes 28 = .ok (.iload_n 3, 1) := by decide +kernel
theorem d_Mo_notes_29 : decode zb_Mo_notes 29 = .ok (.iadd, 1) := by decide +kernel
theorem d_Mo_notes_30 : decode zb_Mo_notes 30 = .ok (.iastore, 1) := by decide +kernel
theorem d_Mo_notes_31 : decode zb_Mo_notes 31 = .ok (.aload_n 0, 1) := by decide +kernel
theorem d_Mo_notes_32 : decode zb_Mo_notes 32 = .ok (.dup, 1) := by decide +kernel
theorem d_Mo_notes_33 : decode zb_Mo_notes 33 = .ok (.getfield 92, 3) := by decide +kernel
theorem d_Mo_notes_36 : decode zb_Mo_notes 36 = .ok (.iconst 1, 1) := by decide +kernel
theorem d_Mo_notes_37 : decode zb_Mo_notes 37 = .ok (.iadd, 1) := by decide +kernel
theorem d_Mo_notes_38 : decode zb_Mo_notes 38 = .ok (.putfield 92, 3) := by decide +kernel
theorem d_Mo_notes_41 : decode zb_Mo_notes 41 = .ok (.return_, 1) := by decide +kernel
def k_Mo_notes (x : zsM) (l1 : Int32) (l2 : Int32) (l3 : Int32) : Option (zsM) := (if (x.1 14) < (300 : Int32) then (if zOut ((x.1 14)) 300 then none else some (((upd x.1 14 (((x.1 14) + (1 : Int32)))), (va_up x.2 13 (upd ((x.2 13)) ((x.1 14)).toNatClampNeg ((((1000 : Int32) * (((8 : Int32) * l1) + l2)) + l3))))))) else some (((upd x.1 14 (((x.1 14) + (1 : Int32)))), x.2)))
set_option maxRecDepth 20000 in
theorem c_Mo_notes (c : zY) (q : Nat → Nat) (x : zsM) (l1 : Int32) (l2 : Int32) (l3 : Int32) {out : zsM} (h : k_Mo_notes x l1 l2 l3 = some out) : KM zy_Mo_notes zb_Mo_notes 4 none 0 c [.ref ((q 0)), .int l1, .int l2, .int l3] (zwM c q x) (zwM c q out) none := zK_of zp_Mo rfl (Nat.le_of_ble_eq_true rfl) (zq_Mo c q _ _) (fun X hX hR => by
  show Go X (zwM c q x) [(0, .ref ((q 0))), (1, .int l1), (2, .int l2), (3, .int l3)] 0 []
  rw [k_Mo_notes] at h
  refine g_aload_n (pc := 0) hX d_Mo_notes_0 rfl 0 rfl ?_
  refine gf_Mo_92 (pc := 1) (v := .int ((x.1 14))) hX 0 rfl rfl d_Mo_notes_1 ?_
  refine g_sipush (pc := 4) hX d_Mo_notes_4 zh_300 ?_
  refine g_icmp_ge (pc := 7) (tgt := 31) hX d_Mo_notes_7 (by decide) h (fun c1 h => ?_) (fun c1 h => ?_)
  · refine g_aload_n (pc := 31) hX d_Mo_notes_31 rfl 0 rfl ?_
    refine g_dup (pc := 32) hX d_Mo_notes_32 rfl ?_
    refine gf_Mo_92 (pc := 33) (v := .int ((x.1 14))) hX 0 rfl rfl d_Mo_notes_33 ?_
    refine g_iconst (pc := 36) hX d_Mo_notes_36 zc_1 ?_
    refine g_iadd (pc := 37) hX d_Mo_notes_37 ?_
    refine pf_Mo_92 (pc := 38) (w2 := (zwM c q (((upd x.1 14 (((x.1 14) + (1 : Int32)))), x.2)))) hX 0 rfl rfl (su_Mo_0_14 c q x (((x.1 14) + (1 : Int32)))) d_Mo_notes_38 ?_
    obtain rfl := Option.some.inj h
    exact g_vret (pc := 41) hX hR d_Mo_notes_41
  · refine g_aload_n (pc := 10) hX d_Mo_notes_10 rfl 0 rfl ?_
    refine gf_Mo_47 (pc := 11) (v := .ref ((q 12))) hX 0 rfl rfl d_Mo_notes_11 ?_
    refine g_aload_n (pc := 14) hX d_Mo_notes_14 rfl 0 rfl ?_
    refine gf_Mo_92 (pc := 15) (v := .int ((x.1 14))) hX 0 rfl rfl d_Mo_notes_15 ?_
    refine g_sipush (pc := 18) hX d_Mo_notes_18 zh_1000 ?_
    refine g_bipush (pc := 21) hX d_Mo_notes_21 ze_8 ?_
    refine g_iload_n (pc := 23) hX d_Mo_notes_23 rfl 1 rfl ?_
    refine g_imul (pc := 24) hX d_Mo_notes_24 ?_
    refine g_iload_n (pc := 25) hX d_Mo_notes_25 rfl 2 rfl ?_
    refine g_iadd (pc := 26) hX d_Mo_notes_26 ?_
    refine g_imul (pc := 27) hX d_Mo_notes_27 ?_
    refine g_iload_n (pc := 28) hX d_Mo_notes_28 rfl 3 rfl ?_
    refine g_iadd (pc := 29) hX d_Mo_notes_29 ?_
    refine g_iast (pc := 30) (f := (x.2 13)) (w' := (zwM c q ((x.1, (va_up x.2 13 (upd ((x.2 13)) ((x.1 14)).toNatClampNeg ((((1000 : Int32) * (((8 : Int32) * l1) + l2)) + l3)))))))) hX 12 rfl h (sa_Mo_12 c q x (upd ((x.2 13)) ((x.1 14)).toNatClampNeg ((((1000 : Int32) * (((8 : Int32) * l1) + l2)) + l3)))) d_Mo_notes_30 (fun h => ?_)
    refine g_aload_n (pc := 31) hX d_Mo_notes_31 rfl 0 rfl ?_
    refine g_dup (pc := 32) hX d_Mo_notes_32 rfl ?_
    refine gf_Mo_92 (pc := 33) (v := .int ((x.1 14))) hX 0 rfl rfl d_Mo_notes_33 ?_
    refine g_iconst (pc := 36) hX d_Mo_notes_36 zc_1 ?_
    refine g_iadd (pc := 37) hX d_Mo_notes_37 ?_
    refine pf_Mo_92 (pc := 38) (w2 := (zwM c q (((upd x.1 14 (((x.1 14) + (1 : Int32)))), (va_up x.2 13 (upd ((x.2 13)) ((x.1 14)).toNatClampNeg ((((1000 : Int32) * (((8 : Int32) * l1) + l2)) + l3)))))))) hX 0 rfl rfl (su_Mo_0_14 c q ((x.1, (va_up x.2 13 (upd ((x.2 13)) ((x.1 14)).toNatClampNeg ((((1000 : Int32) * (((8 : Int32) * l1) + l2)) + l3)))))) (((x.1 14) + (1 : Int32)))) d_Mo_notes_38 ?_
    obtain rfl := Option.some.inj h
    exact g_vret (pc := 41) hX hR d_Mo_notes_41)
theorem d_Mo_packed_0 : decode zb_Mo_packed 0 = .ok (.iload_n 0, 1) := by decide +kernel
theorem d_Mo_packed_1 : decode zb_Mo_packed 1 = .ok (.bipush 8, 2) := by decide +kernel
theorem d_Mo_packed_3 : decode zb_Mo_packed 3 = .ok (.imul, 1) := by decide +kernel
theorem d_Mo_packed_4 : decode zb_Mo_packed 4 = .ok (.iload_n 1, 1) := by decide +kernel
theorem d_Mo_packed_5 : decode zb_Mo_packed 5 = .ok (.iadd, 1) := by decide +kernel
theorem d_Mo_packed_6 : decode zb_Mo_packed 6 = .ok (.bipush 8, 2) := by decide +kernel
theorem d_Mo_packed_8 : decode zb_Mo_packed 8 = .ok (.imul, 1) := by decide +kernel
theorem d_Mo_packed_9 : decode zb_Mo_packed 9 = .ok (.iload_n 2, 1) := by decide +kernel
theorem d_Mo_packed_10 : decode zb_Mo_packed 10 = .ok (.iadd, 1) := by decide +kernel
theorem d_Mo_packed_11 : decode zb_Mo_packed 11 = .ok (.bipush 10, 2) := by decide +kernel
theorem d_Mo_packed_13 : decode zb_Mo_packed 13 = .ok (.imul, 1) := by decide +kernel
theorem d_Mo_packed_14 : decode zb_Mo_packed 14 = .ok (.iload_n 3, 1) := by decide +kernel
theorem d_Mo_packed_15 : decode zb_Mo_packed 15 = .ok (.iadd, 1) := by decide +kernel
theorem d_Mo_packed_16 : decode zb_Mo_packed 16 = .ok (.iconst 4, 1) := by decide +kernel
theorem d_Mo_packed_17 : decode zb_Mo_packed 17 = .ok (.imul, 1) := by decide +kernel
theorem d_Mo_packed_18 : decode zb_Mo_packed 18 = .ok (.iload 4, 2) := by decide +kernel
theorem d_Mo_packed_20 : decode zb_Mo_packed 20 = .ok (.iadd, 1) := by decide +kernel
theorem d_Mo_packed_21 : decode zb_Mo_packed 21 = .ok (.bipush 10, 2) := by decide +kernel
theorem d_Mo_packed_23 : decode zb_Mo_packed 23 = .ok (.imul, 1) := by decide +kernel
theorem d_Mo_packed_24 : decode zb_Mo_packed 24 = .ok (.iload 5, 2) := by decide +kernel
theorem d_Mo_packed_26 : decode zb_Mo_packed 26 = .ok (.iadd, 1) := by decide +kernel
theorem d_Mo_packed_27 : decode zb_Mo_packed 27 = .ok (.ireturn, 1) := by decide +kernel
def k_Mo_packed (l0 : Int32) (l1 : Int32) (l2 : Int32) (l3 : Int32) (l4 : Int32) (l5 : Int32) : Option (Int32) := some (((((((((((l0 * (8 : Int32)) + l1) * (8 : Int32)) + l2) * (10 : Int32)) + l3) * (4 : Int32)) + l4) * (10 : Int32)) + l5))
set_option maxRecDepth 20000 in
theorem c_Mo_packed (c : zY) (l0 : Int32) (l1 : Int32) (l2 : Int32) (l3 : Int32) (l4 : Int32) (l5 : Int32) {out : Int32} (h : k_Mo_packed l0 l1 l2 l3 l4 l5 = some out) : KM zy_Mo_packed zb_Mo_packed 6 (some .int) 0 c [.int l0, .int l1, .int l2, .int l3, .int l4, .int l5] [] [] (some (.int out)) := zK_of zp_Mo rfl (Nat.le_of_ble_eq_true rfl) rfl (fun X hX hR => by
  show Go X [] [(0, .int l0), (1, .int l1), (2, .int l2), (3, .int l3), (4, .int l4), (5, .int l5)] 0 []
  rw [k_Mo_packed] at h
  refine g_iload_n (pc := 0) hX d_Mo_packed_0 rfl 0 rfl ?_
  refine g_bipush (pc := 1) hX d_Mo_packed_1 ze_8 ?_
  refine g_imul (pc := 3) hX d_Mo_packed_3 ?_
  refine g_iload_n (pc := 4) hX d_Mo_packed_4 rfl 1 rfl ?_
  refine g_iadd (pc := 5) hX d_Mo_packed_5 ?_
  refine g_bipush (pc := 6) hX d_Mo_packed_6 ze_8 ?_
  refine g_imul (pc := 8) hX d_Mo_packed_8 ?_
  refine g_iload_n (pc := 9) hX d_Mo_packed_9 rfl 2 rfl ?_
  refine g_iadd (pc := 10) hX d_Mo_packed_10 ?_
  refine g_bipush (pc := 11) hX d_Mo_packed_11 ze_10 ?_
  refine g_imul (pc := 13) hX d_Mo_packed_13 ?_
  refine g_iload_n (pc := 14) hX d_Mo_packed_14 rfl 3 rfl ?_
  refine g_iadd (pc := 15) hX d_Mo_packed_15 ?_
  refine g_iconst (pc := 16) hX d_Mo_packed_16 zc_4 ?_
  refine g_imul (pc := 17) hX d_Mo_packed_17 ?_
  refine g_iload (pc := 18) hX d_Mo_packed_18 4 rfl ?_
  refine g_iadd (pc := 20) hX d_Mo_packed_20 ?_
  refine g_bipush (pc := 21) hX d_Mo_packed_21 ze_10 ?_
  refine g_imul (pc := 23) hX d_Mo_packed_23 ?_
  refine g_iload (pc := 24) hX d_Mo_packed_24 5 rfl ?_
  refine g_iadd (pc := 26) hX d_Mo_packed_26 ?_
  obtain rfl := Option.some.inj h
  exact g_iret (pc := 27) hX hR d_Mo_packed_27)
theorem d_Mo_partOf_0 : decode zb_Mo_partOf 0 = .ok (.aload_n 0, 1) := by decide +kernel
theorem d_Mo_partOf_1 : decode zb_Mo_partOf 1 = .ok (.getfield 50, 3) := by decide +kernel
theorem d_Mo_partOf_4 : decode zb_Mo_partOf 4 = .ok (.iload_n 1, 1) := by decide +kernel
theorem d_Mo_partOf_5 : decode zb_Mo_partOf 5 = .ok (.iaload, 1) := by decide +kernel
theorem d_Mo_partOf_6 : decode zb_Mo_partOf 6 = .ok (.istore_n 3, 1) := by decide +kernel
theorem d_Mo_partOf_7 : decode zb_Mo_partOf 7 = .ok (.iload_n 2, 1) := by decide +kernel
theorem d_Mo_partOf_8 : decode zb_Mo_partOf 8 = .ok (.tableswitch 75 0 4 #[36, 42, 51, 60, 68], 36) := by decide +kernel
theorem d_Mo_partOf_44 : decode zb_Mo_partOf 44 = .ok (.iload_n 3, 1) := by decide +kernel
theorem d_Mo_partOf_45 : decode zb_Mo_partOf 45 = .ok (.sipush 25600, 3) := by decide +kernel
theorem d_Mo_partOf_48 : decode zb_Mo_partOf 48 = .ok (.idiv, 1) := by decide +kernel
theorem d_Mo_partOf_49 : decode zb_Mo_partOf 49 = .ok (.ireturn, 1) := by decide +kernel
theorem d_Mo_partOf_50 : decode zb_Mo_partOf 50 = .ok (.iload_n 3, 1) := by decide +kernel
theorem d_Mo_partOf_51 : decode zb_Mo_partOf 51 = .ok (.sipush 3200, 3) := by decide +kernel
theorem d_Mo_partOf_54 : decode zb_Mo_partOf 54 = .ok (.idiv, 1) := by decide +kernel
theorem d_Mo_partOf_55 : decode zb_Mo_partOf 55 = .ok (.bipush 8, 2) := by decide +kernel
theorem d_Mo_partOf_57 : decode zb_Mo_partOf 57 = .ok (.irem, 1) := by decide +kernel
theorem d_Mo_partOf_58 : decode zb_Mo_partOf 58 = .ok (.ireturn, 1) := by decide +kernel
theorem d_Mo_partOf_59 : decode zb_Mo_partOf 59 = .ok (.iload_n 3, 1) := by decide +kernel
theorem d_Mo_partOf_60 : decode zb_Mo_partOf 60 = .ok (.sipush 400, 3) := by decide +kernel
theorem d_Mo_partOf_63 : decode zb_Mo_partOf 63 = .ok (.idiv, 1) := by decide +kernel
theorem d_Mo_partOf_64 : decode zb_Mo_partOf 64 = .ok (.bipush 8, 2) := by decide +kernel
theorem d_Mo_partOf_66 : decode zb_Mo_partOf 66 = .ok (.irem, 1) := by decide +kernel
theorem d_Mo_partOf_67 : decode zb_Mo_partOf 67 = .ok (.ireturn, 1) := by decide +kernel
theorem d_Mo_partOf_68 : decode zb_Mo_partOf 68 = .ok (.iload_n 3, 1) := by decide +kernel
theorem d_Mo_partOf_69 : decode zb_Mo_partOf 69 = .ok (.bipush 40, 2) := by decide +kernel
theorem d_Mo_partOf_71 : decode zb_Mo_partOf 71 = .ok (.idiv, 1) := by decide +kernel
theorem d_Mo_partOf_72 : decode zb_Mo_partOf 72 = .ok (.bipush 10, 2) := by decide +kernel
theorem d_Mo_partOf_74 : decode zb_Mo_partOf 74 = .ok (.irem, 1) := by decide +kernel
theorem d_Mo_partOf_75 : decode zb_Mo_partOf 75 = .ok (.ireturn, 1) := by decide +kernel
theorem d_Mo_partOf_76 : decode zb_Mo_partOf 76 = .ok (.iload_n 3, 1) := by decide +kernel
theorem d_Mo_partOf_77 : decode zb_Mo_partOf 77 = .ok (.bipush 10, 2) := by decide +kernel
theorem d_Mo_partOf_79 : decode zb_Mo_partOf 79 = .ok (.idiv, 1) := by decide +kernel
theorem d_Mo_partOf_80 : decode zb_Mo_partOf 80 = .ok (.iconst 4, 1) := by decide +kernel
theorem d_Mo_partOf_81 : decode zb_Mo_partOf 81 = .ok (.irem, 1) := by decide +kernel
theorem d_Mo_partOf_82 : decode zb_Mo_partOf 82 = .ok (.ireturn, 1) := by decide +kernel
theorem d_Mo_partOf_83 : decode zb_Mo_partOf 83 = .ok (.iload_n 3, 1) := by decide +kernel
theorem d_Mo_partOf_84 : decode zb_Mo_partOf 84 = .ok (.bipush 10, 2) := by decide +kernel
theorem d_Mo_partOf_86 : decode zb_Mo_partOf 86 = .ok (.irem, 1) := by decide +kernel
theorem d_Mo_partOf_87 : decode zb_Mo_partOf 87 = .ok (.ireturn, 1) := by decide +kernel
def k_Mo_partOf (x : zsM) (l1 : Int32) (l2 : Int32) : Option (Int32) := (if zOut l1 384 then none else (if l2 = (0 : Int32) then some (((((x.2 15)) l1.toNatClampNeg) / (25600 : Int32))) else (if l2 = (1 : Int32) then some ((zrem (((((x.2 15)) l1.toNatClampNeg) / (3200 : Int32))) (8 : Int32))) else (if l2 = (2 : Int32) then some ((zrem (((((x.2 15)) l1.toNatClampNeg) / (400 : Int32))) (8 : Int32))) else (if l2 = (3 : Int32) then some ((zrem (((((x.2 15)) l1.toNatClampNeg) / (40 : Int32))) (10 : Int32))) else (if l2 = (4 : Int32) then some ((zrem (((((x.2 15)) l1.toNatClampNeg) / (10 : Int32))) (4 : Int32))) else some ((zrem ((((x.2 15)) l1.toNatClampNeg)) (10 : Int32)))))))))
set_option maxRecDepth 20000 in
theorem c_Mo_partOf (c : zY) (q : Nat → Nat) (x : zsM) (l1 : Int32) (l2 : Int32) {out : Int32} (h : k_Mo_partOf x l1 l2 = some out) : KM zy_Mo_partOf zb_Mo_partOf 4 (some .int) 0 c [.ref ((q 0)), .int l1, .int l2] (zwM c q x) (zwM c q x) (some (.int out)) := zK_of zp_Mo rfl (Nat.le_of_ble_eq_true rfl) (zq_Mo c q _ _) (fun X hX hR => by
  show Go X (zwM c q x) [(0, .ref ((q 0))), (1, .int l1), (2, .int l2)] 0 []
  rw [k_Mo_partOf] at h
  refine g_aload_n (pc := 0) hX d_Mo_partOf_0 rfl 0 rfl ?_
  refine gf_Mo_50 (pc := 1) (v := .ref ((q 13))) hX 0 rfl rfl d_Mo_partOf_1 ?_
  refine g_iload_n (pc := 4) hX d_Mo_partOf_4 rfl 1 rfl ?_
  refine g_iald (pc := 5) (f := (x.2 15)) hX 13 rfl h d_Mo_partOf_5 (fun h => ?_)
  refine g_istore_n (pc := 6) (L' := [(3, .int ((((x.2 15)) l1.toNatClampNeg))), (0, .ref ((q 0))), (1, .int l1), (2, .int l2)]) hX d_Mo_partOf_6 rfl rfl rfl ?_
  refine g_iload_n (pc := 7) hX d_Mo_partOf_7 rfl 3 rfl ?_
  by_cases c1 : l2 = (0 : Int32)
  · rw [if_pos c1] at h
    refine g_tswIn (pc := 8) (tgt := 44) (off := 36) hX d_Mo_partOf_8 (0 : Int32) c1 (by decide) (by decide) rfl (by decide) ?_
    refine g_iload_n (pc := 44) hX d_Mo_partOf_44 rfl 0 rfl ?_
    refine g_sipush (pc := 45) hX d_Mo_partOf_45 zh_25600 ?_
    refine g_idiv (pc := 48) hX d_Mo_partOf_48 (by decide) ?_
    obtain rfl := Option.some.inj h
    exact g_iret (pc := 49) hX hR d_Mo_partOf_49
  rw [if_neg c1] at h
  by_cases c2 : l2 = (1 : Int32)
  · rw [if_pos c2] at h
    refine g_tswIn (pc := 8) (tgt := 50) (off := 42) hX d_Mo_partOf_8 (1 : Int32) c2 (by decide) (by decide) rfl (by decide) ?_
    refine g_iload_n (pc := 50) hX d_Mo_partOf_50 rfl 0 rfl ?_
    refine g_sipush (pc := 51) hX d_Mo_partOf_51 zh_3200 ?_
    refine g_idiv (pc := 54) hX d_Mo_partOf_54 (by decide) ?_
    refine g_bipush (pc := 55) hX d_Mo_partOf_55 ze_8 ?_
    refine g_irem (pc := 57) hX d_Mo_partOf_57 (by decide) ?_
    obtain rfl := Option.some.inj h
    exact g_iret (pc := 58) hX hR d_Mo_partOf_58
  rw [if_neg c2] at h
  by_cases c3 : l2 = (2 : Int32)
  · rw [if_pos c3] at h
    refine g_tswIn (pc := 8) (tgt := 59) (off := 51) hX d_Mo_partOf_8 (2 : Int32) c3 (by decide) (by decide) rfl (by decide) ?_
    refine g_iload_n (pc := 59) hX d_Mo_partOf_59 rfl 0 rfl ?_
    refine g_sipush (pc := 60) hX d_Mo_partOf_60 zh_400 ?_
    refine g_idiv (pc := 63) hX d_Mo_partOf_63 (by decide) ?_
    refine g_bipush (pc := 64) hX d_Mo_partOf_64 ze_8 ?_
    refine g_irem (pc := 66) hX d_Mo_partOf_66 (by decide) ?_
    obtain rfl := Option.some.inj h
    exact g_iret (pc := 67) hX hR d_Mo_partOf_67
  rw [if_neg c3] at h
  by_cases c4 : l2 = (3 : Int32)
  · rw [if_pos c4] at h
    refine g_tswIn (pc := 8) (tgt := 68) (off := 60) hX d_Mo_partOf_8 (3 : Int32) c4 (by decide) (by decide) rfl (by decide) ?_
    refine g_iload_n (pc := 68) hX d_Mo_partOf_68 rfl 0 rfl ?_
    refine g_bipush (pc := 69) hX d_Mo_partOf_69 ze_40 ?_
    refine g_idiv (pc := 71) hX d_Mo_partOf_71 (by decide) ?_
    refine g_bipush (pc := 72) hX d_Mo_partOf_72 ze_10 ?_
    refine g_irem (pc := 74) hX d_Mo_partOf_74 (by decide) ?_
    obtain rfl := Option.some.inj h
    exact g_iret (pc := 75) hX hR d_Mo_partOf_75
  rw [if_neg c4] at h
  by_cases c5 : l2 = (4 : Int32)
  · rw [if_pos c5] at h
    refine g_tswIn (pc := 8) (tgt := 76) (off := 68) hX d_Mo_partOf_8 (4 : Int32) c5 (by decide) (by decide) rfl (by decide) ?_
    refine g_iload_n (pc := 76) hX d_Mo_partOf_76 rfl 0 rfl ?_
    refine g_bipush (pc := 77) hX d_Mo_partOf_77 ze_10 ?_
    refine g_idiv (pc := 79) hX d_Mo_partOf_79 (by decide) ?_
    refine g_iconst (pc := 80) hX d_Mo_partOf_80 zc_4 ?_
    refine g_irem (pc := 81) hX d_Mo_partOf_81 (by decide) ?_
    obtain rfl := Option.some.inj h
    exact g_iret (pc := 82) hX hR d_Mo_partOf_82
  rw [if_neg c5] at h
  refine g_tswOut (pc := 8) (tgt := 83) hX d_Mo_partOf_8 (by have a1 := lv_neT c1 (a := 0) (by decide); have a2 := lv_neT c2 (a := 1) (by decide); have a3 := lv_neT c3 (a := 2) (by decide); have a4 := lv_neT c4 (a := 3) (by decide); have a5 := lv_neT c5 (a := 4) (by decide); omega) (by decide) ?_
  refine g_iload_n (pc := 83) hX d_Mo_partOf_83 rfl 0 rfl ?_
  refine g_bipush (pc := 84) hX d_Mo_partOf_84 ze_10 ?_
  refine g_irem (pc := 86) hX d_Mo_partOf_86 (by decide) ?_
  obtain rfl := Option.some.inj h
  exact g_iret (pc := 87) hX hR d_Mo_partOf_87)
theorem d_Mo_sumOf_0 : decode zb_Mo_sumOf 0 = .ok (.iconst 0, 1) := by decide +kernel
theorem d_Mo_sumOf_1 : decode zb_Mo_sumOf 1 = .ok (.istore_n 3, 1) := by decide +kernel
theorem d_Mo_sumOf_2 : decode zb_Mo_sumOf 2 = .ok (.iconst 0, 1) := by decide +kernel
theorem d_Mo_sumOf_3 : decode zb_Mo_sumOf 3 = .ok (.istore 4, 2) := by decide +kernel
theorem d_Mo_sumOf_5 : decode zb_Mo_sumOf 5 = .ok (.iload 4, 2) := by decide +kernel
theorem d_Mo_sumOf_7 : decode zb_Mo_sumOf 7 = .ok (.aload_n 0, 1) := by decide +kernel
theorem d_Mo_sumOf_8 : decode zb_Mo_sumOf 8 = .ok (.getfield 95, 3) := by decide +kernel
theorem d_Mo_sumOf_11 : decode zb_Mo_sumOf 11 = .ok (.if_icmp .ge 45, 3) := by decide +kernel
theorem d_Mo_sumOf_14 : decode zb_Mo_sumOf 14 = .ok (.iload_n 3, 1) := by decide +kernel
theorem d_Mo_sumOf_15 : decode zb_Mo_sumOf 15 = .ok (.aload_n 0, 1) := by decide +kernel
theorem d_Mo_sumOf_16 : decode zb_Mo_sumOf 16 = .ok (.iload 4, 2) := by decide +kernel
theorem d_Mo_sumOf_18 : decode zb_Mo_sumOf 18 = .ok (.iconst 0, 1) := by decide +kernel
theorem d_Mo_sumOf_19 : decode zb_Mo_sumOf 19 = .ok (.invokevirtual 98, 3) := by decide +kernel
theorem d_Mo_sumOf_22 : decode zb_Mo_sumOf 22 = .ok (.iload_n 2, 1) := by decide +kernel
theorem d_Mo_sumOf_23 : decode zb_Mo_sumOf 23 = .ok (.if_icmp .ne 24, 3) := by decide +kernel
theorem d_Mo_sumOf_26 : decode zb_Mo_sumOf 26 = .ok (.aload_n 0, 1) := by decide +kernel
theorem d_Mo_sumOf_27 : decode zb_Mo_sumOf 27 = .ok (.iload 4, 2) := by decide +kernel
theorem d_Mo_sumOf_29 : decode zb_Mo_sumOf 29 = .ok (.iconst 1, 1) := by decide +kernel
theorem d_Mo_sumOf_30 : decode zb_Mo_sumOf 30 = .ok (.invokevirtual 98, 3) := by decide +kernel
theorem d_Mo_sumOf_33 : decode zb_Mo_sumOf 33 = .ok (.iload_n 1, 1) := by decide +kernel
theorem d_Mo_sumOf_34 : decode zb_Mo_sumOf 34 = .ok (.if_icmp .ne 13, 3) := by decide +kernel
theorem d_Mo_sumOf_37 : decode zb_Mo_sumOf 37 = .ok (.aload_n 0, 1) := by decide +kernel
theorem d_Mo_sumOf_38 : decode zb_Mo_sumOf 38 = .ok (.iload 4, 2) := by decide +kernel
theorem d_Mo_sumOf_40 : decode zb_Mo_sumOf 40 = .ok (.iconst 3, 1) := by decide +kernel
theorem d_Mo_sumOf_41 : decode zb_Mo_sumOf 41 = .ok (.invokevirtual 98, 3) := by decide +kernel
theorem d_Mo_sumOf_44 : decode zb_Mo_sumOf 44 = .ok (.goto 4, 3) := by decide +kernel
theorem d_Mo_sumOf_47 : decode zb_Mo_sumOf 47 = .ok (.iconst 0, 1) := by decide +kernel
theorem d_Mo_sumOf_48 : decode zb_Mo_sumOf 48 = .ok (.iadd, 1) := by decide +kernel
theorem d_Mo_sumOf_49 : decode zb_Mo_sumOf 49 = .ok (.istore_n 3, 1) := by decide +kernel
theorem d_Mo_sumOf_50 : decode zb_Mo_sumOf 50 = .ok (.iinc 4 1, 3) := by decide +kernel
theorem d_Mo_sumOf_53 : decode zb_Mo_sumOf 53 = .ok (.goto (-48), 3) := by decide +kernel
theorem d_Mo_sumOf_56 : decode zb_Mo_sumOf 56 = .ok (.iload_n 3, 1) := by decide +kernel
theorem d_Mo_sumOf_57 : decode zb_Mo_sumOf 57 = .ok (.ireturn, 1) := by decide +kernel
def k_Mo_sumOf_5 (x : zsM) (l1 : Int32) (l2 : Int32) : Nat → Int32 → Int32 → Option (Int32)
  | 0, _, _ => none
  | fu + 1, l3, l4 => (if l4 < (x.1 16) then (k_Mo_partOf x l4 ((0 : Int32))).bind fun o2 => (if o2 = l2 then (k_Mo_partOf x l4 ((1 : Int32))).bind fun o4 => (if o4 = l1 then (k_Mo_partOf x l4 ((3 : Int32))).bind fun o6 => k_Mo_sumOf_5 x l1 l2 fu ((l3 + o6)) ((l4 + (1 : Int32))) else k_Mo_sumOf_5 x l1 l2 fu ((l3 + (0 : Int32))) ((l4 + (1 : Int32)))) else k_Mo_sumOf_5 x l1 l2 fu ((l3 + (0 : Int32))) ((l4 + (1 : Int32)))) else some l3)
set_option maxRecDepth 20000 in
theorem w_Mo_sumOf_5 {X : zX} {c : zY} {q : Nat → Nat} {x : zsM} {l1 : Int32} {l2 : Int32} {out : Int32} (hX : Ok X zr_Mo zb_Mo_sumOf 5 1 c) (hR : Rt X (some .int) (some (.int out)) (zwM c q x)) : ∀ (fu : Nat) (l3 : Int32) (l4 : Int32), k_Mo_sumOf_5 x l1 l2 fu l3 l4 = some out → Go X (zwM c q x) [(0, .ref ((q 0))), (1, .int l1), (2, .int l2), (3, .int l3), (4, .int l4)] 5 [] := by
  intro fu
  induction fu with
  | zero => intro l3 l4 h; rw [k_Mo_sumOf_5] at h; cases h
  | succ fu ih =>
    intro l3 l4 h
    rw [k_Mo_sumOf_5] at h
    refine g_iload (pc := 5) hX d_Mo_sumOf_5 4 rfl ?_
    refine g_aload_n (pc := 7) hX d_Mo_sumOf_7 rfl 0 rfl ?_
    refine gf_Mo_95 (pc := 8) (v := .int ((x.1 16))) hX 0 rfl rfl d_Mo_sumOf_8 ?_
    refine g_icmp_ge (pc := 11) (tgt := 56) hX d_Mo_sumOf_11 (by decide) h (fun c1 h => ?_) (fun c1 h => ?_)
    · refine g_iload_n (pc := 56) hX d_Mo_sumOf_56 rfl 3 rfl ?_
      obtain rfl := Option.some.inj h
      exact g_iret (pc := 57) hX hR d_Mo_sumOf_57
    · refine g_iload_n (pc := 14) hX d_Mo_sumOf_14 rfl 3 rfl ?_
      refine g_aload_n (pc := 15) hX d_Mo_sumOf_15 rfl 0 rfl ?_
      refine g_iload (pc := 16) hX d_Mo_sumOf_16 4 rfl ?_
      refine g_iconst (pc := 18) hX d_Mo_sumOf_18 zc_0 ?_
      obtain ⟨o2, e2, h⟩ := zbind h
      refine g_cvI (pc := 19) (w1 := []) (w2 := []) (st := [.int l3]) (w' := (zwM c q x)) hX zk_Mo_partOf zs_Mo_partOf zL_Mo_98 (c_Mo_partOf c q x l4 ((0 : Int32)) e2) rfl rfl rfl rfl (zself _) (zself _).symm 0 10 rfl rfl rfl d_Mo_sumOf_19 ?_
      refine g_iload_n (pc := 22) hX d_Mo_sumOf_22 rfl 2 rfl ?_
      refine g_icmp_ne (pc := 23) (tgt := 47) hX d_Mo_sumOf_23 (by decide) h (fun c3 h => ?_) (fun c3 h => ?_)
      · refine g_iconst (pc := 47) hX d_Mo_sumOf_47 zc_0 ?_
        refine g_iadd (pc := 48) hX d_Mo_sumOf_48 ?_
        refine g_istore_n (pc := 49) (L' := [(3, .int ((l3 + (0 : Int32)))), (0, .ref ((q 0))), (1, .int l1), (2, .int l2), (4, .int l4)]) hX d_Mo_sumOf_49 rfl rfl rfl ?_
        refine g_iinc (pc := 50) (q := 4) (L' := [(4, .int ((l4 + (1 : Int32)))), (3, .int ((l3 + (0 : Int32)))), (0, .ref ((q 0))), (1, .int l1), (2, .int l2)]) hX d_Mo_sumOf_50 rfl zc_1 rfl rfl ?_
        refine g_goto (pc := 53) (tgt := 5) hX d_Mo_sumOf_53 (by decide) ?_
        refine g_ls (L' := [(0, .ref ((q 0))), (1, .int l1), (2, .int l2), (3, .int ((l3 + (0 : Int32)))), (4, .int ((l4 + (1 : Int32))))]) [2, 3, 4, 1, 0] rfl ?_
        exact ih _ _ h
      · refine g_aload_n (pc := 26) hX d_Mo_sumOf_26 rfl 0 rfl ?_
        refine g_iload (pc := 27) hX d_Mo_sumOf_27 4 rfl ?_
        refine g_iconst (pc := 29) hX d_Mo_sumOf_29 zc_1 ?_
        obtain ⟨o4, e4, h⟩ := zbind h
        refine g_cvI (pc := 30) (w1 := []) (w2 := []) (st := [.int l3]) (w' := (zwM c q x)) hX zk_Mo_partOf zs_Mo_partOf zL_Mo_98 (c_Mo_partOf c q x l4 ((1 : Int32)) e4) rfl rfl rfl rfl (zself _) (zself _).symm 0 10 rfl rfl rfl d_Mo_sumOf_30 ?_
        refine g_iload_n (pc := 33) hX d_Mo_sumOf_33 rfl 1 rfl ?_
        refine g_icmp_ne (pc := 34) (tgt := 47) hX d_Mo_sumOf_34 (by decide) h (fun c5 h => ?_) (fun c5 h => ?_)
        · refine g_iconst (pc := 47) hX d_Mo_sumOf_47 zc_0 ?_
          refine g_iadd (pc := 48) hX d_Mo_sumOf_48 ?_
          refine g_istore_n (pc := 49) (L' := [(3, .int ((l3 + (0 : Int32)))), (0, .ref ((q 0))), (1, .int l1), (2, .int l2), (4, .int l4)]) hX d_Mo_sumOf_49 rfl rfl rfl ?_
          refine g_iinc (pc := 50) (q := 4) (L' := [(4, .int ((l4 + (1 : Int32)))), (3, .int ((l3 + (0 : Int32)))), (0, .ref ((q 0))), (1, .int l1), (2, .int l2)]) hX d_Mo_sumOf_50 rfl zc_1 rfl rfl ?_
          refine g_goto (pc := 53) (tgt := 5) hX d_Mo_sumOf_53 (by decide) ?_
          refine g_ls (L' := [(0, .ref ((q 0))), (1, .int l1), (2, .int l2), (3, .int ((l3 + (0 : Int32)))), (4, .int ((l4 + (1 : Int32))))]) [2, 3, 4, 1, 0] rfl ?_
          exact ih _ _ h
        · refine g_aload_n (pc := 37) hX d_Mo_sumOf_37 rfl 0 rfl ?_
          refine g_iload (pc := 38) hX d_Mo_sumOf_38 4 rfl ?_
          refine g_iconst (pc := 40) hX d_Mo_sumOf_40 zc_3 ?_
          obtain ⟨o6, e6, h⟩ := zbind h
          refine g_cvI (pc := 41) (w1 := []) (w2 := []) (st := [.int l3]) (w' := (zwM c q x)) hX zk_Mo_partOf zs_Mo_partOf zL_Mo_98 (c_Mo_partOf c q x l4 ((3 : Int32)) e6) rfl rfl rfl rfl (zself _) (zself _).symm 0 10 rfl rfl rfl d_Mo_sumOf_41 ?_
          refine g_goto (pc := 44) (tgt := 48) hX d_Mo_sumOf_44 (by decide) ?_
          refine g_iadd (pc := 48) hX d_Mo_sumOf_48 ?_
          refine g_istore_n (pc := 49) (L' := [(3, .int ((l3 + o6))), (0, .ref ((q 0))), (1, .int l1), (2, .int l2), (4, .int l4)]) hX d_Mo_sumOf_49 rfl rfl rfl ?_
          refine g_iinc (pc := 50) (q := 4) (L' := [(4, .int ((l4 + (1 : Int32)))), (3, .int ((l3 + o6))), (0, .ref ((q 0))), (1, .int l1), (2, .int l2)]) hX d_Mo_sumOf_50 rfl zc_1 rfl rfl ?_
          refine g_goto (pc := 53) (tgt := 5) hX d_Mo_sumOf_53 (by decide) ?_
          refine g_ls (L' := [(0, .ref ((q 0))), (1, .int l1), (2, .int l2), (3, .int ((l3 + o6))), (4, .int ((l4 + (1 : Int32))))]) [2, 3, 4, 1, 0] rfl ?_
          exact ih _ _ h
def k_Mo_sumOf (x : zsM) (l1 : Int32) (l2 : Int32) : Option (Int32) := k_Mo_sumOf_5 x l1 l2 zFu ((0 : Int32)) ((0 : Int32))
set_option maxRecDepth 20000 in
theorem c_Mo_sumOf (c : zY) (q : Nat → Nat) (x : zsM) (l1 : Int32) (l2 : Int32) {out : Int32} (h : k_Mo_sumOf x l1 l2 = some out) : KM zy_Mo_sumOf zb_Mo_sumOf 5 (some .int) 1 c [.ref ((q 0)), .int l1, .int l2] (zwM c q x) (zwM c q x) (some (.int out)) := zK_of zp_Mo rfl (Nat.le_of_ble_eq_true rfl) (zq_Mo c q _ _) (fun X hX hR => by
  show Go X (zwM c q x) [(0, .ref ((q 0))), (1, .int l1), (2, .int l2)] 0 []
  rw [k_Mo_sumOf] at h
  refine g_iconst (pc := 0) hX d_Mo_sumOf_0 zc_0 ?_
  refine g_istore_n (pc := 1) (L' := [(3, .int ((0 : Int32))), (0, .ref ((q 0))), (1, .int l1), (2, .int l2)]) hX d_Mo_sumOf_1 rfl rfl rfl ?_
  refine g_iconst (pc := 2) hX d_Mo_sumOf_2 zc_0 ?_
  refine g_istore (pc := 3) (L' := [(4, .int ((0 : Int32))), (3, .int ((0 : Int32))), (0, .ref ((q 0))), (1, .int l1), (2, .int l2)]) hX d_Mo_sumOf_3 rfl rfl ?_
  refine g_ls (L' := [(0, .ref ((q 0))), (1, .int l1), (2, .int l2), (3, .int ((0 : Int32))), (4, .int ((0 : Int32)))]) [2, 3, 4, 1, 0] rfl ?_
  exact w_Mo_sumOf_5 hX hR _ _ _ h)
theorem d_Mo_endsAt_0 : decode zb_Mo_endsAt 0 = .ok (.aload_n 0, 1) := by decide +kernel
theorem d_Mo_endsAt_1 : decode zb_Mo_endsAt 1 = .ok (.iconst 4, 1) := by decide +kernel
theorem d_Mo_endsAt_2 : decode zb_Mo_endsAt 2 = .ok (.aload_n 0, 1) := by decide +kernel
theorem d_Mo_endsAt_3 : decode zb_Mo_endsAt 3 = .ok (.iload_n 1, 1) := by decide +kernel
theorem d_Mo_endsAt_4 : decode zb_Mo_endsAt 4 = .ok (.iconst 1, 1) := by decide +kernel
theorem d_Mo_endsAt_5 : decode zb_Mo_endsAt 5 = .ok (.invokevirtual 98, 3) := by decide +kernel
theorem d_Mo_endsAt_8 : decode zb_Mo_endsAt 8 = .ok (.aload_n 0, 1) := by decide +kernel
theorem d_Mo_endsAt_9 : decode zb_Mo_endsAt 9 = .ok (.iload_n 1, 1) := by decide +kernel
theorem d_Mo_endsAt_10 : decode zb_Mo_endsAt 10 = .ok (.iconst 0, 1) := by decide +kernel
theorem d_Mo_endsAt_11 : decode zb_Mo_endsAt 11 = .ok (.invokevirtual 98, 3) := by decide +kernel
theorem d_Mo_endsAt_14 : decode zb_Mo_endsAt 14 = .ok (.invokevirtual 102, 3) := by decide +kernel
theorem d_Mo_endsAt_17 : decode zb_Mo_endsAt 17 = .ok (.aload_n 0, 1) := by decide +kernel
theorem d_Mo_endsAt_18 : decode zb_Mo_endsAt 18 = .ok (.dup, 1) := by decide +kernel
theorem d_Mo_endsAt_19 : decode zb_Mo_endsAt 19 = .ok (.getfield 95, 3) := by decide +kernel
theorem d_Mo_endsAt_22 : decode zb_Mo_endsAt 22 = .ok (.iconst 1, 1) := by decide +kernel
theorem d_Mo_endsAt_23 : decode zb_Mo_endsAt 23 = .ok (.isub, 1) := by decide +kernel
theorem d_Mo_endsAt_24 : decode zb_Mo_endsAt 24 = .ok (.putfield 95, 3) := by decide +kernel
theorem d_Mo_endsAt_27 : decode zb_Mo_endsAt 27 = .ok (.iload_n 1, 1) := by decide +kernel
theorem d_Mo_endsAt_28 : decode zb_Mo_endsAt 28 = .ok (.istore_n 2, 1) := by decide +kernel
theorem d_Mo_endsAt_29 : decode zb_Mo_endsAt 29 = .ok (.iload_n 2, 1) := by decide +kernel
theorem d_Mo_endsAt_30 : decode zb_Mo_endsAt 30 = .ok (.aload_n 0, 1) := by decide +kernel
theorem d_Mo_endsAt_31 : decode zb_Mo_endsAt 31 = .ok (.getfield 95, 3) := by decide +kernel
theorem d_Mo_endsAt_34 : decode zb_Mo_endsAt 34 = .ok (.if_icmp .ge 23, 3) := by decide +kernel
theorem d_Mo_endsAt_37 : decode zb_Mo_endsAt 37 = .ok (.aload_n 0, 1) := by decide +kernel
theorem d_Mo_endsAt_38 : decode zb_Mo_endsAt 38 = .ok (.getfield 50, 3) := by decide +kernel
theorem d_Mo_endsAt_41 : decode zb_Mo_endsAt 41 = .ok (.iload_n 2, 1) := by decide +kernel
theorem d_Mo_endsAt_42 : decode zb_Mo_endsAt 42 = .ok (.aload_n 0, 1) := by decide +kernel
theorem d_Mo_endsAt_43 : decode zb_Mo_endsAt 43 = .ok (.getfield 50, 3) := by decide +kernel
theorem d_Mo_endsAt_46 : decode zb_Mo_endsAt 46 = .ok (.iload_n 2, 1) := by decide +kernel
theorem d_Mo_endsAt_47 : decode zb_Mo_endsAt 47 = .ok (.iconst 1, 1) := by decide +kernel
theorem d_Mo_endsAt_48 : decode zb_Mo_endsAt 48 = .ok (.iadd, 1) := by decide +kernel
theorem d_Mo_endsAt_49 : decode zb_Mo_endsAt 49 = .ok (.iaload, 1) := by decide +kernel
theorem d_Mo_endsAt_50 : decode zb_Mo_endsAt 50 = .ok (.iastore, 1) := by decide +kernel
theorem d_Mo_endsAt_51 : decode zb_Mo_endsAt 51 = .ok (.iinc 2 1, 3) := by decide +kernel
theorem d_Mo_endsAt_54 : decode zb_Mo_endsAt 54 = .ok (.goto (-25), 3) := by decide +kernel
theorem d_Mo_endsAt_57 : decode zb_Mo_endsAt 57 = .ok (.iload_n 1, 1) := by decide +kernel
theorem d_Mo_endsAt_58 : decode zb_Mo_endsAt 58 = .ok (.iconst 1, 1) := by decide +kernel
theorem d_Mo_endsAt_59 : decode zb_Mo_endsAt 59 = .ok (.isub, 1) := by decide +kernel
theorem d_Mo_endsAt_60 : decode zb_Mo_endsAt 60 = .ok (.ireturn, 1) := by decide +kernel
def k_Mo_endsAt_29 (l1 : Int32) : Nat → Int32 → zsM → Option (Int32 × zsM)
  | 0, _, _ => none
  | fu + 1, l2, x => (if l2 < (x.1 16) then (if zOut ((l2 + (1 : Int32))) 384 then none else (if zOut l2 384 then none else k_Mo_endsAt_29 l1 fu ((l2 + (1 : Int32))) ((x.1, (va_up x.2 15 (upd ((x.2 15)) l2.toNatClampNeg ((((x.2 15)) ((l2 + (1 : Int32))).toNatClampNeg)))))))) else some ((l1 - (1 : Int32)), x))
set_option maxRecDepth 20000 in
theorem w_Mo_endsAt_29 {X : zX} {c : zY} {q : Nat → Nat} {l1 : Int32} {out : Int32 × zsM} (hX : Ok X zr_Mo zb_Mo_endsAt 3 1 c) (hR : Rt X (some .int) (some (.int out.1)) (zwM c q out.2)) : ∀ (fu : Nat) (l2 : Int32) (x : zsM), k_Mo_endsAt_29 l1 fu l2 x = some out → Go X (zwM c q x) [(0, .ref ((q 0))), (1, .int l1), (2, .int l2)] 29 [] := by
  intro fu
  induction fu with
  | zero => intro l2 x h; rw [k_Mo_endsAt_29] at h; cases h
  | succ fu ih =>
    intro l2 x h
    rw [k_Mo_endsAt_29] at h
    refine g_iload_n (pc := 29) hX d_Mo_endsAt_29 rfl 2 rfl ?_
    refine g_aload_n (pc := 30) hX d_Mo_endsAt_30 rfl 0 rfl ?_
    refine gf_Mo_95 (pc := 31) (v := .int ((x.1 16))) hX 0 rfl rfl d_Mo_endsAt_31 ?_
    refine g_icmp_ge (pc := 34) (tgt := 57) hX d_Mo_endsAt_34 (by decide) h (fun c4 h => ?_) (fun c4 h => ?_)
    · refine g_iload_n (pc := 57) hX d_Mo_endsAt_57 rfl 1 rfl ?_
      refine g_iconst (pc := 58) hX d_Mo_endsAt_58 zc_1 ?_
      refine g_isub (pc := 59) hX d_Mo_endsAt_59 ?_
      obtain rfl := Option.some.inj h
      exact g_iret (pc := 60) hX hR d_Mo_endsAt_60
    · refine g_aload_n (pc := 37) hX d_Mo_endsAt_37 rfl 0 rfl ?_
      refine gf_Mo_50 (pc := 38) (v := .ref ((q 13))) hX 0 rfl rfl d_Mo_endsAt_38 ?_
      refine g_iload_n (pc := 41) hX d_Mo_endsAt_41 rfl 2 rfl ?_
      refine g_aload_n (pc := 42) hX d_Mo_endsAt_42 rfl 0 rfl ?_
      refine gf_Mo_50 (pc := 43) (v := .ref ((q 13))) hX 0 rfl rfl d_Mo_endsAt_43 ?_
      refine g_iload_n (pc := 46) hX d_Mo_endsAt_46 rfl 2 rfl ?_
      refine g_iconst (pc := 47) hX d_Mo_endsAt_47 zc_1 ?_
      refine g_iadd (pc := 48) hX d_Mo_endsAt_48 ?_
      refine g_iald (pc := 49) (f := (x.2 15)) hX 13 rfl h d_Mo_endsAt_49 (fun h => ?_)
      refine g_iast (pc := 50) (f := (x.2 15)) (w' := (zwM c q ((x.1, (va_up x.2 15 (upd ((x.2 15)) l2.toNatClampNeg ((((x.2 15)) ((l2 + (1 : Int32))).toNatClampNeg)))))))) hX 13 rfl h (sa_Mo_13 c q x (upd ((x.2 15)) l2.toNatClampNeg ((((x.2 15)) ((l2 + (1 : Int32))).toNatClampNeg)))) d_Mo_endsAt_50 (fun h => ?_)
      refine g_iinc (pc := 51) (q := 2) (L' := [(2, .int ((l2 + (1 : Int32)))), (0, .ref ((q 0))), (1, .int l1)]) hX d_Mo_endsAt_51 rfl zc_1 rfl rfl ?_
      refine g_goto (pc := 54) (tgt := 29) hX d_Mo_endsAt_54 (by decide) ?_
      refine g_ls (L' := [(0, .ref ((q 0))), (1, .int l1), (2, .int ((l2 + (1 : Int32))))]) [1, 2, 0] rfl ?_
      exact ih _ _ h
def k_Mo_endsAt (x : zsM) (l1 : Int32) : Option (Int32 × zsM) := (k_Mo_partOf x l1 ((1 : Int32))).bind fun o1 => (k_Mo_partOf x l1 ((0 : Int32))).bind fun o2 => (k_Mo_notes x ((4 : Int32)) o1 o2).bind fun o3 => k_Mo_endsAt_29 l1 zFu l1 (((upd o3.1 16 (((o3.1 16) - (1 : Int32)))), o3.2))
set_option maxRecDepth 20000 in
theorem c_Mo_endsAt (c : zY) (q : Nat → Nat) (x : zsM) (l1 : Int32) {out : Int32 × zsM} (h : k_Mo_endsAt x l1 = some out) : KM zy_Mo_endsAt zb_Mo_endsAt 3 (some .int) 1 c [.ref ((q 0)), .int l1] (zwM c q x) (zwM c q out.2) (some (.int out.1)) := zK_of zp_Mo rfl (Nat.le_of_ble_eq_true rfl) (zq_Mo c q _ _) (fun X hX hR => by
  show Go X (zwM c q x) [(0, .ref ((q 0))), (1, .int l1)] 0 []
  rw [k_Mo_endsAt] at h
  refine g_aload_n (pc := 0) hX d_Mo_endsAt_0 rfl 0 rfl ?_
  refine g_iconst (pc := 1) hX d_Mo_endsAt_1 zc_4 ?_
  refine g_aload_n (pc := 2) hX d_Mo_endsAt_2 rfl 0 rfl ?_
  refine g_iload_n (pc := 3) hX d_Mo_endsAt_3 rfl 1 rfl ?_
  refine g_iconst (pc := 4) hX d_Mo_endsAt_4 zc_1 ?_
  obtain ⟨o1, e1, h⟩ := zbind h
  refine g_cvI (pc := 5) (w1 := []) (w2 := []) (st := [.int ((4 : Int32)), .ref ((q 0))]) (w' := (zwM c q x)) hX zk_Mo_partOf zs_Mo_partOf zL_Mo_98 (c_Mo_partOf c q x l1 ((1 : Int32)) e1) rfl rfl rfl rfl (zself _) (zself _).symm 0 10 rfl rfl rfl d_Mo_endsAt_5 ?_
  refine g_aload_n (pc := 8) hX d_Mo_endsAt_8 rfl 0 rfl ?_
  refine g_iload_n (pc := 9) hX d_Mo_endsAt_9 rfl 1 rfl ?_
  refine g_iconst (pc := 10) hX d_Mo_endsAt_10 zc_0 ?_
  obtain ⟨o2, e2, h⟩ := zbind h
  refine g_cvI (pc := 11) (w1 := []) (w2 := []) (st := [.int o1, .int ((4 : Int32)), .ref ((q 0))]) (w' := (zwM c q x)) hX zk_Mo_partOf zs_Mo_partOf zL_Mo_98 (c_Mo_partOf c q x l1 ((0 : Int32)) e2) rfl rfl rfl rfl (zself _) (zself _).symm 0 10 rfl rfl rfl d_Mo_endsAt_11 ?_
  obtain ⟨o3, e3, h⟩ := zbind h
  refine g_cvV (pc := 14) (w1 := []) (w2 := []) (st := []) (w' := (zwM c q o3)) hX zk_Mo_notes zs_Mo_notes zL_Mo_102 (c_Mo_notes c q x ((4 : Int32)) o1 o2 e3) rfl rfl rfl rfl (zself _) (zself _).symm 0 10 rfl rfl rfl d_Mo_endsAt_14 ?_
  refine g_aload_n (pc := 17) hX d_Mo_endsAt_17 rfl 0 rfl ?_
  refine g_dup (pc := 18) hX d_Mo_endsAt_18 rfl ?_
  refine gf_Mo_95 (pc := 19) (v := .int ((o3.1 16))) hX 0 rfl rfl d_Mo_endsAt_19 ?_
  refine g_iconst (pc := 22) hX d_Mo_endsAt_22 zc_1 ?_
  refine g_isub (pc := 23) hX d_Mo_endsAt_23 ?_
  refine pf_Mo_95 (pc := 24) (w2 := (zwM c q (((upd o3.1 16 (((o3.1 16) - (1 : Int32)))), o3.2)))) hX 0 rfl rfl (su_Mo_0_16 c q o3 (((o3.1 16) - (1 : Int32)))) d_Mo_endsAt_24 ?_
  refine g_iload_n (pc := 27) hX d_Mo_endsAt_27 rfl 1 rfl ?_
  refine g_istore_n (pc := 28) (L' := [(2, .int l1), (0, .ref ((q 0))), (1, .int l1)]) hX d_Mo_endsAt_28 rfl rfl rfl ?_
  refine g_ls (L' := [(0, .ref ((q 0))), (1, .int l1), (2, .int l1)]) [1, 2, 0] rfl ?_
  exact w_Mo_endsAt_29 hX hR _ _ _ h)
theorem d_Mo_makes_0 : decode zb_Mo_makes 0 = .ok (.aload_n 0, 1) := by decide +kernel
theorem d_Mo_makes_1 : decode zb_Mo_makes 1 = .ok (.iconst 3, 1) := by decide +kernel
theorem d_Mo_makes_2 : decode zb_Mo_makes 2 = .ok (.iload_n 2, 1) := by decide +kernel
theorem d_Mo_makes_3 : decode zb_Mo_makes 3 = .ok (.iload_n 1, 1) := by decide +kernel
theorem d_Mo_makes_4 : decode zb_Mo_makes 4 = .ok (.invokevirtual 102, 3) := by decide +kernel
theorem d_Mo_makes_7 : decode zb_Mo_makes 7 = .ok (.iconst 0, 1) := by decide +kernel
theorem d_Mo_makes_8 : decode zb_Mo_makes 8 = .ok (.istore 7, 2) := by decide +kernel
theorem d_Mo_makes_10 : decode zb_Mo_makes 10 = .ok (.iload 7, 2) := by decide +kernel
theorem d_Mo_makes_12 : decode zb_Mo_makes 12 = .ok (.aload_n 0, 1) := by decide +kernel
theorem d_Mo_makes_13 : decode zb_Mo_makes 13 = .ok (.getfield 95, 3) := by decide +kernel
theorem d_Mo_makes_16 : decode zb_Mo_makes 16 = .ok (.if_icmp .ge 117, 3) := by decide +kernel
theorem d_Mo_makes_19 : decode zb_Mo_makes 19 = .ok (.aload_n 0, 1) := by decide +kernel
theorem d_Mo_makes_20 : decode zb_Mo_makes 20 = .ok (.iload 7, 2) := by decide +kernel
theorem d_Mo_makes_22 : decode zb_Mo_makes 22 = .ok (.iconst 0, 1) := by decide +kernel
theorem d_Mo_makes_23 : decode zb_Mo_makes 23 = .ok (.invokevirtual 98, 3) := by decide +kernel
theorem d_Mo_makes_26 : decode zb_Mo_makes 26 = .ok (.iload_n 1, 1) := by decide +kernel
theorem d_Mo_makes_27 : decode zb_Mo_makes 27 = .ok (.if_icmp .ne 100, 3) := by decide +kernel
theorem d_Mo_makes_30 : decode zb_Mo_makes 30 = .ok (.aload_n 0, 1) := by decide +kernel
theorem d_Mo_makes_31 : decode zb_Mo_makes 31 = .ok (.iload 7, 2) := by decide +kernel
theorem d_Mo_makes_33 : decode zb_Mo_makes 33 = .ok (.iconst 1, 1) := by decide +kernel
theorem d_Mo_makes_34 : decode zb_Mo_makes 34 = .ok (.invokevirtual 98, 3) := by decide +kernel
theorem d_Mo_makes_37 : decode zb_Mo_makes 37 = .ok (.iload_n 2, 1) := by decide +kernel
theorem d_Mo_makes_38 : decode zb_Mo_makes 38 = .ok (.if_icmp .ne 89, 3) := by decide +kernel
theorem d_Mo_makes_41 : decode zb_Mo_makes 41 = .ok (.aload_n 0, 1) := by decide +kernel
theorem d_Mo_makes_42 : decode zb_Mo_makes 42 = .ok (.iload 7, 2) := by decide +kernel
theorem d_Mo_makes_44 : decode zb_Mo_makes 44 = .ok (.iconst 2, 1) := by decide +kernel
theorem d_Mo_makes_45 : decode zb_Mo_makes 45 = .ok (.invokevirtual 98, 3) := by decide +kernel
theorem d_Mo_makes_48 : decode zb_Mo_makes 48 = .ok (.iload_n 3, 1) := by decide +kernel
theorem d_Mo_makes_49 : decode zb_Mo_makes 49 = .ok (.if_icmp .eq 6, 3) := by decide +kernel
theorem d_Mo_makes_52 : decode zb_Mo_makes 52 = .ok (.goto 75, 3) := by decide +kernel
theorem d_Mo_makes_55 : decode zb_Mo_makes 55 = .ok (.iload 4, 2) := by decide +kernel
theorem d_Mo_makes_57 : decode zb_Mo_makes 57 = .ok (.aload_n 0, 1) := by decide +kernel
theorem d_Mo_makes_58 : decode zb_Mo_makes 58 = .ok (.iload 7, 2) := by decide +kernel
theorem d_Mo_makes_60 : decode zb_Mo_makes 60 = .ok (.iconst 3, 1) := by decide +kernel
theorem d_Mo_makes_61 : decode zb_Mo_makes 61 = .ok (.invokevirtual 98, 3) := by decide +kernel
theorem d_Mo_makes_64 : decode zb_Mo_makes 64 = .ok (.if_icmp .le 8, 3) := by decide +kernel
theorem d_Mo_makes_67 : decode zb_Mo_makes 67 = .ok (.iload 4, 2) := by decide +kernel
theorem d_Mo_makes_69 : decode zb_Mo_makes 69 = .ok (.goto 10, 3) := by decide +kernel
theorem d_Mo_makes_72 : decode zb_Mo_makes 72 = .ok (.aload_n 0, 1) := by decide +kernel
theorem d_Mo_makes_73 : decode zb_Mo_makes 73 = .ok (.iload 7, 2) := by decide +kernel
theorem d_Mo_makes_75 : decode zb_Mo_makes 75 = .ok (.iconst 3, 1) := by decide +kernel
theorem d_Mo_makes_76 : decode zb_Mo_makes 76 = .ok (.invokevirtual 98, 3) := by decide +kernel
theorem d_Mo_makes_79 : decode zb_Mo_makes 79 = .ok (.istore 8, 2) := by decide +kernel
theorem d_Mo_makes_81 : decode zb_Mo_makes 81 = .ok (.iload 6, 2) := by decide +kernel
theorem d_Mo_makes_83 : decode zb_Mo_makes 83 = .ok (.aload_n 0, 1) := by decide +kernel
theorem d_Mo_makes_84 : decode zb_Mo_makes 84 = .ok (.iload 7, 2) := by decide +kernel
theorem d_Mo_makes_86 : decode zb_Mo_makes 86 = .ok (.iconst 5, 1) := by decide +kernel
theorem d_Mo_makes_87 : decode zb_Mo_makes 87 = .ok (.invokevirtual 98, 3) := by decide +kernel
theorem d_Mo_makes_90 : decode zb_Mo_makes 90 = .ok (.if_icmp .le 8, 3) := by decide +kernel
theorem d_Mo_makes_93 : decode zb_Mo_makes 93 = .ok (.iload 6, 2) := by decide +kernel
theorem d_Mo_makes_95 : decode zb_Mo_makes 95 = .ok (.goto 10, 3) := by decide +kernel
theorem d_Mo_makes_98 : decode zb_Mo_makes 98 = .ok (.aload_n 0, 1) := by decide +kernel
theorem d_Mo_makes_99 : decode zb_Mo_makes 99 = .ok (.iload 7, 2) := by decide +kernel
theorem d_Mo_makes_101 : decode zb_Mo_makes 101 = .ok (.iconst 5, 1) := by decide +kernel
theorem d_Mo_makes_102 : decode zb_Mo_makes 102 = .ok (.invokevirtual 98, 3) := by decide +kernel
theorem d_Mo_makes_105 : decode zb_Mo_makes 105 = .ok (.istore 9, 2) := by decide +kernel
theorem d_Mo_makes_107 : decode zb_Mo_makes 107 = .ok (.aload_n 0, 1) := by decide +kernel
theorem d_Mo_makes_108 : decode zb_Mo_makes 108 = .ok (.getfield 50, 3) := by decide +kernel
theorem d_Mo_makes_111 : decode zb_Mo_makes 111 = .ok (.iload 7, 2) := by decide +kernel
theorem d_Mo_makes_113 : decode zb_Mo_makes 113 = .ok (.iload_n 1, 1) := by decide +kernel
theorem d_Mo_makes_114 : decode zb_Mo_makes 114 = .ok (.iload_n 2, 1) := by decide +kernel
theorem d_Mo_makes_115 : decode zb_Mo_makes 115 = .ok (.iload_n 3, 1) := by decide +kernel
theorem d_Mo_makes_116 : decode zb_Mo_makes 116 = .ok (.iload 8, 2) := by decide +kernel
theorem d_Mo_makes_118 : decode zb_Mo_makes 118 = .ok (.iload 5, 2) := by decide +kernel
theorem d_Mo_makes_120 : decode zb_Mo_makes 120 = .ok (.iload 9, 2) := by decide +kernel
theorem d_Mo_makes_122 : decode zb_Mo_makes 122 = .ok (.invokestatic 106, 3) := by decide +kernel
theorem d_Mo_makes_125 : decode zb_Mo_makes 125 = .ok (.iastore, 1) := by decide +kernel
theorem d_Mo_makes_126 : decode zb_Mo_makes 126 = .ok (.return_, 1) := by decide +kernel
theorem d_Mo_makes_127 : decode zb_Mo_makes 127 = .ok (.iinc 7 1, 3) := by decide +kernel
theorem d_Mo_makes_130 : decode zb_Mo_makes 130 = .ok (.goto (-120), 3) := by decide +kernel
theorem d_Mo_makes_133 : decode zb_Mo_makes 133 = .ok (.aload_n 0, 1) := by decide +kernel
theorem d_Mo_makes_134 : decode zb_Mo_makes 134 = .ok (.getfield 50, 3) := by decide +kernel
theorem d_Mo_makes_137 : decode zb_Mo_makes 137 = .ok (.aload_n 0, 1) := by decide +kernel
theorem d_Mo_makes_138 : decode zb_Mo_makes 138 = .ok (.getfield 95, 3) := by decide +kernel
theorem d_Mo_makes_141 : decode zb_Mo_makes 141 = .ok (.iload_n 1, 1) := by decide +kernel
theorem d_Mo_makes_142 : decode zb_Mo_makes 142 = .ok (.iload_n 2, 1) := by decide +kernel
theorem d_Mo_makes_143 : decode zb_Mo_makes 143 = .ok (.iload_n 3, 1) := by decide +kernel
theorem d_Mo_makes_144 : decode zb_Mo_makes 144 = .ok (.iload 4, 2) := by decide +kernel
theorem d_Mo_makes_146 : decode zb_Mo_makes 146 = .ok (.iload 5, 2) := by decide +kernel
theorem d_Mo_makes_148 : decode zb_Mo_makes 148 = .ok (.iload 6, 2) := by decide +kernel
theorem d_Mo_makes_150 : decode zb_Mo_makes 150 = .ok (.invokestatic 106, 3) := by decide +kernel
theorem d_Mo_makes_153 : decode zb_Mo_makes 153 = .ok (.iastore, 1) := by decide +kernel
theorem d_Mo_makes_154 : decode zb_Mo_makes 154 = .ok (.aload_n 0, 1) := by decide +kernel
theorem d_Mo_makes_155 : decode zb_Mo_makes 155 = .ok (.dup, 1) := by decide +kernel
theorem d_Mo_makes_156 : decode zb_Mo_makes 156 = .ok (.getfield 95, 3) := by decide +kernel
theorem d_Mo_makes_159 : decode zb_Mo_makes 159 = .ok (.iconst 1, 1) := by decide +kernel
theorem d_Mo_makes_160 : decode zb_Mo_makes 160 = .ok (.iadd, 1) := by decide +kernel
theorem d_Mo_makes_161 : decode zb_Mo_makes 161 = .ok (.putfield 95, 3) := by decide +kernel
theorem d_Mo_makes_164 : decode zb_Mo_makes 164 = .ok (.return_, 1) := by decide +kernel
def k_Mo_makes_105 (l1 : Int32) (l2 : Int32) (l3 : Int32) (l4 : Int32) (l5 : Int32) (l6 : Int32) (l7 : Int32) (l8 : Int32) (s0 : Int32) (x : zsM) : Option (zsM) := (k_Mo_packed l1 l2 l3 l8 l5 s0).bind fun o16 => (if zOut l7 384 then none else some ((x.1, (va_up x.2 15 (upd ((x.2 15)) l7.toNatClampNeg o16)))))
set_option maxRecDepth 20000 in
theorem w_Mo_makes_105 {X : zX} {c : zY} {q : Nat → Nat} {l1 : Int32} {l2 : Int32} {l3 : Int32} {l4 : Int32} {l5 : Int32} {l6 : Int32} {out : zsM} (hX : Ok X zr_Mo zb_Mo_makes 10 1 c) (hR : Rt X none none (zwM c q out)) : ∀ (l7 : Int32) (l8 : Int32) (s0 : Int32) (x : zsM), k_Mo_makes_105 l1 l2 l3 l4 l5 l6 l7 l8 s0 x = some out → Go X (zwM c q x) [(0, .ref ((q 0))), (1, .int l1), (2, .int l2), (3, .int l3), (5, .int l5), (7, .int l7), (8, .int l8)] 105 [.int s0] := by
  intro l7 l8 s0 x h
  rw [k_Mo_makes_105] at h
  refine g_istore (pc := 105) (L' := [(9, .int s0), (0, .ref ((q 0))), (1, .int l1), (2, .int l2), (3, .int l3), (5, .int l5), (7, .int l7), (8, .int l8)]) hX d_Mo_makes_105 rfl rfl ?_
  refine g_aload_n (pc := 107) hX d_Mo_makes_107 rfl 1 rfl ?_
  refine gf_Mo_50 (pc := 108) (v := .ref ((q 13))) hX 0 rfl rfl d_Mo_makes_108 ?_
  refine g_iload (pc := 111) hX d_Mo_makes_111 6 rfl ?_
  refine g_iload_n (pc := 113) hX d_Mo_makes_113 rfl 2 rfl ?_
  refine g_iload_n (pc := 114) hX d_Mo_makes_114 rfl 3 rfl ?_
  refine g_iload_n (pc := 115) hX d_Mo_makes_115 rfl 4 rfl ?_
  refine g_iload (pc := 116) hX d_Mo_makes_116 7 rfl ?_
  refine g_iload (pc := 118) hX d_Mo_makes_118 5 rfl ?_
  refine g_iload (pc := 120) hX d_Mo_makes_120 0 rfl ?_
  obtain ⟨o16, e16, h⟩ := zbind h
  refine g_csI (pc := 122) (st := [.int l7, .ref ((q 13))]) hX zk_Mo_packed zL_Mo_106 (c_Mo_packed c l1 l2 l3 l8 l5 s0 e16) rfl rfl rfl rfl rfl d_Mo_makes_122 ?_
  refine g_iast (pc := 125) (f := (x.2 15)) (w' := (zwM c q ((x.1, (va_up x.2 15 (upd ((x.2 15)) l7.toNatClampNeg o16)))))) hX 13 rfl h (sa_Mo_13 c q x (upd ((x.2 15)) l7.toNatClampNeg o16)) d_Mo_makes_125 (fun h => ?_)
  obtain rfl := Option.some.inj h
  exact g_vret (pc := 126) hX hR d_Mo_makes_126
def k_Mo_makes_79 (l1 : Int32) (l2 : Int32) (l3 : Int32) (l4 : Int32) (l5 : Int32) (l6 : Int32) (l7 : Int32) (s0 : Int32) (x : zsM) : Option (zsM) := (k_Mo_partOf x l7 ((5 : Int32))).bind fun o13 => (if o13 < l6 then k_Mo_makes_105 l1 l2 l3 l4 l5 l6 l7 s0 l6 x else (k_Mo_partOf x l7 ((5 : Int32))).bind fun o15 => k_Mo_makes_105 l1 l2 l3 l4 l5 l6 l7 s0 o15 x)
set_option maxRecDepth 20000 in
theorem w_Mo_makes_79 {X : zX} {c : zY} {q : Nat → Nat} {l1 : Int32} {l2 : Int32} {l3 : Int32} {l4 : Int32} {l5 : Int32} {l6 : Int32} {out : zsM} (hX : Ok X zr_Mo zb_Mo_makes 10 1 c) (hR : Rt X none none (zwM c q out)) : ∀ (l7 : Int32) (s0 : Int32) (x : zsM), k_Mo_makes_79 l1 l2 l3 l4 l5 l6 l7 s0 x = some out → Go X (zwM c q x) [(0, .ref ((q 0))), (1, .int l1), (2, .int l2), (3, .int l3), (5, .int l5), (6, .int l6), (7, .int l7)] 79 [.int s0] := by
  intro l7 s0 x h
  rw [k_Mo_makes_79] at h
  refine g_istore (pc := 79) (L' := [(8, .int s0), (0, .ref ((q 0))), (1, .int l1), (2, .int l2), (3, .int l3), (5, .int l5), (6, .int l6), (7, .int l7)]) hX d_Mo_makes_79 rfl rfl ?_
  refine g_iload (pc := 81) hX d_Mo_makes_81 6 rfl ?_
  refine g_aload_n (pc := 83) hX d_Mo_makes_83 rfl 1 rfl ?_
  refine g_iload (pc := 84) hX d_Mo_makes_84 7 rfl ?_
  refine g_iconst (pc := 86) hX d_Mo_makes_86 zc_5 ?_
  obtain ⟨o13, e13, h⟩ := zbind h
  refine g_cvI (pc := 87) (w1 := []) (w2 := []) (st := [.int l6]) (w' := (zwM c q x)) hX zk_Mo_partOf zs_Mo_partOf zL_Mo_98 (c_Mo_partOf c q x l7 ((5 : Int32)) e13) rfl rfl rfl rfl (zself _) (zself _).symm 0 10 rfl rfl rfl d_Mo_makes_87 ?_
  refine g_icmp_le (pc := 90) (tgt := 98) hX d_Mo_makes_90 (by decide) h (fun c14 h => ?_) (fun c14 h => ?_)
  · refine g_aload_n (pc := 98) hX d_Mo_makes_98 rfl 1 rfl ?_
    refine g_iload (pc := 99) hX d_Mo_makes_99 7 rfl ?_
    refine g_iconst (pc := 101) hX d_Mo_makes_101 zc_5 ?_
    obtain ⟨o15, e15, h⟩ := zbind h
    refine g_cvI (pc := 102) (w1 := []) (w2 := []) (st := []) (w' := (zwM c q x)) hX zk_Mo_partOf zs_Mo_partOf zL_Mo_98 (c_Mo_partOf c q x l7 ((5 : Int32)) e15) rfl rfl rfl rfl (zself _) (zself _).symm 0 10 rfl rfl rfl d_Mo_makes_102 ?_
    refine g_ls (L' := [(0, .ref ((q 0))), (1, .int l1), (2, .int l2), (3, .int l3), (5, .int l5), (7, .int l7), (8, .int s0)]) [1, 2, 3, 4, 5, 7, 0] rfl ?_
    exact w_Mo_makes_105 hX hR _ _ _ _ h
  · refine g_iload (pc := 93) hX d_Mo_makes_93 6 rfl ?_
    refine g_goto (pc := 95) (tgt := 105) hX d_Mo_makes_95 (by decide) ?_
    refine g_ls (L' := [(0, .ref ((q 0))), (1, .int l1), (2, .int l2), (3, .int l3), (5, .int l5), (7, .int l7), (8, .int s0)]) [1, 2, 3, 4, 5, 7, 0] rfl ?_
    exact w_Mo_makes_105 hX hR _ _ _ _ h
def k_Mo_makes_10 (l1 : Int32) (l2 : Int32) (l3 : Int32) (l4 : Int32) (l5 : Int32) (l6 : Int32) : Nat → Int32 → zsM → Option (zsM)
  | 0, _, _ => none
  | fu + 1, l7, x => (if l7 < (x.1 16) then (k_Mo_partOf x l7 ((0 : Int32))).bind fun o4 => (if o4 = l1 then (k_Mo_partOf x l7 ((1 : Int32))).bind fun o6 => (if o6 = l2 then (k_Mo_partOf x l7 ((2 : Int32))).bind fun o8 => (if o8 = l3 then (k_Mo_partOf x l7 ((3 : Int32))).bind fun o10 => (if o10 < l4 then k_Mo_makes_79 l1 l2 l3 l4 l5 l6 l7 l4 x else (k_Mo_partOf x l7 ((3 : Int32))).bind fun o12 => k_Mo_makes_79 l1 l2 l3 l4 l5 l6 l7 o12 x) else k_Mo_makes_10 l1 l2 l3 l4 l5 l6 fu ((l7 + (1 : Int32))) x) else k_Mo_makes_10 l1 l2 l3 l4 l5 l6 fu ((l7 + (1 : Int32))) x) else k_Mo_makes_10 l1 l2 l3 l4 l5 l6 fu ((l7 + (1 : Int32))) x) else (k_Mo_packed l1 l2 l3 l4 l5 l6).bind fun o3 => (if zOut ((x.1 16)) 384 then none else some (((upd x.1 16 (((x.1 16) + (1 : Int32)))), (va_up x.2 15 (upd ((x.2 15)) ((x.1 16)).toNatClampNeg o3))))))
set_option maxRecDepth 20000 in
theorem w_Mo_makes_10 {X : zX} {c : zY} {q : Nat → Nat} {l1 : Int32} {l2 : Int32} {l3 : Int32} {l4 : Int32} {l5 : Int32} {l6 : Int32} {out : zsM} (hX : Ok X zr_Mo zb_Mo_makes 10 1 c) (hR : Rt X none none (zwM c q out)) : ∀ (fu : Nat) (l7 : Int32) (x : zsM), k_Mo_makes_10 l1 l2 l3 l4 l5 l6 fu l7 x = some out → Go X (zwM c q x) [(0, .ref ((q 0))), (1, .int l1), (2, .int l2), (3, .int l3), (4, .int l4), (5, .int l5), (6, .int l6), (7, .int l7)] 10 [] := by
  intro fu
  induction fu with
  | zero => intro l7 x h; rw [k_Mo_makes_10] at h; cases h
  | succ fu ih =>
    intro l7 x h
    rw [k_Mo_makes_10] at h
    refine g_iload (pc := 10) hX d_Mo_makes_10 7 rfl ?_
    refine g_aload_n (pc := 12) hX d_Mo_makes_12 rfl 0 rfl ?_
    refine gf_Mo_95 (pc := 13) (v := .int ((x.1 16))) hX 0 rfl rfl d_Mo_makes_13 ?_
    refine g_icmp_ge (pc := 16) (tgt := 133) hX d_Mo_makes_16 (by decide) h (fun c2 h => ?_) (fun c2 h => ?_)
    · refine g_aload_n (pc := 133) hX d_Mo_makes_133 rfl 0 rfl ?_
      refine gf_Mo_50 (pc := 134) (v := .ref ((q 13))) hX 0 rfl rfl d_Mo_makes_134 ?_
      refine g_aload_n (pc := 137) hX d_Mo_makes_137 rfl 0 rfl ?_
      refine gf_Mo_95 (pc := 138) (v := .int ((x.1 16))) hX 0 rfl rfl d_Mo_makes_138 ?_
      refine g_iload_n (pc := 141) hX d_Mo_makes_141 rfl 1 rfl ?_
      refine g_iload_n (pc := 142) hX d_Mo_makes_142 rfl 2 rfl ?_
      refine g_iload_n (pc := 143) hX d_Mo_makes_143 rfl 3 rfl ?_
      refine g_iload (pc := 144) hX d_Mo_makes_144 4 rfl ?_
      refine g_iload (pc := 146) hX d_Mo_makes_146 5 rfl ?_
      refine g_iload (pc := 148) hX d_Mo_makes_148 6 rfl ?_
      obtain ⟨o3, e3, h⟩ := zbind h
      refine g_csI (pc := 150) (st := [.int ((x.1 16)), .ref ((q 13))]) hX zk_Mo_packed zL_Mo_106 (c_Mo_packed c l1 l2 l3 l4 l5 l6 e3) rfl rfl rfl rfl rfl d_Mo_makes_150 ?_
      refine g_iast (pc := 153) (f := (x.2 15)) (w' := (zwM c q ((x.1, (va_up x.2 15 (upd ((x.2 15)) ((x.1 16)).toNatClampNeg o3)))))) hX 13 rfl h (sa_Mo_13 c q x (upd ((x.2 15)) ((x.1 16)).toNatClampNeg o3)) d_Mo_makes_153 (fun h => ?_)
      refine g_aload_n (pc := 154) hX d_Mo_makes_154 rfl 0 rfl ?_
      refine g_dup (pc := 155) hX d_Mo_makes_155 rfl ?_
      refine gf_Mo_95 (pc := 156) (v := .int ((x.1 16))) hX 0 rfl rfl d_Mo_makes_156 ?_
      refine g_iconst (pc := 159) hX d_Mo_makes_159 zc_1 ?_
      refine g_iadd (pc := 160) hX d_Mo_makes_160 ?_
      refine pf_Mo_95 (pc := 161) (w2 := (zwM c q (((upd x.1 16 (((x.1 16) + (1 : Int32)))), (va_up x.2 15 (upd ((x.2 15)) ((x.1 16)).toNatClampNeg o3)))))) hX 0 rfl rfl (su_Mo_0_16 c q ((x.1, (va_up x.2 15 (upd ((x.2 15)) ((x.1 16)).toNatClampNeg o3)))) (((x.1 16) + (1 : Int32)))) d_Mo_makes_161 ?_
      obtain rfl := Option.some.inj h
      exact g_vret (pc := 164) hX hR d_Mo_makes_164
    · refine g_aload_n (pc := 19) hX d_Mo_makes_19 rfl 0 rfl ?_
      refine g_iload (pc := 20) hX d_Mo_makes_20 7 rfl ?_
      refine g_iconst (pc := 22) hX d_Mo_makes_22 zc_0 ?_
      obtain ⟨o4, e4, h⟩ := zbind h
      refine g_cvI (pc := 23) (w1 := []) (w2 := []) (st := []) (w' := (zwM c q x)) hX zk_Mo_partOf zs_Mo_partOf zL_Mo_98 (c_Mo_partOf c q x l7 ((0 : Int32)) e4) rfl rfl rfl rfl (zself _) (zself _).symm 0 10 rfl rfl rfl d_Mo_makes_23 ?_
      refine g_iload_n (pc := 26) hX d_Mo_makes_26 rfl 1 rfl ?_
      refine g_icmp_ne (pc := 27) (tgt := 127) hX d_Mo_makes_27 (by decide) h (fun c5 h => ?_) (fun c5 h => ?_)
      · refine g_iinc (pc := 127) (q := 7) (L' := [(7, .int ((l7 + (1 : Int32)))), (0, .ref ((q 0))), (1, .int l1), (2, .int l2), (3, .int l3), (4, .int l4), (5, .int l5), (6, .int l6)]) hX d_Mo_makes_127 rfl zc_1 rfl rfl ?_
        refine g_goto (pc := 130) (tgt := 10) hX d_Mo_makes_130 (by decide) ?_
        refine g_ls (L' := [(0, .ref ((q 0))), (1, .int l1), (2, .int l2), (3, .int l3), (4, .int l4), (5, .int l5), (6, .int l6), (7, .int ((l7 + (1 : Int32))))]) [1, 2, 3, 4, 5, 6, 7, 0] rfl ?_
        exact ih _ _ h
      · refine g_aload_n (pc := 30) hX d_Mo_makes_30 rfl 0 rfl ?_
        refine g_iload (pc := 31) hX d_Mo_makes_31 7 rfl ?_
        refine g_iconst (pc := 33) hX d_Mo_makes_33 zc_1 ?_
        obtain ⟨o6, e6, h⟩ := zbind h
        refine g_cvI (pc := 34) (w1 := []) (w2 := []) (st := []) (w' := (zwM c q x)) hX zk_Mo_partOf zs_Mo_partOf zL_Mo_98 (c_Mo_partOf c q x l7 ((1 : Int32)) e6) rfl rfl rfl rfl (zself _) (zself _).symm 0 10 rfl rfl rfl d_Mo_makes_34 ?_
        refine g_iload_n (pc := 37) hX d_Mo_makes_37 rfl 2 rfl ?_
        refine g_icmp_ne (pc := 38) (tgt := 127) hX d_Mo_makes_38 (by decide) h (fun c7 h => ?_) (fun c7 h => ?_)
        · refine g_iinc (pc := 127) (q := 7) (L' := [(7, .int ((l7 + (1 : Int32)))), (0, .ref ((q 0))), (1, .int l1), (2, .int l2), (3, .int l3), (4, .int l4), (5, .int l5), (6, .int l6)]) hX d_Mo_makes_127 rfl zc_1 rfl rfl ?_
          refine g_goto (pc := 130) (tgt := 10) hX d_Mo_makes_130 (by decide) ?_
          refine g_ls (L' := [(0, .ref ((q 0))), (1, .int l1), (2, .int l2), (3, .int l3), (4, .int l4), (5, .int l5), (6, .int l6), (7, .int ((l7 + (1 : Int32))))]) [1, 2, 3, 4, 5, 6, 7, 0] rfl ?_
          exact ih _ _ h
        · refine g_aload_n (pc := 41) hX d_Mo_makes_41 rfl 0 rfl ?_
          refine g_iload (pc := 42) hX d_Mo_makes_42 7 rfl ?_
          refine g_iconst (pc := 44) hX d_Mo_makes_44 zc_2 ?_
          obtain ⟨o8, e8, h⟩ := zbind h
          refine g_cvI (pc := 45) (w1 := []) (w2 := []) (st := []) (w' := (zwM c q x)) hX zk_Mo_partOf zs_Mo_partOf zL_Mo_98 (c_Mo_partOf c q x l7 ((2 : Int32)) e8) rfl rfl rfl rfl (zself _) (zself _).symm 0 10 rfl rfl rfl d_Mo_makes_45 ?_
          refine g_iload_n (pc := 48) hX d_Mo_makes_48 rfl 3 rfl ?_
          refine g_icmp_eq (pc := 49) (tgt := 55) hX d_Mo_makes_49 (by decide) h (fun c9 h => ?_) (fun c9 h => ?_)
          · refine g_iload (pc := 55) hX d_Mo_makes_55 4 rfl ?_
            refine g_aload_n (pc := 57) hX d_Mo_makes_57 rfl 0 rfl ?_
            refine g_iload (pc := 58) hX d_Mo_makes_58 7 rfl ?_
            refine g_iconst (pc := 60) hX d_Mo_makes_60 zc_3 ?_
            obtain ⟨o10, e10, h⟩ := zbind h
            refine g_cvI (pc := 61) (w1 := []) (w2 := []) (st := [.int l4]) (w' := (zwM c q x)) hX zk_Mo_partOf zs_Mo_partOf zL_Mo_98 (c_Mo_partOf c q x l7 ((3 : Int32)) e10) rfl rfl rfl rfl (zself _) (zself _).symm 0 10 rfl rfl rfl d_Mo_makes_61 ?_
            refine g_icmp_le (pc := 64) (tgt := 72) hX d_Mo_makes_64 (by decide) h (fun c11 h => ?_) (fun c11 h => ?_)
            · refine g_aload_n (pc := 72) hX d_Mo_makes_72 rfl 0 rfl ?_
              refine g_iload (pc := 73) hX d_Mo_makes_73 7 rfl ?_
              refine g_iconst (pc := 75) hX d_Mo_makes_75 zc_3 ?_
              obtain ⟨o12, e12, h⟩ := zbind h
              refine g_cvI (pc := 76) (w1 := []) (w2 := []) (st := []) (w' := (zwM c q x)) hX zk_Mo_partOf zs_Mo_partOf zL_Mo_98 (c_Mo_partOf c q x l7 ((3 : Int32)) e12) rfl rfl rfl rfl (zself _) (zself _).symm 0 10 rfl rfl rfl d_Mo_makes_76 ?_
              refine g_ls (L' := [(0, .ref ((q 0))), (1, .int l1), (2, .int l2), (3, .int l3), (5, .int l5), (6, .int l6), (7, .int l7)]) [0, 1, 2, 3, 5, 6, 7] rfl ?_
              exact w_Mo_makes_79 hX hR _ _ _ h
            · refine g_iload (pc := 67) hX d_Mo_makes_67 4 rfl ?_
              refine g_goto (pc := 69) (tgt := 79) hX d_Mo_makes_69 (by decide) ?_
              refine g_ls (L' := [(0, .ref ((q 0))), (1, .int l1), (2, .int l2), (3, .int l3), (5, .int l5), (6, .int l6), (7, .int l7)]) [0, 1, 2, 3, 5, 6, 7] rfl ?_
              exact w_Mo_makes_79 hX hR _ _ _ h
          · refine g_goto (pc := 52) (tgt := 127) hX d_Mo_makes_52 (by decide) ?_
            refine g_iinc (pc := 127) (q := 7) (L' := [(7, .int ((l7 + (1 : Int32)))), (0, .ref ((q 0))), (1, .int l1), (2, .int l2), (3, .int l3), (4, .int l4), (5, .int l5), (6, .int l6)]) hX d_Mo_makes_127 rfl zc_1 rfl rfl ?_
            refine g_goto (pc := 130) (tgt := 10) hX d_Mo_makes_130 (by decide) ?_
            refine g_ls (L' := [(0, .ref ((q 0))), (1, .int l1), (2, .int l2), (3, .int l3), (4, .int l4), (5, .int l5), (6, .int l6), (7, .int ((l7 + (1 : Int32))))]) [1, 2, 3, 4, 5, 6, 7, 0] rfl ?_
            exact ih _ _ h
def k_Mo_makes (x : zsM) (l1 : Int32) (l2 : Int32) (l3 : Int32) (l4 : Int32) (l5 : Int32) (l6 : Int32) : Option (zsM) := (k_Mo_notes x ((3 : Int32)) l2 l1).bind fun o1 => k_Mo_makes_10 l1 l2 l3 l4 l5 l6 zFu ((0 : Int32)) o1
set_option maxRecDepth 20000 in
theorem c_Mo_makes (c : zY) (q : Nat → Nat) (x : zsM) (l1 : Int32) (l2 : Int32) (l3 : Int32) (l4 : Int32) (l5 : Int32) (l6 : Int32) {out : zsM} (h : k_Mo_makes x l1 l2 l3 l4 l5 l6 = some out) : KM zy_Mo_makes zb_Mo_makes 10 none 1 c [.ref ((q 0)), .int l1, .int l2, .int l3, .int l4, .int l5, .int l6] (zwM c q x) (zwM c q out) none := zK_of zp_Mo rfl (Nat.le_of_ble_eq_true rfl) (zq_Mo c q _ _) (fun X hX hR => by
  show Go X (zwM c q x) [(0, .ref ((q 0))), (1, .int l1), (2, .int l2), (3, .int l3), (4, .int l4), (5, .int l5), (6, .int l6)] 0 []
  rw [k_Mo_makes] at h
  refine g_aload_n (pc := 0) hX d_Mo_makes_0 rfl 0 rfl ?_
  refine g_iconst (pc := 1) hX d_Mo_makes_1 zc_3 ?_
  refine g_iload_n (pc := 2) hX d_Mo_makes_2 rfl 2 rfl ?_
  refine g_iload_n (pc := 3) hX d_Mo_makes_3 rfl 1 rfl ?_
  obtain ⟨o1, e1, h⟩ := zbind h
  refine g_cvV (pc := 4) (w1 := []) (w2 := []) (st := []) (w' := (zwM c q o1)) hX zk_Mo_notes zs_Mo_notes zL_Mo_102 (c_Mo_notes c q x ((3 : Int32)) l2 l1 e1) rfl rfl rfl rfl (zself _) (zself _).symm 0 10 rfl rfl rfl d_Mo_makes_4 ?_
  refine g_iconst (pc := 7) hX d_Mo_makes_7 zc_0 ?_
  refine g_istore (pc := 8) (L' := [(7, .int ((0 : Int32))), (0, .ref ((q 0))), (1, .int l1), (2, .int l2), (3, .int l3), (4, .int l4), (5, .int l5), (6, .int l6)]) hX d_Mo_makes_8 rfl rfl ?_
  refine g_ls (L' := [(0, .ref ((q 0))), (1, .int l1), (2, .int l2), (3, .int l3), (4, .int l4), (5, .int l5), (6, .int l6), (7, .int ((0 : Int32)))]) [1, 2, 3, 4, 5, 6, 7, 0] rfl ?_
  exact w_Mo_makes_10 hX hR _ _ _ h)
theorem d_Mo_canAct_0 : decode zb_Mo_canAct 0 = .ok (.aload_n 0, 1) := by decide +kernel
theorem d_Mo_canAct_1 : decode zb_Mo_canAct 1 = .ok (.iload_n 1, 1) := by decide +kernel
theorem d_Mo_canAct_2 : decode zb_Mo_canAct 2 = .ok (.invokevirtual 110, 3) := by decide +kernel
theorem d_Mo_canAct_5 : decode zb_Mo_canAct 5 = .ok (.ifCond .ne 25, 3) := by decide +kernel
theorem d_Mo_canAct_8 : decode zb_Mo_canAct 8 = .ok (.aload_n 0, 1) := by decide +kernel
theorem d_Mo_canAct_9 : decode zb_Mo_canAct 9 = .ok (.iload_n 1, 1) := by decide +kernel
theorem d_Mo_canAct_10 : decode zb_Mo_canAct 10 = .ok (.iconst 1, 1) := by decide +kernel
theorem d_Mo_canAct_11 : decode zb_Mo_canAct 11 = .ok (.invokevirtual 114, 3) := by decide +kernel
theorem d_Mo_canAct_14 : decode zb_Mo_canAct 14 = .ok (.ifCond .ne 16, 3) := by decide +kernel
theorem d_Mo_canAct_17 : decode zb_Mo_canAct 17 = .ok (.aload_n 0, 1) := by decide +kernel
theorem d_Mo_canAct_18 : decode zb_Mo_canAct 18 = .ok (.iload_n 1, 1) := by decide +kernel
theorem d_Mo_canAct_19 : decode zb_Mo_canAct 19 = .ok (.iconst 5, 1) := by decide +kernel
theorem d_Mo_canAct_20 : decode zb_Mo_canAct 20 = .ok (.invokevirtual 114, 3) := by decide +kernel
theorem d_Mo_canAct_23 : decode zb_Mo_canAct 23 = .ok (.ifCond .ne 7, 3) := by decide +kernel
theorem d_Mo_canAct_26 : decode zb_Mo_canAct 26 = .ok (.iconst 1, 1) := by decide +kernel
theorem d_Mo_canAct_27 : decode zb_Mo_canAct 27 = .ok (.goto 4, 3) := by decide +kernel
theorem d_Mo_canAct_30 : decode zb_Mo_canAct 30 = .ok (.iconst 0, 1) := by decide +kernel
theorem d_Mo_canAct_31 : decode zb_Mo_canAct 31 = .ok (.ireturn, 1) := by decide +kernel
def k_Mo_canAct (x : zsM) (l1 : Int32) : Option (Int32) := (k_Mo_isDown x l1).bind fun o1 => (if o1 = 0 then (k_Mo_sumOf x l1 ((1 : Int32))).bind fun o3 => (if o3 = 0 then (k_Mo_sumOf x l1 ((5 : Int32))).bind fun o5 => (if o5 = 0 then some ((1 : Int32)) else some ((0 : Int32))) else some ((0 : Int32))) else some ((0 : Int32)))
set_option maxRecDepth 20000 in
theorem c_Mo_canAct (c : zY) (q : Nat → Nat) (x : zsM) (l1 : Int32) {out : Int32} (h : k_Mo_canAct x l1 = some out) : KM zy_Mo_canAct zb_Mo_canAct 2 (some .boolean) 2 c [.ref ((q 0)), .int l1] (zwM c q x) (zwM c q x) (some (.int out)) := zK_of zp_Mo rfl (Nat.le_of_ble_eq_true rfl) (zq_Mo c q _ _) (fun X hX hR => by
  show Go X (zwM c q x) [(0, .ref ((q 0))), (1, .int l1)] 0 []
  rw [k_Mo_canAct] at h
  refine g_aload_n (pc := 0) hX d_Mo_canAct_0 rfl 0 rfl ?_
  refine g_iload_n (pc := 1) hX d_Mo_canAct_1 rfl 1 rfl ?_
  obtain ⟨o1, e1, h⟩ := zbind h
  refine g_cvI (pc := 2) (w1 := []) (w2 := []) (st := []) (w' := (zwM c q x)) hX zk_Mo_isDown zs_Mo_isDown zL_Mo_110 (c_Mo_isDown c q x l1 e1) rfl rfl rfl rfl (zself _) (zself _).symm 0 10 rfl rfl rfl d_Mo_canAct_2 ?_
  refine g_if_ne (pc := 5) (tgt := 30) hX d_Mo_canAct_5 (by decide) h (fun c2 h => ?_) (fun c2 h => ?_)
  · refine g_iconst (pc := 30) hX d_Mo_canAct_30 zc_0 ?_
    obtain rfl := Option.some.inj h
    exact g_zret (pc := 31) hX hR (Or.inl rfl) d_Mo_canAct_31
  · refine g_aload_n (pc := 8) hX d_Mo_canAct_8 rfl 0 rfl ?_
    refine g_iload_n (pc := 9) hX d_Mo_canAct_9 rfl 1 rfl ?_
    refine g_iconst (pc := 10) hX d_Mo_canAct_10 zc_1 ?_
    obtain ⟨o3, e3, h⟩ := zbind h
    refine g_cvI (pc := 11) (w1 := []) (w2 := []) (st := []) (w' := (zwM c q x)) hX zk_Mo_sumOf zs_Mo_sumOf zL_Mo_114 (c_Mo_sumOf c q x l1 ((1 : Int32)) e3) rfl rfl rfl rfl (zself _) (zself _).symm 0 10 rfl rfl rfl d_Mo_canAct_11 ?_
    refine g_if_ne (pc := 14) (tgt := 30) hX d_Mo_canAct_14 (by decide) h (fun c4 h => ?_) (fun c4 h => ?_)
    · refine g_iconst (pc := 30) hX d_Mo_canAct_30 zc_0 ?_
      obtain rfl := Option.some.inj h
      exact g_zret (pc := 31) hX hR (Or.inl rfl) d_Mo_canAct_31
    · refine g_aload_n (pc := 17) hX d_Mo_canAct_17 rfl 0 rfl ?_
      refine g_iload_n (pc := 18) hX d_Mo_canAct_18 rfl 1 rfl ?_
      refine g_iconst (pc := 19) hX d_Mo_canAct_19 zc_5 ?_
      obtain ⟨o5, e5, h⟩ := zbind h
      refine g_cvI (pc := 20) (w1 := []) (w2 := []) (st := []) (w' := (zwM c q x)) hX zk_Mo_sumOf zs_Mo_sumOf zL_Mo_114 (c_Mo_sumOf c q x l1 ((5 : Int32)) e5) rfl rfl rfl rfl (zself _) (zself _).symm 0 10 rfl rfl rfl d_Mo_canAct_20 ?_
      refine g_if_ne (pc := 23) (tgt := 30) hX d_Mo_canAct_23 (by decide) h (fun c6 h => ?_) (fun c6 h => ?_)
      · refine g_iconst (pc := 30) hX d_Mo_canAct_30 zc_0 ?_
        obtain rfl := Option.some.inj h
        exact g_zret (pc := 31) hX hR (Or.inl rfl) d_Mo_canAct_31
      · refine g_iconst (pc := 26) hX d_Mo_canAct_26 zc_1 ?_
        refine g_goto (pc := 27) (tgt := 31) hX d_Mo_canAct_27 (by decide) ?_
        obtain rfl := Option.some.inj h
        exact g_zret (pc := 31) hX hR (Or.inr rfl) d_Mo_canAct_31)
theorem d_Mo_counts_0 : decode zb_Mo_counts 0 = .ok (.iconst 0, 1) := by decide +kernel
theorem d_Mo_counts_1 : decode zb_Mo_counts 1 = .ok (.istore_n 3, 1) := by decide +kernel
theorem d_Mo_counts_2 : decode zb_Mo_counts 2 = .ok (.iload_n 3, 1) := by decide +kernel
theorem d_Mo_counts_3 : decode zb_Mo_counts 3 = .ok (.aload_n 0, 1) := by decide +kernel
theorem d_Mo_counts_4 : decode zb_Mo_counts 4 = .ok (.getfield 95, 3) := by decide +kernel
theorem d_Mo_counts_7 : decode zb_Mo_counts 7 = .ok (.if_icmp .ge 50, 3) := by decide +kernel
theorem d_Mo_counts_10 : decode zb_Mo_counts 10 = .ok (.aload_n 0, 1) := by decide +kernel
theorem d_Mo_counts_11 : decode zb_Mo_counts 11 = .ok (.iload_n 3, 1) := by decide +kernel
theorem d_Mo_counts_12 : decode zb_Mo_counts 12 = .ok (.iconst 4, 1) := by decide +kernel
theorem d_Mo_counts_13 : decode zb_Mo_counts 13 = .ok (.invokevirtual 98, 3) := by decide +kernel
theorem d_Mo_counts_16 : decode zb_Mo_counts 16 = .ok (.iload_n 2, 1) := by decide +kernel
theorem d_Mo_counts_17 : decode zb_Mo_counts 17 = .ok (.if_icmp .ne 34, 3) := by decide +kernel
theorem d_Mo_counts_20 : decode zb_Mo_counts 20 = .ok (.aload_n 0, 1) := by decide +kernel
theorem d_Mo_counts_21 : decode zb_Mo_counts 21 = .ok (.iload_n 3, 1) := by decide +kernel
theorem d_Mo_counts_22 : decode zb_Mo_counts 22 = .ok (.iload_n 2, 1) := by decide +kernel
theorem d_Mo_counts_23 : decode zb_Mo_counts 23 = .ok (.ifCond .ne 7, 3) := by decide +kernel
theorem d_Mo_counts_26 : decode zb_Mo_counts 26 = .ok (.iconst 1, 1) := by decide +kernel
theorem d_Mo_counts_27 : decode zb_Mo_counts 27 = .ok (.goto 4, 3) := by decide +kernel
theorem d_Mo_counts_30 : decode zb_Mo_counts 30 = .ok (.iconst 2, 1) := by decide +kernel
theorem d_Mo_counts_31 : decode zb_Mo_counts 31 = .ok (.invokevirtual 98, 3) := by decide +kernel
theorem d_Mo_counts_34 : decode zb_Mo_counts 34 = .ok (.iload_n 1, 1) := by decide +kernel
theorem d_Mo_counts_35 : decode zb_Mo_counts 35 = .ok (.if_icmp .eq 6, 3) := by decide +kernel
theorem d_Mo_counts_38 : decode zb_Mo_counts 38 = .ok (.goto 13, 3) := by decide +kernel
theorem d_Mo_counts_41 : decode zb_Mo_counts 41 = .ok (.aload_n 0, 1) := by decide +kernel
theorem d_Mo_counts_42 : decode zb_Mo_counts 42 = .ok (.getfield 50, 3) := by decide +kernel
theorem d_Mo_counts_45 : decode zb_Mo_counts 45 = .ok (.iload_n 3, 1) := by decide +kernel
theorem d_Mo_counts_46 : decode zb_Mo_counts 46 = .ok (.dup2, 1) := by decide +kernel
theorem d_Mo_counts_47 : decode zb_Mo_counts 47 = .ok (.iaload, 1) := by decide +kernel
theorem d_Mo_counts_48 : decode zb_Mo_counts 48 = .ok (.iconst 1, 1) := by decide +kernel
theorem d_Mo_counts_49 : decode zb_Mo_counts 49 = .ok (.isub, 1) := by decide +kernel
theorem d_Mo_counts_50 : decode zb_Mo_counts 50 = .ok (.iastore, 1) := by decide +kernel
theorem d_Mo_counts_51 : decode zb_Mo_counts 51 = .ok (.iinc 3 1, 3) := by decide +kernel
theorem d_Mo_counts_54 : decode zb_Mo_counts 54 = .ok (.goto (-52), 3) := by decide +kernel
theorem d_Mo_counts_57 : decode zb_Mo_counts 57 = .ok (.iconst 0, 1) := by decide +kernel
theorem d_Mo_counts_58 : decode zb_Mo_counts 58 = .ok (.istore_n 3, 1) := by decide +kernel
theorem d_Mo_counts_59 : decode zb_Mo_counts 59 = .ok (.iload_n 3, 1) := by decide +kernel
theorem d_Mo_counts_60 : decode zb_Mo_counts 60 = .ok (.aload_n 0, 1) := by decide +kernel
theorem d_Mo_counts_61 : decode zb_Mo_counts 61 = .ok (.getfield 95, 3) := by decide +kernel
theorem d_Mo_counts_64 : decode zb_Mo_counts 64 = .ok (.if_icmp .ge 24, 3) := by decide +kernel
theorem d_Mo_counts_67 : decode zb_Mo_counts 67 = .ok (.aload_n 0, 1) := by decide +kernel
theorem d_Mo_counts_68 : decode zb_Mo_counts 68 = .ok (.iload_n 3, 1) := by decide +kernel
theorem d_Mo_counts_69 : decode zb_Mo_counts 69 = .ok (.iconst 5, 1) := by decide +kernel
theorem d_Mo_counts_70 : decode zb_Mo_counts 70 = .ok (.invokevirtual 98, 3) := by decide +kernel
theorem d_Mo_counts_73 : decode zb_Mo_counts 73 = .ok (.ifCond .ne 9, 3) := by decide +kernel
theorem d_Mo_counts_76 : decode zb_Mo_counts 76 = .ok (.aload_n 0, 1) := by decide +kernel
theorem d_Mo_counts_77 : decode zb_Mo_counts 77 = .ok (.iload_n 3, 1) := by decide +kernel
theorem d_Mo_counts_78 : decode zb_Mo_counts 78 = .ok (.invokevirtual 117, 3) := by decide +kernel
theorem d_Mo_counts_81 : decode zb_Mo_counts 81 = .ok (.istore_n 3, 1) := by decide +kernel
theorem d_Mo_counts_82 : decode zb_Mo_counts 82 = .ok (.iinc 3 1, 3) := by decide +kernel
theorem d_Mo_counts_85 : decode zb_Mo_counts 85 = .ok (.goto (-26), 3) := by decide +kernel
theorem d_Mo_counts_88 : decode zb_Mo_counts 88 = .ok (.return_, 1) := by decide +kernel
def k_Mo_counts_59 (l1 : Int32) (l2 : Int32) : Nat → Int32 → zsM → Option (zsM)
  | 0, _, _ => none
  | fu + 1, l3, x => (if l3 < (x.1 16) then (k_Mo_partOf x l3 ((5 : Int32))).bind fun o3 => (if o3 = 0 then (k_Mo_endsAt x l3).bind fun o5 => k_Mo_counts_59 l1 l2 fu ((o5.1 + (1 : Int32))) o5.2 else k_Mo_counts_59 l1 l2 fu ((l3 + (1 : Int32))) x) else some x)
set_option maxRecDepth 20000 in
theorem w_Mo_counts_59 {X : zX} {c : zY} {q : Nat → Nat} {l1 : Int32} {l2 : Int32} {out : zsM} (hX : Ok X zr_Mo zb_Mo_counts 4 2 c) (hR : Rt X none none (zwM c q out)) : ∀ (fu : Nat) (l3 : Int32) (x : zsM), k_Mo_counts_59 l1 l2 fu l3 x = some out → Go X (zwM c q x) [(0, .ref ((q 0))), (3, .int l3)] 59 [] := by
  intro fu
  induction fu with
  | zero => intro l3 x h; rw [k_Mo_counts_59] at h; cases h
  | succ fu ih =>
    intro l3 x h
    rw [k_Mo_counts_59] at h
    refine g_iload_n (pc := 59) hX d_Mo_counts_59 rfl 1 rfl ?_
    refine g_aload_n (pc := 60) hX d_Mo_counts_60 rfl 0 rfl ?_
    refine gf_Mo_95 (pc := 61) (v := .int ((x.1 16))) hX 0 rfl rfl d_Mo_counts_61 ?_
    refine g_icmp_ge (pc := 64) (tgt := 88) hX d_Mo_counts_64 (by decide) h (fun c2 h => ?_) (fun c2 h => ?_)
    · obtain rfl := Option.some.inj h
      exact g_vret (pc := 88) hX hR d_Mo_counts_88
    · refine g_aload_n (pc := 67) hX d_Mo_counts_67 rfl 0 rfl ?_
      refine g_iload_n (pc := 68) hX d_Mo_counts_68 rfl 1 rfl ?_
      refine g_iconst (pc := 69) hX d_Mo_counts_69 zc_5 ?_
      obtain ⟨o3, e3, h⟩ := zbind h
      refine g_cvI (pc := 70) (w1 := []) (w2 := []) (st := []) (w' := (zwM c q x)) hX zk_Mo_partOf zs_Mo_partOf zL_Mo_98 (c_Mo_partOf c q x l3 ((5 : Int32)) e3) rfl rfl rfl rfl (zself _) (zself _).symm 0 10 rfl rfl rfl d_Mo_counts_70 ?_
      refine g_if_ne (pc := 73) (tgt := 82) hX d_Mo_counts_73 (by decide) h (fun c4 h => ?_) (fun c4 h => ?_)
      · refine g_iinc (pc := 82) (q := 1) (L' := [(3, .int ((l3 + (1 : Int32)))), (0, .ref ((q 0)))]) hX d_Mo_counts_82 rfl zc_1 rfl rfl ?_
        refine g_goto (pc := 85) (tgt := 59) hX d_Mo_counts_85 (by decide) ?_
        refine g_ls (L' := [(0, .ref ((q 0))), (3, .int ((l3 + (1 : Int32))))]) [1, 0] rfl ?_
        exact ih _ _ h
      · refine g_aload_n (pc := 76) hX d_Mo_counts_76 rfl 0 rfl ?_
        refine g_iload_n (pc := 77) hX d_Mo_counts_77 rfl 1 rfl ?_
        obtain ⟨o5, e5, h⟩ := zbind h
        refine g_cvI (pc := 78) (w1 := []) (w2 := []) (st := []) (w' := (zwM c q o5.2)) hX zk_Mo_endsAt zs_Mo_endsAt zL_Mo_117 (c_Mo_endsAt c q x l3 e5) rfl rfl rfl rfl (zself _) (zself _).symm 0 10 rfl rfl rfl d_Mo_counts_78 ?_
        refine g_istore_n (pc := 81) (L' := [(3, .int o5.1), (0, .ref ((q 0)))]) hX d_Mo_counts_81 rfl rfl rfl ?_
        refine g_iinc (pc := 82) (q := 0) (L' := [(3, .int ((o5.1 + (1 : Int32)))), (0, .ref ((q 0)))]) hX d_Mo_counts_82 rfl zc_1 rfl rfl ?_
        refine g_goto (pc := 85) (tgt := 59) hX d_Mo_counts_85 (by decide) ?_
        refine g_ls (L' := [(0, .ref ((q 0))), (3, .int ((o5.1 + (1 : Int32))))]) [1, 0] rfl ?_
        exact ih _ _ h
def k_Mo_counts_31 (l1 : Int32) (l2 : Int32) (kf_2 : Int32 → zsM → Option (zsM)) (l3 : Int32) (s0 : Int32) (s1 : Int32) (x : zsM) : Option (zsM) := (k_Mo_partOf x s1 s0).bind fun o9 => (if o9 = l1 then (if zOut l3 384 then none else (if zOut l3 384 then none else kf_2 ((l3 + (1 : Int32))) ((x.1, (va_up x.2 15 (upd ((x.2 15)) l3.toNatClampNeg (((((x.2 15)) l3.toNatClampNeg) - (1 : Int32))))))))) else kf_2 ((l3 + (1 : Int32))) x)
set_option maxRecDepth 20000 in
theorem w_Mo_counts_31 {X : zX} {c : zY} {q : Nat → Nat} {l1 : Int32} {l2 : Int32} {out : zsM} {kf_2 : Int32 → zsM → Option (zsM)} (hX : Ok X zr_Mo zb_Mo_counts 4 2 c) (hR : Rt X none none (zwM c q out)) (hk_2 : ∀ (l3 : Int32) (x : zsM), kf_2 l3 x = some out → Go X (zwM c q x) [(0, .ref ((q 0))), (1, .int l1), (2, .int l2), (3, .int l3)] 2 []) : ∀ (l3 : Int32) (s0 : Int32) (s1 : Int32) (x : zsM), k_Mo_counts_31 l1 l2 kf_2 l3 s0 s1 x = some out → Go X (zwM c q x) [(0, .ref ((q 0))), (1, .int l1), (2, .int l2), (3, .int l3)] 31 [.int s0, .int s1, .ref ((q 0))] := by
  intro l3 s0 s1 x h
  rw [k_Mo_counts_31] at h
  obtain ⟨o9, e9, h⟩ := zbind h
  refine g_cvI (pc := 31) (w1 := []) (w2 := []) (st := []) (w' := (zwM c q x)) hX zk_Mo_partOf zs_Mo_partOf zL_Mo_98 (c_Mo_partOf c q x s1 s0 e9) rfl rfl rfl rfl (zself _) (zself _).symm 0 10 rfl rfl rfl d_Mo_counts_31 ?_
  refine g_iload_n (pc := 34) hX d_Mo_counts_34 rfl 1 rfl ?_
  refine g_icmp_eq (pc := 35) (tgt := 41) hX d_Mo_counts_35 (by decide) h (fun c10 h => ?_) (fun c10 h => ?_)
  · refine g_aload_n (pc := 41) hX d_Mo_counts_41 rfl 0 rfl ?_
    refine gf_Mo_50 (pc := 42) (v := .ref ((q 13))) hX 0 rfl rfl d_Mo_counts_42 ?_
    refine g_iload_n (pc := 45) hX d_Mo_counts_45 rfl 3 rfl ?_
    refine g_dup2 (pc := 46) hX d_Mo_counts_46 rfl rfl ?_
    refine g_iald (pc := 47) (f := (x.2 15)) hX 13 rfl h d_Mo_counts_47 (fun h => ?_)
    refine g_iconst (pc := 48) hX d_Mo_counts_48 zc_1 ?_
    refine g_isub (pc := 49) hX d_Mo_counts_49 ?_
    refine g_iast (pc := 50) (f := (x.2 15)) (w' := (zwM c q ((x.1, (va_up x.2 15 (upd ((x.2 15)) l3.toNatClampNeg (((((x.2 15)) l3.toNatClampNeg) - (1 : Int32))))))))) hX 13 rfl h (sa_Mo_13 c q x (upd ((x.2 15)) l3.toNatClampNeg (((((x.2 15)) l3.toNatClampNeg) - (1 : Int32))))) d_Mo_counts_50 (fun h => ?_)
    refine g_iinc (pc := 51) (q := 3) (L' := [(3, .int ((l3 + (1 : Int32)))), (0, .ref ((q 0))), (1, .int l1), (2, .int l2)]) hX d_Mo_counts_51 rfl zc_1 rfl rfl ?_
    refine g_goto (pc := 54) (tgt := 2) hX d_Mo_counts_54 (by decide) ?_
    refine g_ls (L' := [(0, .ref ((q 0))), (1, .int l1), (2, .int l2), (3, .int ((l3 + (1 : Int32))))]) [1, 2, 3, 0] rfl ?_
    exact hk_2 _ _ h
  · refine g_goto (pc := 38) (tgt := 51) hX d_Mo_counts_38 (by decide) ?_
    refine g_iinc (pc := 51) (q := 3) (L' := [(3, .int ((l3 + (1 : Int32)))), (0, .ref ((q 0))), (1, .int l1), (2, .int l2)]) hX d_Mo_counts_51 rfl zc_1 rfl rfl ?_
    refine g_goto (pc := 54) (tgt := 2) hX d_Mo_counts_54 (by decide) ?_
    refine g_ls (L' := [(0, .ref ((q 0))), (1, .int l1), (2, .int l2), (3, .int ((l3 + (1 : Int32))))]) [1, 2, 3, 0] rfl ?_
    exact hk_2 _ _ h
def k_Mo_counts_2 (l1 : Int32) (l2 : Int32) : Nat → Int32 → zsM → Option (zsM)
  | 0, _, _ => none
  | fu + 1, l3, x => (if l3 < (x.1 16) then (k_Mo_partOf x l3 ((4 : Int32))).bind fun o6 => (if o6 = l2 then (if l2 = 0 then k_Mo_counts_31 l1 l2 (k_Mo_counts_2 l1 l2 fu) l3 ((1 : Int32)) l3 x else k_Mo_counts_31 l1 l2 (k_Mo_counts_2 l1 l2 fu) l3 ((2 : Int32)) l3 x) else k_Mo_counts_2 l1 l2 fu ((l3 + (1 : Int32))) x) else k_Mo_counts_59 l1 l2 zFu ((0 : Int32)) x)
set_option maxRecDepth 20000 in
theorem w_Mo_counts_2 {X : zX} {c : zY} {q : Nat → Nat} {l1 : Int32} {l2 : Int32} {out : zsM} (hX : Ok X zr_Mo zb_Mo_counts 4 2 c) (hR : Rt X none none (zwM c q out)) : ∀ (fu : Nat) (l3 : Int32) (x : zsM), k_Mo_counts_2 l1 l2 fu l3 x = some out → Go X (zwM c q x) [(0, .ref ((q 0))), (1, .int l1), (2, .int l2), (3, .int l3)] 2 [] := by
  intro fu
  induction fu with
  | zero => intro l3 x h; rw [k_Mo_counts_2] at h; cases h
  | succ fu ih =>
    intro l3 x h
    rw [k_Mo_counts_2] at h
    refine g_iload_n (pc := 2) hX d_Mo_counts_2 rfl 3 rfl ?_
    refine g_aload_n (pc := 3) hX d_Mo_counts_3 rfl 0 rfl ?_
    refine gf_Mo_95 (pc := 4) (v := .int ((x.1 16))) hX 0 rfl rfl d_Mo_counts_4 ?_
    refine g_icmp_ge (pc := 7) (tgt := 57) hX d_Mo_counts_7 (by decide) h (fun c1 h => ?_) (fun c1 h => ?_)
    · refine g_iconst (pc := 57) hX d_Mo_counts_57 zc_0 ?_
      refine g_istore_n (pc := 58) (L' := [(3, .int ((0 : Int32))), (0, .ref ((q 0))), (1, .int l1), (2, .int l2)]) hX d_Mo_counts_58 rfl rfl rfl ?_
      refine g_ls (L' := [(0, .ref ((q 0))), (3, .int ((0 : Int32)))]) [1, 0] rfl ?_
      exact w_Mo_counts_59 hX hR _ _ _ h
    · refine g_aload_n (pc := 10) hX d_Mo_counts_10 rfl 0 rfl ?_
      refine g_iload_n (pc := 11) hX d_Mo_counts_11 rfl 3 rfl ?_
      refine g_iconst (pc := 12) hX d_Mo_counts_12 zc_4 ?_
      obtain ⟨o6, e6, h⟩ := zbind h
      refine g_cvI (pc := 13) (w1 := []) (w2 := []) (st := []) (w' := (zwM c q x)) hX zk_Mo_partOf zs_Mo_partOf zL_Mo_98 (c_Mo_partOf c q x l3 ((4 : Int32)) e6) rfl rfl rfl rfl (zself _) (zself _).symm 0 10 rfl rfl rfl d_Mo_counts_13 ?_
      refine g_iload_n (pc := 16) hX d_Mo_counts_16 rfl 2 rfl ?_
      refine g_icmp_ne (pc := 17) (tgt := 51) hX d_Mo_counts_17 (by decide) h (fun c7 h => ?_) (fun c7 h => ?_)
      · refine g_iinc (pc := 51) (q := 3) (L' := [(3, .int ((l3 + (1 : Int32)))), (0, .ref ((q 0))), (1, .int l1), (2, .int l2)]) hX d_Mo_counts_51 rfl zc_1 rfl rfl ?_
        refine g_goto (pc := 54) (tgt := 2) hX d_Mo_counts_54 (by decide) ?_
        refine g_ls (L' := [(0, .ref ((q 0))), (1, .int l1), (2, .int l2), (3, .int ((l3 + (1 : Int32))))]) [1, 2, 3, 0] rfl ?_
        exact ih _ _ h
      · refine g_aload_n (pc := 20) hX d_Mo_counts_20 rfl 0 rfl ?_
        refine g_iload_n (pc := 21) hX d_Mo_counts_21 rfl 3 rfl ?_
        refine g_iload_n (pc := 22) hX d_Mo_counts_22 rfl 2 rfl ?_
        refine g_if_ne (pc := 23) (tgt := 30) hX d_Mo_counts_23 (by decide) h (fun c8 h => ?_) (fun c8 h => ?_)
        · refine g_iconst (pc := 30) hX d_Mo_counts_30 zc_2 ?_
          exact w_Mo_counts_31 hX hR ih _ _ _ _ h
        · refine g_iconst (pc := 26) hX d_Mo_counts_26 zc_1 ?_
          refine g_goto (pc := 27) (tgt := 31) hX d_Mo_counts_27 (by decide) ?_
          exact w_Mo_counts_31 hX hR ih _ _ _ _ h
def k_Mo_counts (x : zsM) (l1 : Int32) (l2 : Int32) : Option (zsM) := k_Mo_counts_2 l1 l2 zFu ((0 : Int32)) x
set_option maxRecDepth 20000 in
theorem c_Mo_counts (c : zY) (q : Nat → Nat) (x : zsM) (l1 : Int32) (l2 : Int32) {out : zsM} (h : k_Mo_counts x l1 l2 = some out) : KM zy_Mo_counts zb_Mo_counts 4 none 2 c [.ref ((q 0)), .int l1, .int l2] (zwM c q x) (zwM c q out) none := zK_of zp_Mo rfl (Nat.le_of_ble_eq_true rfl) (zq_Mo c q _ _) (fun X hX hR => by
  show Go X (zwM c q x) [(0, .ref ((q 0))), (1, .int l1), (2, .int l2)] 0 []
  rw [k_Mo_counts] at h
  refine g_iconst (pc := 0) hX d_Mo_counts_0 zc_0 ?_
  refine g_istore_n (pc := 1) (L' := [(3, .int ((0 : Int32))), (0, .ref ((q 0))), (1, .int l1), (2, .int l2)]) hX d_Mo_counts_1 rfl rfl rfl ?_
  refine g_ls (L' := [(0, .ref ((q 0))), (1, .int l1), (2, .int l2), (3, .int ((0 : Int32)))]) [1, 2, 3, 0] rfl ?_
  exact w_Mo_counts_2 hX hR _ _ _ h)
theorem d_Mo_harms_0 : decode zb_Mo_harms 0 = .ok (.aload_n 0, 1) := by decide +kernel
theorem d_Mo_harms_1 : decode zb_Mo_harms 1 = .ok (.iload_n 1, 1) := by decide +kernel
theorem d_Mo_harms_2 : decode zb_Mo_harms 2 = .ok (.invokevirtual 110, 3) := by decide +kernel
theorem d_Mo_harms_5 : decode zb_Mo_harms 5 = .ok (.ifCond .eq 5, 3) := by decide +kernel
theorem d_Mo_harms_8 : decode zb_Mo_harms 8 = .ok (.iconst 0, 1) := by decide +kernel
theorem d_Mo_harms_9 : decode zb_Mo_harms 9 = .ok (.ireturn, 1) := by decide +kernel
theorem d_Mo_harms_10 : decode zb_Mo_harms 10 = .ok (.iload_n 3, 1) := by decide +kernel
theorem d_Mo_harms_11 : decode zb_Mo_harms 11 = .ok (.ifCond .eq 7, 3) := by decide +kernel
theorem d_Mo_harms_14 : decode zb_Mo_harms 14 = .ok (.iload_n 2, 1) := by decide +kernel
theorem d_Mo_harms_15 : decode zb_Mo_harms 15 = .ok (.goto 18, 3) := by decide +kernel
theorem d_Mo_harms_18 : decode zb_Mo_harms 18 = .ok (.iload_n 2, 1) := by decide +kernel
theorem d_Mo_harms_19 : decode zb_Mo_harms 19 = .ok (.aload_n 0, 1) := by decide +kernel
theorem d_Mo_harms_20 : decode zb_Mo_harms 20 = .ok (.iload_n 1, 1) := by decide +kernel
theorem d_Mo_harms_21 : decode zb_Mo_harms 21 = .ok (.iconst 4, 1) := by decide +kernel
theorem d_Mo_harms_22 : decode zb_Mo_harms 22 = .ok (.invokevirtual 114, 3) := by decide +kernel
theorem d_Mo_harms_25 : decode zb_Mo_harms 25 = .ok (.iadd, 1) := by decide +kernel
theorem d_Mo_harms_26 : decode zb_Mo_harms 26 = .ok (.aload_n 0, 1) := by decide +kernel
theorem d_Mo_harms_27 : decode zb_Mo_harms 27 = .ok (.iload_n 1, 1) := by decide +kernel
theorem d_Mo_harms_28 : decode zb_Mo_harms 28 = .ok (.iconst 2, 1) := by decide +kernel
theorem d_Mo_harms_29 : decode zb_Mo_harms 29 = .ok (.invokevirtual 114, 3) := by decide +kernel
theorem d_Mo_harms_32 : decode zb_Mo_harms 32 = .ok (.isub, 1) := by decide +kernel
theorem d_Mo_harms_33 : decode zb_Mo_harms 33 = .ok (.istore 4, 2) := by decide +kernel
theorem d_Mo_harms_35 : decode zb_Mo_harms 35 = .ok (.iload 4, 2) := by decide +kernel
theorem d_Mo_harms_37 : decode zb_Mo_harms 37 = .ok (.ifCond .ge 7, 3) := by decide +kernel
theorem d_Mo_harms_40 : decode zb_Mo_harms 40 = .ok (.iconst 0, 1) := by decide +kernel
theorem d_Mo_harms_41 : decode zb_Mo_harms 41 = .ok (.goto 5, 3) := by decide +kernel
theorem d_Mo_harms_44 : decode zb_Mo_harms 44 = .ok (.iload 4, 2) := by decide +kernel
theorem d_Mo_harms_46 : decode zb_Mo_harms 46 = .ok (.istore 4, 2) := by decide +kernel
theorem d_Mo_harms_48 : decode zb_Mo_harms 48 = .ok (.iload 4, 2) := by decide +kernel
theorem d_Mo_harms_50 : decode zb_Mo_harms 50 = .ok (.aload_n 0, 1) := by decide +kernel
theorem d_Mo_harms_51 : decode zb_Mo_harms 51 = .ok (.getfield 22, 3) := by decide +kernel
theorem d_Mo_harms_54 : decode zb_Mo_harms 54 = .ok (.iload_n 1, 1) := by decide +kernel
theorem d_Mo_harms_55 : decode zb_Mo_harms 55 = .ok (.iaload, 1) := by decide +kernel
theorem d_Mo_harms_56 : decode zb_Mo_harms 56 = .ok (.if_icmp .le 12, 3) := by decide +kernel
theorem d_Mo_harms_59 : decode zb_Mo_harms 59 = .ok (.aload_n 0, 1) := by decide +kernel
theorem d_Mo_harms_60 : decode zb_Mo_harms 60 = .ok (.getfield 22, 3) := by decide +kernel
theorem d_Mo_harms_63 : decode zb_Mo_harms 63 = .ok (.iload_n 1, 1) := by decide +kernel
theorem d_Mo_harms_64 : decode zb_Mo_harms 64 = .ok (.iaload, 1) := by decide +kernel
theorem d_Mo_harms_65 : decode zb_Mo_harms 65 = .ok (.goto 5, 3) := by decide +kernel
theorem d_Mo_harms_68 : decode zb_Mo_harms 68 = .ok (.iload 4, 2) := by decide +kernel
theorem d_Mo_harms_70 : decode zb_Mo_harms 70 = .ok (.istore 4, 2) := by decide +kernel
theorem d_Mo_harms_72 : decode zb_Mo_harms 72 = .ok (.iload 4, 2) := by decide +kernel
theorem d_Mo_harms_74 : decode zb_Mo_harms 74 = .ok (.ifCond .ne 5, 3) := by decide +kernel
theorem d_Mo_harms_77 : decode zb_Mo_harms 77 = .ok (.iconst 0, 1) := by decide +kernel
theorem d_Mo_harms_78 : decode zb_Mo_harms 78 = .ok (.ireturn, 1) := by decide +kernel
theorem d_Mo_harms_79 : decode zb_Mo_harms 79 = .ok (.aload_n 0, 1) := by decide +kernel
theorem d_Mo_harms_80 : decode zb_Mo_harms 80 = .ok (.getfield 22, 3) := by decide +kernel
theorem d_Mo_harms_83 : decode zb_Mo_harms 83 = .ok (.iload_n 1, 1) := by decide +kernel
theorem d_Mo_harms_84 : decode zb_Mo_harms 84 = .ok (.dup2, 1) := by decide +kernel
theorem d_Mo_harms_85 : decode zb_Mo_harms 85 = .ok (.iaload, 1) := by decide +kernel
theorem d_Mo_harms_86 : decode zb_Mo_harms 86 = .ok (.iload 4, 2) := by decide +kernel
theorem d_Mo_harms_88 : decode zb_Mo_harms 88 = .ok (.isub, 1) := by decide +kernel
theorem d_Mo_harms_89 : decode zb_Mo_harms 89 = .ok (.iastore, 1) := by decide +kernel
theorem d_Mo_harms_90 : decode zb_Mo_harms 90 = .ok (.aload_n 0, 1) := by decide +kernel
theorem d_Mo_harms_91 : decode zb_Mo_harms 91 = .ok (.dup, 1) := by decide +kernel
theorem d_Mo_harms_92 : decode zb_Mo_harms 92 = .ok (.getfield 120, 3) := by decide +kernel
theorem d_Mo_harms_95 : decode zb_Mo_harms 95 = .ok (.iload 4, 2) := by decide +kernel
theorem d_Mo_harms_97 : decode zb_Mo_harms 97 = .ok (.iadd, 1) := by decide +kernel
theorem d_Mo_harms_98 : decode zb_Mo_harms 98 = .ok (.putfield 120, 3) := by decide +kernel
theorem d_Mo_harms_101 : decode zb_Mo_harms 101 = .ok (.aload_n 0, 1) := by decide +kernel
theorem d_Mo_harms_102 : decode zb_Mo_harms 102 = .ok (.iconst 1, 1) := by decide +kernel
theorem d_Mo_harms_103 : decode zb_Mo_harms 103 = .ok (.iload_n 1, 1) := by decide +kernel
theorem d_Mo_harms_104 : decode zb_Mo_harms 104 = .ok (.iload 4, 2) := by decide +kernel
theorem d_Mo_harms_106 : decode zb_Mo_harms 106 = .ok (.invokevirtual 102, 3) := by decide +kernel
theorem d_Mo_harms_109 : decode zb_Mo_harms 109 = .ok (.iconst 0, 1) := by decide +kernel
theorem d_Mo_harms_110 : decode zb_Mo_harms 110 = .ok (.istore 5, 2) := by decide +kernel
theorem d_Mo_harms_112 : decode zb_Mo_harms 112 = .ok (.iload 5, 2) := by decide +kernel
theorem d_Mo_harms_114 : decode zb_Mo_harms 114 = .ok (.aload_n 0, 1) := by decide +kernel
theorem d_Mo_harms_115 : decode zb_Mo_harms 115 = .ok (.getfield 95, 3) := by decide +kernel
theorem d_Mo_harms_118 : decode zb_Mo_harms 118 = .ok (.if_icmp .ge 58, 3) := by decide +kernel
theorem d_Mo_harms_121 : decode zb_Mo_harms 121 = .ok (.aload_n 0, 1) := by decide +kernel
theorem d_Mo_harms_122 : decode zb_Mo_harms 122 = .ok (.iload 5, 2) := by decide +kernel
theorem d_Mo_harms_124 : decode zb_Mo_harms 124 = .ok (.iconst 1, 1) := by decide +kernel
theorem d_Mo_harms_125 : decode zb_Mo_harms 125 = .ok (.invokevirtual 98, 3) := by decide +kernel
theorem d_Mo_harms_128 : decode zb_Mo_harms 128 = .ok (.iload_n 1, 1) := by decide +kernel
theorem d_Mo_harms_129 : decode zb_Mo_harms 129 = .ok (.if_icmp .ne 41, 3) := by decide +kernel
theorem d_Mo_harms_132 : decode zb_Mo_harms 132 = .ok (.aload_n 0, 1) := by decide +kernel
theorem d_Mo_harms_133 : decode zb_Mo_harms 133 = .ok (.iload_n 1, 1) := by decide +kernel
theorem d_Mo_harms_134 : decode zb_Mo_harms 134 = .ok (.invokevirtual 110, 3) := by decide +kernel
theorem d_Mo_harms_137 : decode zb_Mo_harms 137 = .ok (.ifCond .ne 25, 3) := by decide +kernel
theorem d_Mo_harms_140 : decode zb_Mo_harms 140 = .ok (.aload_n 0, 1) := by decide +kernel
theorem d_Mo_harms_141 : decode zb_Mo_harms 141 = .ok (.iload 5, 2) := by decide +kernel
theorem d_Mo_harms_143 : decode zb_Mo_harms 143 = .ok (.iconst 4, 1) := by decide +kernel
theorem d_Mo_harms_144 : decode zb_Mo_harms 144 = .ok (.invokevirtual 98, 3) := by decide +kernel
theorem d_Mo_harms_147 : decode zb_Mo_harms 147 = .ok (.iconst 2, 1) := by decide +kernel
theorem d_Mo_harms_148 : decode zb_Mo_harms 148 = .ok (.if_icmp .eq 14, 3) := by decide +kernel
theorem d_Mo_harms_151 : decode zb_Mo_harms 151 = .ok (.aload_n 0, 1) := by decide +kernel
theorem d_Mo_harms_152 : decode zb_Mo_harms 152 = .ok (.iload 5, 2) := by decide +kernel
theorem d_Mo_harms_154 : decode zb_Mo_harms 154 = .ok (.iconst 0, 1) := by decide +kernel
theorem d_Mo_harms_155 : decode zb_Mo_harms 155 = .ok (.invokevirtual 98, 3) := by decide +kernel
theorem d_Mo_harms_158 : decode zb_Mo_harms 158 = .ok (.iconst 5, 1) := by decide +kernel
theorem d_Mo_harms_159 : decode zb_Mo_harms 159 = .ok (.if_icmp .ne 11, 3) := by decide +kernel
theorem d_Mo_harms_162 : decode zb_Mo_harms 162 = .ok (.aload_n 0, 1) := by decide +kernel
theorem d_Mo_harms_163 : decode zb_Mo_harms 163 = .ok (.iload 5, 2) := by decide +kernel
theorem d_Mo_harms_165 : decode zb_Mo_harms 165 = .ok (.invokevirtual 117, 3) := by decide +kernel
theorem d_Mo_harms_168 : decode zb_Mo_harms 168 = .ok (.istore 5, 2) := by decide +kernel
theorem d_Mo_harms_170 : decode zb_Mo_harms 170 = .ok (.iinc 5 1, 3) := by decide +kernel
theorem d_Mo_harms_173 : decode zb_Mo_harms 173 = .ok (.goto (-61), 3) := by decide +kernel
theorem d_Mo_harms_176 : decode zb_Mo_harms 176 = .ok (.iload 4, 2) := by decide +kernel
theorem d_Mo_harms_178 : decode zb_Mo_harms 178 = .ok (.ireturn, 1) := by decide +kernel
def k_Mo_harms_162 (l1 : Int32) (l2 : Int32) (l3 : Int32) (kf_112 : Int32 → Int32 → zsM → Option (Int32 × zsM)) (l4 : Int32) (l5 : Int32) (x : zsM) : Option (Int32 × zsM) := (k_Mo_endsAt x l5).bind fun o15 => kf_112 l4 ((o15.1 + (1 : Int32))) o15.2
set_option maxRecDepth 20000 in
theorem w_Mo_harms_162 {X : zX} {c : zY} {q : Nat → Nat} {l1 : Int32} {l2 : Int32} {l3 : Int32} {out : Int32 × zsM} {kf_112 : Int32 → Int32 → zsM → Option (Int32 × zsM)} (hX : Ok X zr_Mo zb_Mo_harms 6 2 c) (hR : Rt X (some .int) (some (.int out.1)) (zwM c q out.2)) (hk_112 : ∀ (l4 : Int32) (l5 : Int32) (x : zsM), kf_112 l4 l5 x = some out → Go X (zwM c q x) [(0, .ref ((q 0))), (1, .int l1), (4, .int l4), (5, .int l5)] 112 []) : ∀ (l4 : Int32) (l5 : Int32) (x : zsM), k_Mo_harms_162 l1 l2 l3 kf_112 l4 l5 x = some out → Go X (zwM c q x) [(0, .ref ((q 0))), (1, .int l1), (4, .int l4), (5, .int l5)] 162 [] := by
  intro l4 l5 x h
  rw [k_Mo_harms_162] at h
  refine g_aload_n (pc := 162) hX d_Mo_harms_162 rfl 0 rfl ?_
  refine g_iload (pc := 163) hX d_Mo_harms_163 3 rfl ?_
  obtain ⟨o15, e15, h⟩ := zbind h
  refine g_cvI (pc := 165) (w1 := []) (w2 := []) (st := []) (w' := (zwM c q o15.2)) hX zk_Mo_endsAt zs_Mo_endsAt zL_Mo_117 (c_Mo_endsAt c q x l5 e15) rfl rfl rfl rfl (zself _) (zself _).symm 0 10 rfl rfl rfl d_Mo_harms_165 ?_
  refine g_istore (pc := 168) (L' := [(5, .int o15.1), (0, .ref ((q 0))), (1, .int l1), (4, .int l4)]) hX d_Mo_harms_168 rfl rfl ?_
  refine g_iinc (pc := 170) (q := 0) (L' := [(5, .int ((o15.1 + (1 : Int32)))), (0, .ref ((q 0))), (1, .int l1), (4, .int l4)]) hX d_Mo_harms_170 rfl zc_1 rfl rfl ?_
  refine g_goto (pc := 173) (tgt := 112) hX d_Mo_harms_173 (by decide) ?_
  refine g_ls (L' := [(0, .ref ((q 0))), (1, .int l1), (4, .int l4), (5, .int ((o15.1 + (1 : Int32))))]) [1, 2, 3, 0] rfl ?_
  exact hk_112 _ _ _ h
def k_Mo_harms_112 (l1 : Int32) (l2 : Int32) (l3 : Int32) : Nat → Int32 → Int32 → zsM → Option (Int32 × zsM)
  | 0, _, _, _ => none
  | fu + 1, l4, l5, x => (if l5 < (x.1 16) then (k_Mo_partOf x l5 ((1 : Int32))).bind fun o11 => (if o11 = l1 then (k_Mo_isDown x l1).bind fun o13 => (if o13 = 0 then (k_Mo_partOf x l5 ((4 : Int32))).bind fun o16 => (if o16 = (2 : Int32) then k_Mo_harms_162 l1 l2 l3 (k_Mo_harms_112 l1 l2 l3 fu) l4 l5 x else (k_Mo_partOf x l5 ((0 : Int32))).bind fun o18 => (if o18 = (5 : Int32) then k_Mo_harms_162 l1 l2 l3 (k_Mo_harms_112 l1 l2 l3 fu) l4 l5 x else k_Mo_harms_112 l1 l2 l3 fu l4 ((l5 + (1 : Int32))) x)) else k_Mo_harms_162 l1 l2 l3 (k_Mo_harms_112 l1 l2 l3 fu) l4 l5 x) else k_Mo_harms_112 l1 l2 l3 fu l4 ((l5 + (1 : Int32))) x) else some (l4, x))
set_option maxRecDepth 20000 in
theorem w_Mo_harms_112 {X : zX} {c : zY} {q : Nat → Nat} {l1 : Int32} {l2 : Int32} {l3 : Int32} {out : Int32 × zsM} (hX : Ok X zr_Mo zb_Mo_harms 6 2 c) (hR : Rt X (some .int) (some (.int out.1)) (zwM c q out.2)) : ∀ (fu : Nat) (l4 : Int32) (l5 : Int32) (x : zsM), k_Mo_harms_112 l1 l2 l3 fu l4 l5 x = some out → Go X (zwM c q x) [(0, .ref ((q 0))), (1, .int l1), (4, .int l4), (5, .int l5)] 112 [] := by
  intro fu
  induction fu with
  | zero => intro l4 l5 x h; rw [k_Mo_harms_112] at h; cases h
  | succ fu ih =>
    intro l4 l5 x h
    rw [k_Mo_harms_112] at h
    refine g_iload (pc := 112) hX d_Mo_harms_112 3 rfl ?_
    refine g_aload_n (pc := 114) hX d_Mo_harms_114 rfl 0 rfl ?_
    refine gf_Mo_95 (pc := 115) (v := .int ((x.1 16))) hX 0 rfl rfl d_Mo_harms_115 ?_
    refine g_icmp_ge (pc := 118) (tgt := 176) hX d_Mo_harms_118 (by decide) h (fun c10 h => ?_) (fun c10 h => ?_)
    · refine g_iload (pc := 176) hX d_Mo_harms_176 2 rfl ?_
      obtain rfl := Option.some.inj h
      exact g_iret (pc := 178) hX hR d_Mo_harms_178
    · refine g_aload_n (pc := 121) hX d_Mo_harms_121 rfl 0 rfl ?_
      refine g_iload (pc := 122) hX d_Mo_harms_122 3 rfl ?_
      refine g_iconst (pc := 124) hX d_Mo_harms_124 zc_1 ?_
      obtain ⟨o11, e11, h⟩ := zbind h
      refine g_cvI (pc := 125) (w1 := []) (w2 := []) (st := []) (w' := (zwM c q x)) hX zk_Mo_partOf zs_Mo_partOf zL_Mo_98 (c_Mo_partOf c q x l5 ((1 : Int32)) e11) rfl rfl rfl rfl (zself _) (zself _).symm 0 10 rfl rfl rfl d_Mo_harms_125 ?_
      refine g_iload_n (pc := 128) hX d_Mo_harms_128 rfl 1 rfl ?_
      refine g_icmp_ne (pc := 129) (tgt := 170) hX d_Mo_harms_129 (by decide) h (fun c12 h => ?_) (fun c12 h => ?_)
      · refine g_iinc (pc := 170) (q := 3) (L' := [(5, .int ((l5 + (1 : Int32)))), (0, .ref ((q 0))), (1, .int l1), (4, .int l4)]) hX d_Mo_harms_170 rfl zc_1 rfl rfl ?_
        refine g_goto (pc := 173) (tgt := 112) hX d_Mo_harms_173 (by decide) ?_
        refine g_ls (L' := [(0, .ref ((q 0))), (1, .int l1), (4, .int l4), (5, .int ((l5 + (1 : Int32))))]) [1, 2, 3, 0] rfl ?_
        exact ih _ _ _ h
      · refine g_aload_n (pc := 132) hX d_Mo_harms_132 rfl 0 rfl ?_
        refine g_iload_n (pc := 133) hX d_Mo_harms_133 rfl 1 rfl ?_
        obtain ⟨o13, e13, h⟩ := zbind h
        refine g_cvI (pc := 134) (w1 := []) (w2 := []) (st := []) (w' := (zwM c q x)) hX zk_Mo_isDown zs_Mo_isDown zL_Mo_110 (c_Mo_isDown c q x l1 e13) rfl rfl rfl rfl (zself _) (zself _).symm 0 10 rfl rfl rfl d_Mo_harms_134 ?_
        refine g_if_ne (pc := 137) (tgt := 162) hX d_Mo_harms_137 (by decide) h (fun c14 h => ?_) (fun c14 h => ?_)
        · exact w_Mo_harms_162 hX hR ih _ _ _ h
        · refine g_aload_n (pc := 140) hX d_Mo_harms_140 rfl 0 rfl ?_
          refine g_iload (pc := 141) hX d_Mo_harms_141 3 rfl ?_
          refine g_iconst (pc := 143) hX d_Mo_harms_143 zc_4 ?_
          obtain ⟨o16, e16, h⟩ := zbind h
          refine g_cvI (pc := 144) (w1 := []) (w2 := []) (st := []) (w' := (zwM c q x)) hX zk_Mo_partOf zs_Mo_partOf zL_Mo_98 (c_Mo_partOf c q x l5 ((4 : Int32)) e16) rfl rfl rfl rfl (zself _) (zself _).symm 0 10 rfl rfl rfl d_Mo_harms_144 ?_
          refine g_iconst (pc := 147) hX d_Mo_harms_147 zc_2 ?_
          refine g_icmp_eq (pc := 148) (tgt := 162) hX d_Mo_harms_148 (by decide) h (fun c17 h => ?_) (fun c17 h => ?_)
          · exact w_Mo_harms_162 hX hR ih _ _ _ h
          · refine g_aload_n (pc := 151) hX d_Mo_harms_151 rfl 0 rfl ?_
            refine g_iload (pc := 152) hX d_Mo_harms_152 3 rfl ?_
            refine g_iconst (pc := 154) hX d_Mo_harms_154 zc_0 ?_
            obtain ⟨o18, e18, h⟩ := zbind h
            refine g_cvI (pc := 155) (w1 := []) (w2 := []) (st := []) (w' := (zwM c q x)) hX zk_Mo_partOf zs_Mo_partOf zL_Mo_98 (c_Mo_partOf c q x l5 ((0 : Int32)) e18) rfl rfl rfl rfl (zself _) (zself _).symm 0 10 rfl rfl rfl d_Mo_harms_155 ?_
            refine g_iconst (pc := 158) hX d_Mo_harms_158 zc_5 ?_
            refine g_icmp_ne (pc := 159) (tgt := 170) hX d_Mo_harms_159 (by decide) h (fun c19 h => ?_) (fun c19 h => ?_)
            · refine g_iinc (pc := 170) (q := 3) (L' := [(5, .int ((l5 + (1 : Int32)))), (0, .ref ((q 0))), (1, .int l1), (4, .int l4)]) hX d_Mo_harms_170 rfl zc_1 rfl rfl ?_
              refine g_goto (pc := 173) (tgt := 112) hX d_Mo_harms_173 (by decide) ?_
              refine g_ls (L' := [(0, .ref ((q 0))), (1, .int l1), (4, .int l4), (5, .int ((l5 + (1 : Int32))))]) [1, 2, 3, 0] rfl ?_
              exact ih _ _ _ h
            · exact w_Mo_harms_162 hX hR ih _ _ _ h
def k_Mo_harms_70 (l1 : Int32) (l2 : Int32) (l3 : Int32) (s0 : Int32) (x : zsM) : Option (Int32 × zsM) := (if s0 = 0 then some ((0 : Int32), x) else (if zOut l1 8 then none else (if zOut l1 8 then none else (k_Mo_notes (((upd x.1 17 (((x.1 17) + s0))), (va_up x.2 4 (upd ((x.2 4)) l1.toNatClampNeg (((((x.2 4)) l1.toNatClampNeg) - s0)))))) ((1 : Int32)) l1 s0).bind fun o9 => k_Mo_harms_112 l1 l2 l3 zFu s0 ((0 : Int32)) o9)))
set_option maxRecDepth 20000 in
theorem w_Mo_harms_70 {X : zX} {c : zY} {q : Nat → Nat} {l1 : Int32} {l2 : Int32} {l3 : Int32} {out : Int32 × zsM} (hX : Ok X zr_Mo zb_Mo_harms 6 2 c) (hR : Rt X (some .int) (some (.int out.1)) (zwM c q out.2)) : ∀ (s0 : Int32) (x : zsM), k_Mo_harms_70 l1 l2 l3 s0 x = some out → Go X (zwM c q x) [(0, .ref ((q 0))), (1, .int l1)] 70 [.int s0] := by
  intro s0 x h
  rw [k_Mo_harms_70] at h
  refine g_istore (pc := 70) (L' := [(4, .int s0), (0, .ref ((q 0))), (1, .int l1)]) hX d_Mo_harms_70 rfl rfl ?_
  refine g_iload (pc := 72) hX d_Mo_harms_72 0 rfl ?_
  refine g_if_ne (pc := 74) (tgt := 79) hX d_Mo_harms_74 (by decide) h (fun c8 h => ?_) (fun c8 h => ?_)
  · refine g_aload_n (pc := 79) hX d_Mo_harms_79 rfl 1 rfl ?_
    refine gf_Mo_22 (pc := 80) (v := .ref ((q 5))) hX 0 rfl rfl d_Mo_harms_80 ?_
    refine g_iload_n (pc := 83) hX d_Mo_harms_83 rfl 2 rfl ?_
    refine g_dup2 (pc := 84) hX d_Mo_harms_84 rfl rfl ?_
    refine g_iald (pc := 85) (f := (x.2 4)) hX 5 rfl h d_Mo_harms_85 (fun h => ?_)
    refine g_iload (pc := 86) hX d_Mo_harms_86 0 rfl ?_
    refine g_isub (pc := 88) hX d_Mo_harms_88 ?_
    refine g_iast (pc := 89) (f := (x.2 4)) (w' := (zwM c q ((x.1, (va_up x.2 4 (upd ((x.2 4)) l1.toNatClampNeg (((((x.2 4)) l1.toNatClampNeg) - s0)))))))) hX 5 rfl h (sa_Mo_5 c q x (upd ((x.2 4)) l1.toNatClampNeg (((((x.2 4)) l1.toNatClampNeg) - s0)))) d_Mo_harms_89 (fun h => ?_)
    refine g_aload_n (pc := 90) hX d_Mo_harms_90 rfl 1 rfl ?_
    refine g_dup (pc := 91) hX d_Mo_harms_91 rfl ?_
    refine gf_Mo_120 (pc := 92) (v := .int ((x.1 17))) hX 0 rfl rfl d_Mo_harms_92 ?_
    refine g_iload (pc := 95) hX d_Mo_harms_95 0 rfl ?_
    refine g_iadd (pc := 97) hX d_Mo_harms_97 ?_
    refine pf_Mo_120 (pc := 98) (w2 := (zwM c q (((upd x.1 17 (((x.1 17) + s0))), (va_up x.2 4 (upd ((x.2 4)) l1.toNatClampNeg (((((x.2 4)) l1.toNatClampNeg) - s0)))))))) hX 0 rfl rfl (su_Mo_0_17 c q ((x.1, (va_up x.2 4 (upd ((x.2 4)) l1.toNatClampNeg (((((x.2 4)) l1.toNatClampNeg) - s0)))))) (((x.1 17) + s0))) d_Mo_harms_98 ?_
    refine g_aload_n (pc := 101) hX d_Mo_harms_101 rfl 1 rfl ?_
    refine g_iconst (pc := 102) hX d_Mo_harms_102 zc_1 ?_
    refine g_iload_n (pc := 103) hX d_Mo_harms_103 rfl 2 rfl ?_
    refine g_iload (pc := 104) hX d_Mo_harms_104 0 rfl ?_
    obtain ⟨o9, e9, h⟩ := zbind h
    refine g_cvV (pc := 106) (w1 := []) (w2 := []) (st := []) (w' := (zwM c q o9)) hX zk_Mo_notes zs_Mo_notes zL_Mo_102 (c_Mo_notes c q (((upd x.1 17 (((x.1 17) + s0))), (va_up x.2 4 (upd ((x.2 4)) l1.toNatClampNeg (((((x.2 4)) l1.toNatClampNeg) - s0)))))) ((1 : Int32)) l1 s0 e9) rfl rfl rfl rfl (zself _) (zself _).symm 0 10 rfl rfl rfl d_Mo_harms_106 ?_
    refine g_iconst (pc := 109) hX d_Mo_harms_109 zc_0 ?_
    refine g_istore (pc := 110) (L' := [(5, .int ((0 : Int32))), (4, .int s0), (0, .ref ((q 0))), (1, .int l1)]) hX d_Mo_harms_110 rfl rfl ?_
    refine g_ls (L' := [(0, .ref ((q 0))), (1, .int l1), (4, .int s0), (5, .int ((0 : Int32)))]) [2, 3, 1, 0] rfl ?_
    exact w_Mo_harms_112 hX hR _ _ _ _ h
  · refine g_iconst (pc := 77) hX d_Mo_harms_77 zc_0 ?_
    obtain rfl := Option.some.inj h
    exact g_iret (pc := 78) hX hR d_Mo_harms_78
def k_Mo_harms_46 (l1 : Int32) (l2 : Int32) (l3 : Int32) (s0 : Int32) (x : zsM) : Option (Int32 × zsM) := (if zOut l1 8 then none else (if (((x.2 4)) l1.toNatClampNeg) < s0 then (if zOut l1 8 then none else k_Mo_harms_70 l1 l2 l3 ((((x.2 4)) l1.toNatClampNeg)) x) else k_Mo_harms_70 l1 l2 l3 s0 x))
set_option maxRecDepth 20000 in
theorem w_Mo_harms_46 {X : zX} {c : zY} {q : Nat → Nat} {l1 : Int32} {l2 : Int32} {l3 : Int32} {out : Int32 × zsM} (hX : Ok X zr_Mo zb_Mo_harms 6 2 c) (hR : Rt X (some .int) (some (.int out.1)) (zwM c q out.2)) : ∀ (s0 : Int32) (x : zsM), k_Mo_harms_46 l1 l2 l3 s0 x = some out → Go X (zwM c q x) [(0, .ref ((q 0))), (1, .int l1)] 46 [.int s0] := by
  intro s0 x h
  rw [k_Mo_harms_46] at h
  refine g_istore (pc := 46) (L' := [(4, .int s0), (0, .ref ((q 0))), (1, .int l1)]) hX d_Mo_harms_46 rfl rfl ?_
  refine g_iload (pc := 48) hX d_Mo_harms_48 0 rfl ?_
  refine g_aload_n (pc := 50) hX d_Mo_harms_50 rfl 1 rfl ?_
  refine gf_Mo_22 (pc := 51) (v := .ref ((q 5))) hX 0 rfl rfl d_Mo_harms_51 ?_
  refine g_iload_n (pc := 54) hX d_Mo_harms_54 rfl 2 rfl ?_
  refine g_iald (pc := 55) (f := (x.2 4)) hX 5 rfl h d_Mo_harms_55 (fun h => ?_)
  refine g_icmp_le (pc := 56) (tgt := 68) hX d_Mo_harms_56 (by decide) h (fun c7 h => ?_) (fun c7 h => ?_)
  · refine g_iload (pc := 68) hX d_Mo_harms_68 0 rfl ?_
    refine g_ls (L' := [(0, .ref ((q 0))), (1, .int l1)]) [1, 2] rfl ?_
    exact w_Mo_harms_70 hX hR _ _ h
  · refine g_aload_n (pc := 59) hX d_Mo_harms_59 rfl 1 rfl ?_
    refine gf_Mo_22 (pc := 60) (v := .ref ((q 5))) hX 0 rfl rfl d_Mo_harms_60 ?_
    refine g_iload_n (pc := 63) hX d_Mo_harms_63 rfl 2 rfl ?_
    refine g_iald (pc := 64) (f := (x.2 4)) hX 5 rfl h d_Mo_harms_64 (fun h => ?_)
    refine g_goto (pc := 65) (tgt := 70) hX d_Mo_harms_65 (by decide) ?_
    refine g_ls (L' := [(0, .ref ((q 0))), (1, .int l1)]) [1, 2] rfl ?_
    exact w_Mo_harms_70 hX hR _ _ h
def k_Mo_harms_33 (l1 : Int32) (l2 : Int32) (l3 : Int32) (s0 : Int32) (x : zsM) : Option (Int32 × zsM) := (if s0 < 0 then k_Mo_harms_46 l1 l2 l3 ((0 : Int32)) x else k_Mo_harms_46 l1 l2 l3 s0 x)
set_option maxRecDepth 20000 in
theorem w_Mo_harms_33 {X : zX} {c : zY} {q : Nat → Nat} {l1 : Int32} {l2 : Int32} {l3 : Int32} {out : Int32 × zsM} (hX : Ok X zr_Mo zb_Mo_harms 6 2 c) (hR : Rt X (some .int) (some (.int out.1)) (zwM c q out.2)) : ∀ (s0 : Int32) (x : zsM), k_Mo_harms_33 l1 l2 l3 s0 x = some out → Go X (zwM c q x) [(0, .ref ((q 0))), (1, .int l1)] 33 [.int s0] := by
  intro s0 x h
  rw [k_Mo_harms_33] at h
  refine g_istore (pc := 33) (L' := [(4, .int s0), (0, .ref ((q 0))), (1, .int l1)]) hX d_Mo_harms_33 rfl rfl ?_
  refine g_iload (pc := 35) hX d_Mo_harms_35 0 rfl ?_
  refine g_if_ge (pc := 37) (tgt := 44) hX d_Mo_harms_37 (by decide) h (fun c6 h => ?_) (fun c6 h => ?_)
  · refine g_iload (pc := 44) hX d_Mo_harms_44 0 rfl ?_
    refine g_ls (L' := [(0, .ref ((q 0))), (1, .int l1)]) [1, 2] rfl ?_
    exact w_Mo_harms_46 hX hR _ _ h
  · refine g_iconst (pc := 40) hX d_Mo_harms_40 zc_0 ?_
    refine g_goto (pc := 41) (tgt := 46) hX d_Mo_harms_41 (by decide) ?_
    refine g_ls (L' := [(0, .ref ((q 0))), (1, .int l1)]) [1, 2] rfl ?_
    exact w_Mo_harms_46 hX hR _ _ h
def k_Mo_harms (x : zsM) (l1 : Int32) (l2 : Int32) (l3 : Int32) : Option (Int32 × zsM) := (k_Mo_isDown x l1).bind fun o1 => (if o1 = 0 then (if l3 = 0 then (k_Mo_sumOf x l1 ((4 : Int32))).bind fun o4 => (k_Mo_sumOf x l1 ((2 : Int32))).bind fun o5 => k_Mo_harms_33 l1 l2 l3 (((l2 + o4) - o5)) x else k_Mo_harms_33 l1 l2 l3 l2 x) else some ((0 : Int32), x))
set_option maxRecDepth 20000 in
theorem c_Mo_harms (c : zY) (q : Nat → Nat) (x : zsM) (l1 : Int32) (l2 : Int32) (l3 : Int32) {out : Int32 × zsM} (h : k_Mo_harms x l1 l2 l3 = some out) : KM zy_Mo_harms zb_Mo_harms 6 (some .int) 2 c [.ref ((q 0)), .int l1, .int l2, .int l3] (zwM c q x) (zwM c q out.2) (some (.int out.1)) := zK_of zp_Mo rfl (Nat.le_of_ble_eq_true rfl) (zq_Mo c q _ _) (fun X hX hR => by
  show Go X (zwM c q x) [(0, .ref ((q 0))), (1, .int l1), (2, .int l2), (3, .int l3)] 0 []
  rw [k_Mo_harms] at h
  refine g_aload_n (pc := 0) hX d_Mo_harms_0 rfl 0 rfl ?_
  refine g_iload_n (pc := 1) hX d_Mo_harms_1 rfl 1 rfl ?_
  obtain ⟨o1, e1, h⟩ := zbind h
  refine g_cvI (pc := 2) (w1 := []) (w2 := []) (st := []) (w' := (zwM c q x)) hX zk_Mo_isDown zs_Mo_isDown zL_Mo_110 (c_Mo_isDown c q x l1 e1) rfl rfl rfl rfl (zself _) (zself _).symm 0 10 rfl rfl rfl d_Mo_harms_2 ?_
  refine g_if_eq (pc := 5) (tgt := 10) hX d_Mo_harms_5 (by decide) h (fun c2 h => ?_) (fun c2 h => ?_)
  · refine g_iload_n (pc := 10) hX d_Mo_harms_10 rfl 3 rfl ?_
    refine g_if_eq (pc := 11) (tgt := 18) hX d_Mo_harms_11 (by decide) h (fun c3 h => ?_) (fun c3 h => ?_)
    · refine g_iload_n (pc := 18) hX d_Mo_harms_18 rfl 2 rfl ?_
      refine g_aload_n (pc := 19) hX d_Mo_harms_19 rfl 0 rfl ?_
      refine g_iload_n (pc := 20) hX d_Mo_harms_20 rfl 1 rfl ?_
      refine g_iconst (pc := 21) hX d_Mo_harms_21 zc_4 ?_
      obtain ⟨o4, e4, h⟩ := zbind h
      refine g_cvI (pc := 22) (w1 := []) (w2 := []) (st := [.int l2]) (w' := (zwM c q x)) hX zk_Mo_sumOf zs_Mo_sumOf zL_Mo_114 (c_Mo_sumOf c q x l1 ((4 : Int32)) e4) rfl rfl rfl rfl (zself _) (zself _).symm 0 10 rfl rfl rfl d_Mo_harms_22 ?_
      refine g_iadd (pc := 25) hX d_Mo_harms_25 ?_
      refine g_aload_n (pc := 26) hX d_Mo_harms_26 rfl 0 rfl ?_
      refine g_iload_n (pc := 27) hX d_Mo_harms_27 rfl 1 rfl ?_
      refine g_iconst (pc := 28) hX d_Mo_harms_28 zc_2 ?_
      obtain ⟨o5, e5, h⟩ := zbind h
      refine g_cvI (pc := 29) (w1 := []) (w2 := []) (st := [.int ((l2 + o4))]) (w' := (zwM c q x)) hX zk_Mo_sumOf zs_Mo_sumOf zL_Mo_114 (c_Mo_sumOf c q x l1 ((2 : Int32)) e5) rfl rfl rfl rfl (zself _) (zself _).symm 0 10 rfl rfl rfl d_Mo_harms_29 ?_
      refine g_isub (pc := 32) hX d_Mo_harms_32 ?_
      refine g_ls (L' := [(0, .ref ((q 0))), (1, .int l1)]) [0, 1] rfl ?_
      exact w_Mo_harms_33 hX hR _ _ h
    · refine g_iload_n (pc := 14) hX d_Mo_harms_14 rfl 2 rfl ?_
      refine g_goto (pc := 15) (tgt := 33) hX d_Mo_harms_15 (by decide) ?_
      refine g_ls (L' := [(0, .ref ((q 0))), (1, .int l1)]) [0, 1] rfl ?_
      exact w_Mo_harms_33 hX hR _ _ h
  · refine g_iconst (pc := 8) hX d_Mo_harms_8 zc_0 ?_
    obtain rfl := Option.some.inj h
    exact g_iret (pc := 9) hX hR d_Mo_harms_9)
theorem d_Mo_mends_0 : decode zb_Mo_mends 0 = .ok (.iload_n 2, 1) := by decide +kernel
theorem d_Mo_mends_1 : decode zb_Mo_mends 1 = .ok (.aload_n 0, 1) := by decide +kernel
theorem d_Mo_mends_2 : decode zb_Mo_mends 2 = .ok (.getfield 19, 3) := by decide +kernel
theorem d_Mo_mends_5 : decode zb_Mo_mends 5 = .ok (.iload_n 1, 1) := by decide +kernel
theorem d_Mo_mends_6 : decode zb_Mo_mends 6 = .ok (.iaload, 1) := by decide +kernel
theorem d_Mo_mends_7 : decode zb_Mo_mends 7 = .ok (.aload_n 0, 1) := by decide +kernel
theorem d_Mo_mends_8 : decode zb_Mo_mends 8 = .ok (.getfield 22, 3) := by decide +kernel
theorem d_Mo_mends_11 : decode zb_Mo_mends 11 = .ok (.iload_n 1, 1) := by decide +kernel
theorem d_Mo_mends_12 : decode zb_Mo_mends 12 = .ok (.iaload, 1) := by decide +kernel
theorem d_Mo_mends_13 : decode zb_Mo_mends 13 = .ok (.isub, 1) := by decide +kernel
theorem d_Mo_mends_14 : decode zb_Mo_mends 14 = .ok (.if_icmp .ge 7, 3) := by decide +kernel
theorem d_Mo_mends_17 : decode zb_Mo_mends 17 = .ok (.iload_n 2, 1) := by decide +kernel
theorem d_Mo_mends_18 : decode zb_Mo_mends 18 = .ok (.goto 16, 3) := by decide +kernel
theorem d_Mo_mends_21 : decode zb_Mo_mends 21 = .ok (.aload_n 0, 1) := by decide +kernel
theorem d_Mo_mends_22 : decode zb_Mo_mends 22 = .ok (.getfield 19, 3) := by decide +kernel
theorem d_Mo_mends_25 : decode zb_Mo_mends 25 = .ok (.iload_n 1, 1) := by decide +kernel
theorem d_Mo_mends_26 : decode zb_Mo_mends 26 = .ok (.iaload, 1) := by decide +kernel
theorem d_Mo_mends_27 : decode zb_Mo_mends 27 = .ok (.aload_n 0, 1) := by decide +kernel
theorem d_Mo_mends_28 : decode zb_Mo_mends 28 = .ok (.getfield 22, 3) := by decide +kernel
theorem d_Mo_mends_31 : decode zb_Mo_mends 31 = .ok (.iload_n 1, 1) := by decide +kernel
theorem d_Mo_mends_32 : decode zb_Mo_mends 32 = .ok (.iaload, 1) := by decide +kernel
theorem d_Mo_mends_33 : decode zb_Mo_mends 33 = .ok (.isub, 1) := by decide +kernel
theorem d_Mo_mends_34 : decode zb_Mo_mends 34 = .ok (.istore_n 3, 1) := by decide +kernel
theorem d_Mo_mends_35 : decode zb_Mo_mends 35 = .ok (.iload_n 3, 1) := by decide +kernel
theorem d_Mo_mends_36 : decode zb_Mo_mends 36 = .ok (.ifCond .ne 5, 3) := by decide +kernel
theorem d_Mo_mends_39 : decode zb_Mo_mends 39 = .ok (.iconst 0, 1) := by decide +kernel
theorem d_Mo_mends_40 : decode zb_Mo_mends 40 = .ok (.ireturn, 1) := by decide +kernel
theorem d_Mo_mends_41 : decode zb_Mo_mends 41 = .ok (.aload_n 0, 1) := by decide +kernel
theorem d_Mo_mends_42 : decode zb_Mo_mends 42 = .ok (.getfield 22, 3) := by decide +kernel
theorem d_Mo_mends_45 : decode zb_Mo_mends 45 = .ok (.iload_n 1, 1) := by decide +kernel
theorem d_Mo_mends_46 : decode zb_Mo_mends 46 = .ok (.dup2, 1) := by decide +kernel
theorem d_Mo_mends_47 : decode zb_Mo_mends 47 = .ok (.iaload, 1) := by decide +kernel
theorem d_Mo_mends_48 : decode zb_Mo_mends 48 = .ok (.iload_n 3, 1) := by decide +kernel
theorem d_Mo_mends_49 : decode zb_Mo_mends 49 = .ok (.iadd, 1) := by decide +kernel
theorem d_Mo_mends_50 : decode zb_Mo_mends 50 = .ok (.iastore, 1) := by decide +kernel
theorem d_Mo_mends_51 : decode zb_Mo_mends 51 = .ok (.aload_n 0, 1) := by decide +kernel
theorem d_Mo_mends_52 : decode zb_Mo_mends 52 = .ok (.dup, 1) := by decide +kernel
theorem d_Mo_mends_53 : decode zb_Mo_mends 53 = .ok (.getfield 123, 3) := by decide +kernel
theorem d_Mo_mends_56 : decode zb_Mo_mends 56 = .ok (.iload_n 3, 1) := by decide +kernel
theorem d_Mo_mends_57 : decode zb_Mo_mends 57 = .ok (.iadd, 1) := by decide +kernel
theorem d_Mo_mends_58 : decode zb_Mo_mends 58 = .ok (.putfield 123, 3) := by decide +kernel
theorem d_Mo_mends_61 : decode zb_Mo_mends 61 = .ok (.aload_n 0, 1) := by decide +kernel
theorem d_Mo_mends_62 : decode zb_Mo_mends 62 = .ok (.iconst 2, 1) := by decide +kernel
theorem d_Mo_mends_63 : decode zb_Mo_mends 63 = .ok (.iload_n 1, 1) := by decide +kernel
theorem d_Mo_mends_64 : decode zb_Mo_mends 64 = .ok (.iload_n 3, 1) := by decide +kernel
theorem d_Mo_mends_65 : decode zb_Mo_mends 65 = .ok (.invokevirtual 102, 3) := by decide +kernel
theorem d_Mo_mends_68 : decode zb_Mo_mends 68 = .ok (.iload_n 3, 1) := by decide +kernel
theorem d_Mo_mends_69 : decode zb_Mo_mends 69 = .ok (.ireturn, 1) := by decide +kernel
def k_Mo_mends_34 (l1 : Int32) (l2 : Int32) (s0 : Int32) (x : zsM) : Option (Int32 × zsM) := (if s0 = 0 then some ((0 : Int32), x) else (if zOut l1 8 then none else (if zOut l1 8 then none else (k_Mo_notes (((upd x.1 18 (((x.1 18) + s0))), (va_up x.2 4 (upd ((x.2 4)) l1.toNatClampNeg (((((x.2 4)) l1.toNatClampNeg) + s0)))))) ((2 : Int32)) l1 s0).bind fun o3 => some (s0, o3))))
set_option maxRecDepth 20000 in
theorem w_Mo_mends_34 {X : zX} {c : zY} {q : Nat → Nat} {l1 : Int32} {l2 : Int32} {out : Int32 × zsM} (hX : Ok X zr_Mo zb_Mo_mends 4 1 c) (hR : Rt X (some .int) (some (.int out.1)) (zwM c q out.2)) : ∀ (s0 : Int32) (x : zsM), k_Mo_mends_34 l1 l2 s0 x = some out → Go X (zwM c q x) [(0, .ref ((q 0))), (1, .int l1)] 34 [.int s0] := by
  intro s0 x h
  rw [k_Mo_mends_34] at h
  refine g_istore_n (pc := 34) (L' := [(3, .int s0), (0, .ref ((q 0))), (1, .int l1)]) hX d_Mo_mends_34 rfl rfl rfl ?_
  refine g_iload_n (pc := 35) hX d_Mo_mends_35 rfl 0 rfl ?_
  refine g_if_ne (pc := 36) (tgt := 41) hX d_Mo_mends_36 (by decide) h (fun c2 h => ?_) (fun c2 h => ?_)
  · refine g_aload_n (pc := 41) hX d_Mo_mends_41 rfl 1 rfl ?_
    refine gf_Mo_22 (pc := 42) (v := .ref ((q 5))) hX 0 rfl rfl d_Mo_mends_42 ?_
    refine g_iload_n (pc := 45) hX d_Mo_mends_45 rfl 2 rfl ?_
    refine g_dup2 (pc := 46) hX d_Mo_mends_46 rfl rfl ?_
    refine g_iald (pc := 47) (f := (x.2 4)) hX 5 rfl h d_Mo_mends_47 (fun h => ?_)
    refine g_iload_n (pc := 48) hX d_Mo_mends_48 rfl 0 rfl ?_
    refine g_iadd (pc := 49) hX d_Mo_mends_49 ?_
    refine g_iast (pc := 50) (f := (x.2 4)) (w' := (zwM c q ((x.1, (va_up x.2 4 (upd ((x.2 4)) l1.toNatClampNeg (((((x.2 4)) l1.toNatClampNeg) + s0)))))))) hX 5 rfl h (sa_Mo_5 c q x (upd ((x.2 4)) l1.toNatClampNeg (((((x.2 4)) l1.toNatClampNeg) + s0)))) d_Mo_mends_50 (fun h => ?_)
    refine g_aload_n (pc := 51) hX d_Mo_mends_51 rfl 1 rfl ?_
    refine g_dup (pc := 52) hX d_Mo_mends_52 rfl ?_
    refine gf_Mo_123 (pc := 53) (v := .int ((x.1 18))) hX 0 rfl rfl d_Mo_mends_53 ?_
    refine g_iload_n (pc := 56) hX d_Mo_mends_56 rfl 0 rfl ?_
    refine g_iadd (pc := 57) hX d_Mo_mends_57 ?_
    refine pf_Mo_123 (pc := 58) (w2 := (zwM c q (((upd x.1 18 (((x.1 18) + s0))), (va_up x.2 4 (upd ((x.2 4)) l1.toNatClampNeg (((((x.2 4)) l1.toNatClampNeg) + s0)))))))) hX 0 rfl rfl (su_Mo_0_18 c q ((x.1, (va_up x.2 4 (upd ((x.2 4)) l1.toNatClampNeg (((((x.2 4)) l1.toNatClampNeg) + s0)))))) (((x.1 18) + s0))) d_Mo_mends_58 ?_
    refine g_aload_n (pc := 61) hX d_Mo_mends_61 rfl 1 rfl ?_
    refine g_iconst (pc := 62) hX d_Mo_mends_62 zc_2 ?_
    refine g_iload_n (pc := 63) hX d_Mo_mends_63 rfl 2 rfl ?_
    refine g_iload_n (pc := 64) hX d_Mo_mends_64 rfl 0 rfl ?_
    obtain ⟨o3, e3, h⟩ := zbind h
    refine g_cvV (pc := 65) (w1 := []) (w2 := []) (st := []) (w' := (zwM c q o3)) hX zk_Mo_notes zs_Mo_notes zL_Mo_102 (c_Mo_notes c q (((upd x.1 18 (((x.1 18) + s0))), (va_up x.2 4 (upd ((x.2 4)) l1.toNatClampNeg (((((x.2 4)) l1.toNatClampNeg) + s0)))))) ((2 : Int32)) l1 s0 e3) rfl rfl rfl rfl (zself _) (zself _).symm 0 10 rfl rfl rfl d_Mo_mends_65 ?_
    refine g_iload_n (pc := 68) hX d_Mo_mends_68 rfl 0 rfl ?_
    obtain rfl := Option.some.inj h
    exact g_iret (pc := 69) hX hR d_Mo_mends_69
  · refine g_iconst (pc := 39) hX d_Mo_mends_39 zc_0 ?_
    obtain rfl := Option.some.inj h
    exact g_iret (pc := 40) hX hR d_Mo_mends_40
def k_Mo_mends (x : zsM) (l1 : Int32) (l2 : Int32) : Option (Int32 × zsM) := (if zOut l1 8 then none else (if zOut l1 8 then none else (if l2 < ((((x.2 3)) l1.toNatClampNeg) - (((x.2 4)) l1.toNatClampNeg)) then k_Mo_mends_34 l1 l2 l2 x else (if zOut l1 8 then none else (if zOut l1 8 then none else k_Mo_mends_34 l1 l2 (((((x.2 3)) l1.toNatClampNeg) - (((x.2 4)) l1.toNatClampNeg))) x)))))
set_option maxRecDepth 20000 in
theorem c_Mo_mends (c : zY) (q : Nat → Nat) (x : zsM) (l1 : Int32) (l2 : Int32) {out : Int32 × zsM} (h : k_Mo_mends x l1 l2 = some out) : KM zy_Mo_mends zb_Mo_mends 4 (some .int) 1 c [.ref ((q 0)), .int l1, .int l2] (zwM c q x) (zwM c q out.2) (some (.int out.1)) := zK_of zp_Mo rfl (Nat.le_of_ble_eq_true rfl) (zq_Mo c q _ _) (fun X hX hR => by
  show Go X (zwM c q x) [(0, .ref ((q 0))), (1, .int l1), (2, .int l2)] 0 []
  rw [k_Mo_mends] at h
  refine g_iload_n (pc := 0) hX d_Mo_mends_0 rfl 2 rfl ?_
  refine g_aload_n (pc := 1) hX d_Mo_mends_1 rfl 0 rfl ?_
  refine gf_Mo_19 (pc := 2) (v := .ref ((q 4))) hX 0 rfl rfl d_Mo_mends_2 ?_
  refine g_iload_n (pc := 5) hX d_Mo_mends_5 rfl 1 rfl ?_
  refine g_iald (pc := 6) (f := (x.2 3)) hX 4 rfl h d_Mo_mends_6 (fun h => ?_)
  refine g_aload_n (pc := 7) hX d_Mo_mends_7 rfl 0 rfl ?_
  refine gf_Mo_22 (pc := 8) (v := .ref ((q 5))) hX 0 rfl rfl d_Mo_mends_8 ?_
  refine g_iload_n (pc := 11) hX d_Mo_mends_11 rfl 1 rfl ?_
  refine g_iald (pc := 12) (f := (x.2 4)) hX 5 rfl h d_Mo_mends_12 (fun h => ?_)
  refine g_isub (pc := 13) hX d_Mo_mends_13 ?_
  refine g_icmp_ge (pc := 14) (tgt := 21) hX d_Mo_mends_14 (by decide) h (fun c1 h => ?_) (fun c1 h => ?_)
  · refine g_aload_n (pc := 21) hX d_Mo_mends_21 rfl 0 rfl ?_
    refine gf_Mo_19 (pc := 22) (v := .ref ((q 4))) hX 0 rfl rfl d_Mo_mends_22 ?_
    refine g_iload_n (pc := 25) hX d_Mo_mends_25 rfl 1 rfl ?_
    refine g_iald (pc := 26) (f := (x.2 3)) hX 4 rfl h d_Mo_mends_26 (fun h => ?_)
    refine g_aload_n (pc := 27) hX d_Mo_mends_27 rfl 0 rfl ?_
    refine gf_Mo_22 (pc := 28) (v := .ref ((q 5))) hX 0 rfl rfl d_Mo_mends_28 ?_
    refine g_iload_n (pc := 31) hX d_Mo_mends_31 rfl 1 rfl ?_
    refine g_iald (pc := 32) (f := (x.2 4)) hX 5 rfl h d_Mo_mends_32 (fun h => ?_)
    refine g_isub (pc := 33) hX d_Mo_mends_33 ?_
    refine g_ls (L' := [(0, .ref ((q 0))), (1, .int l1)]) [0, 1] rfl ?_
    exact w_Mo_mends_34 hX hR _ _ h
  · refine g_iload_n (pc := 17) hX d_Mo_mends_17 rfl 2 rfl ?_
    refine g_goto (pc := 18) (tgt := 34) hX d_Mo_mends_18 (by decide) ?_
    refine g_ls (L' := [(0, .ref ((q 0))), (1, .int l1)]) [0, 1] rfl ?_
    exact w_Mo_mends_34 hX hR _ _ h)
theorem d_Mo_current_0 : decode zb_Mo_current 0 = .ok (.aload_n 0, 1) := by decide +kernel
theorem d_Mo_current_1 : decode zb_Mo_current 1 = .ok (.getfield 40, 3) := by decide +kernel
theorem d_Mo_current_4 : decode zb_Mo_current 4 = .ok (.aload_n 0, 1) := by decide +kernel
theorem d_Mo_current_5 : decode zb_Mo_current 5 = .ok (.getfield 126, 3) := by decide +kernel
theorem d_Mo_current_8 : decode zb_Mo_current 8 = .ok (.iaload, 1) := by decide +kernel
theorem d_Mo_current_9 : decode zb_Mo_current 9 = .ok (.ireturn, 1) := by decide +kernel
def k_Mo_current (x : zsM) : Option (Int32) := (if zOut ((x.1 20)) 8 then none else some ((((x.2 10)) ((x.1 20)).toNatClampNeg)))
set_option maxRecDepth 20000 in
theorem c_Mo_current (c : zY) (q : Nat → Nat) (x : zsM) {out : Int32} (h : k_Mo_current x = some out) : KM zy_Mo_current zb_Mo_current 1 (some .int) 0 c [.ref ((q 0))] (zwM c q x) (zwM c q x) (some (.int out)) := zK_of zp_Mo rfl (Nat.le_of_ble_eq_true rfl) (zq_Mo c q _ _) (fun X hX hR => by
  show Go X (zwM c q x) [(0, .ref ((q 0)))] 0 []
  rw [k_Mo_current] at h
  refine g_aload_n (pc := 0) hX d_Mo_current_0 rfl 0 rfl ?_
  refine gf_Mo_40 (pc := 1) (v := .ref ((q 11))) hX 0 rfl rfl d_Mo_current_1 ?_
  refine g_aload_n (pc := 4) hX d_Mo_current_4 rfl 0 rfl ?_
  refine gf_Mo_126 (pc := 5) (v := .int ((x.1 20))) hX 0 rfl rfl d_Mo_current_5 ?_
  refine g_iald (pc := 8) (f := (x.2 10)) hX 11 rfl h d_Mo_current_8 (fun h => ?_)
  obtain rfl := Option.some.inj h
  exact g_iret (pc := 9) hX hR d_Mo_current_9)
theorem d_Mo_draws_0 : decode zb_Mo_draws 0 = .ok (.aload_n 0, 1) := by decide +kernel
theorem d_Mo_draws_1 : decode zb_Mo_draws 1 = .ok (.aload_n 0, 1) := by decide +kernel
theorem d_Mo_draws_2 : decode zb_Mo_draws 2 = .ok (.getfield 129, 3) := by decide +kernel
theorem d_Mo_draws_5 : decode zb_Mo_draws 5 = .ok (.ldc 132, 2) := by decide +kernel
theorem d_Mo_draws_7 : decode zb_Mo_draws 7 = .ok (.imul, 1) := by decide +kernel
theorem d_Mo_draws_8 : decode zb_Mo_draws 8 = .ok (.sipush 12345, 3) := by decide +kernel
theorem d_Mo_draws_11 : decode zb_Mo_draws 11 = .ok (.iadd, 1) := by decide +kernel
theorem d_Mo_draws_12 : decode zb_Mo_draws 12 = .ok (.putfield 129, 3) := by decide +kernel
theorem d_Mo_draws_15 : decode zb_Mo_draws 15 = .ok (.iconst 1, 1) := by decide +kernel
theorem d_Mo_draws_16 : decode zb_Mo_draws 16 = .ok (.aload_n 0, 1) := by decide +kernel
theorem d_Mo_draws_17 : decode zb_Mo_draws 17 = .ok (.getfield 129, 3) := by decide +kernel
theorem d_Mo_draws_20 : decode zb_Mo_draws 20 = .ok (.bipush 16, 2) := by decide +kernel
theorem d_Mo_draws_22 : decode zb_Mo_draws 22 = .ok (.iushr, 1) := by decide +kernel
theorem d_Mo_draws_23 : decode zb_Mo_draws 23 = .ok (.bipush 20, 2) := by decide +kernel
theorem d_Mo_draws_25 : decode zb_Mo_draws 25 = .ok (.irem, 1) := by decide +kernel
theorem d_Mo_draws_26 : decode zb_Mo_draws 26 = .ok (.iadd, 1) := by decide +kernel
theorem d_Mo_draws_27 : decode zb_Mo_draws 27 = .ok (.ireturn, 1) := by decide +kernel
def k_Mo_draws (x : zsM) : Option (Int32 × zsM) := some (((1 : Int32) + (zrem ((zush (((((x.1 25) * (1103515245 : Int32)) + (12345 : Int32)))) ((16 : Int32)))) (20 : Int32))), ((upd x.1 25 ((((x.1 25) * (1103515245 : Int32)) + (12345 : Int32)))), x.2))
set_option maxRecDepth 20000 in
theorem c_Mo_draws (c : zY) (q : Nat → Nat) (x : zsM) {out : Int32 × zsM} (h : k_Mo_draws x = some out) : KM zy_Mo_draws zb_Mo_draws 1 (some .int) 0 c [.ref ((q 0))] (zwM c q x) (zwM c q out.2) (some (.int out.1)) := zK_of zp_Mo rfl (Nat.le_of_ble_eq_true rfl) (zq_Mo c q _ _) (fun X hX hR => by
  show Go X (zwM c q x) [(0, .ref ((q 0)))] 0 []
  rw [k_Mo_draws] at h
  refine g_aload_n (pc := 0) hX d_Mo_draws_0 rfl 0 rfl ?_
  refine g_aload_n (pc := 1) hX d_Mo_draws_1 rfl 0 rfl ?_
  refine gf_Mo_129 (pc := 2) (v := .int ((x.1 25))) hX 0 rfl rfl d_Mo_draws_2 ?_
  refine g_ldc (pc := 5) hX d_Mo_draws_5 zC_Mo_132 ?_
  refine g_imul (pc := 7) hX d_Mo_draws_7 ?_
  refine g_sipush (pc := 8) hX d_Mo_draws_8 zh_12345 ?_
  refine g_iadd (pc := 11) hX d_Mo_draws_11 ?_
  refine pf_Mo_129 (pc := 12) (w2 := (zwM c q (((upd x.1 25 ((((x.1 25) * (1103515245 : Int32)) + (12345 : Int32)))), x.2)))) hX 0 rfl rfl (su_Mo_0_25 c q x ((((x.1 25) * (1103515245 : Int32)) + (12345 : Int32)))) d_Mo_draws_12 ?_
  refine g_iconst (pc := 15) hX d_Mo_draws_15 zc_1 ?_
  refine g_aload_n (pc := 16) hX d_Mo_draws_16 rfl 0 rfl ?_
  refine gf_Mo_129 (pc := 17) (v := .int (((((x.1 25) * (1103515245 : Int32)) + (12345 : Int32))))) hX 0 rfl rfl d_Mo_draws_17 ?_
  refine g_bipush (pc := 20) hX d_Mo_draws_20 ze_16 ?_
  refine g_iushr (pc := 22) hX d_Mo_draws_22 ?_
  refine g_bipush (pc := 23) hX d_Mo_draws_23 ze_20 ?_
  refine g_irem (pc := 25) hX d_Mo_draws_25 (by decide) ?_
  refine g_iadd (pc := 26) hX d_Mo_draws_26 ?_
  obtain rfl := Option.some.inj h
  exact g_iret (pc := 27) hX hR d_Mo_draws_27)
theorem d_Mo_placeOf_0 : decode zb_Mo_placeOf 0 = .ok (.iconst 0, 1) := by decide +kernel
theorem d_Mo_placeOf_1 : decode zb_Mo_placeOf 1 = .ok (.istore_n 2, 1) := by decide +kernel
theorem d_Mo_placeOf_2 : decode zb_Mo_placeOf 2 = .ok (.iload_n 2, 1) := by decide +kernel
theorem d_Mo_placeOf_3 : decode zb_Mo_placeOf 3 = .ok (.aload_n 0, 1) := by decide +kernel
theorem d_Mo_placeOf_4 : decode zb_Mo_placeOf 4 = .ok (.getfield 133, 3) := by decide +kernel
theorem d_Mo_placeOf_7 : decode zb_Mo_placeOf 7 = .ok (.if_icmp .ge 21, 3) := by decide +kernel
theorem d_Mo_placeOf_10 : decode zb_Mo_placeOf 10 = .ok (.aload_n 0, 1) := by decide +kernel
theorem d_Mo_placeOf_11 : decode zb_Mo_placeOf 11 = .ok (.getfield 40, 3) := by decide +kernel
theorem d_Mo_placeOf_14 : decode zb_Mo_placeOf 14 = .ok (.iload_n 2, 1) := by decide +kernel
theorem d_Mo_placeOf_15 : decode zb_Mo_placeOf 15 = .ok (.iaload, 1) := by decide +kernel
theorem d_Mo_placeOf_16 : decode zb_Mo_placeOf 16 = .ok (.iload_n 1, 1) := by decide +kernel
theorem d_Mo_placeOf_17 : decode zb_Mo_placeOf 17 = .ok (.if_icmp .ne 5, 3) := by decide +kernel
theorem d_Mo_placeOf_20 : decode zb_Mo_placeOf 20 = .ok (.iload_n 2, 1) := by decide +kernel
theorem d_Mo_placeOf_21 : decode zb_Mo_placeOf 21 = .ok (.ireturn, 1) := by decide +kernel
theorem d_Mo_placeOf_22 : decode zb_Mo_placeOf 22 = .ok (.iinc 2 1, 3) := by decide +kernel
theorem d_Mo_placeOf_25 : decode zb_Mo_placeOf 25 = .ok (.goto (-23), 3) := by decide +kernel
theorem d_Mo_placeOf_28 : decode zb_Mo_placeOf 28 = .ok (.bipush (-5), 2) := by decide +kernel
theorem d_Mo_placeOf_30 : decode zb_Mo_placeOf 30 = .ok (.ireturn, 1) := by decide +kernel
def k_Mo_placeOf_2 (x : zsM) (l1 : Int32) : Nat → Int32 → Option (Int32)
  | 0, _ => none
  | fu + 1, l2 => (if l2 < (x.1 21) then (if zOut l2 8 then none else (if (((x.2 10)) l2.toNatClampNeg) = l1 then some l2 else k_Mo_placeOf_2 x l1 fu ((l2 + (1 : Int32))))) else some ((-5 : Int32)))
set_option maxRecDepth 20000 in
theorem w_Mo_placeOf_2 {X : zX} {c : zY} {q : Nat → Nat} {x : zsM} {l1 : Int32} {out : Int32} (hX : Ok X zr_Mo zb_Mo_placeOf 3 0 c) (hR : Rt X (some .int) (some (.int out)) (zwM c q x)) : ∀ (fu : Nat) (l2 : Int32), k_Mo_placeOf_2 x l1 fu l2 = some out → Go X (zwM c q x) [(0, .ref ((q 0))), (1, .int l1), (2, .int l2)] 2 [] := by
  intro fu
  induction fu with
  | zero => intro l2 h; rw [k_Mo_placeOf_2] at h; cases h
  | succ fu ih =>
    intro l2 h
    rw [k_Mo_placeOf_2] at h
    refine g_iload_n (pc := 2) hX d_Mo_placeOf_2 rfl 2 rfl ?_
    refine g_aload_n (pc := 3) hX d_Mo_placeOf_3 rfl 0 rfl ?_
    refine gf_Mo_133 (pc := 4) (v := .int ((x.1 21))) hX 0 rfl rfl d_Mo_placeOf_4 ?_
    refine g_icmp_ge (pc := 7) (tgt := 28) hX d_Mo_placeOf_7 (by decide) h (fun c1 h => ?_) (fun c1 h => ?_)
    · refine g_bipush (pc := 28) hX d_Mo_placeOf_28 ze_m5 ?_
      obtain rfl := Option.some.inj h
      exact g_iret (pc := 30) hX hR d_Mo_placeOf_30
    · refine g_aload_n (pc := 10) hX d_Mo_placeOf_10 rfl 0 rfl ?_
      refine gf_Mo_40 (pc := 11) (v := .ref ((q 11))) hX 0 rfl rfl d_Mo_placeOf_11 ?_
      refine g_iload_n (pc := 14) hX d_Mo_placeOf_14 rfl 2 rfl ?_
      refine g_iald (pc := 15) (f := (x.2 10)) hX 11 rfl h d_Mo_placeOf_15 (fun h => ?_)
      refine g_iload_n (pc := 16) hX d_Mo_placeOf_16 rfl 1 rfl ?_
      refine g_icmp_ne (pc := 17) (tgt := 22) hX d_Mo_placeOf_17 (by decide) h (fun c2 h => ?_) (fun c2 h => ?_)
      · refine g_iinc (pc := 22) (q := 2) (L' := [(2, .int ((l2 + (1 : Int32)))), (0, .ref ((q 0))), (1, .int l1)]) hX d_Mo_placeOf_22 rfl zc_1 rfl rfl ?_
        refine g_goto (pc := 25) (tgt := 2) hX d_Mo_placeOf_25 (by decide) ?_
        refine g_ls (L' := [(0, .ref ((q 0))), (1, .int l1), (2, .int ((l2 + (1 : Int32))))]) [1, 2, 0] rfl ?_
        exact ih _ h
      · refine g_iload_n (pc := 20) hX d_Mo_placeOf_20 rfl 2 rfl ?_
        obtain rfl := Option.some.inj h
        exact g_iret (pc := 21) hX hR d_Mo_placeOf_21
def k_Mo_placeOf (x : zsM) (l1 : Int32) : Option (Int32) := k_Mo_placeOf_2 x l1 zFu ((0 : Int32))
set_option maxRecDepth 20000 in
theorem c_Mo_placeOf (c : zY) (q : Nat → Nat) (x : zsM) (l1 : Int32) {out : Int32} (h : k_Mo_placeOf x l1 = some out) : KM zy_Mo_placeOf zb_Mo_placeOf 3 (some .int) 0 c [.ref ((q 0)), .int l1] (zwM c q x) (zwM c q x) (some (.int out)) := zK_of zp_Mo rfl (Nat.le_of_ble_eq_true rfl) (zq_Mo c q _ _) (fun X hX hR => by
  show Go X (zwM c q x) [(0, .ref ((q 0))), (1, .int l1)] 0 []
  rw [k_Mo_placeOf] at h
  refine g_iconst (pc := 0) hX d_Mo_placeOf_0 zc_0 ?_
  refine g_istore_n (pc := 1) (L' := [(2, .int ((0 : Int32))), (0, .ref ((q 0))), (1, .int l1)]) hX d_Mo_placeOf_1 rfl rfl rfl ?_
  refine g_ls (L' := [(0, .ref ((q 0))), (1, .int l1), (2, .int ((0 : Int32)))]) [1, 2, 0] rfl ?_
  exact w_Mo_placeOf_2 hX hR _ _ h)
theorem d_Mo_poisonBy_0 : decode zb_Mo_poisonBy 0 = .ok (.iconst 0, 1) := by decide +kernel
theorem d_Mo_poisonBy_1 : decode zb_Mo_poisonBy 1 = .ok (.istore_n 3, 1) := by decide +kernel
theorem d_Mo_poisonBy_2 : decode zb_Mo_poisonBy 2 = .ok (.iload_n 3, 1) := by decide +kernel
theorem d_Mo_poisonBy_3 : decode zb_Mo_poisonBy 3 = .ok (.aload_n 0, 1) := by decide +kernel
theorem d_Mo_poisonBy_4 : decode zb_Mo_poisonBy 4 = .ok (.getfield 95, 3) := by decide +kernel
theorem d_Mo_poisonBy_7 : decode zb_Mo_poisonBy 7 = .ok (.if_icmp .ge 45, 3) := by decide +kernel
theorem d_Mo_poisonBy_10 : decode zb_Mo_poisonBy 10 = .ok (.aload_n 0, 1) := by decide +kernel
theorem d_Mo_poisonBy_11 : decode zb_Mo_poisonBy 11 = .ok (.iload_n 3, 1) := by decide +kernel
theorem d_Mo_poisonBy_12 : decode zb_Mo_poisonBy 12 = .ok (.iconst 0, 1) := by decide +kernel
theorem d_Mo_poisonBy_13 : decode zb_Mo_poisonBy 13 = .ok (.invokevirtual 98, 3) := by decide +kernel
theorem d_Mo_poisonBy_16 : decode zb_Mo_poisonBy 16 = .ok (.ifCond .ne 30, 3) := by decide +kernel
theorem d_Mo_poisonBy_19 : decode zb_Mo_poisonBy 19 = .ok (.aload_n 0, 1) := by decide +kernel
theorem d_Mo_poisonBy_20 : decode zb_Mo_poisonBy 20 = .ok (.iload_n 3, 1) := by decide +kernel
theorem d_Mo_poisonBy_21 : decode zb_Mo_poisonBy 21 = .ok (.iconst 1, 1) := by decide +kernel
theorem d_Mo_poisonBy_22 : decode zb_Mo_poisonBy 22 = .ok (.invokevirtual 98, 3) := by decide +kernel
theorem d_Mo_poisonBy_25 : decode zb_Mo_poisonBy 25 = .ok (.iload_n 1, 1) := by decide +kernel
theorem d_Mo_poisonBy_26 : decode zb_Mo_poisonBy 26 = .ok (.if_icmp .ne 20, 3) := by decide +kernel
theorem d_Mo_poisonBy_29 : decode zb_Mo_poisonBy 29 = .ok (.aload_n 0, 1) := by decide +kernel
theorem d_Mo_poisonBy_30 : decode zb_Mo_poisonBy 30 = .ok (.iload_n 3, 1) := by decide +kernel
theorem d_Mo_poisonBy_31 : decode zb_Mo_poisonBy 31 = .ok (.iconst 2, 1) := by decide +kernel
theorem d_Mo_poisonBy_32 : decode zb_Mo_poisonBy 32 = .ok (.invokevirtual 98, 3) := by decide +kernel
theorem d_Mo_poisonBy_35 : decode zb_Mo_poisonBy 35 = .ok (.iload_n 2, 1) := by decide +kernel
theorem d_Mo_poisonBy_36 : decode zb_Mo_poisonBy 36 = .ok (.if_icmp .ne 10, 3) := by decide +kernel
theorem d_Mo_poisonBy_39 : decode zb_Mo_poisonBy 39 = .ok (.aload_n 0, 1) := by decide +kernel
theorem d_Mo_poisonBy_40 : decode zb_Mo_poisonBy 40 = .ok (.iload_n 3, 1) := by decide +kernel
theorem d_Mo_poisonBy_41 : decode zb_Mo_poisonBy 41 = .ok (.iconst 3, 1) := by decide +kernel
theorem d_Mo_poisonBy_42 : decode zb_Mo_poisonBy 42 = .ok (.invokevirtual 98, 3) := by decide +kernel
theorem d_Mo_poisonBy_45 : decode zb_Mo_poisonBy 45 = .ok (.ireturn, 1) := by decide +kernel
theorem d_Mo_poisonBy_46 : decode zb_Mo_poisonBy 46 = .ok (.iinc 3 1, 3) := by decide +kernel
theorem d_Mo_poisonBy_49 : decode zb_Mo_poisonBy 49 = .ok (.goto (-47), 3) := by decide +kernel
theorem d_Mo_poisonBy_52 : decode zb_Mo_poisonBy 52 = .ok (.iconst 0, 1) := by decide +kernel
theorem d_Mo_poisonBy_53 : decode zb_Mo_poisonBy 53 = .ok (.ireturn, 1) := by decide +kernel
def k_Mo_poisonBy_2 (x : zsM) (l1 : Int32) (l2 : Int32) : Nat → Int32 → Option (Int32)
  | 0, _ => none
  | fu + 1, l3 => (if l3 < (x.1 16) then (k_Mo_partOf x l3 ((0 : Int32))).bind fun o2 => (if o2 = 0 then (k_Mo_partOf x l3 ((1 : Int32))).bind fun o4 => (if o4 = l1 then (k_Mo_partOf x l3 ((2 : Int32))).bind fun o6 => (if o6 = l2 then (k_Mo_partOf x l3 ((3 : Int32))).bind fun o8 => some o8 else k_Mo_poisonBy_2 x l1 l2 fu ((l3 + (1 : Int32)))) else k_Mo_poisonBy_2 x l1 l2 fu ((l3 + (1 : Int32)))) else k_Mo_poisonBy_2 x l1 l2 fu ((l3 + (1 : Int32)))) else some ((0 : Int32)))
set_option maxRecDepth 20000 in
theorem w_Mo_poisonBy_2 {X : zX} {c : zY} {q : Nat → Nat} {x : zsM} {l1 : Int32} {l2 : Int32} {out : Int32} (hX : Ok X zr_Mo zb_Mo_poisonBy 4 1 c) (hR : Rt X (some .int) (some (.int out)) (zwM c q x)) : ∀ (fu : Nat) (l3 : Int32), k_Mo_poisonBy_2 x l1 l2 fu l3 = some out → Go X (zwM c q x) [(0, .ref ((q 0))), (1, .int l1), (2, .int l2), (3, .int l3)] 2 [] := by
  intro fu
  induction fu with
  | zero => intro l3 h; rw [k_Mo_poisonBy_2] at h; cases h
  | succ fu ih =>
    intro l3 h
    rw [k_Mo_poisonBy_2] at h
    refine g_iload_n (pc := 2) hX d_Mo_poisonBy_2 rfl 3 rfl ?_
    refine g_aload_n (pc := 3) hX d_Mo_poisonBy_3 rfl 0 rfl ?_
    refine gf_Mo_95 (pc := 4) (v := .int ((x.1 16))) hX 0 rfl rfl d_Mo_poisonBy_4 ?_
    refine g_icmp_ge (pc := 7) (tgt := 52) hX d_Mo_poisonBy_7 (by decide) h (fun c1 h => ?_) (fun c1 h => ?_)
    · refine g_iconst (pc := 52) hX d_Mo_poisonBy_52 zc_0 ?_
      obtain rfl := Option.some.inj h
      exact g_iret (pc := 53) hX hR d_Mo_poisonBy_53
    · refine g_aload_n (pc := 10) hX d_Mo_poisonBy_10 rfl 0 rfl ?_
      refine g_iload_n (pc := 11) hX d_Mo_poisonBy_11 rfl 3 rfl ?_
      refine g_iconst (pc := 12) hX d_Mo_poisonBy_12 zc_0 ?_
      obtain ⟨o2, e2, h⟩ := zbind h
      refine g_cvI (pc := 13) (w1 := []) (w2 := []) (st := []) (w' := (zwM c q x)) hX zk_Mo_partOf zs_Mo_partOf zL_Mo_98 (c_Mo_partOf c q x l3 ((0 : Int32)) e2) rfl rfl rfl rfl (zself _) (zself _).symm 0 10 rfl rfl rfl d_Mo_poisonBy_13 ?_
      refine g_if_ne (pc := 16) (tgt := 46) hX d_Mo_poisonBy_16 (by decide) h (fun c3 h => ?_) (fun c3 h => ?_)
      · refine g_iinc (pc := 46) (q := 3) (L' := [(3, .int ((l3 + (1 : Int32)))), (0, .ref ((q 0))), (1, .int l1), (2, .int l2)]) hX d_Mo_poisonBy_46 rfl zc_1 rfl rfl ?_
        refine g_goto (pc := 49) (tgt := 2) hX d_Mo_poisonBy_49 (by decide) ?_
        refine g_ls (L' := [(0, .ref ((q 0))), (1, .int l1), (2, .int l2), (3, .int ((l3 + (1 : Int32))))]) [1, 2, 3, 0] rfl ?_
        exact ih _ h
      · refine g_aload_n (pc := 19) hX d_Mo_poisonBy_19 rfl 0 rfl ?_
        refine g_iload_n (pc := 20) hX d_Mo_poisonBy_20 rfl 3 rfl ?_
        refine g_iconst (pc := 21) hX d_Mo_poisonBy_21 zc_1 ?_
        obtain ⟨o4, e4, h⟩ := zbind h
        refine g_cvI (pc := 22) (w1 := []) (w2 := []) (st := []) (w' := (zwM c q x)) hX zk_Mo_partOf zs_Mo_partOf zL_Mo_98 (c_Mo_partOf c q x l3 ((1 : Int32)) e4) rfl rfl rfl rfl (zself _) (zself _).symm 0 10 rfl rfl rfl d_Mo_poisonBy_22 ?_
        refine g_iload_n (pc := 25) hX d_Mo_poisonBy_25 rfl 1 rfl ?_
        refine g_icmp_ne (pc := 26) (tgt := 46) hX d_Mo_poisonBy_26 (by decide) h (fun c5 h => ?_) (fun c5 h => ?_)
        · refine g_iinc (pc := 46) (q := 3) (L' := [(3, .int ((l3 + (1 : Int32)))), (0, .ref ((q 0))), (1, .int l1), (2, .int l2)]) hX d_Mo_poisonBy_46 rfl zc_1 rfl rfl ?_
          refine g_goto (pc := 49) (tgt := 2) hX d_Mo_poisonBy_49 (by decide) ?_
          refine g_ls (L' := [(0, .ref ((q 0))), (1, .int l1), (2, .int l2), (3, .int ((l3 + (1 : Int32))))]) [1, 2, 3, 0] rfl ?_
          exact ih _ h
        · refine g_aload_n (pc := 29) hX d_Mo_poisonBy_29 rfl 0 rfl ?_
          refine g_iload_n (pc := 30) hX d_Mo_poisonBy_30 rfl 3 rfl ?_
          refine g_iconst (pc := 31) hX d_Mo_poisonBy_31 zc_2 ?_
          obtain ⟨o6, e6, h⟩ := zbind h
          refine g_cvI (pc := 32) (w1 := []) (w2 := []) (st := []) (w' := (zwM c q x)) hX zk_Mo_partOf zs_Mo_partOf zL_Mo_98 (c_Mo_partOf c q x l3 ((2 : Int32)) e6) rfl rfl rfl rfl (zself _) (zself _).symm 0 10 rfl rfl rfl d_Mo_poisonBy_32 ?_
          refine g_iload_n (pc := 35) hX d_Mo_poisonBy_35 rfl 2 rfl ?_
          refine g_icmp_ne (pc := 36) (tgt := 46) hX d_Mo_poisonBy_36 (by decide) h (fun c7 h => ?_) (fun c7 h => ?_)
          · refine g_iinc (pc := 46) (q := 3) (L' := [(3, .int ((l3 + (1 : Int32)))), (0, .ref ((q 0))), (1, .int l1), (2, .int l2)]) hX d_Mo_poisonBy_46 rfl zc_1 rfl rfl ?_
            refine g_goto (pc := 49) (tgt := 2) hX d_Mo_poisonBy_49 (by decide) ?_
            refine g_ls (L' := [(0, .ref ((q 0))), (1, .int l1), (2, .int l2), (3, .int ((l3 + (1 : Int32))))]) [1, 2, 3, 0] rfl ?_
            exact ih _ h
          · refine g_aload_n (pc := 39) hX d_Mo_poisonBy_39 rfl 0 rfl ?_
            refine g_iload_n (pc := 40) hX d_Mo_poisonBy_40 rfl 3 rfl ?_
            refine g_iconst (pc := 41) hX d_Mo_poisonBy_41 zc_3 ?_
            obtain ⟨o8, e8, h⟩ := zbind h
            refine g_cvI (pc := 42) (w1 := []) (w2 := []) (st := []) (w' := (zwM c q x)) hX zk_Mo_partOf zs_Mo_partOf zL_Mo_98 (c_Mo_partOf c q x l3 ((3 : Int32)) e8) rfl rfl rfl rfl (zself _) (zself _).symm 0 10 rfl rfl rfl d_Mo_poisonBy_42 ?_
            obtain rfl := Option.some.inj h
            exact g_iret (pc := 45) hX hR d_Mo_poisonBy_45
def k_Mo_poisonBy (x : zsM) (l1 : Int32) (l2 : Int32) : Option (Int32) := k_Mo_poisonBy_2 x l1 l2 zFu ((0 : Int32))
set_option maxRecDepth 20000 in
theorem c_Mo_poisonBy (c : zY) (q : Nat → Nat) (x : zsM) (l1 : Int32) (l2 : Int32) {out : Int32} (h : k_Mo_poisonBy x l1 l2 = some out) : KM zy_Mo_poisonBy zb_Mo_poisonBy 4 (some .int) 1 c [.ref ((q 0)), .int l1, .int l2] (zwM c q x) (zwM c q x) (some (.int out)) := zK_of zp_Mo rfl (Nat.le_of_ble_eq_true rfl) (zq_Mo c q _ _) (fun X hX hR => by
  show Go X (zwM c q x) [(0, .ref ((q 0))), (1, .int l1), (2, .int l2)] 0 []
  rw [k_Mo_poisonBy] at h
  refine g_iconst (pc := 0) hX d_Mo_poisonBy_0 zc_0 ?_
  refine g_istore_n (pc := 1) (L' := [(3, .int ((0 : Int32))), (0, .ref ((q 0))), (1, .int l1), (2, .int l2)]) hX d_Mo_poisonBy_1 rfl rfl rfl ?_
  refine g_ls (L' := [(0, .ref ((q 0))), (1, .int l1), (2, .int l2), (3, .int ((0 : Int32)))]) [1, 2, 3, 0] rfl ?_
  exact w_Mo_poisonBy_2 hX hR _ _ h)
theorem d_Mo_beginsTurn_0 : decode zb_Mo_beginsTurn 0 = .ok (.aload_n 0, 1) := by decide +kernel
theorem d_Mo_beginsTurn_1 : decode zb_Mo_beginsTurn 1 = .ok (.invokevirtual 136, 3) := by decide +kernel
theorem d_Mo_beginsTurn_4 : decode zb_Mo_beginsTurn 4 = .ok (.istore_n 1, 1) := by decide +kernel
theorem d_Mo_beginsTurn_5 : decode zb_Mo_beginsTurn 5 = .ok (.aload_n 0, 1) := by decide +kernel
theorem d_Mo_beginsTurn_6 : decode zb_Mo_beginsTurn 6 = .ok (.iconst 0, 1) := by decide +kernel
theorem d_Mo_beginsTurn_7 : decode zb_Mo_beginsTurn 7 = .ok (.putfield 140, 3) := by decide +kernel
theorem d_Mo_beginsTurn_10 : decode zb_Mo_beginsTurn 10 = .ok (.aload_n 0, 1) := by decide +kernel
theorem d_Mo_beginsTurn_11 : decode zb_Mo_beginsTurn 11 = .ok (.iconst 0, 1) := by decide +kernel
theorem d_Mo_beginsTurn_12 : decode zb_Mo_beginsTurn 12 = .ok (.putfield 143, 3) := by decide +kernel
theorem d_Mo_beginsTurn_15 : decode zb_Mo_beginsTurn 15 = .ok (.aload_n 0, 1) := by decide +kernel
theorem d_Mo_beginsTurn_16 : decode zb_Mo_beginsTurn 16 = .ok (.dup, 1) := by decide +kernel
theorem d_Mo_beginsTurn_17 : decode zb_Mo_beginsTurn 17 = .ok (.getfield 146, 3) := by decide +kernel
theorem d_Mo_beginsTurn_20 : decode zb_Mo_beginsTurn 20 = .ok (.iconst 1, 1) := by decide +kernel
theorem d_Mo_beginsTurn_21 : decode zb_Mo_beginsTurn 21 = .ok (.iadd, 1) := by decide +kernel
theorem d_Mo_beginsTurn_22 : decode zb_Mo_beginsTurn 22 = .ok (.putfield 146, 3) := by decide +kernel
theorem d_Mo_beginsTurn_25 : decode zb_Mo_beginsTurn 25 = .ok (.aload_n 0, 1) := by decide +kernel
theorem d_Mo_beginsTurn_26 : decode zb_Mo_beginsTurn 26 = .ok (.bipush 8, 2) := by decide +kernel
theorem d_Mo_beginsTurn_28 : decode zb_Mo_beginsTurn 28 = .ok (.iload_n 1, 1) := by decide +kernel
theorem d_Mo_beginsTurn_29 : decode zb_Mo_beginsTurn 29 = .ok (.aload_n 0, 1) := by decide +kernel
theorem d_Mo_beginsTurn_30 : decode zb_Mo_beginsTurn 30 = .ok (.getfield 149, 3) := by decide +kernel
theorem d_Mo_beginsTurn_33 : decode zb_Mo_beginsTurn 33 = .ok (.invokevirtual 102, 3) := by decide +kernel
theorem d_Mo_beginsTurn_36 : decode zb_Mo_beginsTurn 36 = .ok (.aload_n 0, 1) := by decide +kernel
theorem d_Mo_beginsTurn_37 : decode zb_Mo_beginsTurn 37 = .ok (.iload_n 1, 1) := by decide +kernel
theorem d_Mo_beginsTurn_38 : decode zb_Mo_beginsTurn 38 = .ok (.iconst 1, 1) := by decide +kernel
theorem d_Mo_beginsTurn_39 : decode zb_Mo_beginsTurn 39 = .ok (.invokevirtual 152, 3) := by decide +kernel
theorem d_Mo_beginsTurn_42 : decode zb_Mo_beginsTurn 42 = .ok (.iconst 0, 1) := by decide +kernel
theorem d_Mo_beginsTurn_43 : decode zb_Mo_beginsTurn 43 = .ok (.istore_n 2, 1) := by decide +kernel
theorem d_Mo_beginsTurn_44 : decode zb_Mo_beginsTurn 44 = .ok (.iconst 0, 1) := by decide +kernel
theorem d_Mo_beginsTurn_45 : decode zb_Mo_beginsTurn 45 = .ok (.istore_n 3, 1) := by decide +kernel
theorem d_Mo_beginsTurn_46 : decode zb_Mo_beginsTurn 46 = .ok (.iload_n 3, 1) := by decide +kernel
theorem d_Mo_beginsTurn_47 : decode zb_Mo_beginsTurn 47 = .ok (.aload_n 0, 1) := by decide +kernel
theorem d_Mo_beginsTurn_48 : decode zb_Mo_beginsTurn 48 = .ok (.getfield 95, 3) := by decide +kernel
theorem d_Mo_beginsTurn_51 : decode zb_Mo_beginsTurn 51 = .ok (.if_icmp .ge 46, 3) := by decide +kernel
theorem d_Mo_beginsTurn_54 : decode zb_Mo_beginsTurn 54 = .ok (.aload_n 0, 1) := by decide +kernel
theorem d_Mo_beginsTurn_55 : decode zb_Mo_beginsTurn 55 = .ok (.iload_n 3, 1) := by decide +kernel
theorem d_Mo_beginsTurn_56 : decode zb_Mo_beginsTurn 56 = .ok (.iconst 0, 1) := by decide +kernel
theorem d_Mo_beginsTurn_57 : decode zb_Mo_beginsTurn 57 = .ok (.invokevirtual 98, 3) := by decide +kernel
theorem d_Mo_beginsTurn_60 : decode zb_Mo_beginsTurn 60 = .ok (.ifCond .ne 31, 3) := by decide +kernel
theorem d_Mo_beginsTurn_63 : decode zb_Mo_beginsTurn 63 = .ok (.aload_n 0, 1) := by decide +kernel
theorem d_Mo_beginsTurn_64 : decode zb_Mo_beginsTurn 64 = .ok (.iload_n 3, 1) := by decide +kernel
theorem d_Mo_beginsTurn_65 : decode zb_Mo_beginsTurn 65 = .ok (.iconst 1, 1) := by decide +kernel
theorem d_Mo_beginsTurn_66 : decode zb_Mo_beginsTurn 66 = .ok (.invokevirtual 98, 3) := by decide +kernel
theorem d_Mo_beginsTurn_69 : decode zb_Mo_beginsTurn 69 = .ok (.iload_n 1, 1) := by decide +kernel
theorem d_Mo_beginsTurn_70 : decode zb_Mo_beginsTurn 70 = .ok (.if_icmp .eq 6, 3) := by decide +kernel
theorem d_Mo_beginsTurn_73 : decode zb_Mo_beginsTurn 73 = .ok (.goto 18, 3) := by decide +kernel
theorem d_Mo_beginsTurn_76 : decode zb_Mo_beginsTurn 76 = .ok (.aload_n 0, 1) := by decide +kernel
theorem d_Mo_beginsTurn_77 : decode zb_Mo_beginsTurn 77 = .ok (.getfield 53, 3) := by decide +kernel
theorem d_Mo_beginsTurn_80 : decode zb_Mo_beginsTurn 80 = .ok (.iload_n 2, 1) := by decide +kernel
theorem d_Mo_beginsTurn_81 : decode zb_Mo_beginsTurn 81 = .ok (.aload_n 0, 1) := by decide +kernel
theorem d_Mo_beginsTurn_82 : decode zb_Mo_beginsTurn 82 = .ok (.iload_n 3, 1) := by decide +kernel
theorem d_Mo_beginsTurn_83 : decode zb_Mo_beginsTurn 83 = .ok (.iconst 2, 1) := by decide +kernel
theorem d_Mo_beginsTurn_84 : decode zb_Mo_beginsTurn 84 = .ok (.invokevirtual 98, 3) := by decide +kernel
theorem d_Mo_beginsTurn_87 : decode zb_Mo_beginsTurn 87 = .ok (.iastore, 1) := by decide +kernel
theorem d_Mo_beginsTurn_88 : decode zb_Mo_beginsTurn 88 = .ok (.iinc 2 1, 3) := by decide +kernel
theorem d_Mo_beginsTurn_91 : decode zb_Mo_beginsTurn 91 = .ok (.iinc 3 1, 3) := by decide +kernel
theorem d_Mo_beginsTurn_94 : decode zb_Mo_beginsTurn 94 = .ok (.goto (-48), 3) := by decide +kernel
theorem d_Mo_beginsTurn_97 : decode zb_Mo_beginsTurn 97 = .ok (.iconst 0, 1) := by decide +kernel
theorem d_Mo_beginsTurn_98 : decode zb_Mo_beginsTurn 98 = .ok (.istore_n 3, 1) := by decide +kernel
theorem d_Mo_beginsTurn_99 : decode zb_Mo_beginsTurn 99 = .ok (.iload_n 3, 1) := by decide +kernel
theorem d_Mo_beginsTurn_100 : decode zb_Mo_beginsTurn 100 = .ok (.iload_n 2, 1) := by decide +kernel
theorem d_Mo_beginsTurn_101 : decode zb_Mo_beginsTurn 101 = .ok (.if_icmp .ge 27, 3) := by decide +kernel
theorem d_Mo_beginsTurn_104 : decode zb_Mo_beginsTurn 104 = .ok (.aload_n 0, 1) := by decide +kernel
theorem d_Mo_beginsTurn_105 : decode zb_Mo_beginsTurn 105 = .ok (.iload_n 1, 1) := by decide +kernel
theorem d_Mo_beginsTurn_106 : decode zb_Mo_beginsTurn 106 = .ok (.aload_n 0, 1) := by decide +kernel
theorem d_Mo_beginsTurn_107 : decode zb_Mo_beginsTurn 107 = .ok (.iload_n 1, 1) := by decide +kernel
theorem d_Mo_beginsTurn_108 : decode zb_Mo_beginsTurn 108 = .ok (.aload_n 0, 1) := by decide +kernel
theorem d_Mo_beginsTurn_109 : decode zb_Mo_beginsTurn 109 = .ok (.getfield 53, 3) := by decide +kernel
theorem d_Mo_beginsTurn_112 : decode zb_Mo_beginsTurn 112 = .ok (.iload_n 3, 1) := by decide +kernel
theorem d_Mo_beginsTurn_113 : decode zb_Mo_beginsTurn 113 = .ok (.iaload, 1) := by decide +kernel
theorem d_Mo_beginsTurn_114 : decode zb_Mo_beginsTurn 114 = .ok (.invokevirtual 156, 3) := by decide +kernel
theorem d_Mo_beginsTurn_117 : decode zb_Mo_beginsTurn 117 = .ok (.iconst 1, 1) := by decide +kernel
theorem d_Mo_beginsTurn_118 : decode zb_Mo_beginsTurn 118 = .ok (.invokevirtual 159, 3) := by decide +kernel
theorem d_Mo_beginsTurn_121 : decode zb_Mo_beginsTurn 121 = .ok (.pop, 1) := by decide +kernel
theorem d_Mo_beginsTurn_122 : decode zb_Mo_beginsTurn 122 = .ok (.iinc 3 1, 3) := by decide +kernel
theorem d_Mo_beginsTurn_125 : decode zb_Mo_beginsTurn 125 = .ok (.goto (-26), 3) := by decide +kernel
theorem d_Mo_beginsTurn_128 : decode zb_Mo_beginsTurn 128 = .ok (.return_, 1) := by decide +kernel
def k_Mo_beginsTurn_99 : Nat → Int32 → Int32 → Int32 → zsM → Option (zsM)
  | 0, _, _, _, _ => none
  | fu + 1, l1, l2, l3, x => (if l3 < l2 then (if zOut l3 8 then none else (k_Mo_poisonBy x l1 ((((x.2 30)) l3.toNatClampNeg))).bind fun o6 => (k_Mo_harms x l1 o6 ((1 : Int32))).bind fun o7 => k_Mo_beginsTurn_99 fu l1 l2 ((l3 + (1 : Int32))) o7.2) else some x)
set_option maxRecDepth 20000 in
theorem w_Mo_beginsTurn_99 {X : zX} {c : zY} {q : Nat → Nat} {out : zsM} (hX : Ok X zr_Mo zb_Mo_beginsTurn 4 3 c) (hR : Rt X none none (zwM c q out)) : ∀ (fu : Nat) (l1 : Int32) (l2 : Int32) (l3 : Int32) (x : zsM), k_Mo_beginsTurn_99 fu l1 l2 l3 x = some out → Go X (zwM c q x) [(0, .ref ((q 0))), (1, .int l1), (2, .int l2), (3, .int l3)] 99 [] := by
  intro fu
  induction fu with
  | zero => intro l1 l2 l3 x h; rw [k_Mo_beginsTurn_99] at h; cases h
  | succ fu ih =>
    intro l1 l2 l3 x h
    rw [k_Mo_beginsTurn_99] at h
    refine g_iload_n (pc := 99) hX d_Mo_beginsTurn_99 rfl 3 rfl ?_
    refine g_iload_n (pc := 100) hX d_Mo_beginsTurn_100 rfl 2 rfl ?_
    refine g_icmp_ge (pc := 101) (tgt := 128) hX d_Mo_beginsTurn_101 (by decide) h (fun c5 h => ?_) (fun c5 h => ?_)
    · obtain rfl := Option.some.inj h
      exact g_vret (pc := 128) hX hR d_Mo_beginsTurn_128
    · refine g_aload_n (pc := 104) hX d_Mo_beginsTurn_104 rfl 0 rfl ?_
      refine g_iload_n (pc := 105) hX d_Mo_beginsTurn_105 rfl 1 rfl ?_
      refine g_aload_n (pc := 106) hX d_Mo_beginsTurn_106 rfl 0 rfl ?_
      refine g_iload_n (pc := 107) hX d_Mo_beginsTurn_107 rfl 1 rfl ?_
      refine g_aload_n (pc := 108) hX d_Mo_beginsTurn_108 rfl 0 rfl ?_
      refine gf_Mo_53 (pc := 109) (v := .ref ((q 14))) hX 0 rfl rfl d_Mo_beginsTurn_109 ?_
      refine g_iload_n (pc := 112) hX d_Mo_beginsTurn_112 rfl 3 rfl ?_
      refine g_iald (pc := 113) (f := (x.2 30)) hX 14 rfl h d_Mo_beginsTurn_113 (fun h => ?_)
      obtain ⟨o6, e6, h⟩ := zbind h
      refine g_cvI (pc := 114) (w1 := []) (w2 := []) (st := [.int l1, .ref ((q 0))]) (w' := (zwM c q x)) hX zk_Mo_poisonBy zs_Mo_poisonBy zL_Mo_156 (c_Mo_poisonBy c q x l1 ((((x.2 30)) l3.toNatClampNeg)) e6) rfl rfl rfl rfl (zself _) (zself _).symm 0 10 rfl rfl rfl d_Mo_beginsTurn_114 ?_
      refine g_iconst (pc := 117) hX d_Mo_beginsTurn_117 zc_1 ?_
      obtain ⟨o7, e7, h⟩ := zbind h
      refine g_cvI (pc := 118) (w1 := []) (w2 := []) (st := []) (w' := (zwM c q o7.2)) hX zk_Mo_harms zs_Mo_harms zL_Mo_159 (c_Mo_harms c q x l1 o6 ((1 : Int32)) e7) rfl rfl rfl rfl (zself _) (zself _).symm 0 10 rfl rfl rfl d_Mo_beginsTurn_118 ?_
      refine g_pop (pc := 121) hX d_Mo_beginsTurn_121 rfl ?_
      refine g_iinc (pc := 122) (q := 3) (L' := [(3, .int ((l3 + (1 : Int32)))), (0, .ref ((q 0))), (1, .int l1), (2, .int l2)]) hX d_Mo_beginsTurn_122 rfl zc_1 rfl rfl ?_
      refine g_goto (pc := 125) (tgt := 99) hX d_Mo_beginsTurn_125 (by decide) ?_
      refine g_ls (L' := [(0, .ref ((q 0))), (1, .int l1), (2, .int l2), (3, .int ((l3 + (1 : Int32))))]) [1, 2, 3, 0] rfl ?_
      exact ih _ _ _ _ h
def k_Mo_beginsTurn_46 : Nat → Int32 → Int32 → Int32 → zsM → Option (zsM)
  | 0, _, _, _, _ => none
  | fu + 1, l1, l2, l3, x => (if l3 < (x.1 16) then (k_Mo_partOf x l3 ((0 : Int32))).bind fun o8 => (if o8 = 0 then (k_Mo_partOf x l3 ((1 : Int32))).bind fun o10 => (if o10 = l1 then (k_Mo_partOf x l3 ((2 : Int32))).bind fun o12 => (if zOut l2 8 then none else k_Mo_beginsTurn_46 fu l1 ((l2 + (1 : Int32))) ((l3 + (1 : Int32))) ((x.1, (va_up x.2 30 (upd ((x.2 30)) l2.toNatClampNeg o12))))) else k_Mo_beginsTurn_46 fu l1 l2 ((l3 + (1 : Int32))) x) else k_Mo_beginsTurn_46 fu l1 l2 ((l3 + (1 : Int32))) x) else k_Mo_beginsTurn_99 zFu l1 l2 ((0 : Int32)) x)
set_option maxRecDepth 20000 in
theorem w_Mo_beginsTurn_46 {X : zX} {c : zY} {q : Nat → Nat} {out : zsM} (hX : Ok X zr_Mo zb_Mo_beginsTurn 4 3 c) (hR : Rt X none none (zwM c q out)) : ∀ (fu : Nat) (l1 : Int32) (l2 : Int32) (l3 : Int32) (x : zsM), k_Mo_beginsTurn_46 fu l1 l2 l3 x = some out → Go X (zwM c q x) [(0, .ref ((q 0))), (1, .int l1), (2, .int l2), (3, .int l3)] 46 [] := by
  intro fu
  induction fu with
  | zero => intro l1 l2 l3 x h; rw [k_Mo_beginsTurn_46] at h; cases h
  | succ fu ih =>
    intro l1 l2 l3 x h
    rw [k_Mo_beginsTurn_46] at h
    refine g_iload_n (pc := 46) hX d_Mo_beginsTurn_46 rfl 3 rfl ?_
    refine g_aload_n (pc := 47) hX d_Mo_beginsTurn_47 rfl 0 rfl ?_
    refine gf_Mo_95 (pc := 48) (v := .int ((x.1 16))) hX 0 rfl rfl d_Mo_beginsTurn_48 ?_
    refine g_icmp_ge (pc := 51) (tgt := 97) hX d_Mo_beginsTurn_51 (by decide) h (fun c4 h => ?_) (fun c4 h => ?_)
    · refine g_iconst (pc := 97) hX d_Mo_beginsTurn_97 zc_0 ?_
      refine g_istore_n (pc := 98) (L' := [(3, .int ((0 : Int32))), (0, .ref ((q 0))), (1, .int l1), (2, .int l2)]) hX d_Mo_beginsTurn_98 rfl rfl rfl ?_
      refine g_ls (L' := [(0, .ref ((q 0))), (1, .int l1), (2, .int l2), (3, .int ((0 : Int32)))]) [1, 2, 3, 0] rfl ?_
      exact w_Mo_beginsTurn_99 hX hR _ _ _ _ _ h
    · refine g_aload_n (pc := 54) hX d_Mo_beginsTurn_54 rfl 0 rfl ?_
      refine g_iload_n (pc := 55) hX d_Mo_beginsTurn_55 rfl 3 rfl ?_
      refine g_iconst (pc := 56) hX d_Mo_beginsTurn_56 zc_0 ?_
      obtain ⟨o8, e8, h⟩ := zbind h
      refine g_cvI (pc := 57) (w1 := []) (w2 := []) (st := []) (w' := (zwM c q x)) hX zk_Mo_partOf zs_Mo_partOf zL_Mo_98 (c_Mo_partOf c q x l3 ((0 : Int32)) e8) rfl rfl rfl rfl (zself _) (zself _).symm 0 10 rfl rfl rfl d_Mo_beginsTurn_57 ?_
      refine g_if_ne (pc := 60) (tgt := 91) hX d_Mo_beginsTurn_60 (by decide) h (fun c9 h => ?_) (fun c9 h => ?_)
      · refine g_iinc (pc := 91) (q := 3) (L' := [(3, .int ((l3 + (1 : Int32)))), (0, .ref ((q 0))), (1, .int l1), (2, .int l2)]) hX d_Mo_beginsTurn_91 rfl zc_1 rfl rfl ?_
        refine g_goto (pc := 94) (tgt := 46) hX d_Mo_beginsTurn_94 (by decide) ?_
        refine g_ls (L' := [(0, .ref ((q 0))), (1, .int l1), (2, .int l2), (3, .int ((l3 + (1 : Int32))))]) [1, 2, 3, 0] rfl ?_
        exact ih _ _ _ _ h
      · refine g_aload_n (pc := 63) hX d_Mo_beginsTurn_63 rfl 0 rfl ?_
        refine g_iload_n (pc := 64) hX d_Mo_beginsTurn_64 rfl 3 rfl ?_
        refine g_iconst (pc := 65) hX d_Mo_beginsTurn_65 zc_1 ?_
        obtain ⟨o10, e10, h⟩ := zbind h
        refine g_cvI (pc := 66) (w1 := []) (w2 := []) (st := []) (w' := (zwM c q x)) hX zk_Mo_partOf zs_Mo_partOf zL_Mo_98 (c_Mo_partOf c q x l3 ((1 : Int32)) e10) rfl rfl rfl rfl (zself _) (zself _).symm 0 10 rfl rfl rfl d_Mo_beginsTurn_66 ?_
        refine g_iload_n (pc := 69) hX d_Mo_beginsTurn_69 rfl 1 rfl ?_
        refine g_icmp_eq (pc := 70) (tgt := 76) hX d_Mo_beginsTurn_70 (by decide) h (fun c11 h => ?_) (fun c11 h => ?_)
        · refine g_aload_n (pc := 76) hX d_Mo_beginsTurn_76 rfl 0 rfl ?_
          refine gf_Mo_53 (pc := 77) (v := .ref ((q 14))) hX 0 rfl rfl d_Mo_beginsTurn_77 ?_
          refine g_iload_n (pc := 80) hX d_Mo_beginsTurn_80 rfl 2 rfl ?_
          refine g_aload_n (pc := 81) hX d_Mo_beginsTurn_81 rfl 0 rfl ?_
          refine g_iload_n (pc := 82) hX d_Mo_beginsTurn_82 rfl 3 rfl ?_
          refine g_iconst (pc := 83) hX d_Mo_beginsTurn_83 zc_2 ?_
          obtain ⟨o12, e12, h⟩ := zbind h
          refine g_cvI (pc := 84) (w1 := []) (w2 := []) (st := [.int l2, .ref ((q 14))]) (w' := (zwM c q x)) hX zk_Mo_partOf zs_Mo_partOf zL_Mo_98 (c_Mo_partOf c q x l3 ((2 : Int32)) e12) rfl rfl rfl rfl (zself _) (zself _).symm 0 10 rfl rfl rfl d_Mo_beginsTurn_84 ?_
          refine g_iast (pc := 87) (f := (x.2 30)) (w' := (zwM c q ((x.1, (va_up x.2 30 (upd ((x.2 30)) l2.toNatClampNeg o12)))))) hX 14 rfl h (sa_Mo_14 c q x (upd ((x.2 30)) l2.toNatClampNeg o12)) d_Mo_beginsTurn_87 (fun h => ?_)
          refine g_iinc (pc := 88) (q := 2) (L' := [(2, .int ((l2 + (1 : Int32)))), (0, .ref ((q 0))), (1, .int l1), (3, .int l3)]) hX d_Mo_beginsTurn_88 rfl zc_1 rfl rfl ?_
          refine g_iinc (pc := 91) (q := 3) (L' := [(3, .int ((l3 + (1 : Int32)))), (2, .int ((l2 + (1 : Int32)))), (0, .ref ((q 0))), (1, .int l1)]) hX d_Mo_beginsTurn_91 rfl zc_1 rfl rfl ?_
          refine g_goto (pc := 94) (tgt := 46) hX d_Mo_beginsTurn_94 (by decide) ?_
          refine g_ls (L' := [(0, .ref ((q 0))), (1, .int l1), (2, .int ((l2 + (1 : Int32)))), (3, .int ((l3 + (1 : Int32))))]) [2, 3, 1, 0] rfl ?_
          exact ih _ _ _ _ h
        · refine g_goto (pc := 73) (tgt := 91) hX d_Mo_beginsTurn_73 (by decide) ?_
          refine g_iinc (pc := 91) (q := 3) (L' := [(3, .int ((l3 + (1 : Int32)))), (0, .ref ((q 0))), (1, .int l1), (2, .int l2)]) hX d_Mo_beginsTurn_91 rfl zc_1 rfl rfl ?_
          refine g_goto (pc := 94) (tgt := 46) hX d_Mo_beginsTurn_94 (by decide) ?_
          refine g_ls (L' := [(0, .ref ((q 0))), (1, .int l1), (2, .int l2), (3, .int ((l3 + (1 : Int32))))]) [1, 2, 3, 0] rfl ?_
          exact ih _ _ _ _ h
def k_Mo_beginsTurn (x : zsM) : Option (zsM) := (k_Mo_current x).bind fun o1 => (k_Mo_notes (((upd ((upd ((upd x.1 23 ((0 : Int32)))) 24 ((0 : Int32)))) 27 (((((upd x.1 23 ((0 : Int32))))) 27 + (1 : Int32)))), x.2)) ((8 : Int32)) o1 ((((upd ((upd x.1 23 ((0 : Int32)))) 24 ((0 : Int32))))) 22)).bind fun o2 => (k_Mo_counts o2 o1 ((1 : Int32))).bind fun o3 => k_Mo_beginsTurn_46 zFu o1 ((0 : Int32)) ((0 : Int32)) o3
set_option maxRecDepth 20000 in
theorem c_Mo_beginsTurn (c : zY) (q : Nat → Nat) (x : zsM) {out : zsM} (h : k_Mo_beginsTurn x = some out) : KM zy_Mo_beginsTurn zb_Mo_beginsTurn 4 none 3 c [.ref ((q 0))] (zwM c q x) (zwM c q out) none := zK_of zp_Mo rfl (Nat.le_of_ble_eq_true rfl) (zq_Mo c q _ _) (fun X hX hR => by
  show Go X (zwM c q x) [(0, .ref ((q 0)))] 0 []
  rw [k_Mo_beginsTurn] at h
  refine g_aload_n (pc := 0) hX d_Mo_beginsTurn_0 rfl 0 rfl ?_
  obtain ⟨o1, e1, h⟩ := zbind h
  refine g_cvI (pc := 1) (w1 := []) (w2 := []) (st := []) (w' := (zwM c q x)) hX zk_Mo_current zs_Mo_current zL_Mo_136 (c_Mo_current c q x e1) rfl rfl rfl rfl (zself _) (zself _).symm 0 10 rfl rfl rfl d_Mo_beginsTurn_1 ?_
  refine g_istore_n (pc := 4) (L' := [(1, .int o1), (0, .ref ((q 0)))]) hX d_Mo_beginsTurn_4 rfl rfl rfl ?_
  refine g_aload_n (pc := 5) hX d_Mo_beginsTurn_5 rfl 1 rfl ?_
  refine g_iconst (pc := 6) hX d_Mo_beginsTurn_6 zc_0 ?_
  refine pf_Mo_140 (pc := 7) (w2 := (zwM c q (((upd x.1 23 ((0 : Int32))), x.2)))) hX 0 rfl rfl (su_Mo_0_23 c q x ((0 : Int32))) d_Mo_beginsTurn_7 ?_
  refine g_aload_n (pc := 10) hX d_Mo_beginsTurn_10 rfl 1 rfl ?_
  refine g_iconst (pc := 11) hX d_Mo_beginsTurn_11 zc_0 ?_
  refine pf_Mo_143 (pc := 12) (w2 := (zwM c q (((upd ((upd x.1 23 ((0 : Int32)))) 24 ((0 : Int32))), x.2)))) hX 0 rfl rfl (su_Mo_0_24 c q (((upd x.1 23 ((0 : Int32))), x.2)) ((0 : Int32))) d_Mo_beginsTurn_12 ?_
  refine g_aload_n (pc := 15) hX d_Mo_beginsTurn_15 rfl 1 rfl ?_
  refine g_dup (pc := 16) hX d_Mo_beginsTurn_16 rfl ?_
  refine gf_Mo_146 (pc := 17) (v := .int ((((upd x.1 23 ((0 : Int32))))) 27)) hX 0 rfl rfl d_Mo_beginsTurn_17 ?_
  refine g_iconst (pc := 20) hX d_Mo_beginsTurn_20 zc_1 ?_
  refine g_iadd (pc := 21) hX d_Mo_beginsTurn_21 ?_
  refine pf_Mo_146 (pc := 22) (w2 := (zwM c q (((upd ((upd ((upd x.1 23 ((0 : Int32)))) 24 ((0 : Int32)))) 27 (((((upd x.1 23 ((0 : Int32))))) 27 + (1 : Int32)))), x.2)))) hX 0 rfl rfl (su_Mo_0_27 c q (((upd ((upd x.1 23 ((0 : Int32)))) 24 ((0 : Int32))), x.2)) (((((upd x.1 23 ((0 : Int32))))) 27 + (1 : Int32)))) d_Mo_beginsTurn_22 ?_
  refine g_aload_n (pc := 25) hX d_Mo_beginsTurn_25 rfl 1 rfl ?_
  refine g_bipush (pc := 26) hX d_Mo_beginsTurn_26 ze_8 ?_
  refine g_iload_n (pc := 28) hX d_Mo_beginsTurn_28 rfl 0 rfl ?_
  refine g_aload_n (pc := 29) hX d_Mo_beginsTurn_29 rfl 1 rfl ?_
  refine gf_Mo_149 (pc := 30) (v := .int ((((upd ((upd x.1 23 ((0 : Int32)))) 24 ((0 : Int32))))) 22)) hX 0 rfl rfl d_Mo_beginsTurn_30 ?_
  obtain ⟨o2, e2, h⟩ := zbind h
  refine g_cvV (pc := 33) (w1 := []) (w2 := []) (st := []) (w' := (zwM c q o2)) hX zk_Mo_notes zs_Mo_notes zL_Mo_102 (c_Mo_notes c q (((upd ((upd ((upd x.1 23 ((0 : Int32)))) 24 ((0 : Int32)))) 27 (((((upd x.1 23 ((0 : Int32))))) 27 + (1 : Int32)))), x.2)) ((8 : Int32)) o1 ((((upd ((upd x.1 23 ((0 : Int32)))) 24 ((0 : Int32))))) 22) e2) rfl rfl rfl rfl (zself _) (zself _).symm 0 10 rfl rfl rfl d_Mo_beginsTurn_33 ?_
  refine g_aload_n (pc := 36) hX d_Mo_beginsTurn_36 rfl 1 rfl ?_
  refine g_iload_n (pc := 37) hX d_Mo_beginsTurn_37 rfl 0 rfl ?_
  refine g_iconst (pc := 38) hX d_Mo_beginsTurn_38 zc_1 ?_
  obtain ⟨o3, e3, h⟩ := zbind h
  refine g_cvV (pc := 39) (w1 := []) (w2 := []) (st := []) (w' := (zwM c q o3)) hX zk_Mo_counts zs_Mo_counts zL_Mo_152 (c_Mo_counts c q o2 o1 ((1 : Int32)) e3) rfl rfl rfl rfl (zself _) (zself _).symm 0 10 rfl rfl rfl d_Mo_beginsTurn_39 ?_
  refine g_iconst (pc := 42) hX d_Mo_beginsTurn_42 zc_0 ?_
  refine g_istore_n (pc := 43) (L' := [(2, .int ((0 : Int32))), (1, .int o1), (0, .ref ((q 0)))]) hX d_Mo_beginsTurn_43 rfl rfl rfl ?_
  refine g_iconst (pc := 44) hX d_Mo_beginsTurn_44 zc_0 ?_
  refine g_istore_n (pc := 45) (L' := [(3, .int ((0 : Int32))), (2, .int ((0 : Int32))), (1, .int o1), (0, .ref ((q 0)))]) hX d_Mo_beginsTurn_45 rfl rfl rfl ?_
  refine g_ls (L' := [(0, .ref ((q 0))), (1, .int o1), (2, .int ((0 : Int32))), (3, .int ((0 : Int32)))]) [3, 2, 1, 0] rfl ?_
  exact w_Mo_beginsTurn_46 hX hR _ _ _ _ _ h)
theorem d_Mo_passesTurn_0 : decode zb_Mo_passesTurn 0 = .ok (.aload_n 0, 1) := by decide +kernel
theorem d_Mo_passesTurn_1 : decode zb_Mo_passesTurn 1 = .ok (.dup, 1) := by decide +kernel
theorem d_Mo_passesTurn_2 : decode zb_Mo_passesTurn 2 = .ok (.getfield 126, 3) := by decide +kernel
theorem d_Mo_passesTurn_5 : decode zb_Mo_passesTurn 5 = .ok (.iconst 1, 1) := by decide +kernel
theorem d_Mo_passesTurn_6 : decode zb_Mo_passesTurn 6 = .ok (.iadd, 1) := by decide +kernel
theorem d_Mo_passesTurn_7 : decode zb_Mo_passesTurn 7 = .ok (.putfield 126, 3) := by decide +kernel
theorem d_Mo_passesTurn_10 : decode zb_Mo_passesTurn 10 = .ok (.aload_n 0, 1) := by decide +kernel
theorem d_Mo_passesTurn_11 : decode zb_Mo_passesTurn 11 = .ok (.getfield 126, 3) := by decide +kernel
theorem d_Mo_passesTurn_14 : decode zb_Mo_passesTurn 14 = .ok (.aload_n 0, 1) := by decide +kernel
theorem d_Mo_passesTurn_15 : decode zb_Mo_passesTurn 15 = .ok (.getfield 133, 3) := by decide +kernel
theorem d_Mo_passesTurn_18 : decode zb_Mo_passesTurn 18 = .ok (.if_icmp .ne 18, 3) := by decide +kernel
theorem d_Mo_passesTurn_21 : decode zb_Mo_passesTurn 21 = .ok (.aload_n 0, 1) := by decide +kernel
theorem d_Mo_passesTurn_22 : decode zb_Mo_passesTurn 22 = .ok (.iconst 0, 1) := by decide +kernel
theorem d_Mo_passesTurn_23 : decode zb_Mo_passesTurn 23 = .ok (.putfield 126, 3) := by decide +kernel
theorem d_Mo_passesTurn_26 : decode zb_Mo_passesTurn 26 = .ok (.aload_n 0, 1) := by decide +kernel
theorem d_Mo_passesTurn_27 : decode zb_Mo_passesTurn 27 = .ok (.dup, 1) := by decide +kernel
theorem d_Mo_passesTurn_28 : decode zb_Mo_passesTurn 28 = .ok (.getfield 149, 3) := by decide +kernel
theorem d_Mo_passesTurn_31 : decode zb_Mo_passesTurn 31 = .ok (.iconst 1, 1) := by decide +kernel
theorem d_Mo_passesTurn_32 : decode zb_Mo_passesTurn 32 = .ok (.iadd, 1) := by decide +kernel
theorem d_Mo_passesTurn_33 : decode zb_Mo_passesTurn 33 = .ok (.putfield 149, 3) := by decide +kernel
theorem d_Mo_passesTurn_36 : decode zb_Mo_passesTurn 36 = .ok (.aload_n 0, 1) := by decide +kernel
theorem d_Mo_passesTurn_37 : decode zb_Mo_passesTurn 37 = .ok (.invokevirtual 163, 3) := by decide +kernel
theorem d_Mo_passesTurn_40 : decode zb_Mo_passesTurn 40 = .ok (.return_, 1) := by decide +kernel
def k_Mo_passesTurn (x : zsM) : Option (zsM) := (if (((x.1 20) + (1 : Int32))) = (x.1 21) then (k_Mo_beginsTurn (((upd ((upd ((upd x.1 20 (((x.1 20) + (1 : Int32))))) 20 ((0 : Int32)))) 22 (((((upd x.1 20 (((x.1 20) + (1 : Int32)))))) 22 + (1 : Int32)))), x.2))).bind fun o3 => some o3 else (k_Mo_beginsTurn (((upd x.1 20 (((x.1 20) + (1 : Int32)))), x.2))).bind fun o2 => some o2)
set_option maxRecDepth 20000 in
theorem c_Mo_passesTurn (c : zY) (q : Nat → Nat) (x : zsM) {out : zsM} (h : k_Mo_passesTurn x = some out) : KM zy_Mo_passesTurn zb_Mo_passesTurn 1 none 4 c [.ref ((q 0))] (zwM c q x) (zwM c q out) none := zK_of zp_Mo rfl (Nat.le_of_ble_eq_true rfl) (zq_Mo c q _ _) (fun X hX hR => by
  show Go X (zwM c q x) [(0, .ref ((q 0)))] 0 []
  rw [k_Mo_passesTurn] at h
  refine g_aload_n (pc := 0) hX d_Mo_passesTurn_0 rfl 0 rfl ?_
  refine g_dup (pc := 1) hX d_Mo_passesTurn_1 rfl ?_
  refine gf_Mo_126 (pc := 2) (v := .int ((x.1 20))) hX 0 rfl rfl d_Mo_passesTurn_2 ?_
  refine g_iconst (pc := 5) hX d_Mo_passesTurn_5 zc_1 ?_
  refine g_iadd (pc := 6) hX d_Mo_passesTurn_6 ?_
  refine pf_Mo_126 (pc := 7) (w2 := (zwM c q (((upd x.1 20 (((x.1 20) + (1 : Int32)))), x.2)))) hX 0 rfl rfl (su_Mo_0_20 c q x (((x.1 20) + (1 : Int32)))) d_Mo_passesTurn_7 ?_
  refine g_aload_n (pc := 10) hX d_Mo_passesTurn_10 rfl 0 rfl ?_
  refine gf_Mo_126 (pc := 11) (v := .int ((((x.1 20) + (1 : Int32))))) hX 0 rfl rfl d_Mo_passesTurn_11 ?_
  refine g_aload_n (pc := 14) hX d_Mo_passesTurn_14 rfl 0 rfl ?_
  refine gf_Mo_133 (pc := 15) (v := .int ((x.1 21))) hX 0 rfl rfl d_Mo_passesTurn_15 ?_
  refine g_icmp_ne (pc := 18) (tgt := 36) hX d_Mo_passesTurn_18 (by decide) h (fun c1 h => ?_) (fun c1 h => ?_)
  · refine g_aload_n (pc := 36) hX d_Mo_passesTurn_36 rfl 0 rfl ?_
    obtain ⟨o2, e2, h⟩ := zbind h
    refine g_cvV (pc := 37) (w1 := []) (w2 := []) (st := []) (w' := (zwM c q o2)) hX zk_Mo_beginsTurn zs_Mo_beginsTurn zL_Mo_163 (c_Mo_beginsTurn c q (((upd x.1 20 (((x.1 20) + (1 : Int32)))), x.2)) e2) rfl rfl rfl rfl (zself _) (zself _).symm 0 10 rfl rfl rfl d_Mo_passesTurn_37 ?_
    obtain rfl := Option.some.inj h
    exact g_vret (pc := 40) hX hR d_Mo_passesTurn_40
  · refine g_aload_n (pc := 21) hX d_Mo_passesTurn_21 rfl 0 rfl ?_
    refine g_iconst (pc := 22) hX d_Mo_passesTurn_22 zc_0 ?_
    refine pf_Mo_126 (pc := 23) (w2 := (zwM c q (((upd ((upd x.1 20 (((x.1 20) + (1 : Int32))))) 20 ((0 : Int32))), x.2)))) hX 0 rfl rfl (su_Mo_0_20 c q (((upd x.1 20 (((x.1 20) + (1 : Int32)))), x.2)) ((0 : Int32))) d_Mo_passesTurn_23 ?_
    refine g_aload_n (pc := 26) hX d_Mo_passesTurn_26 rfl 0 rfl ?_
    refine g_dup (pc := 27) hX d_Mo_passesTurn_27 rfl ?_
    refine gf_Mo_149 (pc := 28) (v := .int ((((upd x.1 20 (((x.1 20) + (1 : Int32)))))) 22)) hX 0 rfl rfl d_Mo_passesTurn_28 ?_
    refine g_iconst (pc := 31) hX d_Mo_passesTurn_31 zc_1 ?_
    refine g_iadd (pc := 32) hX d_Mo_passesTurn_32 ?_
    refine pf_Mo_149 (pc := 33) (w2 := (zwM c q (((upd ((upd ((upd x.1 20 (((x.1 20) + (1 : Int32))))) 20 ((0 : Int32)))) 22 (((((upd x.1 20 (((x.1 20) + (1 : Int32)))))) 22 + (1 : Int32)))), x.2)))) hX 0 rfl rfl (su_Mo_0_22 c q (((upd ((upd x.1 20 (((x.1 20) + (1 : Int32))))) 20 ((0 : Int32))), x.2)) (((((upd x.1 20 (((x.1 20) + (1 : Int32)))))) 22 + (1 : Int32)))) d_Mo_passesTurn_33 ?_
    refine g_aload_n (pc := 36) hX d_Mo_passesTurn_36 rfl 0 rfl ?_
    obtain ⟨o3, e3, h⟩ := zbind h
    refine g_cvV (pc := 37) (w1 := []) (w2 := []) (st := []) (w' := (zwM c q o3)) hX zk_Mo_beginsTurn zs_Mo_beginsTurn zL_Mo_163 (c_Mo_beginsTurn c q (((upd ((upd ((upd x.1 20 (((x.1 20) + (1 : Int32))))) 20 ((0 : Int32)))) 22 (((((upd x.1 20 (((x.1 20) + (1 : Int32)))))) 22 + (1 : Int32)))), x.2)) e3) rfl rfl rfl rfl (zself _) (zself _).symm 0 10 rfl rfl rfl d_Mo_passesTurn_37 ?_
    obtain rfl := Option.some.inj h
    exact g_vret (pc := 40) hX hR d_Mo_passesTurn_40)
theorem d_Mo_remembers_0 : decode zb_Mo_remembers 0 = .ok (.aload_n 0, 1) := by decide +kernel
theorem d_Mo_remembers_1 : decode zb_Mo_remembers 1 = .ok (.getfield 317, 3) := by decide +kernel
theorem d_Mo_remembers_4 : decode zb_Mo_remembers 4 = .ok (.bipush 6, 2) := by decide +kernel
theorem d_Mo_remembers_6 : decode zb_Mo_remembers 6 = .ok (.if_icmp .ne 44, 3) := by decide +kernel
theorem d_Mo_remembers_9 : decode zb_Mo_remembers 9 = .ok (.iconst 0, 1) := by decide +kernel
theorem d_Mo_remembers_10 : decode zb_Mo_remembers 10 = .ok (.istore_n 1, 1) := by decide +kernel
theorem d_Mo_remembers_11 : decode zb_Mo_remembers 11 = .ok (.iload_n 1, 1) := by decide +kernel
theorem d_Mo_remembers_12 : decode zb_Mo_remembers 12 = .ok (.sipush 5065, 3) := by decide +kernel
theorem d_Mo_remembers_15 : decode zb_Mo_remembers 15 = .ok (.if_icmp .ge 25, 3) := by decide +kernel
theorem d_Mo_remembers_18 : decode zb_Mo_remembers 18 = .ok (.aload_n 0, 1) := by decide +kernel
theorem d_Mo_remembers_19 : decode zb_Mo_remembers 19 = .ok (.getfield 75, 3) := by decide +kernel
theorem d_Mo_remembers_22 : decode zb_Mo_remembers 22 = .ok (.iload_n 1, 1) := by decide +kernel
theorem d_Mo_remembers_23 : decode zb_Mo_remembers 23 = .ok (.aload_n 0, 1) := by decide +kernel
theorem d_Mo_remembers_24 : decode zb_Mo_remembers 24 = .ok (.getfield 75, 3) := by decide +kernel
theorem d_Mo_remembers_27 : decode zb_Mo_remembers 27 = .ok (.iload_n 1, 1) := by decide +kernel
theorem d_Mo_remembers_28 : decode zb_Mo_remembers 28 = .ok (.sipush 1013, 3) := by decide +kernel
theorem d_Mo_remembers_31 : decode zb_Mo_remembers 31 = .ok (.iadd, 1) := by decide +kernel
theorem d_Mo_remembers_32 : decode zb_Mo_remembers 32 = .ok (.iaload, 1) := by decide +kernel
theorem d_Mo_remembers_33 : decode zb_Mo_remembers 33 = .ok (.iastore, 1) := by decide +kernel
theorem d_Mo_remembers_34 : decode zb_Mo_remembers 34 = .ok (.iinc 1 1, 3) := by decide +kernel
theorem d_Mo_remembers_37 : decode zb_Mo_remembers 37 = .ok (.goto (-26), 3) := by decide +kernel
theorem d_Mo_remembers_40 : decode zb_Mo_remembers 40 = .ok (.aload_n 0, 1) := by decide +kernel
theorem d_Mo_remembers_41 : decode zb_Mo_remembers 41 = .ok (.dup, 1) := by decide +kernel
theorem d_Mo_remembers_42 : decode zb_Mo_remembers 42 = .ok (.getfield 317, 3) := by decide +kernel
theorem d_Mo_remembers_45 : decode zb_Mo_remembers 45 = .ok (.iconst 1, 1) := by decide +kernel
theorem d_Mo_remembers_46 : decode zb_Mo_remembers 46 = .ok (.isub, 1) := by decide +kernel
theorem d_Mo_remembers_47 : decode zb_Mo_remembers 47 = .ok (.putfield 317, 3) := by decide +kernel
theorem d_Mo_remembers_50 : decode zb_Mo_remembers 50 = .ok (.aload_n 0, 1) := by decide +kernel
theorem d_Mo_remembers_51 : decode zb_Mo_remembers 51 = .ok (.aload_n 0, 1) := by decide +kernel
theorem d_Mo_remembers_52 : decode zb_Mo_remembers 52 = .ok (.getfield 75, 3) := by decide +kernel
theorem d_Mo_remembers_55 : decode zb_Mo_remembers 55 = .ok (.sipush 1013, 3) := by decide +kernel
theorem d_Mo_remembers_58 : decode zb_Mo_remembers 58 = .ok (.aload_n 0, 1) := by decide +kernel
theorem d_Mo_remembers_59 : decode zb_Mo_remembers 59 = .ok (.getfield 317, 3) := by decide +kernel
theorem d_Mo_remembers_62 : decode zb_Mo_remembers 62 = .ok (.imul, 1) := by decide +kernel
theorem d_Mo_remembers_63 : decode zb_Mo_remembers 63 = .ok (.iconst 1, 1) := by decide +kernel
theorem d_Mo_remembers_64 : decode zb_Mo_remembers 64 = .ok (.invokevirtual 320, 3) := by decide +kernel
theorem d_Mo_remembers_67 : decode zb_Mo_remembers 67 = .ok (.aload_n 0, 1) := by decide +kernel
theorem d_Mo_remembers_68 : decode zb_Mo_remembers 68 = .ok (.dup, 1) := by decide +kernel
theorem d_Mo_remembers_69 : decode zb_Mo_remembers 69 = .ok (.getfield 317, 3) := by decide +kernel
theorem d_Mo_remembers_72 : decode zb_Mo_remembers 72 = .ok (.iconst 1, 1) := by decide +kernel
theorem d_Mo_remembers_73 : decode zb_Mo_remembers 73 = .ok (.iadd, 1) := by decide +kernel
theorem d_Mo_remembers_74 : decode zb_Mo_remembers 74 = .ok (.putfield 317, 3) := by decide +kernel
theorem d_Mo_remembers_77 : decode zb_Mo_remembers 77 = .ok (.return_, 1) := by decide +kernel
def k_Mo_remembers_50 (x : zsM) : Option (zsM) := (k_Mo_passAll_e x (((1013 : Int32) * (x.1 42))) ((1 : Int32))).bind fun o2 => some (((upd o2.1 42 (((o2.1 42) + (1 : Int32)))), o2.2))
set_option maxRecDepth 20000 in
theorem w_Mo_remembers_50 {X : zX} {c : zY} {q : Nat → Nat} {out : zsM} (hX : Ok X zr_Mo zb_Mo_remembers 2 3 c) (hR : Rt X none none (zwM c q out)) : ∀ (x : zsM), k_Mo_remembers_50 x = some out → Go X (zwM c q x) [(0, .ref ((q 0)))] 50 [] := by
  intro x h
  rw [k_Mo_remembers_50] at h
  refine g_aload_n (pc := 50) hX d_Mo_remembers_50 rfl 0 rfl ?_
  refine g_aload_n (pc := 51) hX d_Mo_remembers_51 rfl 0 rfl ?_
  refine gf_Mo_75 (pc := 52) (v := .ref ((q 21))) hX 0 rfl rfl d_Mo_remembers_52 ?_
  refine g_sipush (pc := 55) hX d_Mo_remembers_55 zh_1013 ?_
  refine g_aload_n (pc := 58) hX d_Mo_remembers_58 rfl 0 rfl ?_
  refine gf_Mo_317 (pc := 59) (v := .int ((x.1 42))) hX 0 rfl rfl d_Mo_remembers_59 ?_
  refine g_imul (pc := 62) hX d_Mo_remembers_62 ?_
  refine g_iconst (pc := 63) hX d_Mo_remembers_63 zc_1 ?_
  obtain ⟨o2, e2, h⟩ := zbind h
  refine g_cvV (pc := 64) (w1 := []) (w2 := []) (st := []) (w' := (zwM c q o2)) hX zk_Mo_passAll zs_Mo_passAll zL_Mo_320 (c_Mo_passAll_e c q x (((1013 : Int32) * (x.1 42))) ((1 : Int32)) e2) rfl rfl rfl rfl (zself _) (zself _).symm 0 10 rfl rfl rfl d_Mo_remembers_64 ?_
  refine g_aload_n (pc := 67) hX d_Mo_remembers_67 rfl 0 rfl ?_
  refine g_dup (pc := 68) hX d_Mo_remembers_68 rfl ?_
  refine gf_Mo_317 (pc := 69) (v := .int ((o2.1 42))) hX 0 rfl rfl d_Mo_remembers_69 ?_
  refine g_iconst (pc := 72) hX d_Mo_remembers_72 zc_1 ?_
  refine g_iadd (pc := 73) hX d_Mo_remembers_73 ?_
  refine pf_Mo_317 (pc := 74) (w2 := (zwM c q (((upd o2.1 42 (((o2.1 42) + (1 : Int32)))), o2.2)))) hX 0 rfl rfl (su_Mo_0_42 c q o2 (((o2.1 42) + (1 : Int32)))) d_Mo_remembers_74 ?_
  obtain rfl := Option.some.inj h
  exact g_vret (pc := 77) hX hR d_Mo_remembers_77
def k_Mo_remembers_11 : Nat → Int32 → zsM → Option (zsM)
  | 0, _, _ => none
  | fu + 1, l1, x => (if l1 < (5065 : Int32) then (if zOut ((l1 + (1013 : Int32))) 6078 then none else (if zOut l1 6078 then none else k_Mo_remembers_11 fu ((l1 + (1 : Int32))) ((x.1, (va_up x.2 40 (upd ((x.2 40)) l1.toNatClampNeg ((((x.2 40)) ((l1 + (1013 : Int32))).toNatClampNeg)))))))) else k_Mo_remembers_50 (((upd x.1 42 (((x.1 42) - (1 : Int32)))), x.2)))
set_option maxRecDepth 20000 in
theorem w_Mo_remembers_11 {X : zX} {c : zY} {q : Nat → Nat} {out : zsM} (hX : Ok X zr_Mo zb_Mo_remembers 2 3 c) (hR : Rt X none none (zwM c q out)) : ∀ (fu : Nat) (l1 : Int32) (x : zsM), k_Mo_remembers_11 fu l1 x = some out → Go X (zwM c q x) [(0, .ref ((q 0))), (1, .int l1)] 11 [] := by
  intro fu
  induction fu with
  | zero => intro l1 x h; rw [k_Mo_remembers_11] at h; cases h
  | succ fu ih =>
    intro l1 x h
    rw [k_Mo_remembers_11] at h
    refine g_iload_n (pc := 11) hX d_Mo_remembers_11 rfl 1 rfl ?_
    refine g_sipush (pc := 12) hX d_Mo_remembers_12 zh_5065 ?_
    refine g_icmp_ge (pc := 15) (tgt := 40) hX d_Mo_remembers_15 (by decide) h (fun c3 h => ?_) (fun c3 h => ?_)
    · refine g_aload_n (pc := 40) hX d_Mo_remembers_40 rfl 0 rfl ?_
      refine g_dup (pc := 41) hX d_Mo_remembers_41 rfl ?_
      refine gf_Mo_317 (pc := 42) (v := .int ((x.1 42))) hX 0 rfl rfl d_Mo_remembers_42 ?_
      refine g_iconst (pc := 45) hX d_Mo_remembers_45 zc_1 ?_
      refine g_isub (pc := 46) hX d_Mo_remembers_46 ?_
      refine pf_Mo_317 (pc := 47) (w2 := (zwM c q (((upd x.1 42 (((x.1 42) - (1 : Int32)))), x.2)))) hX 0 rfl rfl (su_Mo_0_42 c q x (((x.1 42) - (1 : Int32)))) d_Mo_remembers_47 ?_
      refine g_ls (L' := [(0, .ref ((q 0)))]) [0] rfl ?_
      exact w_Mo_remembers_50 hX hR _ h
    · refine g_aload_n (pc := 18) hX d_Mo_remembers_18 rfl 0 rfl ?_
      refine gf_Mo_75 (pc := 19) (v := .ref ((q 21))) hX 0 rfl rfl d_Mo_remembers_19 ?_
      refine g_iload_n (pc := 22) hX d_Mo_remembers_22 rfl 1 rfl ?_
      refine g_aload_n (pc := 23) hX d_Mo_remembers_23 rfl 0 rfl ?_
      refine gf_Mo_75 (pc := 24) (v := .ref ((q 21))) hX 0 rfl rfl d_Mo_remembers_24 ?_
      refine g_iload_n (pc := 27) hX d_Mo_remembers_27 rfl 1 rfl ?_
      refine g_sipush (pc := 28) hX d_Mo_remembers_28 zh_1013 ?_
      refine g_iadd (pc := 31) hX d_Mo_remembers_31 ?_
      refine g_iald (pc := 32) (f := (x.2 40)) hX 21 rfl h d_Mo_remembers_32 (fun h => ?_)
      refine g_iast (pc := 33) (f := (x.2 40)) (w' := (zwM c q ((x.1, (va_up x.2 40 (upd ((x.2 40)) l1.toNatClampNeg ((((x.2 40)) ((l1 + (1013 : Int32))).toNatClampNeg)))))))) hX 21 rfl h (sa_Mo_21 c q x (upd ((x.2 40)) l1.toNatClampNeg ((((x.2 40)) ((l1 + (1013 : Int32))).toNatClampNeg)))) d_Mo_remembers_33 (fun h => ?_)
      refine g_iinc (pc := 34) (q := 1) (L' := [(1, .int ((l1 + (1 : Int32)))), (0, .ref ((q 0)))]) hX d_Mo_remembers_34 rfl zc_1 rfl rfl ?_
      refine g_goto (pc := 37) (tgt := 11) hX d_Mo_remembers_37 (by decide) ?_
      refine g_ls (L' := [(0, .ref ((q 0))), (1, .int ((l1 + (1 : Int32))))]) [1, 0] rfl ?_
      exact ih _ _ h
def k_Mo_remembers (x : zsM) : Option (zsM) := (if (x.1 42) = (6 : Int32) then k_Mo_remembers_11 zFu ((0 : Int32)) x else k_Mo_remembers_50 x)
set_option maxRecDepth 20000 in
theorem c_Mo_remembers (c : zY) (q : Nat → Nat) (x : zsM) {out : zsM} (h : k_Mo_remembers x = some out) : KM zy_Mo_remembers zb_Mo_remembers 2 none 3 c [.ref ((q 0))] (zwM c q x) (zwM c q out) none := zK_of zp_Mo rfl (Nat.le_of_ble_eq_true rfl) (zq_Mo c q _ _) (fun X hX hR => by
  show Go X (zwM c q x) [(0, .ref ((q 0)))] 0 []
  rw [k_Mo_remembers] at h
  refine g_aload_n (pc := 0) hX d_Mo_remembers_0 rfl 0 rfl ?_
  refine gf_Mo_317 (pc := 1) (v := .int ((x.1 42))) hX 0 rfl rfl d_Mo_remembers_1 ?_
  refine g_bipush (pc := 4) hX d_Mo_remembers_4 ze_6 ?_
  refine g_icmp_ne (pc := 6) (tgt := 50) hX d_Mo_remembers_6 (by decide) h (fun c1 h => ?_) (fun c1 h => ?_)
  · exact w_Mo_remembers_50 hX hR _ h
  · refine g_iconst (pc := 9) hX d_Mo_remembers_9 zc_0 ?_
    refine g_istore_n (pc := 10) (L' := [(1, .int ((0 : Int32))), (0, .ref ((q 0)))]) hX d_Mo_remembers_10 rfl rfl rfl ?_
    refine g_ls (L' := [(0, .ref ((q 0))), (1, .int ((0 : Int32)))]) [1, 0] rfl ?_
    exact w_Mo_remembers_11 hX hR _ _ _ h)
