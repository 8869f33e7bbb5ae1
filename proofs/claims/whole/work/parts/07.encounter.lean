theorem d_En_isOn_0 : decode zb_En_isOn 0 = .ok (.aload_n 0, 1) := by decide +kernel
theorem d_En_isOn_1 : decode zb_En_isOn 1 = .ok (.getfield 32, 3) := by decide +kernel
theorem d_En_isOn_4 : decode zb_En_isOn 4 = .ok (.ifCond .le 7, 3) := by decide +kernel
theorem d_En_isOn_7 : decode zb_En_isOn 7 = .ok (.iconst 1, 1) := by decide +kernel
theorem d_En_isOn_8 : decode zb_En_isOn 8 = .ok (.goto 4, 3) := by decide +kernel
theorem d_En_isOn_11 : decode zb_En_isOn 11 = .ok (.iconst 0, 1) := by decide +kernel
theorem d_En_isOn_12 : decode zb_En_isOn 12 = .ok (.ireturn, 1) := by decide +kernel
def k_En_isOn (x : zsE) : Option (Int32) := (if 0 < (x.2.2 4) then some ((1 : Int32)) else some ((0 : Int32)))
set_option maxRecDepth 20000 in
theorem c_En_isOn (c : zY) (q : Nat → Nat) (x : zsE) {out : Int32} (h : k_En_isOn x = some out) : KM zy_En_isOn zb_En_isOn 1 (some .boolean) 0 c [.ref ((q 9))] (zwE c q x) (zwE c q x) (some (.int out)) := zK_of zp_En rfl (Nat.le_of_ble_eq_true rfl) (zq_En c q _ _) (fun X hX hR => by
  show Go X (zwE c q x) [(0, .ref ((q 9)))] 0 []
  rw [k_En_isOn] at h
  refine g_aload_n (pc := 0) hX d_En_isOn_0 rfl 0 rfl ?_
  refine gf_En_32 (pc := 1) (v := .int ((x.2.2 4))) hX 9 rfl rfl d_En_isOn_1 ?_
  refine g_if_le (pc := 4) (tgt := 11) hX d_En_isOn_4 (by decide) h (fun c1 h => ?_) (fun c1 h => ?_)
  · refine g_iconst (pc := 11) hX d_En_isOn_11 zc_0 ?_
    obtain rfl := Option.some.inj h
    exact g_zret (pc := 12) hX hR (Or.inl rfl) d_En_isOn_12
  · refine g_iconst (pc := 7) hX d_En_isOn_7 zc_1 ?_
    refine g_goto (pc := 8) (tgt := 12) hX d_En_isOn_8 (by decide) ?_
    obtain rfl := Option.some.inj h
    exact g_zret (pc := 12) hX hR (Or.inr rfl) d_En_isOn_12)
theorem d_En_current_0 : decode zb_En_current 0 = .ok (.aload_n 0, 1) := by decide +kernel
theorem d_En_current_1 : decode zb_En_current 1 = .ok (.getfield 14, 3) := by decide +kernel
theorem d_En_current_4 : decode zb_En_current 4 = .ok (.aload_n 0, 1) := by decide +kernel
theorem d_En_current_5 : decode zb_En_current 5 = .ok (.getfield 36, 3) := by decide +kernel
theorem d_En_current_8 : decode zb_En_current 8 = .ok (.iconst 0, 1) := by decide +kernel
theorem d_En_current_9 : decode zb_En_current 9 = .ok (.invokevirtual 39, 3) := by decide +kernel
theorem d_En_current_12 : decode zb_En_current 12 = .ok (.ireturn, 1) := by decide +kernel
def k_En_current (x : zsE) : Option (Int32) := (k_Ta_get 1 8 x.2.1 ((x.2.2 5)) ((0 : Int32))).bind fun o1 => some o1
set_option maxRecDepth 20000 in
theorem c_En_current (c : zY) (q : Nat → Nat) (x : zsE) {out : Int32} (h : k_En_current x = some out) : KM zy_En_current zb_En_current 1 (some .int) 1 c [.ref ((q 9))] (zwE c q x) (zwE c q x) (some (.int out)) := zK_of zp_En rfl (Nat.le_of_ble_eq_true rfl) (zq_En c q _ _) (fun X hX hR => by
  show Go X (zwE c q x) [(0, .ref ((q 9)))] 0 []
  rw [k_En_current] at h
  refine g_aload_n (pc := 0) hX d_En_current_0 rfl 0 rfl ?_
  refine gf_En_14 (pc := 1) (v := .ref ((q 10))) hX 9 rfl rfl d_En_current_1 ?_
  refine g_aload_n (pc := 4) hX d_En_current_4 rfl 0 rfl ?_
  refine gf_En_36 (pc := 5) (v := .int ((x.2.2 5))) hX 9 rfl rfl d_En_current_5 ?_
  refine g_iconst (pc := 8) hX d_En_current_8 zc_0 ?_
  obtain ⟨o1, e1, h⟩ := zbind h
  refine g_cvI (pc := 9)  (st := []) (w' := (zwE c q x)) hX zk_Ta_get zs_Ta_get zL_En_39 (c_Ta_get c (q 10) (q 11) 1 8 x.2.1 ((x.2.2 5)) ((0 : Int32)) e1) rfl rfl rfl rfl (sp_En_Ta_10 c q x) (sp_En_Ta_10 c q x).symm 10 6 rfl rfl rfl d_En_current_9 ?_
  obtain rfl := Option.some.inj h
  exact g_iret (pc := 12) hX hR d_En_current_12)
theorem d_En_atPlace_0 : decode zb_En_atPlace 0 = .ok (.aload_n 0, 1) := by decide +kernel
theorem d_En_atPlace_1 : decode zb_En_atPlace 1 = .ok (.getfield 14, 3) := by decide +kernel
theorem d_En_atPlace_4 : decode zb_En_atPlace 4 = .ok (.iload_n 1, 1) := by decide +kernel
theorem d_En_atPlace_5 : decode zb_En_atPlace 5 = .ok (.invokevirtual 43, 3) := by decide +kernel
theorem d_En_atPlace_8 : decode zb_En_atPlace 8 = .ok (.ifCond .eq 15, 3) := by decide +kernel
theorem d_En_atPlace_11 : decode zb_En_atPlace 11 = .ok (.aload_n 0, 1) := by decide +kernel
theorem d_En_atPlace_12 : decode zb_En_atPlace 12 = .ok (.getfield 14, 3) := by decide +kernel
theorem d_En_atPlace_15 : decode zb_En_atPlace 15 = .ok (.iload_n 1, 1) := by decide +kernel
theorem d_En_atPlace_16 : decode zb_En_atPlace 16 = .ok (.iconst 0, 1) := by decide +kernel
theorem d_En_atPlace_17 : decode zb_En_atPlace 17 = .ok (.invokevirtual 39, 3) := by decide +kernel
theorem d_En_atPlace_20 : decode zb_En_atPlace 20 = .ok (.goto 5, 3) := by decide +kernel
theorem d_En_atPlace_23 : decode zb_En_atPlace 23 = .ok (.bipush (-5), 2) := by decide +kernel
theorem d_En_atPlace_25 : decode zb_En_atPlace 25 = .ok (.ireturn, 1) := by decide +kernel
def k_En_atPlace (x : zsE) (l1 : Int32) : Option (Int32) := (k_Ta_holds 1 8 x.2.1 l1).bind fun o1 => (if o1 = 0 then some ((-5 : Int32)) else (k_Ta_get 1 8 x.2.1 l1 ((0 : Int32))).bind fun o3 => some o3)
set_option maxRecDepth 20000 in
theorem c_En_atPlace (c : zY) (q : Nat → Nat) (x : zsE) (l1 : Int32) {out : Int32} (h : k_En_atPlace x l1 = some out) : KM zy_En_atPlace zb_En_atPlace 2 (some .int) 1 c [.ref ((q 9)), .int l1] (zwE c q x) (zwE c q x) (some (.int out)) := zK_of zp_En rfl (Nat.le_of_ble_eq_true rfl) (zq_En c q _ _) (fun X hX hR => by
  show Go X (zwE c q x) [(0, .ref ((q 9))), (1, .int l1)] 0 []
  rw [k_En_atPlace] at h
  refine g_aload_n (pc := 0) hX d_En_atPlace_0 rfl 0 rfl ?_
  refine gf_En_14 (pc := 1) (v := .ref ((q 10))) hX 9 rfl rfl d_En_atPlace_1 ?_
  refine g_iload_n (pc := 4) hX d_En_atPlace_4 rfl 1 rfl ?_
  obtain ⟨o1, e1, h⟩ := zbind h
  refine g_cvI (pc := 5)  (st := []) (w' := (zwE c q x)) hX zk_Ta_holds zs_Ta_holds zL_En_43 (c_Ta_holds c (q 10) (q 11) 1 8 x.2.1 l1 e1) rfl rfl rfl rfl (sp_En_Ta_10 c q x) (sp_En_Ta_10 c q x).symm 10 6 rfl rfl rfl d_En_atPlace_5 ?_
  refine g_if_eq (pc := 8) (tgt := 23) hX d_En_atPlace_8 (by decide) h (fun c2 h => ?_) (fun c2 h => ?_)
  · refine g_bipush (pc := 23) hX d_En_atPlace_23 ze_m5 ?_
    obtain rfl := Option.some.inj h
    exact g_iret (pc := 25) hX hR d_En_atPlace_25
  · refine g_aload_n (pc := 11) hX d_En_atPlace_11 rfl 0 rfl ?_
    refine gf_En_14 (pc := 12) (v := .ref ((q 10))) hX 9 rfl rfl d_En_atPlace_12 ?_
    refine g_iload_n (pc := 15) hX d_En_atPlace_15 rfl 1 rfl ?_
    refine g_iconst (pc := 16) hX d_En_atPlace_16 zc_0 ?_
    obtain ⟨o3, e3, h⟩ := zbind h
    refine g_cvI (pc := 17)  (st := []) (w' := (zwE c q x)) hX zk_Ta_get zs_Ta_get zL_En_39 (c_Ta_get c (q 10) (q 11) 1 8 x.2.1 l1 ((0 : Int32)) e3) rfl rfl rfl rfl (sp_En_Ta_10 c q x) (sp_En_Ta_10 c q x).symm 10 6 rfl rfl rfl d_En_atPlace_17 ?_
    refine g_goto (pc := 20) (tgt := 25) hX d_En_atPlace_20 (by decide) ?_
    obtain rfl := Option.some.inj h
    exact g_iret (pc := 25) hX hR d_En_atPlace_25)
theorem d_En_placeOf_0 : decode zb_En_placeOf 0 = .ok (.iconst 0, 1) := by decide +kernel
theorem d_En_placeOf_1 : decode zb_En_placeOf 1 = .ok (.istore_n 2, 1) := by decide +kernel
theorem d_En_placeOf_2 : decode zb_En_placeOf 2 = .ok (.iload_n 2, 1) := by decide +kernel
theorem d_En_placeOf_3 : decode zb_En_placeOf 3 = .ok (.aload_n 0, 1) := by decide +kernel
theorem d_En_placeOf_4 : decode zb_En_placeOf 4 = .ok (.getfield 14, 3) := by decide +kernel
theorem d_En_placeOf_7 : decode zb_En_placeOf 7 = .ok (.invokevirtual 47, 3) := by decide +kernel
theorem d_En_placeOf_10 : decode zb_En_placeOf 10 = .ok (.if_icmp .ge 24, 3) := by decide +kernel
theorem d_En_placeOf_13 : decode zb_En_placeOf 13 = .ok (.aload_n 0, 1) := by decide +kernel
theorem d_En_placeOf_14 : decode zb_En_placeOf 14 = .ok (.getfield 14, 3) := by decide +kernel
theorem d_En_placeOf_17 : decode zb_En_placeOf 17 = .ok (.iload_n 2, 1) := by decide +kernel
theorem d_En_placeOf_18 : decode zb_En_placeOf 18 = .ok (.iconst 0, 1) := by decide +kernel
theorem d_En_placeOf_19 : decode zb_En_placeOf 19 = .ok (.invokevirtual 39, 3) := by decide +kernel
theorem d_En_placeOf_22 : decode zb_En_placeOf 22 = .ok (.iload_n 1, 1) := by decide +kernel
theorem d_En_placeOf_23 : decode zb_En_placeOf 23 = .ok (.if_icmp .ne 5, 3) := by decide +kernel
theorem d_En_placeOf_26 : decode zb_En_placeOf 26 = .ok (.iload_n 2, 1) := by decide +kernel
theorem d_En_placeOf_27 : decode zb_En_placeOf 27 = .ok (.ireturn, 1) := by decide +kernel
theorem d_En_placeOf_28 : decode zb_En_placeOf 28 = .ok (.iinc 2 1, 3) := by decide +kernel
theorem d_En_placeOf_31 : decode zb_En_placeOf 31 = .ok (.goto (-29), 3) := by decide +kernel
theorem d_En_placeOf_34 : decode zb_En_placeOf 34 = .ok (.bipush (-5), 2) := by decide +kernel
theorem d_En_placeOf_36 : decode zb_En_placeOf 36 = .ok (.ireturn, 1) := by decide +kernel
def k_En_placeOf_2 (x : zsE) (l1 : Int32) : Nat → Int32 → Option (Int32)
  | 0, _ => none
  | fu + 1, l2 => (k_Ta_used 1 8 x.2.1).bind fun o1 => (if l2 < o1 then (k_Ta_get 1 8 x.2.1 l2 ((0 : Int32))).bind fun o3 => (if o3 = l1 then some l2 else k_En_placeOf_2 x l1 fu ((l2 + (1 : Int32)))) else some ((-5 : Int32)))
set_option maxRecDepth 20000 in
theorem w_En_placeOf_2 {X : zX} {c : zY} {q : Nat → Nat} {x : zsE} {l1 : Int32} {out : Int32} (hX : Ok X zr_En zb_En_placeOf 3 1 c) (hR : Rt X (some .int) (some (.int out)) (zwE c q x)) : ∀ (fu : Nat) (l2 : Int32), k_En_placeOf_2 x l1 fu l2 = some out → Go X (zwE c q x) [(0, .ref ((q 9))), (1, .int l1), (2, .int l2)] 2 [] := by
  intro fu
  induction fu with
  | zero => intro l2 h; rw [k_En_placeOf_2] at h; cases h
  | succ fu ih =>
    intro l2 h
    rw [k_En_placeOf_2] at h
    refine g_iload_n (pc := 2) hX d_En_placeOf_2 rfl 2 rfl ?_
    refine g_aload_n (pc := 3) hX d_En_placeOf_3 rfl 0 rfl ?_
    refine gf_En_14 (pc := 4) (v := .ref ((q 10))) hX 9 rfl rfl d_En_placeOf_4 ?_
    obtain ⟨o1, e1, h⟩ := zbind h
    refine g_cvI (pc := 7)  (st := [.int l2]) (w' := (zwE c q x)) hX zk_Ta_used zs_Ta_used zL_En_47 (c_Ta_used c (q 10) (q 11) 1 8 x.2.1 e1) rfl rfl rfl rfl (sp_En_Ta_10 c q x) (sp_En_Ta_10 c q x).symm 10 6 rfl rfl rfl d_En_placeOf_7 ?_
    refine g_icmp_ge (pc := 10) (tgt := 34) hX d_En_placeOf_10 (by decide) h (fun c2 h => ?_) (fun c2 h => ?_)
    · refine g_bipush (pc := 34) hX d_En_placeOf_34 ze_m5 ?_
      obtain rfl := Option.some.inj h
      exact g_iret (pc := 36) hX hR d_En_placeOf_36
    · refine g_aload_n (pc := 13) hX d_En_placeOf_13 rfl 0 rfl ?_
      refine gf_En_14 (pc := 14) (v := .ref ((q 10))) hX 9 rfl rfl d_En_placeOf_14 ?_
      refine g_iload_n (pc := 17) hX d_En_placeOf_17 rfl 2 rfl ?_
      refine g_iconst (pc := 18) hX d_En_placeOf_18 zc_0 ?_
      obtain ⟨o3, e3, h⟩ := zbind h
      refine g_cvI (pc := 19)  (st := []) (w' := (zwE c q x)) hX zk_Ta_get zs_Ta_get zL_En_39 (c_Ta_get c (q 10) (q 11) 1 8 x.2.1 l2 ((0 : Int32)) e3) rfl rfl rfl rfl (sp_En_Ta_10 c q x) (sp_En_Ta_10 c q x).symm 10 6 rfl rfl rfl d_En_placeOf_19 ?_
      refine g_iload_n (pc := 22) hX d_En_placeOf_22 rfl 1 rfl ?_
      refine g_icmp_ne (pc := 23) (tgt := 28) hX d_En_placeOf_23 (by decide) h (fun c4 h => ?_) (fun c4 h => ?_)
      · refine g_iinc (pc := 28) (q := 2) (L' := [(2, .int ((l2 + (1 : Int32)))), (0, .ref ((q 9))), (1, .int l1)]) hX d_En_placeOf_28 rfl zc_1 rfl rfl ?_
        refine g_goto (pc := 31) (tgt := 2) hX d_En_placeOf_31 (by decide) ?_
        refine g_ls (L' := [(0, .ref ((q 9))), (1, .int l1), (2, .int ((l2 + (1 : Int32))))]) [1, 2, 0] rfl ?_
        exact ih _ h
      · refine g_iload_n (pc := 26) hX d_En_placeOf_26 rfl 2 rfl ?_
        obtain rfl := Option.some.inj h
        exact g_iret (pc := 27) hX hR d_En_placeOf_27
def k_En_placeOf (x : zsE) (l1 : Int32) : Option (Int32) := k_En_placeOf_2 x l1 zFu ((0 : Int32))
set_option maxRecDepth 20000 in
theorem c_En_placeOf (c : zY) (q : Nat → Nat) (x : zsE) (l1 : Int32) {out : Int32} (h : k_En_placeOf x l1 = some out) : KM zy_En_placeOf zb_En_placeOf 3 (some .int) 1 c [.ref ((q 9)), .int l1] (zwE c q x) (zwE c q x) (some (.int out)) := zK_of zp_En rfl (Nat.le_of_ble_eq_true rfl) (zq_En c q _ _) (fun X hX hR => by
  show Go X (zwE c q x) [(0, .ref ((q 9))), (1, .int l1)] 0 []
  rw [k_En_placeOf] at h
  refine g_iconst (pc := 0) hX d_En_placeOf_0 zc_0 ?_
  refine g_istore_n (pc := 1) (L' := [(2, .int ((0 : Int32))), (0, .ref ((q 9))), (1, .int l1)]) hX d_En_placeOf_1 rfl rfl rfl ?_
  refine g_ls (L' := [(0, .ref ((q 9))), (1, .int l1), (2, .int ((0 : Int32)))]) [1, 2, 0] rfl ?_
  exact w_En_placeOf_2 hX hR _ _ h)
theorem d_En_inOrder_0 : decode zb_En_inOrder 0 = .ok (.aload_n 0, 1) := by decide +kernel
theorem d_En_inOrder_1 : decode zb_En_inOrder 1 = .ok (.getfield 14, 3) := by decide +kernel
theorem d_En_inOrder_4 : decode zb_En_inOrder 4 = .ok (.iload_n 1, 1) := by decide +kernel
theorem d_En_inOrder_5 : decode zb_En_inOrder 5 = .ok (.invokevirtual 43, 3) := by decide +kernel
theorem d_En_inOrder_8 : decode zb_En_inOrder 8 = .ok (.ifCond .eq 15, 3) := by decide +kernel
theorem d_En_inOrder_11 : decode zb_En_inOrder 11 = .ok (.aload_n 0, 1) := by decide +kernel
theorem d_En_inOrder_12 : decode zb_En_inOrder 12 = .ok (.getfield 14, 3) := by decide +kernel
theorem d_En_inOrder_15 : decode zb_En_inOrder 15 = .ok (.iload_n 1, 1) := by decide +kernel
theorem d_En_inOrder_16 : decode zb_En_inOrder 16 = .ok (.iconst 0, 1) := by decide +kernel
theorem d_En_inOrder_17 : decode zb_En_inOrder 17 = .ok (.invokevirtual 39, 3) := by decide +kernel
theorem d_En_inOrder_20 : decode zb_En_inOrder 20 = .ok (.goto 4, 3) := by decide +kernel
theorem d_En_inOrder_23 : decode zb_En_inOrder 23 = .ok (.iload_n 1, 1) := by decide +kernel
theorem d_En_inOrder_24 : decode zb_En_inOrder 24 = .ok (.ireturn, 1) := by decide +kernel
def k_En_inOrder (x : zsE) (l1 : Int32) : Option (Int32) := (k_Ta_holds 1 8 x.2.1 l1).bind fun o1 => (if o1 = 0 then some l1 else (k_Ta_get 1 8 x.2.1 l1 ((0 : Int32))).bind fun o3 => some o3)
set_option maxRecDepth 20000 in
theorem c_En_inOrder (c : zY) (q : Nat → Nat) (x : zsE) (l1 : Int32) {out : Int32} (h : k_En_inOrder x l1 = some out) : KM zy_En_inOrder zb_En_inOrder 2 (some .int) 1 c [.ref ((q 9)), .int l1] (zwE c q x) (zwE c q x) (some (.int out)) := zK_of zp_En rfl (Nat.le_of_ble_eq_true rfl) (zq_En c q _ _) (fun X hX hR => by
  show Go X (zwE c q x) [(0, .ref ((q 9))), (1, .int l1)] 0 []
  rw [k_En_inOrder] at h
  refine g_aload_n (pc := 0) hX d_En_inOrder_0 rfl 0 rfl ?_
  refine gf_En_14 (pc := 1) (v := .ref ((q 10))) hX 9 rfl rfl d_En_inOrder_1 ?_
  refine g_iload_n (pc := 4) hX d_En_inOrder_4 rfl 1 rfl ?_
  obtain ⟨o1, e1, h⟩ := zbind h
  refine g_cvI (pc := 5)  (st := []) (w' := (zwE c q x)) hX zk_Ta_holds zs_Ta_holds zL_En_43 (c_Ta_holds c (q 10) (q 11) 1 8 x.2.1 l1 e1) rfl rfl rfl rfl (sp_En_Ta_10 c q x) (sp_En_Ta_10 c q x).symm 10 6 rfl rfl rfl d_En_inOrder_5 ?_
  refine g_if_eq (pc := 8) (tgt := 23) hX d_En_inOrder_8 (by decide) h (fun c2 h => ?_) (fun c2 h => ?_)
  · refine g_iload_n (pc := 23) hX d_En_inOrder_23 rfl 1 rfl ?_
    obtain rfl := Option.some.inj h
    exact g_iret (pc := 24) hX hR d_En_inOrder_24
  · refine g_aload_n (pc := 11) hX d_En_inOrder_11 rfl 0 rfl ?_
    refine gf_En_14 (pc := 12) (v := .ref ((q 10))) hX 9 rfl rfl d_En_inOrder_12 ?_
    refine g_iload_n (pc := 15) hX d_En_inOrder_15 rfl 1 rfl ?_
    refine g_iconst (pc := 16) hX d_En_inOrder_16 zc_0 ?_
    obtain ⟨o3, e3, h⟩ := zbind h
    refine g_cvI (pc := 17)  (st := []) (w' := (zwE c q x)) hX zk_Ta_get zs_Ta_get zL_En_39 (c_Ta_get c (q 10) (q 11) 1 8 x.2.1 l1 ((0 : Int32)) e3) rfl rfl rfl rfl (sp_En_Ta_10 c q x) (sp_En_Ta_10 c q x).symm 10 6 rfl rfl rfl d_En_inOrder_17 ?_
    refine g_goto (pc := 20) (tgt := 24) hX d_En_inOrder_20 (by decide) ?_
    obtain rfl := Option.some.inj h
    exact g_iret (pc := 24) hX hR d_En_inOrder_24)
theorem d_En_isAhead_0 : decode zb_En_isAhead 0 = .ok (.aload_n 0, 1) := by decide +kernel
theorem d_En_isAhead_1 : decode zb_En_isAhead 1 = .ok (.getfield 20, 3) := by decide +kernel
theorem d_En_isAhead_4 : decode zb_En_isAhead 4 = .ok (.iload_n 1, 1) := by decide +kernel
theorem d_En_isAhead_5 : decode zb_En_isAhead 5 = .ok (.bipush 6, 2) := by decide +kernel
theorem d_En_isAhead_7 : decode zb_En_isAhead 7 = .ok (.invokevirtual 57, 3) := by decide +kernel
theorem d_En_isAhead_10 : decode zb_En_isAhead 10 = .ok (.aload_n 0, 1) := by decide +kernel
theorem d_En_isAhead_11 : decode zb_En_isAhead 11 = .ok (.getfield 20, 3) := by decide +kernel
theorem d_En_isAhead_14 : decode zb_En_isAhead 14 = .ok (.iload_n 2, 1) := by decide +kernel
theorem d_En_isAhead_15 : decode zb_En_isAhead 15 = .ok (.bipush 6, 2) := by decide +kernel
theorem d_En_isAhead_17 : decode zb_En_isAhead 17 = .ok (.invokevirtual 57, 3) := by decide +kernel
theorem d_En_isAhead_20 : decode zb_En_isAhead 20 = .ok (.isub, 1) := by decide +kernel
theorem d_En_isAhead_21 : decode zb_En_isAhead 21 = .ok (.istore_n 3, 1) := by decide +kernel
theorem d_En_isAhead_22 : decode zb_En_isAhead 22 = .ok (.aload_n 0, 1) := by decide +kernel
theorem d_En_isAhead_23 : decode zb_En_isAhead 23 = .ok (.getfield 20, 3) := by decide +kernel
theorem d_En_isAhead_26 : decode zb_En_isAhead 26 = .ok (.iload_n 1, 1) := by decide +kernel
theorem d_En_isAhead_27 : decode zb_En_isAhead 27 = .ok (.iconst 4, 1) := by decide +kernel
theorem d_En_isAhead_28 : decode zb_En_isAhead 28 = .ok (.invokevirtual 57, 3) := by decide +kernel
theorem d_En_isAhead_31 : decode zb_En_isAhead 31 = .ok (.aload_n 0, 1) := by decide +kernel
theorem d_En_isAhead_32 : decode zb_En_isAhead 32 = .ok (.getfield 20, 3) := by decide +kernel
theorem d_En_isAhead_35 : decode zb_En_isAhead 35 = .ok (.iload_n 2, 1) := by decide +kernel
theorem d_En_isAhead_36 : decode zb_En_isAhead 36 = .ok (.iconst 4, 1) := by decide +kernel
theorem d_En_isAhead_37 : decode zb_En_isAhead 37 = .ok (.invokevirtual 57, 3) := by decide +kernel
theorem d_En_isAhead_40 : decode zb_En_isAhead 40 = .ok (.isub, 1) := by decide +kernel
theorem d_En_isAhead_41 : decode zb_En_isAhead 41 = .ok (.istore 4, 2) := by decide +kernel
theorem d_En_isAhead_43 : decode zb_En_isAhead 43 = .ok (.iload_n 3, 1) := by decide +kernel
theorem d_En_isAhead_44 : decode zb_En_isAhead 44 = .ok (.ifCond .gt 12, 3) := by decide +kernel
theorem d_En_isAhead_47 : decode zb_En_isAhead 47 = .ok (.iload_n 3, 1) := by decide +kernel
theorem d_En_isAhead_48 : decode zb_En_isAhead 48 = .ok (.ifCond .ne 12, 3) := by decide +kernel
theorem d_En_isAhead_51 : decode zb_En_isAhead 51 = .ok (.iload 4, 2) := by decide +kernel
theorem d_En_isAhead_53 : decode zb_En_isAhead 53 = .ok (.ifCond .le 7, 3) := by decide +kernel
theorem d_En_isAhead_56 : decode zb_En_isAhead 56 = .ok (.iconst 1, 1) := by decide +kernel
theorem d_En_isAhead_57 : decode zb_En_isAhead 57 = .ok (.goto 4, 3) := by decide +kernel
theorem d_En_isAhead_60 : decode zb_En_isAhead 60 = .ok (.iconst 0, 1) := by decide +kernel
theorem d_En_isAhead_61 : decode zb_En_isAhead 61 = .ok (.ireturn, 1) := by decide +kernel
def k_En_isAhead (x : zsE) (l1 : Int32) (l2 : Int32) : Option (Int32) := (k_Fi_at x.1 l1 ((6 : Int32))).bind fun o1 => (k_Fi_at x.1 l2 ((6 : Int32))).bind fun o2 => (k_Fi_at x.1 l1 ((4 : Int32))).bind fun o3 => (k_Fi_at x.1 l2 ((4 : Int32))).bind fun o4 => (if 0 < (o1 - o2) then some ((1 : Int32)) else (if (o1 - o2) = 0 then (if 0 < (o3 - o4) then some ((1 : Int32)) else some ((0 : Int32))) else some ((0 : Int32))))
set_option maxRecDepth 20000 in
theorem c_En_isAhead (c : zY) (q : Nat → Nat) (x : zsE) (l1 : Int32) (l2 : Int32) {out : Int32} (h : k_En_isAhead x l1 l2 = some out) : KM zy_En_isAhead zb_En_isAhead 5 (some .boolean) 2 c [.ref ((q 9)), .int l1, .int l2] (zwE c q x) (zwE c q x) (some (.int out)) := zK_of zp_En rfl (Nat.le_of_ble_eq_true rfl) (zq_En c q _ _) (fun X hX hR => by
  show Go X (zwE c q x) [(0, .ref ((q 9))), (1, .int l1), (2, .int l2)] 0 []
  rw [k_En_isAhead] at h
  refine g_aload_n (pc := 0) hX d_En_isAhead_0 rfl 0 rfl ?_
  refine gf_En_20 (pc := 1) (v := .ref ((q 6))) hX 9 rfl rfl d_En_isAhead_1 ?_
  refine g_iload_n (pc := 4) hX d_En_isAhead_4 rfl 1 rfl ?_
  refine g_bipush (pc := 5) hX d_En_isAhead_5 ze_6 ?_
  obtain ⟨o1, e1, h⟩ := zbind h
  refine g_cvI (pc := 7)  (st := []) (w' := (zwE c q x)) hX zk_Fi_at zs_Fi_at zL_En_57 (c_Fi_at c q x.1 l1 ((6 : Int32)) e1) rfl rfl rfl rfl (sp_En_Fi_0 c q x) (sp_En_Fi_0 c q x).symm 6 3 rfl rfl rfl d_En_isAhead_7 ?_
  refine g_aload_n (pc := 10) hX d_En_isAhead_10 rfl 0 rfl ?_
  refine gf_En_20 (pc := 11) (v := .ref ((q 6))) hX 9 rfl rfl d_En_isAhead_11 ?_
  refine g_iload_n (pc := 14) hX d_En_isAhead_14 rfl 2 rfl ?_
  refine g_bipush (pc := 15) hX d_En_isAhead_15 ze_6 ?_
  obtain ⟨o2, e2, h⟩ := zbind h
  refine g_cvI (pc := 17)  (st := [.int o1]) (w' := (zwE c q x)) hX zk_Fi_at zs_Fi_at zL_En_57 (c_Fi_at c q x.1 l2 ((6 : Int32)) e2) rfl rfl rfl rfl (sp_En_Fi_0 c q x) (sp_En_Fi_0 c q x).symm 6 3 rfl rfl rfl d_En_isAhead_17 ?_
  refine g_isub (pc := 20) hX d_En_isAhead_20 ?_
  refine g_istore_n (pc := 21) (L' := [(3, .int ((o1 - o2))), (0, .ref ((q 9))), (1, .int l1), (2, .int l2)]) hX d_En_isAhead_21 rfl rfl rfl ?_
  refine g_aload_n (pc := 22) hX d_En_isAhead_22 rfl 1 rfl ?_
  refine gf_En_20 (pc := 23) (v := .ref ((q 6))) hX 9 rfl rfl d_En_isAhead_23 ?_
  refine g_iload_n (pc := 26) hX d_En_isAhead_26 rfl 2 rfl ?_
  refine g_iconst (pc := 27) hX d_En_isAhead_27 zc_4 ?_
  obtain ⟨o3, e3, h⟩ := zbind h
  refine g_cvI (pc := 28)  (st := []) (w' := (zwE c q x)) hX zk_Fi_at zs_Fi_at zL_En_57 (c_Fi_at c q x.1 l1 ((4 : Int32)) e3) rfl rfl rfl rfl (sp_En_Fi_0 c q x) (sp_En_Fi_0 c q x).symm 6 3 rfl rfl rfl d_En_isAhead_28 ?_
  refine g_aload_n (pc := 31) hX d_En_isAhead_31 rfl 1 rfl ?_
  refine gf_En_20 (pc := 32) (v := .ref ((q 6))) hX 9 rfl rfl d_En_isAhead_32 ?_
  refine g_iload_n (pc := 35) hX d_En_isAhead_35 rfl 3 rfl ?_
  refine g_iconst (pc := 36) hX d_En_isAhead_36 zc_4 ?_
  obtain ⟨o4, e4, h⟩ := zbind h
  refine g_cvI (pc := 37)  (st := [.int o3]) (w' := (zwE c q x)) hX zk_Fi_at zs_Fi_at zL_En_57 (c_Fi_at c q x.1 l2 ((4 : Int32)) e4) rfl rfl rfl rfl (sp_En_Fi_0 c q x) (sp_En_Fi_0 c q x).symm 6 3 rfl rfl rfl d_En_isAhead_37 ?_
  refine g_isub (pc := 40) hX d_En_isAhead_40 ?_
  refine g_istore (pc := 41) (L' := [(4, .int ((o3 - o4))), (3, .int ((o1 - o2))), (0, .ref ((q 9))), (1, .int l1), (2, .int l2)]) hX d_En_isAhead_41 rfl rfl ?_
  refine g_iload_n (pc := 43) hX d_En_isAhead_43 rfl 1 rfl ?_
  refine g_if_gt (pc := 44) (tgt := 56) hX d_En_isAhead_44 (by decide) h (fun c5 h => ?_) (fun c5 h => ?_)
  · refine g_iconst (pc := 56) hX d_En_isAhead_56 zc_1 ?_
    refine g_goto (pc := 57) (tgt := 61) hX d_En_isAhead_57 (by decide) ?_
    obtain rfl := Option.some.inj h
    exact g_zret (pc := 61) hX hR (Or.inr rfl) d_En_isAhead_61
  · refine g_iload_n (pc := 47) hX d_En_isAhead_47 rfl 1 rfl ?_
    refine g_if_ne (pc := 48) (tgt := 60) hX d_En_isAhead_48 (by decide) h (fun c6 h => ?_) (fun c6 h => ?_)
    · refine g_iconst (pc := 60) hX d_En_isAhead_60 zc_0 ?_
      obtain rfl := Option.some.inj h
      exact g_zret (pc := 61) hX hR (Or.inl rfl) d_En_isAhead_61
    · refine g_iload (pc := 51) hX d_En_isAhead_51 0 rfl ?_
      refine g_if_le (pc := 53) (tgt := 60) hX d_En_isAhead_53 (by decide) h (fun c7 h => ?_) (fun c7 h => ?_)
      · refine g_iconst (pc := 60) hX d_En_isAhead_60 zc_0 ?_
        obtain rfl := Option.some.inj h
        exact g_zret (pc := 61) hX hR (Or.inl rfl) d_En_isAhead_61
      · refine g_iconst (pc := 56) hX d_En_isAhead_56 zc_1 ?_
        refine g_goto (pc := 57) (tgt := 61) hX d_En_isAhead_57 (by decide) ?_
        obtain rfl := Option.some.inj h
        exact g_zret (pc := 61) hX hR (Or.inr rfl) d_En_isAhead_61)
theorem d_En_insert_0 : decode zb_En_insert 0 = .ok (.aload_n 0, 1) := by decide +kernel
theorem d_En_insert_1 : decode zb_En_insert 1 = .ok (.getfield 14, 3) := by decide +kernel
theorem d_En_insert_4 : decode zb_En_insert 4 = .ok (.invokevirtual 70, 3) := by decide +kernel
theorem d_En_insert_7 : decode zb_En_insert 7 = .ok (.istore_n 2, 1) := by decide +kernel
theorem d_En_insert_8 : decode zb_En_insert 8 = .ok (.iload_n 2, 1) := by decide +kernel
theorem d_En_insert_9 : decode zb_En_insert 9 = .ok (.ifCond .le 39, 3) := by decide +kernel
theorem d_En_insert_12 : decode zb_En_insert 12 = .ok (.aload_n 0, 1) := by decide +kernel
theorem d_En_insert_13 : decode zb_En_insert 13 = .ok (.iload_n 1, 1) := by decide +kernel
theorem d_En_insert_14 : decode zb_En_insert 14 = .ok (.aload_n 0, 1) := by decide +kernel
theorem d_En_insert_15 : decode zb_En_insert 15 = .ok (.getfield 14, 3) := by decide +kernel
theorem d_En_insert_18 : decode zb_En_insert 18 = .ok (.iload_n 2, 1) := by decide +kernel
theorem d_En_insert_19 : decode zb_En_insert 19 = .ok (.iconst 1, 1) := by decide +kernel
theorem d_En_insert_20 : decode zb_En_insert 20 = .ok (.isub, 1) := by decide +kernel
theorem d_En_insert_21 : decode zb_En_insert 21 = .ok (.iconst 0, 1) := by decide +kernel
theorem d_En_insert_22 : decode zb_En_insert 22 = .ok (.invokevirtual 39, 3) := by decide +kernel
theorem d_En_insert_25 : decode zb_En_insert 25 = .ok (.invokevirtual 73, 3) := by decide +kernel
theorem d_En_insert_28 : decode zb_En_insert 28 = .ok (.ifCond .eq 20, 3) := by decide +kernel
theorem d_En_insert_31 : decode zb_En_insert 31 = .ok (.aload_n 0, 1) := by decide +kernel
theorem d_En_insert_32 : decode zb_En_insert 32 = .ok (.getfield 14, 3) := by decide +kernel
theorem d_En_insert_35 : decode zb_En_insert 35 = .ok (.iload_n 2, 1) := by decide +kernel
theorem d_En_insert_36 : decode zb_En_insert 36 = .ok (.iconst 1, 1) := by decide +kernel
theorem d_En_insert_37 : decode zb_En_insert 37 = .ok (.isub, 1) := by decide +kernel
theorem d_En_insert_38 : decode zb_En_insert 38 = .ok (.iload_n 2, 1) := by decide +kernel
theorem d_En_insert_39 : decode zb_En_insert 39 = .ok (.invokevirtual 77, 3) := by decide +kernel
theorem d_En_insert_42 : decode zb_En_insert 42 = .ok (.iinc 2 (-1), 3) := by decide +kernel
theorem d_En_insert_45 : decode zb_En_insert 45 = .ok (.goto (-37), 3) := by decide +kernel
theorem d_En_insert_48 : decode zb_En_insert 48 = .ok (.aload_n 0, 1) := by decide +kernel
theorem d_En_insert_49 : decode zb_En_insert 49 = .ok (.getfield 14, 3) := by decide +kernel
theorem d_En_insert_52 : decode zb_En_insert 52 = .ok (.iload_n 2, 1) := by decide +kernel
theorem d_En_insert_53 : decode zb_En_insert 53 = .ok (.iconst 0, 1) := by decide +kernel
theorem d_En_insert_54 : decode zb_En_insert 54 = .ok (.iload_n 1, 1) := by decide +kernel
theorem d_En_insert_55 : decode zb_En_insert 55 = .ok (.invokevirtual 81, 3) := by decide +kernel
theorem d_En_insert_58 : decode zb_En_insert 58 = .ok (.return_, 1) := by decide +kernel
def k_En_insert_8 (l1 : Int32) : Nat → Int32 → zsE → Option (zsE)
  | 0, _, _ => none
  | fu + 1, l2, x => (if 0 < l2 then (k_Ta_get 1 8 x.2.1 ((l2 - (1 : Int32))) ((0 : Int32))).bind fun o4 => (k_En_isAhead x l1 o4).bind fun o5 => (if o5 = 0 then (k_Ta_set 1 8 x.2.1 l2 ((0 : Int32)) l1).bind fun o7 => some ((x.1, o7, x.2.2)) else (k_Ta_copyRow 1 8 x.2.1 ((l2 - (1 : Int32))) l2).bind fun o8 => k_En_insert_8 l1 fu ((l2 + (-1 : Int32))) ((x.1, o8, x.2.2))) else (k_Ta_set 1 8 x.2.1 l2 ((0 : Int32)) l1).bind fun o3 => some ((x.1, o3, x.2.2)))
set_option maxRecDepth 20000 in
theorem w_En_insert_8 {X : zX} {c : zY} {q : Nat → Nat} {l1 : Int32} {out : zsE} (hX : Ok X zr_En zb_En_insert 3 3 c) (hR : Rt X none none (zwE c q out)) : ∀ (fu : Nat) (l2 : Int32) (x : zsE), k_En_insert_8 l1 fu l2 x = some out → Go X (zwE c q x) [(0, .ref ((q 9))), (1, .int l1), (2, .int l2)] 8 [] := by
  intro fu
  induction fu with
  | zero => intro l2 x h; rw [k_En_insert_8] at h; cases h
  | succ fu ih =>
    intro l2 x h
    rw [k_En_insert_8] at h
    refine g_iload_n (pc := 8) hX d_En_insert_8 rfl 2 rfl ?_
    refine g_if_le (pc := 9) (tgt := 48) hX d_En_insert_9 (by decide) h (fun c2 h => ?_) (fun c2 h => ?_)
    · refine g_aload_n (pc := 48) hX d_En_insert_48 rfl 0 rfl ?_
      refine gf_En_14 (pc := 49) (v := .ref ((q 10))) hX 9 rfl rfl d_En_insert_49 ?_
      refine g_iload_n (pc := 52) hX d_En_insert_52 rfl 2 rfl ?_
      refine g_iconst (pc := 53) hX d_En_insert_53 zc_0 ?_
      refine g_iload_n (pc := 54) hX d_En_insert_54 rfl 1 rfl ?_
      obtain ⟨o3, e3, h⟩ := zbind h
      refine g_cvV (pc := 55)  (st := []) (w' := (zwE c q ((x.1, o3, x.2.2)))) hX zk_Ta_set zs_Ta_set zL_En_81 (c_Ta_set c (q 10) (q 11) 1 8 x.2.1 l2 ((0 : Int32)) l1 e3) rfl rfl rfl rfl (sp_En_Ta_10 c q x) (sq_En_Ta_10 c q x o3) 10 6 rfl rfl rfl d_En_insert_55 ?_
      obtain rfl := Option.some.inj h
      exact g_vret (pc := 58) hX hR d_En_insert_58
    · refine g_aload_n (pc := 12) hX d_En_insert_12 rfl 0 rfl ?_
      refine g_iload_n (pc := 13) hX d_En_insert_13 rfl 1 rfl ?_
      refine g_aload_n (pc := 14) hX d_En_insert_14 rfl 0 rfl ?_
      refine gf_En_14 (pc := 15) (v := .ref ((q 10))) hX 9 rfl rfl d_En_insert_15 ?_
      refine g_iload_n (pc := 18) hX d_En_insert_18 rfl 2 rfl ?_
      refine g_iconst (pc := 19) hX d_En_insert_19 zc_1 ?_
      refine g_isub (pc := 20) hX d_En_insert_20 ?_
      refine g_iconst (pc := 21) hX d_En_insert_21 zc_0 ?_
      obtain ⟨o4, e4, h⟩ := zbind h
      refine g_cvI (pc := 22)  (st := [.int l1, .ref ((q 9))]) (w' := (zwE c q x)) hX zk_Ta_get zs_Ta_get zL_En_39 (c_Ta_get c (q 10) (q 11) 1 8 x.2.1 ((l2 - (1 : Int32))) ((0 : Int32)) e4) rfl rfl rfl rfl (sp_En_Ta_10 c q x) (sp_En_Ta_10 c q x).symm 10 6 rfl rfl rfl d_En_insert_22 ?_
      obtain ⟨o5, e5, h⟩ := zbind h
      refine g_cvI (pc := 25) (w1 := []) (w2 := []) (st := []) (w' := (zwE c q x)) hX zk_En_isAhead zs_En_isAhead zL_En_73 (c_En_isAhead c q x l1 o4 e5) rfl rfl rfl rfl (zself _) (zself _).symm 9 2 rfl rfl rfl d_En_insert_25 ?_
      refine g_if_eq (pc := 28) (tgt := 48) hX d_En_insert_28 (by decide) h (fun c6 h => ?_) (fun c6 h => ?_)
      · refine g_aload_n (pc := 48) hX d_En_insert_48 rfl 0 rfl ?_
        refine gf_En_14 (pc := 49) (v := .ref ((q 10))) hX 9 rfl rfl d_En_insert_49 ?_
        refine g_iload_n (pc := 52) hX d_En_insert_52 rfl 2 rfl ?_
        refine g_iconst (pc := 53) hX d_En_insert_53 zc_0 ?_
        refine g_iload_n (pc := 54) hX d_En_insert_54 rfl 1 rfl ?_
        obtain ⟨o7, e7, h⟩ := zbind h
        refine g_cvV (pc := 55)  (st := []) (w' := (zwE c q ((x.1, o7, x.2.2)))) hX zk_Ta_set zs_Ta_set zL_En_81 (c_Ta_set c (q 10) (q 11) 1 8 x.2.1 l2 ((0 : Int32)) l1 e7) rfl rfl rfl rfl (sp_En_Ta_10 c q x) (sq_En_Ta_10 c q x o7) 10 6 rfl rfl rfl d_En_insert_55 ?_
        obtain rfl := Option.some.inj h
        exact g_vret (pc := 58) hX hR d_En_insert_58
      · refine g_aload_n (pc := 31) hX d_En_insert_31 rfl 0 rfl ?_
        refine gf_En_14 (pc := 32) (v := .ref ((q 10))) hX 9 rfl rfl d_En_insert_32 ?_
        refine g_iload_n (pc := 35) hX d_En_insert_35 rfl 2 rfl ?_
        refine g_iconst (pc := 36) hX d_En_insert_36 zc_1 ?_
        refine g_isub (pc := 37) hX d_En_insert_37 ?_
        refine g_iload_n (pc := 38) hX d_En_insert_38 rfl 2 rfl ?_
        obtain ⟨o8, e8, h⟩ := zbind h
        refine g_cvV (pc := 39)  (st := []) (w' := (zwE c q ((x.1, o8, x.2.2)))) hX zk_Ta_copyRow zs_Ta_copyRow zL_En_77 (c_Ta_copyRow c (q 10) (q 11) 1 8 x.2.1 ((l2 - (1 : Int32))) l2 e8) rfl rfl rfl rfl (sp_En_Ta_10 c q x) (sq_En_Ta_10 c q x o8) 10 6 rfl rfl rfl d_En_insert_39 ?_
        refine g_iinc (pc := 42) (q := 2) (L' := [(2, .int ((l2 + (-1 : Int32)))), (0, .ref ((q 9))), (1, .int l1)]) hX d_En_insert_42 rfl zc_m1 rfl rfl ?_
        refine g_goto (pc := 45) (tgt := 8) hX d_En_insert_45 (by decide) ?_
        refine g_ls (L' := [(0, .ref ((q 9))), (1, .int l1), (2, .int ((l2 + (-1 : Int32))))]) [1, 2, 0] rfl ?_
        exact ih _ _ h
def k_En_insert (x : zsE) (l1 : Int32) : Option (zsE) := (k_Ta_append 1 8 x.2.1).bind fun o1 => k_En_insert_8 l1 zFu o1.1 ((x.1, o1.2, x.2.2))
set_option maxRecDepth 20000 in
theorem c_En_insert (c : zY) (q : Nat → Nat) (x : zsE) (l1 : Int32) {out : zsE} (h : k_En_insert x l1 = some out) : KM zy_En_insert zb_En_insert 3 none 3 c [.ref ((q 9)), .int l1] (zwE c q x) (zwE c q out) none := zK_of zp_En rfl (Nat.le_of_ble_eq_true rfl) (zq_En c q _ _) (fun X hX hR => by
  show Go X (zwE c q x) [(0, .ref ((q 9))), (1, .int l1)] 0 []
  rw [k_En_insert] at h
  refine g_aload_n (pc := 0) hX d_En_insert_0 rfl 0 rfl ?_
  refine gf_En_14 (pc := 1) (v := .ref ((q 10))) hX 9 rfl rfl d_En_insert_1 ?_
  obtain ⟨o1, e1, h⟩ := zbind h
  refine g_cvI (pc := 4)  (st := []) (w' := (zwE c q ((x.1, o1.2, x.2.2)))) hX zk_Ta_append zs_Ta_append zL_En_70 (c_Ta_append c (q 10) (q 11) 1 8 x.2.1 e1) rfl rfl rfl rfl (sp_En_Ta_10 c q x) (sq_En_Ta_10 c q x o1.2) 10 6 rfl rfl rfl d_En_insert_4 ?_
  refine g_istore_n (pc := 7) (L' := [(2, .int o1.1), (0, .ref ((q 9))), (1, .int l1)]) hX d_En_insert_7 rfl rfl rfl ?_
  refine g_ls (L' := [(0, .ref ((q 9))), (1, .int l1), (2, .int o1.1)]) [1, 2, 0] rfl ?_
  exact w_En_insert_8 hX hR _ _ _ h)
theorem d_En_open_0 : decode zb_En_open 0 = .ok (.iload_n 1, 1) := by decide +kernel
theorem d_En_open_1 : decode zb_En_open 1 = .ok (.istore_n 2, 1) := by decide +kernel
theorem d_En_open_2 : decode zb_En_open 2 = .ok (.iconst 0, 1) := by decide +kernel
theorem d_En_open_3 : decode zb_En_open 3 = .ok (.istore_n 3, 1) := by decide +kernel
theorem d_En_open_4 : decode zb_En_open 4 = .ok (.iload_n 3, 1) := by decide +kernel
theorem d_En_open_5 : decode zb_En_open 5 = .ok (.aload_n 0, 1) := by decide +kernel
theorem d_En_open_6 : decode zb_En_open 6 = .ok (.getfield 20, 3) := by decide +kernel
theorem d_En_open_9 : decode zb_En_open 9 = .ok (.invokevirtual 51, 3) := by decide +kernel
theorem d_En_open_12 : decode zb_En_open 12 = .ok (.if_icmp .ge 56, 3) := by decide +kernel
theorem d_En_open_15 : decode zb_En_open 15 = .ok (.iload_n 2, 1) := by decide +kernel
theorem d_En_open_16 : decode zb_En_open 16 = .ok (.ldc 56, 2) := by decide +kernel
theorem d_En_open_18 : decode zb_En_open 18 = .ok (.imul, 1) := by decide +kernel
theorem d_En_open_19 : decode zb_En_open 19 = .ok (.sipush 12345, 3) := by decide +kernel
theorem d_En_open_22 : decode zb_En_open 22 = .ok (.iadd, 1) := by decide +kernel
theorem d_En_open_23 : decode zb_En_open 23 = .ok (.istore_n 2, 1) := by decide +kernel
theorem d_En_open_24 : decode zb_En_open 24 = .ok (.iconst 1, 1) := by decide +kernel
theorem d_En_open_25 : decode zb_En_open 25 = .ok (.iload_n 2, 1) := by decide +kernel
theorem d_En_open_26 : decode zb_En_open 26 = .ok (.bipush 16, 2) := by decide +kernel
theorem d_En_open_28 : decode zb_En_open 28 = .ok (.iushr, 1) := by decide +kernel
theorem d_En_open_29 : decode zb_En_open 29 = .ok (.bipush 20, 2) := by decide +kernel
theorem d_En_open_31 : decode zb_En_open 31 = .ok (.irem, 1) := by decide +kernel
theorem d_En_open_32 : decode zb_En_open 32 = .ok (.iadd, 1) := by decide +kernel
theorem d_En_open_33 : decode zb_En_open 33 = .ok (.istore 4, 2) := by decide +kernel
theorem d_En_open_35 : decode zb_En_open 35 = .ok (.aload_n 0, 1) := by decide +kernel
theorem d_En_open_36 : decode zb_En_open 36 = .ok (.getfield 20, 3) := by decide +kernel
theorem d_En_open_39 : decode zb_En_open 39 = .ok (.iload_n 3, 1) := by decide +kernel
theorem d_En_open_40 : decode zb_En_open 40 = .ok (.bipush 6, 2) := by decide +kernel
theorem d_En_open_42 : decode zb_En_open 42 = .ok (.aload_n 0, 1) := by decide +kernel
theorem d_En_open_43 : decode zb_En_open 43 = .ok (.getfield 20, 3) := by decide +kernel
theorem d_En_open_46 : decode zb_En_open 46 = .ok (.iload_n 3, 1) := by decide +kernel
theorem d_En_open_47 : decode zb_En_open 47 = .ok (.iconst 4, 1) := by decide +kernel
theorem d_En_open_48 : decode zb_En_open 48 = .ok (.invokevirtual 57, 3) := by decide +kernel
theorem d_En_open_51 : decode zb_En_open 51 = .ok (.iload 4, 2) := by decide +kernel
theorem d_En_open_53 : decode zb_En_open 53 = .ok (.iadd, 1) := by decide +kernel
theorem d_En_open_54 : decode zb_En_open 54 = .ok (.invokevirtual 60, 3) := by decide +kernel
theorem d_En_open_57 : decode zb_En_open 57 = .ok (.aload_n 0, 1) := by decide +kernel
theorem d_En_open_58 : decode zb_En_open 58 = .ok (.iload_n 3, 1) := by decide +kernel
theorem d_En_open_59 : decode zb_En_open 59 = .ok (.invokevirtual 63, 3) := by decide +kernel
theorem d_En_open_62 : decode zb_En_open 62 = .ok (.iinc 3 1, 3) := by decide +kernel
theorem d_En_open_65 : decode zb_En_open 65 = .ok (.goto (-61), 3) := by decide +kernel
theorem d_En_open_68 : decode zb_En_open 68 = .ok (.aload_n 0, 1) := by decide +kernel
theorem d_En_open_69 : decode zb_En_open 69 = .ok (.iconst 1, 1) := by decide +kernel
theorem d_En_open_70 : decode zb_En_open 70 = .ok (.putfield 32, 3) := by decide +kernel
theorem d_En_open_73 : decode zb_En_open 73 = .ok (.aload_n 0, 1) := by decide +kernel
theorem d_En_open_74 : decode zb_En_open 74 = .ok (.iconst 0, 1) := by decide +kernel
theorem d_En_open_75 : decode zb_En_open 75 = .ok (.putfield 36, 3) := by decide +kernel
theorem d_En_open_78 : decode zb_En_open 78 = .ok (.aload_n 0, 1) := by decide +kernel
theorem d_En_open_79 : decode zb_En_open 79 = .ok (.dup, 1) := by decide +kernel
theorem d_En_open_80 : decode zb_En_open 80 = .ok (.getfield 67, 3) := by decide +kernel
theorem d_En_open_83 : decode zb_En_open 83 = .ok (.iconst 1, 1) := by decide +kernel
theorem d_En_open_84 : decode zb_En_open 84 = .ok (.iadd, 1) := by decide +kernel
theorem d_En_open_85 : decode zb_En_open 85 = .ok (.putfield 67, 3) := by decide +kernel
theorem d_En_open_88 : decode zb_En_open 88 = .ok (.return_, 1) := by decide +kernel
def k_En_open_4 (l1 : Int32) : Nat → Int32 → Int32 → zsE → Option (zsE)
  | 0, _, _, _ => none
  | fu + 1, l2, l3, x => (k_Fi_size x.1).bind fun o1 => (if l3 < o1 then (k_Fi_at x.1 l3 ((4 : Int32))).bind fun o3 => (k_Fi_put x.1 l3 ((6 : Int32)) ((o3 + ((1 : Int32) + (zrem ((zush (((l2 * (1103515245 : Int32)) + (12345 : Int32))) ((16 : Int32)))) (20 : Int32)))))).bind fun o4 => (k_En_insert ((o4, x.2.1, x.2.2)) l3).bind fun o5 => k_En_open_4 l1 fu (((l2 * (1103515245 : Int32)) + (12345 : Int32))) ((l3 + (1 : Int32))) o5 else some ((x.1, x.2.1, (upd ((upd ((upd x.2.2 4 ((1 : Int32)))) 5 ((0 : Int32)))) 8 (((((upd x.2.2 4 ((1 : Int32))))) 8 + (1 : Int32)))))))
set_option maxRecDepth 20000 in
theorem w_En_open_4 {X : zX} {c : zY} {q : Nat → Nat} {l1 : Int32} {out : zsE} (hX : Ok X zr_En zb_En_open 5 4 c) (hR : Rt X none none (zwE c q out)) : ∀ (fu : Nat) (l2 : Int32) (l3 : Int32) (x : zsE), k_En_open_4 l1 fu l2 l3 x = some out → Go X (zwE c q x) [(0, .ref ((q 9))), (2, .int l2), (3, .int l3)] 4 [] := by
  intro fu
  induction fu with
  | zero => intro l2 l3 x h; rw [k_En_open_4] at h; cases h
  | succ fu ih =>
    intro l2 l3 x h
    rw [k_En_open_4] at h
    refine g_iload_n (pc := 4) hX d_En_open_4 rfl 2 rfl ?_
    refine g_aload_n (pc := 5) hX d_En_open_5 rfl 0 rfl ?_
    refine gf_En_20 (pc := 6) (v := .ref ((q 6))) hX 9 rfl rfl d_En_open_6 ?_
    obtain ⟨o1, e1, h⟩ := zbind h
    refine g_cvI (pc := 9)  (st := [.int l3]) (w' := (zwE c q x)) hX zk_Fi_size zs_Fi_size zL_En_51 (c_Fi_size c q x.1 e1) rfl rfl rfl rfl (sp_En_Fi_0 c q x) (sp_En_Fi_0 c q x).symm 6 3 rfl rfl rfl d_En_open_9 ?_
    refine g_icmp_ge (pc := 12) (tgt := 68) hX d_En_open_12 (by decide) h (fun c2 h => ?_) (fun c2 h => ?_)
    · refine g_aload_n (pc := 68) hX d_En_open_68 rfl 0 rfl ?_
      refine g_iconst (pc := 69) hX d_En_open_69 zc_1 ?_
      refine pf_En_32 (pc := 70) (w2 := (zwE c q ((x.1, x.2.1, (upd x.2.2 4 ((1 : Int32))))))) hX 9 rfl rfl (su_En_9_4 c q x ((1 : Int32))) d_En_open_70 ?_
      refine g_aload_n (pc := 73) hX d_En_open_73 rfl 0 rfl ?_
      refine g_iconst (pc := 74) hX d_En_open_74 zc_0 ?_
      refine pf_En_36 (pc := 75) (w2 := (zwE c q ((x.1, x.2.1, (upd ((upd x.2.2 4 ((1 : Int32)))) 5 ((0 : Int32))))))) hX 9 rfl rfl (su_En_9_5 c q ((x.1, x.2.1, (upd x.2.2 4 ((1 : Int32))))) ((0 : Int32))) d_En_open_75 ?_
      refine g_aload_n (pc := 78) hX d_En_open_78 rfl 0 rfl ?_
      refine g_dup (pc := 79) hX d_En_open_79 rfl ?_
      refine gf_En_67 (pc := 80) (v := .int ((((upd x.2.2 4 ((1 : Int32))))) 8)) hX 9 rfl rfl d_En_open_80 ?_
      refine g_iconst (pc := 83) hX d_En_open_83 zc_1 ?_
      refine g_iadd (pc := 84) hX d_En_open_84 ?_
      refine pf_En_67 (pc := 85) (w2 := (zwE c q ((x.1, x.2.1, (upd ((upd ((upd x.2.2 4 ((1 : Int32)))) 5 ((0 : Int32)))) 8 (((((upd x.2.2 4 ((1 : Int32))))) 8 + (1 : Int32)))))))) hX 9 rfl rfl (su_En_9_8 c q ((x.1, x.2.1, (upd ((upd x.2.2 4 ((1 : Int32)))) 5 ((0 : Int32))))) (((((upd x.2.2 4 ((1 : Int32))))) 8 + (1 : Int32)))) d_En_open_85 ?_
      obtain rfl := Option.some.inj h
      exact g_vret (pc := 88) hX hR d_En_open_88
    · refine g_iload_n (pc := 15) hX d_En_open_15 rfl 1 rfl ?_
      refine g_ldc (pc := 16) hX d_En_open_16 zC_En_56 ?_
      refine g_imul (pc := 18) hX d_En_open_18 ?_
      refine g_sipush (pc := 19) hX d_En_open_19 zh_12345 ?_
      refine g_iadd (pc := 22) hX d_En_open_22 ?_
      refine g_istore_n (pc := 23) (L' := [(2, .int (((l2 * (1103515245 : Int32)) + (12345 : Int32)))), (0, .ref ((q 9))), (3, .int l3)]) hX d_En_open_23 rfl rfl rfl ?_
      refine g_iconst (pc := 24) hX d_En_open_24 zc_1 ?_
      refine g_iload_n (pc := 25) hX d_En_open_25 rfl 0 rfl ?_
      refine g_bipush (pc := 26) hX d_En_open_26 ze_16 ?_
      refine g_iushr (pc := 28) hX d_En_open_28 ?_
      refine g_bipush (pc := 29) hX d_En_open_29 ze_20 ?_
      refine g_irem (pc := 31) hX d_En_open_31 (by decide) ?_
      refine g_iadd (pc := 32) hX d_En_open_32 ?_
      refine g_istore (pc := 33) (L' := [(4, .int (((1 : Int32) + (zrem ((zush (((l2 * (1103515245 : Int32)) + (12345 : Int32))) ((16 : Int32)))) (20 : Int32))))), (2, .int (((l2 * (1103515245 : Int32)) + (12345 : Int32)))), (0, .ref ((q 9))), (3, .int l3)]) hX d_En_open_33 rfl rfl ?_
      refine g_aload_n (pc := 35) hX d_En_open_35 rfl 2 rfl ?_
      refine gf_En_20 (pc := 36) (v := .ref ((q 6))) hX 9 rfl rfl d_En_open_36 ?_
      refine g_iload_n (pc := 39) hX d_En_open_39 rfl 3 rfl ?_
      refine g_bipush (pc := 40) hX d_En_open_40 ze_6 ?_
      refine g_aload_n (pc := 42) hX d_En_open_42 rfl 2 rfl ?_
      refine gf_En_20 (pc := 43) (v := .ref ((q 6))) hX 9 rfl rfl d_En_open_43 ?_
      refine g_iload_n (pc := 46) hX d_En_open_46 rfl 3 rfl ?_
      refine g_iconst (pc := 47) hX d_En_open_47 zc_4 ?_
      obtain ⟨o3, e3, h⟩ := zbind h
      refine g_cvI (pc := 48)  (st := [.int ((6 : Int32)), .int l3, .ref ((q 6))]) (w' := (zwE c q x)) hX zk_Fi_at zs_Fi_at zL_En_57 (c_Fi_at c q x.1 l3 ((4 : Int32)) e3) rfl rfl rfl rfl (sp_En_Fi_0 c q x) (sp_En_Fi_0 c q x).symm 6 3 rfl rfl rfl d_En_open_48 ?_
      refine g_iload (pc := 51) hX d_En_open_51 0 rfl ?_
      refine g_iadd (pc := 53) hX d_En_open_53 ?_
      obtain ⟨o4, e4, h⟩ := zbind h
      refine g_cvV (pc := 54)  (st := []) (w' := (zwE c q ((o4, x.2.1, x.2.2)))) hX zk_Fi_put zs_Fi_put zL_En_60 (c_Fi_put c q x.1 l3 ((6 : Int32)) ((o3 + ((1 : Int32) + (zrem ((zush (((l2 * (1103515245 : Int32)) + (12345 : Int32))) ((16 : Int32)))) (20 : Int32))))) e4) rfl rfl rfl rfl (sp_En_Fi_0 c q x) (sq_En_Fi_0 c q x o4) 6 3 rfl rfl rfl d_En_open_54 ?_
      refine g_aload_n (pc := 57) hX d_En_open_57 rfl 2 rfl ?_
      refine g_iload_n (pc := 58) hX d_En_open_58 rfl 3 rfl ?_
      obtain ⟨o5, e5, h⟩ := zbind h
      refine g_cvV (pc := 59) (w1 := []) (w2 := []) (st := []) (w' := (zwE c q o5)) hX zk_En_insert zs_En_insert zL_En_63 (c_En_insert c q ((o4, x.2.1, x.2.2)) l3 e5) rfl rfl rfl rfl (zself _) (zself _).symm 9 2 rfl rfl rfl d_En_open_59 ?_
      refine g_iinc (pc := 62) (q := 3) (L' := [(3, .int ((l3 + (1 : Int32)))), (4, .int (((1 : Int32) + (zrem ((zush (((l2 * (1103515245 : Int32)) + (12345 : Int32))) ((16 : Int32)))) (20 : Int32))))), (2, .int (((l2 * (1103515245 : Int32)) + (12345 : Int32)))), (0, .ref ((q 9)))]) hX d_En_open_62 rfl zc_1 rfl rfl ?_
      refine g_goto (pc := 65) (tgt := 4) hX d_En_open_65 (by decide) ?_
      refine g_ls (L' := [(0, .ref ((q 9))), (2, .int (((l2 * (1103515245 : Int32)) + (12345 : Int32)))), (3, .int ((l3 + (1 : Int32))))]) [3, 2, 0] rfl ?_
      exact ih _ _ _ h
def k_En_open (x : zsE) (l1 : Int32) : Option (zsE) := k_En_open_4 l1 zFu l1 ((0 : Int32)) x
set_option maxRecDepth 20000 in
theorem c_En_open (c : zY) (q : Nat → Nat) (x : zsE) (l1 : Int32) {out : zsE} (h : k_En_open x l1 = some out) : KM zy_En_open zb_En_open 5 none 4 c [.ref ((q 9)), .int l1] (zwE c q x) (zwE c q out) none := zK_of zp_En rfl (Nat.le_of_ble_eq_true rfl) (zq_En c q _ _) (fun X hX hR => by
  show Go X (zwE c q x) [(0, .ref ((q 9))), (1, .int l1)] 0 []
  rw [k_En_open] at h
  refine g_iload_n (pc := 0) hX d_En_open_0 rfl 1 rfl ?_
  refine g_istore_n (pc := 1) (L' := [(2, .int l1), (0, .ref ((q 9))), (1, .int l1)]) hX d_En_open_1 rfl rfl rfl ?_
  refine g_iconst (pc := 2) hX d_En_open_2 zc_0 ?_
  refine g_istore_n (pc := 3) (L' := [(3, .int ((0 : Int32))), (2, .int l1), (0, .ref ((q 9))), (1, .int l1)]) hX d_En_open_3 rfl rfl rfl ?_
  refine g_ls (L' := [(0, .ref ((q 9))), (2, .int l1), (3, .int ((0 : Int32)))]) [2, 1, 0] rfl ?_
  exact w_En_open_4 hX hR _ _ _ _ h)
theorem d_En_startTurn_0 : decode zb_En_startTurn 0 = .ok (.aload_n 0, 1) := by decide +kernel
theorem d_En_startTurn_1 : decode zb_En_startTurn 1 = .ok (.iconst 0, 1) := by decide +kernel
theorem d_En_startTurn_2 : decode zb_En_startTurn 2 = .ok (.putfield 84, 3) := by decide +kernel
theorem d_En_startTurn_5 : decode zb_En_startTurn 5 = .ok (.aload_n 0, 1) := by decide +kernel
theorem d_En_startTurn_6 : decode zb_En_startTurn 6 = .ok (.iconst 0, 1) := by decide +kernel
theorem d_En_startTurn_7 : decode zb_En_startTurn 7 = .ok (.putfield 87, 3) := by decide +kernel
theorem d_En_startTurn_10 : decode zb_En_startTurn 10 = .ok (.aload_n 0, 1) := by decide +kernel
theorem d_En_startTurn_11 : decode zb_En_startTurn 11 = .ok (.dup, 1) := by decide +kernel
theorem d_En_startTurn_12 : decode zb_En_startTurn 12 = .ok (.getfield 91, 3) := by decide +kernel
theorem d_En_startTurn_15 : decode zb_En_startTurn 15 = .ok (.iconst 1, 1) := by decide +kernel
theorem d_En_startTurn_16 : decode zb_En_startTurn 16 = .ok (.iadd, 1) := by decide +kernel
theorem d_En_startTurn_17 : decode zb_En_startTurn 17 = .ok (.putfield 91, 3) := by decide +kernel
theorem d_En_startTurn_20 : decode zb_En_startTurn 20 = .ok (.aload_n 0, 1) := by decide +kernel
theorem d_En_startTurn_21 : decode zb_En_startTurn 21 = .ok (.getfield 28, 3) := by decide +kernel
theorem d_En_startTurn_24 : decode zb_En_startTurn 24 = .ok (.bipush 8, 2) := by decide +kernel
theorem d_En_startTurn_26 : decode zb_En_startTurn 26 = .ok (.aload_n 0, 1) := by decide +kernel
theorem d_En_startTurn_27 : decode zb_En_startTurn 27 = .ok (.invokevirtual 94, 3) := by decide +kernel
theorem d_En_startTurn_30 : decode zb_En_startTurn 30 = .ok (.aload_n 0, 1) := by decide +kernel
theorem d_En_startTurn_31 : decode zb_En_startTurn 31 = .ok (.getfield 32, 3) := by decide +kernel
theorem d_En_startTurn_34 : decode zb_En_startTurn 34 = .ok (.invokevirtual 97, 3) := by decide +kernel
theorem d_En_startTurn_37 : decode zb_En_startTurn 37 = .ok (.aload_n 0, 1) := by decide +kernel
theorem d_En_startTurn_38 : decode zb_En_startTurn 38 = .ok (.getfield 24, 3) := by decide +kernel
theorem d_En_startTurn_41 : decode zb_En_startTurn 41 = .ok (.aload_n 0, 1) := by decide +kernel
theorem d_En_startTurn_42 : decode zb_En_startTurn 42 = .ok (.invokevirtual 94, 3) := by decide +kernel
theorem d_En_startTurn_45 : decode zb_En_startTurn 45 = .ok (.invokevirtual 102, 3) := by decide +kernel
theorem d_En_startTurn_48 : decode zb_En_startTurn 48 = .ok (.aload_n 0, 1) := by decide +kernel
theorem d_En_startTurn_49 : decode zb_En_startTurn 49 = .ok (.getfield 20, 3) := by decide +kernel
theorem d_En_startTurn_52 : decode zb_En_startTurn 52 = .ok (.aload_n 0, 1) := by decide +kernel
theorem d_En_startTurn_53 : decode zb_En_startTurn 53 = .ok (.invokevirtual 94, 3) := by decide +kernel
theorem d_En_startTurn_56 : decode zb_En_startTurn 56 = .ok (.invokevirtual 107, 3) := by decide +kernel
theorem d_En_startTurn_59 : decode zb_En_startTurn 59 = .ok (.return_, 1) := by decide +kernel
def k_En_startTurn (x : zsE) : Option (zsE) := (k_En_current ((x.1, x.2.1, (upd ((upd ((upd x.2.2 6 ((0 : Int32)))) 7 ((0 : Int32)))) 9 (((((upd x.2.2 6 ((0 : Int32))))) 9 + (1 : Int32))))))).bind fun o1 => (k_Jo_write x.1.1.1 ((8 : Int32)) o1 ((((upd ((upd x.2.2 6 ((0 : Int32)))) 7 ((0 : Int32))))) 4)).bind fun o2 => (k_En_current ((((o2, x.1.1.2.1, x.1.1.2.2), x.1.2.1, x.1.2.2), x.2.1, (upd ((upd ((upd x.2.2 6 ((0 : Int32)))) 7 ((0 : Int32)))) 9 (((((upd x.2.2 6 ((0 : Int32))))) 9 + (1 : Int32))))))).bind fun o3 => (k_Co_countSourceTurn ((o2, x.1.1.2.1, x.1.1.2.2)) o3).bind fun o4 => (k_En_current (((o4, x.1.2.1, x.1.2.2), x.2.1, (upd ((upd ((upd x.2.2 6 ((0 : Int32)))) 7 ((0 : Int32)))) 9 (((((upd x.2.2 6 ((0 : Int32))))) 9 + (1 : Int32))))))).bind fun o5 => (k_Fi_sufferPoisons ((o4, x.1.2.1, x.1.2.2)) o5).bind fun o6 => some ((o6, x.2.1, (upd ((upd ((upd x.2.2 6 ((0 : Int32)))) 7 ((0 : Int32)))) 9 (((((upd x.2.2 6 ((0 : Int32))))) 9 + (1 : Int32))))))
set_option maxRecDepth 20000 in
theorem c_En_startTurn (c : zY) (q : Nat → Nat) (x : zsE) {out : zsE} (h : k_En_startTurn x = some out) : KM zy_En_startTurn zb_En_startTurn 1 none 6 c [.ref ((q 9))] (zwE c q x) (zwE c q out) none := zK_of zp_En rfl (Nat.le_of_ble_eq_true rfl) (zq_En c q _ _) (fun X hX hR => by
  show Go X (zwE c q x) [(0, .ref ((q 9)))] 0 []
  rw [k_En_startTurn] at h
  refine g_aload_n (pc := 0) hX d_En_startTurn_0 rfl 0 rfl ?_
  refine g_iconst (pc := 1) hX d_En_startTurn_1 zc_0 ?_
  refine pf_En_84 (pc := 2) (w2 := (zwE c q ((x.1, x.2.1, (upd x.2.2 6 ((0 : Int32))))))) hX 9 rfl rfl (su_En_9_6 c q x ((0 : Int32))) d_En_startTurn_2 ?_
  refine g_aload_n (pc := 5) hX d_En_startTurn_5 rfl 0 rfl ?_
  refine g_iconst (pc := 6) hX d_En_startTurn_6 zc_0 ?_
  refine pf_En_87 (pc := 7) (w2 := (zwE c q ((x.1, x.2.1, (upd ((upd x.2.2 6 ((0 : Int32)))) 7 ((0 : Int32))))))) hX (Or.inl rfl) 9 rfl rfl (su_En_9_7 c q ((x.1, x.2.1, (upd x.2.2 6 ((0 : Int32))))) ((0 : Int32))) d_En_startTurn_7 ?_
  refine g_aload_n (pc := 10) hX d_En_startTurn_10 rfl 0 rfl ?_
  refine g_dup (pc := 11) hX d_En_startTurn_11 rfl ?_
  refine gf_En_91 (pc := 12) (v := .int ((((upd x.2.2 6 ((0 : Int32))))) 9)) hX 9 rfl rfl d_En_startTurn_12 ?_
  refine g_iconst (pc := 15) hX d_En_startTurn_15 zc_1 ?_
  refine g_iadd (pc := 16) hX d_En_startTurn_16 ?_
  refine pf_En_91 (pc := 17) (w2 := (zwE c q ((x.1, x.2.1, (upd ((upd ((upd x.2.2 6 ((0 : Int32)))) 7 ((0 : Int32)))) 9 (((((upd x.2.2 6 ((0 : Int32))))) 9 + (1 : Int32)))))))) hX 9 rfl rfl (su_En_9_9 c q ((x.1, x.2.1, (upd ((upd x.2.2 6 ((0 : Int32)))) 7 ((0 : Int32))))) (((((upd x.2.2 6 ((0 : Int32))))) 9 + (1 : Int32)))) d_En_startTurn_17 ?_
  refine g_aload_n (pc := 20) hX d_En_startTurn_20 rfl 0 rfl ?_
  refine gf_En_28 (pc := 21) (v := .ref ((q 0))) hX 9 rfl rfl d_En_startTurn_21 ?_
  refine g_bipush (pc := 24) hX d_En_startTurn_24 ze_8 ?_
  refine g_aload_n (pc := 26) hX d_En_startTurn_26 rfl 0 rfl ?_
  obtain ⟨o1, e1, h⟩ := zbind h
  refine g_cvI (pc := 27) (w1 := []) (w2 := []) (st := [.int ((8 : Int32)), .ref ((q 0))]) (w' := (zwE c q ((x.1, x.2.1, (upd ((upd ((upd x.2.2 6 ((0 : Int32)))) 7 ((0 : Int32)))) 9 (((((upd x.2.2 6 ((0 : Int32))))) 9 + (1 : Int32)))))))) hX zk_En_current zs_En_current zL_En_94 (c_En_current c q ((x.1, x.2.1, (upd ((upd ((upd x.2.2 6 ((0 : Int32)))) 7 ((0 : Int32)))) 9 (((((upd x.2.2 6 ((0 : Int32))))) 9 + (1 : Int32)))))) e1) rfl rfl rfl rfl (zself _) (zself _).symm 9 2 rfl rfl rfl d_En_startTurn_27 ?_
  refine g_aload_n (pc := 30) hX d_En_startTurn_30 rfl 0 rfl ?_
  refine gf_En_32 (pc := 31) (v := .int ((((upd ((upd x.2.2 6 ((0 : Int32)))) 7 ((0 : Int32))))) 4)) hX 9 rfl rfl d_En_startTurn_31 ?_
  obtain ⟨o2, e2, h⟩ := zbind h
  refine g_cvV (pc := 34)  (st := []) (w' := (zwE c q ((((o2, x.1.1.2.1, x.1.1.2.2), x.1.2.1, x.1.2.2), x.2.1, (upd ((upd ((upd x.2.2 6 ((0 : Int32)))) 7 ((0 : Int32)))) 9 (((((upd x.2.2 6 ((0 : Int32))))) 9 + (1 : Int32)))))))) hX zk_Jo_write zs_Jo_write zL_En_97 (c_Jo_write c q x.1.1.1 ((8 : Int32)) o1 ((((upd ((upd x.2.2 6 ((0 : Int32)))) 7 ((0 : Int32))))) 4) e2) rfl rfl rfl rfl (sp_En_Jo_0 c q ((x.1, x.2.1, (upd ((upd ((upd x.2.2 6 ((0 : Int32)))) 7 ((0 : Int32)))) 9 (((((upd x.2.2 6 ((0 : Int32))))) 9 + (1 : Int32))))))) (sq_En_Jo_0 c q ((x.1, x.2.1, (upd ((upd ((upd x.2.2 6 ((0 : Int32)))) 7 ((0 : Int32)))) 9 (((((upd x.2.2 6 ((0 : Int32))))) 9 + (1 : Int32)))))) o2) 0 4 rfl rfl rfl d_En_startTurn_34 ?_
  refine g_aload_n (pc := 37) hX d_En_startTurn_37 rfl 0 rfl ?_
  refine gf_En_24 (pc := 38) (v := .ref ((q 2))) hX 9 rfl rfl d_En_startTurn_38 ?_
  refine g_aload_n (pc := 41) hX d_En_startTurn_41 rfl 0 rfl ?_
  obtain ⟨o3, e3, h⟩ := zbind h
  refine g_cvI (pc := 42) (w1 := []) (w2 := []) (st := [.ref ((q 2))]) (w' := (zwE c q ((((o2, x.1.1.2.1, x.1.1.2.2), x.1.2.1, x.1.2.2), x.2.1, (upd ((upd ((upd x.2.2 6 ((0 : Int32)))) 7 ((0 : Int32)))) 9 (((((upd x.2.2 6 ((0 : Int32))))) 9 + (1 : Int32)))))))) hX zk_En_current zs_En_current zL_En_94 (c_En_current c q ((((o2, x.1.1.2.1, x.1.1.2.2), x.1.2.1, x.1.2.2), x.2.1, (upd ((upd ((upd x.2.2 6 ((0 : Int32)))) 7 ((0 : Int32)))) 9 (((((upd x.2.2 6 ((0 : Int32))))) 9 + (1 : Int32)))))) e3) rfl rfl rfl rfl (zself _) (zself _).symm 9 2 rfl rfl rfl d_En_startTurn_42 ?_
  obtain ⟨o4, e4, h⟩ := zbind h
  refine g_cvV (pc := 45)  (st := []) (w' := (zwE c q (((o4, x.1.2.1, x.1.2.2), x.2.1, (upd ((upd ((upd x.2.2 6 ((0 : Int32)))) 7 ((0 : Int32)))) 9 (((((upd x.2.2 6 ((0 : Int32))))) 9 + (1 : Int32)))))))) hX zk_Co_countSourceTurn zs_Co_countSourceTurn zL_En_102 (c_Co_countSourceTurn c q ((o2, x.1.1.2.1, x.1.1.2.2)) o3 e4) rfl rfl rfl rfl (sp_En_Co_0 c q ((((o2, x.1.1.2.1, x.1.1.2.2), x.1.2.1, x.1.2.2), x.2.1, (upd ((upd ((upd x.2.2 6 ((0 : Int32)))) 7 ((0 : Int32)))) 9 (((((upd x.2.2 6 ((0 : Int32))))) 9 + (1 : Int32))))))) (sq_En_Co_0 c q ((((o2, x.1.1.2.1, x.1.1.2.2), x.1.2.1, x.1.2.2), x.2.1, (upd ((upd ((upd x.2.2 6 ((0 : Int32)))) 7 ((0 : Int32)))) 9 (((((upd x.2.2 6 ((0 : Int32))))) 9 + (1 : Int32)))))) o4) 2 1 rfl rfl rfl d_En_startTurn_45 ?_
  refine g_aload_n (pc := 48) hX d_En_startTurn_48 rfl 0 rfl ?_
  refine gf_En_20 (pc := 49) (v := .ref ((q 6))) hX 9 rfl rfl d_En_startTurn_49 ?_
  refine g_aload_n (pc := 52) hX d_En_startTurn_52 rfl 0 rfl ?_
  obtain ⟨o5, e5, h⟩ := zbind h
  refine g_cvI (pc := 53) (w1 := []) (w2 := []) (st := [.ref ((q 6))]) (w' := (zwE c q (((o4, x.1.2.1, x.1.2.2), x.2.1, (upd ((upd ((upd x.2.2 6 ((0 : Int32)))) 7 ((0 : Int32)))) 9 (((((upd x.2.2 6 ((0 : Int32))))) 9 + (1 : Int32)))))))) hX zk_En_current zs_En_current zL_En_94 (c_En_current c q (((o4, x.1.2.1, x.1.2.2), x.2.1, (upd ((upd ((upd x.2.2 6 ((0 : Int32)))) 7 ((0 : Int32)))) 9 (((((upd x.2.2 6 ((0 : Int32))))) 9 + (1 : Int32)))))) e5) rfl rfl rfl rfl (zself _) (zself _).symm 9 2 rfl rfl rfl d_En_startTurn_53 ?_
  obtain ⟨o6, e6, h⟩ := zbind h
  refine g_cvV (pc := 56)  (st := []) (w' := (zwE c q ((o6, x.2.1, (upd ((upd ((upd x.2.2 6 ((0 : Int32)))) 7 ((0 : Int32)))) 9 (((((upd x.2.2 6 ((0 : Int32))))) 9 + (1 : Int32)))))))) hX zk_Fi_sufferPoisons zs_Fi_sufferPoisons zL_En_107 (c_Fi_sufferPoisons c q ((o4, x.1.2.1, x.1.2.2)) o5 e6) rfl rfl rfl rfl (sp_En_Fi_0 c q (((o4, x.1.2.1, x.1.2.2), x.2.1, (upd ((upd ((upd x.2.2 6 ((0 : Int32)))) 7 ((0 : Int32)))) 9 (((((upd x.2.2 6 ((0 : Int32))))) 9 + (1 : Int32))))))) (sq_En_Fi_0 c q (((o4, x.1.2.1, x.1.2.2), x.2.1, (upd ((upd ((upd x.2.2 6 ((0 : Int32)))) 7 ((0 : Int32)))) 9 (((((upd x.2.2 6 ((0 : Int32))))) 9 + (1 : Int32)))))) o6) 6 3 rfl rfl rfl d_En_startTurn_56 ?_
  obtain rfl := Option.some.inj h
  exact g_vret (pc := 59) hX hR d_En_startTurn_59)
theorem d_En_leaveTurn_0 : decode zb_En_leaveTurn 0 = .ok (.aload_n 0, 1) := by decide +kernel
theorem d_En_leaveTurn_1 : decode zb_En_leaveTurn 1 = .ok (.getfield 28, 3) := by decide +kernel
theorem d_En_leaveTurn_4 : decode zb_En_leaveTurn 4 = .ok (.bipush 9, 2) := by decide +kernel
theorem d_En_leaveTurn_6 : decode zb_En_leaveTurn 6 = .ok (.aload_n 0, 1) := by decide +kernel
theorem d_En_leaveTurn_7 : decode zb_En_leaveTurn 7 = .ok (.invokevirtual 94, 3) := by decide +kernel
theorem d_En_leaveTurn_10 : decode zb_En_leaveTurn 10 = .ok (.aload_n 0, 1) := by decide +kernel
theorem d_En_leaveTurn_11 : decode zb_En_leaveTurn 11 = .ok (.getfield 32, 3) := by decide +kernel
theorem d_En_leaveTurn_14 : decode zb_En_leaveTurn 14 = .ok (.invokevirtual 97, 3) := by decide +kernel
theorem d_En_leaveTurn_17 : decode zb_En_leaveTurn 17 = .ok (.aload_n 0, 1) := by decide +kernel
theorem d_En_leaveTurn_18 : decode zb_En_leaveTurn 18 = .ok (.getfield 24, 3) := by decide +kernel
theorem d_En_leaveTurn_21 : decode zb_En_leaveTurn 21 = .ok (.aload_n 0, 1) := by decide +kernel
theorem d_En_leaveTurn_22 : decode zb_En_leaveTurn 22 = .ok (.invokevirtual 94, 3) := by decide +kernel
theorem d_En_leaveTurn_25 : decode zb_En_leaveTurn 25 = .ok (.invokevirtual 110, 3) := by decide +kernel
theorem d_En_leaveTurn_28 : decode zb_En_leaveTurn 28 = .ok (.aload_n 0, 1) := by decide +kernel
theorem d_En_leaveTurn_29 : decode zb_En_leaveTurn 29 = .ok (.dup, 1) := by decide +kernel
theorem d_En_leaveTurn_30 : decode zb_En_leaveTurn 30 = .ok (.getfield 36, 3) := by decide +kernel
theorem d_En_leaveTurn_33 : decode zb_En_leaveTurn 33 = .ok (.iconst 1, 1) := by decide +kernel
theorem d_En_leaveTurn_34 : decode zb_En_leaveTurn 34 = .ok (.iadd, 1) := by decide +kernel
theorem d_En_leaveTurn_35 : decode zb_En_leaveTurn 35 = .ok (.putfield 36, 3) := by decide +kernel
theorem d_En_leaveTurn_38 : decode zb_En_leaveTurn 38 = .ok (.aload_n 0, 1) := by decide +kernel
theorem d_En_leaveTurn_39 : decode zb_En_leaveTurn 39 = .ok (.getfield 36, 3) := by decide +kernel
theorem d_En_leaveTurn_42 : decode zb_En_leaveTurn 42 = .ok (.aload_n 0, 1) := by decide +kernel
theorem d_En_leaveTurn_43 : decode zb_En_leaveTurn 43 = .ok (.getfield 14, 3) := by decide +kernel
theorem d_En_leaveTurn_46 : decode zb_En_leaveTurn 46 = .ok (.invokevirtual 47, 3) := by decide +kernel
theorem d_En_leaveTurn_49 : decode zb_En_leaveTurn 49 = .ok (.if_icmp .lt 18, 3) := by decide +kernel
theorem d_En_leaveTurn_52 : decode zb_En_leaveTurn 52 = .ok (.aload_n 0, 1) := by decide +kernel
theorem d_En_leaveTurn_53 : decode zb_En_leaveTurn 53 = .ok (.iconst 0, 1) := by decide +kernel
theorem d_En_leaveTurn_54 : decode zb_En_leaveTurn 54 = .ok (.putfield 36, 3) := by decide +kernel
theorem d_En_leaveTurn_57 : decode zb_En_leaveTurn 57 = .ok (.aload_n 0, 1) := by decide +kernel
theorem d_En_leaveTurn_58 : decode zb_En_leaveTurn 58 = .ok (.dup, 1) := by decide +kernel
theorem d_En_leaveTurn_59 : decode zb_En_leaveTurn 59 = .ok (.getfield 32, 3) := by decide +kernel
theorem d_En_leaveTurn_62 : decode zb_En_leaveTurn 62 = .ok (.iconst 1, 1) := by decide +kernel
theorem d_En_leaveTurn_63 : decode zb_En_leaveTurn 63 = .ok (.iadd, 1) := by decide +kernel
theorem d_En_leaveTurn_64 : decode zb_En_leaveTurn 64 = .ok (.putfield 32, 3) := by decide +kernel
theorem d_En_leaveTurn_67 : decode zb_En_leaveTurn 67 = .ok (.return_, 1) := by decide +kernel
def k_En_leaveTurn (x : zsE) : Option (zsE) := (k_En_current x).bind fun o1 => (k_Jo_write x.1.1.1 ((9 : Int32)) o1 ((x.2.2 4))).bind fun o2 => (k_En_current ((((o2, x.1.1.2.1, x.1.1.2.2), x.1.2.1, x.1.2.2), x.2.1, x.2.2))).bind fun o3 => (k_Co_countTurnEnd ((o2, x.1.1.2.1, x.1.1.2.2)) o3).bind fun o4 => (k_Ta_used 1 8 x.2.1).bind fun o5 => (if (((x.2.2 5) + (1 : Int32))) < o5 then some (((o4, x.1.2.1, x.1.2.2), x.2.1, (upd x.2.2 5 (((x.2.2 5) + (1 : Int32)))))) else some (((o4, x.1.2.1, x.1.2.2), x.2.1, (upd ((upd ((upd x.2.2 5 (((x.2.2 5) + (1 : Int32))))) 5 ((0 : Int32)))) 4 (((((upd x.2.2 5 (((x.2.2 5) + (1 : Int32)))))) 4 + (1 : Int32)))))))
set_option maxRecDepth 20000 in
theorem c_En_leaveTurn (c : zY) (q : Nat → Nat) (x : zsE) {out : zsE} (h : k_En_leaveTurn x = some out) : KM zy_En_leaveTurn zb_En_leaveTurn 1 none 4 c [.ref ((q 9))] (zwE c q x) (zwE c q out) none := zK_of zp_En rfl (Nat.le_of_ble_eq_true rfl) (zq_En c q _ _) (fun X hX hR => by
  show Go X (zwE c q x) [(0, .ref ((q 9)))] 0 []
  rw [k_En_leaveTurn] at h
  refine g_aload_n (pc := 0) hX d_En_leaveTurn_0 rfl 0 rfl ?_
  refine gf_En_28 (pc := 1) (v := .ref ((q 0))) hX 9 rfl rfl d_En_leaveTurn_1 ?_
  refine g_bipush (pc := 4) hX d_En_leaveTurn_4 ze_9 ?_
  refine g_aload_n (pc := 6) hX d_En_leaveTurn_6 rfl 0 rfl ?_
  obtain ⟨o1, e1, h⟩ := zbind h
  refine g_cvI (pc := 7) (w1 := []) (w2 := []) (st := [.int ((9 : Int32)), .ref ((q 0))]) (w' := (zwE c q x)) hX zk_En_current zs_En_current zL_En_94 (c_En_current c q x e1) rfl rfl rfl rfl (zself _) (zself _).symm 9 2 rfl rfl rfl d_En_leaveTurn_7 ?_
  refine g_aload_n (pc := 10) hX d_En_leaveTurn_10 rfl 0 rfl ?_
  refine gf_En_32 (pc := 11) (v := .int ((x.2.2 4))) hX 9 rfl rfl d_En_leaveTurn_11 ?_
  obtain ⟨o2, e2, h⟩ := zbind h
  refine g_cvV (pc := 14)  (st := []) (w' := (zwE c q ((((o2, x.1.1.2.1, x.1.1.2.2), x.1.2.1, x.1.2.2), x.2.1, x.2.2)))) hX zk_Jo_write zs_Jo_write zL_En_97 (c_Jo_write c q x.1.1.1 ((9 : Int32)) o1 ((x.2.2 4)) e2) rfl rfl rfl rfl (sp_En_Jo_0 c q x) (sq_En_Jo_0 c q x o2) 0 4 rfl rfl rfl d_En_leaveTurn_14 ?_
  refine g_aload_n (pc := 17) hX d_En_leaveTurn_17 rfl 0 rfl ?_
  refine gf_En_24 (pc := 18) (v := .ref ((q 2))) hX 9 rfl rfl d_En_leaveTurn_18 ?_
  refine g_aload_n (pc := 21) hX d_En_leaveTurn_21 rfl 0 rfl ?_
  obtain ⟨o3, e3, h⟩ := zbind h
  refine g_cvI (pc := 22) (w1 := []) (w2 := []) (st := [.ref ((q 2))]) (w' := (zwE c q ((((o2, x.1.1.2.1, x.1.1.2.2), x.1.2.1, x.1.2.2), x.2.1, x.2.2)))) hX zk_En_current zs_En_current zL_En_94 (c_En_current c q ((((o2, x.1.1.2.1, x.1.1.2.2), x.1.2.1, x.1.2.2), x.2.1, x.2.2)) e3) rfl rfl rfl rfl (zself _) (zself _).symm 9 2 rfl rfl rfl d_En_leaveTurn_22 ?_
  obtain ⟨o4, e4, h⟩ := zbind h
  refine g_cvV (pc := 25)  (st := []) (w' := (zwE c q (((o4, x.1.2.1, x.1.2.2), x.2.1, x.2.2)))) hX zk_Co_countTurnEnd zs_Co_countTurnEnd zL_En_110 (c_Co_countTurnEnd c q ((o2, x.1.1.2.1, x.1.1.2.2)) o3 e4) rfl rfl rfl rfl (sp_En_Co_0 c q ((((o2, x.1.1.2.1, x.1.1.2.2), x.1.2.1, x.1.2.2), x.2.1, x.2.2))) (sq_En_Co_0 c q ((((o2, x.1.1.2.1, x.1.1.2.2), x.1.2.1, x.1.2.2), x.2.1, x.2.2)) o4) 2 1 rfl rfl rfl d_En_leaveTurn_25 ?_
  refine g_aload_n (pc := 28) hX d_En_leaveTurn_28 rfl 0 rfl ?_
  refine g_dup (pc := 29) hX d_En_leaveTurn_29 rfl ?_
  refine gf_En_36 (pc := 30) (v := .int ((x.2.2 5))) hX 9 rfl rfl d_En_leaveTurn_30 ?_
  refine g_iconst (pc := 33) hX d_En_leaveTurn_33 zc_1 ?_
  refine g_iadd (pc := 34) hX d_En_leaveTurn_34 ?_
  refine pf_En_36 (pc := 35) (w2 := (zwE c q (((o4, x.1.2.1, x.1.2.2), x.2.1, (upd x.2.2 5 (((x.2.2 5) + (1 : Int32)))))))) hX 9 rfl rfl (su_En_9_5 c q (((o4, x.1.2.1, x.1.2.2), x.2.1, x.2.2)) (((x.2.2 5) + (1 : Int32)))) d_En_leaveTurn_35 ?_
  refine g_aload_n (pc := 38) hX d_En_leaveTurn_38 rfl 0 rfl ?_
  refine gf_En_36 (pc := 39) (v := .int ((((x.2.2 5) + (1 : Int32))))) hX 9 rfl rfl d_En_leaveTurn_39 ?_
  refine g_aload_n (pc := 42) hX d_En_leaveTurn_42 rfl 0 rfl ?_
  refine gf_En_14 (pc := 43) (v := .ref ((q 10))) hX 9 rfl rfl d_En_leaveTurn_43 ?_
  obtain ⟨o5, e5, h⟩ := zbind h
  refine g_cvI (pc := 46)  (st := [.int ((((x.2.2 5) + (1 : Int32))))]) (w' := (zwE c q (((o4, x.1.2.1, x.1.2.2), x.2.1, (upd x.2.2 5 (((x.2.2 5) + (1 : Int32)))))))) hX zk_Ta_used zs_Ta_used zL_En_47 (c_Ta_used c (q 10) (q 11) 1 8 x.2.1 e5) rfl rfl rfl rfl (sp_En_Ta_10 c q (((o4, x.1.2.1, x.1.2.2), x.2.1, (upd x.2.2 5 (((x.2.2 5) + (1 : Int32))))))) (sp_En_Ta_10 c q (((o4, x.1.2.1, x.1.2.2), x.2.1, (upd x.2.2 5 (((x.2.2 5) + (1 : Int32))))))).symm 10 6 rfl rfl rfl d_En_leaveTurn_46 ?_
  refine g_icmp_lt (pc := 49) (tgt := 67) hX d_En_leaveTurn_49 (by decide) h (fun c6 h => ?_) (fun c6 h => ?_)
  · obtain rfl := Option.some.inj h
    exact g_vret (pc := 67) hX hR d_En_leaveTurn_67
  · refine g_aload_n (pc := 52) hX d_En_leaveTurn_52 rfl 0 rfl ?_
    refine g_iconst (pc := 53) hX d_En_leaveTurn_53 zc_0 ?_
    refine pf_En_36 (pc := 54) (w2 := (zwE c q (((o4, x.1.2.1, x.1.2.2), x.2.1, (upd ((upd x.2.2 5 (((x.2.2 5) + (1 : Int32))))) 5 ((0 : Int32))))))) hX 9 rfl rfl (su_En_9_5 c q (((o4, x.1.2.1, x.1.2.2), x.2.1, (upd x.2.2 5 (((x.2.2 5) + (1 : Int32)))))) ((0 : Int32))) d_En_leaveTurn_54 ?_
    refine g_aload_n (pc := 57) hX d_En_leaveTurn_57 rfl 0 rfl ?_
    refine g_dup (pc := 58) hX d_En_leaveTurn_58 rfl ?_
    refine gf_En_32 (pc := 59) (v := .int ((((upd x.2.2 5 (((x.2.2 5) + (1 : Int32)))))) 4)) hX 9 rfl rfl d_En_leaveTurn_59 ?_
    refine g_iconst (pc := 62) hX d_En_leaveTurn_62 zc_1 ?_
    refine g_iadd (pc := 63) hX d_En_leaveTurn_63 ?_
    refine pf_En_32 (pc := 64) (w2 := (zwE c q (((o4, x.1.2.1, x.1.2.2), x.2.1, (upd ((upd ((upd x.2.2 5 (((x.2.2 5) + (1 : Int32))))) 5 ((0 : Int32)))) 4 (((((upd x.2.2 5 (((x.2.2 5) + (1 : Int32)))))) 4 + (1 : Int32)))))))) hX 9 rfl rfl (su_En_9_4 c q (((o4, x.1.2.1, x.1.2.2), x.2.1, (upd ((upd x.2.2 5 (((x.2.2 5) + (1 : Int32))))) 5 ((0 : Int32))))) (((((upd x.2.2 5 (((x.2.2 5) + (1 : Int32)))))) 4 + (1 : Int32)))) d_En_leaveTurn_64 ?_
    obtain rfl := Option.some.inj h
    exact g_vret (pc := 67) hX hR d_En_leaveTurn_67)
theorem d_En_comesLater_0 : decode zb_En_comesLater 0 = .ok (.aload_n 0, 1) := by decide +kernel
theorem d_En_comesLater_1 : decode zb_En_comesLater 1 = .ok (.iload_n 1, 1) := by decide +kernel
theorem d_En_comesLater_2 : decode zb_En_comesLater 2 = .ok (.invokevirtual 113, 3) := by decide +kernel
theorem d_En_comesLater_5 : decode zb_En_comesLater 5 = .ok (.aload_n 0, 1) := by decide +kernel
theorem d_En_comesLater_6 : decode zb_En_comesLater 6 = .ok (.getfield 36, 3) := by decide +kernel
theorem d_En_comesLater_9 : decode zb_En_comesLater 9 = .ok (.if_icmp .le 7, 3) := by decide +kernel
theorem d_En_comesLater_12 : decode zb_En_comesLater 12 = .ok (.iconst 1, 1) := by decide +kernel
theorem d_En_comesLater_13 : decode zb_En_comesLater 13 = .ok (.goto 4, 3) := by decide +kernel
theorem d_En_comesLater_16 : decode zb_En_comesLater 16 = .ok (.iconst 0, 1) := by decide +kernel
theorem d_En_comesLater_17 : decode zb_En_comesLater 17 = .ok (.ireturn, 1) := by decide +kernel
def k_En_comesLater (x : zsE) (l1 : Int32) : Option (Int32) := (k_En_placeOf x l1).bind fun o1 => (if (x.2.2 5) < o1 then some ((1 : Int32)) else some ((0 : Int32)))
set_option maxRecDepth 20000 in
theorem c_En_comesLater (c : zY) (q : Nat → Nat) (x : zsE) (l1 : Int32) {out : Int32} (h : k_En_comesLater x l1 = some out) : KM zy_En_comesLater zb_En_comesLater 2 (some .boolean) 2 c [.ref ((q 9)), .int l1] (zwE c q x) (zwE c q x) (some (.int out)) := zK_of zp_En rfl (Nat.le_of_ble_eq_true rfl) (zq_En c q _ _) (fun X hX hR => by
  show Go X (zwE c q x) [(0, .ref ((q 9))), (1, .int l1)] 0 []
  rw [k_En_comesLater] at h
  refine g_aload_n (pc := 0) hX d_En_comesLater_0 rfl 0 rfl ?_
  refine g_iload_n (pc := 1) hX d_En_comesLater_1 rfl 1 rfl ?_
  obtain ⟨o1, e1, h⟩ := zbind h
  refine g_cvI (pc := 2) (w1 := []) (w2 := []) (st := []) (w' := (zwE c q x)) hX zk_En_placeOf zs_En_placeOf zL_En_113 (c_En_placeOf c q x l1 e1) rfl rfl rfl rfl (zself _) (zself _).symm 9 2 rfl rfl rfl d_En_comesLater_2 ?_
  refine g_aload_n (pc := 5) hX d_En_comesLater_5 rfl 0 rfl ?_
  refine gf_En_36 (pc := 6) (v := .int ((x.2.2 5))) hX 9 rfl rfl d_En_comesLater_6 ?_
  refine g_icmp_le (pc := 9) (tgt := 16) hX d_En_comesLater_9 (by decide) h (fun c2 h => ?_) (fun c2 h => ?_)
  · refine g_iconst (pc := 16) hX d_En_comesLater_16 zc_0 ?_
    obtain rfl := Option.some.inj h
    exact g_zret (pc := 17) hX hR (Or.inl rfl) d_En_comesLater_17
  · refine g_iconst (pc := 12) hX d_En_comesLater_12 zc_1 ?_
    refine g_goto (pc := 13) (tgt := 17) hX d_En_comesLater_13 (by decide) ?_
    obtain rfl := Option.some.inj h
    exact g_zret (pc := 17) hX hR (Or.inr rfl) d_En_comesLater_17)
theorem d_En_putBehind_0 : decode zb_En_putBehind 0 = .ok (.aload_n 0, 1) := by decide +kernel
theorem d_En_putBehind_1 : decode zb_En_putBehind 1 = .ok (.invokevirtual 94, 3) := by decide +kernel
theorem d_En_putBehind_4 : decode zb_En_putBehind 4 = .ok (.istore_n 2, 1) := by decide +kernel
theorem d_En_putBehind_5 : decode zb_En_putBehind 5 = .ok (.aload_n 0, 1) := by decide +kernel
theorem d_En_putBehind_6 : decode zb_En_putBehind 6 = .ok (.iload_n 1, 1) := by decide +kernel
theorem d_En_putBehind_7 : decode zb_En_putBehind 7 = .ok (.invokevirtual 113, 3) := by decide +kernel
theorem d_En_putBehind_10 : decode zb_En_putBehind 10 = .ok (.istore_n 3, 1) := by decide +kernel
theorem d_En_putBehind_11 : decode zb_En_putBehind 11 = .ok (.aload_n 0, 1) := by decide +kernel
theorem d_En_putBehind_12 : decode zb_En_putBehind 12 = .ok (.getfield 36, 3) := by decide +kernel
theorem d_En_putBehind_15 : decode zb_En_putBehind 15 = .ok (.istore 4, 2) := by decide +kernel
theorem d_En_putBehind_17 : decode zb_En_putBehind 17 = .ok (.iload 4, 2) := by decide +kernel
theorem d_En_putBehind_19 : decode zb_En_putBehind 19 = .ok (.iload_n 3, 1) := by decide +kernel
theorem d_En_putBehind_20 : decode zb_En_putBehind 20 = .ok (.if_icmp .ge 22, 3) := by decide +kernel
theorem d_En_putBehind_23 : decode zb_En_putBehind 23 = .ok (.aload_n 0, 1) := by decide +kernel
theorem d_En_putBehind_24 : decode zb_En_putBehind 24 = .ok (.getfield 14, 3) := by decide +kernel
theorem d_En_putBehind_27 : decode zb_En_putBehind 27 = .ok (.iload 4, 2) := by decide +kernel
theorem d_En_putBehind_29 : decode zb_En_putBehind 29 = .ok (.iconst 1, 1) := by decide +kernel
theorem d_En_putBehind_30 : decode zb_En_putBehind 30 = .ok (.iadd, 1) := by decide +kernel
theorem d_En_putBehind_31 : decode zb_En_putBehind 31 = .ok (.iload 4, 2) := by decide +kernel
theorem d_En_putBehind_33 : decode zb_En_putBehind 33 = .ok (.invokevirtual 77, 3) := by decide +kernel
theorem d_En_putBehind_36 : decode zb_En_putBehind 36 = .ok (.iinc 4 1, 3) := by decide +kernel
theorem d_En_putBehind_39 : decode zb_En_putBehind 39 = .ok (.goto (-22), 3) := by decide +kernel
theorem d_En_putBehind_42 : decode zb_En_putBehind 42 = .ok (.aload_n 0, 1) := by decide +kernel
theorem d_En_putBehind_43 : decode zb_En_putBehind 43 = .ok (.getfield 14, 3) := by decide +kernel
theorem d_En_putBehind_46 : decode zb_En_putBehind 46 = .ok (.iload_n 3, 1) := by decide +kernel
theorem d_En_putBehind_47 : decode zb_En_putBehind 47 = .ok (.iconst 0, 1) := by decide +kernel
theorem d_En_putBehind_48 : decode zb_En_putBehind 48 = .ok (.iload_n 2, 1) := by decide +kernel
theorem d_En_putBehind_49 : decode zb_En_putBehind 49 = .ok (.invokevirtual 81, 3) := by decide +kernel
theorem d_En_putBehind_52 : decode zb_En_putBehind 52 = .ok (.return_, 1) := by decide +kernel
def k_En_putBehind_17 (l1 : Int32) : Nat → Int32 → Int32 → Int32 → zsE → Option (zsE)
  | 0, _, _, _, _ => none
  | fu + 1, l2, l3, l4, x => (if l4 < l3 then (k_Ta_copyRow 1 8 x.2.1 ((l4 + (1 : Int32))) l4).bind fun o5 => k_En_putBehind_17 l1 fu l2 l3 ((l4 + (1 : Int32))) ((x.1, o5, x.2.2)) else (k_Ta_set 1 8 x.2.1 l3 ((0 : Int32)) l2).bind fun o4 => some ((x.1, o4, x.2.2)))
set_option maxRecDepth 20000 in
theorem w_En_putBehind_17 {X : zX} {c : zY} {q : Nat → Nat} {l1 : Int32} {out : zsE} (hX : Ok X zr_En zb_En_putBehind 5 2 c) (hR : Rt X none none (zwE c q out)) : ∀ (fu : Nat) (l2 : Int32) (l3 : Int32) (l4 : Int32) (x : zsE), k_En_putBehind_17 l1 fu l2 l3 l4 x = some out → Go X (zwE c q x) [(0, .ref ((q 9))), (2, .int l2), (3, .int l3), (4, .int l4)] 17 [] := by
  intro fu
  induction fu with
  | zero => intro l2 l3 l4 x h; rw [k_En_putBehind_17] at h; cases h
  | succ fu ih =>
    intro l2 l3 l4 x h
    rw [k_En_putBehind_17] at h
    refine g_iload (pc := 17) hX d_En_putBehind_17 3 rfl ?_
    refine g_iload_n (pc := 19) hX d_En_putBehind_19 rfl 2 rfl ?_
    refine g_icmp_ge (pc := 20) (tgt := 42) hX d_En_putBehind_20 (by decide) h (fun c3 h => ?_) (fun c3 h => ?_)
    · refine g_aload_n (pc := 42) hX d_En_putBehind_42 rfl 0 rfl ?_
      refine gf_En_14 (pc := 43) (v := .ref ((q 10))) hX 9 rfl rfl d_En_putBehind_43 ?_
      refine g_iload_n (pc := 46) hX d_En_putBehind_46 rfl 2 rfl ?_
      refine g_iconst (pc := 47) hX d_En_putBehind_47 zc_0 ?_
      refine g_iload_n (pc := 48) hX d_En_putBehind_48 rfl 1 rfl ?_
      obtain ⟨o4, e4, h⟩ := zbind h
      refine g_cvV (pc := 49)  (st := []) (w' := (zwE c q ((x.1, o4, x.2.2)))) hX zk_Ta_set zs_Ta_set zL_En_81 (c_Ta_set c (q 10) (q 11) 1 8 x.2.1 l3 ((0 : Int32)) l2 e4) rfl rfl rfl rfl (sp_En_Ta_10 c q x) (sq_En_Ta_10 c q x o4) 10 6 rfl rfl rfl d_En_putBehind_49 ?_
      obtain rfl := Option.some.inj h
      exact g_vret (pc := 52) hX hR d_En_putBehind_52
    · refine g_aload_n (pc := 23) hX d_En_putBehind_23 rfl 0 rfl ?_
      refine gf_En_14 (pc := 24) (v := .ref ((q 10))) hX 9 rfl rfl d_En_putBehind_24 ?_
      refine g_iload (pc := 27) hX d_En_putBehind_27 3 rfl ?_
      refine g_iconst (pc := 29) hX d_En_putBehind_29 zc_1 ?_
      refine g_iadd (pc := 30) hX d_En_putBehind_30 ?_
      refine g_iload (pc := 31) hX d_En_putBehind_31 3 rfl ?_
      obtain ⟨o5, e5, h⟩ := zbind h
      refine g_cvV (pc := 33)  (st := []) (w' := (zwE c q ((x.1, o5, x.2.2)))) hX zk_Ta_copyRow zs_Ta_copyRow zL_En_77 (c_Ta_copyRow c (q 10) (q 11) 1 8 x.2.1 ((l4 + (1 : Int32))) l4 e5) rfl rfl rfl rfl (sp_En_Ta_10 c q x) (sq_En_Ta_10 c q x o5) 10 6 rfl rfl rfl d_En_putBehind_33 ?_
      refine g_iinc (pc := 36) (q := 3) (L' := [(4, .int ((l4 + (1 : Int32)))), (0, .ref ((q 9))), (2, .int l2), (3, .int l3)]) hX d_En_putBehind_36 rfl zc_1 rfl rfl ?_
      refine g_goto (pc := 39) (tgt := 17) hX d_En_putBehind_39 (by decide) ?_
      refine g_ls (L' := [(0, .ref ((q 9))), (2, .int l2), (3, .int l3), (4, .int ((l4 + (1 : Int32))))]) [1, 2, 3, 0] rfl ?_
      exact ih _ _ _ _ h
def k_En_putBehind (x : zsE) (l1 : Int32) : Option (zsE) := (k_En_current x).bind fun o1 => (k_En_placeOf x l1).bind fun o2 => k_En_putBehind_17 l1 zFu o1 o2 ((x.2.2 5)) x
set_option maxRecDepth 20000 in
theorem c_En_putBehind (c : zY) (q : Nat → Nat) (x : zsE) (l1 : Int32) {out : zsE} (h : k_En_putBehind x l1 = some out) : KM zy_En_putBehind zb_En_putBehind 5 none 2 c [.ref ((q 9)), .int l1] (zwE c q x) (zwE c q out) none := zK_of zp_En rfl (Nat.le_of_ble_eq_true rfl) (zq_En c q _ _) (fun X hX hR => by
  show Go X (zwE c q x) [(0, .ref ((q 9))), (1, .int l1)] 0 []
  rw [k_En_putBehind] at h
  refine g_aload_n (pc := 0) hX d_En_putBehind_0 rfl 0 rfl ?_
  obtain ⟨o1, e1, h⟩ := zbind h
  refine g_cvI (pc := 1) (w1 := []) (w2 := []) (st := []) (w' := (zwE c q x)) hX zk_En_current zs_En_current zL_En_94 (c_En_current c q x e1) rfl rfl rfl rfl (zself _) (zself _).symm 9 2 rfl rfl rfl d_En_putBehind_1 ?_
  refine g_istore_n (pc := 4) (L' := [(2, .int o1), (0, .ref ((q 9))), (1, .int l1)]) hX d_En_putBehind_4 rfl rfl rfl ?_
  refine g_aload_n (pc := 5) hX d_En_putBehind_5 rfl 1 rfl ?_
  refine g_iload_n (pc := 6) hX d_En_putBehind_6 rfl 2 rfl ?_
  obtain ⟨o2, e2, h⟩ := zbind h
  refine g_cvI (pc := 7) (w1 := []) (w2 := []) (st := []) (w' := (zwE c q x)) hX zk_En_placeOf zs_En_placeOf zL_En_113 (c_En_placeOf c q x l1 e2) rfl rfl rfl rfl (zself _) (zself _).symm 9 2 rfl rfl rfl d_En_putBehind_7 ?_
  refine g_istore_n (pc := 10) (L' := [(3, .int o2), (2, .int o1), (0, .ref ((q 9))), (1, .int l1)]) hX d_En_putBehind_10 rfl rfl rfl ?_
  refine g_aload_n (pc := 11) hX d_En_putBehind_11 rfl 2 rfl ?_
  refine gf_En_36 (pc := 12) (v := .int ((x.2.2 5))) hX 9 rfl rfl d_En_putBehind_12 ?_
  refine g_istore (pc := 15) (L' := [(4, .int ((x.2.2 5))), (3, .int o2), (2, .int o1), (0, .ref ((q 9))), (1, .int l1)]) hX d_En_putBehind_15 rfl rfl ?_
  refine g_ls (L' := [(0, .ref ((q 9))), (2, .int o1), (3, .int o2), (4, .int ((x.2.2 5)))]) [3, 2, 1, 0] rfl ?_
  exact w_En_putBehind_17 hX hR _ _ _ _ _ h)
theorem d_En_act_0 : decode zb_En_act 0 = .ok (.aload_n 0, 1) := by decide +kernel
theorem d_En_act_1 : decode zb_En_act 1 = .ok (.iconst 1, 1) := by decide +kernel
theorem d_En_act_2 : decode zb_En_act 2 = .ok (.putfield 87, 3) := by decide +kernel
theorem d_En_act_5 : decode zb_En_act 5 = .ok (.aload_n 0, 1) := by decide +kernel
theorem d_En_act_6 : decode zb_En_act 6 = .ok (.dup, 1) := by decide +kernel
theorem d_En_act_7 : decode zb_En_act 7 = .ok (.getfield 117, 3) := by decide +kernel
theorem d_En_act_10 : decode zb_En_act 10 = .ok (.iconst 1, 1) := by decide +kernel
theorem d_En_act_11 : decode zb_En_act 11 = .ok (.iadd, 1) := by decide +kernel
theorem d_En_act_12 : decode zb_En_act 12 = .ok (.putfield 117, 3) := by decide +kernel
theorem d_En_act_15 : decode zb_En_act 15 = .ok (.aload_n 0, 1) := by decide +kernel
theorem d_En_act_16 : decode zb_En_act 16 = .ok (.getfield 28, 3) := by decide +kernel
theorem d_En_act_19 : decode zb_En_act 19 = .ok (.bipush 10, 2) := by decide +kernel
theorem d_En_act_21 : decode zb_En_act 21 = .ok (.aload_n 0, 1) := by decide +kernel
theorem d_En_act_22 : decode zb_En_act 22 = .ok (.invokevirtual 94, 3) := by decide +kernel
theorem d_En_act_25 : decode zb_En_act 25 = .ok (.iload_n 1, 1) := by decide +kernel
theorem d_En_act_26 : decode zb_En_act 26 = .ok (.invokevirtual 97, 3) := by decide +kernel
theorem d_En_act_29 : decode zb_En_act 29 = .ok (.return_, 1) := by decide +kernel
def k_En_act (x : zsE) (l1 : Int32) : Option (zsE) := (k_En_current ((x.1, x.2.1, (upd ((upd x.2.2 7 ((1 : Int32)))) 10 (((x.2.2 10) + (1 : Int32))))))).bind fun o1 => (k_Jo_write x.1.1.1 ((10 : Int32)) o1 l1).bind fun o2 => some ((((o2, x.1.1.2.1, x.1.1.2.2), x.1.2.1, x.1.2.2), x.2.1, (upd ((upd x.2.2 7 ((1 : Int32)))) 10 (((x.2.2 10) + (1 : Int32))))))
set_option maxRecDepth 20000 in
theorem c_En_act (c : zY) (q : Nat → Nat) (x : zsE) (l1 : Int32) {out : zsE} (h : k_En_act x l1 = some out) : KM zy_En_act zb_En_act 2 none 2 c [.ref ((q 9)), .int l1] (zwE c q x) (zwE c q out) none := zK_of zp_En rfl (Nat.le_of_ble_eq_true rfl) (zq_En c q _ _) (fun X hX hR => by
  show Go X (zwE c q x) [(0, .ref ((q 9))), (1, .int l1)] 0 []
  rw [k_En_act] at h
  refine g_aload_n (pc := 0) hX d_En_act_0 rfl 0 rfl ?_
  refine g_iconst (pc := 1) hX d_En_act_1 zc_1 ?_
  refine pf_En_87 (pc := 2) (w2 := (zwE c q ((x.1, x.2.1, (upd x.2.2 7 ((1 : Int32))))))) hX (Or.inr rfl) 9 rfl rfl (su_En_9_7 c q x ((1 : Int32))) d_En_act_2 ?_
  refine g_aload_n (pc := 5) hX d_En_act_5 rfl 0 rfl ?_
  refine g_dup (pc := 6) hX d_En_act_6 rfl ?_
  refine gf_En_117 (pc := 7) (v := .int ((x.2.2 10))) hX 9 rfl rfl d_En_act_7 ?_
  refine g_iconst (pc := 10) hX d_En_act_10 zc_1 ?_
  refine g_iadd (pc := 11) hX d_En_act_11 ?_
  refine pf_En_117 (pc := 12) (w2 := (zwE c q ((x.1, x.2.1, (upd ((upd x.2.2 7 ((1 : Int32)))) 10 (((x.2.2 10) + (1 : Int32)))))))) hX 9 rfl rfl (su_En_9_10 c q ((x.1, x.2.1, (upd x.2.2 7 ((1 : Int32))))) (((x.2.2 10) + (1 : Int32)))) d_En_act_12 ?_
  refine g_aload_n (pc := 15) hX d_En_act_15 rfl 0 rfl ?_
  refine gf_En_28 (pc := 16) (v := .ref ((q 0))) hX 9 rfl rfl d_En_act_16 ?_
  refine g_bipush (pc := 19) hX d_En_act_19 ze_10 ?_
  refine g_aload_n (pc := 21) hX d_En_act_21 rfl 0 rfl ?_
  obtain ⟨o1, e1, h⟩ := zbind h
  refine g_cvI (pc := 22) (w1 := []) (w2 := []) (st := [.int ((10 : Int32)), .ref ((q 0))]) (w' := (zwE c q ((x.1, x.2.1, (upd ((upd x.2.2 7 ((1 : Int32)))) 10 (((x.2.2 10) + (1 : Int32)))))))) hX zk_En_current zs_En_current zL_En_94 (c_En_current c q ((x.1, x.2.1, (upd ((upd x.2.2 7 ((1 : Int32)))) 10 (((x.2.2 10) + (1 : Int32)))))) e1) rfl rfl rfl rfl (zself _) (zself _).symm 9 2 rfl rfl rfl d_En_act_22 ?_
  refine g_iload_n (pc := 25) hX d_En_act_25 rfl 1 rfl ?_
  obtain ⟨o2, e2, h⟩ := zbind h
  refine g_cvV (pc := 26)  (st := []) (w' := (zwE c q ((((o2, x.1.1.2.1, x.1.1.2.2), x.1.2.1, x.1.2.2), x.2.1, (upd ((upd x.2.2 7 ((1 : Int32)))) 10 (((x.2.2 10) + (1 : Int32)))))))) hX zk_Jo_write zs_Jo_write zL_En_97 (c_Jo_write c q x.1.1.1 ((10 : Int32)) o1 l1 e2) rfl rfl rfl rfl (sp_En_Jo_0 c q ((x.1, x.2.1, (upd ((upd x.2.2 7 ((1 : Int32)))) 10 (((x.2.2 10) + (1 : Int32))))))) (sq_En_Jo_0 c q ((x.1, x.2.1, (upd ((upd x.2.2 7 ((1 : Int32)))) 10 (((x.2.2 10) + (1 : Int32)))))) o2) 0 4 rfl rfl rfl d_En_act_26 ?_
  obtain rfl := Option.some.inj h
  exact g_vret (pc := 29) hX hR d_En_act_29)
theorem d_En_close_0 : decode zb_En_close 0 = .ok (.aload_n 0, 1) := by decide +kernel
theorem d_En_close_1 : decode zb_En_close 1 = .ok (.iconst 0, 1) := by decide +kernel
theorem d_En_close_2 : decode zb_En_close 2 = .ok (.putfield 32, 3) := by decide +kernel
theorem d_En_close_5 : decode zb_En_close 5 = .ok (.aload_n 0, 1) := by decide +kernel
theorem d_En_close_6 : decode zb_En_close 6 = .ok (.getfield 14, 3) := by decide +kernel
theorem d_En_close_9 : decode zb_En_close 9 = .ok (.iconst 0, 1) := by decide +kernel
theorem d_En_close_10 : decode zb_En_close 10 = .ok (.invokevirtual 120, 3) := by decide +kernel
theorem d_En_close_13 : decode zb_En_close 13 = .ok (.iconst 0, 1) := by decide +kernel
theorem d_En_close_14 : decode zb_En_close 14 = .ok (.istore_n 1, 1) := by decide +kernel
theorem d_En_close_15 : decode zb_En_close 15 = .ok (.iload_n 1, 1) := by decide +kernel
theorem d_En_close_16 : decode zb_En_close 16 = .ok (.aload_n 0, 1) := by decide +kernel
theorem d_En_close_17 : decode zb_En_close 17 = .ok (.getfield 20, 3) := by decide +kernel
theorem d_En_close_20 : decode zb_En_close 20 = .ok (.invokevirtual 51, 3) := by decide +kernel
theorem d_En_close_23 : decode zb_En_close 23 = .ok (.if_icmp .ge 21, 3) := by decide +kernel
theorem d_En_close_26 : decode zb_En_close 26 = .ok (.aload_n 0, 1) := by decide +kernel
theorem d_En_close_27 : decode zb_En_close 27 = .ok (.getfield 20, 3) := by decide +kernel
theorem d_En_close_30 : decode zb_En_close 30 = .ok (.iload_n 1, 1) := by decide +kernel
theorem d_En_close_31 : decode zb_En_close 31 = .ok (.bipush 6, 2) := by decide +kernel
theorem d_En_close_33 : decode zb_En_close 33 = .ok (.bipush (-5), 2) := by decide +kernel
theorem d_En_close_35 : decode zb_En_close 35 = .ok (.invokevirtual 60, 3) := by decide +kernel
theorem d_En_close_38 : decode zb_En_close 38 = .ok (.iinc 1 1, 3) := by decide +kernel
theorem d_En_close_41 : decode zb_En_close 41 = .ok (.goto (-26), 3) := by decide +kernel
theorem d_En_close_44 : decode zb_En_close 44 = .ok (.aload_n 0, 1) := by decide +kernel
theorem d_En_close_45 : decode zb_En_close 45 = .ok (.getfield 24, 3) := by decide +kernel
theorem d_En_close_48 : decode zb_En_close 48 = .ok (.invokevirtual 123, 3) := by decide +kernel
theorem d_En_close_51 : decode zb_En_close 51 = .ok (.return_, 1) := by decide +kernel
def k_En_close_15 : Nat → Int32 → zsE → Option (zsE)
  | 0, _, _ => none
  | fu + 1, l1, x => (k_Fi_size x.1).bind fun o2 => (if l1 < o2 then (k_Fi_put x.1 l1 ((6 : Int32)) ((-5 : Int32))).bind fun o5 => k_En_close_15 fu ((l1 + (1 : Int32))) ((o5, x.2.1, x.2.2)) else (k_Co_endOfEncounter x.1.1).bind fun o4 => some (((o4, x.1.2.1, x.1.2.2), x.2.1, x.2.2)))
set_option maxRecDepth 20000 in
theorem w_En_close_15 {X : zX} {c : zY} {q : Nat → Nat} {out : zsE} (hX : Ok X zr_En zb_En_close 2 4 c) (hR : Rt X none none (zwE c q out)) : ∀ (fu : Nat) (l1 : Int32) (x : zsE), k_En_close_15 fu l1 x = some out → Go X (zwE c q x) [(0, .ref ((q 9))), (1, .int l1)] 15 [] := by
  intro fu
  induction fu with
  | zero => intro l1 x h; rw [k_En_close_15] at h; cases h
  | succ fu ih =>
    intro l1 x h
    rw [k_En_close_15] at h
    refine g_iload_n (pc := 15) hX d_En_close_15 rfl 1 rfl ?_
    refine g_aload_n (pc := 16) hX d_En_close_16 rfl 0 rfl ?_
    refine gf_En_20 (pc := 17) (v := .ref ((q 6))) hX 9 rfl rfl d_En_close_17 ?_
    obtain ⟨o2, e2, h⟩ := zbind h
    refine g_cvI (pc := 20)  (st := [.int l1]) (w' := (zwE c q x)) hX zk_Fi_size zs_Fi_size zL_En_51 (c_Fi_size c q x.1 e2) rfl rfl rfl rfl (sp_En_Fi_0 c q x) (sp_En_Fi_0 c q x).symm 6 3 rfl rfl rfl d_En_close_20 ?_
    refine g_icmp_ge (pc := 23) (tgt := 44) hX d_En_close_23 (by decide) h (fun c3 h => ?_) (fun c3 h => ?_)
    · refine g_aload_n (pc := 44) hX d_En_close_44 rfl 0 rfl ?_
      refine gf_En_24 (pc := 45) (v := .ref ((q 2))) hX 9 rfl rfl d_En_close_45 ?_
      obtain ⟨o4, e4, h⟩ := zbind h
      refine g_cvV (pc := 48)  (st := []) (w' := (zwE c q (((o4, x.1.2.1, x.1.2.2), x.2.1, x.2.2)))) hX zk_Co_endOfEncounter zs_Co_endOfEncounter zL_En_123 (c_Co_endOfEncounter c q x.1.1 e4) rfl rfl rfl rfl (sp_En_Co_0 c q x) (sq_En_Co_0 c q x o4) 2 1 rfl rfl rfl d_En_close_48 ?_
      obtain rfl := Option.some.inj h
      exact g_vret (pc := 51) hX hR d_En_close_51
    · refine g_aload_n (pc := 26) hX d_En_close_26 rfl 0 rfl ?_
      refine gf_En_20 (pc := 27) (v := .ref ((q 6))) hX 9 rfl rfl d_En_close_27 ?_
      refine g_iload_n (pc := 30) hX d_En_close_30 rfl 1 rfl ?_
      refine g_bipush (pc := 31) hX d_En_close_31 ze_6 ?_
      refine g_bipush (pc := 33) hX d_En_close_33 ze_m5 ?_
      obtain ⟨o5, e5, h⟩ := zbind h
      refine g_cvV (pc := 35)  (st := []) (w' := (zwE c q ((o5, x.2.1, x.2.2)))) hX zk_Fi_put zs_Fi_put zL_En_60 (c_Fi_put c q x.1 l1 ((6 : Int32)) ((-5 : Int32)) e5) rfl rfl rfl rfl (sp_En_Fi_0 c q x) (sq_En_Fi_0 c q x o5) 6 3 rfl rfl rfl d_En_close_35 ?_
      refine g_iinc (pc := 38) (q := 1) (L' := [(1, .int ((l1 + (1 : Int32)))), (0, .ref ((q 9)))]) hX d_En_close_38 rfl zc_1 rfl rfl ?_
      refine g_goto (pc := 41) (tgt := 15) hX d_En_close_41 (by decide) ?_
      refine g_ls (L' := [(0, .ref ((q 9))), (1, .int ((l1 + (1 : Int32))))]) [1, 0] rfl ?_
      exact ih _ _ h
def k_En_close (x : zsE) : Option (zsE) := (k_Ta_cut 1 8 x.2.1 ((0 : Int32))).bind fun o1 => k_En_close_15 zFu ((0 : Int32)) ((x.1, o1, (upd x.2.2 4 ((0 : Int32)))))
set_option maxRecDepth 20000 in
theorem c_En_close (c : zY) (q : Nat → Nat) (x : zsE) {out : zsE} (h : k_En_close x = some out) : KM zy_En_close zb_En_close 2 none 4 c [.ref ((q 9))] (zwE c q x) (zwE c q out) none := zK_of zp_En rfl (Nat.le_of_ble_eq_true rfl) (zq_En c q _ _) (fun X hX hR => by
  show Go X (zwE c q x) [(0, .ref ((q 9)))] 0 []
  rw [k_En_close] at h
  refine g_aload_n (pc := 0) hX d_En_close_0 rfl 0 rfl ?_
  refine g_iconst (pc := 1) hX d_En_close_1 zc_0 ?_
  refine pf_En_32 (pc := 2) (w2 := (zwE c q ((x.1, x.2.1, (upd x.2.2 4 ((0 : Int32))))))) hX 9 rfl rfl (su_En_9_4 c q x ((0 : Int32))) d_En_close_2 ?_
  refine g_aload_n (pc := 5) hX d_En_close_5 rfl 0 rfl ?_
  refine gf_En_14 (pc := 6) (v := .ref ((q 10))) hX 9 rfl rfl d_En_close_6 ?_
  refine g_iconst (pc := 9) hX d_En_close_9 zc_0 ?_
  obtain ⟨o1, e1, h⟩ := zbind h
  refine g_cvV (pc := 10)  (st := []) (w' := (zwE c q ((x.1, o1, (upd x.2.2 4 ((0 : Int32))))))) hX zk_Ta_cut zs_Ta_cut zL_En_120 (c_Ta_cut c (q 10) (q 11) 1 8 x.2.1 ((0 : Int32)) e1) rfl rfl rfl rfl (sp_En_Ta_10 c q ((x.1, x.2.1, (upd x.2.2 4 ((0 : Int32)))))) (sq_En_Ta_10 c q ((x.1, x.2.1, (upd x.2.2 4 ((0 : Int32))))) o1) 10 6 rfl rfl rfl d_En_close_10 ?_
  refine g_iconst (pc := 13) hX d_En_close_13 zc_0 ?_
  refine g_istore_n (pc := 14) (L' := [(1, .int ((0 : Int32))), (0, .ref ((q 9)))]) hX d_En_close_14 rfl rfl rfl ?_
  refine g_ls (L' := [(0, .ref ((q 9))), (1, .int ((0 : Int32)))]) [1, 0] rfl ?_
  exact w_En_close_15 hX hR _ _ _ h)
theorem d_St_isFree_0 : decode zb_St_isFree 0 = .ok (.aload_n 0, 1) := by decide +kernel
theorem d_St_isFree_1 : decode zb_St_isFree 1 = .ok (.getfield 14, 3) := by decide +kernel
theorem d_St_isFree_4 : decode zb_St_isFree 4 = .ok (.iload_n 1, 1) := by decide +kernel
theorem d_St_isFree_5 : decode zb_St_isFree 5 = .ok (.iconst 0, 1) := by decide +kernel
theorem d_St_isFree_6 : decode zb_St_isFree 6 = .ok (.invokevirtual 59, 3) := by decide +kernel
theorem d_St_isFree_9 : decode zb_St_isFree 9 = .ok (.ifCond .ne 19, 3) := by decide +kernel
theorem d_St_isFree_12 : decode zb_St_isFree 12 = .ok (.aload_n 0, 1) := by decide +kernel
theorem d_St_isFree_13 : decode zb_St_isFree 13 = .ok (.getfield 46, 3) := by decide +kernel
theorem d_St_isFree_16 : decode zb_St_isFree 16 = .ok (.iload_n 1, 1) := by decide +kernel
theorem d_St_isFree_17 : decode zb_St_isFree 17 = .ok (.invokevirtual 63, 3) := by decide +kernel
theorem d_St_isFree_20 : decode zb_St_isFree 20 = .ok (.iconst (-1), 1) := by decide +kernel
theorem d_St_isFree_21 : decode zb_St_isFree 21 = .ok (.if_icmp .ne 7, 3) := by decide +kernel
theorem d_St_isFree_24 : decode zb_St_isFree 24 = .ok (.iconst 1, 1) := by decide +kernel
theorem d_St_isFree_25 : decode zb_St_isFree 25 = .ok (.goto 4, 3) := by decide +kernel
theorem d_St_isFree_28 : decode zb_St_isFree 28 = .ok (.iconst 0, 1) := by decide +kernel
theorem d_St_isFree_29 : decode zb_St_isFree 29 = .ok (.ireturn, 1) := by decide +kernel
def k_St_isFree (x : zsS) (l1 : Int32) : Option (Int32) := (k_Ta_get 1 100 x.2.1 l1 ((0 : Int32))).bind fun o1 => (if o1 = 0 then (k_Fi_standingOn x.1.1 l1).bind fun o3 => (if o3 = (-1 : Int32) then some ((1 : Int32)) else some ((0 : Int32))) else some ((0 : Int32)))
set_option maxRecDepth 20000 in
theorem c_St_isFree (c : zY) (q : Nat → Nat) (x : zsS) (l1 : Int32) {out : Int32} (h : k_St_isFree x l1 = some out) : KM zy_St_isFree zb_St_isFree 2 (some .boolean) 2 c [.ref ((q 12)), .int l1] (zwS c q x) (zwS c q x) (some (.int out)) := zK_of zp_St rfl (Nat.le_of_ble_eq_true rfl) (zq_St c q _ _) (fun X hX hR => by
  show Go X (zwS c q x) [(0, .ref ((q 12))), (1, .int l1)] 0 []
  rw [k_St_isFree] at h
  refine g_aload_n (pc := 0) hX d_St_isFree_0 rfl 0 rfl ?_
  refine gf_St_14 (pc := 1) (v := .ref ((q 13))) hX 12 rfl rfl d_St_isFree_1 ?_
  refine g_iload_n (pc := 4) hX d_St_isFree_4 rfl 1 rfl ?_
  refine g_iconst (pc := 5) hX d_St_isFree_5 zc_0 ?_
  obtain ⟨o1, e1, h⟩ := zbind h
  refine g_cvI (pc := 6)  (st := []) (w' := (zwS c q x)) hX zk_Ta_get zs_Ta_get zL_St_59 (c_Ta_get c (q 13) (q 14) 1 100 x.2.1 l1 ((0 : Int32)) e1) rfl rfl rfl rfl (sp_St_Ta_13 c q x) (sp_St_Ta_13 c q x).symm 13 6 rfl rfl rfl d_St_isFree_6 ?_
  refine g_if_ne (pc := 9) (tgt := 28) hX d_St_isFree_9 (by decide) h (fun c2 h => ?_) (fun c2 h => ?_)
  · refine g_iconst (pc := 28) hX d_St_isFree_28 zc_0 ?_
    obtain rfl := Option.some.inj h
    exact g_zret (pc := 29) hX hR (Or.inl rfl) d_St_isFree_29
  · refine g_aload_n (pc := 12) hX d_St_isFree_12 rfl 0 rfl ?_
    refine gf_St_46 (pc := 13) (v := .ref ((q 6))) hX 12 rfl rfl d_St_isFree_13 ?_
    refine g_iload_n (pc := 16) hX d_St_isFree_16 rfl 1 rfl ?_
    obtain ⟨o3, e3, h⟩ := zbind h
    refine g_cvI (pc := 17)  (st := []) (w' := (zwS c q x)) hX zk_Fi_standingOn zs_Fi_standingOn zL_St_63 (c_Fi_standingOn c q x.1.1 l1 e3) rfl rfl rfl rfl (sp_St_Fi_0 c q x) (sp_St_Fi_0 c q x).symm 6 3 rfl rfl rfl d_St_isFree_17 ?_
    refine g_iconst (pc := 20) hX d_St_isFree_20 zc_m1 ?_
    refine g_icmp_ne (pc := 21) (tgt := 28) hX d_St_isFree_21 (by decide) h (fun c4 h => ?_) (fun c4 h => ?_)
    · refine g_iconst (pc := 28) hX d_St_isFree_28 zc_0 ?_
      obtain rfl := Option.some.inj h
      exact g_zret (pc := 29) hX hR (Or.inl rfl) d_St_isFree_29
    · refine g_iconst (pc := 24) hX d_St_isFree_24 zc_1 ?_
      refine g_goto (pc := 25) (tgt := 29) hX d_St_isFree_25 (by decide) ?_
      obtain rfl := Option.some.inj h
      exact g_zret (pc := 29) hX hR (Or.inr rfl) d_St_isFree_29)
theorem d_St_numberOfWalls_0 : decode zb_St_numberOfWalls 0 = .ok (.iconst 0, 1) := by decide +kernel
theorem d_St_numberOfWalls_1 : decode zb_St_numberOfWalls 1 = .ok (.istore_n 1, 1) := by decide +kernel
theorem d_St_numberOfWalls_2 : decode zb_St_numberOfWalls 2 = .ok (.iconst 0, 1) := by decide +kernel
theorem d_St_numberOfWalls_3 : decode zb_St_numberOfWalls 3 = .ok (.istore_n 2, 1) := by decide +kernel
theorem d_St_numberOfWalls_4 : decode zb_St_numberOfWalls 4 = .ok (.iload_n 2, 1) := by decide +kernel
theorem d_St_numberOfWalls_5 : decode zb_St_numberOfWalls 5 = .ok (.bipush 100, 2) := by decide +kernel
theorem d_St_numberOfWalls_7 : decode zb_St_numberOfWalls 7 = .ok (.if_icmp .ge 21, 3) := by decide +kernel
theorem d_St_numberOfWalls_10 : decode zb_St_numberOfWalls 10 = .ok (.iload_n 1, 1) := by decide +kernel
theorem d_St_numberOfWalls_11 : decode zb_St_numberOfWalls 11 = .ok (.aload_n 0, 1) := by decide +kernel
theorem d_St_numberOfWalls_12 : decode zb_St_numberOfWalls 12 = .ok (.getfield 14, 3) := by decide +kernel
theorem d_St_numberOfWalls_15 : decode zb_St_numberOfWalls 15 = .ok (.iload_n 2, 1) := by decide +kernel
theorem d_St_numberOfWalls_16 : decode zb_St_numberOfWalls 16 = .ok (.iconst 0, 1) := by decide +kernel
theorem d_St_numberOfWalls_17 : decode zb_St_numberOfWalls 17 = .ok (.invokevirtual 59, 3) := by decide +kernel
theorem d_St_numberOfWalls_20 : decode zb_St_numberOfWalls 20 = .ok (.iadd, 1) := by decide +kernel
theorem d_St_numberOfWalls_21 : decode zb_St_numberOfWalls 21 = .ok (.istore_n 1, 1) := by decide +kernel
theorem d_St_numberOfWalls_22 : decode zb_St_numberOfWalls 22 = .ok (.iinc 2 1, 3) := by decide +kernel
theorem d_St_numberOfWalls_25 : decode zb_St_numberOfWalls 25 = .ok (.goto (-21), 3) := by decide +kernel
theorem d_St_numberOfWalls_28 : decode zb_St_numberOfWalls 28 = .ok (.iload_n 1, 1) := by decide +kernel
theorem d_St_numberOfWalls_29 : decode zb_St_numberOfWalls 29 = .ok (.ireturn, 1) := by decide +kernel
def k_St_numberOfWalls_4 (x : zsS) : Nat → Int32 → Int32 → Option (Int32)
  | 0, _, _ => none
  | fu + 1, l1, l2 => (if l2 < (100 : Int32) then (k_Ta_get 1 100 x.2.1 l2 ((0 : Int32))).bind fun o2 => k_St_numberOfWalls_4 x fu ((l1 + o2)) ((l2 + (1 : Int32))) else some l1)
set_option maxRecDepth 20000 in
theorem w_St_numberOfWalls_4 {X : zX} {c : zY} {q : Nat → Nat} {x : zsS} {out : Int32} (hX : Ok X zr_St zb_St_numberOfWalls 3 1 c) (hR : Rt X (some .int) (some (.int out)) (zwS c q x)) : ∀ (fu : Nat) (l1 : Int32) (l2 : Int32), k_St_numberOfWalls_4 x fu l1 l2 = some out → Go X (zwS c q x) [(0, .ref ((q 12))), (1, .int l1), (2, .int l2)] 4 [] := by
  intro fu
  induction fu with
  | zero => intro l1 l2 h; rw [k_St_numberOfWalls_4] at h; cases h
  | succ fu ih =>
    intro l1 l2 h
    rw [k_St_numberOfWalls_4] at h
    refine g_iload_n (pc := 4) hX d_St_numberOfWalls_4 rfl 2 rfl ?_
    refine g_bipush (pc := 5) hX d_St_numberOfWalls_5 ze_100 ?_
    refine g_icmp_ge (pc := 7) (tgt := 28) hX d_St_numberOfWalls_7 (by decide) h (fun c1 h => ?_) (fun c1 h => ?_)
    · refine g_iload_n (pc := 28) hX d_St_numberOfWalls_28 rfl 1 rfl ?_
      obtain rfl := Option.some.inj h
      exact g_iret (pc := 29) hX hR d_St_numberOfWalls_29
    · refine g_iload_n (pc := 10) hX d_St_numberOfWalls_10 rfl 1 rfl ?_
      refine g_aload_n (pc := 11) hX d_St_numberOfWalls_11 rfl 0 rfl ?_
      refine gf_St_14 (pc := 12) (v := .ref ((q 13))) hX 12 rfl rfl d_St_numberOfWalls_12 ?_
      refine g_iload_n (pc := 15) hX d_St_numberOfWalls_15 rfl 2 rfl ?_
      refine g_iconst (pc := 16) hX d_St_numberOfWalls_16 zc_0 ?_
      obtain ⟨o2, e2, h⟩ := zbind h
      refine g_cvI (pc := 17)  (st := [.int l1]) (w' := (zwS c q x)) hX zk_Ta_get zs_Ta_get zL_St_59 (c_Ta_get c (q 13) (q 14) 1 100 x.2.1 l2 ((0 : Int32)) e2) rfl rfl rfl rfl (sp_St_Ta_13 c q x) (sp_St_Ta_13 c q x).symm 13 6 rfl rfl rfl d_St_numberOfWalls_17 ?_
      refine g_iadd (pc := 20) hX d_St_numberOfWalls_20 ?_
      refine g_istore_n (pc := 21) (L' := [(1, .int ((l1 + o2))), (0, .ref ((q 12))), (2, .int l2)]) hX d_St_numberOfWalls_21 rfl rfl rfl ?_
      refine g_iinc (pc := 22) (q := 2) (L' := [(2, .int ((l2 + (1 : Int32)))), (1, .int ((l1 + o2))), (0, .ref ((q 12)))]) hX d_St_numberOfWalls_22 rfl zc_1 rfl rfl ?_
      refine g_goto (pc := 25) (tgt := 4) hX d_St_numberOfWalls_25 (by decide) ?_
      refine g_ls (L' := [(0, .ref ((q 12))), (1, .int ((l1 + o2))), (2, .int ((l2 + (1 : Int32))))]) [2, 1, 0] rfl ?_
      exact ih _ _ h
def k_St_numberOfWalls (x : zsS) : Option (Int32) := k_St_numberOfWalls_4 x zFu ((0 : Int32)) ((0 : Int32))
set_option maxRecDepth 20000 in
theorem c_St_numberOfWalls (c : zY) (q : Nat → Nat) (x : zsS) {out : Int32} (h : k_St_numberOfWalls x = some out) : KM zy_St_numberOfWalls zb_St_numberOfWalls 3 (some .int) 1 c [.ref ((q 12))] (zwS c q x) (zwS c q x) (some (.int out)) := zK_of zp_St rfl (Nat.le_of_ble_eq_true rfl) (zq_St c q _ _) (fun X hX hR => by
  show Go X (zwS c q x) [(0, .ref ((q 12)))] 0 []
  rw [k_St_numberOfWalls] at h
  refine g_iconst (pc := 0) hX d_St_numberOfWalls_0 zc_0 ?_
  refine g_istore_n (pc := 1) (L' := [(1, .int ((0 : Int32))), (0, .ref ((q 12)))]) hX d_St_numberOfWalls_1 rfl rfl rfl ?_
  refine g_iconst (pc := 2) hX d_St_numberOfWalls_2 zc_0 ?_
  refine g_istore_n (pc := 3) (L' := [(2, .int ((0 : Int32))), (1, .int ((0 : Int32))), (0, .ref ((q 12)))]) hX d_St_numberOfWalls_3 rfl rfl rfl ?_
  refine g_ls (L' := [(0, .ref ((q 12))), (1, .int ((0 : Int32))), (2, .int ((0 : Int32)))]) [2, 1, 0] rfl ?_
  exact w_St_numberOfWalls_4 hX hR _ _ _ h)
