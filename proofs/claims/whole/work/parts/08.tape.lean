theorem d_Ar_fill_0 : decode zb_Ar_fill 0 = .ok (.iconst 0, 1) := by decide +kernel
theorem d_Ar_fill_1 : decode zb_Ar_fill 1 = .ok (.istore_n 2, 1) := by decide +kernel
theorem d_Ar_fill_2 : decode zb_Ar_fill 2 = .ok (.aload_n 0, 1) := by decide +kernel
theorem d_Ar_fill_3 : decode zb_Ar_fill 3 = .ok (.arraylength, 1) := by decide +kernel
theorem d_Ar_fill_4 : decode zb_Ar_fill 4 = .ok (.istore_n 3, 1) := by decide +kernel
theorem d_Ar_fill_5 : decode zb_Ar_fill 5 = .ok (.iload_n 2, 1) := by decide +kernel
theorem d_Ar_fill_6 : decode zb_Ar_fill 6 = .ok (.iload_n 3, 1) := by decide +kernel
theorem d_Ar_fill_7 : decode zb_Ar_fill 7 = .ok (.if_icmp .ge 13, 3) := by decide +kernel
theorem d_Ar_fill_10 : decode zb_Ar_fill 10 = .ok (.aload_n 0, 1) := by decide +kernel
theorem d_Ar_fill_11 : decode zb_Ar_fill 11 = .ok (.iload_n 2, 1) := by decide +kernel
theorem d_Ar_fill_12 : decode zb_Ar_fill 12 = .ok (.iload_n 1, 1) := by decide +kernel
theorem d_Ar_fill_13 : decode zb_Ar_fill 13 = .ok (.iastore, 1) := by decide +kernel
theorem d_Ar_fill_14 : decode zb_Ar_fill 14 = .ok (.iinc 2 1, 3) := by decide +kernel
theorem d_Ar_fill_17 : decode zb_Ar_fill 17 = .ok (.goto (-12), 3) := by decide +kernel
theorem d_Ar_fill_20 : decode zb_Ar_fill 20 = .ok (.return_, 1) := by decide +kernel
def k_Ar_fill_5 (n : Nat) (l1 : Int32) : Nat → Int32 → Int32 → (Nat → Int32) → Option ((Nat → Int32))
  | 0, _, _, _ => none
  | fu + 1, l2, l3, x => (if l2 < l3 then (if zOut l2 n then none else k_Ar_fill_5 n l1 fu ((l2 + (1 : Int32))) l3 ((upd x l2.toNatClampNeg l1))) else some x)
set_option maxRecDepth 20000 in
theorem w_Ar_fill_5 {X : zX} {c : zY} {a0 n : Nat} {l1 : Int32} {out : (Nat → Int32)} (hX : Ok X zr_Ar zb_Ar_fill 4 0 c) (hR : Rt X none none (zwFl c a0 n out)) : ∀ (fu : Nat) (l2 : Int32) (l3 : Int32) (x : (Nat → Int32)), k_Ar_fill_5 n l1 fu l2 l3 x = some out → Go X (zwFl c a0 n x) [(0, .ref a0), (1, .int l1), (2, .int l2), (3, .int l3)] 5 [] := by
  intro fu
  induction fu with
  | zero => intro l2 l3 x h; rw [k_Ar_fill_5] at h; cases h
  | succ fu ih =>
    intro l2 l3 x h
    rw [k_Ar_fill_5] at h
    refine g_iload_n (pc := 5) hX d_Ar_fill_5 rfl 2 rfl ?_
    refine g_iload_n (pc := 6) hX d_Ar_fill_6 rfl 3 rfl ?_
    refine g_icmp_ge (pc := 7) (tgt := 20) hX d_Ar_fill_7 (by decide) h (fun c1 h => ?_) (fun c1 h => ?_)
    · obtain rfl := Option.some.inj h
      exact g_vret (pc := 20) hX hR d_Ar_fill_20
    · refine g_aload_n (pc := 10) hX d_Ar_fill_10 rfl 0 rfl ?_
      refine g_iload_n (pc := 11) hX d_Ar_fill_11 rfl 2 rfl ?_
      refine g_iload_n (pc := 12) hX d_Ar_fill_12 rfl 1 rfl ?_
      refine g_iast (pc := 13) (f := x) (w' := (zwFl c a0 n ((upd x l2.toNatClampNeg l1)))) hX 0 rfl h (sa_Fl_0 c a0 n x (upd x l2.toNatClampNeg l1)) d_Ar_fill_13 (fun h => ?_)
      refine g_iinc (pc := 14) (q := 2) (L' := [(2, .int ((l2 + (1 : Int32)))), (0, .ref a0), (1, .int l1), (3, .int l3)]) hX d_Ar_fill_14 rfl zc_1 rfl rfl ?_
      refine g_goto (pc := 17) (tgt := 5) hX d_Ar_fill_17 (by decide) ?_
      refine g_ls (L' := [(0, .ref a0), (1, .int l1), (2, .int ((l2 + (1 : Int32)))), (3, .int l3)]) [1, 2, 0, 3] rfl ?_
      exact ih _ _ _ h
def k_Ar_fill (n : Nat) (x : (Nat → Int32)) (l1 : Int32) : Option ((Nat → Int32)) := k_Ar_fill_5 n l1 zFu ((0 : Int32)) ((Int32.ofNat n)) x
set_option maxRecDepth 20000 in
theorem c_Ar_fill (c : zY) (a0 n : Nat) (x : (Nat → Int32)) (l1 : Int32) {out : (Nat → Int32)} (h : k_Ar_fill n x l1 = some out) : KM zy_Ar_fill zb_Ar_fill 4 none 0 c [.ref a0, .int l1] (zwFl c a0 n x) (zwFl c a0 n out) none := zK_of zp_Ar rfl (Nat.le_of_ble_eq_true rfl) (zq_Fl c a0 n _ _) (fun X hX hR => by
  show Go X (zwFl c a0 n x) [(0, .ref a0), (1, .int l1)] 0 []
  rw [k_Ar_fill] at h
  refine g_iconst (pc := 0) hX d_Ar_fill_0 zc_0 ?_
  refine g_istore_n (pc := 1) (L' := [(2, .int ((0 : Int32))), (0, .ref a0), (1, .int l1)]) hX d_Ar_fill_1 rfl rfl rfl ?_
  refine g_aload_n (pc := 2) hX d_Ar_fill_2 rfl 1 rfl ?_
  refine g_alen (pc := 3) (v := (Int32.ofNat n)) hX 0 rfl rfl d_Ar_fill_3 ?_
  refine g_istore_n (pc := 4) (L' := [(3, .int ((Int32.ofNat n))), (2, .int ((0 : Int32))), (0, .ref a0), (1, .int l1)]) hX d_Ar_fill_4 rfl rfl rfl ?_
  refine g_ls (L' := [(0, .ref a0), (1, .int l1), (2, .int ((0 : Int32))), (3, .int ((Int32.ofNat n)))]) [2, 3, 1, 0] rfl ?_
  exact w_Ar_fill_5 hX hR _ _ _ _ h)
theorem d_Tp_hasRoomFor_0 : decode zb_Tp_hasRoomFor 0 = .ok (.aload_n 0, 1) := by decide +kernel
theorem d_Tp_hasRoomFor_1 : decode zb_Tp_hasRoomFor 1 = .ok (.getfield 18, 3) := by decide +kernel
theorem d_Tp_hasRoomFor_4 : decode zb_Tp_hasRoomFor 4 = .ok (.iload_n 1, 1) := by decide +kernel
theorem d_Tp_hasRoomFor_5 : decode zb_Tp_hasRoomFor 5 = .ok (.iadd, 1) := by decide +kernel
theorem d_Tp_hasRoomFor_6 : decode zb_Tp_hasRoomFor 6 = .ok (.bipush 40, 2) := by decide +kernel
theorem d_Tp_hasRoomFor_8 : decode zb_Tp_hasRoomFor 8 = .ok (.if_icmp .gt 7, 3) := by decide +kernel
theorem d_Tp_hasRoomFor_11 : decode zb_Tp_hasRoomFor 11 = .ok (.iconst 1, 1) := by decide +kernel
theorem d_Tp_hasRoomFor_12 : decode zb_Tp_hasRoomFor 12 = .ok (.goto 4, 3) := by decide +kernel
theorem d_Tp_hasRoomFor_15 : decode zb_Tp_hasRoomFor 15 = .ok (.iconst 0, 1) := by decide +kernel
theorem d_Tp_hasRoomFor_16 : decode zb_Tp_hasRoomFor 16 = .ok (.ireturn, 1) := by decide +kernel
def k_Tp_hasRoomFor (x : zsP) (l1 : Int32) : Option (Int32) := (if (40 : Int32) < (x.2.2.1 + l1) then some ((0 : Int32)) else some ((1 : Int32)))
set_option maxRecDepth 20000 in
theorem c_Tp_hasRoomFor (c : zY) (a0 a1 a2 : Nat) (x : zsP) (l1 : Int32) {out : Int32} (h : k_Tp_hasRoomFor x l1 = some out) : KM zy_Tp_hasRoomFor zb_Tp_hasRoomFor 2 (some .boolean) 0 c [.ref a0, .int l1] (zwP c a0 a1 a2 x) (zwP c a0 a1 a2 x) (some (.int out)) := zK_of zp_Tp rfl (Nat.le_of_ble_eq_true rfl) (zq_Tp c a0 a1 a2 _ _) (fun X hX hR => by
  show Go X (zwP c a0 a1 a2 x) [(0, .ref a0), (1, .int l1)] 0 []
  rw [k_Tp_hasRoomFor] at h
  refine g_aload_n (pc := 0) hX d_Tp_hasRoomFor_0 rfl 0 rfl ?_
  refine gf_Tp_18 (pc := 1) (v := .int x.2.2.1) hX 0 rfl rfl d_Tp_hasRoomFor_1 ?_
  refine g_iload_n (pc := 4) hX d_Tp_hasRoomFor_4 rfl 1 rfl ?_
  refine g_iadd (pc := 5) hX d_Tp_hasRoomFor_5 ?_
  refine g_bipush (pc := 6) hX d_Tp_hasRoomFor_6 ze_40 ?_
  refine g_icmp_gt (pc := 8) (tgt := 15) hX d_Tp_hasRoomFor_8 (by decide) h (fun c1 h => ?_) (fun c1 h => ?_)
  · refine g_iconst (pc := 15) hX d_Tp_hasRoomFor_15 zc_0 ?_
    obtain rfl := Option.some.inj h
    exact g_zret (pc := 16) hX hR (Or.inl rfl) d_Tp_hasRoomFor_16
  · refine g_iconst (pc := 11) hX d_Tp_hasRoomFor_11 zc_1 ?_
    refine g_goto (pc := 12) (tgt := 16) hX d_Tp_hasRoomFor_12 (by decide) ?_
    obtain rfl := Option.some.inj h
    exact g_zret (pc := 16) hX hR (Or.inr rfl) d_Tp_hasRoomFor_16)
theorem d_Tp_append_0 : decode zb_Tp_append 0 = .ok (.aload_n 0, 1) := by decide +kernel
theorem d_Tp_append_1 : decode zb_Tp_append 1 = .ok (.getfield 18, 3) := by decide +kernel
theorem d_Tp_append_4 : decode zb_Tp_append 4 = .ok (.ifCond .lt 35, 3) := by decide +kernel
theorem d_Tp_append_7 : decode zb_Tp_append 7 = .ok (.aload_n 0, 1) := by decide +kernel
theorem d_Tp_append_8 : decode zb_Tp_append 8 = .ok (.getfield 18, 3) := by decide +kernel
theorem d_Tp_append_11 : decode zb_Tp_append 11 = .ok (.aload_n 0, 1) := by decide +kernel
theorem d_Tp_append_12 : decode zb_Tp_append 12 = .ok (.getfield 11, 3) := by decide +kernel
theorem d_Tp_append_15 : decode zb_Tp_append 15 = .ok (.arraylength, 1) := by decide +kernel
theorem d_Tp_append_16 : decode zb_Tp_append 16 = .ok (.if_icmp .ge 23, 3) := by decide +kernel
theorem d_Tp_append_19 : decode zb_Tp_append 19 = .ok (.aload_n 0, 1) := by decide +kernel
theorem d_Tp_append_20 : decode zb_Tp_append 20 = .ok (.getfield 11, 3) := by decide +kernel
theorem d_Tp_append_23 : decode zb_Tp_append 23 = .ok (.aload_n 0, 1) := by decide +kernel
theorem d_Tp_append_24 : decode zb_Tp_append 24 = .ok (.getfield 18, 3) := by decide +kernel
theorem d_Tp_append_27 : decode zb_Tp_append 27 = .ok (.iload_n 1, 1) := by decide +kernel
theorem d_Tp_append_28 : decode zb_Tp_append 28 = .ok (.iastore, 1) := by decide +kernel
theorem d_Tp_append_29 : decode zb_Tp_append 29 = .ok (.aload_n 0, 1) := by decide +kernel
theorem d_Tp_append_30 : decode zb_Tp_append 30 = .ok (.dup, 1) := by decide +kernel
theorem d_Tp_append_31 : decode zb_Tp_append 31 = .ok (.getfield 18, 3) := by decide +kernel
theorem d_Tp_append_34 : decode zb_Tp_append 34 = .ok (.iconst 1, 1) := by decide +kernel
theorem d_Tp_append_35 : decode zb_Tp_append 35 = .ok (.iadd, 1) := by decide +kernel
theorem d_Tp_append_36 : decode zb_Tp_append 36 = .ok (.putfield 18, 3) := by decide +kernel
theorem d_Tp_append_39 : decode zb_Tp_append 39 = .ok (.return_, 1) := by decide +kernel
def k_Tp_append (x : zsP) (l1 : Int32) : Option (zsP) := (if x.2.2.1 < 0 then some x else (if x.2.2.1 < (40 : Int32) then (if zOut x.2.2.1 40 then none else some (((upd x.1 x.2.2.1.toNatClampNeg l1), x.2.1, (x.2.2.1 + (1 : Int32)), x.2.2.2))) else some x))
set_option maxRecDepth 20000 in
theorem c_Tp_append (c : zY) (a0 a1 a2 : Nat) (x : zsP) (l1 : Int32) {out : zsP} (h : k_Tp_append x l1 = some out) : KM zy_Tp_append zb_Tp_append 2 none 0 c [.ref a0, .int l1] (zwP c a0 a1 a2 x) (zwP c a0 a1 a2 out) none := zK_of zp_Tp rfl (Nat.le_of_ble_eq_true rfl) (zq_Tp c a0 a1 a2 _ _) (fun X hX hR => by
  show Go X (zwP c a0 a1 a2 x) [(0, .ref a0), (1, .int l1)] 0 []
  rw [k_Tp_append] at h
  refine g_aload_n (pc := 0) hX d_Tp_append_0 rfl 0 rfl ?_
  refine gf_Tp_18 (pc := 1) (v := .int x.2.2.1) hX 0 rfl rfl d_Tp_append_1 ?_
  refine g_if_lt (pc := 4) (tgt := 39) hX d_Tp_append_4 (by decide) h (fun c1 h => ?_) (fun c1 h => ?_)
  · obtain rfl := Option.some.inj h
    exact g_vret (pc := 39) hX hR d_Tp_append_39
  · refine g_aload_n (pc := 7) hX d_Tp_append_7 rfl 0 rfl ?_
    refine gf_Tp_18 (pc := 8) (v := .int x.2.2.1) hX 0 rfl rfl d_Tp_append_8 ?_
    refine g_aload_n (pc := 11) hX d_Tp_append_11 rfl 0 rfl ?_
    refine gf_Tp_11 (pc := 12) (v := .ref a1) hX 0 rfl rfl d_Tp_append_12 ?_
    refine g_alen (pc := 15) (v := (40 : Int32)) hX 1 rfl rfl d_Tp_append_15 ?_
    refine g_icmp_ge (pc := 16) (tgt := 39) hX d_Tp_append_16 (by decide) h (fun c2 h => ?_) (fun c2 h => ?_)
    · obtain rfl := Option.some.inj h
      exact g_vret (pc := 39) hX hR d_Tp_append_39
    · refine g_aload_n (pc := 19) hX d_Tp_append_19 rfl 0 rfl ?_
      refine gf_Tp_11 (pc := 20) (v := .ref a1) hX 0 rfl rfl d_Tp_append_20 ?_
      refine g_aload_n (pc := 23) hX d_Tp_append_23 rfl 0 rfl ?_
      refine gf_Tp_18 (pc := 24) (v := .int x.2.2.1) hX 0 rfl rfl d_Tp_append_24 ?_
      refine g_iload_n (pc := 27) hX d_Tp_append_27 rfl 1 rfl ?_
      refine g_iast (pc := 28) (f := x.1) (w' := (zwP c a0 a1 a2 (((upd x.1 x.2.2.1.toNatClampNeg l1), x.2.1, x.2.2.1, x.2.2.2)))) hX 1 rfl h (sa_Tp_1 c a0 a1 a2 x (upd x.1 x.2.2.1.toNatClampNeg l1)) d_Tp_append_28 (fun h => ?_)
      refine g_aload_n (pc := 29) hX d_Tp_append_29 rfl 0 rfl ?_
      refine g_dup (pc := 30) hX d_Tp_append_30 rfl ?_
      refine gf_Tp_18 (pc := 31) (v := .int x.2.2.1) hX 0 rfl rfl d_Tp_append_31 ?_
      refine g_iconst (pc := 34) hX d_Tp_append_34 zc_1 ?_
      refine g_iadd (pc := 35) hX d_Tp_append_35 ?_
      refine pf_Tp_18 (pc := 36) (w2 := (zwP c a0 a1 a2 (((upd x.1 x.2.2.1.toNatClampNeg l1), x.2.1, (x.2.2.1 + (1 : Int32)), x.2.2.2)))) hX 0 rfl rfl (su_Tp_0_2 c a0 a1 a2 (((upd x.1 x.2.2.1.toNatClampNeg l1), x.2.1, x.2.2.1, x.2.2.2)) ((x.2.2.1 + (1 : Int32)))) d_Tp_append_36 ?_
      obtain rfl := Option.some.inj h
      exact g_vret (pc := 39) hX hR d_Tp_append_39)
theorem d_Tp_clear_0 : decode zb_Tp_clear 0 = .ok (.aload_n 0, 1) := by decide +kernel
theorem d_Tp_clear_1 : decode zb_Tp_clear 1 = .ok (.iconst 0, 1) := by decide +kernel
theorem d_Tp_clear_2 : decode zb_Tp_clear 2 = .ok (.putfield 18, 3) := by decide +kernel
theorem d_Tp_clear_5 : decode zb_Tp_clear 5 = .ok (.return_, 1) := by decide +kernel
def k_Tp_clear (x : zsP) : Option (zsP) := some ((x.1, x.2.1, (0 : Int32), x.2.2.2))
set_option maxRecDepth 20000 in
theorem c_Tp_clear (c : zY) (a0 a1 a2 : Nat) (x : zsP) {out : zsP} (h : k_Tp_clear x = some out) : KM zy_Tp_clear zb_Tp_clear 1 none 0 c [.ref a0] (zwP c a0 a1 a2 x) (zwP c a0 a1 a2 out) none := zK_of zp_Tp rfl (Nat.le_of_ble_eq_true rfl) (zq_Tp c a0 a1 a2 _ _) (fun X hX hR => by
  show Go X (zwP c a0 a1 a2 x) [(0, .ref a0)] 0 []
  rw [k_Tp_clear] at h
  refine g_aload_n (pc := 0) hX d_Tp_clear_0 rfl 0 rfl ?_
  refine g_iconst (pc := 1) hX d_Tp_clear_1 zc_0 ?_
  refine pf_Tp_18 (pc := 2) (w2 := (zwP c a0 a1 a2 ((x.1, x.2.1, (0 : Int32), x.2.2.2)))) hX 0 rfl rfl (su_Tp_0_2 c a0 a1 a2 x ((0 : Int32))) d_Tp_clear_2 ?_
  obtain rfl := Option.some.inj h
  exact g_vret (pc := 5) hX hR d_Tp_clear_5)
theorem d_Tp_part_0 : decode zb_Tp_part 0 = .ok (.iload_n 1, 1) := by decide +kernel
theorem d_Tp_part_1 : decode zb_Tp_part 1 = .ok (.ifCond .lt 21, 3) := by decide +kernel
theorem d_Tp_part_4 : decode zb_Tp_part 4 = .ok (.iload_n 1, 1) := by decide +kernel
theorem d_Tp_part_5 : decode zb_Tp_part 5 = .ok (.aload_n 0, 1) := by decide +kernel
theorem d_Tp_part_6 : decode zb_Tp_part 6 = .ok (.getfield 15, 3) := by decide +kernel
theorem d_Tp_part_9 : decode zb_Tp_part 9 = .ok (.arraylength, 1) := by decide +kernel
theorem d_Tp_part_10 : decode zb_Tp_part 10 = .ok (.if_icmp .ge 12, 3) := by decide +kernel
theorem d_Tp_part_13 : decode zb_Tp_part 13 = .ok (.aload_n 0, 1) := by decide +kernel
theorem d_Tp_part_14 : decode zb_Tp_part 14 = .ok (.getfield 15, 3) := by decide +kernel
theorem d_Tp_part_17 : decode zb_Tp_part 17 = .ok (.iload_n 1, 1) := by decide +kernel
theorem d_Tp_part_18 : decode zb_Tp_part 18 = .ok (.iaload, 1) := by decide +kernel
theorem d_Tp_part_19 : decode zb_Tp_part 19 = .ok (.goto 4, 3) := by decide +kernel
theorem d_Tp_part_22 : decode zb_Tp_part 22 = .ok (.iconst 0, 1) := by decide +kernel
theorem d_Tp_part_23 : decode zb_Tp_part 23 = .ok (.ireturn, 1) := by decide +kernel
def k_Tp_part (x : zsP) (l1 : Int32) : Option (Int32) := (if l1 < 0 then some ((0 : Int32)) else (if l1 < (25 : Int32) then (if zOut l1 25 then none else some ((x.2.1 l1.toNatClampNeg))) else some ((0 : Int32))))
set_option maxRecDepth 20000 in
theorem c_Tp_part (c : zY) (a0 a1 a2 : Nat) (x : zsP) (l1 : Int32) {out : Int32} (h : k_Tp_part x l1 = some out) : KM zy_Tp_part zb_Tp_part 2 (some .int) 0 c [.ref a0, .int l1] (zwP c a0 a1 a2 x) (zwP c a0 a1 a2 x) (some (.int out)) := zK_of zp_Tp rfl (Nat.le_of_ble_eq_true rfl) (zq_Tp c a0 a1 a2 _ _) (fun X hX hR => by
  show Go X (zwP c a0 a1 a2 x) [(0, .ref a0), (1, .int l1)] 0 []
  rw [k_Tp_part] at h
  refine g_iload_n (pc := 0) hX d_Tp_part_0 rfl 1 rfl ?_
  refine g_if_lt (pc := 1) (tgt := 22) hX d_Tp_part_1 (by decide) h (fun c1 h => ?_) (fun c1 h => ?_)
  · refine g_iconst (pc := 22) hX d_Tp_part_22 zc_0 ?_
    obtain rfl := Option.some.inj h
    exact g_iret (pc := 23) hX hR d_Tp_part_23
  · refine g_iload_n (pc := 4) hX d_Tp_part_4 rfl 1 rfl ?_
    refine g_aload_n (pc := 5) hX d_Tp_part_5 rfl 0 rfl ?_
    refine gf_Tp_15 (pc := 6) (v := .ref a2) hX 0 rfl rfl d_Tp_part_6 ?_
    refine g_alen (pc := 9) (v := (25 : Int32)) hX 2 rfl rfl d_Tp_part_9 ?_
    refine g_icmp_ge (pc := 10) (tgt := 22) hX d_Tp_part_10 (by decide) h (fun c2 h => ?_) (fun c2 h => ?_)
    · refine g_iconst (pc := 22) hX d_Tp_part_22 zc_0 ?_
      obtain rfl := Option.some.inj h
      exact g_iret (pc := 23) hX hR d_Tp_part_23
    · refine g_aload_n (pc := 13) hX d_Tp_part_13 rfl 0 rfl ?_
      refine gf_Tp_15 (pc := 14) (v := .ref a2) hX 0 rfl rfl d_Tp_part_14 ?_
      refine g_iload_n (pc := 17) hX d_Tp_part_17 rfl 1 rfl ?_
      refine g_iald (pc := 18) (f := x.2.1) hX 2 rfl h d_Tp_part_18 (fun h => ?_)
      refine g_goto (pc := 19) (tgt := 23) hX d_Tp_part_19 (by decide) ?_
      obtain rfl := Option.some.inj h
      exact g_iret (pc := 23) hX hR d_Tp_part_23)
theorem d_Tp_peek_0 : decode zb_Tp_peek 0 = .ok (.aload_n 0, 1) := by decide +kernel
theorem d_Tp_peek_1 : decode zb_Tp_peek 1 = .ok (.getfield 22, 3) := by decide +kernel
theorem d_Tp_peek_4 : decode zb_Tp_peek 4 = .ok (.ifCond .lt 30, 3) := by decide +kernel
theorem d_Tp_peek_7 : decode zb_Tp_peek 7 = .ok (.aload_n 0, 1) := by decide +kernel
theorem d_Tp_peek_8 : decode zb_Tp_peek 8 = .ok (.getfield 22, 3) := by decide +kernel
theorem d_Tp_peek_11 : decode zb_Tp_peek 11 = .ok (.aload_n 0, 1) := by decide +kernel
theorem d_Tp_peek_12 : decode zb_Tp_peek 12 = .ok (.getfield 18, 3) := by decide +kernel
theorem d_Tp_peek_15 : decode zb_Tp_peek 15 = .ok (.if_icmp .ge 19, 3) := by decide +kernel
theorem d_Tp_peek_18 : decode zb_Tp_peek 18 = .ok (.aload_n 0, 1) := by decide +kernel
theorem d_Tp_peek_19 : decode zb_Tp_peek 19 = .ok (.getfield 22, 3) := by decide +kernel
theorem d_Tp_peek_22 : decode zb_Tp_peek 22 = .ok (.aload_n 0, 1) := by decide +kernel
theorem d_Tp_peek_23 : decode zb_Tp_peek 23 = .ok (.getfield 11, 3) := by decide +kernel
theorem d_Tp_peek_26 : decode zb_Tp_peek 26 = .ok (.arraylength, 1) := by decide +kernel
theorem d_Tp_peek_27 : decode zb_Tp_peek 27 = .ok (.if_icmp .ge 7, 3) := by decide +kernel
theorem d_Tp_peek_30 : decode zb_Tp_peek 30 = .ok (.iconst 1, 1) := by decide +kernel
theorem d_Tp_peek_31 : decode zb_Tp_peek 31 = .ok (.goto 4, 3) := by decide +kernel
theorem d_Tp_peek_34 : decode zb_Tp_peek 34 = .ok (.iconst 0, 1) := by decide +kernel
theorem d_Tp_peek_35 : decode zb_Tp_peek 35 = .ok (.istore_n 1, 1) := by decide +kernel
theorem d_Tp_peek_36 : decode zb_Tp_peek 36 = .ok (.iload_n 1, 1) := by decide +kernel
theorem d_Tp_peek_37 : decode zb_Tp_peek 37 = .ok (.ifCond .eq 15, 3) := by decide +kernel
theorem d_Tp_peek_40 : decode zb_Tp_peek 40 = .ok (.aload_n 0, 1) := by decide +kernel
theorem d_Tp_peek_41 : decode zb_Tp_peek 41 = .ok (.getfield 11, 3) := by decide +kernel
theorem d_Tp_peek_44 : decode zb_Tp_peek 44 = .ok (.aload_n 0, 1) := by decide +kernel
theorem d_Tp_peek_45 : decode zb_Tp_peek 45 = .ok (.getfield 22, 3) := by decide +kernel
theorem d_Tp_peek_48 : decode zb_Tp_peek 48 = .ok (.iaload, 1) := by decide +kernel
theorem d_Tp_peek_49 : decode zb_Tp_peek 49 = .ok (.goto 4, 3) := by decide +kernel
theorem d_Tp_peek_52 : decode zb_Tp_peek 52 = .ok (.iconst (-1), 1) := by decide +kernel
theorem d_Tp_peek_53 : decode zb_Tp_peek 53 = .ok (.ireturn, 1) := by decide +kernel
def k_Tp_peek_35 (x : zsP) (s0 : Int32) : Option (Int32) := (if s0 = 0 then some ((-1 : Int32)) else (if zOut x.2.2.2 40 then none else some ((x.1 x.2.2.2.toNatClampNeg))))
set_option maxRecDepth 20000 in
theorem w_Tp_peek_35 {X : zX} {c : zY} {a0 a1 a2 : Nat} {x : zsP} {out : Int32} (hX : Ok X zr_Tp zb_Tp_peek 2 0 c) (hR : Rt X (some .int) (some (.int out)) (zwP c a0 a1 a2 x)) : ∀ (s0 : Int32), k_Tp_peek_35 x s0 = some out → Go X (zwP c a0 a1 a2 x) [(0, .ref a0)] 35 [.int s0] := by
  intro s0 h
  rw [k_Tp_peek_35] at h
  refine g_istore_n (pc := 35) (L' := [(1, .int s0), (0, .ref a0)]) hX d_Tp_peek_35 rfl rfl rfl ?_
  refine g_iload_n (pc := 36) hX d_Tp_peek_36 rfl 0 rfl ?_
  refine g_if_eq (pc := 37) (tgt := 52) hX d_Tp_peek_37 (by decide) h (fun c2 h => ?_) (fun c2 h => ?_)
  · refine g_iconst (pc := 52) hX d_Tp_peek_52 zc_m1 ?_
    obtain rfl := Option.some.inj h
    exact g_iret (pc := 53) hX hR d_Tp_peek_53
  · refine g_aload_n (pc := 40) hX d_Tp_peek_40 rfl 1 rfl ?_
    refine gf_Tp_11 (pc := 41) (v := .ref a1) hX 0 rfl rfl d_Tp_peek_41 ?_
    refine g_aload_n (pc := 44) hX d_Tp_peek_44 rfl 1 rfl ?_
    refine gf_Tp_22 (pc := 45) (v := .int x.2.2.2) hX 0 rfl rfl d_Tp_peek_45 ?_
    refine g_iald (pc := 48) (f := x.1) hX 1 rfl h d_Tp_peek_48 (fun h => ?_)
    refine g_goto (pc := 49) (tgt := 53) hX d_Tp_peek_49 (by decide) ?_
    obtain rfl := Option.some.inj h
    exact g_iret (pc := 53) hX hR d_Tp_peek_53
def k_Tp_peek (x : zsP) : Option (Int32) := (if x.2.2.2 < 0 then k_Tp_peek_35 x ((0 : Int32)) else (if x.2.2.2 < x.2.2.1 then (if x.2.2.2 < (40 : Int32) then k_Tp_peek_35 x ((1 : Int32)) else k_Tp_peek_35 x ((0 : Int32))) else k_Tp_peek_35 x ((0 : Int32))))
set_option maxRecDepth 20000 in
theorem c_Tp_peek (c : zY) (a0 a1 a2 : Nat) (x : zsP) {out : Int32} (h : k_Tp_peek x = some out) : KM zy_Tp_peek zb_Tp_peek 2 (some .int) 0 c [.ref a0] (zwP c a0 a1 a2 x) (zwP c a0 a1 a2 x) (some (.int out)) := zK_of zp_Tp rfl (Nat.le_of_ble_eq_true rfl) (zq_Tp c a0 a1 a2 _ _) (fun X hX hR => by
  show Go X (zwP c a0 a1 a2 x) [(0, .ref a0)] 0 []
  rw [k_Tp_peek] at h
  refine g_aload_n (pc := 0) hX d_Tp_peek_0 rfl 0 rfl ?_
  refine gf_Tp_22 (pc := 1) (v := .int x.2.2.2) hX 0 rfl rfl d_Tp_peek_1 ?_
  refine g_if_lt (pc := 4) (tgt := 34) hX d_Tp_peek_4 (by decide) h (fun c1 h => ?_) (fun c1 h => ?_)
  · refine g_iconst (pc := 34) hX d_Tp_peek_34 zc_0 ?_
    exact w_Tp_peek_35 hX hR _ h
  · refine g_aload_n (pc := 7) hX d_Tp_peek_7 rfl 0 rfl ?_
    refine gf_Tp_22 (pc := 8) (v := .int x.2.2.2) hX 0 rfl rfl d_Tp_peek_8 ?_
    refine g_aload_n (pc := 11) hX d_Tp_peek_11 rfl 0 rfl ?_
    refine gf_Tp_18 (pc := 12) (v := .int x.2.2.1) hX 0 rfl rfl d_Tp_peek_12 ?_
    refine g_icmp_ge (pc := 15) (tgt := 34) hX d_Tp_peek_15 (by decide) h (fun c3 h => ?_) (fun c3 h => ?_)
    · refine g_iconst (pc := 34) hX d_Tp_peek_34 zc_0 ?_
      exact w_Tp_peek_35 hX hR _ h
    · refine g_aload_n (pc := 18) hX d_Tp_peek_18 rfl 0 rfl ?_
      refine gf_Tp_22 (pc := 19) (v := .int x.2.2.2) hX 0 rfl rfl d_Tp_peek_19 ?_
      refine g_aload_n (pc := 22) hX d_Tp_peek_22 rfl 0 rfl ?_
      refine gf_Tp_11 (pc := 23) (v := .ref a1) hX 0 rfl rfl d_Tp_peek_23 ?_
      refine g_alen (pc := 26) (v := (40 : Int32)) hX 1 rfl rfl d_Tp_peek_26 ?_
      refine g_icmp_ge (pc := 27) (tgt := 34) hX d_Tp_peek_27 (by decide) h (fun c4 h => ?_) (fun c4 h => ?_)
      · refine g_iconst (pc := 34) hX d_Tp_peek_34 zc_0 ?_
        exact w_Tp_peek_35 hX hR _ h
      · refine g_iconst (pc := 30) hX d_Tp_peek_30 zc_1 ?_
        refine g_goto (pc := 31) (tgt := 35) hX d_Tp_peek_31 (by decide) ?_
        exact w_Tp_peek_35 hX hR _ h)
theorem d_Tp_skip_0 : decode zb_Tp_skip 0 = .ok (.aload_n 0, 1) := by decide +kernel
theorem d_Tp_skip_1 : decode zb_Tp_skip 1 = .ok (.invokevirtual 49, 3) := by decide +kernel
theorem d_Tp_skip_4 : decode zb_Tp_skip 4 = .ok (.iload_n 1, 1) := by decide +kernel
theorem d_Tp_skip_5 : decode zb_Tp_skip 5 = .ok (.if_icmp .ne 7, 3) := by decide +kernel
theorem d_Tp_skip_8 : decode zb_Tp_skip 8 = .ok (.iconst 1, 1) := by decide +kernel
theorem d_Tp_skip_9 : decode zb_Tp_skip 9 = .ok (.goto 4, 3) := by decide +kernel
theorem d_Tp_skip_12 : decode zb_Tp_skip 12 = .ok (.iconst 0, 1) := by decide +kernel
theorem d_Tp_skip_13 : decode zb_Tp_skip 13 = .ok (.istore_n 2, 1) := by decide +kernel
theorem d_Tp_skip_14 : decode zb_Tp_skip 14 = .ok (.iload_n 2, 1) := by decide +kernel
theorem d_Tp_skip_15 : decode zb_Tp_skip 15 = .ok (.ifCond .eq 13, 3) := by decide +kernel
theorem d_Tp_skip_18 : decode zb_Tp_skip 18 = .ok (.aload_n 0, 1) := by decide +kernel
theorem d_Tp_skip_19 : decode zb_Tp_skip 19 = .ok (.dup, 1) := by decide +kernel
theorem d_Tp_skip_20 : decode zb_Tp_skip 20 = .ok (.getfield 22, 3) := by decide +kernel
theorem d_Tp_skip_23 : decode zb_Tp_skip 23 = .ok (.iconst 1, 1) := by decide +kernel
theorem d_Tp_skip_24 : decode zb_Tp_skip 24 = .ok (.iadd, 1) := by decide +kernel
theorem d_Tp_skip_25 : decode zb_Tp_skip 25 = .ok (.putfield 22, 3) := by decide +kernel
theorem d_Tp_skip_28 : decode zb_Tp_skip 28 = .ok (.iload_n 2, 1) := by decide +kernel
theorem d_Tp_skip_29 : decode zb_Tp_skip 29 = .ok (.ireturn, 1) := by decide +kernel
def k_Tp_skip_13 (l1 : Int32) (s0 : Int32) (x : zsP) : Option (Int32 × zsP) := (if s0 = 0 then (if s0 = 0 ∨ s0 = 1 then some (s0, x) else none) else (if s0 = 0 ∨ s0 = 1 then some (s0, (x.1, x.2.1, x.2.2.1, (x.2.2.2 + (1 : Int32)))) else none))
set_option maxRecDepth 20000 in
theorem w_Tp_skip_13 {X : zX} {c : zY} {a0 a1 a2 : Nat} {l1 : Int32} {out : Int32 × zsP} (hX : Ok X zr_Tp zb_Tp_skip 3 1 c) (hR : Rt X (some .boolean) (some (.int out.1)) (zwP c a0 a1 a2 out.2)) : ∀ (s0 : Int32) (x : zsP), k_Tp_skip_13 l1 s0 x = some out → Go X (zwP c a0 a1 a2 x) [(0, .ref a0)] 13 [.int s0] := by
  intro s0 x h
  rw [k_Tp_skip_13] at h
  refine g_istore_n (pc := 13) (L' := [(2, .int s0), (0, .ref a0)]) hX d_Tp_skip_13 rfl rfl rfl ?_
  refine g_iload_n (pc := 14) hX d_Tp_skip_14 rfl 0 rfl ?_
  refine g_if_eq (pc := 15) (tgt := 28) hX d_Tp_skip_15 (by decide) h (fun c3 h => ?_) (fun c3 h => ?_)
  · refine g_iload_n (pc := 28) hX d_Tp_skip_28 rfl 0 rfl ?_
    obtain ⟨hb4, h⟩ := zifb h
    obtain rfl := Option.some.inj h
    exact g_zret (pc := 29) hX hR hb4 d_Tp_skip_29
  · refine g_aload_n (pc := 18) hX d_Tp_skip_18 rfl 1 rfl ?_
    refine g_dup (pc := 19) hX d_Tp_skip_19 rfl ?_
    refine gf_Tp_22 (pc := 20) (v := .int x.2.2.2) hX 0 rfl rfl d_Tp_skip_20 ?_
    refine g_iconst (pc := 23) hX d_Tp_skip_23 zc_1 ?_
    refine g_iadd (pc := 24) hX d_Tp_skip_24 ?_
    refine pf_Tp_22 (pc := 25) (w2 := (zwP c a0 a1 a2 ((x.1, x.2.1, x.2.2.1, (x.2.2.2 + (1 : Int32)))))) hX 0 rfl rfl (su_Tp_0_3 c a0 a1 a2 x ((x.2.2.2 + (1 : Int32)))) d_Tp_skip_25 ?_
    refine g_iload_n (pc := 28) hX d_Tp_skip_28 rfl 0 rfl ?_
    obtain ⟨hb5, h⟩ := zifb h
    obtain rfl := Option.some.inj h
    exact g_zret (pc := 29) hX hR hb5 d_Tp_skip_29
def k_Tp_skip (x : zsP) (l1 : Int32) : Option (Int32 × zsP) := (k_Tp_peek x).bind fun o1 => (if o1 = l1 then k_Tp_skip_13 l1 ((1 : Int32)) x else k_Tp_skip_13 l1 ((0 : Int32)) x)
set_option maxRecDepth 20000 in
theorem c_Tp_skip (c : zY) (a0 a1 a2 : Nat) (x : zsP) (l1 : Int32) {out : Int32 × zsP} (h : k_Tp_skip x l1 = some out) : KM zy_Tp_skip zb_Tp_skip 3 (some .boolean) 1 c [.ref a0, .int l1] (zwP c a0 a1 a2 x) (zwP c a0 a1 a2 out.2) (some (.int out.1)) := zK_of zp_Tp rfl (Nat.le_of_ble_eq_true rfl) (zq_Tp c a0 a1 a2 _ _) (fun X hX hR => by
  show Go X (zwP c a0 a1 a2 x) [(0, .ref a0), (1, .int l1)] 0 []
  rw [k_Tp_skip] at h
  refine g_aload_n (pc := 0) hX d_Tp_skip_0 rfl 0 rfl ?_
  obtain ⟨o1, e1, h⟩ := zbind h
  refine g_cvI (pc := 1) (w1 := []) (w2 := []) (st := []) (w' := (zwP c a0 a1 a2 x)) hX zk_Tp_peek zs_Tp_peek zL_Tp_49 (c_Tp_peek c a0 a1 a2 x e1) rfl rfl rfl rfl (zself _) (zself _).symm 0 7 rfl rfl rfl d_Tp_skip_1 ?_
  refine g_iload_n (pc := 4) hX d_Tp_skip_4 rfl 1 rfl ?_
  refine g_icmp_ne (pc := 5) (tgt := 12) hX d_Tp_skip_5 (by decide) h (fun c2 h => ?_) (fun c2 h => ?_)
  · refine g_iconst (pc := 12) hX d_Tp_skip_12 zc_0 ?_
    refine g_ls (L' := [(0, .ref a0)]) [0] rfl ?_
    exact w_Tp_skip_13 hX hR _ _ h
  · refine g_iconst (pc := 8) hX d_Tp_skip_8 zc_1 ?_
    refine g_goto (pc := 9) (tgt := 13) hX d_Tp_skip_9 (by decide) ?_
    refine g_ls (L' := [(0, .ref a0)]) [0] rfl ?_
    exact w_Tp_skip_13 hX hR _ _ h)
theorem d_Tp_setPart_0 : decode zb_Tp_setPart 0 = .ok (.iload_n 1, 1) := by decide +kernel
theorem d_Tp_setPart_1 : decode zb_Tp_setPart 1 = .ok (.ifCond .lt 19, 3) := by decide +kernel
theorem d_Tp_setPart_4 : decode zb_Tp_setPart 4 = .ok (.iload_n 1, 1) := by decide +kernel
theorem d_Tp_setPart_5 : decode zb_Tp_setPart 5 = .ok (.aload_n 0, 1) := by decide +kernel
theorem d_Tp_setPart_6 : decode zb_Tp_setPart 6 = .ok (.getfield 15, 3) := by decide +kernel
theorem d_Tp_setPart_9 : decode zb_Tp_setPart 9 = .ok (.arraylength, 1) := by decide +kernel
theorem d_Tp_setPart_10 : decode zb_Tp_setPart 10 = .ok (.if_icmp .ge 10, 3) := by decide +kernel
theorem d_Tp_setPart_13 : decode zb_Tp_setPart 13 = .ok (.aload_n 0, 1) := by decide +kernel
theorem d_Tp_setPart_14 : decode zb_Tp_setPart 14 = .ok (.getfield 15, 3) := by decide +kernel
theorem d_Tp_setPart_17 : decode zb_Tp_setPart 17 = .ok (.iload_n 1, 1) := by decide +kernel
theorem d_Tp_setPart_18 : decode zb_Tp_setPart 18 = .ok (.iload_n 2, 1) := by decide +kernel
theorem d_Tp_setPart_19 : decode zb_Tp_setPart 19 = .ok (.iastore, 1) := by decide +kernel
theorem d_Tp_setPart_20 : decode zb_Tp_setPart 20 = .ok (.return_, 1) := by decide +kernel
def k_Tp_setPart (x : zsP) (l1 : Int32) (l2 : Int32) : Option (zsP) := (if l1 < 0 then some x else (if l1 < (25 : Int32) then (if zOut l1 25 then none else some ((x.1, (upd x.2.1 l1.toNatClampNeg l2), x.2.2.1, x.2.2.2))) else some x))
set_option maxRecDepth 20000 in
theorem c_Tp_setPart (c : zY) (a0 a1 a2 : Nat) (x : zsP) (l1 : Int32) (l2 : Int32) {out : zsP} (h : k_Tp_setPart x l1 l2 = some out) : KM zy_Tp_setPart zb_Tp_setPart 3 none 0 c [.ref a0, .int l1, .int l2] (zwP c a0 a1 a2 x) (zwP c a0 a1 a2 out) none := zK_of zp_Tp rfl (Nat.le_of_ble_eq_true rfl) (zq_Tp c a0 a1 a2 _ _) (fun X hX hR => by
  show Go X (zwP c a0 a1 a2 x) [(0, .ref a0), (1, .int l1), (2, .int l2)] 0 []
  rw [k_Tp_setPart] at h
  refine g_iload_n (pc := 0) hX d_Tp_setPart_0 rfl 1 rfl ?_
  refine g_if_lt (pc := 1) (tgt := 20) hX d_Tp_setPart_1 (by decide) h (fun c1 h => ?_) (fun c1 h => ?_)
  · obtain rfl := Option.some.inj h
    exact g_vret (pc := 20) hX hR d_Tp_setPart_20
  · refine g_iload_n (pc := 4) hX d_Tp_setPart_4 rfl 1 rfl ?_
    refine g_aload_n (pc := 5) hX d_Tp_setPart_5 rfl 0 rfl ?_
    refine gf_Tp_15 (pc := 6) (v := .ref a2) hX 0 rfl rfl d_Tp_setPart_6 ?_
    refine g_alen (pc := 9) (v := (25 : Int32)) hX 2 rfl rfl d_Tp_setPart_9 ?_
    refine g_icmp_ge (pc := 10) (tgt := 20) hX d_Tp_setPart_10 (by decide) h (fun c2 h => ?_) (fun c2 h => ?_)
    · obtain rfl := Option.some.inj h
      exact g_vret (pc := 20) hX hR d_Tp_setPart_20
    · refine g_aload_n (pc := 13) hX d_Tp_setPart_13 rfl 0 rfl ?_
      refine gf_Tp_15 (pc := 14) (v := .ref a2) hX 0 rfl rfl d_Tp_setPart_14 ?_
      refine g_iload_n (pc := 17) hX d_Tp_setPart_17 rfl 1 rfl ?_
      refine g_iload_n (pc := 18) hX d_Tp_setPart_18 rfl 2 rfl ?_
      refine g_iast (pc := 19) (f := x.2.1) (w' := (zwP c a0 a1 a2 ((x.1, (upd x.2.1 l1.toNatClampNeg l2), x.2.2.1, x.2.2.2)))) hX 2 rfl h (sa_Tp_2 c a0 a1 a2 x (upd x.2.1 l1.toNatClampNeg l2)) d_Tp_setPart_19 (fun h => ?_)
      obtain rfl := Option.some.inj h
      exact g_vret (pc := 20) hX hR d_Tp_setPart_20)
theorem d_Tp_readDigit_0 : decode zb_Tp_readDigit 0 = .ok (.aload_n 0, 1) := by decide +kernel
theorem d_Tp_readDigit_1 : decode zb_Tp_readDigit 1 = .ok (.invokevirtual 49, 3) := by decide +kernel
theorem d_Tp_readDigit_4 : decode zb_Tp_readDigit 4 = .ok (.bipush 48, 2) := by decide +kernel
theorem d_Tp_readDigit_6 : decode zb_Tp_readDigit 6 = .ok (.isub, 1) := by decide +kernel
theorem d_Tp_readDigit_7 : decode zb_Tp_readDigit 7 = .ok (.istore 4, 2) := by decide +kernel
theorem d_Tp_readDigit_9 : decode zb_Tp_readDigit 9 = .ok (.iload 4, 2) := by decide +kernel
theorem d_Tp_readDigit_11 : decode zb_Tp_readDigit 11 = .ok (.iload_n 2, 1) := by decide +kernel
theorem d_Tp_readDigit_12 : decode zb_Tp_readDigit 12 = .ok (.if_icmp .lt 13, 3) := by decide +kernel
theorem d_Tp_readDigit_15 : decode zb_Tp_readDigit 15 = .ok (.iload 4, 2) := by decide +kernel
theorem d_Tp_readDigit_17 : decode zb_Tp_readDigit 17 = .ok (.iload_n 3, 1) := by decide +kernel
theorem d_Tp_readDigit_18 : decode zb_Tp_readDigit 18 = .ok (.if_icmp .gt 7, 3) := by decide +kernel
theorem d_Tp_readDigit_21 : decode zb_Tp_readDigit 21 = .ok (.iconst 1, 1) := by decide +kernel
theorem d_Tp_readDigit_22 : decode zb_Tp_readDigit 22 = .ok (.goto 4, 3) := by decide +kernel
theorem d_Tp_readDigit_25 : decode zb_Tp_readDigit 25 = .ok (.iconst 0, 1) := by decide +kernel
theorem d_Tp_readDigit_26 : decode zb_Tp_readDigit 26 = .ok (.istore 5, 2) := by decide +kernel
theorem d_Tp_readDigit_28 : decode zb_Tp_readDigit 28 = .ok (.iload 5, 2) := by decide +kernel
theorem d_Tp_readDigit_30 : decode zb_Tp_readDigit 30 = .ok (.ifCond .eq 20, 3) := by decide +kernel
theorem d_Tp_readDigit_33 : decode zb_Tp_readDigit 33 = .ok (.aload_n 0, 1) := by decide +kernel
theorem d_Tp_readDigit_34 : decode zb_Tp_readDigit 34 = .ok (.iload_n 1, 1) := by decide +kernel
theorem d_Tp_readDigit_35 : decode zb_Tp_readDigit 35 = .ok (.iload 4, 2) := by decide +kernel
theorem d_Tp_readDigit_37 : decode zb_Tp_readDigit 37 = .ok (.invokevirtual 53, 3) := by decide +kernel
theorem d_Tp_readDigit_40 : decode zb_Tp_readDigit 40 = .ok (.aload_n 0, 1) := by decide +kernel
theorem d_Tp_readDigit_41 : decode zb_Tp_readDigit 41 = .ok (.dup, 1) := by decide +kernel
theorem d_Tp_readDigit_42 : decode zb_Tp_readDigit 42 = .ok (.getfield 22, 3) := by decide +kernel
theorem d_Tp_readDigit_45 : decode zb_Tp_readDigit 45 = .ok (.iconst 1, 1) := by decide +kernel
theorem d_Tp_readDigit_46 : decode zb_Tp_readDigit 46 = .ok (.iadd, 1) := by decide +kernel
theorem d_Tp_readDigit_47 : decode zb_Tp_readDigit 47 = .ok (.putfield 22, 3) := by decide +kernel
theorem d_Tp_readDigit_50 : decode zb_Tp_readDigit 50 = .ok (.iload 5, 2) := by decide +kernel
theorem d_Tp_readDigit_52 : decode zb_Tp_readDigit 52 = .ok (.ireturn, 1) := by decide +kernel
def k_Tp_readDigit_26 (l1 : Int32) (l2 : Int32) (l3 : Int32) (l4 : Int32) (s0 : Int32) (x : zsP) : Option (Int32 × zsP) := (if s0 = 0 then (if s0 = 0 ∨ s0 = 1 then some (s0, x) else none) else (k_Tp_setPart x l1 l4).bind fun o5 => (if s0 = 0 ∨ s0 = 1 then some (s0, (o5.1, o5.2.1, o5.2.2.1, (o5.2.2.2 + (1 : Int32)))) else none))
set_option maxRecDepth 20000 in
theorem w_Tp_readDigit_26 {X : zX} {c : zY} {a0 a1 a2 : Nat} {l1 : Int32} {l2 : Int32} {l3 : Int32} {out : Int32 × zsP} (hX : Ok X zr_Tp zb_Tp_readDigit 6 1 c) (hR : Rt X (some .boolean) (some (.int out.1)) (zwP c a0 a1 a2 out.2)) : ∀ (l4 : Int32) (s0 : Int32) (x : zsP), k_Tp_readDigit_26 l1 l2 l3 l4 s0 x = some out → Go X (zwP c a0 a1 a2 x) [(0, .ref a0), (1, .int l1), (4, .int l4)] 26 [.int s0] := by
  intro l4 s0 x h
  rw [k_Tp_readDigit_26] at h
  refine g_istore (pc := 26) (L' := [(5, .int s0), (0, .ref a0), (1, .int l1), (4, .int l4)]) hX d_Tp_readDigit_26 rfl rfl ?_
  refine g_iload (pc := 28) hX d_Tp_readDigit_28 0 rfl ?_
  refine g_if_eq (pc := 30) (tgt := 50) hX d_Tp_readDigit_30 (by decide) h (fun c3 h => ?_) (fun c3 h => ?_)
  · refine g_iload (pc := 50) hX d_Tp_readDigit_50 0 rfl ?_
    obtain ⟨hb4, h⟩ := zifb h
    obtain rfl := Option.some.inj h
    exact g_zret (pc := 52) hX hR hb4 d_Tp_readDigit_52
  · refine g_aload_n (pc := 33) hX d_Tp_readDigit_33 rfl 1 rfl ?_
    refine g_iload_n (pc := 34) hX d_Tp_readDigit_34 rfl 2 rfl ?_
    refine g_iload (pc := 35) hX d_Tp_readDigit_35 3 rfl ?_
    obtain ⟨o5, e5, h⟩ := zbind h
    refine g_cvV (pc := 37) (w1 := []) (w2 := []) (st := []) (w' := (zwP c a0 a1 a2 o5)) hX zk_Tp_setPart zs_Tp_setPart zL_Tp_53 (c_Tp_setPart c a0 a1 a2 x l1 l4 e5) rfl rfl rfl rfl (zself _) (zself _).symm 0 7 rfl rfl rfl d_Tp_readDigit_37 ?_
    refine g_aload_n (pc := 40) hX d_Tp_readDigit_40 rfl 1 rfl ?_
    refine g_dup (pc := 41) hX d_Tp_readDigit_41 rfl ?_
    refine gf_Tp_22 (pc := 42) (v := .int o5.2.2.2) hX 0 rfl rfl d_Tp_readDigit_42 ?_
    refine g_iconst (pc := 45) hX d_Tp_readDigit_45 zc_1 ?_
    refine g_iadd (pc := 46) hX d_Tp_readDigit_46 ?_
    refine pf_Tp_22 (pc := 47) (w2 := (zwP c a0 a1 a2 ((o5.1, o5.2.1, o5.2.2.1, (o5.2.2.2 + (1 : Int32)))))) hX 0 rfl rfl (su_Tp_0_3 c a0 a1 a2 o5 ((o5.2.2.2 + (1 : Int32)))) d_Tp_readDigit_47 ?_
    refine g_iload (pc := 50) hX d_Tp_readDigit_50 0 rfl ?_
    obtain ⟨hb6, h⟩ := zifb h
    obtain rfl := Option.some.inj h
    exact g_zret (pc := 52) hX hR hb6 d_Tp_readDigit_52
def k_Tp_readDigit (x : zsP) (l1 : Int32) (l2 : Int32) (l3 : Int32) : Option (Int32 × zsP) := (k_Tp_peek x).bind fun o1 => (if (o1 - (48 : Int32)) < l2 then k_Tp_readDigit_26 l1 l2 l3 ((o1 - (48 : Int32))) ((0 : Int32)) x else (if l3 < (o1 - (48 : Int32)) then k_Tp_readDigit_26 l1 l2 l3 ((o1 - (48 : Int32))) ((0 : Int32)) x else k_Tp_readDigit_26 l1 l2 l3 ((o1 - (48 : Int32))) ((1 : Int32)) x))
set_option maxRecDepth 20000 in
theorem c_Tp_readDigit (c : zY) (a0 a1 a2 : Nat) (x : zsP) (l1 : Int32) (l2 : Int32) (l3 : Int32) {out : Int32 × zsP} (h : k_Tp_readDigit x l1 l2 l3 = some out) : KM zy_Tp_readDigit zb_Tp_readDigit 6 (some .boolean) 1 c [.ref a0, .int l1, .int l2, .int l3] (zwP c a0 a1 a2 x) (zwP c a0 a1 a2 out.2) (some (.int out.1)) := zK_of zp_Tp rfl (Nat.le_of_ble_eq_true rfl) (zq_Tp c a0 a1 a2 _ _) (fun X hX hR => by
  show Go X (zwP c a0 a1 a2 x) [(0, .ref a0), (1, .int l1), (2, .int l2), (3, .int l3)] 0 []
  rw [k_Tp_readDigit] at h
  refine g_aload_n (pc := 0) hX d_Tp_readDigit_0 rfl 0 rfl ?_
  obtain ⟨o1, e1, h⟩ := zbind h
  refine g_cvI (pc := 1) (w1 := []) (w2 := []) (st := []) (w' := (zwP c a0 a1 a2 x)) hX zk_Tp_peek zs_Tp_peek zL_Tp_49 (c_Tp_peek c a0 a1 a2 x e1) rfl rfl rfl rfl (zself _) (zself _).symm 0 7 rfl rfl rfl d_Tp_readDigit_1 ?_
  refine g_bipush (pc := 4) hX d_Tp_readDigit_4 ze_48 ?_
  refine g_isub (pc := 6) hX d_Tp_readDigit_6 ?_
  refine g_istore (pc := 7) (L' := [(4, .int ((o1 - (48 : Int32)))), (0, .ref a0), (1, .int l1), (2, .int l2), (3, .int l3)]) hX d_Tp_readDigit_7 rfl rfl ?_
  refine g_iload (pc := 9) hX d_Tp_readDigit_9 0 rfl ?_
  refine g_iload_n (pc := 11) hX d_Tp_readDigit_11 rfl 3 rfl ?_
  refine g_icmp_lt (pc := 12) (tgt := 25) hX d_Tp_readDigit_12 (by decide) h (fun c2 h => ?_) (fun c2 h => ?_)
  · refine g_iconst (pc := 25) hX d_Tp_readDigit_25 zc_0 ?_
    refine g_ls (L' := [(0, .ref a0), (1, .int l1), (4, .int ((o1 - (48 : Int32))))]) [1, 2, 0] rfl ?_
    exact w_Tp_readDigit_26 hX hR _ _ _ h
  · refine g_iload (pc := 15) hX d_Tp_readDigit_15 0 rfl ?_
    refine g_iload_n (pc := 17) hX d_Tp_readDigit_17 rfl 4 rfl ?_
    refine g_icmp_gt (pc := 18) (tgt := 25) hX d_Tp_readDigit_18 (by decide) h (fun c7 h => ?_) (fun c7 h => ?_)
    · refine g_iconst (pc := 25) hX d_Tp_readDigit_25 zc_0 ?_
      refine g_ls (L' := [(0, .ref a0), (1, .int l1), (4, .int ((o1 - (48 : Int32))))]) [1, 2, 0] rfl ?_
      exact w_Tp_readDigit_26 hX hR _ _ _ h
    · refine g_iconst (pc := 21) hX d_Tp_readDigit_21 zc_1 ?_
      refine g_goto (pc := 22) (tgt := 26) hX d_Tp_readDigit_22 (by decide) ?_
      refine g_ls (L' := [(0, .ref a0), (1, .int l1), (4, .int ((o1 - (48 : Int32))))]) [1, 2, 0] rfl ?_
      exact w_Tp_readDigit_26 hX hR _ _ _ h)
theorem d_Tp_readNumber_0 : decode zb_Tp_readNumber 0 = .ok (.aload_n 0, 1) := by decide +kernel
theorem d_Tp_readNumber_1 : decode zb_Tp_readNumber 1 = .ok (.iload_n 1, 1) := by decide +kernel
theorem d_Tp_readNumber_2 : decode zb_Tp_readNumber 2 = .ok (.iconst 0, 1) := by decide +kernel
theorem d_Tp_readNumber_3 : decode zb_Tp_readNumber 3 = .ok (.bipush 9, 2) := by decide +kernel
theorem d_Tp_readNumber_5 : decode zb_Tp_readNumber 5 = .ok (.invokevirtual 35, 3) := by decide +kernel
theorem d_Tp_readNumber_8 : decode zb_Tp_readNumber 8 = .ok (.ifCond .ne 5, 3) := by decide +kernel
theorem d_Tp_readNumber_11 : decode zb_Tp_readNumber 11 = .ok (.iconst 0, 1) := by decide +kernel
theorem d_Tp_readNumber_12 : decode zb_Tp_readNumber 12 = .ok (.ireturn, 1) := by decide +kernel
theorem d_Tp_readNumber_13 : decode zb_Tp_readNumber 13 = .ok (.aload_n 0, 1) := by decide +kernel
theorem d_Tp_readNumber_14 : decode zb_Tp_readNumber 14 = .ok (.iload_n 1, 1) := by decide +kernel
theorem d_Tp_readNumber_15 : decode zb_Tp_readNumber 15 = .ok (.invokevirtual 63, 3) := by decide +kernel
theorem d_Tp_readNumber_18 : decode zb_Tp_readNumber 18 = .ok (.istore_n 2, 1) := by decide +kernel
theorem d_Tp_readNumber_19 : decode zb_Tp_readNumber 19 = .ok (.aload_n 0, 1) := by decide +kernel
theorem d_Tp_readNumber_20 : decode zb_Tp_readNumber 20 = .ok (.iload_n 1, 1) := by decide +kernel
theorem d_Tp_readNumber_21 : decode zb_Tp_readNumber 21 = .ok (.iconst 0, 1) := by decide +kernel
theorem d_Tp_readNumber_22 : decode zb_Tp_readNumber 22 = .ok (.bipush 9, 2) := by decide +kernel
theorem d_Tp_readNumber_24 : decode zb_Tp_readNumber 24 = .ok (.invokevirtual 35, 3) := by decide +kernel
theorem d_Tp_readNumber_27 : decode zb_Tp_readNumber 27 = .ok (.ifCond .eq 18, 3) := by decide +kernel
theorem d_Tp_readNumber_30 : decode zb_Tp_readNumber 30 = .ok (.aload_n 0, 1) := by decide +kernel
theorem d_Tp_readNumber_31 : decode zb_Tp_readNumber 31 = .ok (.iload_n 1, 1) := by decide +kernel
theorem d_Tp_readNumber_32 : decode zb_Tp_readNumber 32 = .ok (.bipush 10, 2) := by decide +kernel
theorem d_Tp_readNumber_34 : decode zb_Tp_readNumber 34 = .ok (.iload_n 2, 1) := by decide +kernel
theorem d_Tp_readNumber_35 : decode zb_Tp_readNumber 35 = .ok (.imul, 1) := by decide +kernel
theorem d_Tp_readNumber_36 : decode zb_Tp_readNumber 36 = .ok (.aload_n 0, 1) := by decide +kernel
theorem d_Tp_readNumber_37 : decode zb_Tp_readNumber 37 = .ok (.iload_n 1, 1) := by decide +kernel
theorem d_Tp_readNumber_38 : decode zb_Tp_readNumber 38 = .ok (.invokevirtual 63, 3) := by decide +kernel
theorem d_Tp_readNumber_41 : decode zb_Tp_readNumber 41 = .ok (.iadd, 1) := by decide +kernel
theorem d_Tp_readNumber_42 : decode zb_Tp_readNumber 42 = .ok (.invokevirtual 53, 3) := by decide +kernel
theorem d_Tp_readNumber_45 : decode zb_Tp_readNumber 45 = .ok (.iconst 1, 1) := by decide +kernel
theorem d_Tp_readNumber_46 : decode zb_Tp_readNumber 46 = .ok (.ireturn, 1) := by decide +kernel
def k_Tp_readNumber (x : zsP) (l1 : Int32) : Option (Int32 × zsP) := (k_Tp_readDigit x l1 ((0 : Int32)) ((9 : Int32))).bind fun o1 => (if o1.1 = 0 then some ((0 : Int32), o1.2) else (k_Tp_part o1.2 l1).bind fun o3 => (k_Tp_readDigit o1.2 l1 ((0 : Int32)) ((9 : Int32))).bind fun o4 => (if o4.1 = 0 then some ((1 : Int32), o4.2) else (k_Tp_part o4.2 l1).bind fun o6 => (k_Tp_setPart o4.2 l1 ((((10 : Int32) * o3) + o6))).bind fun o7 => some ((1 : Int32), o7)))
set_option maxRecDepth 20000 in
theorem c_Tp_readNumber (c : zY) (a0 a1 a2 : Nat) (x : zsP) (l1 : Int32) {out : Int32 × zsP} (h : k_Tp_readNumber x l1 = some out) : KM zy_Tp_readNumber zb_Tp_readNumber 3 (some .boolean) 2 c [.ref a0, .int l1] (zwP c a0 a1 a2 x) (zwP c a0 a1 a2 out.2) (some (.int out.1)) := zK_of zp_Tp rfl (Nat.le_of_ble_eq_true rfl) (zq_Tp c a0 a1 a2 _ _) (fun X hX hR => by
  show Go X (zwP c a0 a1 a2 x) [(0, .ref a0), (1, .int l1)] 0 []
  rw [k_Tp_readNumber] at h
  refine g_aload_n (pc := 0) hX d_Tp_readNumber_0 rfl 0 rfl ?_
  refine g_iload_n (pc := 1) hX d_Tp_readNumber_1 rfl 1 rfl ?_
  refine g_iconst (pc := 2) hX d_Tp_readNumber_2 zc_0 ?_
  refine g_bipush (pc := 3) hX d_Tp_readNumber_3 ze_9 ?_
  obtain ⟨o1, e1, h⟩ := zbind h
  refine g_cvI (pc := 5) (w1 := []) (w2 := []) (st := []) (w' := (zwP c a0 a1 a2 o1.2)) hX zk_Tp_readDigit zs_Tp_readDigit zL_Tp_35 (c_Tp_readDigit c a0 a1 a2 x l1 ((0 : Int32)) ((9 : Int32)) e1) rfl rfl rfl rfl (zself _) (zself _).symm 0 7 rfl rfl rfl d_Tp_readNumber_5 ?_
  refine g_if_ne (pc := 8) (tgt := 13) hX d_Tp_readNumber_8 (by decide) h (fun c2 h => ?_) (fun c2 h => ?_)
  · refine g_aload_n (pc := 13) hX d_Tp_readNumber_13 rfl 0 rfl ?_
    refine g_iload_n (pc := 14) hX d_Tp_readNumber_14 rfl 1 rfl ?_
    obtain ⟨o3, e3, h⟩ := zbind h
    refine g_cvI (pc := 15) (w1 := []) (w2 := []) (st := []) (w' := (zwP c a0 a1 a2 o1.2)) hX zk_Tp_part zs_Tp_part zL_Tp_63 (c_Tp_part c a0 a1 a2 o1.2 l1 e3) rfl rfl rfl rfl (zself _) (zself _).symm 0 7 rfl rfl rfl d_Tp_readNumber_15 ?_
    refine g_istore_n (pc := 18) (L' := [(2, .int o3), (0, .ref a0), (1, .int l1)]) hX d_Tp_readNumber_18 rfl rfl rfl ?_
    refine g_aload_n (pc := 19) hX d_Tp_readNumber_19 rfl 1 rfl ?_
    refine g_iload_n (pc := 20) hX d_Tp_readNumber_20 rfl 2 rfl ?_
    refine g_iconst (pc := 21) hX d_Tp_readNumber_21 zc_0 ?_
    refine g_bipush (pc := 22) hX d_Tp_readNumber_22 ze_9 ?_
    obtain ⟨o4, e4, h⟩ := zbind h
    refine g_cvI (pc := 24) (w1 := []) (w2 := []) (st := []) (w' := (zwP c a0 a1 a2 o4.2)) hX zk_Tp_readDigit zs_Tp_readDigit zL_Tp_35 (c_Tp_readDigit c a0 a1 a2 o1.2 l1 ((0 : Int32)) ((9 : Int32)) e4) rfl rfl rfl rfl (zself _) (zself _).symm 0 7 rfl rfl rfl d_Tp_readNumber_24 ?_
    refine g_if_eq (pc := 27) (tgt := 45) hX d_Tp_readNumber_27 (by decide) h (fun c5 h => ?_) (fun c5 h => ?_)
    · refine g_iconst (pc := 45) hX d_Tp_readNumber_45 zc_1 ?_
      obtain rfl := Option.some.inj h
      exact g_zret (pc := 46) hX hR (Or.inr rfl) d_Tp_readNumber_46
    · refine g_aload_n (pc := 30) hX d_Tp_readNumber_30 rfl 1 rfl ?_
      refine g_iload_n (pc := 31) hX d_Tp_readNumber_31 rfl 2 rfl ?_
      refine g_bipush (pc := 32) hX d_Tp_readNumber_32 ze_10 ?_
      refine g_iload_n (pc := 34) hX d_Tp_readNumber_34 rfl 0 rfl ?_
      refine g_imul (pc := 35) hX d_Tp_readNumber_35 ?_
      refine g_aload_n (pc := 36) hX d_Tp_readNumber_36 rfl 1 rfl ?_
      refine g_iload_n (pc := 37) hX d_Tp_readNumber_37 rfl 2 rfl ?_
      obtain ⟨o6, e6, h⟩ := zbind h
      refine g_cvI (pc := 38) (w1 := []) (w2 := []) (st := [.int (((10 : Int32) * o3)), .int l1, .ref a0]) (w' := (zwP c a0 a1 a2 o4.2)) hX zk_Tp_part zs_Tp_part zL_Tp_63 (c_Tp_part c a0 a1 a2 o4.2 l1 e6) rfl rfl rfl rfl (zself _) (zself _).symm 0 7 rfl rfl rfl d_Tp_readNumber_38 ?_
      refine g_iadd (pc := 41) hX d_Tp_readNumber_41 ?_
      obtain ⟨o7, e7, h⟩ := zbind h
      refine g_cvV (pc := 42) (w1 := []) (w2 := []) (st := []) (w' := (zwP c a0 a1 a2 o7)) hX zk_Tp_setPart zs_Tp_setPart zL_Tp_53 (c_Tp_setPart c a0 a1 a2 o4.2 l1 ((((10 : Int32) * o3) + o6)) e7) rfl rfl rfl rfl (zself _) (zself _).symm 0 7 rfl rfl rfl d_Tp_readNumber_42 ?_
      refine g_iconst (pc := 45) hX d_Tp_readNumber_45 zc_1 ?_
      obtain rfl := Option.some.inj h
      exact g_zret (pc := 46) hX hR (Or.inr rfl) d_Tp_readNumber_46
  · refine g_iconst (pc := 11) hX d_Tp_readNumber_11 zc_0 ?_
    obtain rfl := Option.some.inj h
    exact g_zret (pc := 12) hX hR (Or.inl rfl) d_Tp_readNumber_12)
theorem d_Tp_readCost_0 : decode zb_Tp_readCost 0 = .ok (.aload_n 0, 1) := by decide +kernel
theorem d_Tp_readCost_1 : decode zb_Tp_readCost 1 = .ok (.bipush 36, 2) := by decide +kernel
theorem d_Tp_readCost_3 : decode zb_Tp_readCost 3 = .ok (.invokevirtual 39, 3) := by decide +kernel
theorem d_Tp_readCost_6 : decode zb_Tp_readCost 6 = .ok (.ifCond .ne 5, 3) := by decide +kernel
theorem d_Tp_readCost_9 : decode zb_Tp_readCost 9 = .ok (.iconst 1, 1) := by decide +kernel
theorem d_Tp_readCost_10 : decode zb_Tp_readCost 10 = .ok (.ireturn, 1) := by decide +kernel
theorem d_Tp_readCost_11 : decode zb_Tp_readCost 11 = .ok (.aload_n 0, 1) := by decide +kernel
theorem d_Tp_readCost_12 : decode zb_Tp_readCost 12 = .ok (.iconst 3, 1) := by decide +kernel
theorem d_Tp_readCost_13 : decode zb_Tp_readCost 13 = .ok (.iconst 0, 1) := by decide +kernel
theorem d_Tp_readCost_14 : decode zb_Tp_readCost 14 = .ok (.iconst 2, 1) := by decide +kernel
theorem d_Tp_readCost_15 : decode zb_Tp_readCost 15 = .ok (.invokevirtual 35, 3) := by decide +kernel
theorem d_Tp_readCost_18 : decode zb_Tp_readCost 18 = .ok (.ifCond .eq 18, 3) := by decide +kernel
theorem d_Tp_readCost_21 : decode zb_Tp_readCost 21 = .ok (.aload_n 0, 1) := by decide +kernel
theorem d_Tp_readCost_22 : decode zb_Tp_readCost 22 = .ok (.iconst 4, 1) := by decide +kernel
theorem d_Tp_readCost_23 : decode zb_Tp_readCost 23 = .ok (.iconst 1, 1) := by decide +kernel
theorem d_Tp_readCost_24 : decode zb_Tp_readCost 24 = .ok (.bipush 9, 2) := by decide +kernel
theorem d_Tp_readCost_26 : decode zb_Tp_readCost 26 = .ok (.invokevirtual 35, 3) := by decide +kernel
theorem d_Tp_readCost_29 : decode zb_Tp_readCost 29 = .ok (.ifCond .eq 7, 3) := by decide +kernel
theorem d_Tp_readCost_32 : decode zb_Tp_readCost 32 = .ok (.iconst 1, 1) := by decide +kernel
theorem d_Tp_readCost_33 : decode zb_Tp_readCost 33 = .ok (.goto 4, 3) := by decide +kernel
theorem d_Tp_readCost_36 : decode zb_Tp_readCost 36 = .ok (.iconst 0, 1) := by decide +kernel
theorem d_Tp_readCost_37 : decode zb_Tp_readCost 37 = .ok (.ireturn, 1) := by decide +kernel
def k_Tp_readCost (x : zsP) : Option (Int32 × zsP) := (k_Tp_skip x ((36 : Int32))).bind fun o1 => (if o1.1 = 0 then some ((1 : Int32), o1.2) else (k_Tp_readDigit o1.2 ((3 : Int32)) ((0 : Int32)) ((2 : Int32))).bind fun o3 => (if o3.1 = 0 then some ((0 : Int32), o3.2) else (k_Tp_readDigit o3.2 ((4 : Int32)) ((1 : Int32)) ((9 : Int32))).bind fun o5 => (if o5.1 = 0 then some ((0 : Int32), o5.2) else some ((1 : Int32), o5.2))))
set_option maxRecDepth 20000 in
theorem c_Tp_readCost (c : zY) (a0 a1 a2 : Nat) (x : zsP) {out : Int32 × zsP} (h : k_Tp_readCost x = some out) : KM zy_Tp_readCost zb_Tp_readCost 1 (some .boolean) 2 c [.ref a0] (zwP c a0 a1 a2 x) (zwP c a0 a1 a2 out.2) (some (.int out.1)) := zK_of zp_Tp rfl (Nat.le_of_ble_eq_true rfl) (zq_Tp c a0 a1 a2 _ _) (fun X hX hR => by
  show Go X (zwP c a0 a1 a2 x) [(0, .ref a0)] 0 []
  rw [k_Tp_readCost] at h
  refine g_aload_n (pc := 0) hX d_Tp_readCost_0 rfl 0 rfl ?_
  refine g_bipush (pc := 1) hX d_Tp_readCost_1 ze_36 ?_
  obtain ⟨o1, e1, h⟩ := zbind h
  refine g_cvI (pc := 3) (w1 := []) (w2 := []) (st := []) (w' := (zwP c a0 a1 a2 o1.2)) hX zk_Tp_skip zs_Tp_skip zL_Tp_39 (c_Tp_skip c a0 a1 a2 x ((36 : Int32)) e1) rfl rfl rfl rfl (zself _) (zself _).symm 0 7 rfl rfl rfl d_Tp_readCost_3 ?_
  refine g_if_ne (pc := 6) (tgt := 11) hX d_Tp_readCost_6 (by decide) h (fun c2 h => ?_) (fun c2 h => ?_)
  · refine g_aload_n (pc := 11) hX d_Tp_readCost_11 rfl 0 rfl ?_
    refine g_iconst (pc := 12) hX d_Tp_readCost_12 zc_3 ?_
    refine g_iconst (pc := 13) hX d_Tp_readCost_13 zc_0 ?_
    refine g_iconst (pc := 14) hX d_Tp_readCost_14 zc_2 ?_
    obtain ⟨o3, e3, h⟩ := zbind h
    refine g_cvI (pc := 15) (w1 := []) (w2 := []) (st := []) (w' := (zwP c a0 a1 a2 o3.2)) hX zk_Tp_readDigit zs_Tp_readDigit zL_Tp_35 (c_Tp_readDigit c a0 a1 a2 o1.2 ((3 : Int32)) ((0 : Int32)) ((2 : Int32)) e3) rfl rfl rfl rfl (zself _) (zself _).symm 0 7 rfl rfl rfl d_Tp_readCost_15 ?_
    refine g_if_eq (pc := 18) (tgt := 36) hX d_Tp_readCost_18 (by decide) h (fun c4 h => ?_) (fun c4 h => ?_)
    · refine g_iconst (pc := 36) hX d_Tp_readCost_36 zc_0 ?_
      obtain rfl := Option.some.inj h
      exact g_zret (pc := 37) hX hR (Or.inl rfl) d_Tp_readCost_37
    · refine g_aload_n (pc := 21) hX d_Tp_readCost_21 rfl 0 rfl ?_
      refine g_iconst (pc := 22) hX d_Tp_readCost_22 zc_4 ?_
      refine g_iconst (pc := 23) hX d_Tp_readCost_23 zc_1 ?_
      refine g_bipush (pc := 24) hX d_Tp_readCost_24 ze_9 ?_
      obtain ⟨o5, e5, h⟩ := zbind h
      refine g_cvI (pc := 26) (w1 := []) (w2 := []) (st := []) (w' := (zwP c a0 a1 a2 o5.2)) hX zk_Tp_readDigit zs_Tp_readDigit zL_Tp_35 (c_Tp_readDigit c a0 a1 a2 o3.2 ((4 : Int32)) ((1 : Int32)) ((9 : Int32)) e5) rfl rfl rfl rfl (zself _) (zself _).symm 0 7 rfl rfl rfl d_Tp_readCost_26 ?_
      refine g_if_eq (pc := 29) (tgt := 36) hX d_Tp_readCost_29 (by decide) h (fun c6 h => ?_) (fun c6 h => ?_)
      · refine g_iconst (pc := 36) hX d_Tp_readCost_36 zc_0 ?_
        obtain rfl := Option.some.inj h
        exact g_zret (pc := 37) hX hR (Or.inl rfl) d_Tp_readCost_37
      · refine g_iconst (pc := 32) hX d_Tp_readCost_32 zc_1 ?_
        refine g_goto (pc := 33) (tgt := 37) hX d_Tp_readCost_33 (by decide) ?_
        obtain rfl := Option.some.inj h
        exact g_zret (pc := 37) hX hR (Or.inr rfl) d_Tp_readCost_37
  · refine g_iconst (pc := 9) hX d_Tp_readCost_9 zc_1 ?_
    obtain rfl := Option.some.inj h
    exact g_zret (pc := 10) hX hR (Or.inr rfl) d_Tp_readCost_10)
theorem d_Tp_readShape_0 : decode zb_Tp_readShape 0 = .ok (.aload_n 0, 1) := by decide +kernel
theorem d_Tp_readShape_1 : decode zb_Tp_readShape 1 = .ok (.invokevirtual 49, 3) := by decide +kernel
theorem d_Tp_readShape_4 : decode zb_Tp_readShape 4 = .ok (.istore_n 1, 1) := by decide +kernel
theorem d_Tp_readShape_5 : decode zb_Tp_readShape 5 = .ok (.iload_n 1, 1) := by decide +kernel
theorem d_Tp_readShape_6 : decode zb_Tp_readShape 6 = .ok (.bipush 115, 2) := by decide +kernel
theorem d_Tp_readShape_8 : decode zb_Tp_readShape 8 = .ok (.if_icmp .ne 7, 3) := by decide +kernel
theorem d_Tp_readShape_11 : decode zb_Tp_readShape 11 = .ok (.iconst 0, 1) := by decide +kernel
theorem d_Tp_readShape_12 : decode zb_Tp_readShape 12 = .ok (.goto 34, 3) := by decide +kernel
theorem d_Tp_readShape_15 : decode zb_Tp_readShape 15 = .ok (.iload_n 1, 1) := by decide +kernel
theorem d_Tp_readShape_16 : decode zb_Tp_readShape 16 = .ok (.bipush 100, 2) := by decide +kernel
theorem d_Tp_readShape_18 : decode zb_Tp_readShape 18 = .ok (.if_icmp .ne 7, 3) := by decide +kernel
theorem d_Tp_readShape_21 : decode zb_Tp_readShape 21 = .ok (.iconst 1, 1) := by decide +kernel
theorem d_Tp_readShape_22 : decode zb_Tp_readShape 22 = .ok (.goto 24, 3) := by decide +kernel
theorem d_Tp_readShape_25 : decode zb_Tp_readShape 25 = .ok (.iload_n 1, 1) := by decide +kernel
theorem d_Tp_readShape_26 : decode zb_Tp_readShape 26 = .ok (.bipush 99, 2) := by decide +kernel
theorem d_Tp_readShape_28 : decode zb_Tp_readShape 28 = .ok (.if_icmp .ne 7, 3) := by decide +kernel
theorem d_Tp_readShape_31 : decode zb_Tp_readShape 31 = .ok (.iconst 2, 1) := by decide +kernel
theorem d_Tp_readShape_32 : decode zb_Tp_readShape 32 = .ok (.goto 14, 3) := by decide +kernel
theorem d_Tp_readShape_35 : decode zb_Tp_readShape 35 = .ok (.iload_n 1, 1) := by decide +kernel
theorem d_Tp_readShape_36 : decode zb_Tp_readShape 36 = .ok (.bipush 108, 2) := by decide +kernel
theorem d_Tp_readShape_38 : decode zb_Tp_readShape 38 = .ok (.if_icmp .ne 7, 3) := by decide +kernel
theorem d_Tp_readShape_41 : decode zb_Tp_readShape 41 = .ok (.iconst 3, 1) := by decide +kernel
theorem d_Tp_readShape_42 : decode zb_Tp_readShape 42 = .ok (.goto 4, 3) := by decide +kernel
theorem d_Tp_readShape_45 : decode zb_Tp_readShape 45 = .ok (.iconst (-1), 1) := by decide +kernel
theorem d_Tp_readShape_46 : decode zb_Tp_readShape 46 = .ok (.istore_n 2, 1) := by decide +kernel
theorem d_Tp_readShape_47 : decode zb_Tp_readShape 47 = .ok (.aload_n 0, 1) := by decide +kernel
theorem d_Tp_readShape_48 : decode zb_Tp_readShape 48 = .ok (.iconst 0, 1) := by decide +kernel
theorem d_Tp_readShape_49 : decode zb_Tp_readShape 49 = .ok (.iload_n 2, 1) := by decide +kernel
theorem d_Tp_readShape_50 : decode zb_Tp_readShape 50 = .ok (.invokevirtual 53, 3) := by decide +kernel
theorem d_Tp_readShape_53 : decode zb_Tp_readShape 53 = .ok (.iload_n 2, 1) := by decide +kernel
theorem d_Tp_readShape_54 : decode zb_Tp_readShape 54 = .ok (.ifCond .lt 15, 3) := by decide +kernel
theorem d_Tp_readShape_57 : decode zb_Tp_readShape 57 = .ok (.aload_n 0, 1) := by decide +kernel
theorem d_Tp_readShape_58 : decode zb_Tp_readShape 58 = .ok (.iload_n 1, 1) := by decide +kernel
theorem d_Tp_readShape_59 : decode zb_Tp_readShape 59 = .ok (.invokevirtual 39, 3) := by decide +kernel
theorem d_Tp_readShape_62 : decode zb_Tp_readShape 62 = .ok (.ifCond .eq 7, 3) := by decide +kernel
theorem d_Tp_readShape_65 : decode zb_Tp_readShape 65 = .ok (.iconst 1, 1) := by decide +kernel
theorem d_Tp_readShape_66 : decode zb_Tp_readShape 66 = .ok (.goto 4, 3) := by decide +kernel
theorem d_Tp_readShape_69 : decode zb_Tp_readShape 69 = .ok (.iconst 0, 1) := by decide +kernel
theorem d_Tp_readShape_70 : decode zb_Tp_readShape 70 = .ok (.ireturn, 1) := by decide +kernel
def k_Tp_readShape_46 (l1 : Int32) (s0 : Int32) (x : zsP) : Option (Int32 × zsP) := (k_Tp_setPart x ((0 : Int32)) s0).bind fun o6 => (if s0 < 0 then some ((0 : Int32), o6) else (k_Tp_skip o6 l1).bind fun o8 => (if o8.1 = 0 then some ((0 : Int32), o8.2) else some ((1 : Int32), o8.2)))
set_option maxRecDepth 20000 in
theorem w_Tp_readShape_46 {X : zX} {c : zY} {a0 a1 a2 : Nat} {out : Int32 × zsP} (hX : Ok X zr_Tp zb_Tp_readShape 3 2 c) (hR : Rt X (some .boolean) (some (.int out.1)) (zwP c a0 a1 a2 out.2)) : ∀ (l1 : Int32) (s0 : Int32) (x : zsP), k_Tp_readShape_46 l1 s0 x = some out → Go X (zwP c a0 a1 a2 x) [(0, .ref a0), (1, .int l1)] 46 [.int s0] := by
  intro l1 s0 x h
  rw [k_Tp_readShape_46] at h
  refine g_istore_n (pc := 46) (L' := [(2, .int s0), (0, .ref a0), (1, .int l1)]) hX d_Tp_readShape_46 rfl rfl rfl ?_
  refine g_aload_n (pc := 47) hX d_Tp_readShape_47 rfl 1 rfl ?_
  refine g_iconst (pc := 48) hX d_Tp_readShape_48 zc_0 ?_
  refine g_iload_n (pc := 49) hX d_Tp_readShape_49 rfl 0 rfl ?_
  obtain ⟨o6, e6, h⟩ := zbind h
  refine g_cvV (pc := 50) (w1 := []) (w2 := []) (st := []) (w' := (zwP c a0 a1 a2 o6)) hX zk_Tp_setPart zs_Tp_setPart zL_Tp_53 (c_Tp_setPart c a0 a1 a2 x ((0 : Int32)) s0 e6) rfl rfl rfl rfl (zself _) (zself _).symm 0 7 rfl rfl rfl d_Tp_readShape_50 ?_
  refine g_iload_n (pc := 53) hX d_Tp_readShape_53 rfl 0 rfl ?_
  refine g_if_lt (pc := 54) (tgt := 69) hX d_Tp_readShape_54 (by decide) h (fun c7 h => ?_) (fun c7 h => ?_)
  · refine g_iconst (pc := 69) hX d_Tp_readShape_69 zc_0 ?_
    obtain rfl := Option.some.inj h
    exact g_zret (pc := 70) hX hR (Or.inl rfl) d_Tp_readShape_70
  · refine g_aload_n (pc := 57) hX d_Tp_readShape_57 rfl 1 rfl ?_
    refine g_iload_n (pc := 58) hX d_Tp_readShape_58 rfl 2 rfl ?_
    obtain ⟨o8, e8, h⟩ := zbind h
    refine g_cvI (pc := 59) (w1 := []) (w2 := []) (st := []) (w' := (zwP c a0 a1 a2 o8.2)) hX zk_Tp_skip zs_Tp_skip zL_Tp_39 (c_Tp_skip c a0 a1 a2 o6 l1 e8) rfl rfl rfl rfl (zself _) (zself _).symm 0 7 rfl rfl rfl d_Tp_readShape_59 ?_
    refine g_if_eq (pc := 62) (tgt := 69) hX d_Tp_readShape_62 (by decide) h (fun c9 h => ?_) (fun c9 h => ?_)
    · refine g_iconst (pc := 69) hX d_Tp_readShape_69 zc_0 ?_
      obtain rfl := Option.some.inj h
      exact g_zret (pc := 70) hX hR (Or.inl rfl) d_Tp_readShape_70
    · refine g_iconst (pc := 65) hX d_Tp_readShape_65 zc_1 ?_
      refine g_goto (pc := 66) (tgt := 70) hX d_Tp_readShape_66 (by decide) ?_
      obtain rfl := Option.some.inj h
      exact g_zret (pc := 70) hX hR (Or.inr rfl) d_Tp_readShape_70
def k_Tp_readShape (x : zsP) : Option (Int32 × zsP) := (k_Tp_peek x).bind fun o1 => (if o1 = (115 : Int32) then k_Tp_readShape_46 o1 ((0 : Int32)) x else (if o1 = (100 : Int32) then k_Tp_readShape_46 o1 ((1 : Int32)) x else (if o1 = (99 : Int32) then k_Tp_readShape_46 o1 ((2 : Int32)) x else (if o1 = (108 : Int32) then k_Tp_readShape_46 o1 ((3 : Int32)) x else k_Tp_readShape_46 o1 ((-1 : Int32)) x))))
set_option maxRecDepth 20000 in
theorem c_Tp_readShape (c : zY) (a0 a1 a2 : Nat) (x : zsP) {out : Int32 × zsP} (h : k_Tp_readShape x = some out) : KM zy_Tp_readShape zb_Tp_readShape 3 (some .boolean) 2 c [.ref a0] (zwP c a0 a1 a2 x) (zwP c a0 a1 a2 out.2) (some (.int out.1)) := zK_of zp_Tp rfl (Nat.le_of_ble_eq_true rfl) (zq_Tp c a0 a1 a2 _ _) (fun X hX hR => by
  show Go X (zwP c a0 a1 a2 x) [(0, .ref a0)] 0 []
  rw [k_Tp_readShape] at h
  refine g_aload_n (pc := 0) hX d_Tp_readShape_0 rfl 0 rfl ?_
  obtain ⟨o1, e1, h⟩ := zbind h
  refine g_cvI (pc := 1) (w1 := []) (w2 := []) (st := []) (w' := (zwP c a0 a1 a2 x)) hX zk_Tp_peek zs_Tp_peek zL_Tp_49 (c_Tp_peek c a0 a1 a2 x e1) rfl rfl rfl rfl (zself _) (zself _).symm 0 7 rfl rfl rfl d_Tp_readShape_1 ?_
  refine g_istore_n (pc := 4) (L' := [(1, .int o1), (0, .ref a0)]) hX d_Tp_readShape_4 rfl rfl rfl ?_
  refine g_iload_n (pc := 5) hX d_Tp_readShape_5 rfl 0 rfl ?_
  refine g_bipush (pc := 6) hX d_Tp_readShape_6 ze_115 ?_
  refine g_icmp_ne (pc := 8) (tgt := 15) hX d_Tp_readShape_8 (by decide) h (fun c2 h => ?_) (fun c2 h => ?_)
  · refine g_iload_n (pc := 15) hX d_Tp_readShape_15 rfl 0 rfl ?_
    refine g_bipush (pc := 16) hX d_Tp_readShape_16 ze_100 ?_
    refine g_icmp_ne (pc := 18) (tgt := 25) hX d_Tp_readShape_18 (by decide) h (fun c3 h => ?_) (fun c3 h => ?_)
    · refine g_iload_n (pc := 25) hX d_Tp_readShape_25 rfl 0 rfl ?_
      refine g_bipush (pc := 26) hX d_Tp_readShape_26 ze_99 ?_
      refine g_icmp_ne (pc := 28) (tgt := 35) hX d_Tp_readShape_28 (by decide) h (fun c4 h => ?_) (fun c4 h => ?_)
      · refine g_iload_n (pc := 35) hX d_Tp_readShape_35 rfl 0 rfl ?_
        refine g_bipush (pc := 36) hX d_Tp_readShape_36 ze_108 ?_
        refine g_icmp_ne (pc := 38) (tgt := 45) hX d_Tp_readShape_38 (by decide) h (fun c5 h => ?_) (fun c5 h => ?_)
        · refine g_iconst (pc := 45) hX d_Tp_readShape_45 zc_m1 ?_
          refine g_ls (L' := [(0, .ref a0), (1, .int o1)]) [1, 0] rfl ?_
          exact w_Tp_readShape_46 hX hR _ _ _ h
        · refine g_iconst (pc := 41) hX d_Tp_readShape_41 zc_3 ?_
          refine g_goto (pc := 42) (tgt := 46) hX d_Tp_readShape_42 (by decide) ?_
          refine g_ls (L' := [(0, .ref a0), (1, .int o1)]) [1, 0] rfl ?_
          exact w_Tp_readShape_46 hX hR _ _ _ h
      · refine g_iconst (pc := 31) hX d_Tp_readShape_31 zc_2 ?_
        refine g_goto (pc := 32) (tgt := 46) hX d_Tp_readShape_32 (by decide) ?_
        refine g_ls (L' := [(0, .ref a0), (1, .int o1)]) [1, 0] rfl ?_
        exact w_Tp_readShape_46 hX hR _ _ _ h
    · refine g_iconst (pc := 21) hX d_Tp_readShape_21 zc_1 ?_
      refine g_goto (pc := 22) (tgt := 46) hX d_Tp_readShape_22 (by decide) ?_
      refine g_ls (L' := [(0, .ref a0), (1, .int o1)]) [1, 0] rfl ?_
      exact w_Tp_readShape_46 hX hR _ _ _ h
  · refine g_iconst (pc := 11) hX d_Tp_readShape_11 zc_0 ?_
    refine g_goto (pc := 12) (tgt := 46) hX d_Tp_readShape_12 (by decide) ?_
    refine g_ls (L' := [(0, .ref a0), (1, .int o1)]) [1, 0] rfl ?_
    exact w_Tp_readShape_46 hX hR _ _ _ h)
theorem d_Tp_readEffect_0 : decode zb_Tp_readEffect 0 = .ok (.aload_n 0, 1) := by decide +kernel
theorem d_Tp_readEffect_1 : decode zb_Tp_readEffect 1 = .ok (.invokevirtual 49, 3) := by decide +kernel
theorem d_Tp_readEffect_4 : decode zb_Tp_readEffect 4 = .ok (.istore_n 2, 1) := by decide +kernel
theorem d_Tp_readEffect_5 : decode zb_Tp_readEffect 5 = .ok (.aload_n 0, 1) := by decide +kernel
theorem d_Tp_readEffect_6 : decode zb_Tp_readEffect 6 = .ok (.iload_n 1, 1) := by decide +kernel
theorem d_Tp_readEffect_7 : decode zb_Tp_readEffect 7 = .ok (.iload_n 2, 1) := by decide +kernel
theorem d_Tp_readEffect_8 : decode zb_Tp_readEffect 8 = .ok (.invokevirtual 53, 3) := by decide +kernel
theorem d_Tp_readEffect_11 : decode zb_Tp_readEffect 11 = .ok (.iload_n 2, 1) := by decide +kernel
theorem d_Tp_readEffect_12 : decode zb_Tp_readEffect 12 = .ok (.bipush 104, 2) := by decide +kernel
theorem d_Tp_readEffect_14 : decode zb_Tp_readEffect 14 = .ok (.if_icmp .eq 9, 3) := by decide +kernel
theorem d_Tp_readEffect_17 : decode zb_Tp_readEffect 17 = .ok (.iload_n 2, 1) := by decide +kernel
theorem d_Tp_readEffect_18 : decode zb_Tp_readEffect 18 = .ok (.bipush 109, 2) := by decide +kernel
theorem d_Tp_readEffect_20 : decode zb_Tp_readEffect 20 = .ok (.if_icmp .ne 27, 3) := by decide +kernel
theorem d_Tp_readEffect_23 : decode zb_Tp_readEffect 23 = .ok (.aload_n 0, 1) := by decide +kernel
theorem d_Tp_readEffect_24 : decode zb_Tp_readEffect 24 = .ok (.iload_n 2, 1) := by decide +kernel
theorem d_Tp_readEffect_25 : decode zb_Tp_readEffect 25 = .ok (.invokevirtual 39, 3) := by decide +kernel
theorem d_Tp_readEffect_28 : decode zb_Tp_readEffect 28 = .ok (.ifCond .eq 17, 3) := by decide +kernel
theorem d_Tp_readEffect_31 : decode zb_Tp_readEffect 31 = .ok (.aload_n 0, 1) := by decide +kernel
theorem d_Tp_readEffect_32 : decode zb_Tp_readEffect 32 = .ok (.iload_n 1, 1) := by decide +kernel
theorem d_Tp_readEffect_33 : decode zb_Tp_readEffect 33 = .ok (.iconst 1, 1) := by decide +kernel
theorem d_Tp_readEffect_34 : decode zb_Tp_readEffect 34 = .ok (.iadd, 1) := by decide +kernel
theorem d_Tp_readEffect_35 : decode zb_Tp_readEffect 35 = .ok (.invokevirtual 60, 3) := by decide +kernel
theorem d_Tp_readEffect_38 : decode zb_Tp_readEffect 38 = .ok (.ifCond .eq 7, 3) := by decide +kernel
theorem d_Tp_readEffect_41 : decode zb_Tp_readEffect 41 = .ok (.iconst 1, 1) := by decide +kernel
theorem d_Tp_readEffect_42 : decode zb_Tp_readEffect 42 = .ok (.goto 4, 3) := by decide +kernel
theorem d_Tp_readEffect_45 : decode zb_Tp_readEffect 45 = .ok (.iconst 0, 1) := by decide +kernel
theorem d_Tp_readEffect_46 : decode zb_Tp_readEffect 46 = .ok (.ireturn, 1) := by decide +kernel
theorem d_Tp_readEffect_47 : decode zb_Tp_readEffect 47 = .ok (.iload_n 2, 1) := by decide +kernel
theorem d_Tp_readEffect_48 : decode zb_Tp_readEffect 48 = .ok (.bipush 107, 2) := by decide +kernel
theorem d_Tp_readEffect_50 : decode zb_Tp_readEffect 50 = .ok (.if_icmp .ne 65, 3) := by decide +kernel
theorem d_Tp_readEffect_53 : decode zb_Tp_readEffect 53 = .ok (.aload_n 0, 1) := by decide +kernel
theorem d_Tp_readEffect_54 : decode zb_Tp_readEffect 54 = .ok (.iload_n 2, 1) := by decide +kernel
theorem d_Tp_readEffect_55 : decode zb_Tp_readEffect 55 = .ok (.invokevirtual 39, 3) := by decide +kernel
theorem d_Tp_readEffect_58 : decode zb_Tp_readEffect 58 = .ok (.ifCond .eq 57, 3) := by decide +kernel
theorem d_Tp_readEffect_61 : decode zb_Tp_readEffect 61 = .ok (.aload_n 0, 1) := by decide +kernel
theorem d_Tp_readEffect_62 : decode zb_Tp_readEffect 62 = .ok (.iload_n 1, 1) := by decide +kernel
theorem d_Tp_readEffect_63 : decode zb_Tp_readEffect 63 = .ok (.iconst 1, 1) := by decide +kernel
theorem d_Tp_readEffect_64 : decode zb_Tp_readEffect 64 = .ok (.iadd, 1) := by decide +kernel
theorem d_Tp_readEffect_65 : decode zb_Tp_readEffect 65 = .ok (.iconst 0, 1) := by decide +kernel
theorem d_Tp_readEffect_66 : decode zb_Tp_readEffect 66 = .ok (.iconst 5, 1) := by decide +kernel
theorem d_Tp_readEffect_67 : decode zb_Tp_readEffect 67 = .ok (.invokevirtual 35, 3) := by decide +kernel
theorem d_Tp_readEffect_70 : decode zb_Tp_readEffect 70 = .ok (.ifCond .eq 45, 3) := by decide +kernel
theorem d_Tp_readEffect_73 : decode zb_Tp_readEffect 73 = .ok (.aload_n 0, 1) := by decide +kernel
theorem d_Tp_readEffect_74 : decode zb_Tp_readEffect 74 = .ok (.iload_n 1, 1) := by decide +kernel
theorem d_Tp_readEffect_75 : decode zb_Tp_readEffect 75 = .ok (.iconst 2, 1) := by decide +kernel
theorem d_Tp_readEffect_76 : decode zb_Tp_readEffect 76 = .ok (.iadd, 1) := by decide +kernel
theorem d_Tp_readEffect_77 : decode zb_Tp_readEffect 77 = .ok (.iconst 1, 1) := by decide +kernel
theorem d_Tp_readEffect_78 : decode zb_Tp_readEffect 78 = .ok (.bipush 9, 2) := by decide +kernel
theorem d_Tp_readEffect_80 : decode zb_Tp_readEffect 80 = .ok (.invokevirtual 35, 3) := by decide +kernel
theorem d_Tp_readEffect_83 : decode zb_Tp_readEffect 83 = .ok (.ifCond .eq 32, 3) := by decide +kernel
theorem d_Tp_readEffect_86 : decode zb_Tp_readEffect 86 = .ok (.aload_n 0, 1) := by decide +kernel
theorem d_Tp_readEffect_87 : decode zb_Tp_readEffect 87 = .ok (.iload_n 1, 1) := by decide +kernel
theorem d_Tp_readEffect_88 : decode zb_Tp_readEffect 88 = .ok (.iconst 3, 1) := by decide +kernel
theorem d_Tp_readEffect_89 : decode zb_Tp_readEffect 89 = .ok (.iadd, 1) := by decide +kernel
theorem d_Tp_readEffect_90 : decode zb_Tp_readEffect 90 = .ok (.iconst 0, 1) := by decide +kernel
theorem d_Tp_readEffect_91 : decode zb_Tp_readEffect 91 = .ok (.iconst 3, 1) := by decide +kernel
theorem d_Tp_readEffect_92 : decode zb_Tp_readEffect 92 = .ok (.invokevirtual 35, 3) := by decide +kernel
theorem d_Tp_readEffect_95 : decode zb_Tp_readEffect 95 = .ok (.ifCond .eq 20, 3) := by decide +kernel
theorem d_Tp_readEffect_98 : decode zb_Tp_readEffect 98 = .ok (.aload_n 0, 1) := by decide +kernel
theorem d_Tp_readEffect_99 : decode zb_Tp_readEffect 99 = .ok (.iload_n 1, 1) := by decide +kernel
theorem d_Tp_readEffect_100 : decode zb_Tp_readEffect 100 = .ok (.iconst 4, 1) := by decide +kernel
theorem d_Tp_readEffect_101 : decode zb_Tp_readEffect 101 = .ok (.iadd, 1) := by decide +kernel
theorem d_Tp_readEffect_102 : decode zb_Tp_readEffect 102 = .ok (.iconst 1, 1) := by decide +kernel
theorem d_Tp_readEffect_103 : decode zb_Tp_readEffect 103 = .ok (.bipush 9, 2) := by decide +kernel
theorem d_Tp_readEffect_105 : decode zb_Tp_readEffect 105 = .ok (.invokevirtual 35, 3) := by decide +kernel
theorem d_Tp_readEffect_108 : decode zb_Tp_readEffect 108 = .ok (.ifCond .eq 7, 3) := by decide +kernel
theorem d_Tp_readEffect_111 : decode zb_Tp_readEffect 111 = .ok (.iconst 1, 1) := by decide +kernel
theorem d_Tp_readEffect_112 : decode zb_Tp_readEffect 112 = .ok (.goto 4, 3) := by decide +kernel
theorem d_Tp_readEffect_115 : decode zb_Tp_readEffect 115 = .ok (.iconst 0, 1) := by decide +kernel
theorem d_Tp_readEffect_116 : decode zb_Tp_readEffect 116 = .ok (.ireturn, 1) := by decide +kernel
def k_Tp_readEffect_23 (l1 : Int32) (l2 : Int32) (x : zsP) : Option (Int32 × zsP) := (k_Tp_skip x l2).bind fun o4 => (if o4.1 = 0 then some ((0 : Int32), o4.2) else (k_Tp_readNumber o4.2 ((l1 + (1 : Int32)))).bind fun o6 => (if o6.1 = 0 then some ((0 : Int32), o6.2) else some ((1 : Int32), o6.2)))
set_option maxRecDepth 20000 in
theorem w_Tp_readEffect_23 {X : zX} {c : zY} {a0 a1 a2 : Nat} {l1 : Int32} {out : Int32 × zsP} (hX : Ok X zr_Tp zb_Tp_readEffect 3 3 c) (hR : Rt X (some .boolean) (some (.int out.1)) (zwP c a0 a1 a2 out.2)) : ∀ (l2 : Int32) (x : zsP), k_Tp_readEffect_23 l1 l2 x = some out → Go X (zwP c a0 a1 a2 x) [(0, .ref a0), (1, .int l1), (2, .int l2)] 23 [] := by
  intro l2 x h
  rw [k_Tp_readEffect_23] at h
  refine g_aload_n (pc := 23) hX d_Tp_readEffect_23 rfl 0 rfl ?_
  refine g_iload_n (pc := 24) hX d_Tp_readEffect_24 rfl 2 rfl ?_
  obtain ⟨o4, e4, h⟩ := zbind h
  refine g_cvI (pc := 25) (w1 := []) (w2 := []) (st := []) (w' := (zwP c a0 a1 a2 o4.2)) hX zk_Tp_skip zs_Tp_skip zL_Tp_39 (c_Tp_skip c a0 a1 a2 x l2 e4) rfl rfl rfl rfl (zself _) (zself _).symm 0 7 rfl rfl rfl d_Tp_readEffect_25 ?_
  refine g_if_eq (pc := 28) (tgt := 45) hX d_Tp_readEffect_28 (by decide) h (fun c5 h => ?_) (fun c5 h => ?_)
  · refine g_iconst (pc := 45) hX d_Tp_readEffect_45 zc_0 ?_
    obtain rfl := Option.some.inj h
    exact g_zret (pc := 46) hX hR (Or.inl rfl) d_Tp_readEffect_46
  · refine g_aload_n (pc := 31) hX d_Tp_readEffect_31 rfl 0 rfl ?_
    refine g_iload_n (pc := 32) hX d_Tp_readEffect_32 rfl 1 rfl ?_
    refine g_iconst (pc := 33) hX d_Tp_readEffect_33 zc_1 ?_
    refine g_iadd (pc := 34) hX d_Tp_readEffect_34 ?_
    obtain ⟨o6, e6, h⟩ := zbind h
    refine g_cvI (pc := 35) (w1 := []) (w2 := []) (st := []) (w' := (zwP c a0 a1 a2 o6.2)) hX zk_Tp_readNumber zs_Tp_readNumber zL_Tp_60 (c_Tp_readNumber c a0 a1 a2 o4.2 ((l1 + (1 : Int32))) e6) rfl rfl rfl rfl (zself _) (zself _).symm 0 7 rfl rfl rfl d_Tp_readEffect_35 ?_
    refine g_if_eq (pc := 38) (tgt := 45) hX d_Tp_readEffect_38 (by decide) h (fun c7 h => ?_) (fun c7 h => ?_)
    · refine g_iconst (pc := 45) hX d_Tp_readEffect_45 zc_0 ?_
      obtain rfl := Option.some.inj h
      exact g_zret (pc := 46) hX hR (Or.inl rfl) d_Tp_readEffect_46
    · refine g_iconst (pc := 41) hX d_Tp_readEffect_41 zc_1 ?_
      refine g_goto (pc := 42) (tgt := 46) hX d_Tp_readEffect_42 (by decide) ?_
      obtain rfl := Option.some.inj h
      exact g_zret (pc := 46) hX hR (Or.inr rfl) d_Tp_readEffect_46
def k_Tp_readEffect (x : zsP) (l1 : Int32) : Option (Int32 × zsP) := (k_Tp_peek x).bind fun o1 => (k_Tp_setPart x l1 o1).bind fun o2 => (if o1 = (104 : Int32) then k_Tp_readEffect_23 l1 o1 o2 else (if o1 = (109 : Int32) then k_Tp_readEffect_23 l1 o1 o2 else (if o1 = (107 : Int32) then (k_Tp_skip o2 o1).bind fun o10 => (if o10.1 = 0 then some ((0 : Int32), o10.2) else (k_Tp_readDigit o10.2 ((l1 + (1 : Int32))) ((0 : Int32)) ((5 : Int32))).bind fun o12 => (if o12.1 = 0 then some ((0 : Int32), o12.2) else (k_Tp_readDigit o12.2 ((l1 + (2 : Int32))) ((1 : Int32)) ((9 : Int32))).bind fun o14 => (if o14.1 = 0 then some ((0 : Int32), o14.2) else (k_Tp_readDigit o14.2 ((l1 + (3 : Int32))) ((0 : Int32)) ((3 : Int32))).bind fun o16 => (if o16.1 = 0 then some ((0 : Int32), o16.2) else (k_Tp_readDigit o16.2 ((l1 + (4 : Int32))) ((1 : Int32)) ((9 : Int32))).bind fun o18 => (if o18.1 = 0 then some ((0 : Int32), o18.2) else some ((1 : Int32), o18.2)))))) else some ((0 : Int32), o2))))
set_option maxRecDepth 20000 in
theorem c_Tp_readEffect (c : zY) (a0 a1 a2 : Nat) (x : zsP) (l1 : Int32) {out : Int32 × zsP} (h : k_Tp_readEffect x l1 = some out) : KM zy_Tp_readEffect zb_Tp_readEffect 3 (some .boolean) 3 c [.ref a0, .int l1] (zwP c a0 a1 a2 x) (zwP c a0 a1 a2 out.2) (some (.int out.1)) := zK_of zp_Tp rfl (Nat.le_of_ble_eq_true rfl) (zq_Tp c a0 a1 a2 _ _) (fun X hX hR => by
  show Go X (zwP c a0 a1 a2 x) [(0, .ref a0), (1, .int l1)] 0 []
  rw [k_Tp_readEffect] at h
  refine g_aload_n (pc := 0) hX d_Tp_readEffect_0 rfl 0 rfl ?_
  obtain ⟨o1, e1, h⟩ := zbind h
  refine g_cvI (pc := 1) (w1 := []) (w2 := []) (st := []) (w' := (zwP c a0 a1 a2 x)) hX zk_Tp_peek zs_Tp_peek zL_Tp_49 (c_Tp_peek c a0 a1 a2 x e1) rfl rfl rfl rfl (zself _) (zself _).symm 0 7 rfl rfl rfl d_Tp_readEffect_1 ?_
  refine g_istore_n (pc := 4) (L' := [(2, .int o1), (0, .ref a0), (1, .int l1)]) hX d_Tp_readEffect_4 rfl rfl rfl ?_
  refine g_aload_n (pc := 5) hX d_Tp_readEffect_5 rfl 1 rfl ?_
  refine g_iload_n (pc := 6) hX d_Tp_readEffect_6 rfl 2 rfl ?_
  refine g_iload_n (pc := 7) hX d_Tp_readEffect_7 rfl 0 rfl ?_
  obtain ⟨o2, e2, h⟩ := zbind h
  refine g_cvV (pc := 8) (w1 := []) (w2 := []) (st := []) (w' := (zwP c a0 a1 a2 o2)) hX zk_Tp_setPart zs_Tp_setPart zL_Tp_53 (c_Tp_setPart c a0 a1 a2 x l1 o1 e2) rfl rfl rfl rfl (zself _) (zself _).symm 0 7 rfl rfl rfl d_Tp_readEffect_8 ?_
  refine g_iload_n (pc := 11) hX d_Tp_readEffect_11 rfl 0 rfl ?_
  refine g_bipush (pc := 12) hX d_Tp_readEffect_12 ze_104 ?_
  refine g_icmp_eq (pc := 14) (tgt := 23) hX d_Tp_readEffect_14 (by decide) h (fun c3 h => ?_) (fun c3 h => ?_)
  · refine g_ls (L' := [(0, .ref a0), (1, .int l1), (2, .int o1)]) [1, 2, 0] rfl ?_
    exact w_Tp_readEffect_23 hX hR _ _ h
  · refine g_iload_n (pc := 17) hX d_Tp_readEffect_17 rfl 0 rfl ?_
    refine g_bipush (pc := 18) hX d_Tp_readEffect_18 ze_109 ?_
    refine g_icmp_ne (pc := 20) (tgt := 47) hX d_Tp_readEffect_20 (by decide) h (fun c8 h => ?_) (fun c8 h => ?_)
    · refine g_iload_n (pc := 47) hX d_Tp_readEffect_47 rfl 0 rfl ?_
      refine g_bipush (pc := 48) hX d_Tp_readEffect_48 ze_107 ?_
      refine g_icmp_ne (pc := 50) (tgt := 115) hX d_Tp_readEffect_50 (by decide) h (fun c9 h => ?_) (fun c9 h => ?_)
      · refine g_iconst (pc := 115) hX d_Tp_readEffect_115 zc_0 ?_
        obtain rfl := Option.some.inj h
        exact g_zret (pc := 116) hX hR (Or.inl rfl) d_Tp_readEffect_116
      · refine g_aload_n (pc := 53) hX d_Tp_readEffect_53 rfl 1 rfl ?_
        refine g_iload_n (pc := 54) hX d_Tp_readEffect_54 rfl 0 rfl ?_
        obtain ⟨o10, e10, h⟩ := zbind h
        refine g_cvI (pc := 55) (w1 := []) (w2 := []) (st := []) (w' := (zwP c a0 a1 a2 o10.2)) hX zk_Tp_skip zs_Tp_skip zL_Tp_39 (c_Tp_skip c a0 a1 a2 o2 o1 e10) rfl rfl rfl rfl (zself _) (zself _).symm 0 7 rfl rfl rfl d_Tp_readEffect_55 ?_
        refine g_if_eq (pc := 58) (tgt := 115) hX d_Tp_readEffect_58 (by decide) h (fun c11 h => ?_) (fun c11 h => ?_)
        · refine g_iconst (pc := 115) hX d_Tp_readEffect_115 zc_0 ?_
          obtain rfl := Option.some.inj h
          exact g_zret (pc := 116) hX hR (Or.inl rfl) d_Tp_readEffect_116
        · refine g_aload_n (pc := 61) hX d_Tp_readEffect_61 rfl 1 rfl ?_
          refine g_iload_n (pc := 62) hX d_Tp_readEffect_62 rfl 2 rfl ?_
          refine g_iconst (pc := 63) hX d_Tp_readEffect_63 zc_1 ?_
          refine g_iadd (pc := 64) hX d_Tp_readEffect_64 ?_
          refine g_iconst (pc := 65) hX d_Tp_readEffect_65 zc_0 ?_
          refine g_iconst (pc := 66) hX d_Tp_readEffect_66 zc_5 ?_
          obtain ⟨o12, e12, h⟩ := zbind h
          refine g_cvI (pc := 67) (w1 := []) (w2 := []) (st := []) (w' := (zwP c a0 a1 a2 o12.2)) hX zk_Tp_readDigit zs_Tp_readDigit zL_Tp_35 (c_Tp_readDigit c a0 a1 a2 o10.2 ((l1 + (1 : Int32))) ((0 : Int32)) ((5 : Int32)) e12) rfl rfl rfl rfl (zself _) (zself _).symm 0 7 rfl rfl rfl d_Tp_readEffect_67 ?_
          refine g_if_eq (pc := 70) (tgt := 115) hX d_Tp_readEffect_70 (by decide) h (fun c13 h => ?_) (fun c13 h => ?_)
          · refine g_iconst (pc := 115) hX d_Tp_readEffect_115 zc_0 ?_
            obtain rfl := Option.some.inj h
            exact g_zret (pc := 116) hX hR (Or.inl rfl) d_Tp_readEffect_116
          · refine g_aload_n (pc := 73) hX d_Tp_readEffect_73 rfl 1 rfl ?_
            refine g_iload_n (pc := 74) hX d_Tp_readEffect_74 rfl 2 rfl ?_
            refine g_iconst (pc := 75) hX d_Tp_readEffect_75 zc_2 ?_
            refine g_iadd (pc := 76) hX d_Tp_readEffect_76 ?_
            refine g_iconst (pc := 77) hX d_Tp_readEffect_77 zc_1 ?_
            refine g_bipush (pc := 78) hX d_Tp_readEffect_78 ze_9 ?_
            obtain ⟨o14, e14, h⟩ := zbind h
            refine g_cvI (pc := 80) (w1 := []) (w2 := []) (st := []) (w' := (zwP c a0 a1 a2 o14.2)) hX zk_Tp_readDigit zs_Tp_readDigit zL_Tp_35 (c_Tp_readDigit c a0 a1 a2 o12.2 ((l1 + (2 : Int32))) ((1 : Int32)) ((9 : Int32)) e14) rfl rfl rfl rfl (zself _) (zself _).symm 0 7 rfl rfl rfl d_Tp_readEffect_80 ?_
            refine g_if_eq (pc := 83) (tgt := 115) hX d_Tp_readEffect_83 (by decide) h (fun c15 h => ?_) (fun c15 h => ?_)
            · refine g_iconst (pc := 115) hX d_Tp_readEffect_115 zc_0 ?_
              obtain rfl := Option.some.inj h
              exact g_zret (pc := 116) hX hR (Or.inl rfl) d_Tp_readEffect_116
            · refine g_aload_n (pc := 86) hX d_Tp_readEffect_86 rfl 1 rfl ?_
              refine g_iload_n (pc := 87) hX d_Tp_readEffect_87 rfl 2 rfl ?_
              refine g_iconst (pc := 88) hX d_Tp_readEffect_88 zc_3 ?_
              refine g_iadd (pc := 89) hX d_Tp_readEffect_89 ?_
              refine g_iconst (pc := 90) hX d_Tp_readEffect_90 zc_0 ?_
              refine g_iconst (pc := 91) hX d_Tp_readEffect_91 zc_3 ?_
              obtain ⟨o16, e16, h⟩ := zbind h
              refine g_cvI (pc := 92) (w1 := []) (w2 := []) (st := []) (w' := (zwP c a0 a1 a2 o16.2)) hX zk_Tp_readDigit zs_Tp_readDigit zL_Tp_35 (c_Tp_readDigit c a0 a1 a2 o14.2 ((l1 + (3 : Int32))) ((0 : Int32)) ((3 : Int32)) e16) rfl rfl rfl rfl (zself _) (zself _).symm 0 7 rfl rfl rfl d_Tp_readEffect_92 ?_
              refine g_if_eq (pc := 95) (tgt := 115) hX d_Tp_readEffect_95 (by decide) h (fun c17 h => ?_) (fun c17 h => ?_)
              · refine g_iconst (pc := 115) hX d_Tp_readEffect_115 zc_0 ?_
                obtain rfl := Option.some.inj h
                exact g_zret (pc := 116) hX hR (Or.inl rfl) d_Tp_readEffect_116
              · refine g_aload_n (pc := 98) hX d_Tp_readEffect_98 rfl 1 rfl ?_
                refine g_iload_n (pc := 99) hX d_Tp_readEffect_99 rfl 2 rfl ?_
                refine g_iconst (pc := 100) hX d_Tp_readEffect_100 zc_4 ?_
                refine g_iadd (pc := 101) hX d_Tp_readEffect_101 ?_
                refine g_iconst (pc := 102) hX d_Tp_readEffect_102 zc_1 ?_
                refine g_bipush (pc := 103) hX d_Tp_readEffect_103 ze_9 ?_
                obtain ⟨o18, e18, h⟩ := zbind h
                refine g_cvI (pc := 105) (w1 := []) (w2 := []) (st := []) (w' := (zwP c a0 a1 a2 o18.2)) hX zk_Tp_readDigit zs_Tp_readDigit zL_Tp_35 (c_Tp_readDigit c a0 a1 a2 o16.2 ((l1 + (4 : Int32))) ((1 : Int32)) ((9 : Int32)) e18) rfl rfl rfl rfl (zself _) (zself _).symm 0 7 rfl rfl rfl d_Tp_readEffect_105 ?_
                refine g_if_eq (pc := 108) (tgt := 115) hX d_Tp_readEffect_108 (by decide) h (fun c19 h => ?_) (fun c19 h => ?_)
                · refine g_iconst (pc := 115) hX d_Tp_readEffect_115 zc_0 ?_
                  obtain rfl := Option.some.inj h
                  exact g_zret (pc := 116) hX hR (Or.inl rfl) d_Tp_readEffect_116
                · refine g_iconst (pc := 111) hX d_Tp_readEffect_111 zc_1 ?_
                  refine g_goto (pc := 112) (tgt := 116) hX d_Tp_readEffect_112 (by decide) ?_
                  obtain rfl := Option.some.inj h
                  exact g_zret (pc := 116) hX hR (Or.inr rfl) d_Tp_readEffect_116
    · refine g_ls (L' := [(0, .ref a0), (1, .int l1), (2, .int o1)]) [1, 2, 0] rfl ?_
      exact w_Tp_readEffect_23 hX hR _ _ h)
theorem d_Tp_readEffects_0 : decode zb_Tp_readEffects 0 = .ok (.iconst 0, 1) := by decide +kernel
theorem d_Tp_readEffects_1 : decode zb_Tp_readEffects 1 = .ok (.istore_n 1, 1) := by decide +kernel
theorem d_Tp_readEffects_2 : decode zb_Tp_readEffects 2 = .ok (.iload_n 1, 1) := by decide +kernel
theorem d_Tp_readEffects_3 : decode zb_Tp_readEffects 3 = .ok (.iconst 4, 1) := by decide +kernel
theorem d_Tp_readEffects_4 : decode zb_Tp_readEffects 4 = .ok (.if_icmp .ge 46, 3) := by decide +kernel
theorem d_Tp_readEffects_7 : decode zb_Tp_readEffects 7 = .ok (.iload_n 1, 1) := by decide +kernel
theorem d_Tp_readEffects_8 : decode zb_Tp_readEffects 8 = .ok (.ifCond .le 14, 3) := by decide +kernel
theorem d_Tp_readEffects_11 : decode zb_Tp_readEffects 11 = .ok (.aload_n 0, 1) := by decide +kernel
theorem d_Tp_readEffects_12 : decode zb_Tp_readEffects 12 = .ok (.bipush 44, 2) := by decide +kernel
theorem d_Tp_readEffects_14 : decode zb_Tp_readEffects 14 = .ok (.invokevirtual 39, 3) := by decide +kernel
theorem d_Tp_readEffects_17 : decode zb_Tp_readEffects 17 = .ok (.ifCond .ne 5, 3) := by decide +kernel
theorem d_Tp_readEffects_20 : decode zb_Tp_readEffects 20 = .ok (.iconst 1, 1) := by decide +kernel
theorem d_Tp_readEffects_21 : decode zb_Tp_readEffects 21 = .ok (.ireturn, 1) := by decide +kernel
theorem d_Tp_readEffects_22 : decode zb_Tp_readEffects 22 = .ok (.aload_n 0, 1) := by decide +kernel
theorem d_Tp_readEffects_23 : decode zb_Tp_readEffects 23 = .ok (.iconst 5, 1) := by decide +kernel
theorem d_Tp_readEffects_24 : decode zb_Tp_readEffects 24 = .ok (.iload_n 1, 1) := by decide +kernel
theorem d_Tp_readEffects_25 : decode zb_Tp_readEffects 25 = .ok (.iconst 5, 1) := by decide +kernel
theorem d_Tp_readEffects_26 : decode zb_Tp_readEffects 26 = .ok (.imul, 1) := by decide +kernel
theorem d_Tp_readEffects_27 : decode zb_Tp_readEffects 27 = .ok (.iadd, 1) := by decide +kernel
theorem d_Tp_readEffects_28 : decode zb_Tp_readEffects 28 = .ok (.invokevirtual 57, 3) := by decide +kernel
theorem d_Tp_readEffects_31 : decode zb_Tp_readEffects 31 = .ok (.ifCond .ne 5, 3) := by decide +kernel
theorem d_Tp_readEffects_34 : decode zb_Tp_readEffects 34 = .ok (.iconst 0, 1) := by decide +kernel
theorem d_Tp_readEffects_35 : decode zb_Tp_readEffects 35 = .ok (.ireturn, 1) := by decide +kernel
theorem d_Tp_readEffects_36 : decode zb_Tp_readEffects 36 = .ok (.aload_n 0, 1) := by decide +kernel
theorem d_Tp_readEffects_37 : decode zb_Tp_readEffects 37 = .ok (.iconst 2, 1) := by decide +kernel
theorem d_Tp_readEffects_38 : decode zb_Tp_readEffects 38 = .ok (.iload_n 1, 1) := by decide +kernel
theorem d_Tp_readEffects_39 : decode zb_Tp_readEffects 39 = .ok (.iconst 1, 1) := by decide +kernel
theorem d_Tp_readEffects_40 : decode zb_Tp_readEffects 40 = .ok (.iadd, 1) := by decide +kernel
theorem d_Tp_readEffects_41 : decode zb_Tp_readEffects 41 = .ok (.invokevirtual 53, 3) := by decide +kernel
theorem d_Tp_readEffects_44 : decode zb_Tp_readEffects 44 = .ok (.iinc 1 1, 3) := by decide +kernel
theorem d_Tp_readEffects_47 : decode zb_Tp_readEffects 47 = .ok (.goto (-45), 3) := by decide +kernel
theorem d_Tp_readEffects_50 : decode zb_Tp_readEffects 50 = .ok (.iconst 1, 1) := by decide +kernel
theorem d_Tp_readEffects_51 : decode zb_Tp_readEffects 51 = .ok (.ireturn, 1) := by decide +kernel
def k_Tp_readEffects_22 (kf_2 : Int32 → zsP → Option (Int32 × zsP)) (l1 : Int32) (x : zsP) : Option (Int32 × zsP) := (k_Tp_readEffect x (((5 : Int32) + (l1 * (5 : Int32))))).bind fun o3 => (if o3.1 = 0 then some ((0 : Int32), o3.2) else (k_Tp_setPart o3.2 ((2 : Int32)) ((l1 + (1 : Int32)))).bind fun o5 => kf_2 ((l1 + (1 : Int32))) o5)
set_option maxRecDepth 20000 in
theorem w_Tp_readEffects_22 {X : zX} {c : zY} {a0 a1 a2 : Nat} {out : Int32 × zsP} {kf_2 : Int32 → zsP → Option (Int32 × zsP)} (hX : Ok X zr_Tp zb_Tp_readEffects 2 4 c) (hR : Rt X (some .boolean) (some (.int out.1)) (zwP c a0 a1 a2 out.2)) (hk_2 : ∀ (l1 : Int32) (x : zsP), kf_2 l1 x = some out → Go X (zwP c a0 a1 a2 x) [(0, .ref a0), (1, .int l1)] 2 []) : ∀ (l1 : Int32) (x : zsP), k_Tp_readEffects_22 kf_2 l1 x = some out → Go X (zwP c a0 a1 a2 x) [(0, .ref a0), (1, .int l1)] 22 [] := by
  intro l1 x h
  rw [k_Tp_readEffects_22] at h
  refine g_aload_n (pc := 22) hX d_Tp_readEffects_22 rfl 0 rfl ?_
  refine g_iconst (pc := 23) hX d_Tp_readEffects_23 zc_5 ?_
  refine g_iload_n (pc := 24) hX d_Tp_readEffects_24 rfl 1 rfl ?_
  refine g_iconst (pc := 25) hX d_Tp_readEffects_25 zc_5 ?_
  refine g_imul (pc := 26) hX d_Tp_readEffects_26 ?_
  refine g_iadd (pc := 27) hX d_Tp_readEffects_27 ?_
  obtain ⟨o3, e3, h⟩ := zbind h
  refine g_cvI (pc := 28) (w1 := []) (w2 := []) (st := []) (w' := (zwP c a0 a1 a2 o3.2)) hX zk_Tp_readEffect zs_Tp_readEffect zL_Tp_57 (c_Tp_readEffect c a0 a1 a2 x (((5 : Int32) + (l1 * (5 : Int32)))) e3) rfl rfl rfl rfl (zself _) (zself _).symm 0 7 rfl rfl rfl d_Tp_readEffects_28 ?_
  refine g_if_ne (pc := 31) (tgt := 36) hX d_Tp_readEffects_31 (by decide) h (fun c4 h => ?_) (fun c4 h => ?_)
  · refine g_aload_n (pc := 36) hX d_Tp_readEffects_36 rfl 0 rfl ?_
    refine g_iconst (pc := 37) hX d_Tp_readEffects_37 zc_2 ?_
    refine g_iload_n (pc := 38) hX d_Tp_readEffects_38 rfl 1 rfl ?_
    refine g_iconst (pc := 39) hX d_Tp_readEffects_39 zc_1 ?_
    refine g_iadd (pc := 40) hX d_Tp_readEffects_40 ?_
    obtain ⟨o5, e5, h⟩ := zbind h
    refine g_cvV (pc := 41) (w1 := []) (w2 := []) (st := []) (w' := (zwP c a0 a1 a2 o5)) hX zk_Tp_setPart zs_Tp_setPart zL_Tp_53 (c_Tp_setPart c a0 a1 a2 o3.2 ((2 : Int32)) ((l1 + (1 : Int32))) e5) rfl rfl rfl rfl (zself _) (zself _).symm 0 7 rfl rfl rfl d_Tp_readEffects_41 ?_
    refine g_iinc (pc := 44) (q := 1) (L' := [(1, .int ((l1 + (1 : Int32)))), (0, .ref a0)]) hX d_Tp_readEffects_44 rfl zc_1 rfl rfl ?_
    refine g_goto (pc := 47) (tgt := 2) hX d_Tp_readEffects_47 (by decide) ?_
    refine g_ls (L' := [(0, .ref a0), (1, .int ((l1 + (1 : Int32))))]) [1, 0] rfl ?_
    exact hk_2 _ _ h
  · refine g_iconst (pc := 34) hX d_Tp_readEffects_34 zc_0 ?_
    obtain rfl := Option.some.inj h
    exact g_zret (pc := 35) hX hR (Or.inl rfl) d_Tp_readEffects_35
def k_Tp_readEffects_2 : Nat → Int32 → zsP → Option (Int32 × zsP)
  | 0, _, _ => none
  | fu + 1, l1, x => (if l1 < (4 : Int32) then (if 0 < l1 then (k_Tp_skip x ((44 : Int32))).bind fun o6 => (if o6.1 = 0 then some ((1 : Int32), o6.2) else k_Tp_readEffects_22 (k_Tp_readEffects_2 fu) l1 o6.2) else k_Tp_readEffects_22 (k_Tp_readEffects_2 fu) l1 x) else some ((1 : Int32), x))
set_option maxRecDepth 20000 in
theorem w_Tp_readEffects_2 {X : zX} {c : zY} {a0 a1 a2 : Nat} {out : Int32 × zsP} (hX : Ok X zr_Tp zb_Tp_readEffects 2 4 c) (hR : Rt X (some .boolean) (some (.int out.1)) (zwP c a0 a1 a2 out.2)) : ∀ (fu : Nat) (l1 : Int32) (x : zsP), k_Tp_readEffects_2 fu l1 x = some out → Go X (zwP c a0 a1 a2 x) [(0, .ref a0), (1, .int l1)] 2 [] := by
  intro fu
  induction fu with
  | zero => intro l1 x h; rw [k_Tp_readEffects_2] at h; cases h
  | succ fu ih =>
    intro l1 x h
    rw [k_Tp_readEffects_2] at h
    refine g_iload_n (pc := 2) hX d_Tp_readEffects_2 rfl 1 rfl ?_
    refine g_iconst (pc := 3) hX d_Tp_readEffects_3 zc_4 ?_
    refine g_icmp_ge (pc := 4) (tgt := 50) hX d_Tp_readEffects_4 (by decide) h (fun c1 h => ?_) (fun c1 h => ?_)
    · refine g_iconst (pc := 50) hX d_Tp_readEffects_50 zc_1 ?_
      obtain rfl := Option.some.inj h
      exact g_zret (pc := 51) hX hR (Or.inr rfl) d_Tp_readEffects_51
    · refine g_iload_n (pc := 7) hX d_Tp_readEffects_7 rfl 1 rfl ?_
      refine g_if_le (pc := 8) (tgt := 22) hX d_Tp_readEffects_8 (by decide) h (fun c2 h => ?_) (fun c2 h => ?_)
      · exact w_Tp_readEffects_22 hX hR ih _ _ h
      · refine g_aload_n (pc := 11) hX d_Tp_readEffects_11 rfl 0 rfl ?_
        refine g_bipush (pc := 12) hX d_Tp_readEffects_12 ze_44 ?_
        obtain ⟨o6, e6, h⟩ := zbind h
        refine g_cvI (pc := 14) (w1 := []) (w2 := []) (st := []) (w' := (zwP c a0 a1 a2 o6.2)) hX zk_Tp_skip zs_Tp_skip zL_Tp_39 (c_Tp_skip c a0 a1 a2 x ((44 : Int32)) e6) rfl rfl rfl rfl (zself _) (zself _).symm 0 7 rfl rfl rfl d_Tp_readEffects_14 ?_
        refine g_if_ne (pc := 17) (tgt := 22) hX d_Tp_readEffects_17 (by decide) h (fun c7 h => ?_) (fun c7 h => ?_)
        · exact w_Tp_readEffects_22 hX hR ih _ _ h
        · refine g_iconst (pc := 20) hX d_Tp_readEffects_20 zc_1 ?_
          obtain rfl := Option.some.inj h
          exact g_zret (pc := 21) hX hR (Or.inr rfl) d_Tp_readEffects_21
def k_Tp_readEffects (x : zsP) : Option (Int32 × zsP) := k_Tp_readEffects_2 zFu ((0 : Int32)) x
set_option maxRecDepth 20000 in
theorem c_Tp_readEffects (c : zY) (a0 a1 a2 : Nat) (x : zsP) {out : Int32 × zsP} (h : k_Tp_readEffects x = some out) : KM zy_Tp_readEffects zb_Tp_readEffects 2 (some .boolean) 4 c [.ref a0] (zwP c a0 a1 a2 x) (zwP c a0 a1 a2 out.2) (some (.int out.1)) := zK_of zp_Tp rfl (Nat.le_of_ble_eq_true rfl) (zq_Tp c a0 a1 a2 _ _) (fun X hX hR => by
  show Go X (zwP c a0 a1 a2 x) [(0, .ref a0)] 0 []
  rw [k_Tp_readEffects] at h
  refine g_iconst (pc := 0) hX d_Tp_readEffects_0 zc_0 ?_
  refine g_istore_n (pc := 1) (L' := [(1, .int ((0 : Int32))), (0, .ref a0)]) hX d_Tp_readEffects_1 rfl rfl rfl ?_
  refine g_ls (L' := [(0, .ref a0), (1, .int ((0 : Int32)))]) [1, 0] rfl ?_
  exact w_Tp_readEffects_2 hX hR _ _ _ h)
theorem d_Tp_readPower_0 : decode zb_Tp_readPower 0 = .ok (.aload_n 0, 1) := by decide +kernel
theorem d_Tp_readPower_1 : decode zb_Tp_readPower 1 = .ok (.iconst 0, 1) := by decide +kernel
theorem d_Tp_readPower_2 : decode zb_Tp_readPower 2 = .ok (.putfield 22, 3) := by decide +kernel
theorem d_Tp_readPower_5 : decode zb_Tp_readPower 5 = .ok (.aload_n 0, 1) := by decide +kernel
theorem d_Tp_readPower_6 : decode zb_Tp_readPower 6 = .ok (.getfield 15, 3) := by decide +kernel
theorem d_Tp_readPower_9 : decode zb_Tp_readPower 9 = .ok (.iconst 0, 1) := by decide +kernel
theorem d_Tp_readPower_10 : decode zb_Tp_readPower 10 = .ok (.invokestatic 25, 3) := by decide +kernel
theorem d_Tp_readPower_13 : decode zb_Tp_readPower 13 = .ok (.aload_n 0, 1) := by decide +kernel
theorem d_Tp_readPower_14 : decode zb_Tp_readPower 14 = .ok (.invokevirtual 31, 3) := by decide +kernel
theorem d_Tp_readPower_17 : decode zb_Tp_readPower 17 = .ok (.ifCond .eq 51, 3) := by decide +kernel
theorem d_Tp_readPower_20 : decode zb_Tp_readPower 20 = .ok (.aload_n 0, 1) := by decide +kernel
theorem d_Tp_readPower_21 : decode zb_Tp_readPower 21 = .ok (.iconst 1, 1) := by decide +kernel
theorem d_Tp_readPower_22 : decode zb_Tp_readPower 22 = .ok (.iconst 0, 1) := by decide +kernel
theorem d_Tp_readPower_23 : decode zb_Tp_readPower 23 = .ok (.iconst 5, 1) := by decide +kernel
theorem d_Tp_readPower_24 : decode zb_Tp_readPower 24 = .ok (.invokevirtual 35, 3) := by decide +kernel
theorem d_Tp_readPower_27 : decode zb_Tp_readPower 27 = .ok (.ifCond .eq 41, 3) := by decide +kernel
theorem d_Tp_readPower_30 : decode zb_Tp_readPower 30 = .ok (.aload_n 0, 1) := by decide +kernel
theorem d_Tp_readPower_31 : decode zb_Tp_readPower 31 = .ok (.bipush 58, 2) := by decide +kernel
theorem d_Tp_readPower_33 : decode zb_Tp_readPower 33 = .ok (.invokevirtual 39, 3) := by decide +kernel
theorem d_Tp_readPower_36 : decode zb_Tp_readPower 36 = .ok (.ifCond .eq 32, 3) := by decide +kernel
theorem d_Tp_readPower_39 : decode zb_Tp_readPower 39 = .ok (.aload_n 0, 1) := by decide +kernel
theorem d_Tp_readPower_40 : decode zb_Tp_readPower 40 = .ok (.invokevirtual 43, 3) := by decide +kernel
theorem d_Tp_readPower_43 : decode zb_Tp_readPower 43 = .ok (.ifCond .eq 25, 3) := by decide +kernel
theorem d_Tp_readPower_46 : decode zb_Tp_readPower 46 = .ok (.aload_n 0, 1) := by decide +kernel
theorem d_Tp_readPower_47 : decode zb_Tp_readPower 47 = .ok (.invokevirtual 46, 3) := by decide +kernel
theorem d_Tp_readPower_50 : decode zb_Tp_readPower 50 = .ok (.ifCond .eq 18, 3) := by decide +kernel
theorem d_Tp_readPower_53 : decode zb_Tp_readPower 53 = .ok (.aload_n 0, 1) := by decide +kernel
theorem d_Tp_readPower_54 : decode zb_Tp_readPower 54 = .ok (.getfield 22, 3) := by decide +kernel
theorem d_Tp_readPower_57 : decode zb_Tp_readPower 57 = .ok (.aload_n 0, 1) := by decide +kernel
theorem d_Tp_readPower_58 : decode zb_Tp_readPower 58 = .ok (.getfield 18, 3) := by decide +kernel
theorem d_Tp_readPower_61 : decode zb_Tp_readPower 61 = .ok (.if_icmp .ne 7, 3) := by decide +kernel
theorem d_Tp_readPower_64 : decode zb_Tp_readPower 64 = .ok (.iconst 1, 1) := by decide +kernel
theorem d_Tp_readPower_65 : decode zb_Tp_readPower 65 = .ok (.goto 4, 3) := by decide +kernel
theorem d_Tp_readPower_68 : decode zb_Tp_readPower 68 = .ok (.iconst 0, 1) := by decide +kernel
theorem d_Tp_readPower_69 : decode zb_Tp_readPower 69 = .ok (.ireturn, 1) := by decide +kernel
def k_Tp_readPower (x : zsP) : Option (Int32 × zsP) := (k_Ar_fill 25 x.2.1 ((0 : Int32))).bind fun o1 => (k_Tp_readShape ((x.1, o1, x.2.2.1, (0 : Int32)))).bind fun o2 => (if o2.1 = 0 then some ((0 : Int32), o2.2) else (k_Tp_readDigit o2.2 ((1 : Int32)) ((0 : Int32)) ((5 : Int32))).bind fun o4 => (if o4.1 = 0 then some ((0 : Int32), o4.2) else (k_Tp_skip o4.2 ((58 : Int32))).bind fun o6 => (if o6.1 = 0 then some ((0 : Int32), o6.2) else (k_Tp_readEffects o6.2).bind fun o8 => (if o8.1 = 0 then some ((0 : Int32), o8.2) else (k_Tp_readCost o8.2).bind fun o10 => (if o10.1 = 0 then some ((0 : Int32), o10.2) else (if o10.2.2.2.2 = o10.2.2.2.1 then some ((1 : Int32), o10.2) else some ((0 : Int32), o10.2)))))))
set_option maxRecDepth 20000 in
theorem c_Tp_readPower (c : zY) (a0 a1 a2 : Nat) (x : zsP) {out : Int32 × zsP} (h : k_Tp_readPower x = some out) : KM zy_Tp_readPower zb_Tp_readPower 1 (some .boolean) 5 c [.ref a0] (zwP c a0 a1 a2 x) (zwP c a0 a1 a2 out.2) (some (.int out.1)) := zK_of zp_Tp rfl (Nat.le_of_ble_eq_true rfl) (zq_Tp c a0 a1 a2 _ _) (fun X hX hR => by
  show Go X (zwP c a0 a1 a2 x) [(0, .ref a0)] 0 []
  rw [k_Tp_readPower] at h
  refine g_aload_n (pc := 0) hX d_Tp_readPower_0 rfl 0 rfl ?_
  refine g_iconst (pc := 1) hX d_Tp_readPower_1 zc_0 ?_
  refine pf_Tp_22 (pc := 2) (w2 := (zwP c a0 a1 a2 ((x.1, x.2.1, x.2.2.1, (0 : Int32))))) hX 0 rfl rfl (su_Tp_0_3 c a0 a1 a2 x ((0 : Int32))) d_Tp_readPower_2 ?_
  refine g_aload_n (pc := 5) hX d_Tp_readPower_5 rfl 0 rfl ?_
  refine gf_Tp_15 (pc := 6) (v := .ref a2) hX 0 rfl rfl d_Tp_readPower_6 ?_
  refine g_iconst (pc := 9) hX d_Tp_readPower_9 zc_0 ?_
  obtain ⟨o1, e1, h⟩ := zbind h
  refine g_csV (pc := 10) (st := []) (w' := (zwP c a0 a1 a2 ((x.1, o1, x.2.2.1, (0 : Int32))))) hX zk_Ar_fill zL_Tp_25 (c_Ar_fill c a2 25 x.2.1 ((0 : Int32)) e1) rfl rfl rfl rfl (sp_Tp_Fl_2 c a0 a1 a2 ((x.1, x.2.1, x.2.2.1, (0 : Int32)))) (sq_Tp_Fl_2 c a0 a1 a2 ((x.1, x.2.1, x.2.2.1, (0 : Int32))) o1) rfl d_Tp_readPower_10 ?_
  refine g_aload_n (pc := 13) hX d_Tp_readPower_13 rfl 0 rfl ?_
  obtain ⟨o2, e2, h⟩ := zbind h
  refine g_cvI (pc := 14) (w1 := []) (w2 := []) (st := []) (w' := (zwP c a0 a1 a2 o2.2)) hX zk_Tp_readShape zs_Tp_readShape zL_Tp_31 (c_Tp_readShape c a0 a1 a2 ((x.1, o1, x.2.2.1, (0 : Int32))) e2) rfl rfl rfl rfl (zself _) (zself _).symm 0 7 rfl rfl rfl d_Tp_readPower_14 ?_
  refine g_if_eq (pc := 17) (tgt := 68) hX d_Tp_readPower_17 (by decide) h (fun c3 h => ?_) (fun c3 h => ?_)
  · refine g_iconst (pc := 68) hX d_Tp_readPower_68 zc_0 ?_
    obtain rfl := Option.some.inj h
    exact g_zret (pc := 69) hX hR (Or.inl rfl) d_Tp_readPower_69
  · refine g_aload_n (pc := 20) hX d_Tp_readPower_20 rfl 0 rfl ?_
    refine g_iconst (pc := 21) hX d_Tp_readPower_21 zc_1 ?_
    refine g_iconst (pc := 22) hX d_Tp_readPower_22 zc_0 ?_
    refine g_iconst (pc := 23) hX d_Tp_readPower_23 zc_5 ?_
    obtain ⟨o4, e4, h⟩ := zbind h
    refine g_cvI (pc := 24) (w1 := []) (w2 := []) (st := []) (w' := (zwP c a0 a1 a2 o4.2)) hX zk_Tp_readDigit zs_Tp_readDigit zL_Tp_35 (c_Tp_readDigit c a0 a1 a2 o2.2 ((1 : Int32)) ((0 : Int32)) ((5 : Int32)) e4) rfl rfl rfl rfl (zself _) (zself _).symm 0 7 rfl rfl rfl d_Tp_readPower_24 ?_
    refine g_if_eq (pc := 27) (tgt := 68) hX d_Tp_readPower_27 (by decide) h (fun c5 h => ?_) (fun c5 h => ?_)
    · refine g_iconst (pc := 68) hX d_Tp_readPower_68 zc_0 ?_
      obtain rfl := Option.some.inj h
      exact g_zret (pc := 69) hX hR (Or.inl rfl) d_Tp_readPower_69
    · refine g_aload_n (pc := 30) hX d_Tp_readPower_30 rfl 0 rfl ?_
      refine g_bipush (pc := 31) hX d_Tp_readPower_31 ze_58 ?_
      obtain ⟨o6, e6, h⟩ := zbind h
      refine g_cvI (pc := 33) (w1 := []) (w2 := []) (st := []) (w' := (zwP c a0 a1 a2 o6.2)) hX zk_Tp_skip zs_Tp_skip zL_Tp_39 (c_Tp_skip c a0 a1 a2 o4.2 ((58 : Int32)) e6) rfl rfl rfl rfl (zself _) (zself _).symm 0 7 rfl rfl rfl d_Tp_readPower_33 ?_
      refine g_if_eq (pc := 36) (tgt := 68) hX d_Tp_readPower_36 (by decide) h (fun c7 h => ?_) (fun c7 h => ?_)
      · refine g_iconst (pc := 68) hX d_Tp_readPower_68 zc_0 ?_
        obtain rfl := Option.some.inj h
        exact g_zret (pc := 69) hX hR (Or.inl rfl) d_Tp_readPower_69
      · refine g_aload_n (pc := 39) hX d_Tp_readPower_39 rfl 0 rfl ?_
        obtain ⟨o8, e8, h⟩ := zbind h
        refine g_cvI (pc := 40) (w1 := []) (w2 := []) (st := []) (w' := (zwP c a0 a1 a2 o8.2)) hX zk_Tp_readEffects zs_Tp_readEffects zL_Tp_43 (c_Tp_readEffects c a0 a1 a2 o6.2 e8) rfl rfl rfl rfl (zself _) (zself _).symm 0 7 rfl rfl rfl d_Tp_readPower_40 ?_
        refine g_if_eq (pc := 43) (tgt := 68) hX d_Tp_readPower_43 (by decide) h (fun c9 h => ?_) (fun c9 h => ?_)
        · refine g_iconst (pc := 68) hX d_Tp_readPower_68 zc_0 ?_
          obtain rfl := Option.some.inj h
          exact g_zret (pc := 69) hX hR (Or.inl rfl) d_Tp_readPower_69
        · refine g_aload_n (pc := 46) hX d_Tp_readPower_46 rfl 0 rfl ?_
          obtain ⟨o10, e10, h⟩ := zbind h
          refine g_cvI (pc := 47) (w1 := []) (w2 := []) (st := []) (w' := (zwP c a0 a1 a2 o10.2)) hX zk_Tp_readCost zs_Tp_readCost zL_Tp_46 (c_Tp_readCost c a0 a1 a2 o8.2 e10) rfl rfl rfl rfl (zself _) (zself _).symm 0 7 rfl rfl rfl d_Tp_readPower_47 ?_
          refine g_if_eq (pc := 50) (tgt := 68) hX d_Tp_readPower_50 (by decide) h (fun c11 h => ?_) (fun c11 h => ?_)
          · refine g_iconst (pc := 68) hX d_Tp_readPower_68 zc_0 ?_
            obtain rfl := Option.some.inj h
            exact g_zret (pc := 69) hX hR (Or.inl rfl) d_Tp_readPower_69
          · refine g_aload_n (pc := 53) hX d_Tp_readPower_53 rfl 0 rfl ?_
            refine gf_Tp_22 (pc := 54) (v := .int o10.2.2.2.2) hX 0 rfl rfl d_Tp_readPower_54 ?_
            refine g_aload_n (pc := 57) hX d_Tp_readPower_57 rfl 0 rfl ?_
            refine gf_Tp_18 (pc := 58) (v := .int o10.2.2.2.1) hX 0 rfl rfl d_Tp_readPower_58 ?_
            refine g_icmp_ne (pc := 61) (tgt := 68) hX d_Tp_readPower_61 (by decide) h (fun c12 h => ?_) (fun c12 h => ?_)
            · refine g_iconst (pc := 68) hX d_Tp_readPower_68 zc_0 ?_
              obtain rfl := Option.some.inj h
              exact g_zret (pc := 69) hX hR (Or.inl rfl) d_Tp_readPower_69
            · refine g_iconst (pc := 64) hX d_Tp_readPower_64 zc_1 ?_
              refine g_goto (pc := 65) (tgt := 69) hX d_Tp_readPower_65 (by decide) ?_
              obtain rfl := Option.some.inj h
              exact g_zret (pc := 69) hX hR (Or.inr rfl) d_Tp_readPower_69)
