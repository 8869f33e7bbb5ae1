theorem d_Ta_used_0 : decode zb_Ta_used 0 = .ok (.aload_n 0, 1) := by decide +kernel
theorem d_Ta_used_1 : decode zb_Ta_used 1 = .ok (.getfield 23, 3) := by decide +kernel
theorem d_Ta_used_4 : decode zb_Ta_used 4 = .ok (.ireturn, 1) := by decide +kernel
def k_Ta_used (w : Int32) (n : Nat) (x : zsT) : Option (Int32) := some x.2
set_option maxRecDepth 20000 in
theorem c_Ta_used (c : zY) (a0 a1 : Nat) (w : Int32) (n : Nat) (x : zsT) {out : Int32} (h : k_Ta_used w n x = some out) : KM zy_Ta_used zb_Ta_used 1 (some .int) 0 c [.ref a0] (zwT c a0 a1 w n x) (zwT c a0 a1 w n x) (some (.int out)) := zK_of zp_Ta rfl (Nat.le_of_ble_eq_true rfl) (zq_Ta c a0 a1 w n _ _) (fun X hX hR => by
  show Go X (zwT c a0 a1 w n x) [(0, .ref a0)] 0 []
  rw [k_Ta_used] at h
  refine g_aload_n (pc := 0) hX d_Ta_used_0 rfl 0 rfl ?_
  refine gf_Ta_23 (pc := 1) (v := .int x.2) hX 0 rfl rfl d_Ta_used_1 ?_
  obtain rfl := Option.some.inj h
  exact g_iret (pc := 4) hX hR d_Ta_used_4)
theorem d_Ta_holds_0 : decode zb_Ta_holds 0 = .ok (.iload_n 1, 1) := by decide +kernel
theorem d_Ta_holds_1 : decode zb_Ta_holds 1 = .ok (.ifCond .lt 15, 3) := by decide +kernel
theorem d_Ta_holds_4 : decode zb_Ta_holds 4 = .ok (.iload_n 1, 1) := by decide +kernel
theorem d_Ta_holds_5 : decode zb_Ta_holds 5 = .ok (.aload_n 0, 1) := by decide +kernel
theorem d_Ta_holds_6 : decode zb_Ta_holds 6 = .ok (.getfield 23, 3) := by decide +kernel
theorem d_Ta_holds_9 : decode zb_Ta_holds 9 = .ok (.if_icmp .ge 7, 3) := by decide +kernel
theorem d_Ta_holds_12 : decode zb_Ta_holds 12 = .ok (.iconst 1, 1) := by decide +kernel
theorem d_Ta_holds_13 : decode zb_Ta_holds 13 = .ok (.goto 4, 3) := by decide +kernel
theorem d_Ta_holds_16 : decode zb_Ta_holds 16 = .ok (.iconst 0, 1) := by decide +kernel
theorem d_Ta_holds_17 : decode zb_Ta_holds 17 = .ok (.ireturn, 1) := by decide +kernel
def k_Ta_holds (w : Int32) (n : Nat) (x : zsT) (l1 : Int32) : Option (Int32) := (if l1 < 0 then some ((0 : Int32)) else (if l1 < x.2 then some ((1 : Int32)) else some ((0 : Int32))))
set_option maxRecDepth 20000 in
theorem c_Ta_holds (c : zY) (a0 a1 : Nat) (w : Int32) (n : Nat) (x : zsT) (l1 : Int32) {out : Int32} (h : k_Ta_holds w n x l1 = some out) : KM zy_Ta_holds zb_Ta_holds 2 (some .boolean) 0 c [.ref a0, .int l1] (zwT c a0 a1 w n x) (zwT c a0 a1 w n x) (some (.int out)) := zK_of zp_Ta rfl (Nat.le_of_ble_eq_true rfl) (zq_Ta c a0 a1 w n _ _) (fun X hX hR => by
  show Go X (zwT c a0 a1 w n x) [(0, .ref a0), (1, .int l1)] 0 []
  rw [k_Ta_holds] at h
  refine g_iload_n (pc := 0) hX d_Ta_holds_0 rfl 1 rfl ?_
  refine g_if_lt (pc := 1) (tgt := 16) hX d_Ta_holds_1 (by decide) h (fun c1 h => ?_) (fun c1 h => ?_)
  · refine g_iconst (pc := 16) hX d_Ta_holds_16 zc_0 ?_
    obtain rfl := Option.some.inj h
    exact g_zret (pc := 17) hX hR (Or.inl rfl) d_Ta_holds_17
  · refine g_iload_n (pc := 4) hX d_Ta_holds_4 rfl 1 rfl ?_
    refine g_aload_n (pc := 5) hX d_Ta_holds_5 rfl 0 rfl ?_
    refine gf_Ta_23 (pc := 6) (v := .int x.2) hX 0 rfl rfl d_Ta_holds_6 ?_
    refine g_icmp_ge (pc := 9) (tgt := 16) hX d_Ta_holds_9 (by decide) h (fun c2 h => ?_) (fun c2 h => ?_)
    · refine g_iconst (pc := 16) hX d_Ta_holds_16 zc_0 ?_
      obtain rfl := Option.some.inj h
      exact g_zret (pc := 17) hX hR (Or.inl rfl) d_Ta_holds_17
    · refine g_iconst (pc := 12) hX d_Ta_holds_12 zc_1 ?_
      refine g_goto (pc := 13) (tgt := 17) hX d_Ta_holds_13 (by decide) ?_
      obtain rfl := Option.some.inj h
      exact g_zret (pc := 17) hX hR (Or.inr rfl) d_Ta_holds_17)
theorem d_Ta_get_0 : decode zb_Ta_get 0 = .ok (.iload_n 1, 1) := by decide +kernel
theorem d_Ta_get_1 : decode zb_Ta_get 1 = .ok (.ifCond .lt 23, 3) := by decide +kernel
theorem d_Ta_get_4 : decode zb_Ta_get 4 = .ok (.iload_n 1, 1) := by decide +kernel
theorem d_Ta_get_5 : decode zb_Ta_get 5 = .ok (.aload_n 0, 1) := by decide +kernel
theorem d_Ta_get_6 : decode zb_Ta_get 6 = .ok (.getfield 23, 3) := by decide +kernel
theorem d_Ta_get_9 : decode zb_Ta_get 9 = .ok (.if_icmp .ge 15, 3) := by decide +kernel
theorem d_Ta_get_12 : decode zb_Ta_get 12 = .ok (.iload_n 2, 1) := by decide +kernel
theorem d_Ta_get_13 : decode zb_Ta_get 13 = .ok (.ifCond .lt 11, 3) := by decide +kernel
theorem d_Ta_get_16 : decode zb_Ta_get 16 = .ok (.iload_n 2, 1) := by decide +kernel
theorem d_Ta_get_17 : decode zb_Ta_get 17 = .ok (.aload_n 0, 1) := by decide +kernel
theorem d_Ta_get_18 : decode zb_Ta_get 18 = .ok (.getfield 7, 3) := by decide +kernel
theorem d_Ta_get_21 : decode zb_Ta_get 21 = .ok (.if_icmp .lt 5, 3) := by decide +kernel
theorem d_Ta_get_24 : decode zb_Ta_get 24 = .ok (.iconst 0, 1) := by decide +kernel
theorem d_Ta_get_25 : decode zb_Ta_get 25 = .ok (.ireturn, 1) := by decide +kernel
theorem d_Ta_get_26 : decode zb_Ta_get 26 = .ok (.iload_n 1, 1) := by decide +kernel
theorem d_Ta_get_27 : decode zb_Ta_get 27 = .ok (.aload_n 0, 1) := by decide +kernel
theorem d_Ta_get_28 : decode zb_Ta_get 28 = .ok (.getfield 7, 3) := by decide +kernel
theorem d_Ta_get_31 : decode zb_Ta_get 31 = .ok (.imul, 1) := by decide +kernel
theorem d_Ta_get_32 : decode zb_Ta_get 32 = .ok (.iload_n 2, 1) := by decide +kernel
theorem d_Ta_get_33 : decode zb_Ta_get 33 = .ok (.iadd, 1) := by decide +kernel
theorem d_Ta_get_34 : decode zb_Ta_get 34 = .ok (.istore_n 3, 1) := by decide +kernel
theorem d_Ta_get_35 : decode zb_Ta_get 35 = .ok (.iload_n 3, 1) := by decide +kernel
theorem d_Ta_get_36 : decode zb_Ta_get 36 = .ok (.ifCond .lt 21, 3) := by decide +kernel
theorem d_Ta_get_39 : decode zb_Ta_get 39 = .ok (.iload_n 3, 1) := by decide +kernel
theorem d_Ta_get_40 : decode zb_Ta_get 40 = .ok (.aload_n 0, 1) := by decide +kernel
theorem d_Ta_get_41 : decode zb_Ta_get 41 = .ok (.getfield 19, 3) := by decide +kernel
theorem d_Ta_get_44 : decode zb_Ta_get 44 = .ok (.arraylength, 1) := by decide +kernel
theorem d_Ta_get_45 : decode zb_Ta_get 45 = .ok (.if_icmp .ge 12, 3) := by decide +kernel
theorem d_Ta_get_48 : decode zb_Ta_get 48 = .ok (.aload_n 0, 1) := by decide +kernel
theorem d_Ta_get_49 : decode zb_Ta_get 49 = .ok (.getfield 19, 3) := by decide +kernel
theorem d_Ta_get_52 : decode zb_Ta_get 52 = .ok (.iload_n 3, 1) := by decide +kernel
theorem d_Ta_get_53 : decode zb_Ta_get 53 = .ok (.iaload, 1) := by decide +kernel
theorem d_Ta_get_54 : decode zb_Ta_get 54 = .ok (.goto 4, 3) := by decide +kernel
theorem d_Ta_get_57 : decode zb_Ta_get 57 = .ok (.iconst 0, 1) := by decide +kernel
theorem d_Ta_get_58 : decode zb_Ta_get 58 = .ok (.ireturn, 1) := by decide +kernel
def k_Ta_get (w : Int32) (n : Nat) (x : zsT) (l1 : Int32) (l2 : Int32) : Option (Int32) := (if l1 < 0 then some ((0 : Int32)) else (if l1 < x.2 then (if l2 < 0 then some ((0 : Int32)) else (if l2 < w then (if ((l1 * w) + l2) < 0 then some ((0 : Int32)) else (if ((l1 * w) + l2) < (Int32.ofNat n) then (if zOut (((l1 * w) + l2)) n then none else some ((x.1 (((l1 * w) + l2)).toNatClampNeg))) else some ((0 : Int32)))) else some ((0 : Int32)))) else some ((0 : Int32))))
set_option maxRecDepth 20000 in
theorem c_Ta_get (c : zY) (a0 a1 : Nat) (w : Int32) (n : Nat) (x : zsT) (l1 : Int32) (l2 : Int32) {out : Int32} (h : k_Ta_get w n x l1 l2 = some out) : KM zy_Ta_get zb_Ta_get 4 (some .int) 0 c [.ref a0, .int l1, .int l2] (zwT c a0 a1 w n x) (zwT c a0 a1 w n x) (some (.int out)) := zK_of zp_Ta rfl (Nat.le_of_ble_eq_true rfl) (zq_Ta c a0 a1 w n _ _) (fun X hX hR => by
  show Go X (zwT c a0 a1 w n x) [(0, .ref a0), (1, .int l1), (2, .int l2)] 0 []
  rw [k_Ta_get] at h
  refine g_iload_n (pc := 0) hX d_Ta_get_0 rfl 1 rfl ?_
  refine g_if_lt (pc := 1) (tgt := 24) hX d_Ta_get_1 (by decide) h (fun c1 h => ?_) (fun c1 h => ?_)
  · refine g_iconst (pc := 24) hX d_Ta_get_24 zc_0 ?_
    obtain rfl := Option.some.inj h
    exact g_iret (pc := 25) hX hR d_Ta_get_25
  · refine g_iload_n (pc := 4) hX d_Ta_get_4 rfl 1 rfl ?_
    refine g_aload_n (pc := 5) hX d_Ta_get_5 rfl 0 rfl ?_
    refine gf_Ta_23 (pc := 6) (v := .int x.2) hX 0 rfl rfl d_Ta_get_6 ?_
    refine g_icmp_ge (pc := 9) (tgt := 24) hX d_Ta_get_9 (by decide) h (fun c2 h => ?_) (fun c2 h => ?_)
    · refine g_iconst (pc := 24) hX d_Ta_get_24 zc_0 ?_
      obtain rfl := Option.some.inj h
      exact g_iret (pc := 25) hX hR d_Ta_get_25
    · refine g_iload_n (pc := 12) hX d_Ta_get_12 rfl 2 rfl ?_
      refine g_if_lt (pc := 13) (tgt := 24) hX d_Ta_get_13 (by decide) h (fun c3 h => ?_) (fun c3 h => ?_)
      · refine g_iconst (pc := 24) hX d_Ta_get_24 zc_0 ?_
        obtain rfl := Option.some.inj h
        exact g_iret (pc := 25) hX hR d_Ta_get_25
      · refine g_iload_n (pc := 16) hX d_Ta_get_16 rfl 2 rfl ?_
        refine g_aload_n (pc := 17) hX d_Ta_get_17 rfl 0 rfl ?_
        refine gf_Ta_7 (pc := 18) (v := .int w) hX 0 rfl rfl d_Ta_get_18 ?_
        refine g_icmp_lt (pc := 21) (tgt := 26) hX d_Ta_get_21 (by decide) h (fun c4 h => ?_) (fun c4 h => ?_)
        · refine g_iload_n (pc := 26) hX d_Ta_get_26 rfl 1 rfl ?_
          refine g_aload_n (pc := 27) hX d_Ta_get_27 rfl 0 rfl ?_
          refine gf_Ta_7 (pc := 28) (v := .int w) hX 0 rfl rfl d_Ta_get_28 ?_
          refine g_imul (pc := 31) hX d_Ta_get_31 ?_
          refine g_iload_n (pc := 32) hX d_Ta_get_32 rfl 2 rfl ?_
          refine g_iadd (pc := 33) hX d_Ta_get_33 ?_
          refine g_istore_n (pc := 34) (L' := [(3, .int (((l1 * w) + l2))), (0, .ref a0), (1, .int l1), (2, .int l2)]) hX d_Ta_get_34 rfl rfl rfl ?_
          refine g_iload_n (pc := 35) hX d_Ta_get_35 rfl 0 rfl ?_
          refine g_if_lt (pc := 36) (tgt := 57) hX d_Ta_get_36 (by decide) h (fun c5 h => ?_) (fun c5 h => ?_)
          · refine g_iconst (pc := 57) hX d_Ta_get_57 zc_0 ?_
            obtain rfl := Option.some.inj h
            exact g_iret (pc := 58) hX hR d_Ta_get_58
          · refine g_iload_n (pc := 39) hX d_Ta_get_39 rfl 0 rfl ?_
            refine g_aload_n (pc := 40) hX d_Ta_get_40 rfl 1 rfl ?_
            refine gf_Ta_19 (pc := 41) (v := .ref a1) hX 0 rfl rfl d_Ta_get_41 ?_
            refine g_alen (pc := 44) (v := (Int32.ofNat n)) hX 1 rfl rfl d_Ta_get_44 ?_
            refine g_icmp_ge (pc := 45) (tgt := 57) hX d_Ta_get_45 (by decide) h (fun c6 h => ?_) (fun c6 h => ?_)
            · refine g_iconst (pc := 57) hX d_Ta_get_57 zc_0 ?_
              obtain rfl := Option.some.inj h
              exact g_iret (pc := 58) hX hR d_Ta_get_58
            · refine g_aload_n (pc := 48) hX d_Ta_get_48 rfl 1 rfl ?_
              refine gf_Ta_19 (pc := 49) (v := .ref a1) hX 0 rfl rfl d_Ta_get_49 ?_
              refine g_iload_n (pc := 52) hX d_Ta_get_52 rfl 0 rfl ?_
              refine g_iald (pc := 53) (f := x.1) hX 1 rfl h d_Ta_get_53 (fun h => ?_)
              refine g_goto (pc := 54) (tgt := 58) hX d_Ta_get_54 (by decide) ?_
              obtain rfl := Option.some.inj h
              exact g_iret (pc := 58) hX hR d_Ta_get_58
        · refine g_iconst (pc := 24) hX d_Ta_get_24 zc_0 ?_
          obtain rfl := Option.some.inj h
          exact g_iret (pc := 25) hX hR d_Ta_get_25)
theorem d_Ta_set_0 : decode zb_Ta_set 0 = .ok (.iload_n 1, 1) := by decide +kernel
theorem d_Ta_set_1 : decode zb_Ta_set 1 = .ok (.ifCond .lt 23, 3) := by decide +kernel
theorem d_Ta_set_4 : decode zb_Ta_set 4 = .ok (.iload_n 1, 1) := by decide +kernel
theorem d_Ta_set_5 : decode zb_Ta_set 5 = .ok (.aload_n 0, 1) := by decide +kernel
theorem d_Ta_set_6 : decode zb_Ta_set 6 = .ok (.getfield 23, 3) := by decide +kernel
theorem d_Ta_set_9 : decode zb_Ta_set 9 = .ok (.if_icmp .ge 15, 3) := by decide +kernel
theorem d_Ta_set_12 : decode zb_Ta_set 12 = .ok (.iload_n 2, 1) := by decide +kernel
theorem d_Ta_set_13 : decode zb_Ta_set 13 = .ok (.ifCond .lt 11, 3) := by decide +kernel
theorem d_Ta_set_16 : decode zb_Ta_set 16 = .ok (.iload_n 2, 1) := by decide +kernel
theorem d_Ta_set_17 : decode zb_Ta_set 17 = .ok (.aload_n 0, 1) := by decide +kernel
theorem d_Ta_set_18 : decode zb_Ta_set 18 = .ok (.getfield 7, 3) := by decide +kernel
theorem d_Ta_set_21 : decode zb_Ta_set 21 = .ok (.if_icmp .lt 4, 3) := by decide +kernel
theorem d_Ta_set_24 : decode zb_Ta_set 24 = .ok (.return_, 1) := by decide +kernel
theorem d_Ta_set_25 : decode zb_Ta_set 25 = .ok (.iload_n 1, 1) := by decide +kernel
theorem d_Ta_set_26 : decode zb_Ta_set 26 = .ok (.aload_n 0, 1) := by decide +kernel
theorem d_Ta_set_27 : decode zb_Ta_set 27 = .ok (.getfield 7, 3) := by decide +kernel
theorem d_Ta_set_30 : decode zb_Ta_set 30 = .ok (.imul, 1) := by decide +kernel
theorem d_Ta_set_31 : decode zb_Ta_set 31 = .ok (.iload_n 2, 1) := by decide +kernel
theorem d_Ta_set_32 : decode zb_Ta_set 32 = .ok (.iadd, 1) := by decide +kernel
theorem d_Ta_set_33 : decode zb_Ta_set 33 = .ok (.istore 4, 2) := by decide +kernel
theorem d_Ta_set_35 : decode zb_Ta_set 35 = .ok (.iload 4, 2) := by decide +kernel
theorem d_Ta_set_37 : decode zb_Ta_set 37 = .ok (.ifCond .lt 21, 3) := by decide +kernel
theorem d_Ta_set_40 : decode zb_Ta_set 40 = .ok (.iload 4, 2) := by decide +kernel
theorem d_Ta_set_42 : decode zb_Ta_set 42 = .ok (.aload_n 0, 1) := by decide +kernel
theorem d_Ta_set_43 : decode zb_Ta_set 43 = .ok (.getfield 19, 3) := by decide +kernel
theorem d_Ta_set_46 : decode zb_Ta_set 46 = .ok (.arraylength, 1) := by decide +kernel
theorem d_Ta_set_47 : decode zb_Ta_set 47 = .ok (.if_icmp .ge 11, 3) := by decide +kernel
theorem d_Ta_set_50 : decode zb_Ta_set 50 = .ok (.aload_n 0, 1) := by decide +kernel
theorem d_Ta_set_51 : decode zb_Ta_set 51 = .ok (.getfield 19, 3) := by decide +kernel
theorem d_Ta_set_54 : decode zb_Ta_set 54 = .ok (.iload 4, 2) := by decide +kernel
theorem d_Ta_set_56 : decode zb_Ta_set 56 = .ok (.iload_n 3, 1) := by decide +kernel
theorem d_Ta_set_57 : decode zb_Ta_set 57 = .ok (.iastore, 1) := by decide +kernel
theorem d_Ta_set_58 : decode zb_Ta_set 58 = .ok (.return_, 1) := by decide +kernel
def k_Ta_set (w : Int32) (n : Nat) (x : zsT) (l1 : Int32) (l2 : Int32) (l3 : Int32) : Option (zsT) := (if l1 < 0 then some x else (if l1 < x.2 then (if l2 < 0 then some x else (if l2 < w then (if ((l1 * w) + l2) < 0 then some x else (if ((l1 * w) + l2) < (Int32.ofNat n) then (if zOut (((l1 * w) + l2)) n then none else some (((upd x.1 (((l1 * w) + l2)).toNatClampNeg l3), x.2))) else some x)) else some x)) else some x))
set_option maxRecDepth 20000 in
theorem c_Ta_set (c : zY) (a0 a1 : Nat) (w : Int32) (n : Nat) (x : zsT) (l1 : Int32) (l2 : Int32) (l3 : Int32) {out : zsT} (h : k_Ta_set w n x l1 l2 l3 = some out) : KM zy_Ta_set zb_Ta_set 5 none 0 c [.ref a0, .int l1, .int l2, .int l3] (zwT c a0 a1 w n x) (zwT c a0 a1 w n out) none := zK_of zp_Ta rfl (Nat.le_of_ble_eq_true rfl) (zq_Ta c a0 a1 w n _ _) (fun X hX hR => by
  show Go X (zwT c a0 a1 w n x) [(0, .ref a0), (1, .int l1), (2, .int l2), (3, .int l3)] 0 []
  rw [k_Ta_set] at h
  refine g_iload_n (pc := 0) hX d_Ta_set_0 rfl 1 rfl ?_
  refine g_if_lt (pc := 1) (tgt := 24) hX d_Ta_set_1 (by decide) h (fun c1 h => ?_) (fun c1 h => ?_)
  · obtain rfl := Option.some.inj h
    exact g_vret (pc := 24) hX hR d_Ta_set_24
  · refine g_iload_n (pc := 4) hX d_Ta_set_4 rfl 1 rfl ?_
    refine g_aload_n (pc := 5) hX d_Ta_set_5 rfl 0 rfl ?_
    refine gf_Ta_23 (pc := 6) (v := .int x.2) hX 0 rfl rfl d_Ta_set_6 ?_
    refine g_icmp_ge (pc := 9) (tgt := 24) hX d_Ta_set_9 (by decide) h (fun c2 h => ?_) (fun c2 h => ?_)
    · obtain rfl := Option.some.inj h
      exact g_vret (pc := 24) hX hR d_Ta_set_24
    · refine g_iload_n (pc := 12) hX d_Ta_set_12 rfl 2 rfl ?_
      refine g_if_lt (pc := 13) (tgt := 24) hX d_Ta_set_13 (by decide) h (fun c3 h => ?_) (fun c3 h => ?_)
      · obtain rfl := Option.some.inj h
        exact g_vret (pc := 24) hX hR d_Ta_set_24
      · refine g_iload_n (pc := 16) hX d_Ta_set_16 rfl 2 rfl ?_
        refine g_aload_n (pc := 17) hX d_Ta_set_17 rfl 0 rfl ?_
        refine gf_Ta_7 (pc := 18) (v := .int w) hX 0 rfl rfl d_Ta_set_18 ?_
        refine g_icmp_lt (pc := 21) (tgt := 25) hX d_Ta_set_21 (by decide) h (fun c4 h => ?_) (fun c4 h => ?_)
        · refine g_iload_n (pc := 25) hX d_Ta_set_25 rfl 1 rfl ?_
          refine g_aload_n (pc := 26) hX d_Ta_set_26 rfl 0 rfl ?_
          refine gf_Ta_7 (pc := 27) (v := .int w) hX 0 rfl rfl d_Ta_set_27 ?_
          refine g_imul (pc := 30) hX d_Ta_set_30 ?_
          refine g_iload_n (pc := 31) hX d_Ta_set_31 rfl 2 rfl ?_
          refine g_iadd (pc := 32) hX d_Ta_set_32 ?_
          refine g_istore (pc := 33) (L' := [(4, .int (((l1 * w) + l2))), (0, .ref a0), (1, .int l1), (2, .int l2), (3, .int l3)]) hX d_Ta_set_33 rfl rfl ?_
          refine g_iload (pc := 35) hX d_Ta_set_35 0 rfl ?_
          refine g_if_lt (pc := 37) (tgt := 58) hX d_Ta_set_37 (by decide) h (fun c5 h => ?_) (fun c5 h => ?_)
          · obtain rfl := Option.some.inj h
            exact g_vret (pc := 58) hX hR d_Ta_set_58
          · refine g_iload (pc := 40) hX d_Ta_set_40 0 rfl ?_
            refine g_aload_n (pc := 42) hX d_Ta_set_42 rfl 1 rfl ?_
            refine gf_Ta_19 (pc := 43) (v := .ref a1) hX 0 rfl rfl d_Ta_set_43 ?_
            refine g_alen (pc := 46) (v := (Int32.ofNat n)) hX 1 rfl rfl d_Ta_set_46 ?_
            refine g_icmp_ge (pc := 47) (tgt := 58) hX d_Ta_set_47 (by decide) h (fun c6 h => ?_) (fun c6 h => ?_)
            · obtain rfl := Option.some.inj h
              exact g_vret (pc := 58) hX hR d_Ta_set_58
            · refine g_aload_n (pc := 50) hX d_Ta_set_50 rfl 1 rfl ?_
              refine gf_Ta_19 (pc := 51) (v := .ref a1) hX 0 rfl rfl d_Ta_set_51 ?_
              refine g_iload (pc := 54) hX d_Ta_set_54 0 rfl ?_
              refine g_iload_n (pc := 56) hX d_Ta_set_56 rfl 4 rfl ?_
              refine g_iast (pc := 57) (f := x.1) (w' := (zwT c a0 a1 w n (((upd x.1 (((l1 * w) + l2)).toNatClampNeg l3), x.2)))) hX 1 rfl h (sa_Ta_1 c a0 a1 w n x (upd x.1 (((l1 * w) + l2)).toNatClampNeg l3)) d_Ta_set_57 (fun h => ?_)
              obtain rfl := Option.some.inj h
              exact g_vret (pc := 58) hX hR d_Ta_set_58
        · obtain rfl := Option.some.inj h
          exact g_vret (pc := 24) hX hR d_Ta_set_24)
theorem d_Ta_append_0 : decode zb_Ta_append 0 = .ok (.aload_n 0, 1) := by decide +kernel
theorem d_Ta_append_1 : decode zb_Ta_append 1 = .ok (.getfield 23, 3) := by decide +kernel
theorem d_Ta_append_4 : decode zb_Ta_append 4 = .ok (.aload_n 0, 1) := by decide +kernel
theorem d_Ta_append_5 : decode zb_Ta_append 5 = .ok (.getfield 7, 3) := by decide +kernel
theorem d_Ta_append_8 : decode zb_Ta_append 8 = .ok (.imul, 1) := by decide +kernel
theorem d_Ta_append_9 : decode zb_Ta_append 9 = .ok (.istore_n 1, 1) := by decide +kernel
theorem d_Ta_append_10 : decode zb_Ta_append 10 = .ok (.iload_n 1, 1) := by decide +kernel
theorem d_Ta_append_11 : decode zb_Ta_append 11 = .ok (.ifCond .lt 17, 3) := by decide +kernel
theorem d_Ta_append_14 : decode zb_Ta_append 14 = .ok (.iload_n 1, 1) := by decide +kernel
theorem d_Ta_append_15 : decode zb_Ta_append 15 = .ok (.aload_n 0, 1) := by decide +kernel
theorem d_Ta_append_16 : decode zb_Ta_append 16 = .ok (.getfield 7, 3) := by decide +kernel
theorem d_Ta_append_19 : decode zb_Ta_append 19 = .ok (.iadd, 1) := by decide +kernel
theorem d_Ta_append_20 : decode zb_Ta_append 20 = .ok (.aload_n 0, 1) := by decide +kernel
theorem d_Ta_append_21 : decode zb_Ta_append 21 = .ok (.getfield 19, 3) := by decide +kernel
theorem d_Ta_append_24 : decode zb_Ta_append 24 = .ok (.arraylength, 1) := by decide +kernel
theorem d_Ta_append_25 : decode zb_Ta_append 25 = .ok (.if_icmp .le 5, 3) := by decide +kernel
theorem d_Ta_append_28 : decode zb_Ta_append 28 = .ok (.iconst (-1), 1) := by decide +kernel
theorem d_Ta_append_29 : decode zb_Ta_append 29 = .ok (.ireturn, 1) := by decide +kernel
theorem d_Ta_append_30 : decode zb_Ta_append 30 = .ok (.iload_n 1, 1) := by decide +kernel
theorem d_Ta_append_31 : decode zb_Ta_append 31 = .ok (.istore_n 2, 1) := by decide +kernel
theorem d_Ta_append_32 : decode zb_Ta_append 32 = .ok (.iload_n 2, 1) := by decide +kernel
theorem d_Ta_append_33 : decode zb_Ta_append 33 = .ok (.iload_n 1, 1) := by decide +kernel
theorem d_Ta_append_34 : decode zb_Ta_append 34 = .ok (.aload_n 0, 1) := by decide +kernel
theorem d_Ta_append_35 : decode zb_Ta_append 35 = .ok (.getfield 7, 3) := by decide +kernel
theorem d_Ta_append_38 : decode zb_Ta_append 38 = .ok (.iadd, 1) := by decide +kernel
theorem d_Ta_append_39 : decode zb_Ta_append 39 = .ok (.if_icmp .ge 25, 3) := by decide +kernel
theorem d_Ta_append_42 : decode zb_Ta_append 42 = .ok (.iload_n 2, 1) := by decide +kernel
theorem d_Ta_append_43 : decode zb_Ta_append 43 = .ok (.aload_n 0, 1) := by decide +kernel
theorem d_Ta_append_44 : decode zb_Ta_append 44 = .ok (.getfield 19, 3) := by decide +kernel
theorem d_Ta_append_47 : decode zb_Ta_append 47 = .ok (.arraylength, 1) := by decide +kernel
theorem d_Ta_append_48 : decode zb_Ta_append 48 = .ok (.if_icmp .ge 16, 3) := by decide +kernel
theorem d_Ta_append_51 : decode zb_Ta_append 51 = .ok (.aload_n 0, 1) := by decide +kernel
theorem d_Ta_append_52 : decode zb_Ta_append 52 = .ok (.getfield 19, 3) := by decide +kernel
theorem d_Ta_append_55 : decode zb_Ta_append 55 = .ok (.iload_n 2, 1) := by decide +kernel
theorem d_Ta_append_56 : decode zb_Ta_append 56 = .ok (.iconst 0, 1) := by decide +kernel
theorem d_Ta_append_57 : decode zb_Ta_append 57 = .ok (.iastore, 1) := by decide +kernel
theorem d_Ta_append_58 : decode zb_Ta_append 58 = .ok (.iinc 2 1, 3) := by decide +kernel
theorem d_Ta_append_61 : decode zb_Ta_append 61 = .ok (.goto (-29), 3) := by decide +kernel
theorem d_Ta_append_64 : decode zb_Ta_append 64 = .ok (.aload_n 0, 1) := by decide +kernel
theorem d_Ta_append_65 : decode zb_Ta_append 65 = .ok (.dup, 1) := by decide +kernel
theorem d_Ta_append_66 : decode zb_Ta_append 66 = .ok (.getfield 23, 3) := by decide +kernel
theorem d_Ta_append_69 : decode zb_Ta_append 69 = .ok (.iconst 1, 1) := by decide +kernel
theorem d_Ta_append_70 : decode zb_Ta_append 70 = .ok (.iadd, 1) := by decide +kernel
theorem d_Ta_append_71 : decode zb_Ta_append 71 = .ok (.putfield 23, 3) := by decide +kernel
theorem d_Ta_append_74 : decode zb_Ta_append 74 = .ok (.aload_n 0, 1) := by decide +kernel
theorem d_Ta_append_75 : decode zb_Ta_append 75 = .ok (.getfield 23, 3) := by decide +kernel
theorem d_Ta_append_78 : decode zb_Ta_append 78 = .ok (.iconst 1, 1) := by decide +kernel
theorem d_Ta_append_79 : decode zb_Ta_append 79 = .ok (.isub, 1) := by decide +kernel
theorem d_Ta_append_80 : decode zb_Ta_append 80 = .ok (.ireturn, 1) := by decide +kernel
def k_Ta_append_64 (w : Int32) (n : Nat) (x : zsT) : Option (Int32 × zsT) := some (((x.2 + (1 : Int32)) - (1 : Int32)), (x.1, (x.2 + (1 : Int32))))
set_option maxRecDepth 20000 in
theorem w_Ta_append_64 {X : zX} {c : zY} {a0 a1 : Nat} {w : Int32} {n : Nat} {out : Int32 × zsT} (hX : Ok X zr_Ta zb_Ta_append 3 0 c) (hR : Rt X (some .int) (some (.int out.1)) (zwT c a0 a1 w n out.2)) : ∀ (x : zsT), k_Ta_append_64 w n x = some out → Go X (zwT c a0 a1 w n x) [(0, .ref a0)] 64 [] := by
  intro x h
  rw [k_Ta_append_64] at h
  refine g_aload_n (pc := 64) hX d_Ta_append_64 rfl 0 rfl ?_
  refine g_dup (pc := 65) hX d_Ta_append_65 rfl ?_
  refine gf_Ta_23 (pc := 66) (v := .int x.2) hX 0 rfl rfl d_Ta_append_66 ?_
  refine g_iconst (pc := 69) hX d_Ta_append_69 zc_1 ?_
  refine g_iadd (pc := 70) hX d_Ta_append_70 ?_
  refine pf_Ta_23 (pc := 71) (w2 := (zwT c a0 a1 w n ((x.1, (x.2 + (1 : Int32)))))) hX 0 rfl rfl (su_Ta_0_2 c a0 a1 w n x ((x.2 + (1 : Int32)))) d_Ta_append_71 ?_
  refine g_aload_n (pc := 74) hX d_Ta_append_74 rfl 0 rfl ?_
  refine gf_Ta_23 (pc := 75) (v := .int ((x.2 + (1 : Int32)))) hX 0 rfl rfl d_Ta_append_75 ?_
  refine g_iconst (pc := 78) hX d_Ta_append_78 zc_1 ?_
  refine g_isub (pc := 79) hX d_Ta_append_79 ?_
  obtain rfl := Option.some.inj h
  exact g_iret (pc := 80) hX hR d_Ta_append_80
def k_Ta_append_32 (w : Int32) (n : Nat) : Nat → Int32 → Int32 → zsT → Option (Int32 × zsT)
  | 0, _, _, _ => none
  | fu + 1, l1, l2, x => (if l2 < (l1 + w) then (if l2 < (Int32.ofNat n) then (if zOut l2 n then none else k_Ta_append_32 w n fu l1 ((l2 + (1 : Int32))) (((upd x.1 l2.toNatClampNeg ((0 : Int32))), x.2))) else k_Ta_append_64 w n x) else k_Ta_append_64 w n x)
set_option maxRecDepth 20000 in
theorem w_Ta_append_32 {X : zX} {c : zY} {a0 a1 : Nat} {w : Int32} {n : Nat} {out : Int32 × zsT} (hX : Ok X zr_Ta zb_Ta_append 3 0 c) (hR : Rt X (some .int) (some (.int out.1)) (zwT c a0 a1 w n out.2)) : ∀ (fu : Nat) (l1 : Int32) (l2 : Int32) (x : zsT), k_Ta_append_32 w n fu l1 l2 x = some out → Go X (zwT c a0 a1 w n x) [(0, .ref a0), (1, .int l1), (2, .int l2)] 32 [] := by
  intro fu
  induction fu with
  | zero => intro l1 l2 x h; rw [k_Ta_append_32] at h; cases h
  | succ fu ih =>
    intro l1 l2 x h
    rw [k_Ta_append_32] at h
    refine g_iload_n (pc := 32) hX d_Ta_append_32 rfl 2 rfl ?_
    refine g_iload_n (pc := 33) hX d_Ta_append_33 rfl 1 rfl ?_
    refine g_aload_n (pc := 34) hX d_Ta_append_34 rfl 0 rfl ?_
    refine gf_Ta_7 (pc := 35) (v := .int w) hX 0 rfl rfl d_Ta_append_35 ?_
    refine g_iadd (pc := 38) hX d_Ta_append_38 ?_
    refine g_icmp_ge (pc := 39) (tgt := 64) hX d_Ta_append_39 (by decide) h (fun c3 h => ?_) (fun c3 h => ?_)
    · refine g_ls (L' := [(0, .ref a0)]) [0] rfl ?_
      exact w_Ta_append_64 hX hR _ h
    · refine g_iload_n (pc := 42) hX d_Ta_append_42 rfl 2 rfl ?_
      refine g_aload_n (pc := 43) hX d_Ta_append_43 rfl 0 rfl ?_
      refine gf_Ta_19 (pc := 44) (v := .ref a1) hX 0 rfl rfl d_Ta_append_44 ?_
      refine g_alen (pc := 47) (v := (Int32.ofNat n)) hX 1 rfl rfl d_Ta_append_47 ?_
      refine g_icmp_ge (pc := 48) (tgt := 64) hX d_Ta_append_48 (by decide) h (fun c4 h => ?_) (fun c4 h => ?_)
      · refine g_ls (L' := [(0, .ref a0)]) [0] rfl ?_
        exact w_Ta_append_64 hX hR _ h
      · refine g_aload_n (pc := 51) hX d_Ta_append_51 rfl 0 rfl ?_
        refine gf_Ta_19 (pc := 52) (v := .ref a1) hX 0 rfl rfl d_Ta_append_52 ?_
        refine g_iload_n (pc := 55) hX d_Ta_append_55 rfl 2 rfl ?_
        refine g_iconst (pc := 56) hX d_Ta_append_56 zc_0 ?_
        refine g_iast (pc := 57) (f := x.1) (w' := (zwT c a0 a1 w n (((upd x.1 l2.toNatClampNeg ((0 : Int32))), x.2)))) hX 1 rfl h (sa_Ta_1 c a0 a1 w n x (upd x.1 l2.toNatClampNeg ((0 : Int32)))) d_Ta_append_57 (fun h => ?_)
        refine g_iinc (pc := 58) (q := 2) (L' := [(2, .int ((l2 + (1 : Int32)))), (0, .ref a0), (1, .int l1)]) hX d_Ta_append_58 rfl zc_1 rfl rfl ?_
        refine g_goto (pc := 61) (tgt := 32) hX d_Ta_append_61 (by decide) ?_
        refine g_ls (L' := [(0, .ref a0), (1, .int l1), (2, .int ((l2 + (1 : Int32))))]) [1, 2, 0] rfl ?_
        exact ih _ _ _ h
def k_Ta_append (w : Int32) (n : Nat) (x : zsT) : Option (Int32 × zsT) := (if (x.2 * w) < 0 then some ((-1 : Int32), x) else (if (Int32.ofNat n) < ((x.2 * w) + w) then some ((-1 : Int32), x) else k_Ta_append_32 w n zFu ((x.2 * w)) ((x.2 * w)) x))
set_option maxRecDepth 20000 in
theorem c_Ta_append (c : zY) (a0 a1 : Nat) (w : Int32) (n : Nat) (x : zsT) {out : Int32 × zsT} (h : k_Ta_append w n x = some out) : KM zy_Ta_append zb_Ta_append 3 (some .int) 0 c [.ref a0] (zwT c a0 a1 w n x) (zwT c a0 a1 w n out.2) (some (.int out.1)) := zK_of zp_Ta rfl (Nat.le_of_ble_eq_true rfl) (zq_Ta c a0 a1 w n _ _) (fun X hX hR => by
  show Go X (zwT c a0 a1 w n x) [(0, .ref a0)] 0 []
  rw [k_Ta_append] at h
  refine g_aload_n (pc := 0) hX d_Ta_append_0 rfl 0 rfl ?_
  refine gf_Ta_23 (pc := 1) (v := .int x.2) hX 0 rfl rfl d_Ta_append_1 ?_
  refine g_aload_n (pc := 4) hX d_Ta_append_4 rfl 0 rfl ?_
  refine gf_Ta_7 (pc := 5) (v := .int w) hX 0 rfl rfl d_Ta_append_5 ?_
  refine g_imul (pc := 8) hX d_Ta_append_8 ?_
  refine g_istore_n (pc := 9) (L' := [(1, .int ((x.2 * w))), (0, .ref a0)]) hX d_Ta_append_9 rfl rfl rfl ?_
  refine g_iload_n (pc := 10) hX d_Ta_append_10 rfl 0 rfl ?_
  refine g_if_lt (pc := 11) (tgt := 28) hX d_Ta_append_11 (by decide) h (fun c1 h => ?_) (fun c1 h => ?_)
  · refine g_iconst (pc := 28) hX d_Ta_append_28 zc_m1 ?_
    obtain rfl := Option.some.inj h
    exact g_iret (pc := 29) hX hR d_Ta_append_29
  · refine g_iload_n (pc := 14) hX d_Ta_append_14 rfl 0 rfl ?_
    refine g_aload_n (pc := 15) hX d_Ta_append_15 rfl 1 rfl ?_
    refine gf_Ta_7 (pc := 16) (v := .int w) hX 0 rfl rfl d_Ta_append_16 ?_
    refine g_iadd (pc := 19) hX d_Ta_append_19 ?_
    refine g_aload_n (pc := 20) hX d_Ta_append_20 rfl 1 rfl ?_
    refine gf_Ta_19 (pc := 21) (v := .ref a1) hX 0 rfl rfl d_Ta_append_21 ?_
    refine g_alen (pc := 24) (v := (Int32.ofNat n)) hX 1 rfl rfl d_Ta_append_24 ?_
    refine g_icmp_le (pc := 25) (tgt := 30) hX d_Ta_append_25 (by decide) h (fun c2 h => ?_) (fun c2 h => ?_)
    · refine g_iload_n (pc := 30) hX d_Ta_append_30 rfl 0 rfl ?_
      refine g_istore_n (pc := 31) (L' := [(2, .int ((x.2 * w))), (1, .int ((x.2 * w))), (0, .ref a0)]) hX d_Ta_append_31 rfl rfl rfl ?_
      refine g_ls (L' := [(0, .ref a0), (1, .int ((x.2 * w))), (2, .int ((x.2 * w)))]) [2, 1, 0] rfl ?_
      exact w_Ta_append_32 hX hR _ _ _ _ h
    · refine g_iconst (pc := 28) hX d_Ta_append_28 zc_m1 ?_
      obtain rfl := Option.some.inj h
      exact g_iret (pc := 29) hX hR d_Ta_append_29)
theorem d_Ta_copyRow_0 : decode zb_Ta_copyRow 0 = .ok (.iload_n 1, 1) := by decide +kernel
theorem d_Ta_copyRow_1 : decode zb_Ta_copyRow 1 = .ok (.aload_n 0, 1) := by decide +kernel
theorem d_Ta_copyRow_2 : decode zb_Ta_copyRow 2 = .ok (.getfield 7, 3) := by decide +kernel
theorem d_Ta_copyRow_5 : decode zb_Ta_copyRow 5 = .ok (.imul, 1) := by decide +kernel
theorem d_Ta_copyRow_6 : decode zb_Ta_copyRow 6 = .ok (.istore_n 3, 1) := by decide +kernel
theorem d_Ta_copyRow_7 : decode zb_Ta_copyRow 7 = .ok (.iload_n 2, 1) := by decide +kernel
theorem d_Ta_copyRow_8 : decode zb_Ta_copyRow 8 = .ok (.aload_n 0, 1) := by decide +kernel
theorem d_Ta_copyRow_9 : decode zb_Ta_copyRow 9 = .ok (.getfield 7, 3) := by decide +kernel
theorem d_Ta_copyRow_12 : decode zb_Ta_copyRow 12 = .ok (.imul, 1) := by decide +kernel
theorem d_Ta_copyRow_13 : decode zb_Ta_copyRow 13 = .ok (.istore 4, 2) := by decide +kernel
theorem d_Ta_copyRow_15 : decode zb_Ta_copyRow 15 = .ok (.iload_n 1, 1) := by decide +kernel
theorem d_Ta_copyRow_16 : decode zb_Ta_copyRow 16 = .ok (.ifCond .lt 65, 3) := by decide +kernel
theorem d_Ta_copyRow_19 : decode zb_Ta_copyRow 19 = .ok (.iload_n 1, 1) := by decide +kernel
theorem d_Ta_copyRow_20 : decode zb_Ta_copyRow 20 = .ok (.aload_n 0, 1) := by decide +kernel
theorem d_Ta_copyRow_21 : decode zb_Ta_copyRow 21 = .ok (.getfield 23, 3) := by decide +kernel
theorem d_Ta_copyRow_24 : decode zb_Ta_copyRow 24 = .ok (.if_icmp .ge 57, 3) := by decide +kernel
theorem d_Ta_copyRow_27 : decode zb_Ta_copyRow 27 = .ok (.iload_n 3, 1) := by decide +kernel
theorem d_Ta_copyRow_28 : decode zb_Ta_copyRow 28 = .ok (.ifCond .lt 53, 3) := by decide +kernel
theorem d_Ta_copyRow_31 : decode zb_Ta_copyRow 31 = .ok (.iload_n 3, 1) := by decide +kernel
theorem d_Ta_copyRow_32 : decode zb_Ta_copyRow 32 = .ok (.aload_n 0, 1) := by decide +kernel
theorem d_Ta_copyRow_33 : decode zb_Ta_copyRow 33 = .ok (.getfield 7, 3) := by decide +kernel
theorem d_Ta_copyRow_36 : decode zb_Ta_copyRow 36 = .ok (.iadd, 1) := by decide +kernel
theorem d_Ta_copyRow_37 : decode zb_Ta_copyRow 37 = .ok (.aload_n 0, 1) := by decide +kernel
theorem d_Ta_copyRow_38 : decode zb_Ta_copyRow 38 = .ok (.getfield 19, 3) := by decide +kernel
theorem d_Ta_copyRow_41 : decode zb_Ta_copyRow 41 = .ok (.arraylength, 1) := by decide +kernel
theorem d_Ta_copyRow_42 : decode zb_Ta_copyRow 42 = .ok (.if_icmp .gt 39, 3) := by decide +kernel
theorem d_Ta_copyRow_45 : decode zb_Ta_copyRow 45 = .ok (.iload_n 2, 1) := by decide +kernel
theorem d_Ta_copyRow_46 : decode zb_Ta_copyRow 46 = .ok (.ifCond .lt 35, 3) := by decide +kernel
theorem d_Ta_copyRow_49 : decode zb_Ta_copyRow 49 = .ok (.iload_n 2, 1) := by decide +kernel
theorem d_Ta_copyRow_50 : decode zb_Ta_copyRow 50 = .ok (.aload_n 0, 1) := by decide +kernel
theorem d_Ta_copyRow_51 : decode zb_Ta_copyRow 51 = .ok (.getfield 23, 3) := by decide +kernel
theorem d_Ta_copyRow_54 : decode zb_Ta_copyRow 54 = .ok (.if_icmp .ge 27, 3) := by decide +kernel
theorem d_Ta_copyRow_57 : decode zb_Ta_copyRow 57 = .ok (.iload 4, 2) := by decide +kernel
theorem d_Ta_copyRow_59 : decode zb_Ta_copyRow 59 = .ok (.ifCond .lt 22, 3) := by decide +kernel
theorem d_Ta_copyRow_62 : decode zb_Ta_copyRow 62 = .ok (.iload 4, 2) := by decide +kernel
theorem d_Ta_copyRow_64 : decode zb_Ta_copyRow 64 = .ok (.aload_n 0, 1) := by decide +kernel
theorem d_Ta_copyRow_65 : decode zb_Ta_copyRow 65 = .ok (.getfield 7, 3) := by decide +kernel
theorem d_Ta_copyRow_68 : decode zb_Ta_copyRow 68 = .ok (.iadd, 1) := by decide +kernel
theorem d_Ta_copyRow_69 : decode zb_Ta_copyRow 69 = .ok (.aload_n 0, 1) := by decide +kernel
theorem d_Ta_copyRow_70 : decode zb_Ta_copyRow 70 = .ok (.getfield 19, 3) := by decide +kernel
theorem d_Ta_copyRow_73 : decode zb_Ta_copyRow 73 = .ok (.arraylength, 1) := by decide +kernel
theorem d_Ta_copyRow_74 : decode zb_Ta_copyRow 74 = .ok (.if_icmp .gt 7, 3) := by decide +kernel
theorem d_Ta_copyRow_77 : decode zb_Ta_copyRow 77 = .ok (.iconst 1, 1) := by decide +kernel
theorem d_Ta_copyRow_78 : decode zb_Ta_copyRow 78 = .ok (.goto 4, 3) := by decide +kernel
theorem d_Ta_copyRow_81 : decode zb_Ta_copyRow 81 = .ok (.iconst 0, 1) := by decide +kernel
theorem d_Ta_copyRow_82 : decode zb_Ta_copyRow 82 = .ok (.istore 5, 2) := by decide +kernel
theorem d_Ta_copyRow_84 : decode zb_Ta_copyRow 84 = .ok (.iload 5, 2) := by decide +kernel
theorem d_Ta_copyRow_86 : decode zb_Ta_copyRow 86 = .ok (.ifCond .eq 26, 3) := by decide +kernel
theorem d_Ta_copyRow_89 : decode zb_Ta_copyRow 89 = .ok (.iload_n 1, 1) := by decide +kernel
theorem d_Ta_copyRow_90 : decode zb_Ta_copyRow 90 = .ok (.iload_n 2, 1) := by decide +kernel
theorem d_Ta_copyRow_91 : decode zb_Ta_copyRow 91 = .ok (.if_icmp .eq 21, 3) := by decide +kernel
theorem d_Ta_copyRow_94 : decode zb_Ta_copyRow 94 = .ok (.aload_n 0, 1) := by decide +kernel
theorem d_Ta_copyRow_95 : decode zb_Ta_copyRow 95 = .ok (.getfield 19, 3) := by decide +kernel
theorem d_Ta_copyRow_98 : decode zb_Ta_copyRow 98 = .ok (.iload_n 3, 1) := by decide +kernel
theorem d_Ta_copyRow_99 : decode zb_Ta_copyRow 99 = .ok (.aload_n 0, 1) := by decide +kernel
theorem d_Ta_copyRow_100 : decode zb_Ta_copyRow 100 = .ok (.getfield 19, 3) := by decide +kernel
theorem d_Ta_copyRow_103 : decode zb_Ta_copyRow 103 = .ok (.iload 4, 2) := by decide +kernel
theorem d_Ta_copyRow_105 : decode zb_Ta_copyRow 105 = .ok (.aload_n 0, 1) := by decide +kernel
theorem d_Ta_copyRow_106 : decode zb_Ta_copyRow 106 = .ok (.getfield 7, 3) := by decide +kernel
theorem d_Ta_copyRow_109 : decode zb_Ta_copyRow 109 = .ok (.invokestatic 26, 3) := by decide +kernel
theorem d_Ta_copyRow_112 : decode zb_Ta_copyRow 112 = .ok (.return_, 1) := by decide +kernel
def k_Ta_copyRow_82 (w : Int32) (n : Nat) (l1 : Int32) (l2 : Int32) (l3 : Int32) (l4 : Int32) (s0 : Int32) (x : zsT) : Option (zsT) := (if s0 = 0 then some x else (if l1 = l2 then some x else (if zOutC l3 l4 w n n then none else some (((va_cpy x.1 x.1 l3.toNatClampNeg l4.toNatClampNeg w.toNatClampNeg), x.2)))))
set_option maxRecDepth 20000 in
theorem w_Ta_copyRow_82 {X : zX} {c : zY} {a0 a1 : Nat} {w : Int32} {n : Nat} {l1 : Int32} {l2 : Int32} {out : zsT} (hX : Ok X zr_Ta zb_Ta_copyRow 6 1 c) (hR : Rt X none none (zwT c a0 a1 w n out)) : ∀ (l3 : Int32) (l4 : Int32) (s0 : Int32) (x : zsT), k_Ta_copyRow_82 w n l1 l2 l3 l4 s0 x = some out → Go X (zwT c a0 a1 w n x) [(0, .ref a0), (1, .int l1), (2, .int l2), (3, .int l3), (4, .int l4)] 82 [.int s0] := by
  intro l3 l4 s0 x h
  rw [k_Ta_copyRow_82] at h
  refine g_istore (pc := 82) (L' := [(5, .int s0), (0, .ref a0), (1, .int l1), (2, .int l2), (3, .int l3), (4, .int l4)]) hX d_Ta_copyRow_82 rfl rfl ?_
  refine g_iload (pc := 84) hX d_Ta_copyRow_84 0 rfl ?_
  refine g_if_eq (pc := 86) (tgt := 112) hX d_Ta_copyRow_86 (by decide) h (fun c2 h => ?_) (fun c2 h => ?_)
  · obtain rfl := Option.some.inj h
    exact g_vret (pc := 112) hX hR d_Ta_copyRow_112
  · refine g_iload_n (pc := 89) hX d_Ta_copyRow_89 rfl 2 rfl ?_
    refine g_iload_n (pc := 90) hX d_Ta_copyRow_90 rfl 3 rfl ?_
    refine g_icmp_eq (pc := 91) (tgt := 112) hX d_Ta_copyRow_91 (by decide) h (fun c3 h => ?_) (fun c3 h => ?_)
    · obtain rfl := Option.some.inj h
      exact g_vret (pc := 112) hX hR d_Ta_copyRow_112
    · refine g_aload_n (pc := 94) hX d_Ta_copyRow_94 rfl 1 rfl ?_
      refine gf_Ta_19 (pc := 95) (v := .ref a1) hX 0 rfl rfl d_Ta_copyRow_95 ?_
      refine g_iload_n (pc := 98) hX d_Ta_copyRow_98 rfl 4 rfl ?_
      refine g_aload_n (pc := 99) hX d_Ta_copyRow_99 rfl 1 rfl ?_
      refine gf_Ta_19 (pc := 100) (v := .ref a1) hX 0 rfl rfl d_Ta_copyRow_100 ?_
      refine g_iload (pc := 103) hX d_Ta_copyRow_103 5 rfl ?_
      refine g_aload_n (pc := 105) hX d_Ta_copyRow_105 rfl 1 rfl ?_
      refine gf_Ta_7 (pc := 106) (v := .int w) hX 0 rfl rfl d_Ta_copyRow_106 ?_
      refine g_copy (pc := 109) (f := x.1) (g := x.1) (w' := (zwT c a0 a1 w n (((va_cpy x.1 x.1 l3.toNatClampNeg l4.toNatClampNeg w.toNatClampNeg), x.2)))) hX zL_Ta_26 rfl rfl 1 1 rfl rfl h (sa_Ta_1 c a0 a1 w n x (va_cpy x.1 x.1 l3.toNatClampNeg l4.toNatClampNeg w.toNatClampNeg)) d_Ta_copyRow_109 (fun h => ?_)
      obtain rfl := Option.some.inj h
      exact g_vret (pc := 112) hX hR d_Ta_copyRow_112
def k_Ta_copyRow (w : Int32) (n : Nat) (x : zsT) (l1 : Int32) (l2 : Int32) : Option (zsT) := (if l1 < 0 then k_Ta_copyRow_82 w n l1 l2 ((l1 * w)) ((l2 * w)) ((0 : Int32)) x else (if l1 < x.2 then (if (l1 * w) < 0 then k_Ta_copyRow_82 w n l1 l2 ((l1 * w)) ((l2 * w)) ((0 : Int32)) x else (if (Int32.ofNat n) < ((l1 * w) + w) then k_Ta_copyRow_82 w n l1 l2 ((l1 * w)) ((l2 * w)) ((0 : Int32)) x else (if l2 < 0 then k_Ta_copyRow_82 w n l1 l2 ((l1 * w)) ((l2 * w)) ((0 : Int32)) x else (if l2 < x.2 then (if (l2 * w) < 0 then k_Ta_copyRow_82 w n l1 l2 ((l1 * w)) ((l2 * w)) ((0 : Int32)) x else (if (Int32.ofNat n) < ((l2 * w) + w) then k_Ta_copyRow_82 w n l1 l2 ((l1 * w)) ((l2 * w)) ((0 : Int32)) x else k_Ta_copyRow_82 w n l1 l2 ((l1 * w)) ((l2 * w)) ((1 : Int32)) x)) else k_Ta_copyRow_82 w n l1 l2 ((l1 * w)) ((l2 * w)) ((0 : Int32)) x)))) else k_Ta_copyRow_82 w n l1 l2 ((l1 * w)) ((l2 * w)) ((0 : Int32)) x))
set_option maxRecDepth 20000 in
theorem c_Ta_copyRow (c : zY) (a0 a1 : Nat) (w : Int32) (n : Nat) (x : zsT) (l1 : Int32) (l2 : Int32) {out : zsT} (h : k_Ta_copyRow w n x l1 l2 = some out) : KM zy_Ta_copyRow zb_Ta_copyRow 6 none 1 c [.ref a0, .int l1, .int l2] (zwT c a0 a1 w n x) (zwT c a0 a1 w n out) none := zK_of zp_Ta rfl (Nat.le_of_ble_eq_true rfl) (zq_Ta c a0 a1 w n _ _) (fun X hX hR => by
  show Go X (zwT c a0 a1 w n x) [(0, .ref a0), (1, .int l1), (2, .int l2)] 0 []
  rw [k_Ta_copyRow] at h
  refine g_iload_n (pc := 0) hX d_Ta_copyRow_0 rfl 1 rfl ?_
  refine g_aload_n (pc := 1) hX d_Ta_copyRow_1 rfl 0 rfl ?_
  refine gf_Ta_7 (pc := 2) (v := .int w) hX 0 rfl rfl d_Ta_copyRow_2 ?_
  refine g_imul (pc := 5) hX d_Ta_copyRow_5 ?_
  refine g_istore_n (pc := 6) (L' := [(3, .int ((l1 * w))), (0, .ref a0), (1, .int l1), (2, .int l2)]) hX d_Ta_copyRow_6 rfl rfl rfl ?_
  refine g_iload_n (pc := 7) hX d_Ta_copyRow_7 rfl 3 rfl ?_
  refine g_aload_n (pc := 8) hX d_Ta_copyRow_8 rfl 1 rfl ?_
  refine gf_Ta_7 (pc := 9) (v := .int w) hX 0 rfl rfl d_Ta_copyRow_9 ?_
  refine g_imul (pc := 12) hX d_Ta_copyRow_12 ?_
  refine g_istore (pc := 13) (L' := [(4, .int ((l2 * w))), (3, .int ((l1 * w))), (0, .ref a0), (1, .int l1), (2, .int l2)]) hX d_Ta_copyRow_13 rfl rfl ?_
  refine g_iload_n (pc := 15) hX d_Ta_copyRow_15 rfl 3 rfl ?_
  refine g_if_lt (pc := 16) (tgt := 81) hX d_Ta_copyRow_16 (by decide) h (fun c1 h => ?_) (fun c1 h => ?_)
  · refine g_iconst (pc := 81) hX d_Ta_copyRow_81 zc_0 ?_
    refine g_ls (L' := [(0, .ref a0), (1, .int l1), (2, .int l2), (3, .int ((l1 * w))), (4, .int ((l2 * w)))]) [2, 3, 4, 1, 0] rfl ?_
    exact w_Ta_copyRow_82 hX hR _ _ _ _ h
  · refine g_iload_n (pc := 19) hX d_Ta_copyRow_19 rfl 3 rfl ?_
    refine g_aload_n (pc := 20) hX d_Ta_copyRow_20 rfl 2 rfl ?_
    refine gf_Ta_23 (pc := 21) (v := .int x.2) hX 0 rfl rfl d_Ta_copyRow_21 ?_
    refine g_icmp_ge (pc := 24) (tgt := 81) hX d_Ta_copyRow_24 (by decide) h (fun c4 h => ?_) (fun c4 h => ?_)
    · refine g_iconst (pc := 81) hX d_Ta_copyRow_81 zc_0 ?_
      refine g_ls (L' := [(0, .ref a0), (1, .int l1), (2, .int l2), (3, .int ((l1 * w))), (4, .int ((l2 * w)))]) [2, 3, 4, 1, 0] rfl ?_
      exact w_Ta_copyRow_82 hX hR _ _ _ _ h
    · refine g_iload_n (pc := 27) hX d_Ta_copyRow_27 rfl 1 rfl ?_
      refine g_if_lt (pc := 28) (tgt := 81) hX d_Ta_copyRow_28 (by decide) h (fun c5 h => ?_) (fun c5 h => ?_)
      · refine g_iconst (pc := 81) hX d_Ta_copyRow_81 zc_0 ?_
        refine g_ls (L' := [(0, .ref a0), (1, .int l1), (2, .int l2), (3, .int ((l1 * w))), (4, .int ((l2 * w)))]) [2, 3, 4, 1, 0] rfl ?_
        exact w_Ta_copyRow_82 hX hR _ _ _ _ h
      · refine g_iload_n (pc := 31) hX d_Ta_copyRow_31 rfl 1 rfl ?_
        refine g_aload_n (pc := 32) hX d_Ta_copyRow_32 rfl 2 rfl ?_
        refine gf_Ta_7 (pc := 33) (v := .int w) hX 0 rfl rfl d_Ta_copyRow_33 ?_
        refine g_iadd (pc := 36) hX d_Ta_copyRow_36 ?_
        refine g_aload_n (pc := 37) hX d_Ta_copyRow_37 rfl 2 rfl ?_
        refine gf_Ta_19 (pc := 38) (v := .ref a1) hX 0 rfl rfl d_Ta_copyRow_38 ?_
        refine g_alen (pc := 41) (v := (Int32.ofNat n)) hX 1 rfl rfl d_Ta_copyRow_41 ?_
        refine g_icmp_gt (pc := 42) (tgt := 81) hX d_Ta_copyRow_42 (by decide) h (fun c6 h => ?_) (fun c6 h => ?_)
        · refine g_iconst (pc := 81) hX d_Ta_copyRow_81 zc_0 ?_
          refine g_ls (L' := [(0, .ref a0), (1, .int l1), (2, .int l2), (3, .int ((l1 * w))), (4, .int ((l2 * w)))]) [2, 3, 4, 1, 0] rfl ?_
          exact w_Ta_copyRow_82 hX hR _ _ _ _ h
        · refine g_iload_n (pc := 45) hX d_Ta_copyRow_45 rfl 4 rfl ?_
          refine g_if_lt (pc := 46) (tgt := 81) hX d_Ta_copyRow_46 (by decide) h (fun c7 h => ?_) (fun c7 h => ?_)
          · refine g_iconst (pc := 81) hX d_Ta_copyRow_81 zc_0 ?_
            refine g_ls (L' := [(0, .ref a0), (1, .int l1), (2, .int l2), (3, .int ((l1 * w))), (4, .int ((l2 * w)))]) [2, 3, 4, 1, 0] rfl ?_
            exact w_Ta_copyRow_82 hX hR _ _ _ _ h
          · refine g_iload_n (pc := 49) hX d_Ta_copyRow_49 rfl 4 rfl ?_
            refine g_aload_n (pc := 50) hX d_Ta_copyRow_50 rfl 2 rfl ?_
            refine gf_Ta_23 (pc := 51) (v := .int x.2) hX 0 rfl rfl d_Ta_copyRow_51 ?_
            refine g_icmp_ge (pc := 54) (tgt := 81) hX d_Ta_copyRow_54 (by decide) h (fun c8 h => ?_) (fun c8 h => ?_)
            · refine g_iconst (pc := 81) hX d_Ta_copyRow_81 zc_0 ?_
              refine g_ls (L' := [(0, .ref a0), (1, .int l1), (2, .int l2), (3, .int ((l1 * w))), (4, .int ((l2 * w)))]) [2, 3, 4, 1, 0] rfl ?_
              exact w_Ta_copyRow_82 hX hR _ _ _ _ h
            · refine g_iload (pc := 57) hX d_Ta_copyRow_57 0 rfl ?_
              refine g_if_lt (pc := 59) (tgt := 81) hX d_Ta_copyRow_59 (by decide) h (fun c9 h => ?_) (fun c9 h => ?_)
              · refine g_iconst (pc := 81) hX d_Ta_copyRow_81 zc_0 ?_
                refine g_ls (L' := [(0, .ref a0), (1, .int l1), (2, .int l2), (3, .int ((l1 * w))), (4, .int ((l2 * w)))]) [2, 3, 4, 1, 0] rfl ?_
                exact w_Ta_copyRow_82 hX hR _ _ _ _ h
              · refine g_iload (pc := 62) hX d_Ta_copyRow_62 0 rfl ?_
                refine g_aload_n (pc := 64) hX d_Ta_copyRow_64 rfl 2 rfl ?_
                refine gf_Ta_7 (pc := 65) (v := .int w) hX 0 rfl rfl d_Ta_copyRow_65 ?_
                refine g_iadd (pc := 68) hX d_Ta_copyRow_68 ?_
                refine g_aload_n (pc := 69) hX d_Ta_copyRow_69 rfl 2 rfl ?_
                refine gf_Ta_19 (pc := 70) (v := .ref a1) hX 0 rfl rfl d_Ta_copyRow_70 ?_
                refine g_alen (pc := 73) (v := (Int32.ofNat n)) hX 1 rfl rfl d_Ta_copyRow_73 ?_
                refine g_icmp_gt (pc := 74) (tgt := 81) hX d_Ta_copyRow_74 (by decide) h (fun c10 h => ?_) (fun c10 h => ?_)
                · refine g_iconst (pc := 81) hX d_Ta_copyRow_81 zc_0 ?_
                  refine g_ls (L' := [(0, .ref a0), (1, .int l1), (2, .int l2), (3, .int ((l1 * w))), (4, .int ((l2 * w)))]) [2, 3, 4, 1, 0] rfl ?_
                  exact w_Ta_copyRow_82 hX hR _ _ _ _ h
                · refine g_iconst (pc := 77) hX d_Ta_copyRow_77 zc_1 ?_
                  refine g_goto (pc := 78) (tgt := 82) hX d_Ta_copyRow_78 (by decide) ?_
                  refine g_ls (L' := [(0, .ref a0), (1, .int l1), (2, .int l2), (3, .int ((l1 * w))), (4, .int ((l2 * w)))]) [2, 3, 4, 1, 0] rfl ?_
                  exact w_Ta_copyRow_82 hX hR _ _ _ _ h)
theorem d_Ta_cut_0 : decode zb_Ta_cut 0 = .ok (.iload_n 1, 1) := by decide +kernel
theorem d_Ta_cut_1 : decode zb_Ta_cut 1 = .ok (.ifCond .lt 16, 3) := by decide +kernel
theorem d_Ta_cut_4 : decode zb_Ta_cut 4 = .ok (.iload_n 1, 1) := by decide +kernel
theorem d_Ta_cut_5 : decode zb_Ta_cut 5 = .ok (.aload_n 0, 1) := by decide +kernel
theorem d_Ta_cut_6 : decode zb_Ta_cut 6 = .ok (.getfield 23, 3) := by decide +kernel
theorem d_Ta_cut_9 : decode zb_Ta_cut 9 = .ok (.if_icmp .ge 8, 3) := by decide +kernel
theorem d_Ta_cut_12 : decode zb_Ta_cut 12 = .ok (.aload_n 0, 1) := by decide +kernel
theorem d_Ta_cut_13 : decode zb_Ta_cut 13 = .ok (.iload_n 1, 1) := by decide +kernel
theorem d_Ta_cut_14 : decode zb_Ta_cut 14 = .ok (.putfield 23, 3) := by decide +kernel
theorem d_Ta_cut_17 : decode zb_Ta_cut 17 = .ok (.return_, 1) := by decide +kernel
def k_Ta_cut (w : Int32) (n : Nat) (x : zsT) (l1 : Int32) : Option (zsT) := (if l1 < 0 then some x else (if l1 < x.2 then some ((x.1, l1)) else some x))
set_option maxRecDepth 20000 in
theorem c_Ta_cut (c : zY) (a0 a1 : Nat) (w : Int32) (n : Nat) (x : zsT) (l1 : Int32) {out : zsT} (h : k_Ta_cut w n x l1 = some out) : KM zy_Ta_cut zb_Ta_cut 2 none 0 c [.ref a0, .int l1] (zwT c a0 a1 w n x) (zwT c a0 a1 w n out) none := zK_of zp_Ta rfl (Nat.le_of_ble_eq_true rfl) (zq_Ta c a0 a1 w n _ _) (fun X hX hR => by
  show Go X (zwT c a0 a1 w n x) [(0, .ref a0), (1, .int l1)] 0 []
  rw [k_Ta_cut] at h
  refine g_iload_n (pc := 0) hX d_Ta_cut_0 rfl 1 rfl ?_
  refine g_if_lt (pc := 1) (tgt := 17) hX d_Ta_cut_1 (by decide) h (fun c1 h => ?_) (fun c1 h => ?_)
  · obtain rfl := Option.some.inj h
    exact g_vret (pc := 17) hX hR d_Ta_cut_17
  · refine g_iload_n (pc := 4) hX d_Ta_cut_4 rfl 1 rfl ?_
    refine g_aload_n (pc := 5) hX d_Ta_cut_5 rfl 0 rfl ?_
    refine gf_Ta_23 (pc := 6) (v := .int x.2) hX 0 rfl rfl d_Ta_cut_6 ?_
    refine g_icmp_ge (pc := 9) (tgt := 17) hX d_Ta_cut_9 (by decide) h (fun c2 h => ?_) (fun c2 h => ?_)
    · obtain rfl := Option.some.inj h
      exact g_vret (pc := 17) hX hR d_Ta_cut_17
    · refine g_aload_n (pc := 12) hX d_Ta_cut_12 rfl 0 rfl ?_
      refine g_iload_n (pc := 13) hX d_Ta_cut_13 rfl 1 rfl ?_
      refine pf_Ta_23 (pc := 14) (w2 := (zwT c a0 a1 w n ((x.1, l1)))) hX 0 rfl rfl (su_Ta_0_2 c a0 a1 w n x l1) d_Ta_cut_14 ?_
      obtain rfl := Option.some.inj h
      exact g_vret (pc := 17) hX hR d_Ta_cut_17)
theorem d_Jo_write_0 : decode zb_Jo_write 0 = .ok (.aload_n 0, 1) := by decide +kernel
theorem d_Jo_write_1 : decode zb_Jo_write 1 = .ok (.getfield 15, 3) := by decide +kernel
theorem d_Jo_write_4 : decode zb_Jo_write 4 = .ok (.iconst 3, 1) := by decide +kernel
theorem d_Jo_write_5 : decode zb_Jo_write 5 = .ok (.imul, 1) := by decide +kernel
theorem d_Jo_write_6 : decode zb_Jo_write 6 = .ok (.istore 4, 2) := by decide +kernel
theorem d_Jo_write_8 : decode zb_Jo_write 8 = .ok (.aload_n 0, 1) := by decide +kernel
theorem d_Jo_write_9 : decode zb_Jo_write 9 = .ok (.getfield 15, 3) := by decide +kernel
theorem d_Jo_write_12 : decode zb_Jo_write 12 = .ok (.sipush 300, 3) := by decide +kernel
theorem d_Jo_write_15 : decode zb_Jo_write 15 = .ok (.if_icmp .ge 50, 3) := by decide +kernel
theorem d_Jo_write_18 : decode zb_Jo_write 18 = .ok (.iload 4, 2) := by decide +kernel
theorem d_Jo_write_20 : decode zb_Jo_write 20 = .ok (.ifCond .lt 45, 3) := by decide +kernel
theorem d_Jo_write_23 : decode zb_Jo_write 23 = .ok (.iload 4, 2) := by decide +kernel
theorem d_Jo_write_25 : decode zb_Jo_write 25 = .ok (.iconst 2, 1) := by decide +kernel
theorem d_Jo_write_26 : decode zb_Jo_write 26 = .ok (.iadd, 1) := by decide +kernel
theorem d_Jo_write_27 : decode zb_Jo_write 27 = .ok (.aload_n 0, 1) := by decide +kernel
theorem d_Jo_write_28 : decode zb_Jo_write 28 = .ok (.getfield 11, 3) := by decide +kernel
theorem d_Jo_write_31 : decode zb_Jo_write 31 = .ok (.arraylength, 1) := by decide +kernel
theorem d_Jo_write_32 : decode zb_Jo_write 32 = .ok (.if_icmp .ge 33, 3) := by decide +kernel
theorem d_Jo_write_35 : decode zb_Jo_write 35 = .ok (.aload_n 0, 1) := by decide +kernel
theorem d_Jo_write_36 : decode zb_Jo_write 36 = .ok (.getfield 11, 3) := by decide +kernel
theorem d_Jo_write_39 : decode zb_Jo_write 39 = .ok (.iload 4, 2) := by decide +kernel
theorem d_Jo_write_41 : decode zb_Jo_write 41 = .ok (.iconst 0, 1) := by decide +kernel
theorem d_Jo_write_42 : decode zb_Jo_write 42 = .ok (.iadd, 1) := by decide +kernel
theorem d_Jo_write_43 : decode zb_Jo_write 43 = .ok (.iload_n 1, 1) := by decide +kernel
theorem d_Jo_write_44 : decode zb_Jo_write 44 = .ok (.iastore, 1) := by decide +kernel
theorem d_Jo_write_45 : decode zb_Jo_write 45 = .ok (.aload_n 0, 1) := by decide +kernel
theorem d_Jo_write_46 : decode zb_Jo_write 46 = .ok (.getfield 11, 3) := by decide +kernel
theorem d_Jo_write_49 : decode zb_Jo_write 49 = .ok (.iload 4, 2) := by decide +kernel
theorem d_Jo_write_51 : decode zb_Jo_write 51 = .ok (.iconst 1, 1) := by decide +kernel
theorem d_Jo_write_52 : decode zb_Jo_write 52 = .ok (.iadd, 1) := by decide +kernel
theorem d_Jo_write_53 : decode zb_Jo_write 53 = .ok (.iload_n 2, 1) := by decide +kernel
theorem d_Jo_write_54 : decode zb_Jo_write 54 = .ok (.iastore, 1) := by decide +kernel
theorem d_Jo_write_55 : decode zb_Jo_write 55 = .ok (.aload_n 0, 1) := by decide +kernel
theorem d_Jo_write_56 : decode zb_Jo_write 56 = .ok (.getfield 11, 3) := by decide +kernel
theorem d_Jo_write_59 : decode zb_Jo_write 59 = .ok (.iload 4, 2) := by decide +kernel
theorem d_Jo_write_61 : decode zb_Jo_write 61 = .ok (.iconst 2, 1) := by decide +kernel
theorem d_Jo_write_62 : decode zb_Jo_write 62 = .ok (.iadd, 1) := by decide +kernel
theorem d_Jo_write_63 : decode zb_Jo_write 63 = .ok (.iload_n 3, 1) := by decide +kernel
theorem d_Jo_write_64 : decode zb_Jo_write 64 = .ok (.iastore, 1) := by decide +kernel
theorem d_Jo_write_65 : decode zb_Jo_write 65 = .ok (.aload_n 0, 1) := by decide +kernel
theorem d_Jo_write_66 : decode zb_Jo_write 66 = .ok (.dup, 1) := by decide +kernel
theorem d_Jo_write_67 : decode zb_Jo_write 67 = .ok (.getfield 15, 3) := by decide +kernel
theorem d_Jo_write_70 : decode zb_Jo_write 70 = .ok (.iconst 1, 1) := by decide +kernel
theorem d_Jo_write_71 : decode zb_Jo_write 71 = .ok (.iadd, 1) := by decide +kernel
theorem d_Jo_write_72 : decode zb_Jo_write 72 = .ok (.putfield 15, 3) := by decide +kernel
theorem d_Jo_write_75 : decode zb_Jo_write 75 = .ok (.return_, 1) := by decide +kernel
def k_Jo_write (x : zsT) (l1 : Int32) (l2 : Int32) (l3 : Int32) : Option (zsT) := (if x.2 < (300 : Int32) then (if (x.2 * (3 : Int32)) < 0 then some ((x.1, (x.2 + (1 : Int32)))) else (if ((x.2 * (3 : Int32)) + (2 : Int32)) < (900 : Int32) then (if zOut (((x.2 * (3 : Int32)) + (0 : Int32))) 900 then none else (if zOut (((x.2 * (3 : Int32)) + (1 : Int32))) 900 then none else (if zOut (((x.2 * (3 : Int32)) + (2 : Int32))) 900 then none else some (((upd ((upd ((upd x.1 (((x.2 * (3 : Int32)) + (0 : Int32))).toNatClampNeg l1)) (((x.2 * (3 : Int32)) + (1 : Int32))).toNatClampNeg l2)) (((x.2 * (3 : Int32)) + (2 : Int32))).toNatClampNeg l3), (x.2 + (1 : Int32))))))) else some ((x.1, (x.2 + (1 : Int32)))))) else some ((x.1, (x.2 + (1 : Int32)))))
set_option maxRecDepth 20000 in
theorem c_Jo_write (c : zY) (q : Nat → Nat) (x : zsT) (l1 : Int32) (l2 : Int32) (l3 : Int32) {out : zsT} (h : k_Jo_write x l1 l2 l3 = some out) : KM zy_Jo_write zb_Jo_write 5 none 0 c [.ref ((q 0)), .int l1, .int l2, .int l3] (zwJ c q x) (zwJ c q out) none := zK_of zp_Jo rfl (Nat.le_of_ble_eq_true rfl) (zq_Jo c q _ _) (fun X hX hR => by
  show Go X (zwJ c q x) [(0, .ref ((q 0))), (1, .int l1), (2, .int l2), (3, .int l3)] 0 []
  rw [k_Jo_write] at h
  refine g_aload_n (pc := 0) hX d_Jo_write_0 rfl 0 rfl ?_
  refine gf_Jo_15 (pc := 1) (v := .int x.2) hX 0 rfl rfl d_Jo_write_1 ?_
  refine g_iconst (pc := 4) hX d_Jo_write_4 zc_3 ?_
  refine g_imul (pc := 5) hX d_Jo_write_5 ?_
  refine g_istore (pc := 6) (L' := [(4, .int ((x.2 * (3 : Int32)))), (0, .ref ((q 0))), (1, .int l1), (2, .int l2), (3, .int l3)]) hX d_Jo_write_6 rfl rfl ?_
  refine g_aload_n (pc := 8) hX d_Jo_write_8 rfl 1 rfl ?_
  refine gf_Jo_15 (pc := 9) (v := .int x.2) hX 0 rfl rfl d_Jo_write_9 ?_
  refine g_sipush (pc := 12) hX d_Jo_write_12 zh_300 ?_
  refine g_icmp_ge (pc := 15) (tgt := 65) hX d_Jo_write_15 (by decide) h (fun c1 h => ?_) (fun c1 h => ?_)
  · refine g_aload_n (pc := 65) hX d_Jo_write_65 rfl 1 rfl ?_
    refine g_dup (pc := 66) hX d_Jo_write_66 rfl ?_
    refine gf_Jo_15 (pc := 67) (v := .int x.2) hX 0 rfl rfl d_Jo_write_67 ?_
    refine g_iconst (pc := 70) hX d_Jo_write_70 zc_1 ?_
    refine g_iadd (pc := 71) hX d_Jo_write_71 ?_
    refine pf_Jo_15 (pc := 72) (w2 := (zwJ c q ((x.1, (x.2 + (1 : Int32)))))) hX 0 rfl rfl (su_Jo_0_1 c q x ((x.2 + (1 : Int32)))) d_Jo_write_72 ?_
    obtain rfl := Option.some.inj h
    exact g_vret (pc := 75) hX hR d_Jo_write_75
  · refine g_iload (pc := 18) hX d_Jo_write_18 0 rfl ?_
    refine g_if_lt (pc := 20) (tgt := 65) hX d_Jo_write_20 (by decide) h (fun c2 h => ?_) (fun c2 h => ?_)
    · refine g_aload_n (pc := 65) hX d_Jo_write_65 rfl 1 rfl ?_
      refine g_dup (pc := 66) hX d_Jo_write_66 rfl ?_
      refine gf_Jo_15 (pc := 67) (v := .int x.2) hX 0 rfl rfl d_Jo_write_67 ?_
      refine g_iconst (pc := 70) hX d_Jo_write_70 zc_1 ?_
      refine g_iadd (pc := 71) hX d_Jo_write_71 ?_
      refine pf_Jo_15 (pc := 72) (w2 := (zwJ c q ((x.1, (x.2 + (1 : Int32)))))) hX 0 rfl rfl (su_Jo_0_1 c q x ((x.2 + (1 : Int32)))) d_Jo_write_72 ?_
      obtain rfl := Option.some.inj h
      exact g_vret (pc := 75) hX hR d_Jo_write_75
    · refine g_iload (pc := 23) hX d_Jo_write_23 0 rfl ?_
      refine g_iconst (pc := 25) hX d_Jo_write_25 zc_2 ?_
      refine g_iadd (pc := 26) hX d_Jo_write_26 ?_
      refine g_aload_n (pc := 27) hX d_Jo_write_27 rfl 1 rfl ?_
      refine gf_Jo_11 (pc := 28) (v := .ref ((q 1))) hX 0 rfl rfl d_Jo_write_28 ?_
      refine g_alen (pc := 31) (v := (900 : Int32)) hX 1 rfl rfl d_Jo_write_31 ?_
      refine g_icmp_ge (pc := 32) (tgt := 65) hX d_Jo_write_32 (by decide) h (fun c3 h => ?_) (fun c3 h => ?_)
      · refine g_aload_n (pc := 65) hX d_Jo_write_65 rfl 1 rfl ?_
        refine g_dup (pc := 66) hX d_Jo_write_66 rfl ?_
        refine gf_Jo_15 (pc := 67) (v := .int x.2) hX 0 rfl rfl d_Jo_write_67 ?_
        refine g_iconst (pc := 70) hX d_Jo_write_70 zc_1 ?_
        refine g_iadd (pc := 71) hX d_Jo_write_71 ?_
        refine pf_Jo_15 (pc := 72) (w2 := (zwJ c q ((x.1, (x.2 + (1 : Int32)))))) hX 0 rfl rfl (su_Jo_0_1 c q x ((x.2 + (1 : Int32)))) d_Jo_write_72 ?_
        obtain rfl := Option.some.inj h
        exact g_vret (pc := 75) hX hR d_Jo_write_75
      · refine g_aload_n (pc := 35) hX d_Jo_write_35 rfl 1 rfl ?_
        refine gf_Jo_11 (pc := 36) (v := .ref ((q 1))) hX 0 rfl rfl d_Jo_write_36 ?_
        refine g_iload (pc := 39) hX d_Jo_write_39 0 rfl ?_
        refine g_iconst (pc := 41) hX d_Jo_write_41 zc_0 ?_
        refine g_iadd (pc := 42) hX d_Jo_write_42 ?_
        refine g_iload_n (pc := 43) hX d_Jo_write_43 rfl 2 rfl ?_
        refine g_iast (pc := 44) (f := x.1) (w' := (zwJ c q (((upd x.1 (((x.2 * (3 : Int32)) + (0 : Int32))).toNatClampNeg l1), x.2)))) hX 1 rfl h (sa_Jo_1 c q x (upd x.1 (((x.2 * (3 : Int32)) + (0 : Int32))).toNatClampNeg l1)) d_Jo_write_44 (fun h => ?_)
        refine g_aload_n (pc := 45) hX d_Jo_write_45 rfl 1 rfl ?_
        refine gf_Jo_11 (pc := 46) (v := .ref ((q 1))) hX 0 rfl rfl d_Jo_write_46 ?_
        refine g_iload (pc := 49) hX d_Jo_write_49 0 rfl ?_
        refine g_iconst (pc := 51) hX d_Jo_write_51 zc_1 ?_
        refine g_iadd (pc := 52) hX d_Jo_write_52 ?_
        refine g_iload_n (pc := 53) hX d_Jo_write_53 rfl 3 rfl ?_
        refine g_iast (pc := 54) (f := (upd x.1 (((x.2 * (3 : Int32)) + (0 : Int32))).toNatClampNeg l1)) (w' := (zwJ c q (((upd ((upd x.1 (((x.2 * (3 : Int32)) + (0 : Int32))).toNatClampNeg l1)) (((x.2 * (3 : Int32)) + (1 : Int32))).toNatClampNeg l2), x.2)))) hX 1 rfl h (sa_Jo_1 c q (((upd x.1 (((x.2 * (3 : Int32)) + (0 : Int32))).toNatClampNeg l1), x.2)) (upd ((upd x.1 (((x.2 * (3 : Int32)) + (0 : Int32))).toNatClampNeg l1)) (((x.2 * (3 : Int32)) + (1 : Int32))).toNatClampNeg l2)) d_Jo_write_54 (fun h => ?_)
        refine g_aload_n (pc := 55) hX d_Jo_write_55 rfl 1 rfl ?_
        refine gf_Jo_11 (pc := 56) (v := .ref ((q 1))) hX 0 rfl rfl d_Jo_write_56 ?_
        refine g_iload (pc := 59) hX d_Jo_write_59 0 rfl ?_
        refine g_iconst (pc := 61) hX d_Jo_write_61 zc_2 ?_
        refine g_iadd (pc := 62) hX d_Jo_write_62 ?_
        refine g_iload_n (pc := 63) hX d_Jo_write_63 rfl 4 rfl ?_
        refine g_iast (pc := 64) (f := (upd ((upd x.1 (((x.2 * (3 : Int32)) + (0 : Int32))).toNatClampNeg l1)) (((x.2 * (3 : Int32)) + (1 : Int32))).toNatClampNeg l2)) (w' := (zwJ c q (((upd ((upd ((upd x.1 (((x.2 * (3 : Int32)) + (0 : Int32))).toNatClampNeg l1)) (((x.2 * (3 : Int32)) + (1 : Int32))).toNatClampNeg l2)) (((x.2 * (3 : Int32)) + (2 : Int32))).toNatClampNeg l3), x.2)))) hX 1 rfl h (sa_Jo_1 c q (((upd ((upd x.1 (((x.2 * (3 : Int32)) + (0 : Int32))).toNatClampNeg l1)) (((x.2 * (3 : Int32)) + (1 : Int32))).toNatClampNeg l2), x.2)) (upd ((upd ((upd x.1 (((x.2 * (3 : Int32)) + (0 : Int32))).toNatClampNeg l1)) (((x.2 * (3 : Int32)) + (1 : Int32))).toNatClampNeg l2)) (((x.2 * (3 : Int32)) + (2 : Int32))).toNatClampNeg l3)) d_Jo_write_64 (fun h => ?_)
        refine g_aload_n (pc := 65) hX d_Jo_write_65 rfl 1 rfl ?_
        refine g_dup (pc := 66) hX d_Jo_write_66 rfl ?_
        refine gf_Jo_15 (pc := 67) (v := .int x.2) hX 0 rfl rfl d_Jo_write_67 ?_
        refine g_iconst (pc := 70) hX d_Jo_write_70 zc_1 ?_
        refine g_iadd (pc := 71) hX d_Jo_write_71 ?_
        refine pf_Jo_15 (pc := 72) (w2 := (zwJ c q (((upd ((upd ((upd x.1 (((x.2 * (3 : Int32)) + (0 : Int32))).toNatClampNeg l1)) (((x.2 * (3 : Int32)) + (1 : Int32))).toNatClampNeg l2)) (((x.2 * (3 : Int32)) + (2 : Int32))).toNatClampNeg l3), (x.2 + (1 : Int32)))))) hX 0 rfl rfl (su_Jo_0_1 c q (((upd ((upd ((upd x.1 (((x.2 * (3 : Int32)) + (0 : Int32))).toNatClampNeg l1)) (((x.2 * (3 : Int32)) + (1 : Int32))).toNatClampNeg l2)) (((x.2 * (3 : Int32)) + (2 : Int32))).toNatClampNeg l3), x.2)) ((x.2 + (1 : Int32)))) d_Jo_write_72 ?_
        obtain rfl := Option.some.inj h
        exact g_vret (pc := 75) hX hR d_Jo_write_75)
theorem d_Jo_keeps_0 : decode zb_Jo_keeps 0 = .ok (.iload_n 1, 1) := by decide +kernel
theorem d_Jo_keeps_1 : decode zb_Jo_keeps 1 = .ok (.ifCond .lt 22, 3) := by decide +kernel
theorem d_Jo_keeps_4 : decode zb_Jo_keeps 4 = .ok (.iload_n 1, 1) := by decide +kernel
theorem d_Jo_keeps_5 : decode zb_Jo_keeps 5 = .ok (.aload_n 0, 1) := by decide +kernel
theorem d_Jo_keeps_6 : decode zb_Jo_keeps 6 = .ok (.getfield 15, 3) := by decide +kernel
theorem d_Jo_keeps_9 : decode zb_Jo_keeps 9 = .ok (.if_icmp .ge 14, 3) := by decide +kernel
theorem d_Jo_keeps_12 : decode zb_Jo_keeps 12 = .ok (.iload_n 1, 1) := by decide +kernel
theorem d_Jo_keeps_13 : decode zb_Jo_keeps 13 = .ok (.sipush 300, 3) := by decide +kernel
theorem d_Jo_keeps_16 : decode zb_Jo_keeps 16 = .ok (.if_icmp .ge 7, 3) := by decide +kernel
theorem d_Jo_keeps_19 : decode zb_Jo_keeps 19 = .ok (.iconst 1, 1) := by decide +kernel
theorem d_Jo_keeps_20 : decode zb_Jo_keeps 20 = .ok (.goto 4, 3) := by decide +kernel
theorem d_Jo_keeps_23 : decode zb_Jo_keeps 23 = .ok (.iconst 0, 1) := by decide +kernel
theorem d_Jo_keeps_24 : decode zb_Jo_keeps 24 = .ok (.ireturn, 1) := by decide +kernel
def k_Jo_keeps (x : zsT) (l1 : Int32) : Option (Int32) := (if l1 < 0 then some ((0 : Int32)) else (if l1 < x.2 then (if l1 < (300 : Int32) then some ((1 : Int32)) else some ((0 : Int32))) else some ((0 : Int32))))
set_option maxRecDepth 20000 in
theorem c_Jo_keeps (c : zY) (q : Nat → Nat) (x : zsT) (l1 : Int32) {out : Int32} (h : k_Jo_keeps x l1 = some out) : KM zy_Jo_keeps zb_Jo_keeps 2 (some .boolean) 0 c [.ref ((q 0)), .int l1] (zwJ c q x) (zwJ c q x) (some (.int out)) := zK_of zp_Jo rfl (Nat.le_of_ble_eq_true rfl) (zq_Jo c q _ _) (fun X hX hR => by
  show Go X (zwJ c q x) [(0, .ref ((q 0))), (1, .int l1)] 0 []
  rw [k_Jo_keeps] at h
  refine g_iload_n (pc := 0) hX d_Jo_keeps_0 rfl 1 rfl ?_
  refine g_if_lt (pc := 1) (tgt := 23) hX d_Jo_keeps_1 (by decide) h (fun c1 h => ?_) (fun c1 h => ?_)
  · refine g_iconst (pc := 23) hX d_Jo_keeps_23 zc_0 ?_
    obtain rfl := Option.some.inj h
    exact g_zret (pc := 24) hX hR (Or.inl rfl) d_Jo_keeps_24
  · refine g_iload_n (pc := 4) hX d_Jo_keeps_4 rfl 1 rfl ?_
    refine g_aload_n (pc := 5) hX d_Jo_keeps_5 rfl 0 rfl ?_
    refine gf_Jo_15 (pc := 6) (v := .int x.2) hX 0 rfl rfl d_Jo_keeps_6 ?_
    refine g_icmp_ge (pc := 9) (tgt := 23) hX d_Jo_keeps_9 (by decide) h (fun c2 h => ?_) (fun c2 h => ?_)
    · refine g_iconst (pc := 23) hX d_Jo_keeps_23 zc_0 ?_
      obtain rfl := Option.some.inj h
      exact g_zret (pc := 24) hX hR (Or.inl rfl) d_Jo_keeps_24
    · refine g_iload_n (pc := 12) hX d_Jo_keeps_12 rfl 1 rfl ?_
      refine g_sipush (pc := 13) hX d_Jo_keeps_13 zh_300 ?_
      refine g_icmp_ge (pc := 16) (tgt := 23) hX d_Jo_keeps_16 (by decide) h (fun c3 h => ?_) (fun c3 h => ?_)
      · refine g_iconst (pc := 23) hX d_Jo_keeps_23 zc_0 ?_
        obtain rfl := Option.some.inj h
        exact g_zret (pc := 24) hX hR (Or.inl rfl) d_Jo_keeps_24
      · refine g_iconst (pc := 19) hX d_Jo_keeps_19 zc_1 ?_
        refine g_goto (pc := 20) (tgt := 24) hX d_Jo_keeps_20 (by decide) ?_
        obtain rfl := Option.some.inj h
        exact g_zret (pc := 24) hX hR (Or.inr rfl) d_Jo_keeps_24)
theorem d_Jo_keepsAll_0 : decode zb_Jo_keepsAll 0 = .ok (.aload_n 0, 1) := by decide +kernel
theorem d_Jo_keepsAll_1 : decode zb_Jo_keepsAll 1 = .ok (.getfield 15, 3) := by decide +kernel
theorem d_Jo_keepsAll_4 : decode zb_Jo_keepsAll 4 = .ok (.sipush 300, 3) := by decide +kernel
theorem d_Jo_keepsAll_7 : decode zb_Jo_keepsAll 7 = .ok (.if_icmp .gt 7, 3) := by decide +kernel
theorem d_Jo_keepsAll_10 : decode zb_Jo_keepsAll 10 = .ok (.iconst 1, 1) := by decide +kernel
theorem d_Jo_keepsAll_11 : decode zb_Jo_keepsAll 11 = .ok (.goto 4, 3) := by decide +kernel
theorem d_Jo_keepsAll_14 : decode zb_Jo_keepsAll 14 = .ok (.iconst 0, 1) := by decide +kernel
theorem d_Jo_keepsAll_15 : decode zb_Jo_keepsAll 15 = .ok (.ireturn, 1) := by decide +kernel
def k_Jo_keepsAll (x : zsT) : Option (Int32) := (if (300 : Int32) < x.2 then some ((0 : Int32)) else some ((1 : Int32)))
set_option maxRecDepth 20000 in
theorem c_Jo_keepsAll (c : zY) (q : Nat → Nat) (x : zsT) {out : Int32} (h : k_Jo_keepsAll x = some out) : KM zy_Jo_keepsAll zb_Jo_keepsAll 1 (some .boolean) 0 c [.ref ((q 0))] (zwJ c q x) (zwJ c q x) (some (.int out)) := zK_of zp_Jo rfl (Nat.le_of_ble_eq_true rfl) (zq_Jo c q _ _) (fun X hX hR => by
  show Go X (zwJ c q x) [(0, .ref ((q 0)))] 0 []
  rw [k_Jo_keepsAll] at h
  refine g_aload_n (pc := 0) hX d_Jo_keepsAll_0 rfl 0 rfl ?_
  refine gf_Jo_15 (pc := 1) (v := .int x.2) hX 0 rfl rfl d_Jo_keepsAll_1 ?_
  refine g_sipush (pc := 4) hX d_Jo_keepsAll_4 zh_300 ?_
  refine g_icmp_gt (pc := 7) (tgt := 14) hX d_Jo_keepsAll_7 (by decide) h (fun c1 h => ?_) (fun c1 h => ?_)
  · refine g_iconst (pc := 14) hX d_Jo_keepsAll_14 zc_0 ?_
    obtain rfl := Option.some.inj h
    exact g_zret (pc := 15) hX hR (Or.inl rfl) d_Jo_keepsAll_15
  · refine g_iconst (pc := 10) hX d_Jo_keepsAll_10 zc_1 ?_
    refine g_goto (pc := 11) (tgt := 15) hX d_Jo_keepsAll_11 (by decide) ?_
    obtain rfl := Option.some.inj h
    exact g_zret (pc := 15) hX hR (Or.inr rfl) d_Jo_keepsAll_15)
theorem d_Jo_at_0 : decode zb_Jo_at 0 = .ok (.iload_n 1, 1) := by decide +kernel
theorem d_Jo_at_1 : decode zb_Jo_at 1 = .ok (.ifCond .lt 27, 3) := by decide +kernel
theorem d_Jo_at_4 : decode zb_Jo_at 4 = .ok (.iload_n 1, 1) := by decide +kernel
theorem d_Jo_at_5 : decode zb_Jo_at 5 = .ok (.aload_n 0, 1) := by decide +kernel
theorem d_Jo_at_6 : decode zb_Jo_at 6 = .ok (.getfield 15, 3) := by decide +kernel
theorem d_Jo_at_9 : decode zb_Jo_at 9 = .ok (.if_icmp .ge 19, 3) := by decide +kernel
theorem d_Jo_at_12 : decode zb_Jo_at 12 = .ok (.iload_n 1, 1) := by decide +kernel
theorem d_Jo_at_13 : decode zb_Jo_at 13 = .ok (.sipush 300, 3) := by decide +kernel
theorem d_Jo_at_16 : decode zb_Jo_at 16 = .ok (.if_icmp .ge 12, 3) := by decide +kernel
theorem d_Jo_at_19 : decode zb_Jo_at 19 = .ok (.iload_n 2, 1) := by decide +kernel
theorem d_Jo_at_20 : decode zb_Jo_at 20 = .ok (.ifCond .lt 8, 3) := by decide +kernel
theorem d_Jo_at_23 : decode zb_Jo_at 23 = .ok (.iload_n 2, 1) := by decide +kernel
theorem d_Jo_at_24 : decode zb_Jo_at 24 = .ok (.iconst 3, 1) := by decide +kernel
theorem d_Jo_at_25 : decode zb_Jo_at 25 = .ok (.if_icmp .lt 5, 3) := by decide +kernel
theorem d_Jo_at_28 : decode zb_Jo_at 28 = .ok (.iconst 0, 1) := by decide +kernel
theorem d_Jo_at_29 : decode zb_Jo_at 29 = .ok (.ireturn, 1) := by decide +kernel
theorem d_Jo_at_30 : decode zb_Jo_at 30 = .ok (.iload_n 1, 1) := by decide +kernel
theorem d_Jo_at_31 : decode zb_Jo_at 31 = .ok (.iconst 3, 1) := by decide +kernel
theorem d_Jo_at_32 : decode zb_Jo_at 32 = .ok (.imul, 1) := by decide +kernel
theorem d_Jo_at_33 : decode zb_Jo_at 33 = .ok (.iload_n 2, 1) := by decide +kernel
theorem d_Jo_at_34 : decode zb_Jo_at 34 = .ok (.iadd, 1) := by decide +kernel
theorem d_Jo_at_35 : decode zb_Jo_at 35 = .ok (.istore_n 3, 1) := by decide +kernel
theorem d_Jo_at_36 : decode zb_Jo_at 36 = .ok (.iload_n 3, 1) := by decide +kernel
theorem d_Jo_at_37 : decode zb_Jo_at 37 = .ok (.aload_n 0, 1) := by decide +kernel
theorem d_Jo_at_38 : decode zb_Jo_at 38 = .ok (.getfield 11, 3) := by decide +kernel
theorem d_Jo_at_41 : decode zb_Jo_at 41 = .ok (.arraylength, 1) := by decide +kernel
theorem d_Jo_at_42 : decode zb_Jo_at 42 = .ok (.if_icmp .ge 12, 3) := by decide +kernel
theorem d_Jo_at_45 : decode zb_Jo_at 45 = .ok (.aload_n 0, 1) := by decide +kernel
theorem d_Jo_at_46 : decode zb_Jo_at 46 = .ok (.getfield 11, 3) := by decide +kernel
theorem d_Jo_at_49 : decode zb_Jo_at 49 = .ok (.iload_n 3, 1) := by decide +kernel
theorem d_Jo_at_50 : decode zb_Jo_at 50 = .ok (.iaload, 1) := by decide +kernel
theorem d_Jo_at_51 : decode zb_Jo_at 51 = .ok (.goto 4, 3) := by decide +kernel
theorem d_Jo_at_54 : decode zb_Jo_at 54 = .ok (.iconst 0, 1) := by decide +kernel
theorem d_Jo_at_55 : decode zb_Jo_at 55 = .ok (.ireturn, 1) := by decide +kernel
def k_Jo_at (x : zsT) (l1 : Int32) (l2 : Int32) : Option (Int32) := (if l1 < 0 then some ((0 : Int32)) else (if l1 < x.2 then (if l1 < (300 : Int32) then (if l2 < 0 then some ((0 : Int32)) else (if l2 < (3 : Int32) then (if ((l1 * (3 : Int32)) + l2) < (900 : Int32) then (if zOut (((l1 * (3 : Int32)) + l2)) 900 then none else some ((x.1 (((l1 * (3 : Int32)) + l2)).toNatClampNeg))) else some ((0 : Int32))) else some ((0 : Int32)))) else some ((0 : Int32))) else some ((0 : Int32))))
set_option maxRecDepth 20000 in
theorem c_Jo_at (c : zY) (q : Nat → Nat) (x : zsT) (l1 : Int32) (l2 : Int32) {out : Int32} (h : k_Jo_at x l1 l2 = some out) : KM zy_Jo_at zb_Jo_at 4 (some .int) 0 c [.ref ((q 0)), .int l1, .int l2] (zwJ c q x) (zwJ c q x) (some (.int out)) := zK_of zp_Jo rfl (Nat.le_of_ble_eq_true rfl) (zq_Jo c q _ _) (fun X hX hR => by
  show Go X (zwJ c q x) [(0, .ref ((q 0))), (1, .int l1), (2, .int l2)] 0 []
  rw [k_Jo_at] at h
  refine g_iload_n (pc := 0) hX d_Jo_at_0 rfl 1 rfl ?_
  refine g_if_lt (pc := 1) (tgt := 28) hX d_Jo_at_1 (by decide) h (fun c1 h => ?_) (fun c1 h => ?_)
  · refine g_iconst (pc := 28) hX d_Jo_at_28 zc_0 ?_
    obtain rfl := Option.some.inj h
    exact g_iret (pc := 29) hX hR d_Jo_at_29
  · refine g_iload_n (pc := 4) hX d_Jo_at_4 rfl 1 rfl ?_
    refine g_aload_n (pc := 5) hX d_Jo_at_5 rfl 0 rfl ?_
    refine gf_Jo_15 (pc := 6) (v := .int x.2) hX 0 rfl rfl d_Jo_at_6 ?_
    refine g_icmp_ge (pc := 9) (tgt := 28) hX d_Jo_at_9 (by decide) h (fun c2 h => ?_) (fun c2 h => ?_)
    · refine g_iconst (pc := 28) hX d_Jo_at_28 zc_0 ?_
      obtain rfl := Option.some.inj h
      exact g_iret (pc := 29) hX hR d_Jo_at_29
    · refine g_iload_n (pc := 12) hX d_Jo_at_12 rfl 1 rfl ?_
      refine g_sipush (pc := 13) hX d_Jo_at_13 zh_300 ?_
      refine g_icmp_ge (pc := 16) (tgt := 28) hX d_Jo_at_16 (by decide) h (fun c3 h => ?_) (fun c3 h => ?_)
      · refine g_iconst (pc := 28) hX d_Jo_at_28 zc_0 ?_
        obtain rfl := Option.some.inj h
        exact g_iret (pc := 29) hX hR d_Jo_at_29
      · refine g_iload_n (pc := 19) hX d_Jo_at_19 rfl 2 rfl ?_
        refine g_if_lt (pc := 20) (tgt := 28) hX d_Jo_at_20 (by decide) h (fun c4 h => ?_) (fun c4 h => ?_)
        · refine g_iconst (pc := 28) hX d_Jo_at_28 zc_0 ?_
          obtain rfl := Option.some.inj h
          exact g_iret (pc := 29) hX hR d_Jo_at_29
        · refine g_iload_n (pc := 23) hX d_Jo_at_23 rfl 2 rfl ?_
          refine g_iconst (pc := 24) hX d_Jo_at_24 zc_3 ?_
          refine g_icmp_lt (pc := 25) (tgt := 30) hX d_Jo_at_25 (by decide) h (fun c5 h => ?_) (fun c5 h => ?_)
          · refine g_iload_n (pc := 30) hX d_Jo_at_30 rfl 1 rfl ?_
            refine g_iconst (pc := 31) hX d_Jo_at_31 zc_3 ?_
            refine g_imul (pc := 32) hX d_Jo_at_32 ?_
            refine g_iload_n (pc := 33) hX d_Jo_at_33 rfl 2 rfl ?_
            refine g_iadd (pc := 34) hX d_Jo_at_34 ?_
            refine g_istore_n (pc := 35) (L' := [(3, .int (((l1 * (3 : Int32)) + l2))), (0, .ref ((q 0))), (1, .int l1), (2, .int l2)]) hX d_Jo_at_35 rfl rfl rfl ?_
            refine g_iload_n (pc := 36) hX d_Jo_at_36 rfl 0 rfl ?_
            refine g_aload_n (pc := 37) hX d_Jo_at_37 rfl 1 rfl ?_
            refine gf_Jo_11 (pc := 38) (v := .ref ((q 1))) hX 0 rfl rfl d_Jo_at_38 ?_
            refine g_alen (pc := 41) (v := (900 : Int32)) hX 1 rfl rfl d_Jo_at_41 ?_
            refine g_icmp_ge (pc := 42) (tgt := 54) hX d_Jo_at_42 (by decide) h (fun c6 h => ?_) (fun c6 h => ?_)
            · refine g_iconst (pc := 54) hX d_Jo_at_54 zc_0 ?_
              obtain rfl := Option.some.inj h
              exact g_iret (pc := 55) hX hR d_Jo_at_55
            · refine g_aload_n (pc := 45) hX d_Jo_at_45 rfl 1 rfl ?_
              refine gf_Jo_11 (pc := 46) (v := .ref ((q 1))) hX 0 rfl rfl d_Jo_at_46 ?_
              refine g_iload_n (pc := 49) hX d_Jo_at_49 rfl 0 rfl ?_
              refine g_iald (pc := 50) (f := x.1) hX 1 rfl h d_Jo_at_50 (fun h => ?_)
              refine g_goto (pc := 51) (tgt := 55) hX d_Jo_at_51 (by decide) ?_
              obtain rfl := Option.some.inj h
              exact g_iret (pc := 55) hX hR d_Jo_at_55
          · refine g_iconst (pc := 28) hX d_Jo_at_28 zc_0 ?_
            obtain rfl := Option.some.inj h
            exact g_iret (pc := 29) hX hR d_Jo_at_29)
theorem d_Jo_tells_0 : decode zb_Jo_tells 0 = .ok (.aload_n 0, 1) := by decide +kernel
theorem d_Jo_tells_1 : decode zb_Jo_tells 1 = .ok (.iload_n 1, 1) := by decide +kernel
theorem d_Jo_tells_2 : decode zb_Jo_tells 2 = .ok (.iconst 0, 1) := by decide +kernel
theorem d_Jo_tells_3 : decode zb_Jo_tells 3 = .ok (.invokevirtual 19, 3) := by decide +kernel
theorem d_Jo_tells_6 : decode zb_Jo_tells 6 = .ok (.iload_n 2, 1) := by decide +kernel
theorem d_Jo_tells_7 : decode zb_Jo_tells 7 = .ok (.if_icmp .ne 17, 3) := by decide +kernel
theorem d_Jo_tells_10 : decode zb_Jo_tells 10 = .ok (.aload_n 0, 1) := by decide +kernel
theorem d_Jo_tells_11 : decode zb_Jo_tells 11 = .ok (.iload_n 1, 1) := by decide +kernel
theorem d_Jo_tells_12 : decode zb_Jo_tells 12 = .ok (.iconst 1, 1) := by decide +kernel
theorem d_Jo_tells_13 : decode zb_Jo_tells 13 = .ok (.invokevirtual 19, 3) := by decide +kernel
theorem d_Jo_tells_16 : decode zb_Jo_tells 16 = .ok (.iload_n 3, 1) := by decide +kernel
theorem d_Jo_tells_17 : decode zb_Jo_tells 17 = .ok (.if_icmp .ne 7, 3) := by decide +kernel
theorem d_Jo_tells_20 : decode zb_Jo_tells 20 = .ok (.iconst 1, 1) := by decide +kernel
theorem d_Jo_tells_21 : decode zb_Jo_tells 21 = .ok (.goto 4, 3) := by decide +kernel
theorem d_Jo_tells_24 : decode zb_Jo_tells 24 = .ok (.iconst 0, 1) := by decide +kernel
theorem d_Jo_tells_25 : decode zb_Jo_tells 25 = .ok (.ireturn, 1) := by decide +kernel
def k_Jo_tells (x : zsT) (l1 : Int32) (l2 : Int32) (l3 : Int32) : Option (Int32) := (k_Jo_at x l1 ((0 : Int32))).bind fun o1 => (if o1 = l2 then (k_Jo_at x l1 ((1 : Int32))).bind fun o3 => (if o3 = l3 then some ((1 : Int32)) else some ((0 : Int32))) else some ((0 : Int32)))
set_option maxRecDepth 20000 in
theorem c_Jo_tells (c : zY) (q : Nat → Nat) (x : zsT) (l1 : Int32) (l2 : Int32) (l3 : Int32) {out : Int32} (h : k_Jo_tells x l1 l2 l3 = some out) : KM zy_Jo_tells zb_Jo_tells 4 (some .boolean) 1 c [.ref ((q 0)), .int l1, .int l2, .int l3] (zwJ c q x) (zwJ c q x) (some (.int out)) := zK_of zp_Jo rfl (Nat.le_of_ble_eq_true rfl) (zq_Jo c q _ _) (fun X hX hR => by
  show Go X (zwJ c q x) [(0, .ref ((q 0))), (1, .int l1), (2, .int l2), (3, .int l3)] 0 []
  rw [k_Jo_tells] at h
  refine g_aload_n (pc := 0) hX d_Jo_tells_0 rfl 0 rfl ?_
  refine g_iload_n (pc := 1) hX d_Jo_tells_1 rfl 1 rfl ?_
  refine g_iconst (pc := 2) hX d_Jo_tells_2 zc_0 ?_
  obtain ⟨o1, e1, h⟩ := zbind h
  refine g_cvI (pc := 3) (w1 := []) (w2 := []) (st := []) (w' := (zwJ c q x)) hX zk_Jo_at zs_Jo_at zL_Jo_19 (c_Jo_at c q x l1 ((0 : Int32)) e1) rfl rfl rfl rfl (zself _) (zself _).symm 0 4 rfl rfl rfl d_Jo_tells_3 ?_
  refine g_iload_n (pc := 6) hX d_Jo_tells_6 rfl 2 rfl ?_
  refine g_icmp_ne (pc := 7) (tgt := 24) hX d_Jo_tells_7 (by decide) h (fun c2 h => ?_) (fun c2 h => ?_)
  · refine g_iconst (pc := 24) hX d_Jo_tells_24 zc_0 ?_
    obtain rfl := Option.some.inj h
    exact g_zret (pc := 25) hX hR (Or.inl rfl) d_Jo_tells_25
  · refine g_aload_n (pc := 10) hX d_Jo_tells_10 rfl 0 rfl ?_
    refine g_iload_n (pc := 11) hX d_Jo_tells_11 rfl 1 rfl ?_
    refine g_iconst (pc := 12) hX d_Jo_tells_12 zc_1 ?_
    obtain ⟨o3, e3, h⟩ := zbind h
    refine g_cvI (pc := 13) (w1 := []) (w2 := []) (st := []) (w' := (zwJ c q x)) hX zk_Jo_at zs_Jo_at zL_Jo_19 (c_Jo_at c q x l1 ((1 : Int32)) e3) rfl rfl rfl rfl (zself _) (zself _).symm 0 4 rfl rfl rfl d_Jo_tells_13 ?_
    refine g_iload_n (pc := 16) hX d_Jo_tells_16 rfl 3 rfl ?_
    refine g_icmp_ne (pc := 17) (tgt := 24) hX d_Jo_tells_17 (by decide) h (fun c4 h => ?_) (fun c4 h => ?_)
    · refine g_iconst (pc := 24) hX d_Jo_tells_24 zc_0 ?_
      obtain rfl := Option.some.inj h
      exact g_zret (pc := 25) hX hR (Or.inl rfl) d_Jo_tells_25
    · refine g_iconst (pc := 20) hX d_Jo_tells_20 zc_1 ?_
      refine g_goto (pc := 21) (tgt := 25) hX d_Jo_tells_21 (by decide) ?_
      obtain rfl := Option.some.inj h
      exact g_zret (pc := 25) hX hR (Or.inr rfl) d_Jo_tells_25)
theorem d_Jo_numberOf_0 : decode zb_Jo_numberOf 0 = .ok (.iconst 0, 1) := by decide +kernel
theorem d_Jo_numberOf_1 : decode zb_Jo_numberOf 1 = .ok (.istore_n 3, 1) := by decide +kernel
theorem d_Jo_numberOf_2 : decode zb_Jo_numberOf 2 = .ok (.iconst 0, 1) := by decide +kernel
theorem d_Jo_numberOf_3 : decode zb_Jo_numberOf 3 = .ok (.istore 4, 2) := by decide +kernel
theorem d_Jo_numberOf_5 : decode zb_Jo_numberOf 5 = .ok (.iload 4, 2) := by decide +kernel
theorem d_Jo_numberOf_7 : decode zb_Jo_numberOf 7 = .ok (.aload_n 0, 1) := by decide +kernel
theorem d_Jo_numberOf_8 : decode zb_Jo_numberOf 8 = .ok (.getfield 15, 3) := by decide +kernel
theorem d_Jo_numberOf_11 : decode zb_Jo_numberOf 11 = .ok (.if_icmp .ge 31, 3) := by decide +kernel
theorem d_Jo_numberOf_14 : decode zb_Jo_numberOf 14 = .ok (.iload 4, 2) := by decide +kernel
theorem d_Jo_numberOf_16 : decode zb_Jo_numberOf 16 = .ok (.sipush 300, 3) := by decide +kernel
theorem d_Jo_numberOf_19 : decode zb_Jo_numberOf 19 = .ok (.if_icmp .ge 23, 3) := by decide +kernel
theorem d_Jo_numberOf_22 : decode zb_Jo_numberOf 22 = .ok (.aload_n 0, 1) := by decide +kernel
theorem d_Jo_numberOf_23 : decode zb_Jo_numberOf 23 = .ok (.iload 4, 2) := by decide +kernel
theorem d_Jo_numberOf_25 : decode zb_Jo_numberOf 25 = .ok (.iload_n 1, 1) := by decide +kernel
theorem d_Jo_numberOf_26 : decode zb_Jo_numberOf 26 = .ok (.iload_n 2, 1) := by decide +kernel
theorem d_Jo_numberOf_27 : decode zb_Jo_numberOf 27 = .ok (.invokevirtual 23, 3) := by decide +kernel
theorem d_Jo_numberOf_30 : decode zb_Jo_numberOf 30 = .ok (.ifCond .eq 6, 3) := by decide +kernel
theorem d_Jo_numberOf_33 : decode zb_Jo_numberOf 33 = .ok (.iinc 3 1, 3) := by decide +kernel
theorem d_Jo_numberOf_36 : decode zb_Jo_numberOf 36 = .ok (.iinc 4 1, 3) := by decide +kernel
theorem d_Jo_numberOf_39 : decode zb_Jo_numberOf 39 = .ok (.goto (-34), 3) := by decide +kernel
theorem d_Jo_numberOf_42 : decode zb_Jo_numberOf 42 = .ok (.iload_n 3, 1) := by decide +kernel
theorem d_Jo_numberOf_43 : decode zb_Jo_numberOf 43 = .ok (.ireturn, 1) := by decide +kernel
def k_Jo_numberOf_5 (x : zsT) (l1 : Int32) (l2 : Int32) : Nat → Int32 → Int32 → Option (Int32)
  | 0, _, _ => none
  | fu + 1, l3, l4 => (if l4 < x.2 then (if l4 < (300 : Int32) then (k_Jo_tells x l4 l1 l2).bind fun o3 => (if o3 = 0 then k_Jo_numberOf_5 x l1 l2 fu l3 ((l4 + (1 : Int32))) else k_Jo_numberOf_5 x l1 l2 fu ((l3 + (1 : Int32))) ((l4 + (1 : Int32)))) else some l3) else some l3)
set_option maxRecDepth 20000 in
theorem w_Jo_numberOf_5 {X : zX} {c : zY} {q : Nat → Nat} {x : zsT} {l1 : Int32} {l2 : Int32} {out : Int32} (hX : Ok X zr_Jo zb_Jo_numberOf 5 2 c) (hR : Rt X (some .int) (some (.int out)) (zwJ c q x)) : ∀ (fu : Nat) (l3 : Int32) (l4 : Int32), k_Jo_numberOf_5 x l1 l2 fu l3 l4 = some out → Go X (zwJ c q x) [(0, .ref ((q 0))), (1, .int l1), (2, .int l2), (3, .int l3), (4, .int l4)] 5 [] := by
  intro fu
  induction fu with
  | zero => intro l3 l4 h; rw [k_Jo_numberOf_5] at h; cases h
  | succ fu ih =>
    intro l3 l4 h
    rw [k_Jo_numberOf_5] at h
    refine g_iload (pc := 5) hX d_Jo_numberOf_5 4 rfl ?_
    refine g_aload_n (pc := 7) hX d_Jo_numberOf_7 rfl 0 rfl ?_
    refine gf_Jo_15 (pc := 8) (v := .int x.2) hX 0 rfl rfl d_Jo_numberOf_8 ?_
    refine g_icmp_ge (pc := 11) (tgt := 42) hX d_Jo_numberOf_11 (by decide) h (fun c1 h => ?_) (fun c1 h => ?_)
    · refine g_iload_n (pc := 42) hX d_Jo_numberOf_42 rfl 3 rfl ?_
      obtain rfl := Option.some.inj h
      exact g_iret (pc := 43) hX hR d_Jo_numberOf_43
    · refine g_iload (pc := 14) hX d_Jo_numberOf_14 4 rfl ?_
      refine g_sipush (pc := 16) hX d_Jo_numberOf_16 zh_300 ?_
      refine g_icmp_ge (pc := 19) (tgt := 42) hX d_Jo_numberOf_19 (by decide) h (fun c2 h => ?_) (fun c2 h => ?_)
      · refine g_iload_n (pc := 42) hX d_Jo_numberOf_42 rfl 3 rfl ?_
        obtain rfl := Option.some.inj h
        exact g_iret (pc := 43) hX hR d_Jo_numberOf_43
      · refine g_aload_n (pc := 22) hX d_Jo_numberOf_22 rfl 0 rfl ?_
        refine g_iload (pc := 23) hX d_Jo_numberOf_23 4 rfl ?_
        refine g_iload_n (pc := 25) hX d_Jo_numberOf_25 rfl 1 rfl ?_
        refine g_iload_n (pc := 26) hX d_Jo_numberOf_26 rfl 2 rfl ?_
        obtain ⟨o3, e3, h⟩ := zbind h
        refine g_cvI (pc := 27) (w1 := []) (w2 := []) (st := []) (w' := (zwJ c q x)) hX zk_Jo_tells zs_Jo_tells zL_Jo_23 (c_Jo_tells c q x l4 l1 l2 e3) rfl rfl rfl rfl (zself _) (zself _).symm 0 4 rfl rfl rfl d_Jo_numberOf_27 ?_
        refine g_if_eq (pc := 30) (tgt := 36) hX d_Jo_numberOf_30 (by decide) h (fun c4 h => ?_) (fun c4 h => ?_)
        · refine g_iinc (pc := 36) (q := 4) (L' := [(4, .int ((l4 + (1 : Int32)))), (0, .ref ((q 0))), (1, .int l1), (2, .int l2), (3, .int l3)]) hX d_Jo_numberOf_36 rfl zc_1 rfl rfl ?_
          refine g_goto (pc := 39) (tgt := 5) hX d_Jo_numberOf_39 (by decide) ?_
          refine g_ls (L' := [(0, .ref ((q 0))), (1, .int l1), (2, .int l2), (3, .int l3), (4, .int ((l4 + (1 : Int32))))]) [1, 2, 3, 4, 0] rfl ?_
          exact ih _ _ h
        · refine g_iinc (pc := 33) (q := 3) (L' := [(3, .int ((l3 + (1 : Int32)))), (0, .ref ((q 0))), (1, .int l1), (2, .int l2), (4, .int l4)]) hX d_Jo_numberOf_33 rfl zc_1 rfl rfl ?_
          refine g_iinc (pc := 36) (q := 4) (L' := [(4, .int ((l4 + (1 : Int32)))), (3, .int ((l3 + (1 : Int32)))), (0, .ref ((q 0))), (1, .int l1), (2, .int l2)]) hX d_Jo_numberOf_36 rfl zc_1 rfl rfl ?_
          refine g_goto (pc := 39) (tgt := 5) hX d_Jo_numberOf_39 (by decide) ?_
          refine g_ls (L' := [(0, .ref ((q 0))), (1, .int l1), (2, .int l2), (3, .int ((l3 + (1 : Int32)))), (4, .int ((l4 + (1 : Int32))))]) [2, 3, 4, 1, 0] rfl ?_
          exact ih _ _ h
def k_Jo_numberOf (x : zsT) (l1 : Int32) (l2 : Int32) : Option (Int32) := k_Jo_numberOf_5 x l1 l2 zFu ((0 : Int32)) ((0 : Int32))
set_option maxRecDepth 20000 in
theorem c_Jo_numberOf (c : zY) (q : Nat → Nat) (x : zsT) (l1 : Int32) (l2 : Int32) {out : Int32} (h : k_Jo_numberOf x l1 l2 = some out) : KM zy_Jo_numberOf zb_Jo_numberOf 5 (some .int) 2 c [.ref ((q 0)), .int l1, .int l2] (zwJ c q x) (zwJ c q x) (some (.int out)) := zK_of zp_Jo rfl (Nat.le_of_ble_eq_true rfl) (zq_Jo c q _ _) (fun X hX hR => by
  show Go X (zwJ c q x) [(0, .ref ((q 0))), (1, .int l1), (2, .int l2)] 0 []
  rw [k_Jo_numberOf] at h
  refine g_iconst (pc := 0) hX d_Jo_numberOf_0 zc_0 ?_
  refine g_istore_n (pc := 1) (L' := [(3, .int ((0 : Int32))), (0, .ref ((q 0))), (1, .int l1), (2, .int l2)]) hX d_Jo_numberOf_1 rfl rfl rfl ?_
  refine g_iconst (pc := 2) hX d_Jo_numberOf_2 zc_0 ?_
  refine g_istore (pc := 3) (L' := [(4, .int ((0 : Int32))), (3, .int ((0 : Int32))), (0, .ref ((q 0))), (1, .int l1), (2, .int l2)]) hX d_Jo_numberOf_3 rfl rfl ?_
  refine g_ls (L' := [(0, .ref ((q 0))), (1, .int l1), (2, .int l2), (3, .int ((0 : Int32))), (4, .int ((0 : Int32)))]) [2, 3, 4, 1, 0] rfl ?_
  exact w_Jo_numberOf_5 hX hR _ _ _ h)
theorem d_Jo_sumOf_0 : decode zb_Jo_sumOf 0 = .ok (.iconst 0, 1) := by decide +kernel
theorem d_Jo_sumOf_1 : decode zb_Jo_sumOf 1 = .ok (.istore_n 3, 1) := by decide +kernel
theorem d_Jo_sumOf_2 : decode zb_Jo_sumOf 2 = .ok (.iconst 0, 1) := by decide +kernel
theorem d_Jo_sumOf_3 : decode zb_Jo_sumOf 3 = .ok (.istore 4, 2) := by decide +kernel
theorem d_Jo_sumOf_5 : decode zb_Jo_sumOf 5 = .ok (.iload 4, 2) := by decide +kernel
theorem d_Jo_sumOf_7 : decode zb_Jo_sumOf 7 = .ok (.aload_n 0, 1) := by decide +kernel
theorem d_Jo_sumOf_8 : decode zb_Jo_sumOf 8 = .ok (.getfield 15, 3) := by decide +kernel
theorem d_Jo_sumOf_11 : decode zb_Jo_sumOf 11 = .ok (.if_icmp .ge 38, 3) := by decide +kernel
theorem d_Jo_sumOf_14 : decode zb_Jo_sumOf 14 = .ok (.iload 4, 2) := by decide +kernel
theorem d_Jo_sumOf_16 : decode zb_Jo_sumOf 16 = .ok (.sipush 300, 3) := by decide +kernel
theorem d_Jo_sumOf_19 : decode zb_Jo_sumOf 19 = .ok (.if_icmp .ge 30, 3) := by decide +kernel
theorem d_Jo_sumOf_22 : decode zb_Jo_sumOf 22 = .ok (.aload_n 0, 1) := by decide +kernel
theorem d_Jo_sumOf_23 : decode zb_Jo_sumOf 23 = .ok (.iload 4, 2) := by decide +kernel
theorem d_Jo_sumOf_25 : decode zb_Jo_sumOf 25 = .ok (.iload_n 1, 1) := by decide +kernel
theorem d_Jo_sumOf_26 : decode zb_Jo_sumOf 26 = .ok (.iload_n 2, 1) := by decide +kernel
theorem d_Jo_sumOf_27 : decode zb_Jo_sumOf 27 = .ok (.invokevirtual 23, 3) := by decide +kernel
theorem d_Jo_sumOf_30 : decode zb_Jo_sumOf 30 = .ok (.ifCond .eq 13, 3) := by decide +kernel
theorem d_Jo_sumOf_33 : decode zb_Jo_sumOf 33 = .ok (.iload_n 3, 1) := by decide +kernel
theorem d_Jo_sumOf_34 : decode zb_Jo_sumOf 34 = .ok (.aload_n 0, 1) := by decide +kernel
theorem d_Jo_sumOf_35 : decode zb_Jo_sumOf 35 = .ok (.iload 4, 2) := by decide +kernel
theorem d_Jo_sumOf_37 : decode zb_Jo_sumOf 37 = .ok (.iconst 2, 1) := by decide +kernel
theorem d_Jo_sumOf_38 : decode zb_Jo_sumOf 38 = .ok (.invokevirtual 19, 3) := by decide +kernel
theorem d_Jo_sumOf_41 : decode zb_Jo_sumOf 41 = .ok (.iadd, 1) := by decide +kernel
theorem d_Jo_sumOf_42 : decode zb_Jo_sumOf 42 = .ok (.istore_n 3, 1) := by decide +kernel
theorem d_Jo_sumOf_43 : decode zb_Jo_sumOf 43 = .ok (.iinc 4 1, 3) := by decide +kernel
theorem d_Jo_sumOf_46 : decode zb_Jo_sumOf 46 = .ok (.goto (-41), 3) := by decide +kernel
theorem d_Jo_sumOf_49 : decode zb_Jo_sumOf 49 = .ok (.iload_n 3, 1) := by decide +kernel
theorem d_Jo_sumOf_50 : decode zb_Jo_sumOf 50 = .ok (.ireturn, 1) := by decide +kernel
def k_Jo_sumOf_5 (x : zsT) (l1 : Int32) (l2 : Int32) : Nat → Int32 → Int32 → Option (Int32)
  | 0, _, _ => none
  | fu + 1, l3, l4 => (if l4 < x.2 then (if l4 < (300 : Int32) then (k_Jo_tells x l4 l1 l2).bind fun o3 => (if o3 = 0 then k_Jo_sumOf_5 x l1 l2 fu l3 ((l4 + (1 : Int32))) else (k_Jo_at x l4 ((2 : Int32))).bind fun o5 => k_Jo_sumOf_5 x l1 l2 fu ((l3 + o5)) ((l4 + (1 : Int32)))) else some l3) else some l3)
set_option maxRecDepth 20000 in
theorem w_Jo_sumOf_5 {X : zX} {c : zY} {q : Nat → Nat} {x : zsT} {l1 : Int32} {l2 : Int32} {out : Int32} (hX : Ok X zr_Jo zb_Jo_sumOf 5 2 c) (hR : Rt X (some .int) (some (.int out)) (zwJ c q x)) : ∀ (fu : Nat) (l3 : Int32) (l4 : Int32), k_Jo_sumOf_5 x l1 l2 fu l3 l4 = some out → Go X (zwJ c q x) [(0, .ref ((q 0))), (1, .int l1), (2, .int l2), (3, .int l3), (4, .int l4)] 5 [] := by
  intro fu
  induction fu with
  | zero => intro l3 l4 h; rw [k_Jo_sumOf_5] at h; cases h
  | succ fu ih =>
    intro l3 l4 h
    rw [k_Jo_sumOf_5] at h
    refine g_iload (pc := 5) hX d_Jo_sumOf_5 4 rfl ?_
    refine g_aload_n (pc := 7) hX d_Jo_sumOf_7 rfl 0 rfl ?_
    refine gf_Jo_15 (pc := 8) (v := .int x.2) hX 0 rfl rfl d_Jo_sumOf_8 ?_
    refine g_icmp_ge (pc := 11) (tgt := 49) hX d_Jo_sumOf_11 (by decide) h (fun c1 h => ?_) (fun c1 h => ?_)
    · refine g_iload_n (pc := 49) hX d_Jo_sumOf_49 rfl 3 rfl ?_
      obtain rfl := Option.some.inj h
      exact g_iret (pc := 50) hX hR d_Jo_sumOf_50
    · refine g_iload (pc := 14) hX d_Jo_sumOf_14 4 rfl ?_
      refine g_sipush (pc := 16) hX d_Jo_sumOf_16 zh_300 ?_
      refine g_icmp_ge (pc := 19) (tgt := 49) hX d_Jo_sumOf_19 (by decide) h (fun c2 h => ?_) (fun c2 h => ?_)
      · refine g_iload_n (pc := 49) hX d_Jo_sumOf_49 rfl 3 rfl ?_
        obtain rfl := Option.some.inj h
        exact g_iret (pc := 50) hX hR d_Jo_sumOf_50
      · refine g_aload_n (pc := 22) hX d_Jo_sumOf_22 rfl 0 rfl ?_
        refine g_iload (pc := 23) hX d_Jo_sumOf_23 4 rfl ?_
        refine g_iload_n (pc := 25) hX d_Jo_sumOf_25 rfl 1 rfl ?_
        refine g_iload_n (pc := 26) hX d_Jo_sumOf_26 rfl 2 rfl ?_
        obtain ⟨o3, e3, h⟩ := zbind h
        refine g_cvI (pc := 27) (w1 := []) (w2 := []) (st := []) (w' := (zwJ c q x)) hX zk_Jo_tells zs_Jo_tells zL_Jo_23 (c_Jo_tells c q x l4 l1 l2 e3) rfl rfl rfl rfl (zself _) (zself _).symm 0 4 rfl rfl rfl d_Jo_sumOf_27 ?_
        refine g_if_eq (pc := 30) (tgt := 43) hX d_Jo_sumOf_30 (by decide) h (fun c4 h => ?_) (fun c4 h => ?_)
        · refine g_iinc (pc := 43) (q := 4) (L' := [(4, .int ((l4 + (1 : Int32)))), (0, .ref ((q 0))), (1, .int l1), (2, .int l2), (3, .int l3)]) hX d_Jo_sumOf_43 rfl zc_1 rfl rfl ?_
          refine g_goto (pc := 46) (tgt := 5) hX d_Jo_sumOf_46 (by decide) ?_
          refine g_ls (L' := [(0, .ref ((q 0))), (1, .int l1), (2, .int l2), (3, .int l3), (4, .int ((l4 + (1 : Int32))))]) [1, 2, 3, 4, 0] rfl ?_
          exact ih _ _ h
        · refine g_iload_n (pc := 33) hX d_Jo_sumOf_33 rfl 3 rfl ?_
          refine g_aload_n (pc := 34) hX d_Jo_sumOf_34 rfl 0 rfl ?_
          refine g_iload (pc := 35) hX d_Jo_sumOf_35 4 rfl ?_
          refine g_iconst (pc := 37) hX d_Jo_sumOf_37 zc_2 ?_
          obtain ⟨o5, e5, h⟩ := zbind h
          refine g_cvI (pc := 38) (w1 := []) (w2 := []) (st := [.int l3]) (w' := (zwJ c q x)) hX zk_Jo_at zs_Jo_at zL_Jo_19 (c_Jo_at c q x l4 ((2 : Int32)) e5) rfl rfl rfl rfl (zself _) (zself _).symm 0 4 rfl rfl rfl d_Jo_sumOf_38 ?_
          refine g_iadd (pc := 41) hX d_Jo_sumOf_41 ?_
          refine g_istore_n (pc := 42) (L' := [(3, .int ((l3 + o5))), (0, .ref ((q 0))), (1, .int l1), (2, .int l2), (4, .int l4)]) hX d_Jo_sumOf_42 rfl rfl rfl ?_
          refine g_iinc (pc := 43) (q := 4) (L' := [(4, .int ((l4 + (1 : Int32)))), (3, .int ((l3 + o5))), (0, .ref ((q 0))), (1, .int l1), (2, .int l2)]) hX d_Jo_sumOf_43 rfl zc_1 rfl rfl ?_
          refine g_goto (pc := 46) (tgt := 5) hX d_Jo_sumOf_46 (by decide) ?_
          refine g_ls (L' := [(0, .ref ((q 0))), (1, .int l1), (2, .int l2), (3, .int ((l3 + o5))), (4, .int ((l4 + (1 : Int32))))]) [2, 3, 4, 1, 0] rfl ?_
          exact ih _ _ h
def k_Jo_sumOf (x : zsT) (l1 : Int32) (l2 : Int32) : Option (Int32) := k_Jo_sumOf_5 x l1 l2 zFu ((0 : Int32)) ((0 : Int32))
set_option maxRecDepth 20000 in
theorem c_Jo_sumOf (c : zY) (q : Nat → Nat) (x : zsT) (l1 : Int32) (l2 : Int32) {out : Int32} (h : k_Jo_sumOf x l1 l2 = some out) : KM zy_Jo_sumOf zb_Jo_sumOf 5 (some .int) 2 c [.ref ((q 0)), .int l1, .int l2] (zwJ c q x) (zwJ c q x) (some (.int out)) := zK_of zp_Jo rfl (Nat.le_of_ble_eq_true rfl) (zq_Jo c q _ _) (fun X hX hR => by
  show Go X (zwJ c q x) [(0, .ref ((q 0))), (1, .int l1), (2, .int l2)] 0 []
  rw [k_Jo_sumOf] at h
  refine g_iconst (pc := 0) hX d_Jo_sumOf_0 zc_0 ?_
  refine g_istore_n (pc := 1) (L' := [(3, .int ((0 : Int32))), (0, .ref ((q 0))), (1, .int l1), (2, .int l2)]) hX d_Jo_sumOf_1 rfl rfl rfl ?_
  refine g_iconst (pc := 2) hX d_Jo_sumOf_2 zc_0 ?_
  refine g_istore (pc := 3) (L' := [(4, .int ((0 : Int32))), (3, .int ((0 : Int32))), (0, .ref ((q 0))), (1, .int l1), (2, .int l2)]) hX d_Jo_sumOf_3 rfl rfl ?_
  refine g_ls (L' := [(0, .ref ((q 0))), (1, .int l1), (2, .int l2), (3, .int ((0 : Int32))), (4, .int ((0 : Int32)))]) [2, 3, 4, 1, 0] rfl ?_
  exact w_Jo_sumOf_5 hX hR _ _ _ h)
theorem d_Jo_sumOfAmounts_0 : decode zb_Jo_sumOfAmounts 0 = .ok (.iconst 0, 1) := by decide +kernel
theorem d_Jo_sumOfAmounts_1 : decode zb_Jo_sumOfAmounts 1 = .ok (.istore_n 3, 1) := by decide +kernel
theorem d_Jo_sumOfAmounts_2 : decode zb_Jo_sumOfAmounts 2 = .ok (.iconst 0, 1) := by decide +kernel
theorem d_Jo_sumOfAmounts_3 : decode zb_Jo_sumOfAmounts 3 = .ok (.istore 4, 2) := by decide +kernel
theorem d_Jo_sumOfAmounts_5 : decode zb_Jo_sumOfAmounts 5 = .ok (.iload 4, 2) := by decide +kernel
theorem d_Jo_sumOfAmounts_7 : decode zb_Jo_sumOfAmounts 7 = .ok (.aload_n 0, 1) := by decide +kernel
theorem d_Jo_sumOfAmounts_8 : decode zb_Jo_sumOfAmounts 8 = .ok (.getfield 15, 3) := by decide +kernel
theorem d_Jo_sumOfAmounts_11 : decode zb_Jo_sumOfAmounts 11 = .ok (.if_icmp .ge 41, 3) := by decide +kernel
theorem d_Jo_sumOfAmounts_14 : decode zb_Jo_sumOfAmounts 14 = .ok (.iload 4, 2) := by decide +kernel
theorem d_Jo_sumOfAmounts_16 : decode zb_Jo_sumOfAmounts 16 = .ok (.sipush 300, 3) := by decide +kernel
theorem d_Jo_sumOfAmounts_19 : decode zb_Jo_sumOfAmounts 19 = .ok (.if_icmp .ge 33, 3) := by decide +kernel
theorem d_Jo_sumOfAmounts_22 : decode zb_Jo_sumOfAmounts 22 = .ok (.aload_n 0, 1) := by decide +kernel
theorem d_Jo_sumOfAmounts_23 : decode zb_Jo_sumOfAmounts 23 = .ok (.iload 4, 2) := by decide +kernel
theorem d_Jo_sumOfAmounts_25 : decode zb_Jo_sumOfAmounts 25 = .ok (.iload_n 1, 1) := by decide +kernel
theorem d_Jo_sumOfAmounts_26 : decode zb_Jo_sumOfAmounts 26 = .ok (.iload_n 2, 1) := by decide +kernel
theorem d_Jo_sumOfAmounts_27 : decode zb_Jo_sumOfAmounts 27 = .ok (.invokevirtual 23, 3) := by decide +kernel
theorem d_Jo_sumOfAmounts_30 : decode zb_Jo_sumOfAmounts 30 = .ok (.ifCond .eq 16, 3) := by decide +kernel
theorem d_Jo_sumOfAmounts_33 : decode zb_Jo_sumOfAmounts 33 = .ok (.iload_n 3, 1) := by decide +kernel
theorem d_Jo_sumOfAmounts_34 : decode zb_Jo_sumOfAmounts 34 = .ok (.aload_n 0, 1) := by decide +kernel
theorem d_Jo_sumOfAmounts_35 : decode zb_Jo_sumOfAmounts 35 = .ok (.iload 4, 2) := by decide +kernel
theorem d_Jo_sumOfAmounts_37 : decode zb_Jo_sumOfAmounts 37 = .ok (.iconst 2, 1) := by decide +kernel
theorem d_Jo_sumOfAmounts_38 : decode zb_Jo_sumOfAmounts 38 = .ok (.invokevirtual 19, 3) := by decide +kernel
theorem d_Jo_sumOfAmounts_41 : decode zb_Jo_sumOfAmounts 41 = .ok (.bipush 10, 2) := by decide +kernel
theorem d_Jo_sumOfAmounts_43 : decode zb_Jo_sumOfAmounts 43 = .ok (.irem, 1) := by decide +kernel
theorem d_Jo_sumOfAmounts_44 : decode zb_Jo_sumOfAmounts 44 = .ok (.iadd, 1) := by decide +kernel
theorem d_Jo_sumOfAmounts_45 : decode zb_Jo_sumOfAmounts 45 = .ok (.istore_n 3, 1) := by decide +kernel
theorem d_Jo_sumOfAmounts_46 : decode zb_Jo_sumOfAmounts 46 = .ok (.iinc 4 1, 3) := by decide +kernel
theorem d_Jo_sumOfAmounts_49 : decode zb_Jo_sumOfAmounts 49 = .ok (.goto (-44), 3) := by decide +kernel
theorem d_Jo_sumOfAmounts_52 : decode zb_Jo_sumOfAmounts 52 = .ok (.iload_n 3, 1) := by decide +kernel
theorem d_Jo_sumOfAmounts_53 : decode zb_Jo_sumOfAmounts 53 = .ok (.ireturn, 1) := by decide +kernel
def k_Jo_sumOfAmounts_5 (x : zsT) (l1 : Int32) (l2 : Int32) : Nat → Int32 → Int32 → Option (Int32)
  | 0, _, _ => none
  | fu + 1, l3, l4 => (if l4 < x.2 then (if l4 < (300 : Int32) then (k_Jo_tells x l4 l1 l2).bind fun o3 => (if o3 = 0 then k_Jo_sumOfAmounts_5 x l1 l2 fu l3 ((l4 + (1 : Int32))) else (k_Jo_at x l4 ((2 : Int32))).bind fun o5 => k_Jo_sumOfAmounts_5 x l1 l2 fu ((l3 + (zrem o5 (10 : Int32)))) ((l4 + (1 : Int32)))) else some l3) else some l3)
set_option maxRecDepth 20000 in
theorem w_Jo_sumOfAmounts_5 {X : zX} {c : zY} {q : Nat → Nat} {x : zsT} {l1 : Int32} {l2 : Int32} {out : Int32} (hX : Ok X zr_Jo zb_Jo_sumOfAmounts 5 2 c) (hR : Rt X (some .int) (some (.int out)) (zwJ c q x)) : ∀ (fu : Nat) (l3 : Int32) (l4 : Int32), k_Jo_sumOfAmounts_5 x l1 l2 fu l3 l4 = some out → Go X (zwJ c q x) [(0, .ref ((q 0))), (1, .int l1), (2, .int l2), (3, .int l3), (4, .int l4)] 5 [] := by
  intro fu
  induction fu with
  | zero => intro l3 l4 h; rw [k_Jo_sumOfAmounts_5] at h; cases h
  | succ fu ih =>
    intro l3 l4 h
    rw [k_Jo_sumOfAmounts_5] at h
    refine g_iload (pc := 5) hX d_Jo_sumOfAmounts_5 4 rfl ?_
    refine g_aload_n (pc := 7) hX d_Jo_sumOfAmounts_7 rfl 0 rfl ?_
    refine gf_Jo_15 (pc := 8) (v := .int x.2) hX 0 rfl rfl d_Jo_sumOfAmounts_8 ?_
    refine g_icmp_ge (pc := 11) (tgt := 52) hX d_Jo_sumOfAmounts_11 (by decide) h (fun c1 h => ?_) (fun c1 h => ?_)
    · refine g_iload_n (pc := 52) hX d_Jo_sumOfAmounts_52 rfl 3 rfl ?_
      obtain rfl := Option.some.inj h
      exact g_iret (pc := 53) hX hR d_Jo_sumOfAmounts_53
    · refine g_iload (pc := 14) hX d_Jo_sumOfAmounts_14 4 rfl ?_
      refine g_sipush (pc := 16) hX d_Jo_sumOfAmounts_16 zh_300 ?_
      refine g_icmp_ge (pc := 19) (tgt := 52) hX d_Jo_sumOfAmounts_19 (by decide) h (fun c2 h => ?_) (fun c2 h => ?_)
      · refine g_iload_n (pc := 52) hX d_Jo_sumOfAmounts_52 rfl 3 rfl ?_
        obtain rfl := Option.some.inj h
        exact g_iret (pc := 53) hX hR d_Jo_sumOfAmounts_53
      · refine g_aload_n (pc := 22) hX d_Jo_sumOfAmounts_22 rfl 0 rfl ?_
        refine g_iload (pc := 23) hX d_Jo_sumOfAmounts_23 4 rfl ?_
        refine g_iload_n (pc := 25) hX d_Jo_sumOfAmounts_25 rfl 1 rfl ?_
        refine g_iload_n (pc := 26) hX d_Jo_sumOfAmounts_26 rfl 2 rfl ?_
        obtain ⟨o3, e3, h⟩ := zbind h
        refine g_cvI (pc := 27) (w1 := []) (w2 := []) (st := []) (w' := (zwJ c q x)) hX zk_Jo_tells zs_Jo_tells zL_Jo_23 (c_Jo_tells c q x l4 l1 l2 e3) rfl rfl rfl rfl (zself _) (zself _).symm 0 4 rfl rfl rfl d_Jo_sumOfAmounts_27 ?_
        refine g_if_eq (pc := 30) (tgt := 46) hX d_Jo_sumOfAmounts_30 (by decide) h (fun c4 h => ?_) (fun c4 h => ?_)
        · refine g_iinc (pc := 46) (q := 4) (L' := [(4, .int ((l4 + (1 : Int32)))), (0, .ref ((q 0))), (1, .int l1), (2, .int l2), (3, .int l3)]) hX d_Jo_sumOfAmounts_46 rfl zc_1 rfl rfl ?_
          refine g_goto (pc := 49) (tgt := 5) hX d_Jo_sumOfAmounts_49 (by decide) ?_
          refine g_ls (L' := [(0, .ref ((q 0))), (1, .int l1), (2, .int l2), (3, .int l3), (4, .int ((l4 + (1 : Int32))))]) [1, 2, 3, 4, 0] rfl ?_
          exact ih _ _ h
        · refine g_iload_n (pc := 33) hX d_Jo_sumOfAmounts_33 rfl 3 rfl ?_
          refine g_aload_n (pc := 34) hX d_Jo_sumOfAmounts_34 rfl 0 rfl ?_
          refine g_iload (pc := 35) hX d_Jo_sumOfAmounts_35 4 rfl ?_
          refine g_iconst (pc := 37) hX d_Jo_sumOfAmounts_37 zc_2 ?_
          obtain ⟨o5, e5, h⟩ := zbind h
          refine g_cvI (pc := 38) (w1 := []) (w2 := []) (st := [.int l3]) (w' := (zwJ c q x)) hX zk_Jo_at zs_Jo_at zL_Jo_19 (c_Jo_at c q x l4 ((2 : Int32)) e5) rfl rfl rfl rfl (zself _) (zself _).symm 0 4 rfl rfl rfl d_Jo_sumOfAmounts_38 ?_
          refine g_bipush (pc := 41) hX d_Jo_sumOfAmounts_41 ze_10 ?_
          refine g_irem (pc := 43) hX d_Jo_sumOfAmounts_43 (by decide) ?_
          refine g_iadd (pc := 44) hX d_Jo_sumOfAmounts_44 ?_
          refine g_istore_n (pc := 45) (L' := [(3, .int ((l3 + (zrem o5 (10 : Int32))))), (0, .ref ((q 0))), (1, .int l1), (2, .int l2), (4, .int l4)]) hX d_Jo_sumOfAmounts_45 rfl rfl rfl ?_
          refine g_iinc (pc := 46) (q := 4) (L' := [(4, .int ((l4 + (1 : Int32)))), (3, .int ((l3 + (zrem o5 (10 : Int32))))), (0, .ref ((q 0))), (1, .int l1), (2, .int l2)]) hX d_Jo_sumOfAmounts_46 rfl zc_1 rfl rfl ?_
          refine g_goto (pc := 49) (tgt := 5) hX d_Jo_sumOfAmounts_49 (by decide) ?_
          refine g_ls (L' := [(0, .ref ((q 0))), (1, .int l1), (2, .int l2), (3, .int ((l3 + (zrem o5 (10 : Int32))))), (4, .int ((l4 + (1 : Int32))))]) [2, 3, 4, 1, 0] rfl ?_
          exact ih _ _ h
def k_Jo_sumOfAmounts (x : zsT) (l1 : Int32) (l2 : Int32) : Option (Int32) := k_Jo_sumOfAmounts_5 x l1 l2 zFu ((0 : Int32)) ((0 : Int32))
set_option maxRecDepth 20000 in
theorem c_Jo_sumOfAmounts (c : zY) (q : Nat → Nat) (x : zsT) (l1 : Int32) (l2 : Int32) {out : Int32} (h : k_Jo_sumOfAmounts x l1 l2 = some out) : KM zy_Jo_sumOfAmounts zb_Jo_sumOfAmounts 5 (some .int) 2 c [.ref ((q 0)), .int l1, .int l2] (zwJ c q x) (zwJ c q x) (some (.int out)) := zK_of zp_Jo rfl (Nat.le_of_ble_eq_true rfl) (zq_Jo c q _ _) (fun X hX hR => by
  show Go X (zwJ c q x) [(0, .ref ((q 0))), (1, .int l1), (2, .int l2)] 0 []
  rw [k_Jo_sumOfAmounts] at h
  refine g_iconst (pc := 0) hX d_Jo_sumOfAmounts_0 zc_0 ?_
  refine g_istore_n (pc := 1) (L' := [(3, .int ((0 : Int32))), (0, .ref ((q 0))), (1, .int l1), (2, .int l2)]) hX d_Jo_sumOfAmounts_1 rfl rfl rfl ?_
  refine g_iconst (pc := 2) hX d_Jo_sumOfAmounts_2 zc_0 ?_
  refine g_istore (pc := 3) (L' := [(4, .int ((0 : Int32))), (3, .int ((0 : Int32))), (0, .ref ((q 0))), (1, .int l1), (2, .int l2)]) hX d_Jo_sumOfAmounts_3 rfl rfl ?_
  refine g_ls (L' := [(0, .ref ((q 0))), (1, .int l1), (2, .int l2), (3, .int ((0 : Int32))), (4, .int ((0 : Int32)))]) [2, 3, 4, 1, 0] rfl ?_
  exact w_Jo_sumOfAmounts_5 hX hR _ _ _ h)
theorem d_Jo_lifeOf_0 : decode zb_Jo_lifeOf 0 = .ok (.aload_n 0, 1) := by decide +kernel
theorem d_Jo_lifeOf_1 : decode zb_Jo_lifeOf 1 = .ok (.iconst 0, 1) := by decide +kernel
theorem d_Jo_lifeOf_2 : decode zb_Jo_lifeOf 2 = .ok (.iload_n 1, 1) := by decide +kernel
theorem d_Jo_lifeOf_3 : decode zb_Jo_lifeOf 3 = .ok (.invokevirtual 27, 3) := by decide +kernel
theorem d_Jo_lifeOf_6 : decode zb_Jo_lifeOf 6 = .ok (.aload_n 0, 1) := by decide +kernel
theorem d_Jo_lifeOf_7 : decode zb_Jo_lifeOf 7 = .ok (.iconst 1, 1) := by decide +kernel
theorem d_Jo_lifeOf_8 : decode zb_Jo_lifeOf 8 = .ok (.iload_n 1, 1) := by decide +kernel
theorem d_Jo_lifeOf_9 : decode zb_Jo_lifeOf 9 = .ok (.invokevirtual 27, 3) := by decide +kernel
theorem d_Jo_lifeOf_12 : decode zb_Jo_lifeOf 12 = .ok (.isub, 1) := by decide +kernel
theorem d_Jo_lifeOf_13 : decode zb_Jo_lifeOf 13 = .ok (.aload_n 0, 1) := by decide +kernel
theorem d_Jo_lifeOf_14 : decode zb_Jo_lifeOf 14 = .ok (.iconst 2, 1) := by decide +kernel
theorem d_Jo_lifeOf_15 : decode zb_Jo_lifeOf 15 = .ok (.iload_n 1, 1) := by decide +kernel
theorem d_Jo_lifeOf_16 : decode zb_Jo_lifeOf 16 = .ok (.invokevirtual 27, 3) := by decide +kernel
theorem d_Jo_lifeOf_19 : decode zb_Jo_lifeOf 19 = .ok (.iadd, 1) := by decide +kernel
theorem d_Jo_lifeOf_20 : decode zb_Jo_lifeOf 20 = .ok (.ireturn, 1) := by decide +kernel
def k_Jo_lifeOf (x : zsT) (l1 : Int32) : Option (Int32) := (k_Jo_sumOf x ((0 : Int32)) l1).bind fun o1 => (k_Jo_sumOf x ((1 : Int32)) l1).bind fun o2 => (k_Jo_sumOf x ((2 : Int32)) l1).bind fun o3 => some (((o1 - o2) + o3))
set_option maxRecDepth 20000 in
theorem c_Jo_lifeOf (c : zY) (q : Nat → Nat) (x : zsT) (l1 : Int32) {out : Int32} (h : k_Jo_lifeOf x l1 = some out) : KM zy_Jo_lifeOf zb_Jo_lifeOf 2 (some .int) 3 c [.ref ((q 0)), .int l1] (zwJ c q x) (zwJ c q x) (some (.int out)) := zK_of zp_Jo rfl (Nat.le_of_ble_eq_true rfl) (zq_Jo c q _ _) (fun X hX hR => by
  show Go X (zwJ c q x) [(0, .ref ((q 0))), (1, .int l1)] 0 []
  rw [k_Jo_lifeOf] at h
  refine g_aload_n (pc := 0) hX d_Jo_lifeOf_0 rfl 0 rfl ?_
  refine g_iconst (pc := 1) hX d_Jo_lifeOf_1 zc_0 ?_
  refine g_iload_n (pc := 2) hX d_Jo_lifeOf_2 rfl 1 rfl ?_
  obtain ⟨o1, e1, h⟩ := zbind h
  refine g_cvI (pc := 3) (w1 := []) (w2 := []) (st := []) (w' := (zwJ c q x)) hX zk_Jo_sumOf zs_Jo_sumOf zL_Jo_27 (c_Jo_sumOf c q x ((0 : Int32)) l1 e1) rfl rfl rfl rfl (zself _) (zself _).symm 0 4 rfl rfl rfl d_Jo_lifeOf_3 ?_
  refine g_aload_n (pc := 6) hX d_Jo_lifeOf_6 rfl 0 rfl ?_
  refine g_iconst (pc := 7) hX d_Jo_lifeOf_7 zc_1 ?_
  refine g_iload_n (pc := 8) hX d_Jo_lifeOf_8 rfl 1 rfl ?_
  obtain ⟨o2, e2, h⟩ := zbind h
  refine g_cvI (pc := 9) (w1 := []) (w2 := []) (st := [.int o1]) (w' := (zwJ c q x)) hX zk_Jo_sumOf zs_Jo_sumOf zL_Jo_27 (c_Jo_sumOf c q x ((1 : Int32)) l1 e2) rfl rfl rfl rfl (zself _) (zself _).symm 0 4 rfl rfl rfl d_Jo_lifeOf_9 ?_
  refine g_isub (pc := 12) hX d_Jo_lifeOf_12 ?_
  refine g_aload_n (pc := 13) hX d_Jo_lifeOf_13 rfl 0 rfl ?_
  refine g_iconst (pc := 14) hX d_Jo_lifeOf_14 zc_2 ?_
  refine g_iload_n (pc := 15) hX d_Jo_lifeOf_15 rfl 1 rfl ?_
  obtain ⟨o3, e3, h⟩ := zbind h
  refine g_cvI (pc := 16) (w1 := []) (w2 := []) (st := [.int ((o1 - o2))]) (w' := (zwJ c q x)) hX zk_Jo_sumOf zs_Jo_sumOf zL_Jo_27 (c_Jo_sumOf c q x ((2 : Int32)) l1 e3) rfl rfl rfl rfl (zself _) (zself _).symm 0 4 rfl rfl rfl d_Jo_lifeOf_16 ?_
  refine g_iadd (pc := 19) hX d_Jo_lifeOf_19 ?_
  obtain rfl := Option.some.inj h
  exact g_iret (pc := 20) hX hR d_Jo_lifeOf_20)
theorem d_Jo_spentBy_0 : decode zb_Jo_spentBy 0 = .ok (.aload_n 0, 1) := by decide +kernel
theorem d_Jo_spentBy_1 : decode zb_Jo_spentBy 1 = .ok (.iconst 5, 1) := by decide +kernel
theorem d_Jo_spentBy_2 : decode zb_Jo_spentBy 2 = .ok (.iload_n 1, 1) := by decide +kernel
theorem d_Jo_spentBy_3 : decode zb_Jo_spentBy 3 = .ok (.invokevirtual 30, 3) := by decide +kernel
theorem d_Jo_spentBy_6 : decode zb_Jo_spentBy 6 = .ok (.aload_n 0, 1) := by decide +kernel
theorem d_Jo_spentBy_7 : decode zb_Jo_spentBy 7 = .ok (.bipush 6, 2) := by decide +kernel
theorem d_Jo_spentBy_9 : decode zb_Jo_spentBy 9 = .ok (.iload_n 1, 1) := by decide +kernel
theorem d_Jo_spentBy_10 : decode zb_Jo_spentBy 10 = .ok (.invokevirtual 30, 3) := by decide +kernel
theorem d_Jo_spentBy_13 : decode zb_Jo_spentBy 13 = .ok (.isub, 1) := by decide +kernel
theorem d_Jo_spentBy_14 : decode zb_Jo_spentBy 14 = .ok (.ireturn, 1) := by decide +kernel
def k_Jo_spentBy (x : zsT) (l1 : Int32) : Option (Int32) := (k_Jo_sumOfAmounts x ((5 : Int32)) l1).bind fun o1 => (k_Jo_sumOfAmounts x ((6 : Int32)) l1).bind fun o2 => some ((o1 - o2))
set_option maxRecDepth 20000 in
theorem c_Jo_spentBy (c : zY) (q : Nat → Nat) (x : zsT) (l1 : Int32) {out : Int32} (h : k_Jo_spentBy x l1 = some out) : KM zy_Jo_spentBy zb_Jo_spentBy 2 (some .int) 3 c [.ref ((q 0)), .int l1] (zwJ c q x) (zwJ c q x) (some (.int out)) := zK_of zp_Jo rfl (Nat.le_of_ble_eq_true rfl) (zq_Jo c q _ _) (fun X hX hR => by
  show Go X (zwJ c q x) [(0, .ref ((q 0))), (1, .int l1)] 0 []
  rw [k_Jo_spentBy] at h
  refine g_aload_n (pc := 0) hX d_Jo_spentBy_0 rfl 0 rfl ?_
  refine g_iconst (pc := 1) hX d_Jo_spentBy_1 zc_5 ?_
  refine g_iload_n (pc := 2) hX d_Jo_spentBy_2 rfl 1 rfl ?_
  obtain ⟨o1, e1, h⟩ := zbind h
  refine g_cvI (pc := 3) (w1 := []) (w2 := []) (st := []) (w' := (zwJ c q x)) hX zk_Jo_sumOfAmounts zs_Jo_sumOfAmounts zL_Jo_30 (c_Jo_sumOfAmounts c q x ((5 : Int32)) l1 e1) rfl rfl rfl rfl (zself _) (zself _).symm 0 4 rfl rfl rfl d_Jo_spentBy_3 ?_
  refine g_aload_n (pc := 6) hX d_Jo_spentBy_6 rfl 0 rfl ?_
  refine g_bipush (pc := 7) hX d_Jo_spentBy_7 ze_6 ?_
  refine g_iload_n (pc := 9) hX d_Jo_spentBy_9 rfl 1 rfl ?_
  obtain ⟨o2, e2, h⟩ := zbind h
  refine g_cvI (pc := 10) (w1 := []) (w2 := []) (st := [.int o1]) (w' := (zwJ c q x)) hX zk_Jo_sumOfAmounts zs_Jo_sumOfAmounts zL_Jo_30 (c_Jo_sumOfAmounts c q x ((6 : Int32)) l1 e2) rfl rfl rfl rfl (zself _) (zself _).symm 0 4 rfl rfl rfl d_Jo_spentBy_10 ?_
  refine g_isub (pc := 13) hX d_Jo_spentBy_13 ?_
  obtain rfl := Option.some.inj h
  exact g_iret (pc := 14) hX hR d_Jo_spentBy_14)
theorem d_Jo_latestMoveOf_0 : decode zb_Jo_latestMoveOf 0 = .ok (.bipush (-5), 2) := by decide +kernel
theorem d_Jo_latestMoveOf_2 : decode zb_Jo_latestMoveOf 2 = .ok (.istore_n 2, 1) := by decide +kernel
theorem d_Jo_latestMoveOf_3 : decode zb_Jo_latestMoveOf 3 = .ok (.iconst 0, 1) := by decide +kernel
theorem d_Jo_latestMoveOf_4 : decode zb_Jo_latestMoveOf 4 = .ok (.istore_n 3, 1) := by decide +kernel
theorem d_Jo_latestMoveOf_5 : decode zb_Jo_latestMoveOf 5 = .ok (.iload_n 3, 1) := by decide +kernel
theorem d_Jo_latestMoveOf_6 : decode zb_Jo_latestMoveOf 6 = .ok (.aload_n 0, 1) := by decide +kernel
theorem d_Jo_latestMoveOf_7 : decode zb_Jo_latestMoveOf 7 = .ok (.getfield 15, 3) := by decide +kernel
theorem d_Jo_latestMoveOf_10 : decode zb_Jo_latestMoveOf 10 = .ok (.if_icmp .ge 34, 3) := by decide +kernel
theorem d_Jo_latestMoveOf_13 : decode zb_Jo_latestMoveOf 13 = .ok (.iload_n 3, 1) := by decide +kernel
theorem d_Jo_latestMoveOf_14 : decode zb_Jo_latestMoveOf 14 = .ok (.sipush 300, 3) := by decide +kernel
theorem d_Jo_latestMoveOf_17 : decode zb_Jo_latestMoveOf 17 = .ok (.if_icmp .ge 27, 3) := by decide +kernel
theorem d_Jo_latestMoveOf_20 : decode zb_Jo_latestMoveOf 20 = .ok (.aload_n 0, 1) := by decide +kernel
theorem d_Jo_latestMoveOf_21 : decode zb_Jo_latestMoveOf 21 = .ok (.iload_n 3, 1) := by decide +kernel
theorem d_Jo_latestMoveOf_22 : decode zb_Jo_latestMoveOf 22 = .ok (.bipush 7, 2) := by decide +kernel
theorem d_Jo_latestMoveOf_24 : decode zb_Jo_latestMoveOf 24 = .ok (.iload_n 1, 1) := by decide +kernel
theorem d_Jo_latestMoveOf_25 : decode zb_Jo_latestMoveOf 25 = .ok (.invokevirtual 23, 3) := by decide +kernel
theorem d_Jo_latestMoveOf_28 : decode zb_Jo_latestMoveOf 28 = .ok (.ifCond .eq 10, 3) := by decide +kernel
theorem d_Jo_latestMoveOf_31 : decode zb_Jo_latestMoveOf 31 = .ok (.aload_n 0, 1) := by decide +kernel
theorem d_Jo_latestMoveOf_32 : decode zb_Jo_latestMoveOf 32 = .ok (.iload_n 3, 1) := by decide +kernel
theorem d_Jo_latestMoveOf_33 : decode zb_Jo_latestMoveOf 33 = .ok (.iconst 2, 1) := by decide +kernel
theorem d_Jo_latestMoveOf_34 : decode zb_Jo_latestMoveOf 34 = .ok (.invokevirtual 19, 3) := by decide +kernel
theorem d_Jo_latestMoveOf_37 : decode zb_Jo_latestMoveOf 37 = .ok (.istore_n 2, 1) := by decide +kernel
theorem d_Jo_latestMoveOf_38 : decode zb_Jo_latestMoveOf 38 = .ok (.iinc 3 1, 3) := by decide +kernel
theorem d_Jo_latestMoveOf_41 : decode zb_Jo_latestMoveOf 41 = .ok (.goto (-36), 3) := by decide +kernel
theorem d_Jo_latestMoveOf_44 : decode zb_Jo_latestMoveOf 44 = .ok (.iload_n 2, 1) := by decide +kernel
theorem d_Jo_latestMoveOf_45 : decode zb_Jo_latestMoveOf 45 = .ok (.ireturn, 1) := by decide +kernel
def k_Jo_latestMoveOf_5 (x : zsT) (l1 : Int32) : Nat → Int32 → Int32 → Option (Int32)
  | 0, _, _ => none
  | fu + 1, l2, l3 => (if l3 < x.2 then (if l3 < (300 : Int32) then (k_Jo_tells x l3 ((7 : Int32)) l1).bind fun o3 => (if o3 = 0 then k_Jo_latestMoveOf_5 x l1 fu l2 ((l3 + (1 : Int32))) else (k_Jo_at x l3 ((2 : Int32))).bind fun o5 => k_Jo_latestMoveOf_5 x l1 fu o5 ((l3 + (1 : Int32)))) else some l2) else some l2)
set_option maxRecDepth 20000 in
theorem w_Jo_latestMoveOf_5 {X : zX} {c : zY} {q : Nat → Nat} {x : zsT} {l1 : Int32} {out : Int32} (hX : Ok X zr_Jo zb_Jo_latestMoveOf 4 2 c) (hR : Rt X (some .int) (some (.int out)) (zwJ c q x)) : ∀ (fu : Nat) (l2 : Int32) (l3 : Int32), k_Jo_latestMoveOf_5 x l1 fu l2 l3 = some out → Go X (zwJ c q x) [(0, .ref ((q 0))), (1, .int l1), (2, .int l2), (3, .int l3)] 5 [] := by
  intro fu
  induction fu with
  | zero => intro l2 l3 h; rw [k_Jo_latestMoveOf_5] at h; cases h
  | succ fu ih =>
    intro l2 l3 h
    rw [k_Jo_latestMoveOf_5] at h
    refine g_iload_n (pc := 5) hX d_Jo_latestMoveOf_5 rfl 3 rfl ?_
    refine g_aload_n (pc := 6) hX d_Jo_latestMoveOf_6 rfl 0 rfl ?_
    refine gf_Jo_15 (pc := 7) (v := .int x.2) hX 0 rfl rfl d_Jo_latestMoveOf_7 ?_
    refine g_icmp_ge (pc := 10) (tgt := 44) hX d_Jo_latestMoveOf_10 (by decide) h (fun c1 h => ?_) (fun c1 h => ?_)
    · refine g_iload_n (pc := 44) hX d_Jo_latestMoveOf_44 rfl 2 rfl ?_
      obtain rfl := Option.some.inj h
      exact g_iret (pc := 45) hX hR d_Jo_latestMoveOf_45
    · refine g_iload_n (pc := 13) hX d_Jo_latestMoveOf_13 rfl 3 rfl ?_
      refine g_sipush (pc := 14) hX d_Jo_latestMoveOf_14 zh_300 ?_
      refine g_icmp_ge (pc := 17) (tgt := 44) hX d_Jo_latestMoveOf_17 (by decide) h (fun c2 h => ?_) (fun c2 h => ?_)
      · refine g_iload_n (pc := 44) hX d_Jo_latestMoveOf_44 rfl 2 rfl ?_
        obtain rfl := Option.some.inj h
        exact g_iret (pc := 45) hX hR d_Jo_latestMoveOf_45
      · refine g_aload_n (pc := 20) hX d_Jo_latestMoveOf_20 rfl 0 rfl ?_
        refine g_iload_n (pc := 21) hX d_Jo_latestMoveOf_21 rfl 3 rfl ?_
        refine g_bipush (pc := 22) hX d_Jo_latestMoveOf_22 ze_7 ?_
        refine g_iload_n (pc := 24) hX d_Jo_latestMoveOf_24 rfl 1 rfl ?_
        obtain ⟨o3, e3, h⟩ := zbind h
        refine g_cvI (pc := 25) (w1 := []) (w2 := []) (st := []) (w' := (zwJ c q x)) hX zk_Jo_tells zs_Jo_tells zL_Jo_23 (c_Jo_tells c q x l3 ((7 : Int32)) l1 e3) rfl rfl rfl rfl (zself _) (zself _).symm 0 4 rfl rfl rfl d_Jo_latestMoveOf_25 ?_
        refine g_if_eq (pc := 28) (tgt := 38) hX d_Jo_latestMoveOf_28 (by decide) h (fun c4 h => ?_) (fun c4 h => ?_)
        · refine g_iinc (pc := 38) (q := 3) (L' := [(3, .int ((l3 + (1 : Int32)))), (0, .ref ((q 0))), (1, .int l1), (2, .int l2)]) hX d_Jo_latestMoveOf_38 rfl zc_1 rfl rfl ?_
          refine g_goto (pc := 41) (tgt := 5) hX d_Jo_latestMoveOf_41 (by decide) ?_
          refine g_ls (L' := [(0, .ref ((q 0))), (1, .int l1), (2, .int l2), (3, .int ((l3 + (1 : Int32))))]) [1, 2, 3, 0] rfl ?_
          exact ih _ _ h
        · refine g_aload_n (pc := 31) hX d_Jo_latestMoveOf_31 rfl 0 rfl ?_
          refine g_iload_n (pc := 32) hX d_Jo_latestMoveOf_32 rfl 3 rfl ?_
          refine g_iconst (pc := 33) hX d_Jo_latestMoveOf_33 zc_2 ?_
          obtain ⟨o5, e5, h⟩ := zbind h
          refine g_cvI (pc := 34) (w1 := []) (w2 := []) (st := []) (w' := (zwJ c q x)) hX zk_Jo_at zs_Jo_at zL_Jo_19 (c_Jo_at c q x l3 ((2 : Int32)) e5) rfl rfl rfl rfl (zself _) (zself _).symm 0 4 rfl rfl rfl d_Jo_latestMoveOf_34 ?_
          refine g_istore_n (pc := 37) (L' := [(2, .int o5), (0, .ref ((q 0))), (1, .int l1), (3, .int l3)]) hX d_Jo_latestMoveOf_37 rfl rfl rfl ?_
          refine g_iinc (pc := 38) (q := 3) (L' := [(3, .int ((l3 + (1 : Int32)))), (2, .int o5), (0, .ref ((q 0))), (1, .int l1)]) hX d_Jo_latestMoveOf_38 rfl zc_1 rfl rfl ?_
          refine g_goto (pc := 41) (tgt := 5) hX d_Jo_latestMoveOf_41 (by decide) ?_
          refine g_ls (L' := [(0, .ref ((q 0))), (1, .int l1), (2, .int o5), (3, .int ((l3 + (1 : Int32))))]) [2, 3, 1, 0] rfl ?_
          exact ih _ _ h
def k_Jo_latestMoveOf (x : zsT) (l1 : Int32) : Option (Int32) := k_Jo_latestMoveOf_5 x l1 zFu ((-5 : Int32)) ((0 : Int32))
set_option maxRecDepth 20000 in
theorem c_Jo_latestMoveOf (c : zY) (q : Nat → Nat) (x : zsT) (l1 : Int32) {out : Int32} (h : k_Jo_latestMoveOf x l1 = some out) : KM zy_Jo_latestMoveOf zb_Jo_latestMoveOf 4 (some .int) 2 c [.ref ((q 0)), .int l1] (zwJ c q x) (zwJ c q x) (some (.int out)) := zK_of zp_Jo rfl (Nat.le_of_ble_eq_true rfl) (zq_Jo c q _ _) (fun X hX hR => by
  show Go X (zwJ c q x) [(0, .ref ((q 0))), (1, .int l1)] 0 []
  rw [k_Jo_latestMoveOf] at h
  refine g_bipush (pc := 0) hX d_Jo_latestMoveOf_0 ze_m5 ?_
  refine g_istore_n (pc := 2) (L' := [(2, .int ((-5 : Int32))), (0, .ref ((q 0))), (1, .int l1)]) hX d_Jo_latestMoveOf_2 rfl rfl rfl ?_
  refine g_iconst (pc := 3) hX d_Jo_latestMoveOf_3 zc_0 ?_
  refine g_istore_n (pc := 4) (L' := [(3, .int ((0 : Int32))), (2, .int ((-5 : Int32))), (0, .ref ((q 0))), (1, .int l1)]) hX d_Jo_latestMoveOf_4 rfl rfl rfl ?_
  refine g_ls (L' := [(0, .ref ((q 0))), (1, .int l1), (2, .int ((-5 : Int32))), (3, .int ((0 : Int32)))]) [2, 3, 1, 0] rfl ?_
  exact w_Jo_latestMoveOf_5 hX hR _ _ _ h)
